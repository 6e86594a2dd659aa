-- RULES: a run that ends, with what holds of it
def Ok {β : Type} (y : Option (β × Mm)) (Q : β → Mm → Prop) : Prop := ∃ (r : β) (τ : Mm), y = some (r, τ) ∧ Q r τ
theorem Ok.ret {β : Type} {r : β} {σ : Mm} {Q : β → Mm → Prop} (h : Q r σ) : Ok (some (r, σ)) Q := ⟨r, σ, rfl, h⟩
theorem Ok.b {α β : Type} {x : Option (α × Mm)} {k : α → Mm → Option (β × Mm)} {P : α → Mm → Prop} {Q : β → Mm → Prop} (h : Ok x P) (hk : ∀ r τ, P r τ → Ok (k r τ) Q) : Ok (z_b x k) Q := by
  obtain ⟨r, τ, rfl, hp⟩ := h
  exact hk r τ hp
theorem Ok.l {α β : Type} {v : α} {k : α → Option (β × Mm)} {Q : β → Mm → Prop} (h : Ok (k v) Q) : Ok (z_l v k) Q := h
theorem Ok.c {β : Type} {b : Bool} {x : Option (β × Mm)} {Q : β → Mm → Prop} (hb : b = true) (h : Ok x Q) : Ok (z_c b x) Q := by
  subst hb
  exact h
theorem Ok.r {β : Type} {r : Option Nat} {t ci : Nat} {k : Nat → Option (β × Mm)} {Q : β → Mm → Prop} (e : r = some t) (hk : (kd t).1 = ci) (h : Ok (k t) Q) : Ok (z_r r ci k) Q := by
  subst e
  rw [z_r_some hk]
  exact h
theorem Ok.i {β : Type} {c : Prop} [Decidable c] {x y : Option (β × Mm)} {Q : β → Mm → Prop} (h1 : c → Ok x Q) (h2 : ¬ c → Ok y Q) : Ok (if c then x else y) Q := by
  by_cases h : c
  · rw [if_pos h]; exact h1 h
  · rw [if_neg h]; exact h2 h
theorem Ok.t {β : Type} {c : Prop} [Decidable c] {x y : Option (β × Mm)} {Q : β → Mm → Prop} (h : c) (h1 : Ok x Q) : Ok (if c then x else y) Q := by
  rw [if_pos h]; exact h1
theorem Ok.f {β : Type} {c : Prop} [Decidable c] {x y : Option (β × Mm)} {Q : β → Mm → Prop} (h : ¬ c) (h1 : Ok y Q) : Ok (if c then x else y) Q := by
  rw [if_neg h]; exact h1
theorem Ok.mono {β : Type} {y : Option (β × Mm)} {P Q : β → Mm → Prop} (h : Ok y P) (hk : ∀ r τ, P r τ → Q r τ) : Ok y Q := by
  obtain ⟨r, τ, e, hp⟩ := h
  exact ⟨r, τ, e, hk r τ hp⟩
/-- and what the run is -/
theorem Ok.run {β : Type} {y : Option (β × Mm)} {Q : β → Mm → Prop} (h : Ok y Q) : Ok y (fun r τ => Q r τ ∧ y = some (r, τ)) := by
  obtain ⟨r, τ, e, hp⟩ := h
  exact ⟨r, τ, e, hp, e⟩
/-- a loop from i0 up to n -/
theorem Ok.lpf {α β : Type} (F : Nat → α → Int32 → Mm → Option (β × Mm)) (n : Nat) (I : Nat → α → Mm → Prop) {Q : β → Mm → Prop}
    (hs : ∀ fu i a τ, i < n → I i a τ → (∀ a' τ', I (i + 1) a' τ' → Ok (F fu a' (nI (i + 1)) τ') Q) → Ok (F (fu + 1) a (nI i) τ) Q)
    (he : ∀ fu a τ, I n a τ → Ok (F (fu + 1) a (nI n) τ) Q) : ∀ (fu i : Nat) (a : α) (σ : Mm), I i a σ → i ≤ n → n - i < fu → Ok (F fu a (nI i) σ) Q
  | 0, i, a, σ, _, _, h => absurd h (Nat.not_lt_zero _)
  | fu + 1, i, a, σ, h, hi, hf => by
    by_cases c : i = n
    · subst c; exact he fu a σ h
    · exact hs fu i a σ (by omega) h fun a' τ' h' => Ok.lpf F n I hs he fu (i + 1) a' τ' h' (by omega) (by omega)
theorem Ok.lp {α β : Type} (F : Nat → α → Int32 → Mm → Option (β × Mm)) (n : Nat) (I : Nat → α → Mm → Prop) {Q : β → Mm → Prop} {fu : Nat} {a : α} {σ : Mm} (h0 : I 0 a σ) (hf : n < fu)
    (hs : ∀ fu i a τ, i < n → I i a τ → (∀ a' τ', I (i + 1) a' τ' → Ok (F fu a' (nI (i + 1)) τ') Q) → Ok (F (fu + 1) a (nI i) τ) Q)
    (he : ∀ fu a τ, I n a τ → Ok (F (fu + 1) a (nI n) τ) Q) : Ok (F fu a 0 σ) Q := Ok.lpf F n I hs he fu 0 a σ h0 (Nat.zero_le _) (by omega)
/-- what a reading call leaves: an answer, and the cells of D -/
def Rd {β : Type} (D : Wr) (σ : Mm) (v : β) : β → Mm → Prop := fun r τ => r = v ∧ EqOn D σ τ
-- numbers
theorem nI_leF {i n : Nat} (h : i < n) (hn : n < 2 ^ 31) : (nI n ≤ nI i) = False := eq_false (nI_ge h hn)
theorem nI_leT {i n : Nat} (h : i ≤ n) (hn : n < 2 ^ 31) : (nI i ≤ nI n) = True := eq_true (nI_le h hn)
theorem nI_rf {n : Nat} : nI n ≤ nI n := Int32.le_refl _
theorem nI_ngt {i n : Nat} (h : i < n) (hn : n < 2 ^ 31) : ¬ nI n ≤ nI i := nI_ge h hn
theorem inBn {i n : Nat} (h : i < n) (hn : n < 2 ^ 31) : inB (nI i) n = true := in_i0 h hn
theorem ixn {i : Nat} (h : i < 2 ^ 31) : ix (nI i) = i := nI_clamp h
theorem xor1 (x : Int32) : x ^^^ (-1 : Int32) = ~~~ x := by
  apply Int32.toBitVec_inj.mp
  rw [Int32.toBitVec_xor, Int32.toBitVec_not, show (-1 : Int32).toBitVec = BitVec.allOnes 32 from rfl, BitVec.xor_allOnes]
theorem p2_bs {i n : Nat} (h : i < n) : (2 : Nat) ^ i = bs (fun j => decide (j = i)) n := bs_ext fun j => by
  rw [Nat.testBit_two_pow]
  by_cases e : i = j
  · subst e; simp [h]
  · simp [e, Ne.symm e]
theorem gI_e {σ : Mm} {a k : Nat} {v : Int32} : gI (sI σ a k v) a k = v := by rw [gI_s, if_pos ⟨rfl, rfl⟩]
theorem gI_o {σ : Mm} {a k b j : Nat} {v : Int32} (h : b ≠ a) : gI (sI σ a k v) b j = gI σ b j := by rw [gI_s, if_neg (fun c => h c.1)]
theorem gI_k {σ : Mm} {a k j : Nat} {v : Int32} (h : j ≠ k) : gI (sI σ a k v) a j = gI σ a j := by rw [gI_s, if_neg (fun c => h c.2)]
theorem EqOn_sI {D : Wr} {σ τ : Mm} {a k : Nat} {v : Int32} (h : EqOn D σ τ) (hd : offL [(a, 1, some k)] D = true) : EqOn D σ (sI τ a k v) := h.tr (EqOn.wI hd)
/-- a write whose place is not known, in a cell outside of D -/
theorem EqOn_sIa {D : Wr} {σ τ : Mm} {a k : Nat} {v : Int32} (h : EqOn D σ τ) (hd : offL [(a, 1, none)] D = true) : EqOn D σ (sI τ a k v) := h.tr (Same.on (L := [(a, 1, none)]) (fun id j hn => by
    have : ¬ id = a := fun e => hn ⟨_, List.mem_cons_self, ⟨by subst e; exact Nat.le_refl _, by subst e; exact Nat.lt_succ_self _⟩, Or.inl rfl⟩
    exact ⟨gI_o this, rfl, rfl⟩) hd)
theorem EqOn_S {D L : Wr} {σ τ υ : Mm} (h : EqOn D σ τ) (hs : Same L τ υ) (hd : offL L D = true) : EqOn D σ υ := h.tr (hs.on hd)
def b2 (b : Bool) : Int32 := if b then 1 else 0
theorem b2_0 {b : Bool} : (b2 b = 0) = (b = false) := by cases b <;> simp [b2]
theorem b2_1 {b : Bool} : (b2 b = 1) = (b = true) := by cases b <;> simp [b2]
theorem b2_n {b : Bool} : b2 b = nI (if b then 1 else 0) := by cases b <;> rfl
/-- a number held between 0 and m -/
def hld (m : Nat) (x : Int32) : Nat := min m x.toNatClampNeg
theorem hld_le (m : Nat) (x : Int32) : hld m x ≤ m := Nat.min_le_left _ _
theorem hld_C {m : Nat} (hm : m < 2 ^ 31) (x : Int32) : mxI 0 (mnI (nI m) x) = nI (hld m x) := by
  unfold hld
  rcases Classical.em (x < 0) with h | h
  · have e : x.toNatClampNeg = 0 := by
      rw [Int32.lt_iff_toInt_lt] at h
      have : (0 : Int32).toInt = 0 := rfl
      have h2 := Int32.toNat_toInt x
      omega
    have h3 : x < nI m := by
      rw [Int32.lt_iff_toInt_lt] at *
      rw [nI_toInt hm]
      have : (0 : Int32).toInt = 0 := rfl
      omega
    have h4 : ¬ (0 : Int32) < x := by
      rw [Int32.lt_iff_toInt_lt] at *
      omega
    show (if 0 < (if x < nI m then x else nI m) then _ else _) = _
    rw [if_pos h3, if_neg h4, e, Nat.min_zero]
    rfl
  · obtain ⟨j, hj, rfl⟩ := nI_of h
    rw [nI_clamp hj]
    show (if 0 < (if nI j < nI m then nI j else nI m) then (if nI j < nI m then nI j else nI m) else 0) = _
    by_cases c : j < m
    · rw [if_pos (nI_lt c hm), Nat.min_eq_right (by omega)]
      by_cases c0 : j = 0
      · subst c0; rfl
      · rw [if_pos (show (0 : Int32) < nI j from nI_lt (a := 0) (by omega) hj)]
    · rw [if_neg (nI_nlt (by omega) hj), Nat.min_eq_left (by omega)]
      by_cases c0 : m = 0
      · subst c0; rfl
      · rw [if_pos (show (0 : Int32) < nI m from nI_lt (a := 0) (by omega) hm)]
theorem hld_M {m : Nat} (hm : m < 2 ^ 31) {N : Nat} {x : Int32} {σ : Mm} : f11_held N x 0 (nI m) σ = some (nI (hld m x), σ) := by
  unfold hld f11_held
  by_cases h : (0 : Int32) ≤ x
  · have h1 : ¬ x < 0 := by
      rw [Int32.lt_iff_toInt_lt]; rw [Int32.le_iff_toInt_le] at h; omega
    obtain ⟨j, hj, rfl⟩ := nI_of h1
    rw [if_pos h, nI_clamp hj]
    by_cases c : j ≤ m
    · rw [if_pos (nI_le c hm), Nat.min_eq_right c]
    · rw [if_neg (nI_ge (by omega) hj), Nat.min_eq_left (by omega)]
  · have e : x.toNatClampNeg = 0 := by
      rw [Int32.le_iff_toInt_le] at h
      have : (0 : Int32).toInt = 0 := rfl
      have h2 := Int32.toNat_toInt x
      omega
    rw [if_neg h, e, Nat.min_zero]
    rfl
-- the lot
def mixV (h v : Int32) : Int32 := (((h ^^^ v) * 1103515245) + 12345) ^^^ ush (((h ^^^ v) * 1103515245) + 12345) 15
def lotI (s w : Int32) : Int32 := ush (mixV (mixV s 117) w) 1 - ush (mixV (mixV s 117) w) 1 / 100 * 100
theorem lot_C {N : Nat} {s w : Int32} {σ : Mm} : f0_lotOf100 N s w σ = some (lotI s w, σ) := rfl
theorem lot_M {N : Nat} {w : Int32} {σ : Mm} : f11_lotOf N w σ = some (lotI (gI σ 160 57) w, σ) := rfl
theorem ush1 (x : Int32) : ∃ j : Nat, j < 2 ^ 31 ∧ ush x 1 = nI j := by
  have h : (ush x 1).toBitVec.toNat = x.toBitVec.toNat / 2 ^ 1 := pk_ushr x 1 1 rfl
  have hx := x.toBitVec.isLt
  refine ⟨x.toBitVec.toNat / 2, by omega, i32_ext ?_⟩
  rw [h, pk_tn (by omega)]
/-- a lot is a number below 100 -/
theorem lot_n (s w : Int32) : ∃ j : Nat, j < 100 ∧ lotI s w = nI j := by
  unfold lotI
  obtain ⟨j, hj, e⟩ := ush1 (mixV (mixV s 117) w)
  rw [e]
  refine ⟨j % 100, Nat.mod_lt _ (by decide), ?_⟩
  exact pk_rem hj (by decide) (by decide)
