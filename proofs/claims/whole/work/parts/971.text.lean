-- THE TEXT: bytes, runs, words
def sgn (b : Nat) : Int32 := (nI b).toInt8.toInt32
def isL (b : Nat) : Bool := decide (97 ≤ b) && decide (b ≤ 122)
def isD (b : Nat) : Bool := decide (48 ≤ b) && decide (b ≤ 57)
def isBk (b : Nat) : Bool := b == 32 || b == 9 || b == 10 || b == 13
def sgT : List Nat := [59, 61, 43, 45, 42, 47, 60, 40, 41]
def sgI (b : Nat) : Int32 := if sgT.idxOf b < 9 then nI (sgT.idxOf b) else -1
theorem sg_and : ∀ b, b < 256 → sgn b &&& 255 = nI b := by decide +kernel
theorem sg_lt : ∀ b, b < 256 → ((sgn b < 97) = (b < 97 ∨ 128 ≤ b)) ∧ ((122 < sgn b) = (122 < b ∧ b < 128)) := by
  have h : ∀ b, b < 256 → (decide (sgn b < 97) = decide (b < 97 ∨ 128 ≤ b)) ∧ (decide (122 < sgn b) = decide (122 < b ∧ b < 128)) := by decide +kernel
  intro b hb
  exact ⟨propext (decide_eq_decide.mp (h b hb).1), propext (decide_eq_decide.mp (h b hb).2)⟩
theorem sg_lt2 : ∀ b, b < 256 → ((sgn b < 48) = (b < 48 ∨ 128 ≤ b)) ∧ ((57 < sgn b) = (57 < b ∧ b < 128)) := by
  have h : ∀ b, b < 256 → (decide (sgn b < 48) = decide (b < 48 ∨ 128 ≤ b)) ∧ (decide (57 < sgn b) = decide (57 < b ∧ b < 128)) := by decide +kernel
  intro b hb
  exact ⟨propext (decide_eq_decide.mp (h b hb).1), propext (decide_eq_decide.mp (h b hb).2)⟩
theorem sg_eq : ∀ b, b < 256 → ∀ c, c < 64 → (sgn b = nI c) = (b = c) := by
  have h : ∀ b, b < 256 → ∀ c, c < 64 → decide (sgn b = nI c) = decide (b = c) := by decide +kernel
  exact fun b hb c hc => propext (decide_eq_decide.mp (h b hb c hc))
theorem sg_nar : ∀ b, b < 256 → vp_nar .byte (sgn b) = sgn b := by decide +kernel
theorem sg_ix : ∀ b, b < 256 → sIx ((nI b).toUInt32 % 65536).toInt32 = sgI b := by decide +kernel
theorem sg_l : ∀ b, b < 256 → isL b = true → (sgn b - 97 + 1 : Int32) = nI (b - 96) ∧ (nI b - 97 + 1 : Int32) = nI (b - 96) := by decide +kernel
theorem sg_d : ∀ b, b < 256 → isD b = true → (sgn b - 48 : Int32) = nI (b - 48) := by decide +kernel
theorem c_isLetter {N b : Nat} (hb : b < 256) {σ : Mm} : f9_isLetter N (sgn b) σ = some (b2 (isL b), σ) := by
  have h := sg_lt b hb
  unfold f9_isLetter isL
  by_cases c1 : 97 ≤ b
  · by_cases c2 : b ≤ 122
    · rw [if_neg (by rw [h.1]; omega), if_neg (by rw [h.2]; omega), decide_eq_true c1, decide_eq_true c2]; rfl
    · rw [decide_eq_true c1, decide_eq_false c2]
      by_cases c3 : b < 128
      · rw [if_neg (by rw [h.1]; omega), if_pos (by rw [h.2]; omega)]; rfl
      · rw [if_pos (by rw [h.1]; omega)]; rfl
  · rw [if_pos (by rw [h.1]; omega), decide_eq_false c1]; rfl
theorem c_isLetterN {N b : Nat} (hb : b < 256) {σ : Mm} : f9_isLetter N (nI b) σ = some (b2 (isL b), σ) := by
  unfold f9_isLetter isL
  by_cases c1 : 97 ≤ b
  · rw [if_neg (show ¬ nI b < 97 from nI_nlt (b := 97) c1 (by omega)), decide_eq_true c1]
    by_cases c2 : b ≤ 122
    · rw [if_neg (show ¬ 122 < nI b from nI_nlt (a := 122) c2 (by decide)), decide_eq_true c2]; rfl
    · rw [if_pos (show (122 : Int32) < nI b from nI_lt (a := 122) (by omega) (by omega)), decide_eq_false c2]; rfl
  · rw [if_pos (show nI b < 97 from nI_lt (b := 97) (by omega) (by decide)), decide_eq_false c1]; rfl
theorem c_isDigit {N b : Nat} (hb : b < 256) {σ : Mm} : f9_isDigit N (sgn b) σ = some (b2 (isD b), σ) := by
  have h := sg_lt2 b hb
  unfold f9_isDigit isD
  by_cases c1 : 48 ≤ b
  · by_cases c2 : b ≤ 57
    · rw [if_neg (by rw [h.1]; omega), if_neg (by rw [h.2]; omega), decide_eq_true c1, decide_eq_true c2]; rfl
    · rw [decide_eq_true c1, decide_eq_false c2]
      by_cases c3 : b < 128
      · rw [if_neg (by rw [h.1]; omega), if_pos (by rw [h.2]; omega)]; rfl
      · rw [if_pos (by rw [h.1]; omega)]; rfl
  · rw [if_pos (by rw [h.1]; omega), decide_eq_false c1]; rfl
theorem c_isDigitN {N b : Nat} (hb : b < 256) {σ : Mm} : f9_isDigit N (nI b) σ = some (b2 (isD b), σ) := by
  unfold f9_isDigit isD
  by_cases c1 : 48 ≤ b
  · rw [if_neg (show ¬ nI b < 48 from nI_nlt (b := 48) c1 (by omega)), decide_eq_true c1]
    by_cases c2 : b ≤ 57
    · rw [if_neg (show ¬ 57 < nI b from nI_nlt (a := 57) c2 (by decide)), decide_eq_true c2]; rfl
    · rw [if_pos (show (57 : Int32) < nI b from nI_lt (a := 57) (by omega) (by omega)), decide_eq_false c2]; rfl
  · rw [if_pos (show nI b < 48 from nI_lt (b := 48) (by omega) (by decide)), decide_eq_false c1]; rfl
theorem r_isLetter {N b : Nat} (hb : b < 256) {σ : Mm} : f11_isLetter N (nI b) σ = some (b2 (isL b), σ) := c_isLetterN (N := N) hb
theorem r_isDigit {N b : Nat} (hb : b < 256) {σ : Mm} : f11_isDigit N (nI b) σ = some (b2 (isD b), σ) := c_isDigitN (N := N) hb
theorem c_isBlank {N b : Nat} (hb : b < 256) {σ : Mm} : f9_isBlank N (sgn b) σ = some (b2 (isBk b), σ) := by
  have e32 : (sgn b = 32) = (b = 32) := sg_eq b hb 32 (by decide)
  have e9 : (sgn b = 9) = (b = 9) := sg_eq b hb 9 (by decide)
  have e10 : (sgn b = 10) = (b = 10) := sg_eq b hb 10 (by decide)
  have e13 : (sgn b = 13) = (b = 13) := sg_eq b hb 13 (by decide)
  unfold f9_isBlank isBk
  by_cases c1 : b = 32
  · rw [if_pos (by rw [e32]; exact c1)]; simp [c1, b2]
  · by_cases c2 : b = 9
    · rw [if_neg (by rw [e32]; exact c1), if_pos (by rw [e9]; exact c2)]; simp [c2, b2]
    · by_cases c3 : b = 10
      · rw [if_neg (by rw [e32]; exact c1), if_neg (by rw [e9]; exact c2), if_pos (by rw [e10]; exact c3)]; simp [c3, b2]
      · by_cases c4 : b = 13
        · rw [if_neg (by rw [e32]; exact c1), if_neg (by rw [e9]; exact c2), if_neg (by rw [e10]; exact c3), if_pos (by rw [e13]; exact c4)]; simp [c4, b2]
        · rw [if_neg (by rw [e32]; exact c1), if_neg (by rw [e9]; exact c2), if_neg (by rw [e10]; exact c3), if_neg (by rw [e13]; exact c4)]; simp [c1, c2, c3, c4, b2]
-- runs of bytes
def run (P : Nat → Bool) (B : Nat → Nat) (n : Nat) : Nat → Nat → Nat
  | 0, i => i
  | f + 1, i => if i < n ∧ P (B i) = true then run P B n f (i + 1) else i
theorem run_ok {P : Nat → Bool} {B : Nat → Nat} {n : Nat} : ∀ {f i : Nat}, n - i ≤ f → i ≤ run P B n f i ∧ (i ≤ n → run P B n f i ≤ n) ∧ (∀ j, i ≤ j → j < run P B n f i → j < n ∧ P (B j) = true) ∧ (run P B n f i < n → P (B (run P B n f i)) = false)
  | 0, i, h => by
    refine ⟨Nat.le_refl _, fun h => h, fun j h1 h2 => ?_, fun h2 => ?_⟩
    · have : j < i := h2
      omega
    · have : i < n := h2
      omega
  | f + 1, i, h => by
    unfold run
    by_cases c : i < n ∧ P (B i) = true
    · rw [if_pos c]
      obtain ⟨a1, a2, a3, a4⟩ := run_ok (P := P) (B := B) (n := n) (f := f) (i := i + 1) (by omega)
      refine ⟨by omega, fun _ => a2 (by omega), fun j h1 h2 => ?_, a4⟩
      by_cases e : j = i
      · rw [e]; exact c
      · exact a3 j (by omega) h2
    · rw [if_neg c]
      refine ⟨Nat.le_refl _, fun h => h, fun j h1 h2 => by omega, fun h2 => ?_⟩
      cases e : P (B i)
      · rfl
      · exact absurd ⟨h2, e⟩ c
def rn (P : Nat → Bool) (B : Nat → Nat) (n i : Nat) : Nat := run P B n 2000 i
-- letters, the last one first, and the numbers made of them
def rl (B : Nat → Nat) (i : Nat) : Nat → List Nat
  | 0 => []
  | k + 1 => (B (i + k) - 96) :: rl B i k
def rf (b : Nat) : List Nat → Nat
  | [] => 0
  | d :: r => b * rf b r + d
theorem rf_inj {b : Nat} : ∀ {l m : List Nat}, (∀ d ∈ l, 1 ≤ d ∧ d < b) → (∀ d ∈ m, 1 ≤ d ∧ d < b) → rf b l = rf b m → l = m
  | [], [], _, _, _ => rfl
  | [], d :: m, _, hm, h => by
    have := hm d List.mem_cons_self
    have h : 0 = b * rf b m + d := h
    omega
  | d :: l, [], hl, _, h => by
    have := hl d List.mem_cons_self
    have h : b * rf b l + d = 0 := h
    omega
  | d :: l, e :: m, hl, hm, h => by
    have h1 := hl d List.mem_cons_self
    have h2 := hm e List.mem_cons_self
    have h : b * rf b l + d = b * rf b m + e := h
    have hd : d = e := by
      have := congrArg (fun x => x % b) h
      simpa [Nat.mul_add_mod, Nat.mod_eq_of_lt h1.2, Nat.mod_eq_of_lt h2.2] using this
    subst hd
    have hr : rf b l = rf b m := Nat.eq_of_mul_eq_mul_left (show 0 < b by omega) (by omega)
    rw [rf_inj (fun x hx => hl x (List.mem_cons_of_mem _ hx)) (fun x hx => hm x (List.mem_cons_of_mem _ hx)) hr]
theorem rl_ok {B : Nat → Nat} {i : Nat} : ∀ {k : Nat}, (∀ j, i ≤ j → j < i + k → isL (B j) = true) → ∀ d ∈ rl B i k, 1 ≤ d ∧ d < 27
  | 0, _, d, hd => by cases hd
  | k + 1, h, d, hd => by
    rcases List.mem_cons.mp hd with rfl | hd
    · have := h (i + k) (by omega) (by omega)
      unfold isL at this
      rw [Bool.and_eq_true, decide_eq_true_eq, decide_eq_true_eq] at this
      omega
    · exact rl_ok (k := k) (fun j h1 h2 => h j h1 (by omega)) d hd
theorem rf_le {b : Nat} : ∀ {l : List Nat}, (∀ d ∈ l, d < b) → rf b l < b ^ l.length
  | [], _ => Nat.one_pos
  | d :: l, h => by
    have h1 := h d List.mem_cons_self
    have h2 := rf_le (l := l) fun x hx => h x (List.mem_cons_of_mem _ hx)
    show b * rf b l + d < b ^ (l.length + 1)
    rw [Nat.pow_succ, Nat.mul_comm]
    have : (rf b l + 1) * b ≤ b ^ l.length * b := Nat.mul_le_mul_right _ h2
    rw [Nat.add_mul] at this
    omega
-- the words, their letters from the last to the first
def wlT : List (List Nat) := [[14, 15, 19, 18, 5, 16], [20, 15, 12, 16], [19, 19, 5, 14, 20, 9, 23], [7, 14, 9, 22, 9, 7], [19, 18, 1, 5, 23, 19], [19, 5, 9, 4], [19, 11, 12, 1, 23], [19, 11, 19, 1], [19, 4, 5, 5, 14], [4, 5, 5, 19], [6, 9], [14, 5, 8, 20], [5, 19, 12, 5], [5, 7, 1], [25, 18, 15, 13, 5, 13], [5, 3, 14, 9, 19], [18, 1, 5, 25], [8, 3, 9, 8, 23], [14, 5, 5, 19], [18, 1, 6], [19, 19, 15, 18, 3, 1], [14, 23, 15, 4]]
def wl (k : Nat) : List Nat := wlT.getD k []
theorem wl_ok : ∀ k, k < 22 → (∀ d ∈ wl k, 1 ≤ d ∧ d < 27) ∧ (wl k).length ≤ 7 := by decide
theorem wl_inj : ∀ k, k < 22 → ∀ j, j < 22 → wl k = wl j → k = j := by decide
def V_words (σ : Mm) : Prop := ∀ k, k < 22 → gL σ 6 k = lN (rf 32 (wl k)) ∧ gL σ 167 k = lN (rf 27 (wl k))
/-- a word's kind -/
def wix (l : List Nat) : Nat → Nat
  | 0 => 22
  | k + 1 => if wl (21 - k) = l then 21 - k else wix l k
def wk (l : List Nat) : Nat := wix l 22
theorem wix_ok {l : List Nat} : ∀ {f : Nat}, f ≤ 22 → (∀ j, j < 22 - f → wl j ≠ l) → (wix l f < 22 → wl (wix l f) = l) ∧ (wix l f = 22 → ∀ j, j < 22 → wl j ≠ l) ∧ wix l f ≤ 22
  | 0, _, h => ⟨fun h => absurd h (Nat.lt_irrefl _), fun _ => h, Nat.le_refl _⟩
  | f + 1, hf, h => by
    unfold wix
    by_cases c : wl (21 - f) = l
    · rw [if_pos c]
      exact ⟨fun _ => c, fun e => by omega, by omega⟩
    · rw [if_neg c]
      refine wix_ok (by omega) fun j hj => ?_
      by_cases e : j = 21 - f
      · rw [e]; exact c
      · exact h j (by omega)
theorem wk_ok (l : List Nat) : (wk l < 22 → wl (wk l) = l) ∧ (wk l = 22 → ∀ j, j < 22 → wl j ≠ l) ∧ wk l ≤ 22 := wix_ok (Nat.le_refl _) (fun j hj => absurd hj (by omega))
