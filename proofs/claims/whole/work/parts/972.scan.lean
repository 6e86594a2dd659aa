-- THE TEXT: tokens; the class's scan
def nv (B : Nat → Nat) (i : Nat) : Nat → Nat
  | 0 => 0
  | k + 1 => 10 * nv B i k + (B (i + k) - 48)
def tkE (B : Nat → Nat) (n b : Nat) : Nat := if n ≤ b then b else if isL (B b) then rn isL B n b else if isD (B b) then rn isD B n b else b + 1
def tkK (B : Nat → Nat) (n b : Nat) : Nat := if n ≤ b then 0 else if isL (B b) then (if 8 < rn isL B n b - b then 1 else if wk (rl B b (rn isL B n b - b)) < 22 then 13 + wk (rl B b (rn isL B n b - b)) else 2) else if isD (B b) then (if 4 < rn isD B n b - b then 1 else 3) else (if sgT.idxOf (B b) < 9 then 4 + sgT.idxOf (B b) else 1)
def bg (B : Nat → Nat) (n : Nat) : Nat → Nat
  | 0 => rn isBk B n 0
  | r + 1 => rn isBk B n (tkE B n (bg B n r))
def TB (B : Nat → Nat) (n : Nat) : Prop := n ≤ 2000 ∧ ∀ j, j < n → B j < 256
theorem rn_ok {P : Nat → Bool} {B : Nat → Nat} {n i : Nat} (hn : n ≤ 2000) : i ≤ rn P B n i ∧ (i ≤ n → rn P B n i ≤ n) ∧ (∀ j, i ≤ j → j < rn P B n i → j < n ∧ P (B j) = true) ∧ (rn P B n i < n → P (B (rn P B n i)) = false) := run_ok (by omega)
theorem tkE_le {B : Nat → Nat} {n b : Nat} (hn : n ≤ 2000) (hb : b ≤ n) : b ≤ tkE B n b ∧ tkE B n b ≤ n := by
  unfold tkE
  have h1 := rn_ok (P := isL) (B := B) (i := b) hn
  have h2 := rn_ok (P := isD) (B := B) (i := b) hn
  split
  · omega
  · split
    · exact ⟨h1.1, h1.2.1 hb⟩
    · split
      · exact ⟨h2.1, h2.2.1 hb⟩
      · omega
theorem bg_le {B : Nat → Nat} {n : Nat} (hn : n ≤ 2000) : ∀ r, bg B n r ≤ n
  | 0 => (rn_ok hn).2.1 (Nat.zero_le _)
  | r + 1 => (rn_ok hn).2.1 (tkE_le hn (bg_le hn r)).2
def TC (σ : Mm) (B : Nat → Nat) (n : Nat) : Prop := ∀ j, j < n → gI σ 1 j = sgn (B j)
theorem c_behind {N : Nat} (hN : 4000 ≤ N) {σ : Mm} {B : Nat → Nat} {n i : Nat} (hB : TB B n) (hT : TC σ B n) (hi : i ≤ n) : f9_behindBlanks N 1 (nI i) (nI n) σ = some (nI (rn isBk B n i), σ) := by
  obtain ⟨hn, hb⟩ := hB
  obtain ⟨a1, a2, a3, a4⟩ := rn_ok (P := isBk) (B := B) (i := i) hn
  have a2 := a2 hi
  have h : Ok (f9_behindBlanks N 1 (nI i) (nI n) σ) (fun r τ => r = nI (rn isBk B n i) ∧ τ = σ) := by
    unfold f9_behindBlanks
    refine Ok.lpf (fun fu (_ : Unit) j τ => f9_behindBlanks_2 N 1 (nI n) fu j τ) (rn isBk B n i) (fun j _ τ => i ≤ j ∧ τ = σ) ?_ ?_ N i () σ ⟨Nat.le_refl _, rfl⟩ a1 (by omega)
    · rintro fu j a τ hj ⟨hij, rfl⟩ kk
      obtain ⟨j1, j2⟩ := a3 j hij hj
      show Ok (f9_behindBlanks_2 N 1 (nI n) (fu + 1) (nI j) τ) _
      rw [f9_behindBlanks_2, ixn (by omega), hT j j1, c_isBlank (hb j j1), z_b_some, j2]
      refine Ok.f (nI_ngt j1 (by omega)) (Ok.f (nI_ngt (n := 2000) (by omega) (by decide)) (Ok.c (inBn (by omega) (by decide)) (Ok.f (by decide) ?_)))
      rw [z_l_eq, nI_1]
      exact kk () _ ⟨by omega, rfl⟩
    · rintro fu a τ ⟨-, rfl⟩
      show Ok (f9_behindBlanks_2 N 1 (nI n) (fu + 1) (nI (rn isBk B n i)) τ) _
      rw [f9_behindBlanks_2]
      by_cases c : rn isBk B n i < n
      · rw [ixn (by omega), hT _ c, c_isBlank (hb _ c), z_b_some, a4 c]
        exact Ok.f (nI_ngt c (by omega)) (Ok.f (nI_ngt (n := 2000) (by omega) (by decide)) (Ok.c (inBn (by omega) (by decide)) (Ok.t rfl (Ok.ret ⟨rfl, rfl⟩))))
      · exact Ok.t (nI_le (by omega) (by omega)) (Ok.ret ⟨rfl, rfl⟩)
  obtain ⟨r, τ, e, rfl, rfl⟩ := h
  exact e
theorem lg_0 {a b : Nat} (ha : a < 2 ^ 63) (hb : b < 2 ^ 63) : (lg_cmp (lN a) (lN b) = 0) = (a = b) := by
  unfold lg_cmp
  by_cases c : a = b
  · subst c
    simp
  · rcases Nat.lt_or_gt_of_ne c with h | h
    · rw [if_neg (show ¬ lN b < lN a by rw [pk_lLT hb ha]; omega), if_neg (by rw [pk_lEQ ha hb]; exact c)]
      simp [c]
    · rw [if_pos (show lN b < lN a by rw [pk_lLT hb ha]; exact h)]
      simp [c]
theorem rf63 {b : Nat} {l : List Nat} (hb : b ≤ 32) (hl : ∀ d ∈ l, d < b) (h8 : l.length ≤ 8) : rf b l < 2 ^ 63 := by
  have h1 := rf_le hl
  have h2 : b ^ l.length ≤ 32 ^ l.length := Nat.pow_le_pow_left hb _
  have h3 : 32 ^ l.length ≤ 32 ^ 8 := Nat.pow_le_pow_right (by decide) h8
  have : (32 : Nat) ^ 8 < 2 ^ 63 := by decide
  omega
theorem wl_27 {k : Nat} (hk : k < 22) : ∀ d ∈ wl k, d < 27 := fun d hd => ((wl_ok k hk).1 d hd).2
theorem w_eq {b : Nat} {l : List Nat} {k : Nat} (hb1 : 27 ≤ b) (hb2 : b ≤ 32) (hl : ∀ d ∈ l, 1 ≤ d ∧ d < 27) (h8 : l.length ≤ 8) (hk : k < 22) : (lg_cmp (lN (rf b (wl k))) (lN (rf b l)) = 0) = (wl k = l) := by
  have hw := wl_ok k hk
  rw [lg_0 (rf63 hb2 (fun d hd => by have := (hw.1 d hd).2; omega) (by omega)) (rf63 hb2 (fun d hd => by have := (hl d hd).2; omega) h8)]
  exact propext ⟨fun h => rf_inj (fun d hd => ⟨(hw.1 d hd).1, by have := (hw.1 d hd).2; omega⟩) (fun d hd => ⟨(hl d hd).1, by have := (hl d hd).2; omega⟩) h, fun h => by rw [h]⟩
theorem rl_len {B : Nat → Nat} {i : Nat} : ∀ k, (rl B i k).length = k
  | 0 => rfl
  | k + 1 => by show (rl B i k).length + 1 = k + 1; rw [rl_len k]
theorem c_kindOfWord {N : Nat} (hN : 4000 ≤ N) {σ : Mm} (hV : V_words σ) {l : List Nat} (hl : ∀ d ∈ l, 1 ≤ d ∧ d < 27) (h8 : l.length ≤ 8) : f9_kindOfWord N (lN (rf 32 l)) σ = some (nI (if wk l < 22 then 13 + wk l else 2), σ) := by
  obtain ⟨w1, w2, w3⟩ := wk_ok l
  have h : Ok (f9_kindOfWord N (lN (rf 32 l)) σ) (fun r τ => r = nI (if wk l < 22 then 13 + wk l else 2) ∧ τ = σ) := by
    unfold f9_kindOfWord
    refine Ok.lp (fun fu (_ : Unit) j τ => f9_kindOfWord_2 N (lN (rf 32 l)) fu j τ) 22 (fun j _ τ => (∀ k, k < j → wl k ≠ l) ∧ τ = σ) (a := ()) ⟨fun k hk => absurd hk (Nat.not_lt_zero _), rfl⟩ (by omega) ?_ ?_
    · rintro fu j a τ hj ⟨h0, rfl⟩ kk
      show Ok (f9_kindOfWord_2 N _ (fu + 1) (nI j) τ) _
      rw [f9_kindOfWord_2, ixn (by omega), (hV j hj).1]
      refine Ok.f (nI_ngt (n := 22) hj (by decide)) (Ok.c (inBn hj (by decide)) (Ok.i (fun c => ?_) (fun c => ?_)))
      · rw [w_eq (by decide) (by decide) hl h8 hj] at c
        have e : wk l = j := by
          by_cases e22 : wk l = 22
          · exact absurd c (w2 e22 j hj)
          · have hlt : wk l < 22 := by omega
            exact wl_inj _ hlt _ hj ((w1 hlt).trans c.symm)
        refine Ok.ret ⟨?_, rfl⟩
        rw [e, if_pos hj]
        exact nI_add 13 j
      · rw [w_eq (by decide) (by decide) hl h8 hj] at c
        rw [z_l_eq, nI_1]
        refine kk () _ ⟨fun k hk => ?_, rfl⟩
        by_cases e : k = j
        · rw [e]; exact c
        · exact h0 k (by omega)
    · rintro fu a τ ⟨h0, rfl⟩
      show Ok (f9_kindOfWord_2 N _ (fu + 1) (nI 22) τ) _
      rw [f9_kindOfWord_2]
      refine Ok.t nI_rf (Ok.ret ⟨?_, rfl⟩)
      have : ¬ wk l < 22 := fun hlt => h0 _ hlt (w1 hlt)
      rw [if_neg this]
      rfl
  obtain ⟨r, τ, e, rfl, rfl⟩ := h
  exact e
/-- a row of the class's text: what it holds of the token that begins at b -/
def RowC (σ : Mm) (B : Nat → Nat) (n r b : Nat) : Prop := gI σ 3 r = nI (tkK B n b) ∧ gI σ 4 r = nI b ∧ (b < n → isL (B b) = true → tkK B n b ≠ 1 → gL σ 5 r = lN (rf 32 (rl B b (rn isL B n b - b)))) ∧ (tkK B n b = 3 → gL σ 5 r = lN (nv B b (rn isD B n b - b)))
theorem gL_e {σ : Mm} {a k : Nat} {v : Int64} : gL (sL σ a k v) a k = v := by
  unfold gL sL
  simp [vp_updL]
theorem gL_k {σ : Mm} {a k j : Nat} {v : Int64} (h : j ≠ k) : gL (sL σ a k v) a j = gL σ a j := by
  unfold gL sL
  simp [vp_updL, h]
theorem c_scanLetters {N : Nat} (hN : 4000 ≤ N) {σ : Mm} {B : Nat → Nat} {n b r : Nat} (hB : TB B n) (hT : TC σ B n) (hV : V_words σ) (hb : b < n) (hL : isL (B b) = true) (hr : r < 401) : f9_scanLetters N 1 (nI b) (nI n) (nI r) σ = some (nI (rn isL B n b), sI (sL σ 5 r (lN (rf 32 (rl B b (rn isL B n b - b))))) 3 r (nI (tkK B n b))) := by
  obtain ⟨hn, hb8⟩ := hB
  obtain ⟨a1, a2, a3, a4⟩ := rn_ok (P := isL) (B := B) (i := b) hn
  have a2 := a2 (by omega)
  have hk : tkK B n b = if 8 < rn isL B n b - b then 1 else if wk (rl B b (rn isL B n b - b)) < 22 then 13 + wk (rl B b (rn isL B n b - b)) else 2 := by
    unfold tkK
    rw [if_neg (by omega), if_pos hL]
  have hV' : ∀ x, V_words (sL σ 5 r x) := fun x k hk => hV k hk
  have h46 : ∀ x : Nat, f9_scanLetters_46 N 1 (nI b) (nI r) (nI (rn isL B n b)) (lN (rf 32 (rl B b (rn isL B n b - b)))) σ = some (nI (rn isL B n b), sI (sL σ 5 r (lN (rf 32 (rl B b (rn isL B n b - b))))) 3 r (nI (tkK B n b))) := by
    intro _
    rw [f9_scanLetters_46, zc_t (inBn hr (by decide)), z_l_eq, ixn (by omega), pk_sub a1]
    by_cases c : rn isL B n b - b ≤ 8
    · rw [if_pos (show nI (rn isL B n b - b) ≤ 8 from nI_le (b := 8) c (by decide)), c_kindOfWord hN (hV' _) (rl_ok (k := rn isL B n b - b) (fun j h1 h2 => (a3 j h1 (by omega)).2)) (by rw [rl_len]; exact c), z_b_some, f9_scanLetters_80, zc_t (inBn hr (by decide)), z_l_eq, ixn (by omega), hk, if_neg (show ¬ 8 < rn isL B n b - b by omega)]
    · rw [if_neg (show ¬ nI (rn isL B n b - b) ≤ 8 from nI_ge (a := 8) (by omega) (by omega)), f9_scanLetters_80, zc_t (inBn hr (by decide)), z_l_eq, ixn (by omega), hk, if_pos (by omega)]
      rfl
  have h : Ok (f9_scanLetters N 1 (nI b) (nI n) (nI r) σ) (fun x τ => x = nI (rn isL B n b) ∧ τ = sI (sL σ 5 r (lN (rf 32 (rl B b (rn isL B n b - b))))) 3 r (nI (tkK B n b))) := by
    unfold f9_scanLetters
    refine Ok.lpf (fun fu (x : Int64) j τ => f9_scanLetters_6 N 1 (nI b) (nI n) (nI r) fu j x τ) (rn isL B n b) (fun j x τ => b ≤ j ∧ x = lN (rf 32 (rl B b (j - b))) ∧ τ = σ) ?_ ?_ N b 0 σ ⟨Nat.le_refl _, by rw [Nat.sub_self]; rfl, rfl⟩ a1 (by omega)
    · rintro fu j x τ hj ⟨hij, rfl, rfl⟩ kk
      obtain ⟨j1, j2⟩ := a3 j hij hj
      have hlet := sg_l (B j) (hb8 j j1) j2
      show Ok (f9_scanLetters_6 N 1 (nI b) (nI n) (nI r) (fu + 1) (nI j) _ τ) _
      rw [f9_scanLetters_6, ixn (by omega), hT j j1, c_isLetter (hb8 j j1), z_b_some, j2]
      refine Ok.f (nI_ngt j1 (by omega)) (Ok.f (nI_ngt (n := 2000) (by omega) (by decide)) (Ok.c (inBn (by omega) (by decide)) (Ok.f (by decide) (Ok.c (inBn (by omega) (by decide)) ?_))))
      rw [hT j j1, f9_withLetter, z_b_some, z_l_eq, nI_1, hlet.1, nI_l (by have := hb8 j j1; omega), show (32 : Int64) = lN 32 from rfl, lN_mul, lN_add]
      refine kk _ _ ⟨by omega, ?_, rfl⟩
      rw [show j + 1 - b = (j - b) + 1 by omega]
      show lN (rf 32 (rl B b (j - b)) * 32 + (B j - 96)) = lN (32 * rf 32 (rl B b (j - b)) + (B (b + (j - b)) - 96))
      rw [show b + (j - b) = j by omega, Nat.mul_comm]
    · rintro fu x τ ⟨-, rfl, rfl⟩
      show Ok (f9_scanLetters_6 N 1 (nI b) (nI n) (nI r) (fu + 1) (nI (rn isL B n b)) _ τ) _
      rw [f9_scanLetters_6]
      by_cases c : rn isL B n b < n
      · rw [ixn (by omega), hT _ c, c_isLetter (hb8 _ c), z_b_some, a4 c, h46 0]
        exact Ok.f (nI_ngt c (by omega)) (Ok.f (nI_ngt (n := 2000) (by omega) (by decide)) (Ok.c (inBn (by omega) (by decide)) (Ok.t rfl (Ok.ret ⟨rfl, rfl⟩))))
      · rw [h46 0]
        exact Ok.t (nI_le (by omega) (by omega)) (Ok.ret ⟨rfl, rfl⟩)
  obtain ⟨x, τ, e, rfl, rfl⟩ := h
  exact e
theorem c_scanDigits {N : Nat} (hN : 4000 ≤ N) {σ : Mm} {B : Nat → Nat} {n b r : Nat} (hB : TB B n) (hT : TC σ B n) (hb : b < n) (hL : isL (B b) = false) (hD : isD (B b) = true) (hr : r < 401) : f9_scanDigits N 1 (nI b) (nI n) (nI r) σ = some (nI (rn isD B n b), sI (sL σ 5 r (lN (nv B b (rn isD B n b - b)))) 3 r (nI (tkK B n b))) := by
  obtain ⟨hn, hb8⟩ := hB
  obtain ⟨a1, a2, a3, a4⟩ := rn_ok (P := isD) (B := B) (i := b) hn
  have a2 := a2 (by omega)
  have hk : tkK B n b = if 4 < rn isD B n b - b then 1 else 3 := by
    unfold tkK
    rw [if_neg (by omega), if_neg (by rw [hL]; decide), if_pos hD]
  have h52 : ∀ x : Nat, f9_scanDigits_52 N 1 (nI b) (nI r) (nI (rn isD B n b)) (lN (nv B b (rn isD B n b - b))) σ = some (nI (rn isD B n b), sI (sL σ 5 r (lN (nv B b (rn isD B n b - b)))) 3 r (nI (tkK B n b))) := by
    intro _
    rw [f9_scanDigits_52, zc_t (inBn hr (by decide)), z_l_eq, ixn (by omega), pk_sub a1]
    by_cases c : rn isD B n b - b ≤ 4
    · rw [if_pos (show nI (rn isD B n b - b) ≤ 4 from nI_le (b := 4) c (by decide)), f9_scanDigits_80, zc_t (inBn hr (by decide)), z_l_eq, ixn (by omega), hk, if_neg (show ¬ 4 < rn isD B n b - b by omega)]
      rfl
    · rw [if_neg (show ¬ nI (rn isD B n b - b) ≤ 4 from nI_ge (a := 4) (by omega) (by omega)), f9_scanDigits_80, zc_t (inBn hr (by decide)), z_l_eq, ixn (by omega), hk, if_pos (show 4 < rn isD B n b - b by omega)]
      rfl
  have h : Ok (f9_scanDigits N 1 (nI b) (nI n) (nI r) σ) (fun x τ => x = nI (rn isD B n b) ∧ τ = sI (sL σ 5 r (lN (nv B b (rn isD B n b - b)))) 3 r (nI (tkK B n b))) := by
    unfold f9_scanDigits
    refine Ok.lpf (fun fu (x : Int64) j τ => f9_scanDigits_6 N 1 (nI b) (nI n) (nI r) fu j x τ) (rn isD B n b) (fun j x τ => b ≤ j ∧ x = lN (nv B b (j - b)) ∧ τ = σ) ?_ ?_ N b 0 σ ⟨Nat.le_refl _, by rw [Nat.sub_self]; rfl, rfl⟩ a1 (by omega)
    · rintro fu j x τ hj ⟨hij, rfl, rfl⟩ kk
      obtain ⟨j1, j2⟩ := a3 j hij hj
      have hdig := sg_d (B j) (hb8 j j1) j2
      show Ok (f9_scanDigits_6 N 1 (nI b) (nI n) (nI r) (fu + 1) (nI j) _ τ) _
      rw [f9_scanDigits_6, ixn (by omega), hT j j1, c_isDigit (hb8 j j1), z_b_some, j2]
      refine Ok.f (nI_ngt j1 (by omega)) (Ok.f (nI_ngt (n := 2000) (by omega) (by decide)) (Ok.c (inBn (by omega) (by decide)) (Ok.f (by decide) (Ok.c (inBn (by omega) (by decide)) ?_))))
      rw [hT j j1, z_l_eq, z_l_eq, nI_1, hdig, nI_l (by have := hb8 j j1; omega), show (10 : Int64) = lN 10 from rfl, lN_mul, lN_add]
      refine kk _ _ ⟨by omega, ?_, rfl⟩
      rw [show j + 1 - b = (j - b) + 1 by omega]
      show lN (nv B b (j - b) * 10 + (B j - 48)) = lN (10 * nv B b (j - b) + (B (b + (j - b)) - 48))
      rw [show b + (j - b) = j by omega, Nat.mul_comm]
    · rintro fu x τ ⟨-, rfl, rfl⟩
      show Ok (f9_scanDigits_6 N 1 (nI b) (nI n) (nI r) (fu + 1) (nI (rn isD B n b)) _ τ) _
      rw [f9_scanDigits_6]
      by_cases c : rn isD B n b < n
      · rw [ixn (by omega), hT _ c, c_isDigit (hb8 _ c), z_b_some, a4 c, h52 0]
        exact Ok.f (nI_ngt c (by omega)) (Ok.f (nI_ngt (n := 2000) (by omega) (by decide)) (Ok.c (inBn (by omega) (by decide)) (Ok.t rfl (Ok.ret ⟨rfl, rfl⟩))))
      · rw [h52 0]
        exact Ok.t (nI_le (by omega) (by omega)) (Ok.ret ⟨rfl, rfl⟩)
  obtain ⟨x, τ, e, rfl, rfl⟩ := h
  exact e
/-- one token -/
theorem c_scanOne {N : Nat} (hN : 4000 ≤ N) {σ : Mm} {B : Nat → Nat} {n b r : Nat} (hB : TB B n) (hT : TC σ B n) (hV : V_words σ) (hb : b ≤ n) (hr : r < 401) : ∃ v : Int64, f9_scanOne N 1 (nI b) (nI n) (nI r) σ = some (nI (tkE B n b), sI (sL (sL σ 5 r 0) 5 r v) 3 r (nI (tkK B n b))) ∧ (isL (B b) = true → tkK B n b ≠ 1 → b < n → v = lN (rf 32 (rl B b (rn isL B n b - b)))) ∧ (tkK B n b = 3 → v = lN (nv B b (rn isD B n b - b))) := by
  obtain ⟨hn, hb8⟩ := id hB
  have hT' : TC (sL σ 5 r 0) B n := hT
  have hV' : V_words (sL σ 5 r 0) := fun k hk => hV k hk
  have self : ∀ τ : Mm, sL (sL τ 5 r 0) 5 r 0 = sL τ 5 r 0 := fun τ => by
    unfold sL
    refine Prod.ext rfl (Prod.ext ?_ rfl)
    funext a
    by_cases e : a = 5
    · subst e
      funext j
      by_cases e2 : j = r
      · simp [vp_updL, e2]
      · simp [vp_updL, e2]
    · simp [e]
  unfold f9_scanOne
  rw [zc_t (inBn hr (by decide)), z_l_eq, ixn (by omega)]
  by_cases c : n ≤ b
  · have hk : tkK B n b = 0 := by unfold tkK; rw [if_pos c]
    refine ⟨0, ?_, fun _ _ h => by omega, fun h => by rw [hk] at h; exact absurd h (by decide)⟩
    rw [if_pos (nI_le c (by omega)), f9_scanOne_19, zc_t (inBn hr (by decide)), z_l_eq, ixn (by omega), self, hk, show tkE B n b = b by unfold tkE; rw [if_pos c]]
    rfl
  · have hbn : b < n := by omega
    rw [if_neg (nI_ge hbn (by omega)), if_pos (show nI b < 2000 from nI_lt (b := 2000) (by omega) (by decide)), zc_t (inBn (by omega) (by decide)), ixn (show b < 2 ^ 31 by omega), hT' b hbn, sg_and _ (hb8 b hbn), z_l_eq, c_isLetterN (hb8 b hbn), z_b_some]
    cases hL : isL (B b)
    · rw [if_pos (show b2 false = 0 from rfl), c_isDigitN (hb8 b hbn), z_b_some]
      cases hD : isD (B b)
      · have hk : tkK B n b = if sgT.idxOf (B b) < 9 then 4 + sgT.idxOf (B b) else 1 := by
          unfold tkK
          rw [if_neg c, if_neg (by rw [hL]; decide), if_neg (by rw [hD]; decide)]
        have he : tkE B n b = b + 1 := by
          unfold tkE
          rw [if_neg c, if_neg (by rw [hL]; decide), if_neg (by rw [hD]; decide)]
        rw [if_pos (show b2 false = 0 from rfl), z_l_eq, sg_ix _ (hb8 b hbn)]
        refine ⟨0, ?_, fun h => by exact absurd h (by decide), fun h => ?_⟩
        · rw [self, hk, he]
          unfold sgI
          by_cases c9 : sgT.idxOf (B b) < 9
          · rw [if_pos c9, if_pos c9, if_pos (nI_pos' (by omega)), f9_scanOne_103, zc_t (inBn hr (by decide)), z_l_eq, ixn (by omega), nI_1, show (4 : Int32) + nI (sgT.idxOf (B b)) = nI (4 + sgT.idxOf (B b)) from nI_add 4 _]
          · rw [if_neg c9, if_neg c9, if_neg (by decide), f9_scanOne_103, zc_t (inBn hr (by decide)), z_l_eq, ixn (by omega), nI_1]
            rfl
        · rw [hk] at h
          by_cases c9 : sgT.idxOf (B b) < 9
          · rw [if_pos c9] at h; omega
          · rw [if_neg c9] at h; omega
      · rw [if_neg (show ¬ b2 true = 0 by decide), c_scanDigits hN hB hT' hbn hL hD hr, z_b_some]
        refine ⟨lN (nv B b (rn isD B n b - b)), ?_, fun h => by exact absurd h (by decide), fun _ => rfl⟩
        rw [show tkE B n b = rn isD B n b by unfold tkE; rw [if_neg c, if_neg (by rw [hL]; decide), if_pos hD]]
    · rw [if_neg (show ¬ b2 true = 0 by decide), c_scanLetters hN hB hT' hV' hbn hL hr, z_b_some]
      refine ⟨lN (rf 32 (rl B b (rn isL B n b - b))), ?_, fun _ _ _ => rfl, fun h => ?_⟩
      · rw [show tkE B n b = rn isL B n b by unfold tkE; rw [if_neg c, if_pos hL]]
      · have hk : tkK B n b = if 8 < rn isL B n b - b then 1 else if wk (rl B b (rn isL B n b - b)) < 22 then 13 + wk (rl B b (rn isL B n b - b)) else 2 := by
          unfold tkK
          rw [if_neg c, if_pos hL]
        rw [hk] at h
        split at h
        · omega
        · split at h <;> omega
def vr (B : Nat → Nat) (n r : Nat) : Prop := ∀ q, q < r → tkK B n (bg B n q) ≠ 0 ∧ tkK B n (bg B n q) ≠ 1
theorem tkK_lt {B : Nat → Nat} {n b : Nat} : tkK B n b < 35 := by
  unfold tkK
  split
  · decide
  · split
    · split
      · decide
      · split <;> omega
    · split
      · split <;> decide
      · split <;> omega
/-- the class's text is what is meant -/
theorem c_scan {N : Nat} (hN : 4000 ≤ N) {σ : Mm} {B : Nat → Nat} {n : Nat} (hB : TB B n) (hT : TC σ B n) (hV : V_words σ) : Ok (f9_scan N 1 (nI n) σ) (fun _ τ => gI τ 2 4 = 0 ∧ gI τ 2 5 = -1 ∧ ∀ r, r ≤ 400 → vr B n r → RowC τ B n r (bg B n r)) := by
  have hn := hB.1
  unfold f9_scan
  rw [z_l_eq, z_l_eq]
  refine Ok.lp (fun fu (x : Int32) j τ => f9_scan_15 N 1 (nI n) fu x j τ) 401 (fun j x τ => (∃ i, i ≤ n ∧ x = nI i ∧ rn isBk B n i = bg B n j) ∧ vr B n j ∧ gI τ 2 4 = 0 ∧ gI τ 2 5 = -1 ∧ TC τ B n ∧ V_words τ ∧ ∀ r, r < j → RowC τ B n r (bg B n r)) ⟨⟨0, Nat.zero_le _, rfl, rfl⟩, fun q hq => absurd hq (Nat.not_lt_zero _), ?_, gI_e, ?_, ?_, fun r hr => absurd hr (Nat.not_lt_zero _)⟩ (by omega) ?_ ?_
  · rw [gI_k (by decide), gI_e]
  · intro j hj
    rw [gI_o (by decide), gI_o (by decide)]; exact hT j hj
  · exact fun k hk => hV k hk
  · rintro fu r x τ hr ⟨⟨i, hi, rfl, hbg⟩, hvr, z1, z2, hTτ, hVτ, hrows⟩ kk
    have hble := bg_le (B := B) hn r
    show Ok (f9_scan_15 N 1 (nI n) (fu + 1) _ (nI r) τ) _
    rw [f9_scan_15, c_behind hN hB hTτ hi, z_b_some, hbg]
    refine Ok.f (nI_ngt (n := 401) hr (by decide)) (Ok.c (inBn hr (by decide)) (Ok.l ?_))
    rw [ixn (by omega)]
    have hT4 : TC (sI τ 4 r (nI (bg B n r))) B n := fun j hj => by rw [gI_o (by decide)]; exact hTτ j hj
    have hV4 : V_words (sI τ 4 r (nI (bg B n r))) := fun k hk => hVτ k hk
    obtain ⟨v, e, v1, v2⟩ := c_scanOne hN (σ := sI τ 4 r (nI (bg B n r))) hB hT4 hV4 hble hr
    rw [e, z_b_some, gI_e]
    have hkl := tkK_lt (B := B) (n := n) (b := bg B n r)
    -- the row is right, the others stay
    have hrow : ∀ q, q < r + 1 → RowC (sI (sL (sL (sI τ 4 r (nI (bg B n r))) 5 r 0) 5 r v) 3 r (nI (tkK B n (bg B n r)))) B n q (bg B n q) := by
      intro q hq
      by_cases c : q = r
      · subst c
        refine ⟨gI_e, ?_, fun h0 h1 h2 => gL_e.trans (v1 h1 h2 h0), fun h1 => gL_e.trans (v2 h1)⟩
        rw [gI_o (by decide)]
        show gI (sI τ 4 q (nI (bg B n q))) 4 q = _
        exact gI_e
      · obtain ⟨k1, k2, k3, k4⟩ := hrows q (by omega)
        refine ⟨?_, ?_, fun h0 h1 h2 => ?_, fun h1 => ?_⟩
        · rw [gI_k c]
          show gI (sI τ 4 r (nI (bg B n r))) 3 q = _
          rw [gI_o (by decide)]; exact k1
        · rw [gI_o (by decide)]
          show gI (sI τ 4 r (nI (bg B n r))) 4 q = _
          rw [gI_k c]; exact k2
        · exact ((gL_k c).trans (gL_k c)).trans (k3 h0 h1 h2)
        · exact ((gL_k c).trans (gL_k c)).trans (k4 h1)
    have hz1 : gI (sI (sL (sL (sI τ 4 r (nI (bg B n r))) 5 r 0) 5 r v) 3 r (nI (tkK B n (bg B n r)))) 2 4 = 0 := by
      rw [gI_o (by decide)]
      show gI (sI τ 4 r (nI (bg B n r))) 2 4 = _
      rw [gI_o (by decide)]; exact z1
    have hz2 : gI (sI (sL (sL (sI τ 4 r (nI (bg B n r))) 5 r 0) 5 r v) 3 r (nI (tkK B n (bg B n r)))) 2 5 = -1 := by
      rw [gI_o (by decide)]
      show gI (sI τ 4 r (nI (bg B n r))) 2 5 = _
      rw [gI_o (by decide)]; exact z2
    have stop : (tkK B n (bg B n r) = 0 ∨ tkK B n (bg B n r) = 1) → Ok (some ((), sI (sL (sL (sI τ 4 r (nI (bg B n r))) 5 r 0) 5 r v) 3 r (nI (tkK B n (bg B n r))))) (fun _ τ => gI τ 2 4 = 0 ∧ gI τ 2 5 = -1 ∧ ∀ r, r ≤ 400 → vr B n r → RowC τ B n r (bg B n r)) := fun hst => Ok.ret ⟨hz1, hz2, fun q _ hq => by
      by_cases c : q < r + 1
      · exact hrow q c
      · have := hq r (by omega)
        omega⟩
    refine Ok.c (inBn hr (by decide)) (Ok.i (fun c0 => ?_) (fun c0 => Ok.c (inBn hr (by decide)) (Ok.i (fun c1 => ?_) (fun c1 => ?_))))
    · have c0 : nI (tkK B n (bg B n r)) = nI 0 := c0
      rw [nI_eq (by omega) (by decide)] at c0
      exact stop (Or.inl c0)
    · have c1 : nI (tkK B n (bg B n r)) = nI 1 := c1
      rw [nI_eq (by omega) (by decide)] at c1
      exact stop (Or.inr c1)
    · have c0 : ¬ nI (tkK B n (bg B n r)) = nI 0 := c0
      have c1 : ¬ nI (tkK B n (bg B n r)) = nI 1 := c1
      rw [nI_eq (by omega) (by decide)] at c0 c1
      rw [z_l_eq, nI_1]
      refine kk _ _ ⟨⟨tkE B n (bg B n r), (tkE_le hn hble).2, rfl, rfl⟩, fun q hq => ?_, hz1, hz2, fun j hj => ?_, fun k hk => hVτ k hk, hrow⟩
      · by_cases e : q = r
        · rw [e]; exact ⟨c0, c1⟩
        · exact hvr q (by omega)
      · rw [gI_o (by decide)]
        show gI (sI τ 4 r (nI (bg B n r))) 1 j = _
        rw [gI_o (by decide)]; exact hTτ j hj
  · rintro fu x τ ⟨-, hvr, z1, z2, hTτ, hVτ, hrows⟩
    show Ok (f9_scan_15 N 1 (nI n) (fu + 1) _ (nI 401) τ) _
    rw [f9_scan_15]
    exact Ok.t nI_rf (Ok.ret ⟨z1, z2, fun r hr _ => hrows r (by omega)⟩)
