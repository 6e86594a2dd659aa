-- THE TEXT: the reference's cut
def TM (σ : Mm) (B : Nat → Nat) (n : Nat) : Prop := gI σ 160 4 = nI n ∧ ∀ j, j < n → gI σ 162 j = sgn (B j)
theorem r_byteAt {N : Nat} {σ : Mm} {B : Nat → Nat} {n i : Nat} (hB : TB B n) (hT : TM σ B n) (hi : i < 2 ^ 31) : f11_byteAt N (nI i) σ = some (nI (if i < n then B i else 0), σ) := by
  have hn := hB.1
  unfold f11_byteAt
  rw [hT.1]
  by_cases c : i < n
  · rw [if_neg (nI_ge c (by omega)), zc_t (inBn (by omega) (by decide)), ixn (by omega), hT.2 i c, sg_and _ (hB.2 i c), if_pos c]
  · rw [if_pos (nI_le (by omega) hi), if_neg c]
    rfl
def km (k : Nat) : Nat := [0, 3, 1, 2, 4, 5, 8, 9, 10, 15, 13, 6, 7].getD k (k + 7)
def RowM (σ : Mm) (B : Nat → Nat) (n r b : Nat) : Prop := gI σ 163 r = nI (km (tkK B n b)) ∧ gI σ 164 r = nI b ∧ (tkK B n b = 3 → gI σ 165 r = nI (nv B b (rn isD B n b - b))) ∧ (tkK B n b = 2 → gL σ 166 r = lN (rf 27 (rl B b (rn isL B n b - b))))
/-- the row after a token is put -/
def putT (σ : Mm) (t : Nat) (k w v : Int32) (m : Int64) : Mm := sI (sL (sI (sI (sI σ 163 t k) 164 t w) 165 t v) 166 t m) 160 10 (nI (t + 1))
theorem r_token {N : Nat} {σ : Mm} {t : Nat} (ht : t < 403) (h : gI σ 160 10 = nI t) {k w v : Int32} {m : Int64} : f11_token N k w v m σ = some ((), putT σ t k w v m) := by
  unfold f11_token
  have h1 : ∀ x, gI (sI σ 163 t x) 160 10 = nI t := fun x => by rw [gI_o (by decide)]; exact h
  have h2 : ∀ x y, gI (sI (sI σ 163 t x) 164 t y) 160 10 = nI t := fun x y => by rw [gI_o (by decide)]; exact h1 x
  have h3 : ∀ x y z, gI (sI (sI (sI σ 163 t x) 164 t y) 165 t z) 160 10 = nI t := fun x y z => by rw [gI_o (by decide)]; exact h2 x y
  have h4 : ∀ x y z w, gI (sL (sI (sI (sI σ 163 t x) 164 t y) 165 t z) 166 t w) 160 10 = nI t := fun x y z w => h3 x y z
  rw [h, zc_t (inBn ht (by decide)), z_l_eq, ixn (by omega), h1, zc_t (inBn ht (by decide)), z_l_eq, ixn (by omega), h2, zc_t (inBn ht (by decide)), z_l_eq, ixn (by omega), h3, zc_t (inBn ht (by decide)), z_l_eq, ixn (by omega), z_l_eq, h4, nI_1]
  rfl
theorem put_row {σ : Mm} {t q : Nat} {k w v : Int32} {m : Int64} : (gI (putT σ t k w v m) 163 q = if q = t then k else gI σ 163 q) ∧ (gI (putT σ t k w v m) 164 q = if q = t then w else gI σ 164 q) ∧ (gI (putT σ t k w v m) 165 q = if q = t then v else gI σ 165 q) ∧ (gL (putT σ t k w v m) 166 q = if q = t then m else gL σ 166 q) := by
  have a1 : gI (putT σ t k w v m) 163 q = gI (sI σ 163 t k) 163 q := rfl
  have a2 : gI (putT σ t k w v m) 164 q = gI (sI σ 164 t w) 164 q := rfl
  have a3 : gI (putT σ t k w v m) 165 q = gI (sI σ 165 t v) 165 q := rfl
  have a4 : gL (putT σ t k w v m) 166 q = gL (sL σ 166 t m) 166 q := rfl
  by_cases c : q = t
  · subst c
    rw [a1, a2, a3, a4, gI_e, gI_e, gI_e, gL_e, if_pos rfl, if_pos rfl, if_pos rfl, if_pos rfl]
    exact ⟨rfl, rfl, rfl, rfl⟩
  · rw [a1, a2, a3, a4, gI_k c, gI_k c, gI_k c, gL_k c, if_neg c, if_neg c, if_neg c, if_neg c]
    exact ⟨rfl, rfl, rfl, rfl⟩
theorem run_fuel {P : Nat → Bool} {B : Nat → Nat} {n : Nat} : ∀ {f g i : Nat}, n - i ≤ f → n - i ≤ g → run P B n f i = run P B n g i
  | 0, 0, i, _, _ => rfl
  | 0, g + 1, i, h, _ => by
    show i = _
    unfold run
    rw [if_neg (by omega)]
  | f + 1, 0, i, _, h => by
    show _ = i
    unfold run
    rw [if_neg (by omega)]
  | f + 1, g + 1, i, h1, h2 => by
    unfold run
    by_cases c : i < n ∧ P (B i) = true
    · rw [if_pos c, if_pos c]; exact run_fuel (by omega) (by omega)
    · rw [if_neg c, if_neg c]
theorem rn_t {P : Nat → Bool} {B : Nat → Nat} {n i : Nat} (hn : n ≤ 2000) (hi : i < n) (h : P (B i) = true) : rn P B n i = rn P B n (i + 1) := by
  unfold rn
  show run P B n (1999 + 1) i = _
  rw [run, if_pos ⟨hi, h⟩]
  exact run_fuel (by omega) (by omega)
theorem rn_f {P : Nat → Bool} {B : Nat → Nat} {n i : Nat} (h : ¬ (i < n ∧ P (B i) = true)) : rn P B n i = i := by
  unfold rn
  show run P B n (1999 + 1) i = _
  rw [run, if_neg h]
def sgM (b : Nat) : Nat := km (if sgT.idxOf b < 9 then 4 + sgT.idxOf b else 1)
theorem r_sign {N : Nat} {σ : Mm} {i : Int32} {b : Nat} {x : Int32} (hb : b < 256) : f11_sign N i (nI b) x σ = z_b (f11_token N (nI (sgM b)) i 0 0 σ) fun _ σ_11 => some (1, σ_11) := by
  by_cases h : b = 59 ∨ b = 61 ∨ b = 43 ∨ b = 45 ∨ b = 42 ∨ b = 47 ∨ b = 60 ∨ b = 40 ∨ b = 41
  · rcases h with rfl | rfl | rfl | rfl | rfl | rfl | rfl | rfl | rfl <;> rfl
  · have ne : ∀ c : Nat, c < 256 → b ≠ c → ¬ nI b = nI c := fun c hc hne e => hne ((nI_eq (by omega) (by omega)).mp e)
    have e3 : sgM b = 3 := by
      have h9 : ∀ b, b < 256 → ¬ (b = 59 ∨ b = 61 ∨ b = 43 ∨ b = 45 ∨ b = 42 ∨ b = 47 ∨ b = 60 ∨ b = 40 ∨ b = 41) → sgM b = 3 := by decide +kernel
      exact h9 b hb h
    rw [e3]
    unfold f11_sign
    rw [if_neg (show ¬ nI b = 59 from ne 59 (by decide) (by omega)), if_neg (show ¬ nI b = 61 from ne 61 (by decide) (by omega)), if_neg (show ¬ nI b = 40 from ne 40 (by decide) (by omega)), if_neg (show ¬ nI b = 41 from ne 41 (by decide) (by omega)), f11_sign_43, if_neg (show ¬ nI b = 43 from ne 43 (by decide) (by omega)), f11_sign_55, if_neg (show ¬ nI b = 45 from ne 45 (by decide) (by omega)), f11_sign_65, if_neg (show ¬ nI b = 42 from ne 42 (by decide) (by omega)), f11_sign_75, if_neg (show ¬ nI b = 47 from ne 47 (by decide) (by omega)), f11_sign_85, if_neg (show ¬ nI b = 60 from ne 60 (by decide) (by omega)), f11_sign_95]
    rfl
theorem r_appends {N : Nat} {σ : Mm} {v b : Nat} (hb : b < 256) (hL : isL b = true) : f11_appends N (lN v) (nI b) σ = some (lN (27 * v + (b - 96)), σ) := by
  have h0 : ¬ nI b = 0 := fun e => by
    have : b = 0 := (nI_eq (b := 0) (by omega) (by decide)).mp e
    rw [this] at hL
    exact absurd hL (by decide)
  unfold f11_appends
  rw [if_neg h0, (sg_l b hb hL).2, nI_l (by omega), show (27 : Int64) = lN 27 from rfl, lN_mul, lN_add]
/-- the letters of a word, as far as the eighth -/
theorem r_letters {N : Nat} (hN : 4000 ≤ N) {σ : Mm} {B : Nat → Nat} {n b t : Nat} (hB : TB B n) (hT : TM σ B n) (hV : V_words σ) (hb : b < n) (hL : isL (B b) = true) (ht : t < 403) (h10 : gI σ 160 10 = nI t) {k7 : Int32 → Mm → Option (Unit × Mm)} {Q : Unit → Mm → Prop}
    (hk : ∀ m : Int64, (tkK B n b = 2 → m = lN (rf 27 (rl B b (rn isL B n b - b)))) → Ok (k7 (nI (rn isL B n b)) (putT σ t (nI (km (tkK B n b))) (nI b) 0 m)) Q) : Ok (f11_cut_85 N k7 (nI b) N 0 0 σ) Q := by
  obtain ⟨hn, hb8⟩ := id hB
  obtain ⟨a1, a2, a3, a4⟩ := rn_ok (P := isL) (B := B) (i := b) hn
  have a2 := a2 (by omega)
  have hkk : tkK B n b = if 8 < rn isL B n b - b then 1 else if wk (rl B b (rn isL B n b - b)) < 22 then 13 + wk (rl B b (rn isL B n b - b)) else 2 := by
    unfold tkK
    rw [if_neg (by omega), if_pos hL]
  obtain ⟨L, hLn⟩ : ∃ L, L = rn isL B n b - b := ⟨_, rfl⟩
  have eE : rn isL B n b = b + L := by omega
  have h179 : ∀ (kd : Nat) (m : Int64), kd = km (tkK B n b) → (tkK B n b = 2 → m = lN (rf 27 (rl B b (rn isL B n b - b)))) → Ok (f11_cut_179 N k7 (nI b) (nI L) m (nI kd) σ) Q := by
    rintro kd m rfl hm
    rw [f11_cut_179, r_token ht h10, z_b_some, z_l_eq, f11_cut_291, nI_add, ← eE]
    exact hk m hm
  refine Ok.lp (fun fu (x : Int64) j τ => f11_cut_85 N k7 (nI b) fu j x τ) L (fun j x τ => x = lN (rf 27 (rl B b (min j 8))) ∧ τ = σ) ⟨rfl, rfl⟩ (by omega) ?_ ?_
  · rintro fu j x τ hj ⟨rfl, rfl⟩ kk
    obtain ⟨j1, j2⟩ := a3 (b + j) (by omega) (by omega)
    show Ok (f11_cut_85 N k7 (nI b) (fu + 1) (nI j) _ τ) _
    rw [f11_cut_85, nI_add, r_byteAt hB hT (by omega), z_b_some, if_pos j1, r_isLetter (hb8 _ j1), z_b_some, j2]
    refine Ok.f (by decide) (Ok.i (fun c => ?_) (fun c => ?_))
    · have c : nI 8 ≤ nI j := c
      rw [nI_leI (by decide) (by omega)] at c
      rw [f11_cut_118, z_l_eq, nI_1]
      exact kk _ _ ⟨by rw [Nat.min_eq_right (by omega), Nat.min_eq_right (by omega)], rfl⟩
    · have c : ¬ nI 8 ≤ nI j := c
      rw [nI_leI (by decide) (by omega)] at c
      rw [r_byteAt hB hT (by omega), z_b_some, if_pos j1, r_appends (hb8 _ j1) j2, z_b_some, f11_cut_118, z_l_eq, nI_1]
      refine kk _ _ ⟨?_, rfl⟩
      rw [Nat.min_eq_left (by omega), Nat.min_eq_left (by omega)]
      rfl
  · rintro fu x τ ⟨rfl, rfl⟩
    show Ok (f11_cut_85 N k7 (nI b) (fu + 1) (nI L) _ τ) _
    have hend : isL (if b + L < n then B (b + L) else 0) = false ∧ (if b + L < n then B (b + L) else 0) < 256 := by
      by_cases c : b + L < n
      · rw [if_pos c]; rw [eE] at a4; exact ⟨a4 c, hb8 _ c⟩
      · rw [if_neg c]; exact ⟨by decide, by decide⟩
    rw [f11_cut_85, nI_add, r_byteAt hB hT (by omega), z_b_some, r_isLetter hend.2, z_b_some, hend.1]
    refine Ok.t rfl ?_
    rw [f11_cut_124]
    by_cases c : L ≤ 8
    · rw [if_pos (show nI L ≤ 8 from nI_le (b := 8) c (by decide)), f11_cut_135, if_neg (show ¬ (8 : Int32) < nI L from nI_nlt (a := 8) c (by decide)), Nat.min_eq_left c]
      have hl27 : ∀ d ∈ rl B b L, 1 ≤ d ∧ d < 27 := rl_ok (fun j h1 h2 => (a3 j h1 (by omega)).2)
      obtain ⟨w1, w2, w3⟩ := wk_ok (rl B b L)
      rw [← hLn] at hkk
      refine Ok.lp (fun fu (x : Int32) j τ => f11_cut_146 N k7 (nI b) (nI L) (lN (rf 27 (rl B b L))) fu x j τ) 22 (fun j x ρ => x = nI (if wk (rl B b L) < j then 20 + wk (rl B b L) else 1) ∧ ρ = τ) ⟨rfl, rfl⟩ (by omega) ?_ ?_
      · rintro fu2 j x ρ hj ⟨rfl, rfl⟩ kk
        show Ok (f11_cut_146 N k7 (nI b) (nI L) _ (fu2 + 1) _ (nI j) ρ) _
        rw [f11_cut_146, ixn (by omega), (hV j hj).2]
        refine Ok.f (nI_ngt (n := 22) hj (by decide)) (Ok.c (inBn hj (by decide)) (Ok.i (fun c2 => ?_) (fun c2 => ?_)))
        · rw [w_eq (by decide) (by decide) hl27 (by rw [rl_len]; exact c) hj] at c2
          have e : wk (rl B b L) = j := by
            by_cases e22 : wk (rl B b L) = 22
            · exact absurd c2 (w2 e22 j hj)
            · have hlt : wk (rl B b L) < 22 := by omega
              exact wl_inj _ hlt _ hj ((w1 hlt).trans c2.symm)
          rw [z_l_eq, f11_cut_173, z_l_eq, nI_1, show (20 : Int32) + nI j = nI (20 + j) from nI_add 20 j]
          exact kk _ _ ⟨by rw [e, if_pos (by omega)], rfl⟩
        · rw [w_eq (by decide) (by decide) hl27 (by rw [rl_len]; exact c) hj] at c2
          rw [f11_cut_173, z_l_eq, nI_1]
          refine kk _ _ ⟨?_, rfl⟩
          have hne : wk (rl B b L) ≠ j := fun e => c2 (by
            have := w1 (by omega)
            rw [e] at this
            exact this)
          by_cases c3 : wk (rl B b L) < j
          · rw [if_pos c3, if_pos (by omega)]
          · rw [if_neg c3, if_neg (by omega)]
      · rintro fu2 x ρ ⟨rfl, rfl⟩
        show Ok (f11_cut_146 N k7 (nI b) (nI L) _ (fu2 + 1) _ (nI 22) ρ) _
        rw [f11_cut_146]
        refine Ok.t nI_rf (h179 _ _ ?_ (fun _ => by rw [← hLn]))
        rw [hkk, if_neg (show ¬ 8 < L by omega)]
        by_cases c3 : wk (rl B b L) < 22
        · rw [if_pos c3, if_pos c3]
          unfold km
          have hk22 : ∀ k, k < 22 → 20 + k = [0, 3, 1, 2, 4, 5, 8, 9, 10, 15, 13, 6, 7].getD (13 + k) (13 + k + 7) := by decide
          exact hk22 _ c3
        · rw [if_neg c3, if_neg c3]
          rfl
    · rw [if_neg (show ¬ nI L ≤ 8 from nI_ge (a := 8) (by omega) (by omega)), f11_cut_135, if_pos (show (8 : Int32) < nI L from nI_lt (a := 8) (by omega) (by omega))]
      rw [← hLn] at hkk
      rw [if_pos (show 8 < L by omega)] at hkk
      exact h179 3 _ (by rw [hkk]; rfl) (fun h => by rw [hkk] at h; exact absurd h (by decide))
theorem nv_lt {B : Nat → Nat} {i : Nat} : ∀ {k : Nat}, (∀ j, i ≤ j → j < i + k → isD (B j) = true) → nv B i k < 10 ^ k
  | 0, _ => Nat.one_pos
  | k + 1, h => by
    have h1 := nv_lt (k := k) fun j a b => h j a (by omega)
    have h2 := h (i + k) (by omega) (by omega)
    unfold isD at h2
    rw [Bool.and_eq_true, decide_eq_true_eq, decide_eq_true_eq] at h2
    show 10 * nv B i k + (B (i + k) - 48) < 10 ^ (k + 1)
    rw [Nat.pow_succ]
    omega
theorem r_digits {N : Nat} (hN : 4000 ≤ N) {σ : Mm} {B : Nat → Nat} {n b t : Nat} (hB : TB B n) (hT : TM σ B n) (hb : b < n) (hL : isL (B b) = false) (hD : isD (B b) = true) (ht : t < 403) (h10 : gI σ 160 10 = nI t) {k7 : Int32 → Mm → Option (Unit × Mm)} {Q : Unit → Mm → Prop}
    (hk : ∀ x : Int32, (tkK B n b = 3 → x = nI (nv B b (rn isD B n b - b))) → Ok (k7 (nI (rn isD B n b)) (putT σ t (nI (km (tkK B n b))) (nI b) x 0)) Q) : Ok (f11_cut_208 N k7 (nI b) N 0 0 σ) Q := by
  obtain ⟨hn, hb8⟩ := id hB
  obtain ⟨a1, a2, a3, a4⟩ := rn_ok (P := isD) (B := B) (i := b) hn
  have a2 := a2 (by omega)
  have hkk : tkK B n b = if 4 < rn isD B n b - b then 1 else 3 := by
    unfold tkK
    rw [if_neg (by omega), if_neg (by rw [hL]; decide), if_pos hD]
  obtain ⟨L, hLn⟩ : ∃ L, L = rn isD B n b - b := ⟨_, rfl⟩
  have eE : rn isD B n b = b + L := by omega
  have hdg : ∀ m, m ≤ L → ∀ j, b ≤ j → j < b + m → isD (B j) = true := fun m hm j h1 h2 => (a3 j h1 (by omega)).2
  have h261 : ∀ (kd : Nat) (x : Int32), kd = km (tkK B n b) → (tkK B n b = 3 → x = nI (nv B b (rn isD B n b - b))) → Ok (f11_cut_261 N k7 (nI b) (nI L) x (nI kd) σ) Q := by
    rintro kd x rfl hm
    rw [f11_cut_261, r_token ht h10, z_b_some, z_l_eq, f11_cut_291, nI_add, ← eE]
    exact hk x hm
  refine Ok.lp (fun fu (x : Int32) j τ => f11_cut_208 N k7 (nI b) fu j x τ) L (fun j x τ => x = nI (nv B b (min j 4)) ∧ τ = σ) ⟨rfl, rfl⟩ (by omega) ?_ ?_
  · rintro fu j x τ hj ⟨rfl, rfl⟩ kk
    obtain ⟨j1, j2⟩ := a3 (b + j) (by omega) (by omega)
    show Ok (f11_cut_208 N k7 (nI b) (fu + 1) (nI j) _ τ) _
    rw [f11_cut_208, nI_add, r_byteAt hB hT (by omega), z_b_some, if_pos j1, r_isDigit (hb8 _ j1), z_b_some, j2]
    refine Ok.f (by decide) (Ok.i (fun c => ?_) (fun c => ?_))
    · have c : nI 4 ≤ nI j := c
      rw [nI_leI (by decide) (by omega)] at c
      rw [f11_cut_244, z_l_eq, nI_1]
      exact kk _ _ ⟨by rw [Nat.min_eq_right (by omega), Nat.min_eq_right (by omega)], rfl⟩
    · have c : ¬ nI 4 ≤ nI j := c
      rw [nI_leI (by decide) (by omega)] at c
      have h48 : 48 ≤ B (b + j) := by
        unfold isD at j2
        rw [Bool.and_eq_true, decide_eq_true_eq, decide_eq_true_eq] at j2
        exact j2.1
      rw [r_byteAt hB hT (by omega), z_b_some, if_pos j1, z_l_eq, f11_cut_244, z_l_eq, nI_1, Nat.min_eq_left (by omega), show (10 : Int32) = nI 10 from rfl, pk_mul, nI_add, show (48 : Int32) = nI 48 from rfl, pk_sub (by omega)]
      refine kk _ _ ⟨?_, rfl⟩
      rw [Nat.min_eq_left (by omega)]
      congr 1
      show 10 * nv B b j + B (b + j) - 48 = 10 * nv B b j + (B (b + j) - 48)
      omega
  · rintro fu x τ ⟨rfl, rfl⟩
    show Ok (f11_cut_208 N k7 (nI b) (fu + 1) (nI L) _ τ) _
    have hend : isD (if b + L < n then B (b + L) else 0) = false ∧ (if b + L < n then B (b + L) else 0) < 256 := by
      by_cases c : b + L < n
      · rw [if_pos c]; rw [eE] at a4; exact ⟨a4 c, hb8 _ c⟩
      · rw [if_neg c]; exact ⟨by decide, by decide⟩
    rw [f11_cut_208, nI_add, r_byteAt hB hT (by omega), z_b_some, r_isDigit hend.2, z_b_some, hend.1]
    refine Ok.t rfl ?_
    rw [f11_cut_250]
    rw [← hLn] at hkk
    by_cases c : L ≤ 4
    · rw [if_neg (show ¬ 4 < L by omega)] at hkk
      rw [if_pos (show nI L ≤ 4 from nI_le (b := 4) c (by decide)), Nat.min_eq_left c]
      exact h261 2 _ (by rw [hkk]; rfl) (fun _ => by rw [← hLn])
    · rw [if_pos (show 4 < L by omega)] at hkk
      rw [if_neg (show ¬ nI L ≤ 4 from nI_ge (a := 4) (by omega) (by omega))]
      exact h261 3 _ (by rw [hkk]; rfl) (fun h => by rw [hkk] at h; exact absurd h (by decide))
def vm (B : Nat → Nat) (n r : Nat) : Prop := ∀ q, q < r → tkK B n (bg B n q) ≠ 0
theorem vr_vm {B : Nat → Nat} {n r : Nat} (h : vr B n r) : vm B n r := fun q hq => (h q hq).1
/-- the reference's tokens are what is meant -/
theorem r_cut {N : Nat} (hN : 4000 ≤ N) {σ : Mm} {B : Nat → Nat} {n : Nat} (hB : TB B n) (hT : TM σ B n) (hV : V_words σ) : Ok (f11_cut N σ) (fun _ τ => ∀ r, r ≤ 400 → vm B n r → RowM τ B n r (bg B n r)) := by
  obtain ⟨hn, hb8⟩ := id hB
  unfold f11_cut
  rw [z_l_eq]
  have key : ∀ (fu i t : Nat) (τ : Mm), i ≤ n → t ≤ 401 → n - i < fu → gI τ 160 10 = nI t → TM τ B n → V_words τ → vm B n t → (t ≤ 400 → rn isBk B n i = bg B n t) → (∀ r, r < t → RowM τ B n r (bg B n r)) → Ok (f11_cut_7 N fu (nI i) τ) (fun _ τ => ∀ r, r ≤ 400 → vm B n r → RowM τ B n r (bg B n r)) := by
    intro fu
    induction fu with
    | zero => intro i t τ _ _ h; omega
    | succ fu ih =>
      intro i t τ hi ht hf h10 hT hV hvm hbg hrows
      rw [f11_cut_7, h10]
      by_cases c400 : 400 < t
      · exact Ok.t (show (400 : Int32) < nI t from nI_lt (a := 400) c400 (by omega)) (Ok.ret fun r hr _ => hrows r (by omega))
      refine Ok.f (show ¬ (400 : Int32) < nI t from nI_nlt (a := 400) (by omega) (by decide)) ?_
      have hbg := hbg (by omega)
      rw [r_byteAt hB hT (by omega), z_b_some, hT.1]
      -- a token is put, and on
      have go : ∀ (x : Int32) (m : Int64), i < n → isBk (B i) = false → (tkK B n i = 3 → x = nI (nv B i (rn isD B n i - i))) → (tkK B n i = 2 → m = lN (rf 27 (rl B i (rn isL B n i - i)))) → tkK B n i ≠ 0 → i < tkE B n i → Ok (f11_cut_7 N fu (nI (tkE B n i)) (putT τ t (nI (km (tkK B n i))) (nI i) x m)) (fun _ τ => ∀ r, r ≤ 400 → vm B n r → RowM τ B n r (bg B n r)) := by
        intro x m hin hnb hx hm h0 hgt
        have ei : bg B n t = i := by rw [← hbg]; exact rn_f (fun c => by rw [hnb] at c; exact Bool.noConfusion c.2)
        refine ih (tkE B n i) (t + 1) _ (tkE_le hn hi).2 (by omega) (by omega) gI_e ⟨hT.1, hT.2⟩ (fun k hk => hV k hk) (fun q hq => ?_) (fun _ => ?_) (fun r hr => ?_)
        · by_cases e : q = t
          · rw [e, ei]; exact h0
          · exact hvm q (by omega)
        · show rn isBk B n (tkE B n i) = rn isBk B n (tkE B n (bg B n t))
          rw [ei]
        · obtain ⟨p1, p2, p3, p4⟩ := put_row (σ := τ) (t := t) (q := r) (k := nI (km (tkK B n i))) (w := nI i) (v := x) (m := m)
          unfold RowM
          rw [p1, p2, p3, p4]
          by_cases e : r = t
          · rw [e, ei, if_pos rfl, if_pos rfl, if_pos rfl, if_pos rfl]
            exact ⟨rfl, rfl, hx, hm⟩
          · rw [if_neg e, if_neg e, if_neg e, if_neg e]
            exact hrows r (by omega)
      by_cases hin : i < n
      · rw [if_pos hin]
        refine Ok.t (nI_lt hin (by omega)) ?_
        have blank : isBk (B i) = true → Ok (f11_cut_67 N (fun x1 σ => f11_cut_7 N fu x1 σ) (nI i) τ) (fun _ τ => ∀ r, r ≤ 400 → vm B n r → RowM τ B n r (bg B n r)) := by
          intro hbk
          rw [f11_cut_67, z_l_eq, f11_cut_291, nI_1]
          exact ih (i + 1) t τ (by omega) ht (by omega) h10 hT hV hvm (fun _ => by rw [← hbg, rn_t hn hin hbk]) hrows
        have bne : ∀ c : Nat, c < 256 → (nI (B i) = nI c) = (B i = c) := fun c hc => propext (nI_eq (by have := hb8 i hin; omega) (by omega))
        refine Ok.i (fun c => ?_) (fun c9 => Ok.i (fun c => ?_) (fun c10 => Ok.i (fun c => ?_) (fun c13 => Ok.i (fun c => ?_) (fun c32 => ?_))))
        · have c : nI (B i) = nI 9 := c
          rw [bne 9 (by decide)] at c
          exact blank (by rw [c]; decide)
        · have c : nI (B i) = nI 10 := c
          rw [bne 10 (by decide)] at c
          exact blank (by rw [c]; decide)
        · have c : nI (B i) = nI 13 := c
          rw [bne 13 (by decide)] at c
          exact blank (by rw [c]; decide)
        · have c : nI (B i) = nI 32 := c
          rw [bne 32 (by decide)] at c
          exact blank (by rw [c]; decide)
        · have c9 : ¬ nI (B i) = nI 9 := c9
          have c10 : ¬ nI (B i) = nI 10 := c10
          have c13 : ¬ nI (B i) = nI 13 := c13
          have c32 : ¬ nI (B i) = nI 32 := c32
          rw [bne 9 (by decide)] at c9
          rw [bne 10 (by decide)] at c10
          rw [bne 13 (by decide)] at c13
          rw [bne 32 (by decide)] at c32
          have hnb : isBk (B i) = false := by unfold isBk; simp [c9, c10, c13, c32]
          have hge : n ≤ i ↔ False := ⟨fun h => by omega, False.elim⟩
          rw [r_isLetter (hb8 i hin), z_b_some]
          cases hL : isL (B i)
          · refine Ok.t rfl ?_
            rw [r_isDigit (hb8 i hin), z_b_some]
            cases hD : isD (B i)
            · refine Ok.t rfl ?_
              have hk : tkK B n i = if sgT.idxOf (B i) < 9 then 4 + sgT.idxOf (B i) else 1 := by
                unfold tkK
                rw [if_neg (by omega), if_neg (by rw [hL]; decide), if_neg (by rw [hD]; decide)]
              have he : tkE B n i = i + 1 := by
                unfold tkE
                rw [if_neg (by omega), if_neg (by rw [hL]; decide), if_neg (by rw [hD]; decide)]
              have hk3 : tkK B n i ≠ 0 ∧ tkK B n i ≠ 2 ∧ tkK B n i ≠ 3 := by
                rw [hk]
                split <;> omega
              rw [nI_1, r_byteAt hB hT (by omega), z_b_some, r_sign (hb8 i hin), r_token (by omega) h10, z_b_some, z_b_some, z_l_eq, f11_cut_291, nI_1, ← he, show sgM (B i) = km (tkK B n i) by rw [hk]; rfl]
              exact go 0 0 hin hnb (fun h => absurd h hk3.2.2) (fun h => absurd h hk3.2.1) hk3.1 (by omega)
            · refine Ok.f (by decide) ?_
              have hk : tkK B n i = if 4 < rn isD B n i - i then 1 else 3 := by
                unfold tkK
                rw [if_neg (by omega), if_neg (by rw [hL]; decide), if_pos hD]
              have he : tkE B n i = rn isD B n i := by
                unfold tkE
                rw [if_neg (by omega), if_neg (by rw [hL]; decide), if_pos hD]
              refine r_digits hN hB hT hin hL hD (by omega) h10 (fun x hx => ?_)
              rw [← he]
              refine go x 0 hin hnb hx (fun h => ?_) ?_ ?_
              · rw [hk] at h; split at h <;> omega
              · rw [hk]; split <;> omega
              · rw [he, rn_t hn hin hD]
                have := (rn_ok (P := isD) (B := B) (i := i + 1) hn).1
                omega
          · refine Ok.f (by decide) ?_
            have hk : tkK B n i = if 8 < rn isL B n i - i then 1 else if wk (rl B i (rn isL B n i - i)) < 22 then 13 + wk (rl B i (rn isL B n i - i)) else 2 := by
              unfold tkK
              rw [if_neg (by omega), if_pos hL]
            have he : tkE B n i = rn isL B n i := by
              unfold tkE
              rw [if_neg (by omega), if_pos hL]
            refine r_letters hN hB hT hV hin hL (by omega) h10 (fun m hm => ?_)
            rw [← he]
            refine go 0 m hin hnb (fun h => ?_) hm ?_ ?_
            · rw [hk] at h
              split at h
              · omega
              · split at h <;> omega
            · rw [hk]
              split
              · omega
              · split <;> omega
            · rw [he, rn_t hn hin hL]
              have := (rn_ok (P := isL) (B := B) (i := i + 1) hn).1
              omega
      · refine Ok.f (nI_nlt (by omega) (by omega)) ?_
        have ei : i = n := by omega
        have eb : bg B n t = n := by rw [← hbg, rn_f (fun c => hin c.1), ei]
        have hk0 : tkK B n n = 0 := by unfold tkK; rw [if_pos (Nat.le_refl _)]
        rw [f11_cut_31, hT.1, r_token (by omega) h10, z_b_some]
        refine Ok.ret fun r hr hv => ?_
        obtain ⟨p1, p2, p3, p4⟩ := put_row (σ := τ) (t := t) (q := r) (k := 0) (w := nI n) (v := 0) (m := 0)
        unfold RowM
        rw [p1, p2, p3, p4]
        by_cases e : r = t
        · rw [e, eb, hk0, if_pos rfl, if_pos rfl]
          exact ⟨rfl, rfl, fun h => absurd h (by decide), fun h => absurd h (by decide)⟩
        · rw [if_neg e, if_neg e, if_neg e, if_neg e]
          by_cases c : r < t
          · exact hrows r c
          · have := hv t (by omega)
            rw [eb] at this
            exact absurd hk0 this
  refine key N 0 0 _ (Nat.zero_le _) (by omega) (by omega) gI_e ⟨?_, fun j hj => ?_⟩ (fun k hk => hV k hk) (fun q hq => absurd hq (Nat.not_lt_zero _)) (fun _ => rfl) (fun r hr => absurd hr (Nat.not_lt_zero _))
  · rw [gI_k (by decide)]; exact hT.1
  · rw [gI_o (by decide)]; exact hT.2 j hj
