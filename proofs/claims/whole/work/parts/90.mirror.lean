-- COVER: sets of witnesses, mirrored
def mir (s : Nat) : Nat := bs (fun i => s.testBit (6 - i)) 7
theorem mir_bit {s i : Nat} (hi : i < 7) : (mir s).testBit i = s.testBit (6 - i) := by unfold mir; rw [bs_bit, decide_eq_true hi, Bool.true_and]
theorem mir_lt (s : Nat) : mir s < 2 ^ 7 := bs_lt 7
theorem bit7 {s i : Nat} (hs : s < 2 ^ 7) (hi : 7 ≤ i) : s.testBit i = false := Nat.testBit_lt_two_pow (Nat.lt_of_lt_of_le hs (Nat.pow_le_pow_right (by decide) hi))
theorem mir_mir {s : Nat} (hs : s < 2 ^ 7) : mir (mir s) = s := Nat.eq_of_testBit_eq fun i => by
  by_cases hi : i < 7
  · rw [mir_bit hi, mir_bit (by omega), show 6 - (6 - i) = i by omega]
  · rw [bit7 (mir_lt _) (by omega), bit7 hs (by omega)]
theorem c_mirrored {N : Nat} (hN : 4000 ≤ N) {s : Nat} (hs : s < 2 ^ 7) {σ : Mm} : f10_mirrored N (nI s) σ = some (nI (mir s), σ) := by
  have h : Ok (f10_mirrored N (nI s) σ) (fun r τ => r = nI (mir s) ∧ τ = σ) := by
    unfold f10_mirrored
    refine Ok.lp (fun fu (a : Int32) i τ => f10_mirrored_4 N (nI s) fu a i τ) 7 (fun i a τ => a = nI (bs (fun j => decide (6 - j < i) && s.testBit (6 - j)) 7) ∧ τ = σ) ⟨?_, rfl⟩ (by omega) ?_ ?_
    · rw [bs_0.mpr (fun i _ => by simp)]; rfl
    · rintro fu i a τ hi ⟨rfl, rfl⟩ k
      show Ok (f10_mirrored_4 N (nI s) (fu + 1) _ (nI i) τ) _
      rw [f10_mirrored_4, bit_sr (by omega) (by omega)]
      refine Ok.f (nI_ngt (n := 7) hi (by decide)) (Ok.i (fun c => ?_) (fun c => ?_))
      · have hb : s.testBit i = false := by
          cases e : s.testBit i
          · rfl
          · rw [e] at c; exact absurd c (by decide)
        rw [f10_mirrored_27, z_l_eq, nI_1]
        refine k _ _ ⟨?_, rfl⟩
        congr 1
        refine bs_congr fun j hj => ?_
        by_cases e : 6 - j = i
        · rw [e, hb, Bool.and_false, Bool.and_false]
        · rw [lt_ne e]
      · have hb : s.testBit i = true := by
          cases e : s.testBit i
          · rw [e] at c; exact absurd rfl c
          · rfl
        rw [z_l_eq, f10_mirrored_27, z_l_eq, nI_1, show (6 : Int32) - nI i = nI (6 - i) from pk_sub (a := 6) (by omega), b1 (by omega)]
        have hlt := bs_lt (p := fun j => decide (6 - j < i) && s.testBit (6 - j)) 7
        have h2 : 2 ^ (6 - i) < 2 ^ 7 := Nat.pow_lt_pow_right (by decide) (by omega)
        rw [orN (by omega) (by omega), p2_bs (i := 6 - i) (n := 7) (by omega), bs_or]
        refine k _ _ ⟨?_, rfl⟩
        congr 1
        refine bs_congr fun j hj => ?_
        by_cases e : 6 - j = i
        · rw [e, hb, decide_eq_true (show j = 6 - i by omega), decide_eq_true (show i < i + 1 by omega)]; simp
        · rw [lt_ne e, decide_eq_false (show ¬ j = 6 - i by omega), Bool.or_false]
    · rintro fu a τ ⟨rfl, rfl⟩
      show Ok (f10_mirrored_4 N (nI s) (fu + 1) _ (nI 7) τ) _
      rw [f10_mirrored_4]
      refine Ok.t nI_rf (Ok.ret ⟨congrArg nI (bs_congr fun j hj => ?_), rfl⟩)
      rw [decide_eq_true (by omega), Bool.true_and]
  obtain ⟨r, τ, e, rfl, rfl⟩ := h
  exact e
theorem ith_some {N : Nat} (hN : 4000 ≤ N) {s g k : Nat} (hs : s < 2 ^ 31) (hg : g < 7) (hb : s.testBit g = true) (hk : cnt s.testBit g = k) {σ : Mm} : f11_ithOf N (nI s) (nI k) σ = some (nI g, σ) := by
  have hk20 := cnt_le (p := s.testBit) g
  have h : Ok (f11_ithOf N (nI s) (nI k) σ) (fun r τ => r = nI g ∧ τ = σ) := by
    unfold f11_ithOf
    refine Ok.lp (fun fu (a : Int32) i τ => f11_ithOf_4 N (nI s) (nI k) fu a i τ) 7 (fun i a τ => i ≤ g ∧ a = nI (cnt s.testBit i) ∧ τ = σ) ⟨Nat.zero_le _, rfl, rfl⟩ (by omega) ?_ ?_
    · rintro fu i a τ hi ⟨hig, rfl, rfl⟩ kk
      have hc20 := cnt_le (p := s.testBit) i
      show Ok (f11_ithOf_4 N (nI s) (nI k) (fu + 1) _ (nI i) τ) _
      rw [f11_ithOf_4, bit_sr hs (by omega)]
      refine Ok.f (nI_ngt (n := 7) hi (by decide)) (Ok.i (fun h => ?_) (fun h => ?_))
      · have h' : s.testBit i = false := by
          cases e : s.testBit i
          · rfl
          · rw [e] at h; exact absurd h (by decide)
        have : i ≠ g := fun c => by rw [c, hb] at h'; exact Bool.noConfusion h'
        rw [f11_ithOf_31, z_l_eq, nI_1]
        exact kk _ _ ⟨by omega, by rw [cnt_skip h'], rfl⟩
      · have h' : s.testBit i = true := by
          cases e : s.testBit i
          · rw [e] at h; exact absurd rfl h
          · rfl
        refine Ok.i (fun h2 => ?_) (fun h2 => ?_)
        · rw [nI_eq (by omega) (by omega)] at h2
          refine Ok.ret ⟨?_, rfl⟩
          by_cases c : i = g
          · rw [c]
          · have e1 := cnt_step h'
            have e2 : cnt s.testBit (i + 1) ≤ cnt s.testBit g := cnt_mono (by omega)
            omega
        · rw [nI_eq (by omega) (by omega)] at h2
          have : i ≠ g := fun c => h2 (by rw [c]; exact hk)
          rw [z_l_eq, f11_ithOf_31, z_l_eq, nI_1, nI_1]
          exact kk _ _ ⟨by omega, by rw [cnt_step h'], rfl⟩
    · rintro fu a τ ⟨h, -⟩
      omega
  obtain ⟨r, τ, e, rfl, rfl⟩ := h
  exact e
theorem ith_none {N : Nat} (hN : 4000 ≤ N) {s k : Nat} (hs : s < 2 ^ 31) (hk : k < 2 ^ 31) (hb : ∀ g, g < 7 → s.testBit g = true → cnt s.testBit g ≠ k) {σ : Mm} : f11_ithOf N (nI s) (nI k) σ = some (-1, σ) := by
  have h : Ok (f11_ithOf N (nI s) (nI k) σ) (fun r τ => r = -1 ∧ τ = σ) := by
    unfold f11_ithOf
    refine Ok.lp (fun fu (a : Int32) i τ => f11_ithOf_4 N (nI s) (nI k) fu a i τ) 7 (fun i a τ => a = nI (cnt s.testBit i) ∧ τ = σ) ⟨rfl, rfl⟩ (by omega) ?_ ?_
    · rintro fu i a τ hi ⟨rfl, rfl⟩ kk
      have hc20 := cnt_le (p := s.testBit) i
      show Ok (f11_ithOf_4 N (nI s) (nI k) (fu + 1) _ (nI i) τ) _
      rw [f11_ithOf_4, bit_sr hs (by omega)]
      refine Ok.f (nI_ngt (n := 7) hi (by decide)) (Ok.i (fun h => ?_) (fun h => ?_))
      · have h' : s.testBit i = false := by
          cases e : s.testBit i
          · rfl
          · rw [e] at h; exact absurd h (by decide)
        rw [f11_ithOf_31, z_l_eq, nI_1]
        exact kk _ _ ⟨by rw [cnt_skip h'], rfl⟩
      · have h' : s.testBit i = true := by
          cases e : s.testBit i
          · rw [e] at h; exact absurd rfl h
          · rfl
        refine Ok.f (by rw [nI_eq (by omega) hk]; exact hb i hi h') ?_
        rw [z_l_eq, f11_ithOf_31, z_l_eq, nI_1, nI_1]
        exact kk _ _ ⟨by rw [cnt_step h'], rfl⟩
    · rintro fu a τ ⟨rfl, rfl⟩
      show Ok (f11_ithOf_4 N (nI s) (nI k) (fu + 1) _ (nI 7) τ) _
      rw [f11_ithOf_4]
      exact Ok.t nI_rf (Ok.ret ⟨rfl, rfl⟩)
  obtain ⟨r, τ, e, rfl, rfl⟩ := h
  exact e
theorem lt_bits {n m : Nat} (i : Nat) (h1 : n.testBit i = false) (h2 : m.testBit i = true) (h3 : ∀ j, i < j → n.testBit j = m.testBit j) : n < m := by
  have e : n / 2 ^ (i + 1) = m / 2 ^ (i + 1) := Nat.eq_of_testBit_eq fun j => by
    rw [Nat.testBit_div_two_pow, Nat.testBit_div_two_pow]
    exact h3 _ (by omega)
  rw [Nat.pow_succ, ← Nat.div_div_eq_div_mul, ← Nat.div_div_eq_div_mul] at e
  rw [Nat.testBit_eq_decide_div_mod_eq] at h1 h2
  have h1 : ¬ n / 2 ^ i % 2 = 1 := by simpa using h1
  have h2 : m / 2 ^ i % 2 = 1 := by simpa using h2
  by_cases c : n < m
  · exact c
  · have := Nat.div_le_div_right (c := 2 ^ i) (Nat.le_of_not_lt c)
    omega
theorem cnt_find {p : Nat → Bool} : ∀ {k i : Nat}, i < cnt p k → ∃ e, e < k ∧ p e = true ∧ cnt p e = i
  | 0, i, h => absurd h (Nat.not_lt_zero _)
  | k + 1, i, h => by
    by_cases c : i < cnt p k
    · obtain ⟨e, a, b⟩ := cnt_find c
      exact ⟨e, by omega, b⟩
    · cases e : p k
      · rw [cnt_skip e] at h; exact absurd h c
      · rw [cnt_step e] at h
        exact ⟨k, by omega, e, by omega⟩
/-- the first place at which two sets differ decides -/
theorem ear_core {N : Nat} (hN : 4000 ≤ N) {s t k : Nat} (hs : s < 2 ^ 7) (ht : t < 2 ^ 7) (hc : cnt s.testBit 7 = cnt t.testBit 7) (h4 : cnt s.testBit 7 ≤ 4) (hk : k < 7) (hsame : ∀ i, i < k → s.testBit i = t.testBit i) (h1 : s.testBit k = true) (h2 : t.testBit k = false) {σ : Mm} : f11_isEarlier N (nI s) (nI t) σ = some (1, σ) ∧ f11_isEarlier N (nI t) (nI s) σ = some (0, σ) ∧ mir t < mir s := by
  have ec : ∀ i, i ≤ k → cnt s.testBit i = cnt t.testBit i := fun i hi => cnt_congr fun j hj => hsame j (by omega)
  have hk0 : cnt s.testBit k < cnt s.testBit 7 := by
    have e1 := cnt_step h1
    have e2 : cnt s.testBit (k + 1) ≤ cnt s.testBit 7 := cnt_mono (by omega)
    omega
  obtain ⟨g, g1, g2, g3⟩ := cnt_find (p := t.testBit) (k := 7) (i := cnt s.testBit k) (by omega)
  have hgk : k < g := by
    by_cases c : g < k
    · have e1 := cnt_step g2
      have e2 : cnt t.testBit (g + 1) ≤ cnt t.testBit k := cnt_mono (by omega)
      have e3 := ec k (Nat.le_refl _)
      omega
    · by_cases c2 : g = k
      · rw [c2, h2] at g2; exact Bool.noConfusion g2
      · omega
  have is : ∀ τ : Mm, f11_ithOf N (nI s) (nI (cnt s.testBit k)) τ = some (nI k, τ) := fun τ => ith_some hN (by omega) hk h1 rfl
  have it : ∀ τ : Mm, f11_ithOf N (nI t) (nI (cnt s.testBit k)) τ = some (nI g, τ) := fun τ => ith_some hN (by omega) g1 g2 g3
  have low : ∀ i, i < cnt s.testBit k → ∃ e : Nat, (∀ τ : Mm, f11_ithOf N (nI s) (nI i) τ = some (nI e, τ)) ∧ (∀ τ : Mm, f11_ithOf N (nI t) (nI i) τ = some (nI e, τ)) := fun i hi => by
    obtain ⟨e, a1, a2, a3⟩ := cnt_find hi
    exact ⟨e, fun τ => ith_some hN (by omega) (by omega) a2 a3, fun τ => ith_some hN (by omega) (by omega) (by rw [← hsame e a1]; exact a2) (by rw [← ec e (by omega)]; exact a3)⟩
  refine ⟨?_, ?_, ?_⟩
  · have h : Ok (f11_isEarlier N (nI s) (nI t) σ) (fun r τ => r = 1 ∧ τ = σ) := by
      unfold f11_isEarlier
      refine Ok.lp (fun fu (_ : Unit) i τ => f11_isEarlier_2 N (nI s) (nI t) fu i τ) 4 (fun i _ τ => i ≤ cnt s.testBit k ∧ τ = σ) (a := ()) ⟨Nat.zero_le _, rfl⟩ (by omega) ?_ ?_
      · rintro fu i a τ hi ⟨hik, rfl⟩ kk
        show Ok (f11_isEarlier_2 N (nI s) (nI t) (fu + 1) (nI i) τ) _
        rw [f11_isEarlier_2]
        refine Ok.f (nI_ngt (n := 4) hi (by decide)) ?_
        by_cases c : i = cnt s.testBit k
        · rw [c, is, z_b_some, it, z_b_some]
          refine Ok.f (by rw [nI_eq (by omega) (by omega)]; omega) ?_
          rw [f11_isEarlier_20, is, z_b_some, it, z_b_some]
          exact Ok.f (nI_ngt hgk (by omega)) (Ok.ret ⟨rfl, rfl⟩)
        · obtain ⟨e, a1, a2⟩ := low i (by omega)
          rw [a1, z_b_some, a2, z_b_some]
          refine Ok.t rfl ?_
          rw [z_l_eq, nI_1]
          exact kk () _ ⟨by omega, rfl⟩
      · rintro fu a τ ⟨h, -⟩
        omega
    obtain ⟨r, τ, e, rfl, rfl⟩ := h
    exact e
  · have h : Ok (f11_isEarlier N (nI t) (nI s) σ) (fun r τ => r = 0 ∧ τ = σ) := by
      unfold f11_isEarlier
      refine Ok.lp (fun fu (_ : Unit) i τ => f11_isEarlier_2 N (nI t) (nI s) fu i τ) 4 (fun i _ τ => i ≤ cnt s.testBit k ∧ τ = σ) (a := ()) ⟨Nat.zero_le _, rfl⟩ (by omega) ?_ ?_
      · rintro fu i a τ hi ⟨hik, rfl⟩ kk
        show Ok (f11_isEarlier_2 N (nI t) (nI s) (fu + 1) (nI i) τ) _
        rw [f11_isEarlier_2]
        refine Ok.f (nI_ngt (n := 4) hi (by decide)) ?_
        by_cases c : i = cnt s.testBit k
        · rw [c, it, z_b_some, is, z_b_some]
          refine Ok.f (by rw [nI_eq (by omega) (by omega)]; omega) ?_
          rw [f11_isEarlier_20, it, z_b_some, is, z_b_some]
          exact Ok.t (nI_le (by omega) (by omega)) (Ok.ret ⟨rfl, rfl⟩)
        · obtain ⟨e, a1, a2⟩ := low i (by omega)
          rw [a2, z_b_some, a1, z_b_some]
          refine Ok.t rfl ?_
          rw [z_l_eq, nI_1]
          exact kk () _ ⟨by omega, rfl⟩
      · rintro fu a τ ⟨h, -⟩
        omega
    obtain ⟨r, τ, e, rfl, rfl⟩ := h
    exact e
  · refine lt_bits (6 - k) ?_ ?_ (fun j hj => ?_)
    · rw [mir_bit (by omega), show 6 - (6 - k) = k by omega]; exact h2
    · rw [mir_bit (by omega), show 6 - (6 - k) = k by omega]; exact h1
    · by_cases c : j < 7
      · rw [mir_bit c, mir_bit c, hsame (6 - j) (by omega)]
      · rw [bit7 (mir_lt _) (by omega), bit7 (mir_lt _) (by omega)]
theorem r_isEarlier {N : Nat} (hN : 4000 ≤ N) {s t : Nat} (hs : s < 2 ^ 7) (ht : t < 2 ^ 7) (hc : cnt s.testBit 7 = cnt t.testBit 7) (h4 : cnt s.testBit 7 ≤ 4) (hne : s ≠ t) {σ : Mm} : f11_isEarlier N (nI s) (nI t) σ = some (b2 (decide (mir t < mir s)), σ) := by
  rcases firstB (fun i => s.testBit i != t.testBit i) 7 with ⟨k, k1, k2, k3⟩ | h
  · have hsame : ∀ i, i < k → s.testBit i = t.testBit i := fun i hi => by simpa using k3 i hi
    cases e1 : s.testBit k
    · cases e2 : t.testBit k
      · rw [e1, e2] at k2; exact absurd k2 (by decide)
      · obtain ⟨-, a2, a3⟩ := ear_core hN ht hs hc.symm (by omega) k1 (fun i hi => (hsame i hi).symm) e2 e1 (σ := σ)
        rw [a2, decide_eq_false (by omega)]
        rfl
    · cases e2 : t.testBit k
      · obtain ⟨a1, -, a3⟩ := ear_core hN hs ht hc h4 k1 hsame e1 e2 (σ := σ)
        rw [a1, decide_eq_true a3]
        rfl
      · rw [e1, e2] at k2; exact absurd k2 (by decide)
  · exact absurd (Nat.eq_of_testBit_eq fun i => by
      by_cases hi : i < 7
      · simpa using h i hi
      · rw [bit7 hs (by omega), bit7 ht (by omega)]) hne
