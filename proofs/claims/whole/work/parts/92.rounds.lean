-- ROUNDS: what is meant
def rm (s q : Nat) : Nat := bs (fun i => s.testBit i && !decide (i = q)) 7
theorem rm_lt7 (s q : Nat) : rm s q < 2 ^ 7 := bs_lt 7
theorem rm_bit {s q i : Nat} (hs : s < 2 ^ 7) : (rm s q).testBit i = (s.testBit i && !decide (i = q)) := by
  unfold rm
  rw [bs_bit]
  by_cases hi : i < 7
  · simp [hi]
  · rw [bit7 hs (by omega)]; simp
theorem rm_q {s q : Nat} (hs : s < 2 ^ 7) : (rm s q).testBit q = false := by rw [rm_bit hs]; simp
theorem rm_lt {s q : Nat} (hs : s < 2 ^ 7) (hq : s.testBit q = true) : rm s q < s := by
  refine lt_bits q (rm_q hs) hq fun j hj => ?_
  rw [rm_bit hs, decide_eq_false (by omega)]
  simp
theorem cnt_del {p : Nat → Bool} {q : Nat} (hq : p q = true) : ∀ {n : Nat}, q < n → cnt (fun i => p i && !decide (i = q)) n + 1 = cnt p n
  | 0, h => absurd h (Nat.not_lt_zero _)
  | n + 1, h => by
    by_cases c : q = n
    · subst c
      have e : cnt (fun i => p i && !decide (i = q)) q = cnt p q := cnt_congr fun i hi => by rw [decide_eq_false (by omega)]; simp
      rw [cnt_skip (p := fun i => p i && !decide (i = q)) (i := q) (by simp), e, cnt_step hq]
    · have ih := cnt_del hq (n := n) (by omega)
      show cnt _ n + (if (p n && !decide (n = q)) = true then 1 else 0) + 1 = cnt p n + (if p n = true then 1 else 0)
      rw [decide_eq_false (show ¬ n = q from fun e => c e.symm), Bool.not_false, Bool.and_true]
      omega
theorem cnt_rm {s q : Nat} (hs : s < 2 ^ 7) (hq : s.testBit q = true) : cnt (rm s q).testBit 7 + 1 = cnt s.testBit 7 := by
  have h7 : q < 7 := by
    by_cases c : q < 7
    · exact c
    · rw [bit7 hs (by omega)] at hq; exact Bool.noConfusion hq
  rw [← cnt_del hq h7]
  congr 1
  exact cnt_congr fun i _ => rm_bit hs
theorem rmN {s q : Nat} (hs : s < 2 ^ 7) (hq : q < 7) : nI s &&& (((1 : Int32) <<< (nI q &&& 31)) ^^^ (-1 : Int32)) = nI (rm s q) := by
  rw [b1 (by omega), xor1, show nI s = nI (bs s.testBit 7) from congrArg nI (bs_of hs), p2_bs hq, diffN (by decide)]
  rfl
theorem bst_congr {bt : Nat → Nat → Bool} {c : Nat → Bool} {f g : Nat → Nat} : ∀ {n : Nat}, (∀ i, i < n → c i = true → f i = g i) → bst bt c f n = bst bt c g n
  | 0, _ => rfl
  | n + 1, h => by
    have ih := bst_congr (bt := bt) (c := c) (n := n) fun i hi => h i (by omega)
    unfold bst
    rw [ih]
    cases e : c n
    · cases bst bt c g n <;> simp
    · rw [h n (by omega) e]
theorem bst_add {c : Nat → Bool} {f : Nat → Nat} {C : Nat} : ∀ n : Nat, bst ltB c (fun i => C + f i) n = (bst ltB c f n).map (fun q => (q.1, C + q.2))
  | 0 => rfl
  | n + 1 => by
    unfold bst
    rw [bst_add n]
    cases bst ltB c f n with
    | none => cases c n <;> rfl
    | some q =>
      show (if (c n && ltB (C + f n) (C + q.2)) = true then some (n, C + f n) else some (q.1, C + q.2)) = Option.map (fun q => (q.1, C + q.2)) (if (c n && ltB (f n) q.2) = true then some (n, f n) else some q)
      have : ltB (C + f n) (C + q.2) = ltB (f n) q.2 := decide_eq_decide.mpr (by omega)
      rw [this]
      split <;> rfl
theorem bst_ge {bt : Nat → Nat → Bool} {c : Nat → Bool} {f : Nat → Nat} {n m : Nat} (h : n ≤ m) (hc : ∀ i, n ≤ i → i < m → c i = false) : bst bt c f m = bst bt c f n := by
  induction m with
  | zero => rw [show n = 0 by omega]
  | succ m ih =>
    by_cases e : n = m + 1
    · rw [e]
    · rw [bst_c (hc m (by omega) (by omega))]
      exact ih (by omega) (fun i h1 h2 => hc i h1 (by omega))
theorem bst_none {bt : Nat → Nat → Bool} {c : Nat → Bool} {f : Nat → Nat} : ∀ {n : Nat}, bst bt c f n = none → ∀ i, i < n → c i = false
  | 0, _, i, hi => absurd hi (Nat.not_lt_zero _)
  | n + 1, h, i, hi => by
    unfold bst at h
    cases e : bst bt c f n with
    | none =>
      rw [e] at h
      cases ec : c n
      · by_cases ei : i = n
        · rw [ei]; exact ec
        · exact bst_none e i (by omega)
      · rw [ec] at h; cases h
    | some q =>
      rw [e] at h
      by_cases cc : (c n && bt (f n) q.2) = true
      · simp only [cc, ↓reduceIte] at h; cases h
      · simp only [cc] at h; cases h
-- the shortest walk from p through all of s
def th (Wf : Nat → Nat → Nat) : Nat → Nat → Nat → Nat
  | 0, _, _ => 0
  | k + 1, s, p => match bst ltB s.testBit (fun q => Wf p q + th Wf k (rm s q) q) 7 with
    | none => 0
    | some q => q.2
def thr (Wf : Nat → Nat → Nat) (s p : Nat) : Nat := th Wf 7 s p
theorem th_same {Wf : Nat → Nat → Nat} : ∀ {k j s p : Nat}, s < 2 ^ 7 → cnt s.testBit 7 ≤ k → cnt s.testBit 7 ≤ j → th Wf k s p = th Wf j s p
  | 0, 0, s, p, _, _, _ => rfl
  | 0, j + 1, s, p, hs, hk, hj => by
    have hz := cnt_0 (p := s.testBit) (n := 7) (by omega)
    show 0 = _
    unfold th
    rw [show bst ltB s.testBit (fun q => Wf p q + th Wf j (rm s q) q) 7 = none from (bst_ge (n := 0) (m := 7) (by omega) (fun i _ hi => hz i hi)).trans rfl]
  | k + 1, 0, s, p, hs, hk, hj => by
    have hz := cnt_0 (p := s.testBit) (n := 7) (by omega)
    show _ = 0
    unfold th
    rw [show bst ltB s.testBit (fun q => Wf p q + th Wf k (rm s q) q) 7 = none from (bst_ge (n := 0) (m := 7) (by omega) (fun i _ hi => hz i hi)).trans rfl]
  | k + 1, j + 1, s, p, hs, hk, hj => by
    unfold th
    rw [bst_congr (g := fun q => Wf p q + th Wf j (rm s q) q) fun q hq hb => by
      have := cnt_rm hs hb
      rw [th_same (k := k) (j := j) (rm_lt7 _ _) (by omega) (by omega)]]
/-- the next one -/
def nxt (Wf : Nat → Nat → Nat) (s p : Nat) : Option (Nat × Nat) := bst ltB s.testBit (fun q => Wf p q + thr Wf (rm s q) q) 7
def v2 (q : Option (Nat × Nat)) : Nat := match q with | none => 0 | some q => q.2
theorem thr_eq {Wf : Nat → Nat → Nat} {s p : Nat} (hs : s < 2 ^ 7) : thr Wf s p = v2 (nxt Wf s p) := by
  unfold thr nxt
  show th Wf (6 + 1) s p = _
  unfold th
  rw [bst_congr (g := fun q => Wf p q + thr Wf (rm s q) q) fun q hq hb => by
    have h1 := cnt_rm hs hb
    have h2 := cnt_le (p := s.testBit) 7
    rw [th_same (k := 6) (j := 7) (rm_lt7 _ _) (by omega) (by omega)]
    rfl]
  rfl
theorem th_le {Wf : Nat → Nat → Nat} (hW : ∀ p q, Wf p q ≤ 99) : ∀ {k s p : Nat}, th Wf k s p ≤ 99 * k
  | 0, s, p => Nat.le_refl _
  | k + 1, s, p => by
    unfold th
    cases e : bst ltB s.testBit (fun q => Wf p q + th Wf k (rm s q) q) 7 with
    | none => exact Nat.zero_le _
    | some q =>
      have h := (bst_ok e).2.1
      show q.2 ≤ _
      rw [h]
      have h1 := hW p q.1
      have h2 := th_le hW (k := k) (s := rm s q.1) (p := q.1)
      show Wf p q.1 + th Wf k (rm s q.1) q.1 ≤ _
      omega
theorem thr_le {Wf : Nat → Nat → Nat} (hW : ∀ p q, Wf p q ≤ 99) {s p : Nat} : thr Wf s p ≤ 693 := th_le hW
def eX (q : Option (Nat × Nat)) : Int32 := match q with | none => -1 | some q => nI q.1
-- sums of what turfs ask
def sA (Af : Nat → Nat) (s : Nat) : Nat → Nat
  | 0 => 0
  | n + 1 => sA Af s n + (if s.testBit n then Af n else 0)
theorem sA_le {Af : Nat → Nat} (hA : ∀ p, Af p ≤ 99) {s : Nat} : ∀ n, sA Af s n ≤ 99 * n
  | 0 => Nat.le_refl _
  | n + 1 => by
    have := sA_le hA (s := s) n
    have := hA n
    unfold sA
    split <;> omega
theorem sA_congr {Af : Nat → Nat} {s t : Nat} : ∀ {n : Nat}, (∀ i, i < n → s.testBit i = t.testBit i) → sA Af s n = sA Af t n
  | 0, _ => rfl
  | n + 1, h => by
    unfold sA
    rw [sA_congr (n := n) fun i hi => h i (by omega), h n (by omega)]
theorem sA_rm {Af : Nat → Nat} {s q : Nat} (hs : s < 2 ^ 7) (hq : s.testBit q = true) : ∀ {n : Nat}, q < n → sA Af (rm s q) n + Af q = sA Af s n
  | 0, h => absurd h (Nat.not_lt_zero _)
  | n + 1, h => by
    unfold sA
    by_cases c : q = n
    · subst c
      rw [rm_q hs, hq, sA_congr (s := rm s q) (t := s) fun i hi => by rw [rm_bit hs, decide_eq_false (by omega)]; simp]
      simp
    · have ih := sA_rm hs hq (Af := Af) (n := n) (by omega)
      rw [rm_bit hs, decide_eq_false (show ¬ n = q from fun e => c e.symm), Bool.not_false, Bool.and_true]
      omega
theorem m7c {a b : Nat} : nI a * (7 : Int32) + nI b = nI (7 * a + b) := by
  rw [show (7 : Int32) = nI 7 from rfl, pk_mul, nI_add, Nat.mul_comm]
-- THE CLASS
def sub7 (s t : Nat) : Prop := ∀ i, s.testBit i = true → t.testBit i = true
def D_7 : Wr := (67, 2, none) :: D_C
def MW (σ : Mm) (d : Dt) (mo : Mo) (set : Nat) : Prop := (∀ p q, set.testBit p = true → set.testBit q = true → gI σ 67 (7 * p + q) = nI (wlk d mo p q)) ∧ ∀ p, set.testBit p = true → gI σ 68 p = nI (askV d mo p)
def Th (σ : Mm) (d : Dt) (mo : Mo) (set i : Nat) : Prop := ∀ s, s < i → sub7 s set → ∀ p, set.testBit p = true → s.testBit p = false → gI σ 69 (7 * s + p) = nI (thr (wlk d mo) s p)
theorem in7 {N s i : Nat} (hs : s < 2 ^ 7) (hi : i < 7) {σ : Mm} : f7_isIn N (nI s) (nI i) σ = some (b2 (s.testBit i), σ) := by
  unfold f7_isIn
  rw [bit_sr (by omega) (by omega)]
  cases s.testBit i <;> rfl
theorem wlk_le (d : Dt) (mo : Mo) (p q : Nat) : wlk d mo p q ≤ 99 := hld_le _ _
theorem ask_le (d : Dt) (mo : Mo) (p : Nat) : askV d mo p ≤ 99 := hld_le _ _
theorem b7 {s i : Nat} (hs : s < 2 ^ 7) (h : s.testBit i = true) : i < 7 := by
  by_cases c : i < 7
  · exact c
  · rw [bit7 hs (by omega)] at h; exact Bool.noConfusion h
theorem rm_sub {s q set : Nat} (hs : s < 2 ^ 7) (h : sub7 s set) : sub7 (rm s q) set := fun i hi => by
  rw [rm_bit hs] at hi
  rw [Bool.and_eq_true] at hi
  exact h i hi.1
theorem c_lengthBy {N : Nat} {σ : Mm} {d : Dt} {mo : Mo} {set s p q : Nat} (hset : set < 2 ^ 7) (hs : s < 2 ^ 7) (hsub : sub7 s set) (hp : set.testBit p = true) (hq : s.testBit q = true) (hMW : MW σ d mo set) (hTh : Th σ d mo set s) : f7_lengthBy N (nI p) (nI q) (nI s) σ = some (nI (wlk d mo p q + thr (wlk d mo) (rm s q) q), σ) := by
  have hq7 := b7 hs hq
  have hp7 := b7 hset hp
  have hr := rm_lt7 s q
  unfold f7_lengthBy
  rw [rmN hs hq7, z_l_eq, m7c, m7c, zc_t (inBn (by omega) (by decide)), zc_t (inBn (by omega) (by decide)), ixn (by omega), ixn (by omega), hMW.1 p q hp (hsub q hq), hTh (rm s q) (rm_lt hs hq) (rm_sub hs hsub) q (hsub q hq) (rm_q hs), nI_add]
theorem c_nextPlot {N : Nat} (hN : 4000 ≤ N) {σ : Mm} {d : Dt} {mo : Mo} {set s p : Nat} (hset : set < 2 ^ 7) (hs : s < 2 ^ 7) (hsub : sub7 s set) (hp : set.testBit p = true) (hMW : MW σ d mo set) (hTh : Th σ d mo set s) : f7_nextPlot N (nI p) (nI s) σ = some (eX (nxt (wlk d mo) s p), σ) := by
  have hp7 := b7 hset hp
  have hfl : ∀ q, wlk d mo p q + thr (wlk d mo) (rm s q) q ≤ 800 := fun q => by
    have h1 := wlk_le d mo p q
    have h2 := thr_le (wlk_le d mo) (s := rm s q) (p := q)
    omega
  have h : Ok (f7_nextPlot N (nI p) (nI s) σ) (fun r τ => r = eX (nxt (wlk d mo) s p) ∧ τ = σ) := by
    unfold f7_nextPlot
    refine Ok.lp (fun fu (a : Int32 × Int32) i τ => f7_nextPlot_8 N (nI p) (nI s) fu a.1 a.2 i τ) 7 (fun i a τ => a = (eX (bst ltB s.testBit (fun q => wlk d mo p q + thr (wlk d mo) (rm s q) q) i), e2 0 (bst ltB s.testBit (fun q => wlk d mo p q + thr (wlk d mo) (rm s q) q) i)) ∧ τ = σ) (a := (-1, 0)) ⟨rfl, rfl⟩ (by omega) ?_ ?_
    · rintro fu i a τ hi ⟨rfl, rfl⟩ kk
      show Ok (f7_nextPlot_8 N (nI p) (nI s) (fu + 1) _ _ (nI i) τ) _
      rw [f7_nextPlot_8, in7 hs hi, z_b_some]
      refine Ok.f (nI_ngt (n := 7) hi (by decide)) (Ok.i (fun c => ?_) (fun c => ?_))
      · rw [b2_0] at c
        rw [f7_nextPlot_53, z_l_eq, nI_1]
        exact kk (_, _) _ ⟨by rw [bst_c c] <;> rfl, rfl⟩
      · rw [b2_0] at c
        have c' : s.testBit i = true := by simpa using c
        rw [c_lengthBy hset hs hsub hp c' hMW hTh, z_b_some]
        have hi8 := hfl i
        cases hb : bst ltB s.testBit (fun q => wlk d mo p q + thr (wlk d mo) (rm s q) q) i with
        | none =>
          refine Ok.t rfl ?_
          rw [f7_nextPlot_46, f7_nextPlot_53, z_l_eq, nI_1]
          exact kk (_, _) _ ⟨by rw [mn_n hb c'] <;> rfl, rfl⟩
        | some q =>
          have hq := bst_ok hb
          have hq2 := hfl q.1
          have hq3 : q.2 ≤ 800 := by rw [hq.2.1]; exact hq2
          refine Ok.f (show ¬ nI q.1 = -1 from fun e => nI_pos (n := q.1) (by omega) (by rw [e]; decide)) (Ok.i (fun h2 => ?_) (fun h2 => ?_))
          · have h2 : nI q.2 ≤ nI (wlk d mo p i + thr (wlk d mo) (rm s i) i) := h2
            rw [nI_leI (by omega) (by omega)] at h2
            rw [f7_nextPlot_53, z_l_eq, nI_1]
            exact kk (_, _) _ ⟨by rw [mn_keep hb (by omega), hb] <;> rfl, rfl⟩
          · have h2 : ¬ nI q.2 ≤ nI (wlk d mo p i + thr (wlk d mo) (rm s i) i) := h2
            rw [nI_leI (by omega) (by omega)] at h2
            rw [f7_nextPlot_46, f7_nextPlot_53, z_l_eq, nI_1]
            exact kk (_, _) _ ⟨by rw [mn_set hb c' (by omega)] <;> rfl, rfl⟩
    · rintro fu a τ ⟨rfl, rfl⟩
      show Ok (f7_nextPlot_8 N (nI p) (nI s) (fu + 1) _ _ (nI 7) τ) _
      rw [f7_nextPlot_8]
      exact Ok.t nI_rf (Ok.ret ⟨rfl, rfl⟩)
  obtain ⟨r, τ, e, rfl, rfl⟩ := h
  exact e
