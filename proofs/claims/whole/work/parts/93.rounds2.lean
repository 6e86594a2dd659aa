-- ROUNDS: the class
theorem sA_f {Af : Nat → Nat} {s i : Nat} (h : s.testBit i = false) : sA Af s (i + 1) = sA Af s i := by
  show sA Af s i + (if s.testBit i = true then Af i else 0) = _
  rw [h]; simp
theorem sA_t {Af : Nat → Nat} {s i : Nat} (h : s.testBit i = true) : sA Af s (i + 1) = sA Af s i + Af i := by
  show sA Af s i + (if s.testBit i = true then Af i else 0) = _
  rw [h]; simp
theorem c_findThrough {N : Nat} (hN : 4000 ≤ N) {σ : Mm} {d : Dt} {mo : Mo} {set s : Nat} (hset : set < 2 ^ 7) (hs : s < 2 ^ 7) (hsub : sub7 s set) (hMW : MW σ d mo set) (hTh : Th σ d mo set s) : Ok (f7_findThrough N (nI set) (nI s) σ) (fun _ τ => MW τ d mo set ∧ Th τ d mo set (s + 1)) := by
  have hdf : nI set &&& (nI s ^^^ (-1 : Int32)) = nI (bs (fun i => set.testBit i && !s.testBit i) 7) := by
    rw [xor1, show nI set = nI (bs set.testBit 7) from congrArg nI (bs_of hset), show nI s = nI (bs s.testBit 7) from congrArg nI (bs_of hs), diffN (by decide)]
  unfold f7_findThrough
  refine Ok.lp (fun fu (_ : Unit) i τ => f7_findThrough_2 N (nI set) (nI s) fu i τ) 7 (fun i _ τ => MW τ d mo set ∧ Th τ d mo set s ∧ ∀ p, p < i → set.testBit p = true → s.testBit p = false → gI τ 69 (7 * s + p) = nI (thr (wlk d mo) s p)) (a := ()) ⟨hMW, hTh, fun p hp => absurd hp (Nat.not_lt_zero _)⟩ (by omega) ?_ ?_
  · rintro fu i a τ hi ⟨hMW, hTh, h0⟩ kk
    show Ok (f7_findThrough_2 N (nI set) (nI s) (fu + 1) (nI i) τ) _
    rw [f7_findThrough_2, hdf, in7 (bs_lt 7) hi, z_b_some, bs_bit, decide_eq_true hi, Bool.true_and]
    refine Ok.f (nI_ngt (n := 7) hi (by decide)) (Ok.i (fun c => ?_) (fun c => ?_))
    · rw [b2_0] at c
      rw [f7_findThrough_57, z_l_eq, nI_1]
      refine kk () _ ⟨hMW, hTh, fun p hp h1 h2 => ?_⟩
      by_cases e : p = i
      · rw [e] at h1 h2
        rw [h1, h2] at c
        exact absurd c (by decide)
      · exact h0 p (by omega) h1 h2
    · rw [b2_0] at c
      have c' : set.testBit i = true ∧ s.testBit i = false := by
        cases e1 : set.testBit i <;> cases e2 : s.testBit i <;> rw [e1, e2] at c <;> simp at c ⊢
      have h56 : ∀ x : Nat, x = thr (wlk d mo) s i → Ok (f7_findThrough_56 N (fun x3 σ => f7_findThrough_2 N (nI set) (nI s) fu x3 σ) (nI set) (nI s) (nI i) (nI s * (7 : Int32) + nI i) (nI x) τ) (fun _ τ => MW τ d mo set ∧ Th τ d mo set (s + 1)) := by
        rintro x rfl
        rw [f7_findThrough_56, m7c, ixn (by omega)]
        refine Ok.c (inBn (by omega) (by decide)) (Ok.l ?_)
        rw [f7_findThrough_57, z_l_eq, nI_1]
        refine kk () _ ⟨⟨fun p q h1 h2 => by rw [gI_o (by decide)]; exact hMW.1 p q h1 h2, fun p h1 => by rw [gI_o (by decide)]; exact hMW.2 p h1⟩, fun t ht hts p h1 h2 => ?_, fun p hp h1 h2 => ?_⟩
        · have := b7 hset h1
          rw [gI_k (by omega)]; exact hTh t ht hts p h1 h2
        · by_cases e : p = i
          · rw [e, gI_e]
          · rw [gI_k (by omega)]; exact h0 p (by omega) h1 h2
      rw [c_nextPlot hN hset hs hsub c'.1 hMW hTh, z_b_some]
      cases hx : nxt (wlk d mo) s i with
      | none =>
        refine Ok.t rfl (h56 0 ?_)
        rw [thr_eq hs, hx]
        rfl
      | some q =>
        have hq := bst_ok hx
        refine Ok.f (show ¬ nI q.1 = -1 from fun e => nI_pos (n := q.1) (by omega) (by rw [e]; decide)) ?_
        rw [show eX (some q) = nI q.1 from rfl, c_lengthBy hset hs hsub c'.1 hq.2.2 hMW hTh, z_b_some]
        refine h56 _ ?_
        rw [thr_eq hs, hx]
        exact hq.2.1.symm
  · rintro fu a τ ⟨hMW, hTh, h0⟩
    show Ok (f7_findThrough_2 N (nI set) (nI s) (fu + 1) (nI 7) τ) _
    rw [f7_findThrough_2]
    refine Ok.t nI_rf (Ok.ret ⟨hMW, fun t ht hts p h1 h2 => ?_⟩)
    by_cases e : t = s
    · subst e
      exact h0 p (b7 hset h1) h1 h2
    · exact hTh t (by omega) hts p h1 h2
theorem c_measure {N : Nat} (hN : 4000 ≤ N) {σ : Mm} {o : Nat} {d : Dt} {mo : Mo} (hd : Dok d) (hc : CL N σ o d) (hm : CM σ 56 d mo) {set : Nat} (hset : set < 2 ^ dQ d) : Ok (f7_measure N 56 (nI set) σ) (fun _ τ => MW τ d mo set ∧ Th τ d mo set (set + 1)) := by
  obtain ⟨d1, d2, d3, d4, d5, d6, d7, d8⟩ := id hd
  have h7 : set < 2 ^ 7 := Nat.lt_of_lt_of_le hset (Nat.pow_le_pow_right (by decide) d2)
  have hQb : ∀ i, set.testBit i = true → i < dQ d := fun i hi => by
    by_cases c : i < dQ d
    · exact c
    · rw [Nat.testBit_lt_two_pow (Nat.lt_of_lt_of_le hset (Nat.pow_le_pow_right (by decide) (by omega)))] at hi
      exact Bool.noConfusion hi
  unfold f7_measure
  refine Ok.lp (fun fu (_ : Unit) i τ => f7_measure_3 N 56 (nI set) fu i τ) 7 (fun i _ τ => (∀ p q, p < i → set.testBit p = true → set.testBit q = true → gI τ 67 (7 * p + q) = nI (wlk d mo p q)) ∧ (∀ p, p < i → set.testBit p = true → gI τ 68 p = nI (askV d mo p)) ∧ EqOn D_C σ τ) (a := ()) ⟨fun p q hp => absurd hp (Nat.not_lt_zero _), fun p hp => absurd hp (Nat.not_lt_zero _), EqOn.rf⟩ (by omega) ?_ ?_
  · rintro fu i a τ hi ⟨h0, h1, hE⟩ kk
    show Ok (f7_measure_3 N 56 (nI set) (fu + 1) (nI i) τ) _
    rw [f7_measure_3, in7 h7 hi, z_b_some]
    refine Ok.f (nI_ngt (n := 7) hi (by decide)) (Ok.i (fun c => ?_) (fun c => ?_))
    · rw [b2_0] at c
      rw [f7_measure_80, z_l_eq, nI_1]
      refine kk () _ ⟨fun p q hp a1 a2 => ?_, fun p hp a1 => ?_, hE⟩
      · by_cases e : p = i
        · rw [e, c] at a1; exact Bool.noConfusion a1
        · exact h0 p q (by omega) a1 a2
      · by_cases e : p = i
        · rw [e, c] at a1; exact Bool.noConfusion a1
        · exact h1 p (by omega) a1
    · rw [b2_0] at c
      have c' : set.testBit i = true := by simpa using c
      refine Ok.b (c_asking hN hd (hc.eq hE.C0) (hm.eq (Or.inl rfl) hE) (Or.inl rfl) (hQb i c')).run ?_
      rintro r υ ⟨⟨rfl, hU⟩, er⟩
      have hS := (fr0_asking N er).on (D := [(67, 2, none)]) rfl
      refine Ok.c (inBn hi (by decide)) (Ok.l ?_)
      rw [ixn (by omega)]
      refine Ok.lp (fun fu2 (_ : Unit) j ρ => f7_measure_36 N (fun x4 σ => f7_measure_3 N 56 (nI set) fu x4 σ) 56 (nI set) (nI i) fu2 j ρ) 7 (fun j _ ρ => (∀ p q, p < i → set.testBit p = true → set.testBit q = true → gI ρ 67 (7 * p + q) = nI (wlk d mo p q)) ∧ (∀ q, q < j → set.testBit q = true → gI ρ 67 (7 * i + q) = nI (wlk d mo i q)) ∧ (∀ p, p < i + 1 → set.testBit p = true → gI ρ 68 p = nI (askV d mo p)) ∧ EqOn D_C σ ρ) (a := ()) ⟨fun p q hp a1 a2 => ?_, fun q hq => absurd hq (Nat.not_lt_zero _), fun p hp a1 => ?_, EqOn_sIa (hE.tr hU) (by decide)⟩ (by omega) ?_ ?_
      · rw [gI_o (by decide), hS.I (wIn_r 0 rfl (by decide) (by decide))]; exact h0 p q hp a1 a2
      · by_cases e : p = i
        · rw [e, gI_e]
        · rw [gI_k e, hS.I (wIn_r 0 rfl (by decide) (by decide))]; exact h1 p (by omega) a1
      · rintro fu2 j b ρ hj ⟨g0, g1, g2, hR⟩ kk2
        show Ok (f7_measure_36 N _ 56 (nI set) (nI i) (fu2 + 1) (nI j) ρ) _
        rw [f7_measure_36, in7 h7 hj, z_b_some, m7c]
        refine Ok.f (nI_ngt (n := 7) hj (by decide)) (Ok.i (fun c2 => ?_) (fun c2 => ?_))
        · rw [b2_0] at c2
          rw [f7_measure_74, z_l_eq, nI_1]
          refine kk2 () _ ⟨g0, fun q hq a1 => ?_, g2, hR⟩
          by_cases e : q = j
          · rw [e, c2] at a1; exact Bool.noConfusion a1
          · exact g1 q (by omega) a1
        · rw [b2_0] at c2
          have c2' : set.testBit j = true := by simpa using c2
          refine Ok.b (c_walking hN hd (hc.eq hR.C0) (hm.eq (Or.inl rfl) hR) (Or.inl rfl) (hQb i c') (hQb j c2')).run ?_
          rintro r ρ2 ⟨⟨rfl, hR2⟩, er2⟩
          have hS2 := (fr0_walking N er2).on (D := [(67, 2, none)]) rfl
          refine Ok.c (inBn (by omega) (by decide)) (Ok.l ?_)
          rw [ixn (by omega), f7_measure_74, z_l_eq, nI_1]
          refine kk2 () _ ⟨fun p q hp a1 a2 => ?_, fun q hq a1 => ?_, fun p hp a1 => ?_, EqOn_sIa (hR.tr hR2) (by decide)⟩
          · have hq7 := b7 h7 a2
            rw [gI_k (by omega), hS2.I (wIn_r 0 rfl (by decide) (by decide))]; exact g0 p q hp a1 a2
          · by_cases e : q = j
            · rw [e, gI_e]
            · rw [gI_k (by omega), hS2.I (wIn_r 0 rfl (by decide) (by decide))]; exact g1 q (by omega) a1
          · rw [gI_o (by decide), hS2.I (wIn_r 0 rfl (by decide) (by decide))]; exact g2 p hp a1
      · rintro fu2 b ρ ⟨g0, g1, g2, hR⟩
        show Ok (f7_measure_36 N _ 56 (nI set) (nI i) (fu2 + 1) (nI 7) ρ) _
        rw [f7_measure_36]
        refine Ok.t nI_rf ?_
        rw [f7_measure_80, z_l_eq, nI_1]
        refine kk () _ ⟨fun p q hp a1 a2 => ?_, fun p hp a1 => g2 p hp a1, hR⟩
        by_cases e : p = i
        · rw [e]; exact g1 q (b7 h7 a2) a2
        · exact g0 p q (by omega) a1 a2
  · rintro fu a τ ⟨h0, h1, hE⟩
    show Ok (f7_measure_3 N 56 (nI set) (fu + 1) (nI 7) τ) _
    rw [f7_measure_3]
    refine Ok.t nI_rf ?_
    rw [f7_measure_86]
    have hMW0 : MW τ d mo set := ⟨fun p q a1 a2 => h0 p q (b7 h7 a1) a1 a2, fun p a1 => h1 p (b7 h7 a1) a1⟩
    refine Ok.lp (fun fu (_ : Unit) i τ => f7_measure_89 N 56 (nI set) fu i τ) (set + 1) (fun i _ ρ => MW ρ d mo set ∧ Th ρ d mo set i) (a := ()) ⟨hMW0, fun s hs => absurd hs (Nat.not_lt_zero _)⟩ (by omega) ?_ ?_
    · rintro fu i a ρ hi ⟨hMW, hTh⟩ kk
      show Ok (f7_measure_89 N 56 (nI set) (fu + 1) (nI i) ρ) _
      rw [f7_measure_89]
      have hi7 : i < 2 ^ 7 := by omega
      have hsb : (nI i &&& (nI set ^^^ (-1 : Int32)) = 0) = sub7 i set := by
        rw [xor1, show nI i = nI (bs i.testBit 7) from congrArg nI (bs_of hi7), show nI set = nI (bs set.testBit 7) from congrArg nI (bs_of h7), diffN (by decide)]
        have hb := bs_lt (p := fun j => i.testBit j && !set.testBit j) 7
        rw [show (0 : Int32) = nI 0 from rfl, nI_eq (by omega) (by decide), bs_0]
        refine propext ⟨fun h j hj => ?_, fun h j hj => ?_⟩
        · have := h j (b7 hi7 hj)
          rw [hj] at this
          simpa using this
        · cases e : i.testBit j
          · rfl
          · rw [h j e]; rfl
      refine Ok.f (nI_nlt (by omega) (by omega)) (Ok.f (nI_ngt (n := 128) (by omega) (by decide)) (Ok.i (fun c => ?_) (fun c => ?_)))
      · rw [hsb] at c
        refine Ok.b (c_findThrough hN h7 hi7 c hMW hTh) ?_
        rintro u ρ2 ⟨k1, k2⟩
        rw [f7_measure_119, z_l_eq, nI_1]
        exact kk () _ ⟨k1, k2⟩
      · rw [hsb] at c
        rw [f7_measure_119, z_l_eq, nI_1]
        refine kk () _ ⟨hMW, fun s hs hss p a1 a2 => ?_⟩
        by_cases e : s = i
        · exact absurd (e ▸ hss) c
        · exact hTh s (by omega) hss p a1 a2
    · rintro fu a ρ ⟨hMW, hTh⟩
      show Ok (f7_measure_89 N 56 (nI set) (fu + 1) (nI (set + 1)) ρ) _
      rw [f7_measure_89]
      exact Ok.t (nI_lt (by omega) (by omega)) (Ok.ret ⟨hMW, hTh⟩)
/-- the first plot of a round -/
def frs (Wf : Nat → Nat → Nat) (s : Nat) : Option (Nat × Nat) := bst ltB s.testBit (fun p => thr Wf (rm s p) p) 7
theorem c_firstPlot {N : Nat} (hN : 4000 ≤ N) {σ : Mm} {d : Dt} {mo : Mo} {set : Nat} (hset : set < 2 ^ 7) (hTh : Th σ d mo set (set + 1)) : f7_firstPlot N (nI set) σ = some (eX (frs (wlk d mo) set), σ) := by
  have h : Ok (f7_firstPlot N (nI set) σ) (fun r τ => r = eX (frs (wlk d mo) set) ∧ τ = σ) := by
    unfold f7_firstPlot
    refine Ok.lp (fun fu (a : Int32 × Int32) i τ => f7_firstPlot_7 N (nI set) fu a.1 a.2 i τ) 7 (fun i a τ => a = (eX (bst ltB set.testBit (fun p => thr (wlk d mo) (rm set p) p) i), e2 0 (bst ltB set.testBit (fun p => thr (wlk d mo) (rm set p) p) i)) ∧ τ = σ) (a := (-1, 0)) ⟨rfl, rfl⟩ (by omega) ?_ ?_
    · rintro fu i a τ hi ⟨rfl, rfl⟩ kk
      have hr := rm_lt7 set i
      show Ok (f7_firstPlot_7 N (nI set) (fu + 1) _ _ (nI i) τ) _
      rw [f7_firstPlot_7, in7 hset hi, z_b_some, rmN hset hi, m7c]
      refine Ok.f (nI_ngt (n := 7) hi (by decide)) (Ok.i (fun c => ?_) (fun c => ?_))
      · rw [b2_0] at c
        rw [f7_firstPlot_61, z_l_eq, nI_1]
        exact kk (_, _) _ ⟨by rw [bst_c c] <;> rfl, rfl⟩
      · rw [b2_0] at c
        have c' : set.testBit i = true := by simpa using c
        rw [ixn (by omega), hTh (rm set i) (by have := rm_lt hset c'; omega) (rm_sub hset (fun _ h => h)) i c' (rm_q hset)]
        have hi8 := thr_le (wlk_le d mo) (s := rm set i) (p := i)
        refine Ok.c (inBn (by omega) (by decide)) (Ok.l ?_)
        cases hb : bst ltB set.testBit (fun p => thr (wlk d mo) (rm set p) p) i with
        | none =>
          refine Ok.t rfl ?_
          rw [f7_firstPlot_55, f7_firstPlot_61, z_l_eq, nI_1]
          exact kk (_, _) _ ⟨by rw [mn_n hb c'] <;> rfl, rfl⟩
        | some q =>
          have hq := bst_ok hb
          have hq2 : q.2 ≤ 693 := by rw [hq.2.1]; exact thr_le (wlk_le d mo)
          refine Ok.f (show ¬ nI q.1 = -1 from fun e => nI_pos (n := q.1) (by omega) (by rw [e]; decide)) (Ok.i (fun h2 => ?_) (fun h2 => ?_))
          · have h2 : nI q.2 ≤ nI (thr (wlk d mo) (rm set i) i) := h2
            rw [nI_leI (by omega) (by omega)] at h2
            rw [f7_firstPlot_61, z_l_eq, nI_1]
            exact kk (_, _) _ ⟨by rw [mn_keep hb (by omega), hb] <;> rfl, rfl⟩
          · have h2 : ¬ nI q.2 ≤ nI (thr (wlk d mo) (rm set i) i) := h2
            rw [nI_leI (by omega) (by omega)] at h2
            rw [f7_firstPlot_55, f7_firstPlot_61, z_l_eq, nI_1]
            exact kk (_, _) _ ⟨by rw [mn_set hb c' (by omega)] <;> rfl, rfl⟩
    · rintro fu a τ ⟨rfl, rfl⟩
      show Ok (f7_firstPlot_7 N (nI set) (fu + 1) _ _ (nI 7) τ) _
      rw [f7_firstPlot_7]
      exact Ok.t nI_rf (Ok.ret ⟨rfl, rfl⟩)
  obtain ⟨r, τ, e, rfl, rfl⟩ := h
  exact e
theorem c_askOfAll {N : Nat} (hN : 4000 ≤ N) {σ : Mm} {d : Dt} {mo : Mo} {set s : Nat} (hs : s < 2 ^ 7) (hsub : sub7 s set) (hMW : MW σ d mo set) : f7_askOfAll N (nI s) σ = some (nI (sA (askV d mo) s 7), σ) := by
  have h : Ok (f7_askOfAll N (nI s) σ) (fun r τ => r = nI (sA (askV d mo) s 7) ∧ τ = σ) := by
    unfold f7_askOfAll
    refine Ok.lp (fun fu (a : Int32) i τ => f7_askOfAll_4 N (nI s) fu a i τ) 7 (fun i a τ => a = nI (sA (askV d mo) s i) ∧ τ = σ) ⟨rfl, rfl⟩ (by omega) ?_ ?_
    · rintro fu i a τ hi ⟨rfl, rfl⟩ kk
      show Ok (f7_askOfAll_4 N (nI s) (fu + 1) _ (nI i) τ) _
      rw [f7_askOfAll_4, in7 hs hi, z_b_some]
      refine Ok.f (nI_ngt (n := 7) hi (by decide)) (Ok.i (fun c => ?_) (fun c => ?_))
      · rw [b2_0] at c
        rw [f7_askOfAll_27, z_l_eq, nI_1]
        exact kk _ _ ⟨by rw [sA_f c], rfl⟩
      · rw [b2_0] at c
        have c' : s.testBit i = true := by simpa using c
        refine Ok.c (inBn hi (by decide)) ?_
        rw [ixn (by omega), hMW.2 i (hsub i c'), z_l_eq, f7_askOfAll_27, z_l_eq, nI_1, nI_add]
        exact kk _ _ ⟨by rw [sA_t c'], rfl⟩
    · rintro fu a τ ⟨rfl, rfl⟩
      show Ok (f7_askOfAll_4 N (nI s) (fu + 1) _ (nI 7) τ) _
      rw [f7_askOfAll_4]
      exact Ok.t nI_rf (Ok.ret ⟨rfl, rfl⟩)
  obtain ⟨r, τ, e, rfl, rfl⟩ := h
  exact e
