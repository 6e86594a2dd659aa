-- ROUNDS: the reference, and the pair round
theorem r_fillsWalks {N : Nat} (hN : 4000 ≤ N) {σ : Mm} {v : Nat} {d : Dt} {mo : Mo} {sd : Int32} (hd : Dok d) (hS : MSt N σ v d mo sd) : Ok (f11_fillsWalks N σ) (fun _ τ => (∀ p q, p < dQ d → q < dQ d → gI τ 206 (7 * p + q) = nI (wlk d mo p q)) ∧ (∀ p, p < dQ d → gI τ 207 p = nI (askV d mo p)) ∧ ML N τ v d) := by
  obtain ⟨d1, d2, d3, d4, d5, d6, d7, d8⟩ := id hd
  unfold f11_fillsWalks
  refine Ok.b (r_copies hN hd hS) ?_
  rintro u τ ⟨hM, -, -, -, -, hS2⟩
  refine Ok.lp (fun fu (_ : Unit) i ρ => f11_fillsWalks_6 N fu i ρ) (dQ d) (fun i _ ρ => (∀ p q, p < i → q < dQ d → gI ρ 206 (7 * p + q) = nI (wlk d mo p q)) ∧ (∀ p, p < i → gI ρ 207 p = nI (askV d mo p)) ∧ EqOn D_M τ ρ) (a := ()) ⟨fun p q hp => absurd hp (Nat.not_lt_zero _), fun p hp => absurd hp (Nat.not_lt_zero _), EqOn.rf⟩ (by omega) ?_ ?_
  · rintro fu i a ρ hi ⟨h0, h1, hE⟩ kk
    obtain ⟨hv2, h18, hP, hQ, hW, hK, hpl, hme, hlaw⟩ := hS2.1.eq hE.M0
    show Ok (f11_fillsWalks_6 N (fu + 1) (nI i) ρ) _
    rw [f11_fillsWalks_6, h18, ixn (show v < 2 ^ 31 by omega), hQ]
    refine Ok.c (inBn hv2 (by decide)) (Ok.f (nI_ngt hi (by omega)) (Ok.b (r_asksAt hN hd (hS2.1.eq hE.M0) (hM.eq hE) hi).run ?_))
    rintro r υ ⟨⟨rfl, hU⟩, er⟩
    have hSf := (fr11_asksAt N er).on (D := [(206, 2, none)]) rfl
    refine Ok.c (inBn (by omega) (by decide)) (Ok.l ?_)
    rw [ixn (by omega)]
    refine Ok.lp (fun fu2 (_ : Unit) j ρ => f11_fillsWalks_32 N (fun x1 σ => f11_fillsWalks_6 N fu x1 σ) (nI i) fu2 j ρ) (dQ d) (fun j _ ρ => (∀ p q, p < i → q < dQ d → gI ρ 206 (7 * p + q) = nI (wlk d mo p q)) ∧ (∀ q, q < j → gI ρ 206 (7 * i + q) = nI (wlk d mo i q)) ∧ (∀ p, p < i + 1 → gI ρ 207 p = nI (askV d mo p)) ∧ EqOn D_M τ ρ) (a := ()) ⟨fun p q hp a2 => ?_, fun q hq => absurd hq (Nat.not_lt_zero _), fun p hp => ?_, EqOn_sIa (hE.tr hU) (by decide)⟩ (by omega) ?_ ?_
    · rw [gI_o (by decide), hSf.I (wIn_r 0 rfl (by decide) (by decide))]; exact h0 p q hp a2
    · by_cases e : p = i
      · rw [e, gI_e]
      · rw [gI_k e, hSf.I (wIn_r 0 rfl (by decide) (by decide))]; exact h1 p (by omega)
    · rintro fu2 j b ρ2 hj ⟨g0, g1, g2, hR⟩ kk2
      obtain ⟨hv2, h18, hP, hQ, hW, hK, hpl, hme, hlaw⟩ := hS2.1.eq hR.M0
      show Ok (f11_fillsWalks_32 N _ (nI i) (fu2 + 1) (nI j) ρ2) _
      rw [f11_fillsWalks_32, h18, ixn (show v < 2 ^ 31 by omega), hQ, m7]
      refine Ok.c (inBn hv2 (by decide)) (Ok.f (nI_ngt hj (by omega)) (Ok.b (r_walksTo hN hd (hS2.1.eq hR.M0) (hM.eq hR) hi hj).run ?_))
      rintro r ρ3 ⟨⟨rfl, hR3⟩, er3⟩
      have hSf2 := (fr11_walksTo N er3).on (D := [(206, 2, none)]) rfl
      refine Ok.c (inBn (by omega) (by decide)) (Ok.l (Ok.l ?_))
      rw [ixn (by omega), nI_1]
      refine kk2 () _ ⟨fun p q hp a2 => ?_, fun q hq => ?_, fun p hp => ?_, EqOn_sIa (hR.tr hR3) (by decide)⟩
      · rw [gI_k (by omega), hSf2.I (wIn_r 0 rfl (by decide) (by decide))]; exact g0 p q hp a2
      · by_cases e : q = j
        · rw [e, gI_e]
        · rw [gI_k (by omega), hSf2.I (wIn_r 0 rfl (by decide) (by decide))]; exact g1 q (by omega)
      · rw [gI_o (by decide), hSf2.I (wIn_r 0 rfl (by decide) (by decide))]; exact g2 p hp
    · rintro fu2 b ρ2 ⟨g0, g1, g2, hR⟩
      obtain ⟨hv2, h18, hP, hQ, hW, hK, hpl, hme, hlaw⟩ := hS2.1.eq hR.M0
      show Ok (f11_fillsWalks_32 N _ (nI i) (fu2 + 1) (nI (dQ d)) ρ2) _
      rw [f11_fillsWalks_32, h18, ixn (show v < 2 ^ 31 by omega), hQ]
      refine Ok.c (inBn hv2 (by decide)) (Ok.t nI_rf ?_)
      rw [f11_fillsWalks_68, z_l_eq, nI_1]
      refine kk () _ ⟨fun p q hp a2 => ?_, g2, hR⟩
      by_cases e : p = i
      · rw [e]; exact g1 q a2
      · exact g0 p q (by omega) a2
  · rintro fu a ρ ⟨h0, h1, hE⟩
    obtain ⟨hv2, h18, hP, hQ, hW, hK, hpl, hme, hlaw⟩ := hS2.1.eq hE.M0
    show Ok (f11_fillsWalks_6 N (fu + 1) (nI (dQ d)) ρ) _
    rw [f11_fillsWalks_6, h18, ixn (show v < 2 ^ 31 by omega), hQ]
    exact Ok.c (inBn hv2 (by decide)) (Ok.t nI_rf (Ok.ret ⟨h0, h1, hS2.1.eq hE.M0⟩))
/-- how long a round takes that begins with p -/
def tk (Wf : Nat → Nat → Nat) (Af : Nat → Nat) (s p : Nat) : Nat := sA Af s 7 + thr Wf (rm s p) p
theorem tk_le (d : Dt) (mo : Mo) (s p : Nat) : tk (wlk d mo) (askV d mo) s p ≤ 1386 := by
  unfold tk
  have h1 := sA_le (ask_le d mo) (s := s) 7
  have h2 := thr_le (wlk_le d mo) (s := rm s p) (p := p)
  omega
def RW (σ : Mm) (d : Dt) (mo : Mo) : Prop := (∀ p q, p < dQ d → q < dQ d → gI σ 206 (7 * p + q) = nI (wlk d mo p q)) ∧ (∀ p, p < dQ d → gI σ 207 p = nI (askV d mo p))
def Tk (σ : Mm) (d : Dt) (mo : Mo) (i : Nat) : Prop := ∀ s, s < i → ∀ p, s.testBit p = true → gI σ 205 (7 * s + p) = nI (tk (wlk d mo) (askV d mo) s p)
theorem bQ {d : Dt} {s i : Nat} (hs : s < 2 ^ dQ d) (hi : s.testBit i = true) : i < dQ d := by
  by_cases c : i < dQ d
  · exact c
  · rw [Nat.testBit_lt_two_pow (Nat.lt_of_lt_of_le hs (Nat.pow_le_pow_right (by decide) (by omega)))] at hi
    exact Bool.noConfusion hi
theorem nxt_Q {d : Dt} (hd : Dok d) {Wf : Nat → Nat → Nat} {s p C : Nat} (hs : s < 2 ^ dQ d) : bst ltB s.testBit (fun o => C + (Wf p o + thr Wf (rm s o) o)) (dQ d) = (nxt Wf s p).map (fun q => (q.1, C + q.2)) := by
  rw [bst_add, nxt, bst_ge (n := dQ d) (m := 7) hd.2.1 (fun i h1 h2 => by
    cases e : s.testBit i
    · rfl
    · have := bQ hs e; omega)]
theorem eX_map {q : Option (Nat × Nat)} {C : Nat} : eX (q.map (fun q => (q.1, C + q.2))) = eX q := by cases q <;> rfl
theorem r_nextOf {N : Nat} (hN : 4000 ≤ N) {σ : Mm} {v : Nat} {d : Dt} {mo : Mo} (hd : Dok d) (hc : ML N σ v d) (hRW : RW σ d mo) {s p : Nat} (hs : s < 2 ^ dQ d) (hp : s.testBit p = true) (hTk : Tk σ d mo s) : f11_nextOf N (nI s) (nI p) σ = some (eX (nxt (wlk d mo) (rm s p) p), σ) := by
  obtain ⟨d1, d2, d3, d4, d5, d6, d7, d8⟩ := id hd
  obtain ⟨hv2, h18, hP, hQ, hW, hK, hpl, hme, hlaw⟩ := id hc
  have h7 : s < 2 ^ 7 := Nat.lt_of_lt_of_le hs (Nat.pow_le_pow_right (by decide) d2)
  have hpQ := bQ hs hp
  obtain ⟨l, hl⟩ : ∃ l, l = rm s p := ⟨_, rfl⟩
  have hls : l < s := by rw [hl]; exact rm_lt h7 hp
  have hl7 : l < 2 ^ 7 := by omega
  have hlQ : l < 2 ^ dQ d := by omega
  have hkey : ∀ o, l.testBit o = true → wlk d mo p o + tk (wlk d mo) (askV d mo) l o = sA (askV d mo) l 7 + (wlk d mo p o + thr (wlk d mo) (rm l o) o) := fun o _ => by unfold tk; omega
  have hfl : ∀ o, sA (askV d mo) l 7 + (wlk d mo p o + thr (wlk d mo) (rm l o) o) ≤ 2000 := fun o => by
    have h1 := wlk_le d mo p o
    have h2 := tk_le d mo l o
    unfold tk at h2
    omega
  have h : Ok (f11_nextOf N (nI s) (nI p) σ) (fun r τ => r = eX (nxt (wlk d mo) l p) ∧ τ = σ) := by
    unfold f11_nextOf
    rw [rmN h7 (by omega), z_l_eq, ← hl, ← eX_map (C := sA (askV d mo) l 7), ← nxt_Q hd hlQ]
    refine Ok.lp (fun fu (a : Int32) i τ => f11_nextOf_14 N (nI p) (nI l) fu a i τ) (dQ d) (fun i a τ => a = eX (bst ltB l.testBit (fun o => sA (askV d mo) l 7 + (wlk d mo p o + thr (wlk d mo) (rm l o) o)) i) ∧ τ = σ) ⟨rfl, rfl⟩ (by omega) ?_ ?_
    · rintro fu i a τ hi ⟨rfl, rfl⟩ kk
      show Ok (f11_nextOf_14 N (nI p) (nI l) (fu + 1) _ (nI i) τ) _
      rw [f11_nextOf_14, h18, ixn (show v < 2 ^ 31 by omega), hQ, bit_sr (by omega) (by omega), m7, m7]
      refine Ok.c (inBn hv2 (by decide)) (Ok.f (nI_ngt hi (by omega)) (Ok.i (fun c => ?_) (fun c => ?_)))
      · have hb : l.testBit i = true := by
          cases e : l.testBit i
          · rw [e] at c; exact absurd c (by decide)
          · rfl
        cases hx : bst ltB l.testBit (fun o => sA (askV d mo) l 7 + (wlk d mo p o + thr (wlk d mo) (rm l o) o)) i with
        | none =>
          refine Ok.t (show (-1 : Int32) < 0 by decide) ?_
          rw [f11_nextOf_96, f11_nextOf_100, z_l_eq, nI_1]
          exact kk _ _ ⟨by rw [mn_n hx hb] <;> rfl, rfl⟩
        | some q =>
          have hq := bst_ok hx
          have hf1 := hfl i
          have hf2 := hfl q.1
          rw [show eX (some q) = nI q.1 from rfl, m7, m7, ixn (show 7 * p + i < 2 ^ 31 by omega), ixn (show 7 * l + i < 2 ^ 31 by omega), ixn (show 7 * p + q.1 < 2 ^ 31 by omega), ixn (show 7 * l + q.1 < 2 ^ 31 by omega), hRW.1 p i hpQ (by omega), hRW.1 p q.1 hpQ (by omega), hTk l hls i hb, hTk l hls q.1 hq.2.2, nI_add, nI_add, hkey i hb, hkey q.1 hq.2.2]
          refine Ok.f (nI_pos (by omega)) (Ok.c (inBn (by omega) (by decide)) (Ok.c (inBn (by omega) (by decide)) (Ok.c (inBn (by omega) (by decide)) (Ok.c (inBn (by omega) (by decide)) (Ok.i (fun h2 => ?_) (fun h2 => ?_))))))
          · rw [nI_leI (by omega) (by omega)] at h2
            rw [f11_nextOf_100, z_l_eq, nI_1]
            exact kk _ _ ⟨by rw [mn_keep hx (by rw [hq.2.1]; omega), hx] <;> rfl, rfl⟩
          · rw [nI_leI (by omega) (by omega)] at h2
            rw [f11_nextOf_96, f11_nextOf_100, z_l_eq, nI_1]
            exact kk _ _ ⟨by rw [mn_set hx hb (by rw [hq.2.1]; omega)] <;> rfl, rfl⟩
      · have hb : l.testBit i = false := by
          cases e : l.testBit i
          · rfl
          · rw [e] at c; exact absurd rfl c
        rw [f11_nextOf_100, z_l_eq, nI_1]
        exact kk _ _ ⟨by rw [bst_c hb], rfl⟩
    · rintro fu a τ ⟨rfl, rfl⟩
      show Ok (f11_nextOf_14 N (nI p) (nI l) (fu + 1) _ (nI (dQ d)) τ) _
      rw [f11_nextOf_14, h18, ixn (show v < 2 ^ 31 by omega), hQ]
      exact Ok.c (inBn hv2 (by decide)) (Ok.t nI_rf (Ok.ret ⟨rfl, rfl⟩))
  obtain ⟨r, τ, e, rfl, rfl⟩ := h
  rw [← hl]
  exact e
