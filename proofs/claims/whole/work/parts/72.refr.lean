-- THE REFERENCE'S READINGS
theorem r_doesSwear {N : Nat} (hN : 4000 ≤ N) {σ : Mm} {v : Nat} {d : Dt} {mo : Mo} (hd : Dok d) (hc : ML N σ v d) (hm : MR σ d mo) {w g : Nat} (hw : w < dW d) (hg : g < dn d) : Ok (f11_doesSwear N (nI w) (nI g) σ) (Rd D_M σ (b2 (swG d mo g w))) := by
  obtain ⟨d1, d2, d3, d4, d5, d6, d7, d8⟩ := id hd
  obtain ⟨hv2, h18, hP, hQ, hW, hK, hpl, hme, hlaw⟩ := id hc
  obtain ⟨ra, rl, r14, r15, r16, rg⟩ := id hm
  obtain ⟨g1, g2, g3, g4, g5⟩ := rg g hg
  have hgw := two7 hd (d7 g hg).2.2.2
  unfold f11_doesSwear
  simp only [ad7, ad17, ad37, ad57, ad77, ad97, m7]
  refine Ok.c (inBn (by omega) (by decide)) ?_
  rw [ixn (show 7 + w < 2 ^ 31 by omega), rl w hw]
  refine Ok.i (fun h => ?_) (fun h => ?_)
  · rw [b2_0] at h
    refine Ok.ret ⟨?_, EqOn.rf⟩
    unfold swG swP
    rw [h, Bool.and_false, Bool.false_and]
    rfl
  · rw [b2_0] at h
    refine Ok.c (inBn (by omega) (by decide)) ?_
    rw [ixn (show 97 + g < 2 ^ 31 by omega), g5, bit_sr (by omega) (by omega)]
    refine Ok.i (fun h2 => ?_) (fun h2 => ?_)
    · have h2' : (dgw d g).testBit w = false := by
        cases e : (dgw d g).testBit w
        · rfl
        · rw [e] at h2; exact absurd h2 (by decide)
      refine Ok.ret ⟨?_, EqOn.rf⟩
      unfold swG swP
      rw [h2', Bool.false_and, Bool.false_and]
      rfl
    · have h2' : (dgw d g).testBit w = true := by
        cases e : (dgw d g).testBit w
        · rw [e] at h2; exact absurd rfl h2
        · rfl
      refine Ok.b (r_looksAt hN hd hc hm hw) ?_
      rintro u τ ⟨hj, hE⟩
      obtain ⟨ra, rl, r14, r15, r16, rg⟩ := hm.eq hE
      obtain ⟨g1', g2', g3', g4', g5'⟩ := rg g hg
      repeat (first | (with_reducible refine Ok.l ?_) | ((with_reducible refine Ok.c ?_ ?_); · first | rfl | exact inBn (by omega) (by decide)))
      have e97 : ∀ x, gI (sI τ 196 2 x) 199 (97 + g) = nI (dgw d g) := fun x => by rw [gI_o (by decide)]; exact g5'
      rw [ixl.2.2.1, ixn (show 77 + g < 2 ^ 31 by omega), ixl.2.2.2.2.2.2.2.2.2.1, r14, g4', e97, r_bits hN (by omega), z_b_some]
      repeat (first | (with_reducible refine Ok.l ?_) | ((with_reducible refine Ok.c ?_ ?_); · first | rfl | exact inBn (by omega) (by decide)))
      rw [ixl.2.2.2.2.2.1, ixl.2.1]
      refine Ok.b (r_law hd hc (k := 0) (f := vS d mo (yr mo - dgb d g) (nI (cnt (dgw d g).testBit 20)) w) ?_ (by decide) ?_ ?_) ?_
      · exact EqOn.M0 (by repeat (first | exact hE | exact EqOn.rf | refine EqOn_sI ?_ (by decide) | refine EqOn_sIa ?_ (by decide)))
      · refine nine ?_ ?_ ?_ ?_ ?_ ?_ ?_ ?_ ?_ <;> simp (disch := omega) [gI_s, hj, vS]
      · simp (disch := omega) [gI_s, hj, vS, dfl]
      rintro r υ ⟨rfl, hU⟩
      have hE2 : EqOn D_M σ υ := EqOn.tr (by repeat (first | exact hE | exact EqOn.rf | refine EqOn_sI ?_ (by decide) | refine EqOn_sIa ?_ (by decide))) hU
      have hs : swG d mo g w = swr d mo (yr mo - dgb d g) (nI (cnt (dgw d g).testBit 20)) w := by
        unfold swG swP
        rw [h2', show al mo w = true by simpa using h]
        rfl
      rw [hs]
      unfold swr
      refine Ok.i (fun h3 => Ok.ret ⟨?_, hE2⟩) (fun h3 => Ok.ret ⟨?_, hE2⟩)
      · rw [decide_eq_true h3]; rfl
      · rw [decide_eq_false h3]; rfl
theorem r_swearBits {N : Nat} (hN : 4000 ≤ N) {σ : Mm} {v : Nat} {d : Dt} {mo : Mo} (hd : Dok d) (hc : ML N σ v d) (hm : MR σ d mo) {g : Nat} (hg : g < dn d) : Ok (f11_swearBits N (nI g) σ) (Rd D_M σ (nI (bs (swG d mo g) (dW d)))) := by
  obtain ⟨d1, d2, d3, d4, d5, d6, d7, d8⟩ := id hd
  unfold f11_swearBits
  refine Ok.lp (fun fu (a : Int32) i τ => f11_swearBits_4 N (nI g) fu a i τ) (dW d) (fun i a τ => a = nI (bs (swG d mo g) i) ∧ EqOn D_M σ τ) ⟨rfl, EqOn.rf⟩ (by omega) ?_ ?_
  · rintro fu i a τ hi ⟨rfl, hE⟩ k
    obtain ⟨hv2, h18, hP, hQ, hW, hK, hpl, hme, hlaw⟩ := hc.eq hE.M0
    show Ok (f11_swearBits_4 N (nI g) (fu + 1) _ (nI i) τ) _
    rw [f11_swearBits_4, h18, ixn (by omega), hW]
    refine Ok.c (inBn hv2 (by decide)) (Ok.f (nI_ngt hi (by omega)) (Ok.b (r_doesSwear hN hd (hc.eq hE.M0) (hm.eq hE) hi hg) ?_))
    rintro r υ ⟨rfl, hU⟩
    refine Ok.i (fun h => ?_) (fun h => ?_)
    · rw [b2_0] at h
      rw [f11_swearBits_32, z_l_eq, nI_1]
      exact k _ _ ⟨by rw [bs_skip (p := swG d mo g) (i := i) h], hE.tr hU⟩
    · rw [b2_0] at h
      rw [z_l_eq, f11_swearBits_32, z_l_eq, nI_1, b1 (by omega), bs_step (p := swG d mo g) (by omega) (by simpa using h)]
      exact k _ _ ⟨rfl, hE.tr hU⟩
  · rintro fu a τ ⟨rfl, hE⟩
    obtain ⟨hv2, h18, hP, hQ, hW, hK, hpl, hme, hlaw⟩ := hc.eq hE.M0
    show Ok (f11_swearBits_4 N (nI g) (fu + 1) _ (nI (dW d)) τ) _
    rw [f11_swearBits_4, h18, ixn (by omega), hW]
    exact Ok.c (inBn hv2 (by decide)) (Ok.t nI_rf (Ok.ret ⟨rfl, hE⟩))
/-- what stands, by the flag allStand -/
def stF (d : Dt) (mo : Mo) (fl : Bool) (g : Nat) : Bool := if fl then said d g else std d mo g
theorem one_iff {x : Int32} : ((x &&& 1) = 1) = ¬ ((x &&& 1) = 0) := by
  obtain ⟨j, hj, e⟩ := pk_andE x (m := 1) 1 rfl
  rw [e]
  have : j = 0 ∨ j = 1 := by omega
  rcases this with rfl | rfl
  · exact propext (by decide)
  · exact propext (by decide)
theorem r_doesStand {N : Nat} (hN : 4000 ≤ N) {σ : Mm} {v : Nat} {d : Dt} {mo : Mo} (hd : Dok d) (hc : ML N σ v d) (hm : MR σ d mo) {fl : Bool} (hf : gI σ 160 59 = b2 fl) {g : Nat} (hg : g < dn d) : Ok (f11_doesStand N (nI g) σ) (Rd D_M σ (b2 (stF d mo fl g))) := by
  obtain ⟨d1, d2, d3, d4, d5, d6, d7, d8⟩ := id hd
  obtain ⟨ra, rl, r14, r15, r16, rg⟩ := id hm
  unfold f11_doesStand
  rw [ixl.2.2.2.2.2.2.2.2.2.2.2, r16]
  refine Ok.c rfl (Ok.i (fun h => ?_) (fun h => ?_))
  · rw [one_iff] at h
    have hu : ubit d g = true := by unfold ubit; rw [decide_eq_false h]; rfl
    refine Ok.ret ⟨?_, EqOn.rf⟩
    unfold stF said std
    rw [hu]
    cases fl <;> rfl
  · rw [one_iff] at h
    have hu : ubit d g = false := by unfold ubit; rw [decide_eq_true (Classical.not_not.mp h)]; rfl
    rw [hf]
    refine Ok.i (fun h2 => ?_) (fun h2 => ?_)
    · rw [b2_0] at h2
      subst h2
      refine Ok.b (r_swearBits hN hd hc hm hg) ?_
      rintro r τ ⟨rfl, hE⟩
      obtain ⟨hv2, h18, hP, hQ, hW, hK, hpl, hme, hlaw⟩ := hc.eq hE.M0
      have hcl := cnt_le (p := swG d mo g) (dW d)
      rw [r_bitsB hN (by omega), z_b_some, h18, ixn (by omega), hK]
      refine Ok.c (inBn hv2 (by decide)) (Ok.i (fun h3 => Ok.ret ⟨?_, hE⟩) (fun h3 => Ok.ret ⟨?_, hE⟩))
      · rw [nI_ltI (by omega) (by omega)] at h3
        unfold stF std
        rw [hu, decide_eq_false (by omega)]
        rfl
      · rw [nI_ltI (by omega) (by omega)] at h3
        unfold stF std
        rw [hu, decide_eq_true (by omega)]
        rfl
    · rw [b2_0] at h2
      refine Ok.ret ⟨?_, EqOn.rf⟩
      unfold stF said
      rw [hu, show fl = true by simpa using h2]
      rfl
theorem nar_b2 {b : Bool} : vp_nar .boolean (b2 b) = b2 b := by cases b <;> rfl
theorem flag {σ τ : Mm} (h : EqOn D_M1 σ τ) : gI τ 160 59 = gI σ 160 59 := h.I (wIn_s 2 rfl)
theorem flag58 {σ τ : Mm} (h : EqOn D_M1 σ τ) : gI τ 160 58 = gI σ 160 58 := h.I (wIn_s 1 rfl)
theorem flag57 {σ τ : Mm} (h : EqOn D_M1 σ τ) : gI τ 160 57 = gI σ 160 57 := h.I (wIn_s 0 rfl)
/-- whose each plot is, what stands and counts -/
def Wh (σ : Mm) (d : Dt) (st : Nat → Bool) (i : Nat) : Prop := (∀ p, p < dQ d → gI σ 200 p = nI (ownS d st p i)) ∧ ∀ g, g < i → gI σ 201 g = b2 (st g) ∧ gI σ 202 g = b2 (ctS d st (dgp d g) g)
theorem r_fillsWhose {N : Nat} (hN : 4000 ≤ N) {σ : Mm} {v : Nat} {d : Dt} {mo : Mo} (hd : Dok d) (hc : ML N σ v d) (hm : MR σ d mo) {fl : Bool} (hf : gI σ 160 59 = b2 fl) : Ok (f11_fillsWhose N σ) (fun _ τ => Wh τ d (stF d mo fl) (dn d) ∧ EqOn D_M σ τ) := by
  obtain ⟨d1, d2, d3, d4, d5, d6, d7, d8⟩ := id hd
  unfold f11_fillsWhose
  refine Ok.lp (fun fu (_ : Unit) i τ => f11_fillsWhose_2 N fu i τ) (dQ d) (fun i _ τ => (∀ p, p < i → gI τ 200 p = nI (dfi d p)) ∧ EqOn D_M σ τ) (a := ()) ⟨fun p hp => absurd hp (Nat.not_lt_zero _), EqOn.rf⟩ (by omega) ?_ ?_
  · rintro fu i a τ hi ⟨h0, hE⟩ k
    obtain ⟨hv2, h18, hP, hQ, hW, hK, hpl, hme, hlaw⟩ := hc.eq hE.M0
    show Ok (f11_fillsWhose_2 N (fu + 1) (nI i) τ) _
    rw [f11_fillsWhose_2, h18, m7, ixn (by omega), hQ]
    refine Ok.c (inBn hv2 (by decide)) (Ok.f (nI_ngt hi (by omega)) ?_)
    repeat (first | (with_reducible refine Ok.l ?_) | ((with_reducible refine Ok.c ?_ ?_); · first | rfl | exact inBn (by omega) (by decide)))
    rw [nI_1, ixn (by omega), ixn (by omega), (hpl i hi).2.2]
    refine k () _ ⟨fun p hp => ?_, by repeat (first | exact hE | exact EqOn.rf | refine EqOn_sI ?_ (by decide) | refine EqOn_sIa ?_ (by decide))⟩
    rw [gI_s]
    by_cases c : p = i
    · rw [if_pos ⟨rfl, c⟩, c]
    · rw [if_neg (fun e => c e.2)]; exact h0 p (by omega)
  · rintro fu a τ ⟨h0, hE⟩
    obtain ⟨hv2, h18, hP, hQ, hW, hK, hpl, hme, hlaw⟩ := hc.eq hE.M0
    show Ok (f11_fillsWhose_2 N (fu + 1) (nI (dQ d)) τ) _
    rw [f11_fillsWhose_2, h18, ixn (by omega), hQ]
    refine Ok.c (inBn hv2 (by decide)) (Ok.t nI_rf ?_)
    rw [f11_fillsWhose_41]
    refine Ok.lp (fun fu (_ : Unit) i τ => f11_fillsWhose_43 N fu i τ) (dn d) (fun i _ τ => Wh τ d (stF d mo fl) i ∧ EqOn D_M σ τ) (a := ()) ⟨⟨h0, fun g hg => absurd hg (Nat.not_lt_zero _)⟩, hE⟩ (by omega) ?_ ?_
    · rintro fu i a τ hi ⟨⟨hw, hg0⟩, hE⟩ k
      obtain ⟨ra, rl, r14, r15, r16, rg⟩ := hm.eq hE
      obtain ⟨g1, g2, g3, g4, g5⟩ := rg i hi
      obtain ⟨q1, q2, q3, q4⟩ := d7 i hi
      have hown := ownS_lt hd (st := stF d mo fl) q1 i (by omega)
      show Ok (f11_fillsWhose_43 N (fu + 1) (nI i) τ) _
      rw [f11_fillsWhose_43]
      simp only [ad7, ad17, ad37, ad57, ad77, ad97, m7]
      rw [ixl.2.2.2.2.2.2.2.2.2.2.1, r15]
      refine Ok.c rfl (Ok.f (nI_ngt hi (by omega)) ?_)
      repeat (first | (with_reducible refine Ok.l ?_) | ((with_reducible refine Ok.c ?_ ?_); · first | rfl | exact inBn (by omega) (by decide)))
      rw [ixn (show 17 + i < 2 ^ 31 by omega), g1]
      refine Ok.b (r_doesStand hN hd (hc.eq hE.M0) (hm.eq hE) (fl := fl) (by rw [flag hE.M1]; exact hf) hi).run ?_
      rintro r υ ⟨⟨rfl, hU⟩, er⟩
      have hS := fr11_doesStand N er
      have u200 : ∀ j, gI υ 200 j = gI τ 200 j := fun j => (hS.on (D := [(200, 3, none)]) rfl).I (wIn_r 0 rfl (by decide) (by decide))
      have u201 : ∀ j, gI υ 201 j = gI τ 201 j := fun j => (hS.on (D := [(200, 3, none)]) rfl).I (wIn_r 0 rfl (by decide) (by decide))
      have u202 : ∀ j, gI υ 202 j = gI τ 202 j := fun j => (hS.on (D := [(200, 3, none)]) rfl).I (wIn_r 0 rfl (by decide) (by decide))
      have hE2 := hE.tr hU
      -- when it does not count
      have no : ∀ ρ : Mm, (ρ = sI υ 201 i (b2 (stF d mo fl i))) → ctS d (stF d mo fl) (dgp d i) i = false → Ok (f11_fillsWhose_112 N (fun x1 σ => f11_fillsWhose_43 N fu x1 σ) (nI i) (nI (dgp d i)) (nI i) 0 ρ) (fun _ τ => Wh τ d (stF d mo fl) (dn d) ∧ EqOn D_M σ τ) := by
        intro ρ hρ hf'
        rw [f11_fillsWhose_112]
        refine Ok.c (inBn (by omega) (by decide)) (Ok.l (Ok.c (inBn (by omega) (by decide)) (Ok.t ?_ ?_)))
        · rw [ixn (by omega), gI_e]; rfl
        rw [f11_fillsWhose_137, z_l_eq, nI_1, ixn (by omega), show (0 : Int32) = b2 false from rfl, nar_b2]
        refine k () _ ⟨⟨fun p hp => ?_, fun g hg => ?_⟩, by subst hρ; exact EqOn_sIa (EqOn_sIa hE2 (by decide)) (by decide)⟩
        · subst hρ
          rw [gI_o (by decide), gI_o (by decide), u200, hw p hp]
          congr 1
          by_cases c : dgp d i = p
          · subst c; rw [(ctS_f (d := d) (st := stF d mo fl) (p := dgp d i) (i := i) (fun c => by have := (ctS_t c.1 c.2.1 c.2.2).1; rw [this] at hf'; exact Bool.noConfusion hf')).2]
          · rw [(ctS_f (d := d) (st := stF d mo fl) (p := p) (i := i) (fun e => c e.1)).2]
        · subst hρ
          by_cases c : g = i
          · subst c
            rw [gI_o (by decide), gI_e, gI_e, hf']
            exact ⟨rfl, rfl⟩
          · rw [gI_o (by decide), gI_k c, gI_k c, gI_o (by decide), u201, u202]
            exact hg0 g (by omega)
      repeat (first | (with_reducible refine Ok.l ?_) | ((with_reducible refine Ok.c ?_ ?_); · first | rfl | exact inBn (by omega) (by decide)))
      rw [ixn (show i < 2 ^ 31 by omega), ixn (show dgp d i < 2 ^ 31 by omega), ixn (show 37 + i < 2 ^ 31 by omega), nar_b2]
      refine Ok.i (fun h => ?_) (fun h => ?_)
      · rw [gI_e, b2_0] at h
        rw [f11_fillsWhose_111]
        exact no _ rfl (ctS_f (fun c => by rw [h] at c; exact Bool.noConfusion c.2.2)).1
      · rw [gI_e, b2_0] at h
        repeat (first | (with_reducible refine Ok.l ?_) | ((with_reducible refine Ok.c ?_ ?_); · first | rfl | exact inBn (by omega) (by decide)))
        refine Ok.i (fun h2 => ?_) (fun h2 => ?_)
        · rw [gI_o (by decide), gI_o (by decide), u200, hw _ q1, hU.I (wIn_r 0 rfl (by decide) (by decide)), g2, nI_eq (by omega) (by omega)] at h2
          have e := ctS_t (d := d) (st := stF d mo fl) (p := dgp d i) (i := i) rfl h2.symm (by simpa using h)
          rw [f11_fillsWhose_112]
          refine Ok.c (inBn (by omega) (by decide)) (Ok.l (Ok.c (inBn (by omega) (by decide)) (Ok.f ?_ ?_)))
          · rw [ixn (by omega), gI_e]; decide
          simp only [ad7, ad17, ad37, ad57, ad77, ad97, m7]
          repeat (first | (with_reducible refine Ok.l ?_) | ((with_reducible refine Ok.c ?_ ?_); · first | rfl | exact inBn (by omega) (by decide)))
          rw [f11_fillsWhose_137, z_l_eq, nI_1, ixn (by omega), ixn (by omega), ixn (by omega), show (1 : Int32) = b2 true from rfl, nar_b2, gI_o (by decide), gI_o (by decide), hU.I (wIn_r 0 rfl (by decide) (by decide)), g3]
          refine k () _ ⟨⟨fun p hp => ?_, fun g hg => ?_⟩, EqOn_sIa (EqOn_sIa (EqOn_sIa hE2 (by decide)) (by decide)) (by decide)⟩
          · by_cases c : dgp d i = p
            · subst c
              rw [gI_e, e.2]
            · rw [gI_k (Ne.symm c), gI_o (by decide), gI_o (by decide), u200, hw p hp, (ctS_f (d := d) (st := stF d mo fl) (p := p) (i := i) (fun e => c e.1)).2]
          · by_cases c : g = i
            · subst c
              rw [gI_o (by decide), gI_o (by decide), gI_e, gI_o (by decide), gI_e, e.1]
              exact ⟨rfl, rfl⟩
            · rw [gI_o (by decide), gI_o (by decide), gI_k c, gI_o (by decide), gI_k c, gI_o (by decide), u201, u202]
              exact hg0 g (by omega)
        · rw [gI_o (by decide), gI_o (by decide), u200, hw _ q1, hU.I (wIn_r 0 rfl (by decide) (by decide)), g2, nI_eq (by omega) (by omega)] at h2
          rw [f11_fillsWhose_111]
          exact no _ rfl (ctS_f (fun c => h2 c.2.1.symm)).1
    · rintro fu a τ ⟨hw, hE⟩
      obtain ⟨ra, rl, r14, r15, r16, rg⟩ := hm.eq hE
      show Ok (f11_fillsWhose_43 N (fu + 1) (nI (dn d)) τ) _
      rw [f11_fillsWhose_43, ixl.2.2.2.2.2.2.2.2.2.2.1, r15]
      exact Ok.c rfl (Ok.t nI_rf (Ok.ret ⟨hw, hE⟩))
