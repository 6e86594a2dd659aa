-- PAIRS: witness, giving, year, idle, chain
theorem pr_witness {N : Nat} (hN : 4000 ≤ N) : ∀ (x1 x2 : Int32) (σ : Mm), Inv N σ → ∃ (r : Int32) (σ1 σ2 : Mm), f10_witness N x1 x2 σ = some (r, σ1) ∧ f11_witness N x1 x2 σ1 = some (r, σ2) ∧ Inv N σ2 := by
  intro x1 x2 σ hI
  obtain ⟨o, v, d, mo, hB⟩ := bridgeI hI
  obtain ⟨hd, hk, hc, hm, hcM, hn, hsd, hInv⟩ := id hB
  have hL := hInv.2.2.1
  have hNw := hInv.2.2.2.2.1
  obtain ⟨d1, d2, d3, d4, d5, d6, d7, d8⟩ := id hd
  by_cases hp : isN x1 (dW d)
  · obtain ⟨w, hw', rfl⟩ := id hp
    refine pairR hI (fun _ _ e => fr10_witness N e) rfl (fun _ _ _ e => fr11_witness N e) rfl (if x2 = 0 then nI (ag mo w) else if x2 = 1 then dme d w else if x2 = 2 then b2 (al mo w) else if x2 = 3 then nI (cnt (fun g => swG d mo g w) (dn d)) else if x2 = 4 then nI (die d mo w) else -1) ?_ (fun τ hE => ?_)
    · obtain ⟨ho, hl3, hl, hP, hQ, hW, hK, hpl, hme, hgv, hlaw, hv⟩ := id hc
      obtain ⟨m0, m1, m2, m3, m4⟩ := id hm
      refine gd0 (noWitness_t hL hp) (Ok.ii (fun _ => ?_) fun _ => Ok.ii (fun _ => ?_) fun _ => Ok.ii (fun _ => ?_) fun _ => Ok.ii (fun _ => ?_) fun _ => Ok.ii (fun _ => ?_) fun _ => Ok.ret rfl)
      · refine Ok.c (inBn (by omega) (by decide)) (Ok.ret ?_); rw [ixn (by omega)]; exact m4 w hw'
      · refine Ok.r hl3 (kd_land ho) (Ok.c (inBn (by omega) (by decide)) (Ok.ret ?_)); rw [ixn (by omega)]; exact hme w hw'
      · exact Ok.ret (alive_sr hd hm hw')
      · refine Ok.b (c_swornToBy hN hd hc hm (Or.inl rfl) hw') ?_
        rintro r υ ⟨rfl, -⟩
        exact Ok.ret (bitC_bs d5)
      · exact Ok.v (c_deathIn100 hN hd hc hm (Or.inl rfl) hw')
    · refine gd1 (isWitness_t (hB.L hE) hp) (Ok.b (r_copies hN hd (hB.S.eq hE)) ?_)
      rintro u υ ⟨hM, -, -, -, e59, hS⟩
      obtain ⟨hv2, h18, hP, hQ, hW, hK, hpl, hme, hlaw⟩ := id hS.1
      obtain ⟨ra, rl, r14, r15, r16, rg⟩ := id hM
      rw [h18, m7, ad7, ixn (show w < 2 ^ 31 by omega), ixn (show 7 * v + w < 2 ^ 31 by omega), ixn (show 7 + w < 2 ^ 31 by omega)]
      refine Ok.ii (fun _ => ?_) fun _ => Ok.ii (fun _ => ?_) fun _ => Ok.ii (fun _ => ?_) fun _ => Ok.ii (fun _ => ?_) fun _ => Ok.ii (fun _ => ?_) fun _ => Ok.ret rfl
      · exact Ok.c (inBn (by omega) (by decide)) (Ok.ret (ra w hw'))
      · exact Ok.c (inBn (by omega) (by decide)) (Ok.ret (hme w hw'))
      · exact Ok.c (inBn (by omega) (by decide)) (Ok.ret (rl w hw'))
      · refine Ok.lp (fun fu (a : Int32) i τ => f11_witness_85 N (nI w) fu a i τ) (dn d) (fun i a τ => a = nI (cnt (fun g => swG d mo g w) i) ∧ EqOn D_M υ τ) ⟨rfl, EqOn.rf⟩ (by omega) ?_ ?_
        · rintro fu i a τ hi ⟨rfl, hE⟩ k
          obtain ⟨ra, rl, r14, r15, r16, rg⟩ := hM.eq hE
          show Ok (f11_witness_85 N (nI w) (fu + 1) _ (nI i) τ) _
          rw [f11_witness_85, ixl.2.2.2.2.2.2.2.2.2.2.1, r15]
          refine Ok.c rfl (Ok.f (nI_ngt hi (by omega)) (Ok.b (r_doesSwear hN hd (hS.1.eq hE.M0) (hM.eq hE) hw' hi) ?_))
          rintro r ρ ⟨rfl, hU⟩
          refine Ok.i (fun h => ?_) (fun h => ?_)
          · rw [b2_0] at h
            rw [f11_witness_110, z_l_eq, nI_1]
            exact k _ _ ⟨by rw [cnt_skip (p := fun g => swG d mo g w) (i := i) h], hE.tr hU⟩
          · rw [b2_0] at h
            rw [z_l_eq, f11_witness_110, z_l_eq, nI_1, nI_1]
            exact k _ _ ⟨by rw [cnt_step (p := fun g => swG d mo g w) (i := i) (by simpa using h)], hE.tr hU⟩
        · rintro fu a τ ⟨rfl, hE⟩
          obtain ⟨ra, rl, r14, r15, r16, rg⟩ := hM.eq hE
          show Ok (f11_witness_85 N (nI w) (fu + 1) _ (nI (dn d)) τ) _
          rw [f11_witness_85, ixl.2.2.2.2.2.2.2.2.2.2.1, r15]
          exact Ok.c rfl (Ok.t nI_rf (Ok.ret rfl))
      · exact Ok.v (r_diesNow hN hd hS.1 hM hw')
  · exact pairR hI (fun _ _ e => fr10_witness N e) rfl (fun _ _ _ e => fr11_witness N e) rfl (-1) (gd1 (noWitness_f hL hp) (Ok.ret rfl)) (fun τ hE => gd0 (isWitness_f (hB.L hE) hp) (Ok.ret rfl))
theorem b2_b2 {b : Bool} {σ : Mm} {Q : Int32 → Mm → Prop} (h : Q (b2 b) σ) : Ok (if b2 b = 0 then some ((0 : Int32), σ) else some ((1 : Int32), σ)) Q := by
  cases b
  · exact Ok.t rfl (Ok.ret h)
  · exact Ok.f (by decide) (Ok.ret h)
theorem bs_sr {p : Nat → Bool} {n i : Nat} (hn : n ≤ 20) (hi : i < n) : ((nI (bs p n) >>> (nI i &&& 31)) &&& 1) = b2 (p i) := by
  rw [bit_sr (Nat.lt_of_lt_of_le (bs_lt n) (Nat.pow_le_pow_right (by decide) (by omega))) (by omega), bs_bit]
  simp [hi, b2]
theorem pr_giving {N : Nat} (hN : 4000 ≤ N) : ∀ (x1 x2 : Int32) (σ : Mm), Inv N σ → ∃ (r : Int32) (σ1 σ2 : Mm), f10_giving N x1 x2 σ = some (r, σ1) ∧ f11_giving N x1 x2 σ1 = some (r, σ2) ∧ Inv N σ2 := by
  intro x1 x2 σ hI
  obtain ⟨o, v, d, mo, hB⟩ := bridgeI hI
  obtain ⟨hd, hk, hc, hm, hcM, hn, hsd, hInv⟩ := id hB
  have hL := hInv.2.2.1
  have hNw := hInv.2.2.2.2.1
  obtain ⟨d1, d2, d3, d4, d5, d6, d7, d8⟩ := id hd
  by_cases hp : isN x1 (dn d)
  · obtain ⟨g, hg', rfl⟩ := id hp
    refine pairR hI (fun _ _ e => fr10_giving N e) rfl (fun _ _ _ e => fr11_giving N e) rfl (if x2 = 0 then nI (dgp d g) else if x2 = 1 then nI (dgf d g) else if x2 = 2 then nI (dgt d g) else if x2 = 3 then yr mo - dgb d g else if x2 = 4 then nI (dgw d g) else if x2 = 5 then nI (bs (swG d mo g) (dW d)) else if x2 = 6 then b2 (std d mo g) else if x2 = 7 then b2 (ctAll d mo g) else if x2 = 8 then ((dun d >>> (nI g &&& 31)) &&& 1) else -1) ?_ (fun τ hE => ?_)
    · obtain ⟨ho, hl3, hl, hP, hQ, hW, hK, hpl, hme, hgv, hlaw, hv⟩ := id hc
      obtain ⟨m0, m1, m2, m3, m4⟩ := id hm
      obtain ⟨g1, g2, g3, g4, g5⟩ := hgv g hg'
      refine gd0 (noGiving_t hNw hp) (Ok.ii (fun _ => ?_) fun _ => Ok.ii (fun _ => ?_) fun _ => Ok.ii (fun _ => ?_) fun _ => Ok.ii (fun _ => ?_) fun _ => Ok.ii (fun _ => ?_) fun _ => Ok.ii (fun _ => ?_) fun _ => Ok.ii (fun _ => ?_) fun _ => Ok.ii (fun _ => ?_) fun _ => Ok.ii (fun _ => ?_) fun _ => Ok.ret rfl)
      · refine Ok.c (inBn (by omega) (by decide)) (Ok.ret ?_); rw [ixn (by omega)]; exact g1
      · refine Ok.c (inBn (by omega) (by decide)) (Ok.ret ?_); rw [ixn (by omega)]; exact g2
      · refine Ok.c (inBn (by omega) (by decide)) (Ok.ret ?_); rw [ixn (by omega)]; exact g3
      · refine Ok.c (inBn (by omega) (by decide)) (Ok.ret ?_); rw [ixn (by omega), m0, g4]
      · refine Ok.c (inBn (by omega) (by decide)) (Ok.ret ?_); rw [ixn (by omega)]; exact g5
      · exact Ok.c (inBn (by omega) (by decide)) (Ok.v (c_swAll hN hd hc hm (Or.inl rfl) hg'))
      · refine Ok.b (c_stands hN hd hc hm (Or.inl rfl) hg') ?_
        rintro r υ ⟨rfl, -⟩
        exact b2_b2 rfl
      · refine Ok.c (inBn (by omega) (by decide)) ?_
        rw [ixn (by omega), g1]
        refine Ok.b (c_counting hN hd hc hm (Or.inl rfl) (d7 g hg').1) ?_
        rintro r υ ⟨rfl, -⟩
        exact Ok.ret (bs_sr d5 hg')
      · rw [m2]; exact Ok.ret rfl
    · refine gd1 (isGiving_t (hB.Nw hE) hp) (r_now hN hd (hB.S.eq hE) fun υ hG _ => ?_)
      obtain ⟨ra, rl, r14, r15, r16, rg⟩ := id hG.2.1
      obtain ⟨g1, g2, g3, g4, g5⟩ := rg g hg'
      rw [ad77, ad97, ixl.2.2.2.2.2.2.2.2.2.1, ixl.2.2.2.2.2.2.2.2.2.2.2, ixn (show 77 + g < 2 ^ 31 by omega), ixn (show 97 + g < 2 ^ 31 by omega), ixn (show g < 2 ^ 31 by omega)]
      refine Ok.ii (fun h => ?_) fun _ => Ok.ii (fun h => ?_) fun _ => Ok.ii (fun h => ?_) fun _ => Ok.ii (fun _ => ?_) fun _ => Ok.ii (fun _ => ?_) fun _ => Ok.ii (fun _ => ?_) fun _ => Ok.ii (fun _ => ?_) fun _ => Ok.ii (fun _ => ?_) fun _ => Ok.ii (fun _ => ?_) fun _ => Ok.ret rfl
      · subst h
        rw [show (17 : Int32) + 20 * 0 = nI 17 from rfl, nI_add, ixn (by omega)]
        exact Ok.c (inBn (by omega) (by decide)) (Ok.ret g1)
      · subst h
        rw [show (17 : Int32) + 20 * 1 = nI 37 from rfl, nI_add, ixn (by omega)]
        exact Ok.c (inBn (by omega) (by decide)) (Ok.ret g2)
      · subst h
        rw [show (17 : Int32) + 20 * 2 = nI 57 from rfl, nI_add, ixn (by omega)]
        exact Ok.c (inBn (by omega) (by decide)) (Ok.ret g3)
      · refine Ok.c rfl (Ok.c (inBn (by omega) (by decide)) (Ok.ret ?_)); rw [r14, g4]
      · exact Ok.c (inBn (by omega) (by decide)) (Ok.ret g5)
      · exact Ok.v (r_swearBits hN hd hG.1 hG.2.1 hg')
      · refine Ok.c (inBn (by omega) (by decide)) ?_
        rw [(hG.ct hg').1]
        exact b2_b2 rfl
      · refine Ok.c (inBn (by omega) (by decide)) ?_
        rw [(hG.ct hg').2]
        exact b2_b2 rfl
      · refine Ok.c rfl ?_
        rw [r16]
        exact Ok.ret rfl
  · exact pairR hI (fun _ _ e => fr10_giving N e) rfl (fun _ _ _ e => fr11_giving N e) rfl (-1) (gd1 (noGiving_f hNw hp) (Ok.ret rfl)) (fun τ hE => gd0 (isGiving_f (hB.Nw hE) hp) (Ok.ret rfl))
/-- what the reference's next copies() needs -/
def D_R : Wr := D_S
theorem CL.sd {N : Nat} {σ τ : Mm} {o : Nat} {d : Dt} (hc : CL N σ o d) (h : EqOn D_C0 σ τ) : gI τ o 5 = gI σ o 5 := by
  rcases hc.1 with rfl | rfl
  · exact h.I (wIn_r 2 rfl (by decide) (by decide))
  · exact h.I (wIn_r 3 rfl (by decide) (by decide))
theorem EqOn.C0S {σ τ υ : Mm} (h : EqOn D_C1 σ τ) (h2 : EqOn D_C τ υ) : EqOn D_C1 σ υ := h.tr h2.CC1
/-- how often a plot is a person's, by seeds -/
def yrV (d : Dt) (sd : Int32) (mo : Mo) (p a n i : Nat) : Bool := decide (own d (passN d (sd + nI i) mo n) p = a)
theorem in120 {N : Nat} {x : Int32} {σ : Mm} (h : isN x 21) (h0 : x ≠ 0) : f11_in N x 1 20 σ = some (1, σ) := by
  obtain ⟨j, hj, rfl⟩ := h
  have hj0 : j ≠ 0 := fun c => h0 (by rw [c]; rfl)
  unfold f11_in
  rw [if_neg (show ¬ nI j < (1 : Int32) from nI_nlt (b := 1) (by omega) (by omega)), if_neg (show ¬ (20 : Int32) < nI j from nI_nlt (a := 20) (by omega) (by decide))]
