-- PAIRS: year, idle, chain
theorem yr_bad {x : Int32} (h : ¬ (isN x 21 ∧ x ≠ 0)) : x < 1 ∨ ¬ x ≤ 20 := by
  by_cases c : x < 0
  · left
    rw [Int32.lt_iff_toInt_lt] at *
    have e0 : (0 : Int32).toInt = 0 := rfl
    have e1 : (1 : Int32).toInt = 1 := rfl
    omega
  · obtain ⟨j, hj, rfl⟩ := nI_of c
    by_cases c0 : j = 0
    · subst c0; left; decide
    · right
      by_cases c2 : j < 21
      · exact absurd ⟨⟨j, c2, rfl⟩, fun e => c0 ((nI_eq (b := 0) hj (by decide)).mp e)⟩ h
      · exact nI_ge (a := 20) (by omega) hj
theorem pr_year {N : Nat} (hN : 4000 ≤ N) : ∀ (x1 x2 x3 x4 : Int32) (σ : Mm), Inv N σ → ∃ (r : Int32) (σ1 σ2 : Mm), f10_year N x1 x2 x3 x4 σ = some (r, σ1) ∧ f11_year N x1 x2 x3 x4 σ1 = some (r, σ2) ∧ Inv N σ2 := by
  intro x1 x2 x3 x4 σ hI
  obtain ⟨o, v, d, mo, hB⟩ := bridgeI hI
  obtain ⟨hd, hk, hc, hm, hcM, hn, hsd, hInv⟩ := id hB
  have hL := hInv.2.2.1
  have hNw := hInv.2.2.2.2.1
  obtain ⟨d1, d2, d3, d4, d5, d6, d7, d8⟩ := id hd
  by_cases hp : isN x1 (dQ d)
  · by_cases ha : isN x2 (dP d)
    · by_cases hy : isN x3 61
      · by_cases hs : isN x4 21 ∧ x4 ≠ 0
        · obtain ⟨p, hp', rfl⟩ := id hp
          obtain ⟨a, ha', rfl⟩ := id ha
          obtain ⟨n, hn', rfl⟩ := id hy
          obtain ⟨⟨s, hs', rfl⟩, hs0⟩ := id hs
          have hs1 : s ≠ 0 := fun c => hs0 (by rw [c]; rfl)
          refine pairR hI (fun _ _ e => fr10_year N e) rfl (fun _ _ _ e => fr11_year N e) rfl (nI (cnt (yrV d (gI σ o 5) mo p a n) s)) ?_ (fun τ hE => ?_)
          · refine gd0 (noPlot_t hL hp) (gd0 (noPerson_t hL ha) (gd0 (noYears_t hy) (Ok.f (nI_nlt (b := 1) (by omega) (by omega)) (Ok.t (nI_le (b := 20) (by omega) (by decide)) ?_))))
            refine Ok.lp (fun fu (x : Int32) i τ => f10_year_44 N (nI p) (nI a) (nI n) (nI s) fu x i τ) s (fun i x τ => x = nI (cnt (yrV d (gI σ o 5) mo p a n) i) ∧ EqOn D_C1 σ τ) ⟨rfl, EqOn.rf⟩ (by omega) ?_ ?_
            · rintro fu i x τ hi ⟨rfl, hE⟩ k
              have hcτ := hc.eq hE.C10
              show Ok (f10_year_44 N (nI p) (nI a) (nI n) (nI s) (fu + 1) _ (nI i) τ) _
              rw [f10_year_44]
              refine Ok.f (nI_ngt hi (by omega)) (Ok.r hcτ.l3 hcτ.o ?_)
              rw [hc.sd hE.C10]
              refine Ok.b (c_lookAhead hN hd hcτ (hm.eq1 hE) hk _ (by omega)) ?_
              rintro u υ ⟨hM, hU⟩
              refine Ok.b (c_owner hN hd (hcτ.eq hU.C10) hM (Or.inr rfl) hp') ?_
              rintro r ρ ⟨rfl, hR⟩
              have hE2 := (hE.tr hU).tr hR.CC1
              have ow := own_lt hd (mo := passN d (gI σ o 5 + nI i) mo n) hp'
              refine Ok.i (fun h => ?_) (fun h => ?_)
              · rw [nI_eq (by omega) (by omega)] at h
                rw [z_l_eq, f10_year_85, z_l_eq, nI_1, nI_1]
                exact k _ _ ⟨by rw [cnt_step (p := yrV d (gI σ o 5) mo p a n) (i := i) (decide_eq_true h)], hE2⟩
              · rw [nI_eq (by omega) (by omega)] at h
                rw [f10_year_85, z_l_eq, nI_1]
                exact k _ _ ⟨by rw [cnt_skip (p := yrV d (gI σ o 5) mo p a n) (i := i) (decide_eq_false h)], hE2⟩
            · rintro fu x τ ⟨rfl, hE⟩
              show Ok (f10_year_44 N (nI p) (nI a) (nI n) (nI s) (fu + 1) _ (nI s) τ) _
              rw [f10_year_44]
              exact Ok.t nI_rf (Ok.ret rfl)
          · refine gd1 (isPlot_t (hB.L hE) hp) (gd1 (isPerson_t (hB.L hE) ha) (gd1 (isLong_t hy) (gd1 (in120 hs.1 hs0) ?_)))
            refine Ok.lp (fun fu (x : Int32) i τ => f11_year_42 N (nI p) (nI a) (nI n) (nI s) fu x i τ) s (fun i x τ => x = nI (cnt (yrV d (gI σ o 5) mo p a n) i) ∧ MSt N τ v d mo (gI σ o 5)) ⟨rfl, hB.S.eq hE⟩ (by omega) ?_ ?_
            · rintro fu i x τ hi ⟨rfl, hS⟩ k
              show Ok (f11_year_42 N (nI p) (nI a) (nI n) (nI s) (fu + 1) _ (nI i) τ) _
              rw [f11_year_42]
              refine Ok.f (nI_ngt hi (by omega)) (Ok.b (r_copies hN hd hS) ?_)
              rintro u υ ⟨hM, -, e57, e58, e59, hS2⟩
              rw [z_l_eq, e57]
              have hE1 : EqOn D_M0 υ (sI υ 160 57 (gI σ o 5 + nI i)) := EqOn_sI EqOn.rf (by decide)
              have hM1 : MR (sI υ 160 57 (gI σ o 5 + nI i)) d mo := by
                have e : gI (sI υ 160 57 (gI σ o 5 + nI i)) 199 = gI υ 199 := gI_row fun k => gI_o (by decide)
                unfold MR
                rw [e]
                exact hM
              refine Ok.b (r_goes hN hd (hS2.1.eq hE1) hM1 hk (by rw [gI_k (by decide)]; exact e58) (n := n) (by omega)).run ?_
              rintro u2 ρ ⟨⟨hM2, hR⟩, er⟩
              rw [gI_e] at hM2
              refine Ok.b (r_fillsWhose hN hd ((hS2.1.eq hE1).eq hR.M10) hM2 (fl := false) (by rw [flag hR, gI_k (by decide)]; exact e59)).run ?_
              rintro u3 ρ2 ⟨⟨hw, hR2⟩, er2⟩
              rw [stF_f] at hw
              have hS3 : MSt N ρ2 v d mo (gI σ o 5) := hS2.eq' (((EqOn_sI EqOn.rf (by decide)).tr ((fr11_goes N er).on rfl)).tr ((fr11_fillsWhose N er2).on rfl))
              have ow := own_lt hd (mo := passN d (gI σ o 5 + nI i) mo n) hp'
              have e200 : gI ρ2 200 p = nI (own d (passN d (gI σ o 5 + nI i) mo n) p) := hw.1 p hp'
              refine Ok.c (inBn (by omega) (by decide)) ?_
              rw [ixn (by omega), e200]
              refine Ok.i (fun h => ?_) (fun h => ?_)
              · rw [nI_eq (by omega) (by omega)] at h
                rw [z_l_eq, f11_year_86, z_l_eq, nI_1, nI_1]
                exact k _ _ ⟨by rw [cnt_step (p := yrV d (gI σ o 5) mo p a n) (i := i) (decide_eq_true h)], hS3⟩
              · rw [nI_eq (by omega) (by omega)] at h
                rw [f11_year_86, z_l_eq, nI_1]
                exact k _ _ ⟨by rw [cnt_skip (p := yrV d (gI σ o 5) mo p a n) (i := i) (decide_eq_false h)], hS3⟩
            · rintro fu x τ ⟨rfl, hE⟩
              show Ok (f11_year_42 N (nI p) (nI a) (nI n) (nI s) (fu + 1) _ (nI s) τ) _
              rw [f11_year_42]
              exact Ok.t nI_rf (Ok.ret rfl)
        · refine pairR hI (fun _ _ e => fr10_year N e) rfl (fun _ _ _ e => fr11_year N e) rfl (-1) (gd0 (noPlot_t hL hp) (gd0 (noPerson_t hL ha) (gd0 (noYears_t hy) ?_))) (fun τ hE => gd1 (isPlot_t (hB.L hE) hp) (gd1 (isPerson_t (hB.L hE) ha) (gd1 (isLong_t hy) (gd0 (σ := τ) ?_ (Ok.ret rfl)))))
          · by_cases c : x4 < 1
            · exact Ok.t c (Ok.ret rfl)
            · refine Ok.f c (Ok.f ?_ (Ok.ret rfl))
              rcases yr_bad hs with e | e
              · exact absurd e c
              · exact e
          · unfold f11_in
            by_cases c : x4 < 1
            · rw [if_pos c]
            · rw [if_neg c]
              rcases yr_bad hs with e | e
              · exact absurd e c
              · rw [if_pos (Int32.not_le.mp e)]
      · exact pairR hI (fun _ _ e => fr10_year N e) rfl (fun _ _ _ e => fr11_year N e) rfl (-1) (gd0 (noPlot_t hL hp) (gd0 (noPerson_t hL ha) (gd1 (noYears_f hy) (Ok.ret rfl)))) (fun τ hE => gd1 (isPlot_t (hB.L hE) hp) (gd1 (isPerson_t (hB.L hE) ha) (gd0 (isLong_f hy) (Ok.ret rfl))))
    · exact pairR hI (fun _ _ e => fr10_year N e) rfl (fun _ _ _ e => fr11_year N e) rfl (-1) (gd0 (noPlot_t hL hp) (gd1 (noPerson_f hL ha) (Ok.ret rfl))) (fun τ hE => gd1 (isPlot_t (hB.L hE) hp) (gd0 (isPerson_f (hB.L hE) ha) (Ok.ret rfl)))
  · exact pairR hI (fun _ _ e => fr10_year N e) rfl (fun _ _ _ e => fr11_year N e) rfl (-1) (gd1 (noPlot_f hL hp) (Ok.ret rfl)) (fun τ hE => gd0 (isPlot_f (hB.L hE) hp) (Ok.ret rfl))
theorem c_ofPlot {N : Nat} (hN : 4000 ≤ N) {σ : Mm} {o : Nat} {d : Dt} (hd : Dok d) (hc : CL N σ o d) {p : Nat} (hp : p < dQ d) : Ok (f1_ofPlot N 50 (nI p) (nI (dn d)) σ) (fun r τ => r = nI (bs (fun g => decide (dgp d g = p)) (dn d)) ∧ τ = σ) := by
  obtain ⟨d1, d2, d3, d4, d5, d6, d7, d8⟩ := id hd
  obtain ⟨ho, hl3, hl, hP, hQ, hW, hK, hpl, hme, hgv, hlaw, hv⟩ := id hc
  unfold f1_ofPlot
  refine Ok.lp (fun fu (a : Int32) i τ => f1_ofPlot_5 N 50 (nI p) (nI (dn d)) fu a i τ) (dn d) (fun i a τ => a = nI (bs (fun g => decide (dgp d g = p)) i) ∧ τ = σ) ⟨rfl, rfl⟩ (by omega) ?_ ?_
  · rintro fu i a τ hi ⟨rfl, rfl⟩ k
    have q1 := (d7 i hi).1
    show Ok (f1_ofPlot_5 N 50 (nI p) (nI (dn d)) (fu + 1) _ (nI i) τ) _
    rw [f1_ofPlot_5, ixn (by omega), (hgv i hi).1]
    refine Ok.f (nI_ngt hi (by omega)) (Ok.f (nI_ngt (n := 20) (by omega) (by decide)) (Ok.c (inBn (by omega) (by decide)) (Ok.i (fun h => ?_) (fun h => ?_))))
    · rw [nI_eq (by omega) (by omega)] at h
      rw [z_l_eq, f1_ofPlot_36, z_l_eq, nI_1, b1 (by omega), bs_step (p := fun g => decide (dgp d g = p)) (by omega) (decide_eq_true h)]
      exact k _ _ ⟨rfl, rfl⟩
    · rw [nI_eq (by omega) (by omega)] at h
      rw [f1_ofPlot_36, z_l_eq, nI_1]
      exact k _ _ ⟨by rw [bs_skip (p := fun g => decide (dgp d g = p)) (i := i) (decide_eq_false h)], rfl⟩
  · rintro fu a τ ⟨rfl, rfl⟩
    show Ok (f1_ofPlot_5 N 50 (nI p) (nI (dn d)) (fu + 1) _ (nI (dn d)) τ) _
    rw [f1_ofPlot_5]
    exact Ok.t nI_rf (Ok.ret ⟨rfl, rfl⟩)
def idl (d : Dt) (mo : Mo) (p g : Nat) : Bool := (std d mo g && decide (dgp d g = p)) && !ctg d mo p g
theorem pr_idle {N : Nat} (hN : 4000 ≤ N) : ∀ (x1 : Int32) (σ : Mm), Inv N σ → ∃ (r : Int32) (σ1 σ2 : Mm), f10_idle N x1 σ = some (r, σ1) ∧ f11_idle N x1 σ1 = some (r, σ2) ∧ Inv N σ2 := by
  intro x1 σ hI
  obtain ⟨o, v, d, mo, hB⟩ := bridgeI hI
  obtain ⟨hd, hk, hc, hm, hcM, hn, hsd, hInv⟩ := id hB
  have hL := hInv.2.2.1
  have hNw := hInv.2.2.2.2.1
  obtain ⟨d1, d2, d3, d4, d5, d6, d7, d8⟩ := id hd
  by_cases hp : isN x1 (dQ d)
  · obtain ⟨p, hp', rfl⟩ := id hp
    refine pairR hI (fun _ _ e => fr10_idle N e) rfl (fun _ _ _ e => fr11_idle N e) rfl (nI (bs (idl d mo p) (dn d))) ?_ (fun τ hE => ?_)
    · refine gd0 (noPlot_t hL hp) (Ok.b (c_standing hN hd hc hm (Or.inl rfl)) ?_)
      rintro r υ ⟨rfl, hU⟩
      have hmU := hm.eq (Or.inl rfl) hU
      rw [hmU.2.2.2.1]
      refine Ok.b (c_ofPlot hN hd (hc.eq hU.C0) hp') ?_
      rintro r2 ρ ⟨rfl, rfl⟩
      refine Ok.b (c_counting hN hd (hc.eq hU.C0) hmU (Or.inl rfl) hp') ?_
      rintro r3 ρ2 ⟨rfl, -⟩
      have h32 : ∀ q : Nat → Bool, bs q (dn d) < 2 ^ 32 := fun q => Nat.lt_of_lt_of_le (bs_lt _) (Nat.pow_le_pow_right (by decide) (by omega))
      rw [xor1, andN (h32 _) (h32 _), bs_and, diffN (by omega)]
      exact Ok.ret rfl
    · refine gd1 (isPlot_t (hB.L hE) hp) (Ok.b (r_goesOnTo hN hd hk (hB.S.eq hE) (n := 0) (by omega)) ?_)
      intro u υ hG
      have hG : MG N υ v d mo := hG
      refine Ok.lp (fun fu (a : Int32) i τ => f11_idle_19 N (nI p) fu a i τ) (dn d) (fun i a τ => a = nI (bs (idl d mo p) i) ∧ τ = υ) ⟨rfl, rfl⟩ (by omega) ?_ ?_
      · rintro fu i a τ hi ⟨rfl, rfl⟩ k
        obtain ⟨ra, rl, r14, r15, r16, rg⟩ := id hG.2.1
        have q1 := (d7 i hi).1
        show Ok (f11_idle_19 N (nI p) (fu + 1) _ (nI i) τ) _
        rw [f11_idle_19, ad17, ixl.2.2.2.2.2.2.2.2.2.2.1, r15, ixn (by omega), (rg i hi).1, ixn (by omega), (hG.ct hi).1, (hG.ct hi).2]
        refine Ok.c rfl (Ok.f (nI_ngt hi (by omega)) (Ok.c (inBn (by omega) (by decide)) (Ok.i (fun h => ?_) (fun h => ?_))))
        · rw [nI_eq (by omega) (by omega)] at h
          refine Ok.c (inBn (by omega) (by decide)) (Ok.i (fun h2 => ?_) (fun h2 => Ok.c (inBn (by omega) (by decide)) (Ok.i (fun h3 => ?_) (fun h3 => ?_))))
          · rw [b2_0] at h2
            rw [f11_idle_67, z_l_eq, nI_1]
            exact k _ _ ⟨by rw [bs_skip (p := idl d mo p) (i := i) (by unfold idl; rw [h2]; rfl)], rfl⟩
          · rw [b2_0] at h2 h3
            unfold ctAll at h3
            rw [h] at h3
            rw [z_l_eq, f11_idle_67, z_l_eq, nI_1, b1 (by omega), bs_step (p := idl d mo p) (by omega) (by unfold idl; rw [h3, decide_eq_true h]; simpa using h2)]
            exact k _ _ ⟨rfl, rfl⟩
          · rw [b2_0] at h2 h3
            unfold ctAll at h3
            rw [h] at h3
            rw [f11_idle_67, z_l_eq, nI_1]
            exact k _ _ ⟨by rw [bs_skip (p := idl d mo p) (i := i) (by unfold idl; rw [show ctg d mo p i = true by simpa using h3]; simp)], rfl⟩
        · rw [nI_eq (by omega) (by omega)] at h
          rw [f11_idle_67, z_l_eq, nI_1]
          exact k _ _ ⟨by rw [bs_skip (p := idl d mo p) (i := i) (by unfold idl; rw [decide_eq_false h]; simp)], rfl⟩
      · rintro fu a τ ⟨rfl, rfl⟩
        obtain ⟨ra, rl, r14, r15, r16, rg⟩ := id hG.2.1
        show Ok (f11_idle_19 N (nI p) (fu + 1) _ (nI (dn d)) τ) _
        rw [f11_idle_19, ixl.2.2.2.2.2.2.2.2.2.2.1, r15]
        exact Ok.c rfl (Ok.t nI_rf (Ok.ret rfl))
  · exact pairR hI (fun _ _ e => fr10_idle N e) rfl (fun _ _ _ e => fr11_idle N e) rfl (-1) (gd1 (noPlot_f hL hp) (Ok.ret rfl)) (fun τ hE => gd0 (isPlot_f (hB.L hE) hp) (Ok.ret rfl))
-- the k-th of a set
theorem cnt_mono {p : Nat → Bool} {a b : Nat} (h : a ≤ b) : cnt p a ≤ cnt p b := by
  obtain ⟨k, rfl⟩ : ∃ k, b = a + k := ⟨b - a, by omega⟩
  rw [cnt_add]
  omega
theorem bitAt_some {N : Nat} (hN : 4000 ≤ N) {s g k : Nat} (hs : s < 2 ^ 31) (hg : g < 20) (hb : s.testBit g = true) (hk : cnt s.testBit g = k) {σ : Mm} : f10_bitAt N (nI s) (nI k) σ = some (nI g, σ) := by
  have hk20 := cnt_le (p := s.testBit) g
  have h : Ok (f10_bitAt N (nI s) (nI k) σ) (fun r τ => r = nI g ∧ τ = σ) := by
    unfold f10_bitAt
    refine Ok.lp (fun fu (a : Int32) i τ => f10_bitAt_4 N (nI s) (nI k) fu a i τ) 20 (fun i a τ => i ≤ g ∧ a = nI (cnt s.testBit i) ∧ τ = σ) ⟨Nat.zero_le _, rfl, rfl⟩ (by omega) ?_ ?_
    · rintro fu i a τ hi ⟨hig, rfl, rfl⟩ kk
      have hc20 := cnt_le (p := s.testBit) i
      show Ok (f10_bitAt_4 N (nI s) (nI k) (fu + 1) _ (nI i) τ) _
      rw [f10_bitAt_4, bit_usr hs (by omega)]
      refine Ok.f (nI_ngt (n := 20) hi (by decide)) (Ok.i (fun h => ?_) (fun h => ?_))
      · have h' : s.testBit i = false := by
          cases e : s.testBit i
          · rfl
          · rw [e] at h; exact absurd h (by decide)
        have : i ≠ g := fun c => by rw [c, hb] at h'; exact Bool.noConfusion h'
        rw [f10_bitAt_28, z_l_eq, nI_1]
        exact kk _ _ ⟨by omega, by rw [cnt_skip h'], rfl⟩
      · have h' : s.testBit i = true := by
          cases e : s.testBit i
          · rw [e] at h; exact absurd rfl h
          · rfl
        refine Ok.i (fun h2 => ?_) (fun h2 => ?_)
        · rw [nI_eq (by omega) (by omega)] at h2
          refine Ok.ret ⟨?_, rfl⟩
          by_cases c : i = g
          · rw [c]
          · have e1 := cnt_step h'
            have e2 : cnt s.testBit (i + 1) ≤ cnt s.testBit g := cnt_mono (by omega)
            omega
        · rw [nI_eq (by omega) (by omega)] at h2
          have : i ≠ g := fun c => h2 (by rw [c]; exact hk)
          rw [z_l_eq, f10_bitAt_28, z_l_eq, nI_1, nI_1]
          exact kk _ _ ⟨by omega, by rw [cnt_step h'], rfl⟩
    · rintro fu a τ ⟨h, -⟩
      omega
  obtain ⟨r, τ, e, rfl, rfl⟩ := h
  exact e
theorem bitAt_none {N : Nat} (hN : 4000 ≤ N) {s k : Nat} (hs : s < 2 ^ 31) (hk : k < 2 ^ 31) (hb : ∀ g, g < 20 → s.testBit g = true → cnt s.testBit g ≠ k) {σ : Mm} : f10_bitAt N (nI s) (nI k) σ = some (-1, σ) := by
  have h : Ok (f10_bitAt N (nI s) (nI k) σ) (fun r τ => r = -1 ∧ τ = σ) := by
    unfold f10_bitAt
    refine Ok.lp (fun fu (a : Int32) i τ => f10_bitAt_4 N (nI s) (nI k) fu a i τ) 20 (fun i a τ => a = nI (cnt s.testBit i) ∧ τ = σ) ⟨rfl, rfl⟩ (by omega) ?_ ?_
    · rintro fu i a τ hi ⟨rfl, rfl⟩ kk
      have hc20 := cnt_le (p := s.testBit) i
      show Ok (f10_bitAt_4 N (nI s) (nI k) (fu + 1) _ (nI i) τ) _
      rw [f10_bitAt_4, bit_usr hs (by omega)]
      refine Ok.f (nI_ngt (n := 20) hi (by decide)) (Ok.i (fun h => ?_) (fun h => ?_))
      · have h' : s.testBit i = false := by
          cases e : s.testBit i
          · rfl
          · rw [e] at h; exact absurd h (by decide)
        rw [f10_bitAt_28, z_l_eq, nI_1]
        exact kk _ _ ⟨by rw [cnt_skip h'], rfl⟩
      · have h' : s.testBit i = true := by
          cases e : s.testBit i
          · rw [e] at h; exact absurd rfl h
          · rfl
        refine Ok.f (by rw [nI_eq (by omega) hk]; exact hb i hi h') ?_
        rw [z_l_eq, f10_bitAt_28, z_l_eq, nI_1, nI_1]
        exact kk _ _ ⟨by rw [cnt_step h'], rfl⟩
    · rintro fu a τ ⟨rfl, rfl⟩
      show Ok (f10_bitAt_4 N (nI s) (nI k) (fu + 1) _ (nI 20) τ) _
      rw [f10_bitAt_4]
      exact Ok.t nI_rf (Ok.ret ⟨rfl, rfl⟩)
  obtain ⟨r, τ, e, rfl, rfl⟩ := h
  exact e
theorem pr_chain {N : Nat} (hN : 4000 ≤ N) : ∀ (x1 x2 : Int32) (σ : Mm), Inv N σ → ∃ (r : Int32) (σ1 σ2 : Mm), f10_chain N x1 x2 σ = some (r, σ1) ∧ f11_chain N x1 x2 σ1 = some (r, σ2) ∧ Inv N σ2 := by
  intro x1 x2 σ hI
  obtain ⟨o, v, d, mo, hB⟩ := bridgeI hI
  obtain ⟨hd, hk, hc, hm, hcM, hn, hsd, hInv⟩ := id hB
  have hL := hInv.2.2.1
  have hNw := hInv.2.2.2.2.1
  obtain ⟨d1, d2, d3, d4, d5, d6, d7, d8⟩ := id hd
  by_cases hp : isN x1 (dQ d)
  · obtain ⟨p, hp', rfl⟩ := id hp
    have hcl := cnt_le (p := ctg d mo p) (dn d)
    by_cases hx : (-1 : Int32) ≤ x2
    · by_cases e1 : x2 = -1
      · subst e1
        refine pairR hI (fun _ _ e => fr10_chain N e) rfl (fun _ _ _ e => fr11_chain N e) rfl (nI (cnt (ctg d mo p) (dn d) + 1)) ?_ (fun τ hE => ?_)
        · refine gd0 (noPlot_t hL hp) (Ok.t hx (Ok.b (c_counting hN hd hc hm (Or.inl rfl) hp') ?_))
          rintro r υ ⟨rfl, -⟩
          rw [bitC_bs d5, nI_1]
          exact Ok.t rfl (Ok.ret rfl)
        · refine gd1 (isPlot_t (hB.L hE) hp) (Ok.t hx (Ok.b (r_goesOnTo hN hd hk (hB.S.eq hE) (n := 0) (by omega)) ?_))
          intro u υ hG
          have hG : MG N υ v d mo := hG
          refine Ok.t rfl (Ok.b (r_countsOf hN hd hG.1 hG.2.1 hG.2.2.1 hp') ?_)
          rintro r ρ ⟨rfl, -⟩
          refine Ok.ret ?_
          rw [show (1 : Int32) = nI 1 from rfl, nI_add, Nat.add_comm]
          rfl
      · by_cases e0 : x2 = 0
        · subst e0
          refine pairR hI (fun _ _ e => fr10_chain N e) rfl (fun _ _ _ e => fr11_chain N e) rfl (nI (dfi d p)) ?_ (fun τ hE => ?_)
          · refine gd0 (noPlot_t hL hp) (Ok.t hx (Ok.b (c_counting hN hd hc hm (Or.inl rfl) hp') ?_))
            rintro r υ ⟨rfl, hU⟩
            obtain ⟨ho, hl3, hl, hP, hQ, hW, hK, hpl, hme, hgv, hlaw, hv⟩ := hc.eq hU.C0
            refine Ok.f (by decide) (Ok.t rfl (Ok.r hl3 (kd_land ho) (Ok.c (inBn (by omega) (by decide)) (Ok.ret ?_))))
            rw [ixn (by omega)]
            exact (hpl p hp').2.2
          · refine gd1 (isPlot_t (hB.L hE) hp) (Ok.t hx (Ok.b (r_goesOnTo hN hd hk (hB.S.eq hE) (n := 0) (by omega)) ?_))
            intro u υ hG
            obtain ⟨hv2, h18, hP, hQ, hW, hK, hpl, hme, hlaw⟩ := id hG.1
            refine Ok.f (by decide) (Ok.t rfl ?_)
            rw [h18, m7, ixn (by omega)]
            exact Ok.c (inBn (by omega) (by decide)) (Ok.ret (hpl p hp').2.2)
        · have hneg : ¬ x2 < 0 := by
            intro c
            apply e1
            rw [Int32.le_iff_toInt_le] at hx
            rw [Int32.lt_iff_toInt_lt] at c
            have e0 : (0 : Int32).toInt = 0 := rfl
            have em : (-1 : Int32).toInt = -1 := rfl
            exact Int32.toInt_inj.mp (by omega)
          obtain ⟨j, hj, rfl⟩ := nI_of hneg
          have hj0 : j ≠ 0 := fun c => e0 (by rw [c]; rfl)
          have hbs : bs (ctg d mo p) (dn d) < 2 ^ 31 := Nat.lt_of_lt_of_le (bs_lt _) (Nat.pow_le_pow_right (by decide) (by omega))
          have hcc : ∀ g, g ≤ dn d → cnt (bs (ctg d mo p) (dn d)).testBit g = cnt (ctg d mo p) g := fun g hg => cnt_congr fun i hi => by rw [bs_bit, decide_eq_true (by omega), Bool.true_and]
          by_cases hex : ∃ g, g < dn d ∧ ctg d mo p g = true ∧ cnt (ctg d mo p) g = j - 1
          · obtain ⟨g, hg, hct, hcn⟩ := hex
            refine pairR hI (fun _ _ e => fr10_chain N e) rfl (fun _ _ _ e => fr11_chain N e) rfl (nI (dgt d g)) ?_ (fun τ hE => ?_)
            · refine gd0 (noPlot_t hL hp) (Ok.t hx (Ok.b (c_counting hN hd hc hm (Or.inl rfl) hp') ?_))
              rintro r υ ⟨rfl, hU⟩
              obtain ⟨ho, hl3, hl, hP, hQ, hW, hK, hpl, hme, hgv, hlaw, hv⟩ := hc.eq hU.C0
              refine Ok.f e1 (Ok.f e0 ?_)
              rw [show nI j - 1 = nI (j - 1) from pk_sub (b := 1) (by omega), bitAt_some hN (g := g) hbs (by omega) (by rw [bs_bit, decide_eq_true hg, hct]; rfl) (by rw [hcc g (by omega)]; exact hcn), z_b_some]
              have hNU : f10_noGiving N (nI g) υ = some (0, υ) := by
                unfold f10_noGiving
                rw [if_neg (nI_pos (by omega)), (hm.eq (Or.inl rfl) hU).2.2.2.1, if_pos (nI_lt hg (by omega))]
              refine gd0 hNU (Ok.c (inBn (by omega) (by decide)) (Ok.ret ?_))
              rw [ixn (by omega)]
              exact (hgv g hg).2.2.1
            · refine gd1 (isPlot_t (hB.L hE) hp) (Ok.t hx (Ok.b (r_goesOnTo hN hd hk (hB.S.eq hE) (n := 0) (by omega)) ?_))
              intro u υ hG
              have hG : MG N υ v d mo := hG
              refine Ok.f e1 (Ok.f e0 ?_)
              refine Ok.lp (fun fu (a : Int32) i τ => f11_chain_57 N (nI p) (nI j) fu a i τ) (dn d) (fun i a τ => i ≤ g ∧ a = nI (cnt (ctg d mo p) i) ∧ τ = υ) ⟨Nat.zero_le _, rfl, rfl⟩ (by omega) ?_ ?_
              · rintro fu i a τ hi ⟨hig, rfl, rfl⟩ k
                obtain ⟨ra, rl, r14, r15, r16, rg⟩ := id hG.2.1
                have q1 := (d7 i hi).1
                have hci := cnt_le (p := ctg d mo p) i
                show Ok (f11_chain_57 N (nI p) (nI j) (fu + 1) _ (nI i) τ) _
                rw [f11_chain_57, ad17, ixl.2.2.2.2.2.2.2.2.2.2.1, r15, ixn (by omega), (rg i hi).1, ixn (by omega), (hG.ct hi).2]
                refine Ok.c rfl (Ok.f (nI_ngt hi (by omega)) (Ok.c (inBn (by omega) (by decide)) (Ok.i (fun h => ?_) (fun h => ?_))))
                · rw [nI_eq (by omega) (by omega)] at h
                  refine Ok.c (inBn (by omega) (by decide)) (Ok.i (fun h2 => ?_) (fun h2 => ?_))
                  · rw [b2_0] at h2
                    unfold ctAll at h2
                    rw [h] at h2
                    have : i ≠ g := fun c => by rw [c, hct] at h2; exact Bool.noConfusion h2
                    rw [f11_chain_115, z_l_eq, nI_1]
                    exact k _ _ ⟨by omega, by rw [cnt_skip h2], rfl⟩
                  · rw [b2_0] at h2
                    unfold ctAll at h2
                    rw [h] at h2
                    have h2' : ctg d mo p i = true := by simpa using h2
                    rw [z_l_eq, nI_1]
                    refine Ok.i (fun h3 => ?_) (fun h3 => ?_)
                    · rw [nI_eq (by omega) hj] at h3
                      have hig2 : i = g := by
                        by_cases c : i = g
                        · exact c
                        · have ee1 := cnt_step h2'
                          have ee2 : cnt (ctg d mo p) (i + 1) ≤ cnt (ctg d mo p) g := cnt_mono (by omega)
                          omega
                      subst hig2
                      rw [f11_chain_104, ad57, ixn (by omega), (rg i hi).2.2.1]
                      exact Ok.c (inBn (by omega) (by decide)) (Ok.ret rfl)
                    · rw [nI_eq (by omega) hj] at h3
                      have : i ≠ g := fun c => h3 (by rw [c]; omega)
                      rw [f11_chain_115, z_l_eq, nI_1]
                      exact k _ _ ⟨by omega, by rw [cnt_step h2'], rfl⟩
                · rw [nI_eq (by omega) (by omega)] at h
                  have h2 : ctg d mo p i = false := (ctS_f (fun c => h c.1)).1
                  have : i ≠ g := fun c => by rw [c, hct] at h2; exact Bool.noConfusion h2
                  rw [f11_chain_115, z_l_eq, nI_1]
                  exact k _ _ ⟨by omega, by rw [cnt_skip h2], rfl⟩
              · rintro fu a τ ⟨h, -⟩
                omega
          · refine pairR hI (fun _ _ e => fr10_chain N e) rfl (fun _ _ _ e => fr11_chain N e) rfl (-1) ?_ (fun τ hE => ?_)
            · refine gd0 (noPlot_t hL hp) (Ok.t hx (Ok.b (c_counting hN hd hc hm (Or.inl rfl) hp') ?_))
              rintro r υ ⟨rfl, hU⟩
              refine Ok.f e1 (Ok.f e0 ?_)
              rw [show nI j - 1 = nI (j - 1) from pk_sub (b := 1) (by omega), bitAt_none hN hbs (by omega) (fun g hg hb => ?_), z_b_some]
              · refine gd1 (g := f10_noGiving N (-1) υ) rfl (Ok.ret rfl)
              · rw [bs_bit] at hb
                have hgn : g < dn d := by
                  by_cases c : g < dn d
                  · exact c
                  · rw [decide_eq_false c] at hb; exact Bool.noConfusion hb
                rw [decide_eq_true hgn, Bool.true_and] at hb
                rw [hcc g (by omega)]
                exact fun c => hex ⟨g, hgn, hb, c⟩
            · refine gd1 (isPlot_t (hB.L hE) hp) (Ok.t hx (Ok.b (r_goesOnTo hN hd hk (hB.S.eq hE) (n := 0) (by omega)) ?_))
              intro u υ hG
              have hG : MG N υ v d mo := hG
              refine Ok.f e1 (Ok.f e0 ?_)
              refine Ok.lp (fun fu (a : Int32) i τ => f11_chain_57 N (nI p) (nI j) fu a i τ) (dn d) (fun i a τ => a = nI (cnt (ctg d mo p) i) ∧ τ = υ) ⟨rfl, rfl⟩ (by omega) ?_ ?_
              · rintro fu i a τ hi ⟨rfl, rfl⟩ k
                obtain ⟨ra, rl, r14, r15, r16, rg⟩ := id hG.2.1
                have q1 := (d7 i hi).1
                have hci := cnt_le (p := ctg d mo p) i
                show Ok (f11_chain_57 N (nI p) (nI j) (fu + 1) _ (nI i) τ) _
                rw [f11_chain_57, ad17, ixl.2.2.2.2.2.2.2.2.2.2.1, r15, ixn (by omega), (rg i hi).1, ixn (by omega), (hG.ct hi).2]
                refine Ok.c rfl (Ok.f (nI_ngt hi (by omega)) (Ok.c (inBn (by omega) (by decide)) (Ok.i (fun h => ?_) (fun h => ?_))))
                · rw [nI_eq (by omega) (by omega)] at h
                  refine Ok.c (inBn (by omega) (by decide)) (Ok.i (fun h2 => ?_) (fun h2 => ?_))
                  · rw [b2_0] at h2
                    unfold ctAll at h2
                    rw [h] at h2
                    rw [f11_chain_115, z_l_eq, nI_1]
                    exact k _ _ ⟨by rw [cnt_skip h2], rfl⟩
                  · rw [b2_0] at h2
                    unfold ctAll at h2
                    rw [h] at h2
                    have h2' : ctg d mo p i = true := by simpa using h2
                    rw [z_l_eq, nI_1]
                    refine Ok.f (fun h3 => ?_) ?_
                    · rw [nI_eq (by omega) hj] at h3
                      exact hex ⟨i, hi, h2', by omega⟩
                    · rw [f11_chain_115, z_l_eq, nI_1]
                      exact k _ _ ⟨by rw [cnt_step h2'], rfl⟩
                · rw [nI_eq (by omega) (by omega)] at h
                  rw [f11_chain_115, z_l_eq, nI_1]
                  exact k _ _ ⟨by rw [cnt_skip (p := ctg d mo p) (i := i) (ctS_f (fun c => h c.1)).1], rfl⟩
              · rintro fu a τ ⟨rfl, rfl⟩
                obtain ⟨ra, rl, r14, r15, r16, rg⟩ := id hG.2.1
                show Ok (f11_chain_57 N (nI p) (nI j) (fu + 1) _ (nI (dn d)) τ) _
                rw [f11_chain_57, ixl.2.2.2.2.2.2.2.2.2.2.1, r15]
                exact Ok.c rfl (Ok.t nI_rf (Ok.ret rfl))
    · refine pairR hI (fun _ _ e => fr10_chain N e) rfl (fun _ _ _ e => fr11_chain N e) rfl (-1) (gd0 (noPlot_t hL hp) (Ok.f hx (Ok.ret rfl))) (fun τ hE => gd1 (isPlot_t (hB.L hE) hp) (Ok.f hx (Ok.ret rfl)))
  · exact pairR hI (fun _ _ e => fr10_chain N e) rfl (fun _ _ _ e => fr11_chain N e) rfl (-1) (gd1 (noPlot_f hL hp) (Ok.ret rfl)) (fun τ hE => gd0 (isPlot_f (hB.L hE) hp) (Ok.ret rfl))
