-- PAIRS: one look, or one look ahead
theorem gd0 {β : Type} {g : Option (Int32 × Mm)} {σ : Mm} {A B : Mm → Option (β × Mm)} {Q : β → Mm → Prop} (e : g = some (0, σ)) (h : Ok (A σ) Q) : Ok (z_b g fun r τ => if r = 0 then A τ else B τ) Q := by
  rw [e, z_b_some, if_pos rfl]; exact h
theorem gd1 {β : Type} {g : Option (Int32 × Mm)} {σ : Mm} {A B : Mm → Option (β × Mm)} {Q : β → Mm → Prop} (e : g = some (1, σ)) (h : Ok (B σ) Q) : Ok (z_b g fun r τ => if r = 0 then A τ else B τ) Q := by
  rw [e, z_b_some, if_neg (by decide)]; exact h
theorem BR.L {N : Nat} {σ τ : Mm} {o v : Nat} {d : Dt} {mo : Mo} (h : BR N σ o v d mo) (hE : EqOn D_all σ τ) : V_land τ o v (dP d) (dQ d) (dW d) := by
  obtain ⟨hd, hk, hc, hm, hcM, hn, hsd, hInv⟩ := h
  exact hInv.2.2.1.eq (hE.sub (by decide))
theorem BR.Nw {N : Nat} {σ τ : Mm} {o v : Nat} {d : Dt} {mo : Mo} (h : BR N σ o v d mo) (hE : EqOn D_all σ τ) : V_now τ (dP d) (dQ d) (dW d) (dn d) := by
  obtain ⟨hd, hk, hc, hm, hcM, hn, hsd, hInv⟩ := h
  exact hInv.2.2.2.2.1.eq (hE.sub (by decide))
theorem pr_walk {N : Nat} (hN : 4000 ≤ N) : ∀ (x1 x2 : Int32) (σ : Mm), Inv N σ → ∃ (r : Int32) (σ1 σ2 : Mm), f10_walk N x1 x2 σ = some (r, σ1) ∧ f11_walk N x1 x2 σ1 = some (r, σ2) ∧ Inv N σ2 := by
  intro x1 x2 σ hI
  obtain ⟨o, v, d, mo, hB⟩ := bridgeI hI
  obtain ⟨hd, hk, hc, hm, hcM, hn, hsd, hInv⟩ := id hB
  have hL := hInv.2.2.1
  have hNw := hInv.2.2.2.2.1
  obtain ⟨d1, d2, d3, d4, d5, d6, d7, d8⟩ := id hd
  by_cases hp : isN x1 (dQ d)
  · by_cases hq : isN x2 (dQ d)
    · obtain ⟨p, hp', rfl⟩ := id hp
      obtain ⟨q, hq', rfl⟩ := id hq
      refine pairR hI (fun _ _ e => fr10_walk N e) rfl (fun _ _ _ e => fr11_walk N e) rfl (nI (wlk d mo p q)) ?_ (fun τ hE => ?_)
      · exact gd0 (noPlot_t hL hp) (gd0 (noPlot_t hL hq) (Ok.v (c_walking hN hd hc hm (Or.inl rfl) hp' hq')))
      · refine gd1 (isPlot_t (hB.L hE) hp) (gd1 (isPlot_t (hB.L hE) hq) (Ok.b (r_copies hN hd (hB.S.eq hE)) ?_))
        rintro u υ ⟨hM, -, -, -, -, hS⟩
        exact Ok.v (r_walksTo hN hd hS.1 hM hp' hq')
    · exact pairR hI (fun _ _ e => fr10_walk N e) rfl (fun _ _ _ e => fr11_walk N e) rfl (-1) (gd0 (noPlot_t hL hp) (gd1 (noPlot_f hL hq) (Ok.ret rfl))) (fun τ hE => gd1 (isPlot_t (hB.L hE) hp) (gd0 (isPlot_f (hB.L hE) hq) (Ok.ret rfl)))
  · exact pairR hI (fun _ _ e => fr10_walk N e) rfl (fun _ _ _ e => fr11_walk N e) rfl (-1) (gd1 (noPlot_f hL hp) (Ok.ret rfl)) (fun τ hE => gd0 (isPlot_f (hB.L hE) hp) (Ok.ret rfl))
theorem pr_asks {N : Nat} (hN : 4000 ≤ N) : ∀ (x1 : Int32) (σ : Mm), Inv N σ → ∃ (r : Int32) (σ1 σ2 : Mm), f10_asks N x1 σ = some (r, σ1) ∧ f11_asks N x1 σ1 = some (r, σ2) ∧ Inv N σ2 := by
  intro x1 σ hI
  obtain ⟨o, v, d, mo, hB⟩ := bridgeI hI
  obtain ⟨hd, hk, hc, hm, hcM, hn, hsd, hInv⟩ := id hB
  have hL := hInv.2.2.1
  have hNw := hInv.2.2.2.2.1
  obtain ⟨d1, d2, d3, d4, d5, d6, d7, d8⟩ := id hd
  by_cases hp : isN x1 (dQ d)
  · obtain ⟨p, hp', rfl⟩ := id hp
    refine pairR hI (fun _ _ e => fr10_asks N e) rfl (fun _ _ _ e => fr11_asks N e) rfl (nI (askV d mo p)) ?_ (fun τ hE => ?_)
    · exact gd0 (noPlot_t hL hp) (Ok.v (c_asking hN hd hc hm (Or.inl rfl) hp'))
    · refine gd1 (isPlot_t (hB.L hE) hp) (Ok.b (r_copies hN hd (hB.S.eq hE)) ?_)
      rintro u υ ⟨hM, -, -, -, -, hS⟩
      exact Ok.v (r_asksAt hN hd hS.1 hM hp')
  · exact pairR hI (fun _ _ e => fr10_asks N e) rfl (fun _ _ _ e => fr11_asks N e) rfl (-1) (gd1 (noPlot_f hL hp) (Ok.ret rfl)) (fun τ hE => gd0 (isPlot_f (hB.L hE) hp) (Ok.ret rfl))
theorem CL.l3 {N : Nat} {σ : Mm} {o : Nat} {d : Dt} (h : CL N σ o d) : gR σ 0 3 = some o := h.2.1
theorem CL.o {N : Nat} {σ : Mm} {o : Nat} {d : Dt} (h : CL N σ o d) : (kd o).1 = 3 := kd_land h.1
theorem pr_ownerIn {N : Nat} (hN : 4000 ≤ N) : ∀ (x1 x2 : Int32) (σ : Mm), Inv N σ → ∃ (r : Int32) (σ1 σ2 : Mm), f10_ownerIn N x1 x2 σ = some (r, σ1) ∧ f11_ownerIn N x1 x2 σ1 = some (r, σ2) ∧ Inv N σ2 := by
  intro x1 x2 σ hI
  obtain ⟨o, v, d, mo, hB⟩ := bridgeI hI
  obtain ⟨hd, hk, hc, hm, hcM, hn, hsd, hInv⟩ := id hB
  have hL := hInv.2.2.1
  have hNw := hInv.2.2.2.2.1
  obtain ⟨d1, d2, d3, d4, d5, d6, d7, d8⟩ := id hd
  by_cases hp : isN x1 (dQ d)
  · by_cases hy : isN x2 61
    · obtain ⟨p, hp', rfl⟩ := id hp
      obtain ⟨n, hn', rfl⟩ := id hy
      refine pairR hI (fun _ _ e => fr10_ownerIn N e) rfl (fun _ _ _ e => fr11_ownerIn N e) rfl (nI (own d (passN d (gI σ o 5) mo n) p)) ?_ (fun τ hE => ?_)
      · refine gd0 (noPlot_t hL hp) (gd0 (noYears_t hy) (Ok.r hc.l3 hc.o (Ok.b (c_lookAhead hN hd hc hm hk _ (by omega)) ?_)))
        rintro u υ ⟨hM, hU⟩
        exact Ok.v (c_owner hN hd (hc.eq hU.C10) hM (Or.inr rfl) hp')
      · refine gd1 (isPlot_t (hB.L hE) hp) (gd1 (isLong_t hy) (Ok.b (r_goesOnTo hN hd hk (hB.S.eq hE) (by omega)) ?_))
        intro u υ hG
        refine Ok.c (inBn (by omega) (by decide)) (Ok.ret ?_)
        rw [ixn (by omega)]
        exact hG.whose hp'
    · exact pairR hI (fun _ _ e => fr10_ownerIn N e) rfl (fun _ _ _ e => fr11_ownerIn N e) rfl (-1) (gd0 (noPlot_t hL hp) (gd1 (noYears_f hy) (Ok.ret rfl))) (fun τ hE => gd1 (isPlot_t (hB.L hE) hp) (gd0 (isLong_f hy) (Ok.ret rfl)))
  · exact pairR hI (fun _ _ e => fr10_ownerIn N e) rfl (fun _ _ _ e => fr11_ownerIn N e) rfl (-1) (gd1 (noPlot_f hL hp) (Ok.ret rfl)) (fun τ hE => gd0 (isPlot_f (hB.L hE) hp) (Ok.ret rfl))
theorem pr_swearIn {N : Nat} (hN : 4000 ≤ N) : ∀ (x1 x2 : Int32) (σ : Mm), Inv N σ → ∃ (r : Int32) (σ1 σ2 : Mm), f10_swearIn N x1 x2 σ = some (r, σ1) ∧ f11_swearIn N x1 x2 σ1 = some (r, σ2) ∧ Inv N σ2 := by
  intro x1 x2 σ hI
  obtain ⟨o, v, d, mo, hB⟩ := bridgeI hI
  obtain ⟨hd, hk, hc, hm, hcM, hn, hsd, hInv⟩ := id hB
  have hL := hInv.2.2.1
  have hNw := hInv.2.2.2.2.1
  obtain ⟨d1, d2, d3, d4, d5, d6, d7, d8⟩ := id hd
  by_cases hp : isN x1 (dn d)
  · by_cases hy : isN x2 61
    · obtain ⟨g, hg', rfl⟩ := id hp
      obtain ⟨n, hn', rfl⟩ := id hy
      refine pairR hI (fun _ _ e => fr10_swearIn N e) rfl (fun _ _ _ e => fr11_swearIn N e) rfl (nI (cnt (swG d (passN d (gI σ o 5) mo n) g) (dW d))) ?_ (fun τ hE => ?_)
      · refine gd0 (noGiving_t hNw hp) (gd0 (noYears_t hy) (Ok.r hc.l3 hc.o (Ok.b (c_lookAhead hN hd hc hm hk _ (by omega)) ?_)))
        rintro u υ ⟨hM, hU⟩
        exact Ok.v (c_howManySwear hN hd (hc.eq hU.C10) hM (Or.inr rfl) hg')
      · refine gd1 (isGiving_t (hB.Nw hE) hp) (gd1 (isLong_t hy) (Ok.b (r_goesOnTo hN hd hk (hB.S.eq hE) (by omega)) ?_))
        intro u υ hG
        refine Ok.b (r_swearBits hN hd hG.1 hG.2.1 hg') ?_
        rintro r ρ ⟨rfl, -⟩
        rw [r_bitsB hN (by omega), z_b_some]
        exact Ok.ret rfl
    · exact pairR hI (fun _ _ e => fr10_swearIn N e) rfl (fun _ _ _ e => fr11_swearIn N e) rfl (-1) (gd0 (noGiving_t hNw hp) (gd1 (noYears_f hy) (Ok.ret rfl))) (fun τ hE => gd1 (isGiving_t (hB.Nw hE) hp) (gd0 (isLong_f hy) (Ok.ret rfl)))
  · exact pairR hI (fun _ _ e => fr10_swearIn N e) rfl (fun _ _ _ e => fr11_swearIn N e) rfl (-1) (gd1 (noGiving_f hNw hp) (Ok.ret rfl)) (fun τ hE => gd0 (isGiving_f (hB.Nw hE) hp) (Ok.ret rfl))
theorem pr_has {N : Nat} (hN : 4000 ≤ N) : ∀ (x1 x2 : Int32) (σ : Mm), Inv N σ → ∃ (r : Int32) (σ1 σ2 : Mm), f10_has N x1 x2 σ = some (r, σ1) ∧ f11_has N x1 x2 σ1 = some (r, σ2) ∧ Inv N σ2 := by
  intro x1 x2 σ hI
  obtain ⟨o, v, d, mo, hB⟩ := bridgeI hI
  obtain ⟨hd, hk, hc, hm, hcM, hn, hsd, hInv⟩ := id hB
  have hL := hInv.2.2.1
  have hNw := hInv.2.2.2.2.1
  obtain ⟨d1, d2, d3, d4, d5, d6, d7, d8⟩ := id hd
  by_cases hp : isN x1 (dP d)
  · by_cases hy : isN x2 61
    · obtain ⟨a, ha', rfl⟩ := id hp
      obtain ⟨n, hn', rfl⟩ := id hy
      refine pairR hI (fun _ _ e => fr10_has N e) rfl (fun _ _ _ e => fr11_has N e) rfl (nI (hasP d (passN d (gI σ o 5) mo n) a)) ?_ (fun τ hE => ?_)
      · refine gd0 (noPerson_t hL hp) (gd0 (noYears_t hy) (Ok.r hc.l3 hc.o (Ok.b (c_lookAhead hN hd hc hm hk _ (by omega)) ?_)))
        rintro u υ ⟨hM, hU⟩
        refine Ok.b (c_countPlots hN hd (hc.eq hU.C10) hM (Or.inr rfl)) ?_
        rintro u2 ρ ⟨h65, -⟩
        refine Ok.c (inBn (by omega) (by decide)) (Ok.ret ?_)
        rw [ixn (by omega)]
        exact h65 a (by omega)
      · refine gd1 (isPerson_t (hB.L hE) hp) (gd1 (isLong_t hy) (Ok.b (r_goesOnTo hN hd hk (hB.S.eq hE) (by omega)) ?_))
        intro u υ hG
        rw [r_hasNow hN hd hG.1 (f := own d (passN d (gI σ o 5) mo n)) (fun p hp => ⟨by have := own_lt hd (mo := passN d (gI σ o 5) mo n) hp; omega, hG.whose hp⟩) (by omega), z_b_some]
        exact Ok.ret rfl
    · exact pairR hI (fun _ _ e => fr10_has N e) rfl (fun _ _ _ e => fr11_has N e) rfl (-1) (gd0 (noPerson_t hL hp) (gd1 (noYears_f hy) (Ok.ret rfl))) (fun τ hE => gd1 (isPerson_t (hB.L hE) hp) (gd0 (isLong_f hy) (Ok.ret rfl)))
  · exact pairR hI (fun _ _ e => fr10_has N e) rfl (fun _ _ _ e => fr11_has N e) rfl (-1) (gd1 (noPerson_f hL hp) (Ok.ret rfl)) (fun τ hE => gd0 (isPerson_f (hB.L hE) hp) (Ok.ret rfl))
theorem pr_lapse {N : Nat} (hN : 4000 ≤ N) : ∀ (x1 : Int32) (σ : Mm), Inv N σ → ∃ (r : Int32) (σ1 σ2 : Mm), f10_lapse N x1 σ = some (r, σ1) ∧ f11_lapse N x1 σ1 = some (r, σ2) ∧ Inv N σ2 := by
  intro x1 σ hI
  obtain ⟨o, v, d, mo, hB⟩ := bridgeI hI
  obtain ⟨hd, hk, hc, hm, hcM, hn, hsd, hInv⟩ := id hB
  have hL := hInv.2.2.1
  have hNw := hInv.2.2.2.2.1
  obtain ⟨d1, d2, d3, d4, d5, d6, d7, d8⟩ := id hd
  by_cases hy : isN x1 61
  · obtain ⟨n, hn', rfl⟩ := id hy
    refine pairR hI (fun _ _ e => fr10_lapse N e) rfl (fun _ _ _ e => fr11_lapse N e) rfl (nI (cnt (fun g => std d mo g && !std d (passN d (gI σ o 5) mo n) g) (dn d))) ?_ (fun τ hE => ?_)
    · refine gd0 (noYears_t hy) (Ok.r hc.l3 hc.o (Ok.b (c_lookAhead hN hd hc hm hk _ (by omega)) ?_))
      rintro u υ ⟨hM, hU⟩
      refine Ok.b (c_standing hN hd (hc.eq hU.C10) (hm.eq1 hU) (Or.inl rfl)) ?_
      rintro r ρ ⟨rfl, hR⟩
      refine Ok.b (c_standing hN hd ((hc.eq hU.C10).eq hR.C0) (hM.eq (Or.inr rfl) hR) (Or.inr rfl)) ?_
      rintro r2 ρ2 ⟨rfl, -⟩
      rw [xor1, diffN (by omega), bitC_bs (by omega)]
      exact Ok.ret rfl
    · refine gd1 (isLong_t hy) (Ok.b (r_copies hN hd (hB.S.eq hE)) ?_)
      rintro u υ ⟨hM, hE0, e57, e58, e59, hS⟩
      refine Ok.b (r_standBits hN hd hS.1 hM e59) ?_
      rintro r ρ ⟨rfl, hR⟩
      refine Ok.b (r_goes hN hd (hS.1.eq hR.M0) (hM.eq hR) hk (by rw [flag58 hR.M1]; exact e58) (by omega)) ?_
      rintro u2 ρ2 ⟨hM2, hR2⟩
      rw [flag57 hR.M1, e57] at hM2
      refine Ok.b (r_standBits hN hd ((hS.1.eq hR.M0).eq hR2.M10) hM2 (fl := false) (by rw [flag hR2, flag hR.M1]; exact e59)) ?_
      rintro r2 ρ3 ⟨rfl, -⟩
      rw [stF_f, stF_f, xor1, diffN (by omega), r_bitsB hN (by omega), z_b_some]
      exact Ok.ret rfl
  · exact pairR hI (fun _ _ e => fr10_lapse N e) rfl (fun _ _ _ e => fr11_lapse N e) rfl (-1) (gd1 (noYears_f hy) (Ok.ret rfl)) (fun τ hE => gd0 (isLong_f hy) (Ok.ret rfl))
theorem pr_then {N : Nat} (hN : 4000 ≤ N) : ∀ (x1 x2 x3 : Int32) (σ : Mm), Inv N σ → ∃ (r : Int32) (σ1 σ2 : Mm), f10_then N x1 x2 x3 σ = some (r, σ1) ∧ f11_then N x1 x2 x3 σ1 = some (r, σ2) ∧ Inv N σ2 := by
  intro x1 x2 x3 σ hI
  obtain ⟨o, v, d, mo, hB⟩ := bridgeI hI
  obtain ⟨hd, hk, hc, hm, hcM, hn, hsd, hInv⟩ := id hB
  have hL := hInv.2.2.1
  have hNw := hInv.2.2.2.2.1
  obtain ⟨d1, d2, d3, d4, d5, d6, d7, d8⟩ := id hd
  by_cases hp : isN x1 (dW d)
  · by_cases hy : isN x2 61
    · by_cases hz : x3 = 0 ∨ x3 = 1
      · obtain ⟨w, hw', rfl⟩ := id hp
        obtain ⟨n, hn', rfl⟩ := id hy
        refine pairR hI (fun _ _ e => fr10_then N e) rfl (fun _ _ _ e => fr11_then N e) rfl (if x3 = 0 then nI (ag (passN d (gI σ o 5) mo n) w) else b2 (al (passN d (gI σ o 5) mo n) w)) ?_ (fun τ hE => ?_)
        · have h26 : Ok (f10_then_26 N (nI w) (nI n) x3 σ) (fun r _ => r = if x3 = 0 then nI (ag (passN d (gI σ o 5) mo n) w) else b2 (al (passN d (gI σ o 5) mo n) w)) := by
            refine Ok.r hc.l3 hc.o (Ok.b (c_lookAhead hN hd hc hm hk _ (by omega)) ?_)
            rintro u υ ⟨hM, hU⟩
            refine Ok.ii (fun _ => Ok.c (inBn (by omega) (by decide)) (Ok.ret ?_)) (fun _ => Ok.ret ?_)
            · rw [ixn (by omega)]; exact hM.2.2.2.2 w hw'
            · exact alive_sr hd hM hw'
          refine gd0 (noWitness_t hL hp) (gd0 (noYears_t hy) ?_)
          rcases hz with h | h
          · exact Ok.t h h26
          · exact Ok.f (by rw [h]; decide) (Ok.t h h26)
        · refine gd1 (isWitness_t (hB.L hE) hp) (gd1 (isLong_t hy) (gd1 (in01_t hz) (Ok.b (r_goesOnTo hN hd hk (hB.S.eq hE) (by omega)) ?_)))
          intro u υ hG
          rcases hz with rfl | rfl
          · rw [if_pos rfl, show (7 : Int32) * 0 = nI 0 from rfl, nI_add, Nat.zero_add, ixn (by omega)]
            exact Ok.c (inBn (by omega) (by decide)) (Ok.ret (hG.2.1.1 w hw'))
          · rw [if_neg (by decide), show (7 : Int32) * 1 = nI 7 from rfl, nI_add, ixn (by omega)]
            exact Ok.c (inBn (by omega) (by decide)) (Ok.ret (hG.2.1.2.1 w hw'))
      · refine pairR hI (fun _ _ e => fr10_then N e) rfl (fun _ _ _ e => fr11_then N e) rfl (-1) (gd0 (noWitness_t hL hp) (gd0 (noYears_t hy) (Ok.f (fun c => hz (Or.inl c)) (Ok.f (fun c => hz (Or.inr c)) (Ok.ret rfl))))) (fun τ hE => gd1 (isWitness_t (hB.L hE) hp) (gd1 (isLong_t hy) (gd0 (in01_f hz) (Ok.ret rfl))))
    · exact pairR hI (fun _ _ e => fr10_then N e) rfl (fun _ _ _ e => fr11_then N e) rfl (-1) (gd0 (noWitness_t hL hp) (gd1 (noYears_f hy) (Ok.ret rfl))) (fun τ hE => gd1 (isWitness_t (hB.L hE) hp) (gd0 (isLong_f hy) (Ok.ret rfl)))
  · exact pairR hI (fun _ _ e => fr10_then N e) rfl (fun _ _ _ e => fr11_then N e) rfl (-1) (gd1 (noWitness_f hL hp) (Ok.ret rfl)) (fun τ hE => gd0 (isWitness_f (hB.L hE) hp) (Ok.ret rfl))
