-- PAIRS: count
def smS (d : Dt) (mo : Mo) : Nat → Nat
  | 0 => 0
  | i + 1 => smS d mo i + hmS d mo i
theorem c_plotsPassed {N : Nat} (hN : 4000 ≤ N) {σ : Mm} {o : Nat} {d : Dt} {mo : Mo} (hd : Dok d) (hc : CL N σ o d) (hm : CM σ 56 d mo) : Ok (f10_plotsPassed N σ) (Rd D_C σ (nI (cnt (fun p => decide (own d mo p ≠ dfi d p)) (dQ d)))) := by
  obtain ⟨d1, d2, d3, d4, d5, d6, d7, d8⟩ := id hd
  refine Ok.lp (fun fu (a : Int32) i τ => f10_plotsPassed_4 N fu a i τ) (dQ d) (fun i a τ => a = nI (cnt (fun p => decide (own d mo p ≠ dfi d p)) i) ∧ EqOn D_C σ τ) ⟨rfl, EqOn.rf⟩ (by omega) ?_ ?_
  · rintro fu i a τ hi ⟨rfl, hE⟩ k
    have hcτ := hc.eq hE.C0
    obtain ⟨ho, hl3, hl, hP, hQ, hW, hK, hpl, hme, hgv, hlaw, hv⟩ := id hcτ
    show Ok (f10_plotsPassed_4 N (fu + 1) _ (nI i) τ) _
    rw [f10_plotsPassed_4]
    refine Ok.r hl3 (kd_land ho) (Ok.f (by rw [hQ]; exact nI_ngt hi (by omega)) (Ok.b (c_owner hN hd hcτ (hm.eq (Or.inl rfl) hE) (Or.inl rfl) hi) ?_))
    rintro r υ ⟨rfl, hU⟩
    obtain ⟨ho, hl3, hl, hP, hQ, hW, hK, hpl, hme, hgv, hlaw, hv⟩ := hcτ.eq hU.C0
    have o1 := own_lt hd (mo := mo) hi
    have o2 := (d6 i hi).1
    refine Ok.r hl3 (kd_land ho) (Ok.c (inBn (by omega) (by decide)) ?_)
    rw [ixn (by omega), (hpl i hi).2.2]
    refine Ok.i (fun h => ?_) (fun h => ?_)
    · rw [nI_eq (by omega) (by omega)] at h
      rw [f10_plotsPassed_42, z_l_eq, nI_1]
      exact k _ _ ⟨by rw [cnt_skip (p := fun p => decide (own d mo p ≠ dfi d p)) (i := i) (decide_eq_false (fun c => c h))], hE.tr hU⟩
    · rw [nI_eq (by omega) (by omega)] at h
      rw [z_l_eq, f10_plotsPassed_42, z_l_eq, nI_1, nI_1]
      exact k _ _ ⟨by rw [cnt_step (p := fun p => decide (own d mo p ≠ dfi d p)) (i := i) (decide_eq_true h)], hE.tr hU⟩
  · rintro fu a τ ⟨rfl, hE⟩
    obtain ⟨ho, hl3, hl, hP, hQ, hW, hK, hpl, hme, hgv, hlaw, hv⟩ := hc.eq hE.C0
    show Ok (f10_plotsPassed_4 N (fu + 1) _ (nI (dQ d)) τ) _
    rw [f10_plotsPassed_4]
    exact Ok.r hl3 (kd_land ho) (Ok.t (by rw [hQ]; exact nI_rf) (Ok.ret ⟨rfl, hE⟩))
theorem c_allSwearing {N : Nat} (hN : 4000 ≤ N) {σ : Mm} {o : Nat} {d : Dt} {mo : Mo} (hd : Dok d) (hc : CL N σ o d) (hm : CM σ 56 d mo) : Ok (f10_allSwearing N σ) (Rd D_C σ (nI (smS d mo (dn d)))) := by
  obtain ⟨d1, d2, d3, d4, d5, d6, d7, d8⟩ := id hd
  refine Ok.lp (fun fu (a : Int32) i τ => f10_allSwearing_4 N fu a i τ) (dn d) (fun i a τ => a = nI (smS d mo i) ∧ EqOn D_C σ τ) ⟨rfl, EqOn.rf⟩ (by omega) ?_ ?_
  · rintro fu i a τ hi ⟨rfl, hE⟩ k
    show Ok (f10_allSwearing_4 N (fu + 1) _ (nI i) τ) _
    rw [f10_allSwearing_4, (hm.eq (Or.inl rfl) hE).2.2.2.1]
    refine Ok.f (nI_ngt hi (by omega)) (Ok.b (c_howManySwear hN hd (hc.eq hE.C0) (hm.eq (Or.inl rfl) hE) (Or.inl rfl) hi) ?_)
    rintro r υ ⟨rfl, hU⟩
    rw [z_l_eq, z_l_eq, nI_1, nI_add]
    exact k _ _ ⟨rfl, hE.tr hU⟩
  · rintro fu a τ ⟨rfl, hE⟩
    show Ok (f10_allSwearing_4 N (fu + 1) _ (nI (dn d)) τ) _
    rw [f10_allSwearing_4, (hm.eq (Or.inl rfl) hE).2.2.2.1]
    exact Ok.t nI_rf (Ok.ret ⟨rfl, hE⟩)
theorem r_c5 {N : Nat} (hN : 4000 ≤ N) {σ : Mm} {v : Nat} {d : Dt} {mo : Mo} (hd : Dok d) (hG : MG N σ v d mo) : Ok (f11_count_136 N N 0 0 σ) (fun r _ => r = nI (bs (al mo) (dW d))) := by
  obtain ⟨d1, d2, d3, d4, d5, d6, d7, d8⟩ := id hd
  obtain ⟨hv2, h18, hP, hQ, hW, hK, hpl, hme, hlaw⟩ := id hG.1
  obtain ⟨ra, rl, r14, r15, r16, rg⟩ := id hG.2.1
  refine Ok.lp (fun fu (a : Int32) i τ => f11_count_136 N fu a i τ) (dW d) (fun i a τ => a = nI (bs (al mo) i) ∧ τ = σ) ⟨rfl, rfl⟩ (by omega) ?_ ?_
  · rintro fu i a τ hi ⟨rfl, rfl⟩ k
    show Ok (f11_count_136 N (fu + 1) _ (nI i) τ) _
    rw [f11_count_136, ad7, h18, ixn (by omega), hW, ixn (by omega), rl i hi]
    refine Ok.c (inBn hv2 (by decide)) (Ok.f (nI_ngt hi (by omega)) (Ok.c (inBn (by omega) (by decide)) (Ok.l (Ok.l ?_))))
    rw [nI_1]
    refine k _ _ ⟨?_, rfl⟩
    cases e : al mo i
    · rw [bs_skip e]
      have z : ∀ i, i < 7 → (b2 false <<< (nI i &&& 31) : Int32) = 0 := by decide
      rw [z i (by omega)]
      exact Int32.or_zero
    · rw [← bs_step (p := al mo) (by omega) e, ← b1 (by omega)]
      rfl
  · rintro fu a τ ⟨rfl, rfl⟩
    show Ok (f11_count_136 N (fu + 1) _ (nI (dW d)) τ) _
    rw [f11_count_136, h18, ixn (by omega), hW]
    exact Ok.c (inBn hv2 (by decide)) (Ok.t nI_rf (Ok.ret rfl))
theorem r_c7 {N : Nat} (hN : 4000 ≤ N) {σ : Mm} {v : Nat} {d : Dt} {mo : Mo} (hd : Dok d) (hG : MG N σ v d mo) : Ok (f11_count_178 N N 0 0 σ) (fun r _ => r = nI (bs (ctAll d mo) (dn d))) := by
  obtain ⟨d1, d2, d3, d4, d5, d6, d7, d8⟩ := id hd
  obtain ⟨ra, rl, r14, r15, r16, rg⟩ := id hG.2.1
  refine Ok.lp (fun fu (a : Int32) i τ => f11_count_178 N fu a i τ) (dn d) (fun i a τ => a = nI (bs (ctAll d mo) i) ∧ τ = σ) ⟨rfl, rfl⟩ (by omega) ?_ ?_
  · rintro fu i a τ hi ⟨rfl, rfl⟩ k
    show Ok (f11_count_178 N (fu + 1) _ (nI i) τ) _
    rw [f11_count_178, ixl.2.2.2.2.2.2.2.2.2.2.1, r15, ixn (by omega), (hG.ct hi).2]
    refine Ok.c rfl (Ok.f (nI_ngt hi (by omega)) (Ok.c (inBn (by omega) (by decide)) (Ok.i (fun h => ?_) (fun h => ?_))))
    · rw [b2_0] at h
      rw [f11_count_204, z_l_eq, nI_1]
      exact k _ _ ⟨by rw [bs_skip h], rfl⟩
    · rw [b2_0] at h
      rw [z_l_eq, f11_count_204, z_l_eq, nI_1, b1 (by omega), bs_step (p := ctAll d mo) (by omega) (by simpa using h)]
      exact k _ _ ⟨rfl, rfl⟩
  · rintro fu a τ ⟨rfl, rfl⟩
    show Ok (f11_count_178 N (fu + 1) _ (nI (dn d)) τ) _
    rw [f11_count_178, ixl.2.2.2.2.2.2.2.2.2.2.1, r15]
    exact Ok.c rfl (Ok.t nI_rf (Ok.ret rfl))
theorem r_c14 {N : Nat} (hN : 4000 ≤ N) {σ : Mm} {v : Nat} {d : Dt} {mo : Mo} (hd : Dok d) (hG : MG N σ v d mo) : Ok (f11_count_292 N N 0 0 σ) (fun r _ => r = nI (cnt (fun p => decide (own d mo p ≠ dfi d p)) (dQ d))) := by
  obtain ⟨d1, d2, d3, d4, d5, d6, d7, d8⟩ := id hd
  obtain ⟨hv2, h18, hP, hQ, hW, hK, hpl, hme, hlaw⟩ := id hG.1
  refine Ok.lp (fun fu (a : Int32) i τ => f11_count_292 N fu a i τ) (dQ d) (fun i a τ => a = nI (cnt (fun p => decide (own d mo p ≠ dfi d p)) i) ∧ τ = σ) ⟨rfl, rfl⟩ (by omega) ?_ ?_
  · rintro fu i a τ hi ⟨rfl, rfl⟩ k
    have o1 := own_lt hd (mo := mo) hi
    have o2 := (d6 i hi).1
    show Ok (f11_count_292 N (fu + 1) _ (nI i) τ) _
    rw [f11_count_292, h18, m7, ixn (show v < 2 ^ 31 by omega), hQ, ixn (show i < 2 ^ 31 by omega), hG.whose hi, ixn (show 7 * v + i < 2 ^ 31 by omega), (hpl i hi).2.2]
    refine Ok.c (inBn hv2 (by decide)) (Ok.f (nI_ngt hi (by omega)) (Ok.c (inBn (by omega) (by decide)) (Ok.c (inBn (by omega) (by decide)) (Ok.i (fun h => ?_) (fun h => ?_)))))
    · rw [nI_eq (by omega) (by omega)] at h
      rw [f11_count_331, z_l_eq, nI_1]
      exact k _ _ ⟨by rw [cnt_skip (p := fun p => decide (own d mo p ≠ dfi d p)) (i := i) (decide_eq_false (fun c => c h))], rfl⟩
    · rw [nI_eq (by omega) (by omega)] at h
      rw [z_l_eq, f11_count_331, z_l_eq, nI_1, nI_1]
      exact k _ _ ⟨by rw [cnt_step (p := fun p => decide (own d mo p ≠ dfi d p)) (i := i) (decide_eq_true h)], rfl⟩
  · rintro fu a τ ⟨rfl, rfl⟩
    show Ok (f11_count_292 N (fu + 1) _ (nI (dQ d)) τ) _
    rw [f11_count_292, h18, ixn (by omega), hQ]
    exact Ok.c (inBn hv2 (by decide)) (Ok.t nI_rf (Ok.ret rfl))
theorem r_c15 {N : Nat} (hN : 4000 ≤ N) {σ : Mm} {v : Nat} {d : Dt} {mo : Mo} (hd : Dok d) (hG : MG N σ v d mo) : Ok (f11_count_341 N N 0 0 σ) (fun r _ => r = nI (smS d mo (dn d))) := by
  obtain ⟨d1, d2, d3, d4, d5, d6, d7, d8⟩ := id hd
  refine Ok.lp (fun fu (a : Int32) i τ => f11_count_341 N fu a i τ) (dn d) (fun i a τ => a = nI (smS d mo i) ∧ EqOn D_M σ τ) ⟨rfl, EqOn.rf⟩ (by omega) ?_ ?_
  · rintro fu i a τ hi ⟨rfl, hE⟩ k
    obtain ⟨ra, rl, r14, r15, r16, rg⟩ := hG.2.1.eq hE
    show Ok (f11_count_341 N (fu + 1) _ (nI i) τ) _
    rw [f11_count_341, ixl.2.2.2.2.2.2.2.2.2.2.1, r15]
    refine Ok.c rfl (Ok.f (nI_ngt hi (by omega)) (Ok.b (r_swearBits hN hd (hG.1.eq hE.M0) (hG.2.1.eq hE) hi) ?_))
    rintro r υ ⟨rfl, hU⟩
    rw [r_bitsB hN (by omega), z_b_some, z_l_eq, z_l_eq, nI_1, nI_add]
    exact k _ _ ⟨rfl, hE.tr hU⟩
  · rintro fu a τ ⟨rfl, hE⟩
    obtain ⟨ra, rl, r14, r15, r16, rg⟩ := hG.2.1.eq hE
    show Ok (f11_count_341 N (fu + 1) _ (nI (dn d)) τ) _
    rw [f11_count_341, ixl.2.2.2.2.2.2.2.2.2.2.1, r15]
    exact Ok.c rfl (Ok.t nI_rf (Ok.ret rfl))
theorem r_c12 {N : Nat} {σ : Mm} {s : Nat} (h : ∀ i, i < 3 → gI σ 210 i = if s.testBit i then 1 else 0) : Ok (z_c (inB (0 : Int32) 3) (if (gI σ 210 (ix (0 : Int32))) = 0 then f11_count_249 N 0 σ else f11_count_249 N 1 σ)) (fun r _ => r = nI (cnt s.testBit 3)) := by
  refine Ok.c rfl ?_
  have h0 := h 0 (by decide)
  have h1 := h 1 (by decide)
  have h2 := h 2 (by decide)
  rw [ixl.1]
  simp only [f11_count_249, f11_count_263, ixl, h0, h1, h2, cnt]
  cases s.testBit 0 <;> cases s.testBit 1 <;> cases s.testBit 2 <;> exact ⟨_, _, rfl, rfl⟩
theorem pr_count {N : Nat} (hN : 4000 ≤ N) : ∀ (x1 : Int32) (σ : Mm), Inv N σ → ∃ (r : Int32) (σ1 σ2 : Mm), f10_count N x1 σ = some (r, σ1) ∧ f11_count N x1 σ1 = some (r, σ2) ∧ Inv N σ2 := by
  intro x1 σ hI
  obtain ⟨o, v, d, mo, hB⟩ := bridgeI hI
  obtain ⟨hd, hk, hc, hm, hcM, hn, hsd, hInv⟩ := id hB
  have hL := hInv.2.2.1
  have hNw := hInv.2.2.2.2.1
  obtain ⟨d1, d2, d3, d4, d5, d6, d7, d8⟩ := id hd
  obtain ⟨n0, hn1, hn2, hn3, hn4⟩ := hInv.1
  obtain ⟨u, nx, ns, hu1, hu2, hu3, hu4, hu5, -⟩ := hInv.2.2.2.2.2.1
  obtain ⟨s, hs1, hs2, hs3⟩ := hInv.2.2.2.2.2.2.1
  obtain ⟨t, ht1, ht2, ht3, ht4⟩ := hInv.2.2.2.2.2.2.2.1
  refine pairR hI (fun _ _ e => fr10_count N e) rfl (fun _ _ _ e => fr11_count N e) rfl (if x1 = 0 then nI (dP d) else if x1 = 1 then nI (dQ d) else if x1 = 2 then nI (dW d) else if x1 = 3 then nI (dn d) else if x1 = 4 then yr mo else if x1 = 5 then nI (bs (al mo) (dW d)) else if x1 = 6 then nI (bs (std d mo) (dn d)) else if x1 = 7 then nI (bs (ctAll d mo) (dn d)) else if x1 = 8 then dun d else if x1 = 9 then nI n0 else if x1 = 10 then nI u else if x1 = 11 then nI t else if x1 = 12 then nI (cnt s.testBit 3) else if x1 = 13 then nI (dK d) else if x1 = 14 then nI (cnt (fun p => decide (own d mo p ≠ dfi d p)) (dQ d)) else if x1 = 15 then nI (smS d mo (dn d)) else -1) ?_ (fun τ hE => ?_)
  · obtain ⟨ho, hl3, hl, hP, hQ, hW, hK, hpl, hme, hgv, hlaw, hv⟩ := id hc
    obtain ⟨m0, m1, m2, m3, m4⟩ := id hm
    unfold f10_count
    refine Ok.ii (fun _ => Ok.r hl3 (kd_land ho) (Ok.ret hP)) fun _ => Ok.ii (fun _ => Ok.r hl3 (kd_land ho) (Ok.ret hQ)) fun _ => Ok.ii (fun _ => Ok.r hl3 (kd_land ho) (Ok.ret hW)) fun _ => Ok.ii (fun _ => Ok.ret m3) fun _ => Ok.ii (fun _ => Ok.ret m0) fun _ => Ok.ii (fun _ => Ok.ret m1) fun _ => Ok.ii (fun _ => Ok.v (c_standing hN hd hc hm (Or.inl rfl))) fun _ => Ok.ii (fun _ => Ok.v (c_countingOfAll hN hd hc hm (Or.inl rfl))) fun _ => Ok.ii (fun _ => Ok.ret m2) fun _ => Ok.ii (fun _ => Ok.ret hn2) fun _ => Ok.ii (fun _ => Ok.ret hu3) fun _ => Ok.ii (fun _ => Ok.ret ht2) fun _ => Ok.ii (fun _ => Ok.ret ?_) fun _ => Ok.ii (fun _ => Ok.r hl3 (kd_land ho) (Ok.ret hK)) fun _ => Ok.ii (fun _ => Ok.v (c_plotsPassed hN hd hc hm)) fun _ => Ok.ii (fun _ => Ok.v (c_allSwearing hN hd hc hm)) fun _ => Ok.ret rfl
    rw [hs2]
    exact bitC_set (n := 3) hs1 (by decide)
  · unfold f11_count
    refine Ok.b (r_goesOnTo hN hd hk (hB.S.eq hE) (n := 0) (by omega)).run ?_
    rintro uu υ ⟨hG, er⟩
    have hG : MG N υ v d mo := hG
    have hU := (fr11_goesOnTo N er).on (D := [(160, 1, some 2), (160, 1, some 63), (160, 1, some 69), (210, 1, none)]) rfl
    have hE' := hE.sub (D' := [(160, 1, some 2), (160, 1, some 63), (160, 1, some 69)]) (by decide)
    have hE3 := hE.sub (D' := [(210, 2, none)]) (by decide)
    obtain ⟨hv2, h18, hP, hQ, hW, hK, hpl, hme, hlaw⟩ := id hG.1
    obtain ⟨ra, rl, r14, r15, r16, rg⟩ := id hG.2.1
    rw [h18, ixn (by omega), ixl.2.2.2.2.2.2.2.2.2.2.1, ixl.2.2.2.2.2.2.2.2.2.1, ixl.2.2.2.2.2.2.2.2.2.2.2]
    refine Ok.ii (fun _ => Ok.c (inBn hv2 (by decide)) (Ok.ret hP)) fun _ => Ok.ii (fun _ => Ok.c (inBn hv2 (by decide)) (Ok.ret hQ)) fun _ => Ok.ii (fun _ => Ok.c (inBn hv2 (by decide)) (Ok.ret hW)) fun _ => Ok.ii (fun _ => Ok.c rfl (Ok.ret r15)) fun _ => Ok.ii (fun _ => Ok.c rfl (Ok.ret r14)) fun _ => Ok.ii (fun _ => r_c5 hN hd hG) fun _ => Ok.ii (fun _ => ?_) fun _ => Ok.ii (fun _ => r_c7 hN hd hG) fun _ => Ok.ii (fun _ => Ok.c rfl (Ok.ret r16)) fun _ => Ok.ii (fun _ => Ok.ret ?_) fun _ => Ok.ii (fun _ => Ok.ret ?_) fun _ => Ok.ii (fun _ => Ok.ret ?_) fun _ => Ok.ii (fun _ => ?_) fun _ => Ok.ii (fun _ => Ok.c (inBn hv2 (by decide)) (Ok.ret hK)) fun _ => Ok.ii (fun _ => r_c14 hN hd hG) fun _ => Ok.ii (fun _ => r_c15 hN hd hG) fun _ => Ok.ret rfl
    · have h6 := r_standBits hN hd hG.1 hG.2.1 hG.2.2.2
      rw [stF_f] at h6
      exact Ok.v h6
    · rw [hU.I (wIn_s 0 rfl), hE'.I (wIn_s 0 rfl)]; exact hn3
    · rw [hU.I (wIn_s 1 rfl), hE'.I (wIn_s 1 rfl)]; exact hu4
    · rw [hU.I (wIn_s 2 rfl), hE'.I (wIn_s 2 rfl)]; exact ht3
    · refine r_c12 (s := s) fun i hi => ?_
      rw [hU.I (wIn_r 3 rfl (by decide) (by decide)), hE3.I (wIn_r 0 rfl (by decide) (by decide))]
      exact (hs3 i hi).1
