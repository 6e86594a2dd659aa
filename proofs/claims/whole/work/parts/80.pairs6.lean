-- PAIRS: weakest, rich, book, hangs, lasts, passes
theorem nI_ne2 {j : Nat} (hj : j < 2 ^ 31) : ¬ nI j = -2 := fun h => nI_pos hj (by rw [h]; decide)
/-- the least: what changes, and what does not -/
theorem mn_n {c : Nat → Bool} {f : Nat → Nat} {i : Nat} (h : bst ltB c f i = none) (hc : c i = true) : bst ltB c f (i + 1) = some (i, f i) := bst_n h hc
theorem mn_set {c : Nat → Bool} {f : Nat → Nat} {i : Nat} {q : Nat × Nat} (h : bst ltB c f i = some q) (hc : c i = true) (hl : f i < q.2) : bst ltB c f (i + 1) = some (i, f i) := bst_t h hc (decide_eq_true hl)
theorem mn_keep {c : Nat → Bool} {f : Nat → Nat} {i : Nat} {q : Nat × Nat} (h : bst ltB c f i = some q) (hl : ¬ f i < q.2) : bst ltB c f (i + 1) = bst ltB c f i := bst_f h (decide_eq_false hl)
def hmS (d : Dt) (mo : Mo) (g : Nat) : Nat := cnt (swG d mo g) (dW d)
theorem pr_weakest {N : Nat} (hN : 4000 ≤ N) : ∀ (x1 : Int32) (σ : Mm), Inv N σ → ∃ (r : Int32) (σ1 σ2 : Mm), f10_weakest N x1 σ = some (r, σ1) ∧ f11_weakest N x1 σ1 = some (r, σ2) ∧ Inv N σ2 := by
  intro x1 σ hI
  obtain ⟨o, v, d, mo, hB⟩ := bridgeI hI
  obtain ⟨hd, hk, hc, hm, hcM, hn, hsd, hInv⟩ := id hB
  have hL := hInv.2.2.1
  have hNw := hInv.2.2.2.2.1
  obtain ⟨d1, d2, d3, d4, d5, d6, d7, d8⟩ := id hd
  have hfl : ∀ g, hmS d mo g ≤ 7 := fun g => Nat.le_trans (cnt_le _) d3
  by_cases hz : x1 = 0 ∨ x1 = 1
  · refine pairR hI (fun _ _ e => fr10_weakest N e) rfl (fun _ _ _ e => fr11_weakest N e) rfl (wt x1 (bst ltB (ctAll d mo) (hmS d mo) (dn d))) ?_ (fun τ hE => ?_)
    · have h11 : Ok (f10_weakest_11 N x1 σ) (fun r _ => r = wt x1 (bst ltB (ctAll d mo) (hmS d mo) (dn d))) := by
        unfold f10_weakest_11
        refine Ok.b (c_countingOfAll hN hd hc hm (Or.inl rfl)) ?_
        rintro r σ1 ⟨rfl, hE1⟩
        refine Ok.lp (fun fu (a : Int32 × Int32) i τ => f10_weakest_33 N x1 (nI (bs (ctAll d mo) (dn d))) fu a.1 a.2 i τ) (dn d) (fun i a τ => a = (e1 (bst ltB (ctAll d mo) (hmS d mo) i), e2 (-2) (bst ltB (ctAll d mo) (hmS d mo) i)) ∧ EqOn D_C σ τ) (a := (-2, -2)) ⟨rfl, hE1⟩ (by omega) ?_ ?_
        · rintro fu i a τ hi ⟨rfl, hE⟩ k
          show Ok (f10_weakest_33 N x1 _ (fu + 1) _ _ (nI i) τ) _
          rw [f10_weakest_33, (hm.eq (Or.inl rfl) hE).2.2.2.1, bs_sr d5 hi]
          refine Ok.f (nI_ngt hi (by omega)) (Ok.i (fun h => ?_) (fun h => Ok.b (c_howManySwear hN hd (hc.eq hE.C0) (hm.eq (Or.inl rfl) hE) (Or.inl rfl) hi) ?_))
          · rw [b2_0] at h
            rw [f10_weakest_89, z_l_eq, nI_1]
            exact k (_, _) _ ⟨by rw [bst_c h] <;> rfl, hE⟩
          · rintro r υ ⟨rfl, hU⟩
            rw [b2_0] at h
            have h' : ctAll d mo i = true := by simpa using h
            have hE2 := hE.tr hU
            cases hb : bst ltB (ctAll d mo) (hmS d mo) i with
            | none =>
              refine Ok.t rfl ?_
              rw [f10_weakest_82, f10_weakest_89, z_l_eq, nI_1]
              exact k (_, _) _ ⟨by rw [mn_n hb h'] <;> rfl, hE2⟩
            | some q =>
              have hq := bst_ok hb
              have hq2 := hfl q.1
              refine Ok.f (nI_ne2 (by omega)) (Ok.i (fun h2 => ?_) (fun h2 => ?_))
              · have h2 : nI q.2 ≤ nI (hmS d mo i) := h2
                rw [nI_leI (by omega) (by have := hfl i; omega)] at h2
                rw [f10_weakest_89, z_l_eq, nI_1]
                exact k (_, _) _ ⟨by rw [mn_keep hb (by omega), hb] <;> rfl, hE2⟩
              · have h2 : ¬ nI q.2 ≤ nI (hmS d mo i) := h2
                rw [nI_leI (by omega) (by have := hfl i; omega)] at h2
                rw [f10_weakest_82, f10_weakest_89, z_l_eq, nI_1]
                exact k (_, _) _ ⟨by rw [mn_set hb h' (by omega)] <;> rfl, hE2⟩
        · rintro fu a τ ⟨rfl, hE⟩
          show Ok (f10_weakest_33 N x1 _ (fu + 1) _ _ (nI (dn d)) τ) _
          rw [f10_weakest_33, (hm.eq (Or.inl rfl) hE).2.2.2.1]
          exact Ok.t nI_rf (Ok.ii (fun _ => Ok.ret rfl) (fun _ => Ok.ret rfl))
      rcases hz with h | h
      · exact Ok.t h h11
      · exact Ok.f (by rw [h]; decide) (Ok.t h h11)
    · refine gd1 (in01_t hz) (Ok.b (r_goesOnTo hN hd hk (hB.S.eq hE) (n := 0) (by omega)) ?_)
      intro u υ hG
      have hG : MG N υ v d mo := hG
      refine Ok.lp (fun fu (a : Int32 × Int32) i υ => f11_weakest_25 N x1 fu a.1 a.2 i υ) (dn d) (fun i a ρ => a = (e1 (bst ltB (ctAll d mo) (hmS d mo) i), e2 (-2) (bst ltB (ctAll d mo) (hmS d mo) i)) ∧ EqOn D_M υ ρ ∧ ∀ j, gI ρ 202 j = gI υ 202 j) (a := (-2, -2)) ⟨rfl, EqOn.rf, fun _ => rfl⟩ (by omega) ?_ ?_
      · rintro fu i a ρ hi ⟨rfl, hR, h202⟩ k
        obtain ⟨ra, rl, r14, r15, r16, rg⟩ := hG.2.1.eq hR
        show Ok (f11_weakest_25 N x1 (fu + 1) _ _ (nI i) ρ) _
        rw [f11_weakest_25, ixl.2.2.2.2.2.2.2.2.2.2.1, r15]
        refine Ok.c rfl (Ok.f (nI_ngt hi (by omega)) (Ok.b (r_swearBits hN hd (hG.1.eq hR.M0) (hG.2.1.eq hR) hi).run ?_))
        rintro r ρ2 ⟨⟨rfl, hR2⟩, er⟩
        have h202' : ∀ j, gI ρ2 202 j = gI υ 202 j := fun j => by rw [((fr11_swearBits N er).on (D := [(202, 1, none)]) rfl).I (wIn_r 0 rfl (by decide) (by decide)), h202]
        rw [r_bitsB hN (by omega), z_b_some, ixn (by omega), h202', (hG.ct hi).2]
        have hE2 := hR.tr hR2
        refine Ok.c (inBn (by omega) (by decide)) (Ok.i (fun h => ?_) (fun h => ?_))
        · rw [b2_0] at h
          rw [f11_weakest_77, z_l_eq, nI_1]
          exact k (_, _) _ ⟨by rw [bst_c h] <;> rfl, hE2, h202'⟩
        · rw [b2_0] at h
          have h' : ctAll d mo i = true := by simpa using h
          cases hb : bst ltB (ctAll d mo) (hmS d mo) i with
          | none =>
            refine Ok.t (show (-2 : Int32) < 0 by decide) ?_
            rw [f11_weakest_71, f11_weakest_77, z_l_eq, nI_1]
            exact k (_, _) _ ⟨by rw [mn_n hb h'] <;> rfl, hE2, h202'⟩
          | some q =>
            have hq := bst_ok hb
            have hq2 := hfl q.1
            have hi7 := hfl i
            refine Ok.f (show ¬ nI q.1 < 0 from nI_pos (by omega)) (Ok.i (fun h2 => ?_) (fun h2 => ?_))
            · have h2 : nI (hmS d mo i) < nI q.2 := h2
              rw [nI_ltI (by omega) (by omega)] at h2
              rw [f11_weakest_71, f11_weakest_77, z_l_eq, nI_1]
              exact k (_, _) _ ⟨by rw [mn_set hb h' h2] <;> rfl, hE2, h202'⟩
            · have h2 : ¬ nI (hmS d mo i) < nI q.2 := h2
              rw [nI_ltI (by omega) (by omega)] at h2
              rw [f11_weakest_77, z_l_eq, nI_1]
              exact k (_, _) _ ⟨by rw [mn_keep hb h2, hb] <;> rfl, hE2, h202'⟩
      · rintro fu a ρ ⟨rfl, hR, -⟩
        obtain ⟨ra, rl, r14, r15, r16, rg⟩ := hG.2.1.eq hR
        show Ok (f11_weakest_25 N x1 (fu + 1) _ _ (nI (dn d)) ρ) _
        rw [f11_weakest_25, ixl.2.2.2.2.2.2.2.2.2.2.1, r15]
        exact Ok.c rfl (Ok.t nI_rf (Ok.ii (fun _ => Ok.ret rfl) (fun _ => Ok.ret rfl)))
  · exact pairR hI (fun _ _ e => fr10_weakest N e) rfl (fun _ _ _ e => fr11_weakest N e) rfl (-1) (Ok.f (fun c => hz (Or.inl c)) (Ok.f (fun c => hz (Or.inr c)) (Ok.ret rfl))) (fun τ hE => gd0 (in01_f hz) (Ok.ret rfl))
theorem pr_rich {N : Nat} (hN : 4000 ≤ N) : ∀ (x1 x2 : Int32) (σ : Mm), Inv N σ → ∃ (r : Int32) (σ1 σ2 : Mm), f10_rich N x1 x2 σ = some (r, σ1) ∧ f11_rich N x1 x2 σ1 = some (r, σ2) ∧ Inv N σ2 := by
  intro x1 x2 σ hI
  obtain ⟨o, v, d, mo, hB⟩ := bridgeI hI
  obtain ⟨hd, hk, hc, hm, hcM, hn, hsd, hInv⟩ := id hB
  have hL := hInv.2.2.1
  have hNw := hInv.2.2.2.2.1
  obtain ⟨d1, d2, d3, d4, d5, d6, d7, d8⟩ := id hd
  by_cases hy : isN x1 61
  · by_cases hz : x2 = 0 ∨ x2 = 1
    · obtain ⟨n, hn', rfl⟩ := id hy
      obtain ⟨mo2, hmo2⟩ : ∃ m, m = passN d (gI σ o 5) mo n := ⟨_, rfl⟩
      have hfl : ∀ a, hasP d mo2 a ≤ 7 := fun a => Nat.le_trans (cnt_le _) d2
      have hf : ∀ i, ∀ j, j ≤ i → hasP d mo2 j < 2 ^ 31 := fun i j hj => by have := hfl j; omega
      refine pairR hI (fun _ _ e => fr10_rich N e) rfl (fun _ _ _ e => fr11_rich N e) rfl (wt x2 (bst gtB (fun _ => true) (hasP d mo2) (dP d))) ?_ (fun τ hE => ?_)
      · have h11 : Ok (f10_rich_18 N (nI n) x2 σ) (fun r _ => r = wt x2 (bst gtB (fun _ => true) (hasP d mo2) (dP d))) := by
          refine Ok.r hc.l3 hc.o (Ok.b (c_lookAhead hN hd hc hm hk _ (by omega)) ?_)
          rintro u υ ⟨hM, hU⟩
          rw [← hmo2] at hM
          refine Ok.b (c_countPlots hN hd (hc.eq hU.C10) hM (Or.inr rfl)) ?_
          rintro u2 ρ ⟨h65, hR⟩
          obtain ⟨ho, hl3, hl, hP, hQ, hW, hK, hpl, hme, hgv, hlaw, hv⟩ := (hc.eq hU.C10).eq hR.C0
          refine Ok.lp (fun fu (a : Int32 × Int32) i τ => f10_rich_51 N x2 fu a.1 a.2 i τ) (dP d) (fun i a τ => a = (e1 (bst gtB (fun _ => true) (hasP d mo2) i), e2 (-2) (bst gtB (fun _ => true) (hasP d mo2) i)) ∧ τ = ρ) (a := (-2, -2)) ⟨rfl, rfl⟩ (by omega) ?_ ?_
          · rintro fu i a τ hi ⟨rfl, rfl⟩ k
            show Ok (f10_rich_51 N x2 (fu + 1) _ _ (nI i) τ) _
            rw [f10_rich_51, ixn (by omega), h65 i (by omega)]
            refine Ok.r hl3 (kd_land ho) (Ok.f (by rw [hP]; exact nI_ngt hi (by omega)) (Ok.c (inBn (by omega) (by decide)) (Ok.i (fun h2 => ?_) (fun h2 => ?_))))
            · rw [f10_rich_93, z_l_eq, nI_1]
              exact k (_, _) _ ⟨by rw [mx_le (hf i) h2] <;> rfl, rfl⟩
            · refine Ok.c (inBn (by omega) (by decide)) (Ok.l ?_)
              rw [f10_rich_93, z_l_eq, nI_1]
              exact k (_, _) _ ⟨by rw [mx_gt (hf i) rfl h2] <;> rfl, rfl⟩
          · rintro fu a τ ⟨rfl, rfl⟩
            show Ok (f10_rich_51 N x2 (fu + 1) _ _ (nI (dP d)) τ) _
            rw [f10_rich_51]
            exact Ok.r hl3 (kd_land ho) (Ok.t (by rw [hP]; exact nI_rf) (Ok.ii (fun _ => Ok.ret rfl) (fun _ => Ok.ret rfl)))
        refine gd0 (noYears_t hy) ?_
        rcases hz with h | h
        · exact Ok.t h h11
        · exact Ok.f (by rw [h]; decide) (Ok.t h h11)
      · refine gd1 (isLong_t hy) (gd1 (in01_t hz) (Ok.b (r_goesOnTo hN hd hk (hB.S.eq hE) (by omega)) ?_))
        intro u υ hG
        rw [← hmo2] at hG
        obtain ⟨hv2, h18, hP, hQ, hW, hK, hpl, hme, hlaw⟩ := id hG.1
        have hn : ∀ a, a < 2 ^ 31 → f11_hasNow N (nI a) υ = some (nI (hasP d mo2 a), υ) := fun a ha => r_hasNow hN hd hG.1 (f := own d mo2) (fun p hp => ⟨by have := own_lt hd (mo := mo2) hp; omega, hG.whose hp⟩) ha
        refine Ok.lp (fun fu (a : Int32) i υ => f11_rich_29 N x2 fu a i υ) (dP d) (fun i a ρ => a = e1 (bst gtB (fun _ => true) (hasP d mo2) i) ∧ ρ = υ) ⟨rfl, rfl⟩ (by omega) ?_ ?_
        · rintro fu i a ρ hi ⟨rfl, rfl⟩ k
          show Ok (f11_rich_29 N x2 (fu + 1) _ (nI i) ρ) _
          rw [f11_rich_29, h18, ixn (by omega), hP]
          refine Ok.c (inBn hv2 (by decide)) (Ok.f (nI_ngt hi (by omega)) ?_)
          cases hb : bst gtB (fun _ => true) (hasP d mo2) i with
          | none =>
            refine Ok.t (show (-2 : Int32) < 0 by decide) ?_
            rw [f11_rich_61, f11_rich_64, z_l_eq, nI_1]
            exact k _ _ ⟨by rw [bst_n hb rfl] <;> rfl, rfl⟩
          | some q =>
            have hq := bst_ok hb
            refine Ok.f (show ¬ nI q.1 < 0 from nI_pos (by omega)) ?_
            rw [hn i (by omega), z_b_some, show e1 (some q) = nI q.1 from rfl, hn q.1 (by omega), z_b_some]
            have e2' : e2 (-2) (bst gtB (fun _ => true) (hasP d mo2) i) = nI (hasP d mo2 q.1) := by rw [hb, ← hq.2.1]; rfl
            refine Ok.i (fun h2 => ?_) (fun h2 => ?_)
            · rw [← e2'] at h2
              rw [f11_rich_64, z_l_eq, nI_1]
              exact k _ _ ⟨by rw [mx_le (hf i) h2, hb] <;> rfl, rfl⟩
            · rw [← e2'] at h2
              rw [f11_rich_61, f11_rich_64, z_l_eq, nI_1]
              exact k _ _ ⟨by rw [mx_gt (hf i) rfl h2] <;> rfl, rfl⟩
        · rintro fu a ρ ⟨rfl, rfl⟩
          show Ok (f11_rich_29 N x2 (fu + 1) _ (nI (dP d)) ρ) _
          rw [f11_rich_29, h18, ixn (by omega), hP]
          refine Ok.c (inBn hv2 (by decide)) (Ok.t nI_rf ?_)
          rw [f11_rich_70]
          cases hb : bst gtB (fun _ => true) (hasP d mo2) (dP d) with
          | none =>
            refine Ok.t (show (-2 : Int32) < 0 by decide) (Ok.ret ?_)
            unfold wt
            rw [show e1 none = -2 from rfl, show e2 (-2) none = -2 from rfl]
            split <;> rfl
          | some q =>
            have hq := bst_ok hb
            refine Ok.f (show ¬ nI q.1 < 0 from nI_pos (by omega)) (Ok.ii (fun _ => Ok.ret rfl) (fun _ => ?_))
            rw [show e1 (some q) = nI q.1 from rfl, hn q.1 (by omega), z_b_some]
            exact Ok.ret (by rw [← hq.2.1]; rfl)
    · exact pairR hI (fun _ _ e => fr10_rich N e) rfl (fun _ _ _ e => fr11_rich N e) rfl (-1) (gd0 (noYears_t hy) (Ok.f (fun c => hz (Or.inl c)) (Ok.f (fun c => hz (Or.inr c)) (Ok.ret rfl)))) (fun τ hE => gd1 (isLong_t hy) (gd0 (in01_f hz) (Ok.ret rfl)))
  · exact pairR hI (fun _ _ e => fr10_rich N e) rfl (fun _ _ _ e => fr11_rich N e) rfl (-1) (gd1 (noYears_f hy) (Ok.ret rfl)) (fun τ hE => gd0 (isLong_f hy) (Ok.ret rfl))
