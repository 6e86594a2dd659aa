-- PAIRS: book, hangs, lasts, passes
theorem r_keepsWhose {N : Nat} (hN : 4000 ≤ N) {σ : Mm} {v : Nat} {d : Dt} {mo : Mo} {sd : Int32} (hd : Dok d) (hS : MSt N σ v d mo sd) :
    Ok (f11_keepsWhose N σ) (fun _ τ => MG N τ v d mo ∧ MSt N τ v d mo sd ∧ (∀ p, p < dQ d → gI τ 204 p = nI (own d mo p)) ∧ gI τ 160 57 = sd ∧ gI τ 160 58 = 0) := by
  obtain ⟨d1, d2, d3, d4, d5, d6, d7, d8⟩ := id hd
  unfold f11_keepsWhose
  refine Ok.b (r_copies hN hd hS) ?_
  rintro u τ ⟨hM, hE, e57, e58, e59, hS2⟩
  refine Ok.b (r_fillsWhose hN hd hS2.1 hM (fl := false) e59).run ?_
  rintro u2 υ ⟨⟨hw, hU⟩, er⟩
  rw [stF_f] at hw
  have hG : MG N υ v d mo := ⟨hS2.1.eq hU.M0, hM.eq hU, hw, by rw [flag hU.M1]; exact e59⟩
  have hS3 : MSt N υ v d mo sd := hS2.eq' ((fr11_fillsWhose N er).on rfl)
  refine Ok.lp (fun fu (_ : Unit) i τ => f11_keepsWhose_10 N fu i τ) 7 (fun i _ τ => (∀ p, p < i → gI τ 204 p = gI υ 200 p) ∧ EqOn ([(200, 3, none), (198, 1, none)] ++ D_M) υ τ) (a := ()) ⟨fun p hp => absurd hp (Nat.not_lt_zero _), EqOn.rf⟩ (by omega) ?_ ?_
  · rintro fu i a ρ hi ⟨h0, hR⟩ k
    show Ok (f11_keepsWhose_10 N (fu + 1) (nI i) ρ) _
    rw [f11_keepsWhose_10]
    refine Ok.f (nI_ngt (n := 7) hi (by decide)) (Ok.c (inBn hi (by decide)) (Ok.c (inBn hi (by decide)) (Ok.l (Ok.l ?_))))
    rw [nI_1, ixn (by omega)]
    refine k () _ ⟨fun p hp => ?_, EqOn_sIa hR (by decide)⟩
    rw [gI_s]
    by_cases c : p = i
    · rw [if_pos ⟨rfl, c⟩, c, hR.I (wIn_r 0 rfl (by decide) (by decide))]
    · rw [if_neg (fun e => c e.2)]; exact h0 p (by omega)
  · rintro fu a ρ ⟨h0, hR⟩
    show Ok (f11_keepsWhose_10 N (fu + 1) (nI 7) ρ) _
    rw [f11_keepsWhose_10]
    have hRM : EqOn D_M υ ρ := hR.sub fun _ ha => List.mem_append_right _ ha
    refine Ok.t nI_rf (Ok.ret ⟨⟨hG.1.eq hRM.M0, hG.2.1.eq hRM, ⟨fun p hp => ?_, fun g hg => ?_⟩, by rw [flag hRM.M1]; exact hG.2.2.2⟩, hS3.eq' ?_, fun p hp => ?_, ?_, ?_⟩)
    · rw [hR.I (wIn_r 0 rfl (by decide) (by decide))]; exact hG.2.2.1.1 p hp
    · rw [hR.I (wIn_r 0 rfl (by decide) (by decide)), hR.I (wIn_r 0 rfl (by decide) (by decide))]; exact hG.2.2.1.2 g hg
    · refine hR.sub (by decide)
    · rw [h0 p (by omega)]; exact hG.whose hp
    · rw [flag57 hRM.M1, flag57 hU.M1]; exact e57
    · rw [flag58 hRM.M1, flag58 hU.M1]; exact e58
theorem r_othersNow {N : Nat} (hN : 4000 ≤ N) {σ : Mm} {v : Nat} {d : Dt} {mo : Mo} (hd : Dok d) (hc : ML N σ v d) (hm : MR σ d mo) {fl : Bool} (hf : gI σ 160 59 = b2 fl) {f : Nat → Nat} (h204 : ∀ p, p < dQ d → f p < 2 ^ 31 ∧ gI σ 204 p = nI (f p)) :
    Ok (f11_othersNow N σ) (fun r τ => r = nI (cnt (fun p => decide (f p ≠ ownS d (stF d mo fl) p (dn d))) (dQ d)) ∧ EqOn ([(204, 1, none), (198, 1, none)] ++ D_M) σ τ) := by
  obtain ⟨d1, d2, d3, d4, d5, d6, d7, d8⟩ := id hd
  unfold f11_othersNow
  refine Ok.b (r_fillsWhose hN hd hc hm hf).run ?_
  rintro u τ ⟨⟨hw, hE⟩, er⟩
  have hE' : EqOn ([(204, 1, none), (198, 1, none)] ++ D_M) σ τ := (fr11_fillsWhose N er).on rfl
  obtain ⟨hv2, h18, hP, hQ, hW, hK, hpl, hme, hlaw⟩ := hc.eq hE.M0
  refine Ok.lp (fun fu (a : Int32) i τ => f11_othersNow_8 N fu a i τ) (dQ d) (fun i a ρ => a = nI (cnt (fun p => decide (f p ≠ ownS d (stF d mo fl) p (dn d))) i) ∧ ρ = τ) ⟨rfl, rfl⟩ (by omega) ?_ ?_
  · rintro fu i a ρ hi ⟨rfl, rfl⟩ k
    have ow := ownS_lt hd (st := stF d mo fl) hi (dn d) (Nat.le_refl _)
    have e4 : gI ρ 204 i = nI (f i) := by rw [hE'.I (wIn_r 0 rfl (by decide) (by decide))]; exact (h204 i hi).2
    show Ok (f11_othersNow_8 N (fu + 1) _ (nI i) ρ) _
    rw [f11_othersNow_8, h18, ixn (by omega), hQ, ixn (by omega), hw.1 i hi, e4]
    refine Ok.c (inBn hv2 (by decide)) (Ok.f (nI_ngt hi (by omega)) (Ok.c (inBn (by omega) (by decide)) (Ok.c (inBn (by omega) (by decide)) (Ok.i (fun h => ?_) (fun h => ?_)))))
    · rw [nI_eq (by omega) (h204 i hi).1] at h
      rw [f11_othersNow_39, z_l_eq, nI_1]
      exact k _ _ ⟨by rw [cnt_skip (p := fun p => decide (f p ≠ ownS d (stF d mo fl) p (dn d))) (i := i) (decide_eq_false (fun c => c h.symm))], rfl⟩
    · rw [nI_eq (by omega) (h204 i hi).1] at h
      rw [z_l_eq, f11_othersNow_39, z_l_eq, nI_1, nI_1]
      exact k _ _ ⟨by rw [cnt_step (p := fun p => decide (f p ≠ ownS d (stF d mo fl) p (dn d))) (i := i) (decide_eq_true (fun c => h c.symm))], rfl⟩
  · rintro fu a ρ ⟨rfl, rfl⟩
    show Ok (f11_othersNow_8 N (fu + 1) _ (nI (dQ d)) ρ) _
    rw [f11_othersNow_8, h18, ixn (by omega), hQ]
    exact Ok.c (inBn hv2 (by decide)) (Ok.t nI_rf (Ok.ret ⟨rfl, hE'⟩))
theorem pr_book {N : Nat} (hN : 4000 ≤ N) : ∀ (σ : Mm), Inv N σ → ∃ (r : Int32) (σ1 σ2 : Mm), f10_book N σ = some (r, σ1) ∧ f11_book N σ1 = some (r, σ2) ∧ Inv N σ2 := by
  intro σ hI
  obtain ⟨o, v, d, mo, hB⟩ := bridgeI hI
  obtain ⟨hd, hk, hc, hm, hcM, hn, hsd, hInv⟩ := id hB
  have hL := hInv.2.2.1
  have hNw := hInv.2.2.2.2.1
  obtain ⟨d1, d2, d3, d4, d5, d6, d7, d8⟩ := id hd
  refine pairR hI (fun _ _ e => fr10_book N e) rfl (fun _ _ _ e => fr11_book N e) rfl (nI (cnt (fun p => decide (own d mo p ≠ ownS d (said d) p (dn d))) (dQ d))) ?_ (fun τ hE => ?_)
  · refine Ok.lp (fun fu (a : Int32) i τ => f10_book_4 N fu a i τ) (dQ d) (fun i a τ => a = nI (cnt (fun p => decide (own d mo p ≠ ownS d (said d) p (dn d))) i) ∧ EqOn D_C σ τ) ⟨rfl, EqOn.rf⟩ (by omega) ?_ ?_
    · rintro fu i a τ hi ⟨rfl, hE⟩ k
      obtain ⟨ho, hl3, hl, hP, hQ, hW, hK, hpl, hme, hgv, hlaw, hv⟩ := hc.eq hE.C0
      show Ok (f10_book_4 N (fu + 1) _ (nI i) τ) _
      rw [f10_book_4]
      refine Ok.r hl3 (kd_land ho) (Ok.f (by rw [hQ]; exact nI_ngt hi (by omega)) (Ok.b (c_ownerByBook hN hd (hc.eq hE.C0) (hm.eq (Or.inl rfl) hE) (Or.inl rfl) hi) ?_))
      rintro r υ ⟨rfl, hU⟩
      refine Ok.b (c_owner hN hd (hc.eq (hE.tr hU).C0) (hm.eq (Or.inl rfl) (hE.tr hU)) (Or.inl rfl) hi) ?_
      rintro r2 υ2 ⟨rfl, hU2⟩
      have o1 := own_lt hd (mo := mo) hi
      have o2 := ownS_lt hd (st := said d) hi (dn d) (Nat.le_refl _)
      refine Ok.i (fun h => ?_) (fun h => ?_)
      · rw [nI_eq (by omega) (by omega)] at h
        rw [f10_book_45, z_l_eq, nI_1]
        exact k _ _ ⟨by rw [cnt_skip (p := fun p => decide (own d mo p ≠ ownS d (said d) p (dn d))) (i := i) (decide_eq_false (fun c => c h.symm))], (hE.tr hU).tr hU2⟩
      · rw [nI_eq (by omega) (by omega)] at h
        rw [z_l_eq, f10_book_45, z_l_eq, nI_1, nI_1]
        exact k _ _ ⟨by rw [cnt_step (p := fun p => decide (own d mo p ≠ ownS d (said d) p (dn d))) (i := i) (decide_eq_true (fun c => h c.symm))], (hE.tr hU).tr hU2⟩
    · rintro fu a τ ⟨rfl, hE⟩
      obtain ⟨ho, hl3, hl, hP, hQ, hW, hK, hpl, hme, hgv, hlaw, hv⟩ := hc.eq hE.C0
      show Ok (f10_book_4 N (fu + 1) _ (nI (dQ d)) τ) _
      rw [f10_book_4]
      exact Ok.r hl3 (kd_land ho) (Ok.t (by rw [hQ]; exact nI_rf) (Ok.ret rfl))
  · unfold f11_book
    refine Ok.b (r_keepsWhose hN hd (hB.S.eq hE)) ?_
    rintro u υ ⟨hG, -, h204, -, -⟩
    have hE1 : EqOn D_M0 υ (sI υ 160 59 1) := EqOn_sI EqOn.rf (by decide)
    have hM1 : MR (sI υ 160 59 1) d mo := by
      have e : gI (sI υ 160 59 1) 199 = gI υ 199 := gI_row fun k => gI_o (by decide)
      unfold MR
      rw [e]
      exact hG.2.1
    refine Ok.l (Ok.b (r_othersNow hN hd (hG.1.eq hE1) hM1 (fl := true) gI_e (f := own d mo) (fun p hp => ⟨by have := own_lt hd (mo := mo) hp; omega, by rw [gI_o (by decide)]; exact h204 p hp⟩)) ?_)
    rintro r ρ ⟨rfl, -⟩
    rw [stF_t]
    exact Ok.ret rfl
def moX (mo : Mo) (w : Nat) : Mo := (fun u => al mo u && !decide (u = w), ag mo, yr mo)
theorem pr_hangs {N : Nat} (hN : 4000 ≤ N) : ∀ (x1 : Int32) (σ : Mm), Inv N σ → ∃ (r : Int32) (σ1 σ2 : Mm), f10_hangs N x1 σ = some (r, σ1) ∧ f11_hangs N x1 σ1 = some (r, σ2) ∧ Inv N σ2 := by
  intro x1 σ hI
  obtain ⟨o, v, d, mo, hB⟩ := bridgeI hI
  obtain ⟨hd, hk, hc, hm, hcM, hn, hsd, hInv⟩ := id hB
  have hL := hInv.2.2.1
  have hNw := hInv.2.2.2.2.1
  obtain ⟨d1, d2, d3, d4, d5, d6, d7, d8⟩ := id hd
  have hfl : ∀ w, oth d mo (moX mo w) ≤ 7 := fun w => Nat.le_trans (cnt_le _) d2
  have hf : ∀ i, ∀ j, j ≤ i → oth d mo (moX mo j) < 2 ^ 31 := fun i j hj => by have := hfl j; omega
  by_cases hz : x1 = 0 ∨ x1 = 1
  · refine pairR hI (fun _ _ e => fr10_hangs N e) rfl (fun _ _ _ e => fr11_hangs N e) rfl (wt x1 (bst gtB (al mo) (fun w => oth d mo (moX mo w)) (dW d))) ?_ (fun τ hE => ?_)
    · have h11 : Ok (f10_hangs_11 N x1 σ) (fun r _ => r = wt x1 (bst gtB (al mo) (fun w => oth d mo (moX mo w)) (dW d))) := by
        refine Ok.lp (fun fu (a : Int32 × Int32) i τ => f10_hangs_20 N x1 fu a.1 a.2 i τ) (dW d) (fun i a τ => a = (e1 (bst gtB (al mo) (fun w => oth d mo (moX mo w)) i), e2 (-2) (bst gtB (al mo) (fun w => oth d mo (moX mo w)) i)) ∧ EqOn D_C1 σ τ) (a := (-2, -2)) ⟨rfl, EqOn.rf⟩ (by omega) ?_ ?_
        · rintro fu i a τ hi ⟨rfl, hE⟩ k
          have hmτ := hm.eq1 hE
          obtain ⟨ho, hl3, hl, hP, hQ, hW, hK, hpl, hme, hgv, hlaw, hv⟩ := hc.eq hE.C10
          have hb : ((gI τ 56 1) &&& ((1 : Int32) <<< (nI i &&& 31)) = 0) = (al mo i = false) := by
            have h1 := bs_lt (p := al mo) (dW d)
            have h2 := two7 hd h1
            rw [b1 (by omega), hmτ.2.1, bit_and (by omega) (by omega), bs_bit]
            simp [hi]
          show Ok (f10_hangs_20 N x1 (fu + 1) _ _ (nI i) τ) _
          rw [f10_hangs_20]
          refine Ok.r hl3 (kd_land ho) (Ok.f (by rw [hW]; exact nI_ngt hi (by omega)) (Ok.l (Ok.i (fun h => ?_) (fun h => ?_))))
          · rw [hb] at h
            rw [f10_hangs_107, z_l_eq, nI_1]
            exact k (_, _) _ ⟨by rw [bst_c h] <;> rfl, hE⟩
          · rw [hb] at h
            refine Ok.b (c_become hd hmτ) ?_
            rintro u υ ⟨hM, hU⟩
            rw [z_l_eq, xor1, b1 (by omega), hM.2.1, p2_bs hi, diffN (by omega)]
            have hE1 : EqOn D_C1 υ (sI υ 58 1 (nI (bs (fun j => al mo j && !decide (j = i)) (dW d)))) := EqOn_sIa EqOn.rf (by decide)
            have hM1 : CM (sI υ 58 1 (nI (bs (fun j => al mo j && !decide (j = i)) (dW d)))) 58 d (moX mo i) := by
              obtain ⟨m0, m1, m2, m3, m4⟩ := hM
              exact ⟨by rw [gI_k (by decide)]; exact m0, gI_e, by rw [gI_k (by decide)]; exact m2, by rw [gI_k (by decide)]; exact m3, fun w hw => by rw [gI_o (by decide)]; exact m4 w hw⟩
            have hE2 := (hE.tr hU).tr hE1
            refine Ok.b (c_plotsOfOthers hN hd (hc.eq hE2.C10) (hm.eq1 hE2) hM1) ?_
            rintro r ρ ⟨rfl, hR⟩
            refine Ok.i (fun h2 => ?_) (fun h2 => ?_)
            · rw [f10_hangs_107, z_l_eq, nI_1]
              exact k (_, _) _ ⟨by rw [mx_le (f := fun w => oth d mo (moX mo w)) (hf i) h2] <;> rfl, hE2.tr hR.CC1⟩
            · rw [f10_hangs_107, z_l_eq, nI_1]
              exact k (_, _) _ ⟨by rw [mx_gt (f := fun w => oth d mo (moX mo w)) (hf i) (by simpa using h) h2] <;> rfl, hE2.tr hR.CC1⟩
        · rintro fu a τ ⟨rfl, hE⟩
          obtain ⟨ho, hl3, hl, hP, hQ, hW, hK, hpl, hme, hgv, hlaw, hv⟩ := hc.eq hE.C10
          show Ok (f10_hangs_20 N x1 (fu + 1) _ _ (nI (dW d)) τ) _
          rw [f10_hangs_20]
          exact Ok.r hl3 (kd_land ho) (Ok.t (by rw [hW]; exact nI_rf) (Ok.ii (fun _ => Ok.ret rfl) (fun _ => Ok.ret rfl)))
      rcases hz with h | h
      · exact Ok.t h h11
      · exact Ok.f (by rw [h]; decide) (Ok.t h h11)
    · refine gd1 (in01_t hz) (Ok.b (r_keepsWhose hN hd (hB.S.eq hE)) ?_)
      rintro u υ ⟨hG, hS, h204, -, -⟩
      refine Ok.lp (fun fu (a : Int32 × Int32) i τ => f11_hangs_24 N x1 fu a.1 a.2 i τ) (dW d) (fun i a ρ => a = (e1 (bst gtB (al mo) (fun w => oth d mo (moX mo w)) i), e2 (-2) (bst gtB (al mo) (fun w => oth d mo (moX mo w)) i)) ∧ MSt N ρ v d mo (gI σ o 5) ∧ ∀ p, p < dQ d → gI ρ 204 p = nI (own d mo p)) (a := (-2, -2)) ⟨rfl, hS, h204⟩ (by omega) ?_ ?_
      · rintro fu i a ρ hi ⟨rfl, hS, h204⟩ k
        obtain ⟨hv2, h18, hP, hQ, hW, hK, hpl, hme, hlaw⟩ := id hS.1
        show Ok (f11_hangs_24 N x1 (fu + 1) _ _ (nI i) ρ) _
        rw [f11_hangs_24, h18, ad7, ixn (by omega), hW]
        refine Ok.c (inBn hv2 (by decide)) (Ok.f (nI_ngt hi (by omega)) (Ok.b (r_copies hN hd hS).run ?_))
        rintro u2 ρ2 ⟨⟨hM, hR, e57, e58, e59, hS2⟩, er⟩
        have h204' : ∀ p, p < dQ d → gI ρ2 204 p = nI (own d mo p) := fun p hp => by rw [((fr11_copies N er).on (D := [(204, 1, none)]) rfl).I (wIn_r 0 rfl (by decide) (by decide))]; exact h204 p hp
        rw [ixn (by omega), hM.2.1 i hi]
        refine Ok.c (inBn (by omega) (by decide)) (Ok.i (fun h => ?_) (fun h => ?_))
        · rw [b2_0] at h
          rw [f11_hangs_90, z_l_eq, nI_1]
          exact k (_, _) _ ⟨by rw [bst_c h] <;> rfl, hS2, h204'⟩
        · rw [b2_0] at h
          refine Ok.c (inBn (by omega) (by decide)) (Ok.l ?_)
          have hE1 : EqOn ([(204, 1, none), (198, 1, none)] ++ D_M1) ρ2 (sI ρ2 199 (7 + i) 0) := EqOn_sIa EqOn.rf (by decide)
          have hE1' : EqOn D_M1 ρ2 (sI ρ2 199 (7 + i) 0) := EqOn_sIa EqOn.rf (by decide)
          have hM1 : MR (sI ρ2 199 (7 + i) 0) d (moX mo i) := by
            refine MR.upd hd hM (by omega) (fun w hw => ?_) (fun w hw => ?_) ?_
            · rw [if_neg (by omega)]; exact hM.1 w hw
            · show _ = b2 (al mo w && !decide (w = i))
              by_cases c : w = i
              · rw [if_pos (by omega), decide_eq_true c]; simp [b2]
              · rw [if_neg (by omega), decide_eq_false c, hM.2.1 w hw]; simp
            · rw [if_neg (by omega)]; exact hM.2.2.1
          refine Ok.b (r_othersNow hN hd (hS2.1.eq hE1'.M10) hM1 (fl := false) (by rw [flag hE1']; exact e59) (f := own d mo) (fun p hp => ⟨by have := own_lt hd (mo := mo) hp; omega, by rw [gI_o (by decide)]; exact h204' p hp⟩)) ?_
          rintro r ρ3 ⟨rfl, hR3⟩
          rw [stF_f]
          have hS3 : MSt N ρ3 v d mo (gI σ o 5) := (hS2.eq' (EqOn_sIa EqOn.rf (by decide))).eq' (hR3.sub (by decide))
          have h204'' : ∀ p, p < dQ d → gI ρ3 204 p = nI (own d mo p) := fun p hp => by rw [hR3.I (wIn_r 0 rfl (by decide) (by decide)), gI_o (by decide)]; exact h204' p hp
          refine Ok.i (fun h2 => ?_) (fun h2 => ?_)
          · rw [f11_hangs_90, z_l_eq, nI_1]
            exact k (_, _) _ ⟨by rw [mx_gt (f := fun w => oth d mo (moX mo w)) (hf i) (by simpa using h) (Int32.not_le.mpr h2)] <;> rfl, hS3, h204''⟩
          · rw [f11_hangs_90, z_l_eq, nI_1]
            exact k (_, _) _ ⟨by rw [mx_le (f := fun w => oth d mo (moX mo w)) (hf i) (Int32.not_lt.mp h2)] <;> rfl, hS3, h204''⟩
      · rintro fu a ρ ⟨rfl, hS, -⟩
        obtain ⟨hv2, h18, hP, hQ, hW, hK, hpl, hme, hlaw⟩ := id hS.1
        show Ok (f11_hangs_24 N x1 (fu + 1) _ _ (nI (dW d)) ρ) _
        rw [f11_hangs_24, h18, ixn (by omega), hW]
        exact Ok.c (inBn hv2 (by decide)) (Ok.t nI_rf (Ok.ii (fun _ => Ok.ret rfl) (fun _ => Ok.ret rfl)))
  · exact pairR hI (fun _ _ e => fr10_hangs N e) rfl (fun _ _ _ e => fr11_hangs N e) rfl (-1) (Ok.f (fun c => hz (Or.inl c)) (Ok.f (fun c => hz (Or.inr c)) (Ok.ret rfl))) (fun τ hE => gd0 (in01_f hz) (Ok.ret rfl))
/-- the first of those below B, if there is one -/
theorem firstB (s : Nat → Bool) : ∀ B : Nat, (∃ k, k < B ∧ s k = true ∧ ∀ j, j < k → s j = false) ∨ (∀ j, j < B → s j = false)
  | 0 => Or.inr fun j hj => absurd hj (Nat.not_lt_zero j)
  | B + 1 => by
    rcases firstB s B with ⟨k, h1, h2, h3⟩ | h
    · exact Or.inl ⟨k, by omega, h2, h3⟩
    · cases e : s B
      · right
        intro j hj
        by_cases c : j = B
        · rw [c]; exact e
        · exact h j (by omega)
      · exact Or.inl ⟨B, by omega, e, h⟩
def quN (d : Dt) (mo : Mo) : Nat → Mo
  | 0 => mo
  | k + 1 => quiet d (quN d mo k)
theorem Mok.quN {d : Dt} {mo : Mo} (h : Mok d mo) : ∀ k, Mok d (quN d mo k)
  | 0 => h
  | k + 1 => (Mok.quN h k).quiet
theorem not200 {i : Nat} (h : i < 201) : ¬ (200 : Int32) < nI i := nI_nlt (a := 200) (b := i) (by omega) (by omega)
theorem pr_lasts {N : Nat} (hN : 4000 ≤ N) : ∀ (x1 : Int32) (σ : Mm), Inv N σ → ∃ (r : Int32) (σ1 σ2 : Mm), f10_lasts N x1 σ = some (r, σ1) ∧ f11_lasts N x1 σ1 = some (r, σ2) ∧ Inv N σ2 := by
  intro x1 σ hI
  obtain ⟨o, v, d, mo, hB⟩ := bridgeI hI
  obtain ⟨hd, hk, hc, hm, hcM, hn, hsd, hInv⟩ := id hB
  have hL := hInv.2.2.1
  have hNw := hInv.2.2.2.2.1
  obtain ⟨d1, d2, d3, d4, d5, d6, d7, d8⟩ := id hd
  by_cases hp : isN x1 (dn d)
  · obtain ⟨g, hg', rfl⟩ := id hp
    have key : ∃ r : Int32, (∀ σ1, CL N σ1 o d → CM σ1 58 d mo → Ok (f10_lasts_23 N (nI g) N 0 σ1) (fun x _ => x = r)) ∧ (∀ σ1, ML N σ1 v d → MR σ1 d mo → gI σ1 160 58 = b2 true → gI σ1 160 59 = b2 false → Ok (f11_lasts_21 N (nI g) N 0 σ1) (fun x _ => x = r)) := by
      rcases firstB (fun n => !std d (quN d mo n) g) 201 with ⟨n, hn1, hn2, hn3⟩ | hno
      · refine ⟨nI n, fun σ1 hc1 hm1 => ?_, fun σ1 hc1 hm1 h58 h59 => ?_⟩
        · refine Ok.lp (fun fu (_ : Unit) i τ => f10_lasts_23 N (nI g) fu i τ) 201 (fun i _ τ => i ≤ n ∧ CL N τ o d ∧ CM τ 58 d (quN d mo i)) (a := ()) ⟨Nat.zero_le _, hc1, hm1⟩ (by omega) ?_ ?_
          · rintro fu i a τ hi ⟨hin, hcτ, hM⟩ k
            show Ok (f10_lasts_23 N (nI g) (fu + 1) (nI i) τ) _
            rw [f10_lasts_23]
            refine Ok.f (not200 hi) (Ok.b (c_stands hN hd hcτ hM (Or.inr rfl) hg') ?_)
            rintro r υ ⟨rfl, hU⟩
            refine Ok.i (fun h => ?_) (fun h => ?_)
            · rw [b2_0] at h
              refine Ok.ret ?_
              by_cases c : i = n
              · rw [c]
              · have := hn3 i (by omega)
                rw [h] at this
                exact Bool.noConfusion this
            · rw [b2_0] at h
              have : i ≠ n := fun c => h (by rw [c]; simpa using hn2)
              refine Ok.b (c_passQuietYear hN hd (hcτ.eq hU.C0) (hM.eq (Or.inr rfl) hU) (Or.inr rfl) (hk.quN i)) ?_
              rintro u ρ ⟨hM2, hR⟩
              rw [z_l_eq, nI_1]
              exact k () _ ⟨by omega, (hcτ.eq hU.C0).eq hR, hM2⟩
          · rintro fu a τ ⟨h, -⟩
            omega
        · refine Ok.lp (fun fu (_ : Unit) i τ => f11_lasts_21 N (nI g) fu i τ) 201 (fun i _ τ => i ≤ n ∧ ML N τ v d ∧ MR τ d (quN d mo i) ∧ gI τ 160 58 = b2 true ∧ gI τ 160 59 = b2 false) (a := ()) ⟨Nat.zero_le _, hc1, hm1, h58, h59⟩ (by omega) ?_ ?_
          · rintro fu i a τ hi ⟨hin, hcτ, hM, h58, h59⟩ k
            show Ok (f11_lasts_21 N (nI g) (fu + 1) (nI i) τ) _
            rw [f11_lasts_21]
            refine Ok.f (not200 hi) (Ok.b (r_doesStand hN hd hcτ hM h59 hg') ?_)
            rintro r υ ⟨rfl, hU⟩
            rw [stF_f]
            refine Ok.i (fun h => ?_) (fun h => ?_)
            · rw [b2_0] at h
              refine Ok.ret ?_
              by_cases c : i = n
              · rw [c]
              · have := hn3 i (by omega)
                rw [h] at this
                exact Bool.noConfusion this
            · rw [b2_0] at h
              have : i ≠ n := fun c => h (by rw [c]; simpa using hn2)
              refine Ok.b (r_yearGoes hN hd (hcτ.eq hU.M0) (hM.eq hU) (hk.quN i) (fl := true) (by rw [flag58 hU.M1]; exact h58)) ?_
              rintro u ρ ⟨hM2, hR⟩
              rw [if_pos rfl] at hM2
              rw [z_l_eq, nI_1]
              exact k () _ ⟨by omega, (hcτ.eq hU.M0).eq hR.M10, hM2, by rw [flag58 hR, flag58 hU.M1]; exact h58, by rw [flag hR, flag hU.M1]; exact h59⟩
          · rintro fu a τ ⟨h, -⟩
            omega
      · refine ⟨-2, fun σ1 hc1 hm1 => ?_, fun σ1 hc1 hm1 h58 h59 => ?_⟩
        · refine Ok.lp (fun fu (_ : Unit) i τ => f10_lasts_23 N (nI g) fu i τ) 201 (fun i _ τ => CL N τ o d ∧ CM τ 58 d (quN d mo i)) (a := ()) ⟨hc1, hm1⟩ (by omega) ?_ ?_
          · rintro fu i a τ hi ⟨hcτ, hM⟩ k
            show Ok (f10_lasts_23 N (nI g) (fu + 1) (nI i) τ) _
            rw [f10_lasts_23]
            refine Ok.f (not200 hi) (Ok.b (c_stands hN hd hcτ hM (Or.inr rfl) hg') ?_)
            rintro r υ ⟨rfl, hU⟩
            have hst : std d (quN d mo i) g = true := by have := hno i hi; simpa using this
            refine Ok.f (by rw [hst]; decide) (Ok.b (c_passQuietYear hN hd (hcτ.eq hU.C0) (hM.eq (Or.inr rfl) hU) (Or.inr rfl) (hk.quN i)) ?_)
            rintro u ρ ⟨hM2, hR⟩
            rw [z_l_eq, nI_1]
            exact k () _ ⟨(hcτ.eq hU.C0).eq hR, hM2⟩
          · rintro fu a τ -
            show Ok (f10_lasts_23 N (nI g) (fu + 1) (nI 201) τ) _
            rw [f10_lasts_23]
            exact Ok.t (by decide) (Ok.ret rfl)
        · refine Ok.lp (fun fu (_ : Unit) i τ => f11_lasts_21 N (nI g) fu i τ) 201 (fun i _ τ => ML N τ v d ∧ MR τ d (quN d mo i) ∧ gI τ 160 58 = b2 true ∧ gI τ 160 59 = b2 false) (a := ()) ⟨hc1, hm1, h58, h59⟩ (by omega) ?_ ?_
          · rintro fu i a τ hi ⟨hcτ, hM, h58, h59⟩ k
            show Ok (f11_lasts_21 N (nI g) (fu + 1) (nI i) τ) _
            rw [f11_lasts_21]
            refine Ok.f (not200 hi) (Ok.b (r_doesStand hN hd hcτ hM h59 hg') ?_)
            rintro r υ ⟨rfl, hU⟩
            rw [stF_f]
            have hst : std d (quN d mo i) g = true := by have := hno i hi; simpa using this
            refine Ok.f (by rw [hst]; decide) (Ok.b (r_yearGoes hN hd (hcτ.eq hU.M0) (hM.eq hU) (hk.quN i) (fl := true) (by rw [flag58 hU.M1]; exact h58)) ?_)
            rintro u ρ ⟨hM2, hR⟩
            rw [if_pos rfl] at hM2
            rw [z_l_eq, nI_1]
            exact k () _ ⟨(hcτ.eq hU.M0).eq hR.M10, hM2, by rw [flag58 hR, flag58 hU.M1]; exact h58, by rw [flag hR, flag hU.M1]; exact h59⟩
          · rintro fu a τ -
            show Ok (f11_lasts_21 N (nI g) (fu + 1) (nI 201) τ) _
            rw [f11_lasts_21]
            exact Ok.t (by decide) (Ok.ret rfl)
    obtain ⟨r, k1, k2⟩ := key
    refine pairR hI (fun _ _ e => fr10_lasts N e) rfl (fun _ _ _ e => fr11_lasts N e) rfl r ?_ (fun τ hE => ?_)
    · refine gd0 (noGiving_t hNw hp) (Ok.b (c_become hd hm) ?_)
      rintro u υ ⟨hM, hU⟩
      exact k1 υ (hc.eq hU.C10) hM
    · refine gd1 (isGiving_t (hB.Nw hE) hp) (Ok.b (r_copies hN hd (hB.S.eq hE)) ?_)
      rintro u υ ⟨hM, hU, e57, e58, e59, hS⟩
      rw [z_l_eq]
      have hE1 : EqOn D_M0 υ (sI υ 160 58 1) := EqOn_sI EqOn.rf (by decide)
      have hM1 : MR (sI υ 160 58 1) d mo := by
        have e : gI (sI υ 160 58 1) 199 = gI υ 199 := gI_row fun k => gI_o (by decide)
        unfold MR
        rw [e]
        exact hM
      exact k2 _ (hS.1.eq hE1) hM1 gI_e (by rw [gI_k (by decide)]; exact e59)
  · exact pairR hI (fun _ _ e => fr10_lasts N e) rfl (fun _ _ _ e => fr11_lasts N e) rfl (-1) (gd1 (noGiving_f hNw hp) (Ok.ret rfl)) (fun τ hE => gd0 (isGiving_f (hB.Nw hE) hp) (Ok.ret rfl))
theorem pr_passes {N : Nat} (hN : 4000 ≤ N) : ∀ (x1 : Int32) (σ : Mm), Inv N σ → ∃ (r : Int32) (σ1 σ2 : Mm), f10_passes N x1 σ = some (r, σ1) ∧ f11_passes N x1 σ1 = some (r, σ2) ∧ Inv N σ2 := by
  intro x1 σ hI
  obtain ⟨o, v, d, mo, hB⟩ := bridgeI hI
  obtain ⟨hd, hk, hc, hm, hcM, hn, hsd, hInv⟩ := id hB
  have hL := hInv.2.2.1
  have hNw := hInv.2.2.2.2.1
  obtain ⟨d1, d2, d3, d4, d5, d6, d7, d8⟩ := id hd
  by_cases hp : isN x1 (dQ d)
  · obtain ⟨p, hp', rfl⟩ := id hp
    obtain ⟨sd, hsd0⟩ : ∃ s, s = gI σ o 5 := ⟨_, rfl⟩
    have ow0 := own_lt hd (mo := mo) hp'
    have key : ∃ r : Int32, (∀ σ1, CL N σ1 o d → CM σ1 58 d mo → gI σ1 o 5 = sd → Ok (f10_passes_36 N (nI p) (nI (own d mo p)) N (nI 1) σ1) (fun x _ => x = r)) ∧ (∀ σ1, ML N σ1 v d → MR σ1 d mo → gI σ1 160 57 = sd → gI σ1 160 58 = b2 false → gI σ1 160 59 = b2 false → gI σ1 204 p = nI (own d mo p) → Ok (f11_passes_16 N (nI p) N (nI 1) σ1) (fun x _ => x = r)) := by
      have hcase : (∃ k, 1 ≤ k ∧ k < 201 ∧ own d (passN d sd mo k) p ≠ own d mo p ∧ ∀ j, j < k → own d (passN d sd mo j) p = own d mo p) ∨ (∀ j, j < 201 → own d (passN d sd mo j) p = own d mo p) := by
        rcases firstB (fun n => decide (own d (passN d sd mo n) p ≠ own d mo p)) 201 with ⟨n, hn1, hn2, hn3⟩ | hno
        · left
          refine ⟨n, ?_, hn1, by simpa using hn2, fun j hj => by simpa using hn3 j hj⟩
          by_cases c : n = 0
          · subst c
            simp [passN] at hn2
          · omega
        · right
          exact fun j hj => by simpa using hno j hj
      rcases hcase with ⟨n, hn0, hn1, hn2, hn3⟩ | hno
      · refine ⟨nI n, fun σ1 hc1 hm1 hs1 => ?_, fun σ1 hc1 hm1 h57 h58 h59 h204 => ?_⟩
        · refine Ok.lpf (fun fu (_ : Unit) i τ => f10_passes_36 N (nI p) (nI (own d mo p)) fu i τ) 201 (fun i _ τ => 1 ≤ i ∧ i ≤ n ∧ CL N τ o d ∧ CM τ 58 d (passN d sd mo (i - 1)) ∧ gI τ o 5 = sd) ?_ ?_ N 1 () σ1 ⟨by omega, by omega, hc1, hm1, hs1⟩ (by omega) (by omega)
          · rintro fu i a τ hi ⟨hi0, hin, hcτ, hM, hs⟩ k
            show Ok (f10_passes_36 N (nI p) _ (fu + 1) (nI i) τ) _
            rw [f10_passes_36]
            refine Ok.f (not200 hi) (Ok.r hcτ.l3 hcτ.o ?_)
            rw [hs]
            refine Ok.b (c_passYear hN hd hcτ hM (Or.inr rfl) (hk.passN _) sd) ?_
            rintro u υ ⟨hM2, hU⟩
            have e1 : pass d sd (passN d sd mo (i - 1)) = passN d sd mo i := by
              conv => rhs; rw [show i = (i - 1) + 1 by omega]
              rfl
            rw [e1] at hM2
            refine Ok.b (c_owner hN hd (hcτ.eq hU) hM2 (Or.inr rfl) hp') ?_
            rintro r ρ ⟨rfl, hR⟩
            have ow := own_lt hd (mo := passN d sd mo i) hp'
            refine Ok.i (fun h => ?_) (fun h => ?_)
            · rw [nI_eq (by omega) (by omega)] at h
              have : i ≠ n := fun c => hn2 (by rw [← c]; exact h)
              rw [z_l_eq, nI_1]
              exact k () _ ⟨by omega, by omega, (hcτ.eq hU).eq hR.C0, hM2.eq (Or.inr rfl) hR, by rw [(hcτ.eq hU).sd hR.C0, hcτ.sd hU]; exact hs⟩
            · rw [nI_eq (by omega) (by omega)] at h
              refine Ok.ret ?_
              by_cases c : i = n
              · rw [c]
              · exact absurd (hn3 i (by omega)) h
          · rintro fu a τ ⟨-, h, -⟩
            omega
        · refine Ok.lpf (fun fu (_ : Unit) i τ => f11_passes_16 N (nI p) fu i τ) 201 (fun i _ τ => 1 ≤ i ∧ i ≤ n ∧ ML N τ v d ∧ MR τ d (passN d sd mo (i - 1)) ∧ gI τ 160 57 = sd ∧ gI τ 160 58 = b2 false ∧ gI τ 160 59 = b2 false ∧ gI τ 204 p = nI (own d mo p)) ?_ ?_ N 1 () σ1 ⟨by omega, by omega, hc1, hm1, h57, h58, h59, h204⟩ (by omega) (by omega)
          · rintro fu i a τ hi ⟨hi0, hin, hcτ, hM, h57, h58, h59, h204⟩ k
            show Ok (f11_passes_16 N (nI p) (fu + 1) (nI i) τ) _
            rw [f11_passes_16]
            refine Ok.f (not200 hi) (Ok.b (r_yearGoes hN hd hcτ hM (hk.passN _) h58).run ?_)
            rintro u υ ⟨⟨hM2, hU⟩, er⟩
            have e1 : pass d sd (passN d sd mo (i - 1)) = passN d sd mo i := by
              conv => rhs; rw [show i = (i - 1) + 1 by omega]
              rfl
            rw [if_neg (by decide), h57, e1] at hM2
            refine Ok.b (r_fillsWhose hN hd (hcτ.eq hU.M10) hM2 (fl := false) (by rw [flag hU]; exact h59)).run ?_
            rintro u2 ρ ⟨⟨hw, hR⟩, er2⟩
            rw [stF_f] at hw
            have h204' : gI ρ 204 p = nI (own d mo p) := by rw [((fr11_fillsWhose N er2).on (D := [(204, 1, none)]) rfl).I (wIn_r 0 rfl (by decide) (by decide)), ((fr11_yearGoes N er).on (D := [(204, 1, none)]) rfl).I (wIn_r 0 rfl (by decide) (by decide))]; exact h204
            have ow := own_lt hd (mo := passN d sd mo i) hp'
            have e200 : gI ρ 200 p = nI (own d (passN d sd mo i) p) := hw.1 p hp'
            refine Ok.c (inBn (by omega) (by decide)) (Ok.c (inBn (by omega) (by decide)) ?_)
            rw [ixn (by omega), e200, h204']
            refine Ok.i (fun h => ?_) (fun h => ?_)
            · rw [nI_eq (by omega) (by omega)] at h
              have : i ≠ n := fun c => hn2 (by rw [← c]; exact h)
              rw [z_l_eq, nI_1]
              exact k () _ ⟨by omega, by omega, (hcτ.eq hU.M10).eq hR.M0, hM2.eq hR, by rw [flag57 hR.M1, flag57 hU]; exact h57, by rw [flag58 hR.M1, flag58 hU]; exact h58, by rw [flag hR.M1, flag hU]; exact h59, h204'⟩
            · rw [nI_eq (by omega) (by omega)] at h
              refine Ok.ret ?_
              by_cases c : i = n
              · rw [c]
              · exact absurd (hn3 i (by omega)) h
          · rintro fu a τ ⟨-, h, -⟩
            omega
      · refine ⟨-2, fun σ1 hc1 hm1 hs1 => ?_, fun σ1 hc1 hm1 h57 h58 h59 h204 => ?_⟩
        · refine Ok.lpf (fun fu (_ : Unit) i τ => f10_passes_36 N (nI p) (nI (own d mo p)) fu i τ) 201 (fun i _ τ => 1 ≤ i ∧ CL N τ o d ∧ CM τ 58 d (passN d sd mo (i - 1)) ∧ gI τ o 5 = sd) ?_ ?_ N 1 () σ1 ⟨by omega, hc1, hm1, hs1⟩ (by omega) (by omega)
          · rintro fu i a τ hi ⟨hi0, hcτ, hM, hs⟩ k
            show Ok (f10_passes_36 N (nI p) _ (fu + 1) (nI i) τ) _
            rw [f10_passes_36]
            refine Ok.f (not200 hi) (Ok.r hcτ.l3 hcτ.o ?_)
            rw [hs]
            refine Ok.b (c_passYear hN hd hcτ hM (Or.inr rfl) (hk.passN _) sd) ?_
            rintro u υ ⟨hM2, hU⟩
            have e1 : pass d sd (passN d sd mo (i - 1)) = passN d sd mo i := by
              conv => rhs; rw [show i = (i - 1) + 1 by omega]
              rfl
            rw [e1] at hM2
            refine Ok.b (c_owner hN hd (hcτ.eq hU) hM2 (Or.inr rfl) hp') ?_
            rintro r ρ ⟨rfl, hR⟩
            refine Ok.t (by rw [hno i hi]) ?_
            rw [z_l_eq, nI_1]
            exact k () _ ⟨by omega, (hcτ.eq hU).eq hR.C0, hM2.eq (Or.inr rfl) hR, by rw [(hcτ.eq hU).sd hR.C0, hcτ.sd hU]; exact hs⟩
          · rintro fu a τ -
            show Ok (f10_passes_36 N (nI p) _ (fu + 1) (nI 201) τ) _
            rw [f10_passes_36]
            exact Ok.t (by decide) (Ok.ret rfl)
        · refine Ok.lpf (fun fu (_ : Unit) i τ => f11_passes_16 N (nI p) fu i τ) 201 (fun i _ τ => 1 ≤ i ∧ ML N τ v d ∧ MR τ d (passN d sd mo (i - 1)) ∧ gI τ 160 57 = sd ∧ gI τ 160 58 = b2 false ∧ gI τ 160 59 = b2 false ∧ gI τ 204 p = nI (own d mo p)) ?_ ?_ N 1 () σ1 ⟨by omega, hc1, hm1, h57, h58, h59, h204⟩ (by omega) (by omega)
          · rintro fu i a τ hi ⟨hi0, hcτ, hM, h57, h58, h59, h204⟩ k
            show Ok (f11_passes_16 N (nI p) (fu + 1) (nI i) τ) _
            rw [f11_passes_16]
            refine Ok.f (not200 hi) (Ok.b (r_yearGoes hN hd hcτ hM (hk.passN _) h58).run ?_)
            rintro u υ ⟨⟨hM2, hU⟩, er⟩
            have e1 : pass d sd (passN d sd mo (i - 1)) = passN d sd mo i := by
              conv => rhs; rw [show i = (i - 1) + 1 by omega]
              rfl
            rw [if_neg (by decide), h57, e1] at hM2
            refine Ok.b (r_fillsWhose hN hd (hcτ.eq hU.M10) hM2 (fl := false) (by rw [flag hU]; exact h59)).run ?_
            rintro u2 ρ ⟨⟨hw, hR⟩, er2⟩
            rw [stF_f] at hw
            have h204' : gI ρ 204 p = nI (own d mo p) := by rw [((fr11_fillsWhose N er2).on (D := [(204, 1, none)]) rfl).I (wIn_r 0 rfl (by decide) (by decide)), ((fr11_yearGoes N er).on (D := [(204, 1, none)]) rfl).I (wIn_r 0 rfl (by decide) (by decide))]; exact h204
            have e200 : gI ρ 200 p = nI (own d (passN d sd mo i) p) := hw.1 p hp'
            refine Ok.c (inBn (by omega) (by decide)) (Ok.c (inBn (by omega) (by decide)) (Ok.t ?_ ?_))
            · rw [ixn (by omega), e200, h204', hno i hi]
            · rw [z_l_eq, nI_1]
              exact k () _ ⟨by omega, (hcτ.eq hU.M10).eq hR.M0, hM2.eq hR, by rw [flag57 hR.M1, flag57 hU]; exact h57, by rw [flag58 hR.M1, flag58 hU]; exact h58, by rw [flag hR.M1, flag hU]; exact h59, h204'⟩
          · rintro fu a τ -
            show Ok (f11_passes_16 N (nI p) (fu + 1) (nI 201) τ) _
            rw [f11_passes_16]
            exact Ok.t (by decide) (Ok.ret rfl)
    obtain ⟨r, k1, k2⟩ := key
    refine pairR hI (fun _ _ e => fr10_passes N e) rfl (fun _ _ _ e => fr11_passes N e) rfl r ?_ (fun τ hE => ?_)
    · refine gd0 (noPlot_t hL hp) (Ok.b (c_owner hN hd hc hm (Or.inl rfl) hp') ?_)
      rintro r1 υ ⟨rfl, hU⟩
      refine Ok.b (c_become hd (hm.eq (Or.inl rfl) hU)) ?_
      rintro u ρ ⟨hM, hR⟩
      exact k1 ρ ((hc.eq hU.C0).eq hR.C10) hM (by rw [(hc.eq hU.C0).sd hR.C10, hc.sd hU.C0, hsd0])
    · refine gd1 (isPlot_t (hB.L hE) hp) (Ok.b (r_keepsWhose hN hd (hB.S.eq hE)) ?_)
      rintro u υ ⟨hG, hS, h204, e57, e58⟩
      exact k2 υ hG.1 hG.2.1 (by rw [e57, hsd0]) e58 hG.2.2.2 (h204 p hp')
  · exact pairR hI (fun _ _ e => fr10_passes N e) rfl (fun _ _ _ e => fr11_passes N e) rfl (-1) (gd1 (noPlot_f hL hp) (Ok.ret rfl)) (fun τ hE => gd0 (isPlot_f (hB.L hE) hp) (Ok.ret rfl))
