-- WRITING PAIRS: restore, give
theorem pr_restore {N : Nat} (hN : 4000 ≤ N) : ∀ (x1 : Int32) (σ : Mm), Inv N σ → ∃ (r : Int32) (σ1 σ2 : Mm), f10_restore N x1 σ = some (r, σ1) ∧ f11_restore N x1 σ1 = some (r, σ2) ∧ Inv N σ2 := by
  intro x1 σ hI
  obtain ⟨o, v, P, Q, W, n, hInv⟩ := id hI
  obtain ⟨h1, h2, h3, h4, h5, ⟨u, nx, ns, u1, u2, u3, u4, u5, u6, u7⟩, ⟨s, s1, s2, s3⟩, h8, h9⟩ := id hInv
  have hW7 : W ≤ 7 := h3.2.2.2.2.1
  by_cases hp : isN x1 3
  · obtain ⟨z, hz, rfl⟩ := id hp
    have hin : ∀ τ, f11_in N (nI z) 0 2 τ = some (1, τ) := fun τ => in_t (n := 3) (by decide) hp
    have hbit : ((gI σ 70 5 >>> (nI z &&& 31)) &&& 1) = b2 (s.testBit z) := by rw [s2, bit_sr (by omega) (by omega)]; rfl
    obtain ⟨q1, q2⟩ := s3 z hz
    cases hs : s.testBit z
    · rw [hs] at q1 hbit
      refine pairS hI (r := 0) ?_ ?_
      · unfold f10_restore f6_goOnFrom
        rw [if_neg (nI_pos (by omega)), if_pos (show nI z < 3 from nI_lt (b := 3) hz (by decide)), hbit, if_pos (show b2 false = 0 from rfl), z_b_some, zc_t isZ_0]
      · unfold f11_restore
        rw [hin, z_b_some, if_neg (by decide), zc_t (inBn hz (by decide)), ixn (by omega), q1, if_pos (by decide)]
    · rw [hs] at q1 hbit
      obtain ⟨n', hn'⟩ := q2 hs
      have hn20 : n' ≤ 20 := hn'.1
      refine pairW (Q1 := fun r σ1 => r = 1 ∧ gI σ1 70 2 = 0 ∧ gI σ1 70 1 = gI σ 70 1 ∧ (∀ k, k < 4 → gI σ1 56 k = gI σ (134 + 8 * z) k) ∧ (∀ k, k < 7 → gI σ1 57 k = gI σ (134 + 8 * z + 1) k) ∧ (∀ c k, 1 ≤ c → c ≤ 5 → k < 20 → gI σ1 (50 + c) k = gI σ (136 + 8 * z + c) k) ∧ (∀ k, gI σ1 211 k = gI σ 211 k) ∧ gI σ1 210 z = 1) (Q2 := fun _ σ1 r σ2 => r = 1 ∧ gI σ2 160 63 = 0 ∧ (∀ k, k < 117 → gI σ2 198 k = gI σ1 211 (117 * z + k))) ?_ ?_ ?_
      · unfold f10_restore
        refine Ok.f (nI_pos (by omega)) (Ok.t (nI_lt (b := 3) hz (by decide)) ?_)
        have hG : Ok (f6_goOnFrom N 56 50 (nI z) σ) (fun r σ1 => r = 1 ∧ gI σ1 70 2 = 0 ∧ gI σ1 70 1 = gI σ 70 1 ∧ (∀ k, k < 4 → gI σ1 56 k = gI σ (134 + 8 * z) k) ∧ (∀ k, k < 7 → gI σ1 57 k = gI σ (134 + 8 * z + 1) k) ∧ (∀ c k, 1 ≤ c → c ≤ 5 → k < 20 → gI σ1 (50 + c) k = gI σ (136 + 8 * z + c) k) ∧ (∀ k, gI σ1 211 k = gI σ 211 k) ∧ gI σ1 210 z = 1) := by
          unfold f6_goOnFrom
          rw [hbit, ixn (by omega)]
          refine Ok.f (by decide) (Ok.c (inBn hz (by decide)) (Ok.b (become_v (by omega) (by omega) (by omega)) ?_))
          rintro w τ ⟨b1, b2, b3, b4, b5⟩
          refine Ok.c (inBn hz (by decide)) (Ok.b (gbecome_v (by omega)) ?_)
          rintro w2 υ ⟨g1, g2⟩
          rw [z_l_eq]
          refine Ok.ret ⟨rfl, gI_e, ?_, fun k hk => ?_, fun k hk => ?_, fun c k h1 h2 hk => ?_, fun k => ?_, ?_⟩
          · rw [gI_k (by decide), g2 _ _ (by omega), b4 _ _ (by decide) (by decide)]
          · rw [gI_o (by decide), g2 _ _ (by omega)]; exact b1 k hk
          · rw [gI_o (by decide), g2 _ _ (by omega)]; exact b2 k hk
          · rw [gI_o (by omega), g1 c k h1 h2 hk]; exact b4 _ _ (by omega) (by omega)
          · rw [gI_o (by decide), g2 _ _ (by omega)]; exact b4 _ _ (by decide) (by decide)
          · rw [gI_o (by decide), g2 _ _ (by omega), b4 _ _ (by decide) (by decide), q1]; rfl
        refine Ok.b hG ?_
        rintro r τ ⟨rfl, q⟩
        rw [zc_t isZ_1]
        exact Ok.ret ⟨rfl, q⟩
      · rintro r1 σ1 er ⟨rfl, e1, e2, e3, e4, e5, e6, e7⟩
        unfold f11_restore
        refine gd1 (hin σ1) (Ok.c (inBn hz (by decide)) ?_)
        rw [ixn (by omega), e7]
        refine Ok.f (by decide) ?_
        refine Ok.lp (fun fu (_ : Unit) i τ => f11_restore_22 N (nI z) fu i τ) 117 (fun i _ τ => (∀ k, k < i → gI τ 198 k = gI σ1 211 (117 * z + k)) ∧ ∀ k, gI τ 211 k = gI σ1 211 k) (a := ()) ⟨fun k hk => absurd hk (Nat.not_lt_zero _), fun k => rfl⟩ (by omega) ?_ ?_
        · rintro fu i a τ hi ⟨a1, a3⟩ k
          show Ok (f11_restore_22 N (nI z) (fu + 1) (nI i) τ) _
          rw [f11_restore_22, m117, ixn (show 117 * z + i < 2 ^ 31 by omega), ixn (show i < 2 ^ 31 by omega), a3]
          refine Ok.f (nI_ngt (n := 117) hi (by decide)) (Ok.c (inBn (by omega) (by decide)) (Ok.c (inBn hi (by decide)) (Ok.l (Ok.l ?_))))
          rw [nI_1]
          refine k () _ ⟨fun j hj => ?_, fun j => by rw [gI_o (by decide)]; exact a3 j⟩
          by_cases c : j = i
          · rw [c, gI_e]
          · rw [gI_k c]; exact a1 j (by omega)
        · rintro fu a τ ⟨a1, a3⟩
          show Ok (f11_restore_22 N (nI z) (fu + 1) (nI 117) τ) _
          rw [f11_restore_22]
          refine Ok.t nI_rf ?_
          rw [f11_restore_51, z_l_eq]
          exact Ok.ret ⟨rfl, gI_e, fun k hk => by rw [gI_o (by decide)]; exact a1 k hk⟩
      · rintro r1 σ1 r2 σ2 er er2 ⟨rfl, e1, e2, e3, e4, e5, e6, e7⟩ ⟨rfl, f1, f2⟩
        refine ⟨rfl, ?_⟩
        have hE2 : EqOn D_still σ σ2 := ((fr10_restore N er).on rfl).tr ((fr11_restore N er2).on rfl)
        have hS : EqOn [(50, 8, none), (70, 1, some 1), (70, 1, some 2)] σ1 σ2 := (fr11_restore N er2).on rfl
        refine inv_new hInv hE2 (n2 := n') ?_ ⟨0, nx, fun _ => 0, by omega, u2, by rw [hS.I (wIn_s 2 rfl)]; exact e1, f1, by rw [hS.I (wIn_s 1 rfl), e2]; exact u5, fun i j _ hj => absurd hj (Nat.not_lt_zero _), fun j hj => absurd hj (Nat.not_lt_zero _)⟩
        refine SnapAt.congr hW7 hn' (fun k hk => ?_) (fun k hk => ?_) (fun c j h1 h2 h3 => ?_) (fun k hk => ?_)
        · rw [hS.I (wIn_r 0 rfl (by decide) (by decide))]; exact e3 k hk
        · rw [hS.I (wIn_r 0 rfl (by decide) (by decide))]; exact e4 k hk
        · rw [hS.I (wIn_r 0 rfl (by omega) (by omega))]; exact e5 c j h1 h2 (by omega)
        · rw [f2 k hk, e6]
  · have hin : f11_in N x1 0 2 σ = some (0, σ) := in_f (n := 3) (by decide) hp
    refine pairS hI (r := 0) ?_ ?_
    · unfold f10_restore
      rcases in3_f hp with c | c
      · rw [if_pos c]
      · by_cases c2 : x1 < 0
        · rw [if_pos c2]
        · rw [if_neg c2, if_neg c]
    · unfold f11_restore
      rw [hin, z_b_some, if_pos rfl]
-- give
def dG (d : Dt) (p a b : Nat) (y : Int32) (s : Nat) : Dt := ((d.1.1, d.1.2.1, d.1.2.2.1, d.1.2.2.2.1, dn d + 1), d.2.1, (fun g => if g = dn d then p else dgp d g, fun g => if g = dn d then a else dgf d g, fun g => if g = dn d then b else dgt d g, fun g => if g = dn d then s else dgw d g), (d.2.2.2.1.1, fun g => if g = dn d then y else dgb d g, dun d), d.2.2.2.2)
theorem set_in {x : Int32} {W : Nat} (hW : W ≤ 7) : (ush x (nI W) = 0) = isN x (2 ^ W) := by
  have hx := x.toBitVec.isLt
  have hp : 2 ^ W ≤ 2 ^ 7 := Nat.pow_le_pow_right (by decide) hW
  have hp0 : 0 < 2 ^ W := Nat.two_pow_pos W
  rw [nI_toNat x, ushN hx (by omega)]
  generalize x.toBitVec.toNat = a at *
  have hd := Nat.div_le_self a (2 ^ W)
  refine propext ⟨fun h => ⟨a, ?_, rfl⟩, fun ⟨w, hw, e⟩ => ?_⟩
  · have h2 : (nI (a / 2 ^ W)).toBitVec.toNat = (0 : Int32).toBitVec.toNat := congrArg (fun z : Int32 => z.toBitVec.toNat) h
    rw [pk_tn (by omega)] at h2
    have h2 : a / 2 ^ W = 0 := h2
    rcases Nat.div_eq_zero_iff.mp h2 with c | c
    · omega
    · exact c
  · have e2 : (nI a).toBitVec.toNat = (nI w).toBitVec.toNat := congrArg (fun z : Int32 => z.toBitVec.toNat) e
    rw [pk_tn hx, pk_tn (by omega)] at e2
    rw [e2, Nat.div_eq_of_lt hw]
    rfl
theorem r_areAlive {N : Nat} (hN : 4000 ≤ N) {σ : Mm} {d : Dt} {mo : Mo} (hd : Dok d) (hn : MN σ d mo) {s : Nat} (hs : s < 2 ^ dW d) : f11_areAlive N (nI s) σ = some (b2 (decide (∀ w, w < dW d → s.testBit w = true → al mo w = true)), σ) := by
  obtain ⟨d1, d2, d3, d4, d5, d6, d7, d8⟩ := id hd
  obtain ⟨ra, rl, r14, r15, r16, rg⟩ := hn
  have h7 := two7 hd hs
  have hbit : ∀ w, s.testBit w = true → w < dW d := fun w h => by
    by_cases c : w < dW d
    · exact c
    · rw [Nat.testBit_lt_two_pow (Nat.lt_of_lt_of_le hs (Nat.pow_le_pow_right (by decide) (by omega)))] at h
      exact Bool.noConfusion h
  have h : Ok (f11_areAlive N (nI s) σ) (fun r τ => r = b2 (decide (∀ w, w < dW d → s.testBit w = true → al mo w = true)) ∧ τ = σ) := by
    unfold f11_areAlive
    refine Ok.lp (fun fu (_ : Unit) i τ => f11_areAlive_2 N (nI s) fu i τ) 7 (fun i _ τ => (∀ w, w < i → s.testBit w = true → al mo w = true) ∧ τ = σ) (a := ()) ⟨fun w hw => absurd hw (Nat.not_lt_zero _), rfl⟩ (by omega) ?_ ?_
    · rintro fu i a τ hi ⟨h0, rfl⟩ k
      show Ok (f11_areAlive_2 N (nI s) (fu + 1) (nI i) τ) _
      rw [f11_areAlive_2, ad7, bit_sr (by omega) (by omega)]
      refine Ok.f (nI_ngt (n := 7) hi (by decide)) (Ok.i (fun c => ?_) (fun c => ?_))
      · have hb : s.testBit i = true := by
          cases e : s.testBit i
          · rw [e] at c; exact absurd c (by decide)
          · rfl
        have hiW := hbit i hb
        rw [ixn (by omega), rl i hiW]
        refine Ok.c (inBn (by omega) (by decide)) (Ok.i (fun c2 => ?_) (fun c2 => ?_))
        · rw [b2_0] at c2
          refine Ok.ret ⟨?_, rfl⟩
          rw [decide_eq_false (fun hall => by have := hall i hiW hb; rw [c2] at this; exact Bool.noConfusion this)]
          rfl
        · rw [b2_0] at c2
          rw [f11_areAlive_31, z_l_eq, nI_1]
          refine k () _ ⟨fun w hw hbw => ?_, rfl⟩
          by_cases e : w = i
          · rw [e]; simpa using c2
          · exact h0 w (by omega) hbw
      · rw [f11_areAlive_31, z_l_eq, nI_1]
        refine k () _ ⟨fun w hw hbw => ?_, rfl⟩
        by_cases e : w = i
        · rw [e] at hbw
          rw [hbw] at c
          exact absurd rfl c
        · exact h0 w (by omega) hbw
    · rintro fu a τ ⟨h0, rfl⟩
      show Ok (f11_areAlive_2 N (nI s) (fu + 1) (nI 7) τ) _
      rw [f11_areAlive_2]
      refine Ok.t nI_rf (Ok.ret ⟨?_, rfl⟩)
      rw [decide_eq_true (fun w hw hb => h0 w (by omega) hb)]
      rfl
  obtain ⟨r, τ, e, rfl, rfl⟩ := h
  exact e
theorem c_alive {σ : Mm} {d : Dt} {mo : Mo} (hd : Dok d) (hm : CM σ 56 d mo) {s : Nat} (hs : s < 2 ^ dW d) : (nI s &&& (gI σ 56 1 ^^^ (-1 : Int32)) = 0) = (∀ w, w < dW d → s.testBit w = true → al mo w = true) := by
  have h7 := hd.2.2.1
  have hb := two7 hd (bs_lt (p := fun i => s.testBit i && !al mo i) (dW d))
  rw [hm.2.1, xor1, show nI s = nI (bs s.testBit (dW d)) from congrArg nI (bs_of hs), diffN (by omega), show (0 : Int32) = nI 0 from rfl, nI_eq (by omega) (by decide), bs_0]
  refine propext ⟨fun h w hw hb => ?_, fun h w hw => ?_⟩
  · have := h w hw
    rw [hb] at this
    simpa using this
  · cases e : s.testBit w
    · rfl
    · rw [h w hw e]; rfl
theorem pr_give {N : Nat} (hN : 4000 ≤ N) : ∀ (x1 x2 x3 x4 : Int32) (σ : Mm), Inv N σ → ∃ (r : Int32) (σ1 σ2 : Mm), f10_give N x1 x2 x3 x4 σ = some (r, σ1) ∧ f11_give N x1 x2 x3 x4 σ1 = some (r, σ2) ∧ Inv N σ2 := by
  intro x1 x2 x3 x4 σ hI
  obtain ⟨o, v, d, mo, hB⟩ := bridgeI hI
  obtain ⟨hd, hk, hc, hm, hcM, hn, hsd, hInv⟩ := id hB
  obtain ⟨d1, d2, d3, d4, d5, d6, d7, d8⟩ := id hd
  obtain ⟨ho, hl3, hl, hP, hQ, hW, hK, hpl, hme, hgv, hlaw, hv⟩ := id hc
  obtain ⟨hv2, h18, hP, hQ, hW, hK, hpl, hme, hlaw⟩ := id hcM
  have hL := hInv.2.2.1
  have hp27 : 2 ^ dW d ≤ 2 ^ 7 := Nat.pow_le_pow_right (by decide) d3
  have hmax : ((1 : Int32) <<< (nI (dW d) &&& 31)) - 1 = nI (2 ^ dW d) - 1 := by rw [b1 (by omega)]
  by_cases hp : isN x1 (dQ d)
  · by_cases ha : isN x2 (dP d)
    · by_cases hb : isN x3 (dP d)
      · by_cases hab : x2 = x3
        · exact pairS hI (r := -1) (by unfold f10_give; rw [noPlot_t hL hp, z_b_some, if_pos rfl, noPerson_t hL ha, z_b_some, if_pos rfl, noPerson_t hL hb, z_b_some, if_pos rfl, if_pos hab]) (by unfold f11_give; rw [isPlot_t hL hp, z_b_some, if_neg (by decide), isPerson_t hL ha, z_b_some, if_neg (by decide), isPerson_t hL hb, z_b_some, if_neg (by decide), if_pos hab])
        · have hW' : gI σ 175 v = nI (dW d) := hL.2.2.2.2.2.2.2.2.2.2.2.2.2.2.1
          have c1 : ∀ {Z : Option (Int32 × Mm)}, f10_give N x1 x2 x3 x4 σ = Z ↔ (if (ush x4 (nI (dW d))) = 0 then (if (20 : Int32) ≤ nI (dn d) then some ((-2 : Int32), σ) else (if (x4 &&& ((gI σ 56 1) ^^^ (-1 : Int32))) = 0 then (z_b (f6_keep N 56 σ) fun _ σ_20 => z_l ((gI σ_20 56 3)) fun x5_22 => z_b (f1_put N 50 x5_22 x1 x2 x3 (gI σ_20 56 0) x4 σ_20) fun _ σ_24 => z_l (sI σ_24 56 3 (x5_22 + (1 : Int32))) fun σ_26 => some (x5_22, σ_26)) else some ((-2 : Int32), σ))) else some ((-1 : Int32), σ)) = Z := by
            intro Z
            have hWo : gI σ o 2 = nI (dW d) := hL.2.2.2.2.2.2.2.2.2.2.2.2.2.1
            unfold f10_give
            rw [noPlot_t hL hp, z_b_some, if_pos rfl, noPerson_t hL ha, z_b_some, if_pos rfl, noPerson_t hL hb, z_b_some, if_pos rfl, if_neg hab, hl3, z_r_some (kd_land ho), hWo, hm.2.2.2.1]
          have c2 : ∀ (τ : Mm) (hE : EqOn D_land σ τ), f11_give N x1 x2 x3 x4 τ = (z_b (f11_in N x4 (0 : Int32) (nI (2 ^ dW d) - 1) τ) fun r_15 σ_16 => if r_15 = 0 then some ((-1 : Int32), σ_16) else z_c (inB (15 : Int32) 117) (if (gI σ_16 198 (ix (15 : Int32))) = (20 : Int32) then some ((-2 : Int32), σ_16) else z_b (f11_areAlive N x4 σ_16) fun r_21 σ_22 => if r_21 = 0 then some ((-2 : Int32), σ_22) else z_b (f11_copies N σ_22) fun _ σ_26 =>
              z_c (inB (15 : Int32) 117) (z_l ((gI σ_26 199 (ix (15 : Int32)))) fun x5_29 => z_c (inB (15 : Int32) 117) (z_c (inB (15 : Int32) 117) (z_l (sI σ_26 199 (ix (15 : Int32)) ((gI σ_26 199 (ix (15 : Int32))) + (1 : Int32))) fun σ_32 => z_c (inB ((17 : Int32) + x5_29) 117) (z_l (sI σ_32 199 (ix ((17 : Int32) + x5_29)) x1) fun σ_34 => z_c (inB ((37 : Int32) + x5_29) 117) (z_l (sI σ_34 199 (ix ((37 : Int32) + x5_29)) x2) fun σ_36 => z_c (inB ((57 : Int32) + x5_29) 117) (z_l (sI σ_36 199 (ix ((57 : Int32) + x5_29)) x3) fun σ_38 => z_c (inB (14 : Int32) 117) (z_c (inB ((77 : Int32) + x5_29) 117) (z_l (sI σ_38 199 (ix ((77 : Int32) + x5_29)) (gI σ_38 199 (ix (14 : Int32)))) fun σ_41 => z_c (inB ((97 : Int32) + x5_29) 117) (z_l (sI σ_41 199 (ix ((97 : Int32) + x5_29)) x4) fun σ_43 => z_b (f11_records N σ_43) fun _ σ_45 => some (x5_29, σ_45)))))))))))) := by
            intro τ hE
            have hLτ := hL.eq hE
            have e18 : gI τ 160 18 = nI v := hLτ.2.2.2.2.2.2.2.2.1
            have e175 : gI τ 175 v = nI (dW d) := hLτ.2.2.2.2.2.2.2.2.2.2.2.2.2.2.1
            unfold f11_give
            rw [isPlot_t hLτ hp, z_b_some, if_neg (by decide), isPerson_t hLτ ha, z_b_some, if_neg (by decide), isPerson_t hLτ hb, z_b_some, if_neg (by decide), if_neg hab, e18, zc_t (inBn hv2 (by decide)), ixn (by omega), e175, hmax]
          by_cases hs : isN x4 (2 ^ dW d)
          · obtain ⟨p, hp', rfl⟩ := id hp
            obtain ⟨a, ha', rfl⟩ := id ha
            obtain ⟨b, hb', rfl⟩ := id hb
            obtain ⟨s, hs', rfl⟩ := id hs
            have e15 : ∀ τ, EqOn [(198, 1, none)] σ τ → gI τ 198 15 = nI (dn d) := fun τ hE => by rw [hE.I (wIn_r 0 rfl (by decide) (by decide))]; exact hn.2.2.2.1
            by_cases h20 : dn d = 20
            · refine pairS hI (r := -2) (c1.mpr ?_) ?_
              · rw [if_pos ((set_in d3).mpr hs), h20, if_pos (show (20 : Int32) ≤ nI 20 from nI_rf)]
              · rw [c2 σ EqOn.rf, in_t (by omega) hs, z_b_some, if_neg (by decide), zc_t (b := inB 15 117) rfl, ixl.2.2.2.2.2.2.2.2.2.2.1, e15 σ EqOn.rf, h20, if_pos (show nI 20 = 20 from rfl)]
            · by_cases hal : ∀ w, w < dW d → s.testBit w = true → al mo w = true
              · obtain ⟨u, nx, u1, u2, u3, u4, u5, hund⟩ := hB.undo
                obtain ⟨d2, hd2⟩ : ∃ d2, d2 = dG d p a b (yr mo) s := ⟨_, rfl⟩
                have hdok : Dok d2 := by
                  rw [hd2]
                  refine ⟨d1, hd.2.1, d3, d4, ?_, d6, fun g hg => ?_, d8⟩
                  · show dn d + 1 ≤ 20; omega
                  · have hg : g < dn d + 1 := hg
                    show (if g = dn d then p else dgp d g) < dQ d ∧ (if g = dn d then a else dgf d g) < dP d ∧ (if g = dn d then b else dgt d g) < dP d ∧ (if g = dn d then s else dgw d g) < 2 ^ dW d
                    by_cases c : g = dn d
                    · rw [if_pos c, if_pos c, if_pos c, if_pos c]; exact ⟨hp', ha', hb', hs'⟩
                    · rw [if_neg c, if_neg c, if_neg c, if_neg c]; exact d7 g (by omega)
                have f17 : ∀ g, dgp d2 g = if g = dn d then p else dgp d g := fun g => by rw [hd2]; rfl
                have f37 : ∀ g, dgf d2 g = if g = dn d then a else dgf d g := fun g => by rw [hd2]; rfl
                have f57 : ∀ g, dgt d2 g = if g = dn d then b else dgt d g := fun g => by rw [hd2]; rfl
                have f77 : ∀ g, dgb d2 g = if g = dn d then yr mo else dgb d g := fun g => by rw [hd2]; rfl
                have f97 : ∀ g, dgw d2 g = if g = dn d then s else dgw d g := fun g => by rw [hd2]; rfl
                have fn : dn d2 = dn d + 1 := by rw [hd2]; rfl
                have fW : dW d2 = dW d := by rw [hd2]; rfl
                have fu : dun d2 = dun d := by rw [hd2]; rfl
                refine pairW (Q1 := fun r σ1 => r = nI (dn d) ∧ CM σ1 56 d2 mo ∧ (∀ g, g < dn d2 → gI σ1 51 g = nI (dgp d2 g) ∧ gI σ1 52 g = nI (dgf d2 g) ∧ gI σ1 53 g = nI (dgt d2 g) ∧ gI σ1 54 g = dgb d2 g ∧ gI σ1 55 g = nI (dgw d2 g)) ∧ (∀ c j, 1 ≤ c → c ≤ 5 → j < dn d → gI σ1 (50 + c) j = gI σ (50 + c) j) ∧ Kept σ σ1 u nx) (Q2 := fun _ σ1 r σ2 => r = nI (dn d) ∧ RowOf (gI σ2 198) d2 mo ∧ Recd σ σ2 u) ?_ ?_ ?_
                · rw [c1.mpr rfl]
                  refine Ok.t ((set_in d3).mpr hs) (Ok.f (nI_ngt (n := 20) (by omega) (by decide)) (Ok.t ((c_alive hd hm hs').mpr hal) (Ok.b (c_keep' u1 u2 u5 u3) ?_)))
                  rintro w τ ⟨hK, hlow, hE⟩
                  obtain ⟨m0, m1, m2, m3, m4⟩ := hm.eq (Or.inl rfl) hE
                  have gvτ := (hc.eq hE.C0).2.2.2.2.2.2.2.2.2.1
                  rw [z_l_eq, m3, m0]
                  have hput : f1_put N 50 (nI (dn d)) (nI p) (nI a) (nI b) (yr mo) (nI s) τ = some ((), sI (sI (sI (sI (sI τ 51 (dn d) (nI p)) 52 (dn d) (nI a)) 53 (dn d) (nI b)) 54 (dn d) (yr mo)) 55 (dn d) (nI s)) := by
                    unfold f1_put
                    rw [if_neg (nI_pos (by omega)), if_neg (show ¬ (20 : Int32) ≤ nI (dn d) from nI_ngt (n := 20) (by omega) (by decide)), zc_t (inBn (by omega) (by decide)), z_l_eq, zc_t (inBn (by omega) (by decide)), z_l_eq, zc_t (inBn (by omega) (by decide)), z_l_eq, zc_t (inBn (by omega) (by decide)), z_l_eq, zc_t (inBn (by omega) (by decide)), z_l_eq, ixn (by omega)]
                  rw [hput, z_b_some, z_l_eq, nI_1]
                  refine Ok.ret ⟨rfl, ⟨?_, ?_, ?_, ?_, fun w hw => ?_⟩, fun g hg => ?_, fun c j h1 h2 hj => ?_, hK.eq u2 (EqOn_sIa (EqOn_sIa (EqOn_sIa (EqOn_sIa (EqOn_sIa (EqOn_sIa EqOn.rf (by decide)) (by decide)) (by decide)) (by decide)) (by decide)) (by decide))⟩
                  · rw [gI_k (by decide), gI_o (by decide), gI_o (by decide), gI_o (by decide), gI_o (by decide), gI_o (by decide)]; exact m0
                  · rw [gI_k (by decide), gI_o (by decide), gI_o (by decide), gI_o (by decide), gI_o (by decide), gI_o (by decide), fW]; exact m1
                  · rw [gI_k (by decide), gI_o (by decide), gI_o (by decide), gI_o (by decide), gI_o (by decide), gI_o (by decide), fu]; exact m2
                  · rw [gI_e, fn]
                  · rw [gI_o (by decide), gI_o (by decide), gI_o (by decide), gI_o (by decide), gI_o (by decide), gI_o (by decide)]; exact m4 w (by rw [fW] at hw; exact hw)
                  · rw [fn] at hg
                    rw [f17, f37, f57, f77, f97]
                    by_cases c : g = dn d
                    · subst c
                      rw [if_pos rfl, if_pos rfl, if_pos rfl, if_pos rfl, if_pos rfl]
                      refine ⟨?_, ?_, ?_, ?_, ?_⟩ <;> simp [gI_s]
                    · rw [if_neg c, if_neg c, if_neg c, if_neg c, if_neg c]
                      obtain ⟨g1, g2, g3, g4, g5⟩ := gvτ g (by omega)
                      refine ⟨?_, ?_, ?_, ?_, ?_⟩ <;> simp [gI_s, c, g1, g2, g3, g4, g5]
                  · have hne : j ≠ dn d := by omega
                    rw [← hlow (50 + c) j (by omega)]
                    simp [gI_s, hne, show 50 + c ≠ 56 by omega]
                · rintro r1 σ1 er ⟨rfl, hM, hgv1, hg0, hK⟩
                  have hS1 : MSt N σ1 v d mo (gI σ o 5) := hB.S.eq' ((fr10_give N er).on rfl)
                  have hE1 : EqOn [(160, 1, some 63), (198, 1, none), (203, 1, none)] σ σ1 := (fr10_give N er).on rfl
                  rw [c2 σ1 ((fr10_give N er).on rfl), in_t (by omega) hs, z_b_some]
                  refine Ok.f (by decide) (Ok.c rfl ?_)
                  rw [ixl.2.2.2.2.2.2.2.2.2.2.1, e15 σ1 (hE1.sub (by decide))]
                  refine Ok.f (by show ¬ nI (dn d) = nI 20; rw [nI_eq (by omega) (by decide)]; exact h20) ?_
                  rw [r_areAlive hN hd hS1.2.1 hs', decide_eq_true hal, z_b_some]
                  refine Ok.f (by decide) (Ok.b (r_copies hN hd hS1).run ?_)
                  rintro w τ ⟨⟨hM1, hE0, e57, e58, e59, hS2⟩, er2⟩
                  obtain ⟨ra, rl, r14, r15, r16, rg⟩ := id hM1
                  rw [r15]
                  refine Ok.c rfl (Ok.l ?_)
                  simp only [ad7, ad17, ad37, ad57, ad77, ad97, m7]
                  repeat (first | (with_reducible refine Ok.l ?_) | ((with_reducible refine Ok.c ?_ ?_); · first | rfl | exact inBn (by omega) (by decide)))
                  rw [nI_1, ixl.2.2.2.2.2.2.2.2.2.1, ixn (show 17 + dn d < 2 ^ 31 by omega), ixn (show 37 + dn d < 2 ^ 31 by omega), ixn (show 57 + dn d < 2 ^ 31 by omega), ixn (show 77 + dn d < 2 ^ 31 by omega), ixn (show 97 + dn d < 2 ^ 31 by omega)]
                  refine Ok.b (r_records' hN u1 u4 ((hE1.tr ((fr11_copies N er2).on rfl)).tr (EqOn_sIa (EqOn_sIa (EqOn_sIa (EqOn_sIa (EqOn_sIa (EqOn_sIa EqOn.rf (by decide)) (by decide)) (by decide)) (by decide)) (by decide)) (by decide)))) ?_
                  rintro w3 ρ ⟨hR, h198⟩
                  refine Ok.ret ⟨rfl, RowOf.congr hdok ?_ h198, hR⟩
                  have e14 : gI (sI (sI (sI (sI τ 199 15 (nI (dn d + 1))) 199 (17 + dn d) (nI p)) 199 (37 + dn d) (nI a)) 199 (57 + dn d) (nI b)) 199 14 = yr mo := by rw [gI_k (by omega), gI_k (by omega), gI_k (by omega), gI_k (by omega)]; exact r14
                  rw [e14]
                  refine ⟨fun w hw => ?_, fun w hw => ?_, ?_, ?_, ?_, fun g hg => ?_⟩
                  · rw [fW] at hw
                    rw [gI_k (by omega), gI_k (by omega), gI_k (by omega), gI_k (by omega), gI_k (by omega), gI_k (by omega)]; exact ra w hw
                  · rw [fW] at hw
                    rw [gI_k (by omega), gI_k (by omega), gI_k (by omega), gI_k (by omega), gI_k (by omega), gI_k (by omega)]; exact rl w hw
                  · rw [gI_k (by omega), gI_k (by omega), gI_k (by omega), gI_k (by omega), gI_k (by omega), gI_k (by omega)]; exact r14
                  · rw [gI_k (by omega), gI_k (by omega), gI_k (by omega), gI_k (by omega), gI_k (by omega), gI_e, fn]
                  · rw [gI_k (by omega), gI_k (by omega), gI_k (by omega), gI_k (by omega), gI_k (by omega), gI_k (by omega), fu]; exact r16
                  · rw [fn] at hg
                    rw [f17, f37, f57, f77, f97]
                    by_cases c : g = dn d
                    · subst c
                      rw [if_pos rfl, if_pos rfl, if_pos rfl, if_pos rfl, if_pos rfl]
                      refine ⟨?_, ?_, ?_, ?_, ?_⟩
                      · rw [gI_k (by omega), gI_k (by omega), gI_k (by omega), gI_k (by omega), gI_e]
                      · rw [gI_k (by omega), gI_k (by omega), gI_k (by omega), gI_e]
                      · rw [gI_k (by omega), gI_k (by omega), gI_e]
                      · rw [gI_k (by omega), gI_e]
                      · rw [gI_e]
                    · rw [if_neg c, if_neg c, if_neg c, if_neg c, if_neg c]
                      obtain ⟨g1, g2, g3, g4, g5⟩ := rg g (by omega)
                      refine ⟨?_, ?_, ?_, ?_, ?_⟩
                      · rw [gI_k (by omega), gI_k (by omega), gI_k (by omega), gI_k (by omega), gI_k (by omega), gI_k (by omega)]; exact g1
                      · rw [gI_k (by omega), gI_k (by omega), gI_k (by omega), gI_k (by omega), gI_k (by omega), gI_k (by omega)]; exact g2
                      · rw [gI_k (by omega), gI_k (by omega), gI_k (by omega), gI_k (by omega), gI_k (by omega), gI_k (by omega)]; exact g3
                      · rw [gI_k (by omega), gI_k (by omega), gI_k (by omega), gI_k (by omega), gI_k (by omega), gI_k (by omega)]; exact g4
                      · rw [gI_k (by omega), gI_k (by omega), gI_k (by omega), gI_k (by omega), gI_k (by omega), gI_k (by omega)]; exact g5
                · rintro r1 σ1 r2 σ2 er er2 ⟨rfl, hM, hgv1, hg0, hK⟩ ⟨rfl, hrow, hR⟩
                  refine ⟨rfl, ?_⟩
                  have hE2 : EqOn D_still σ σ2 := ((fr10_give N er).on rfl).tr ((fr11_give N er2).on rfl)
                  have hM2 : CM σ2 56 d2 mo := hM.eq (Or.inl rfl) ((fr11_give N er2).on rfl)
                  have hgg : ∀ c j, 1 ≤ c → c ≤ 5 → gI σ2 (50 + c) j = gI σ1 (50 + c) j := fun c j h1 h2 => ((fr11_give N er2).on (D := [(50, 6, none)]) rfl).I (wIn_r 0 rfl (by omega) (by omega))
                  refine inv_done (d2 := d2) (mo2 := mo) hB hdok (fun w hw => hk w (by rw [fW] at hw; exact hw)) (by rw [hd2]; rfl) (by rw [hd2]; rfl) fW (by omega) hund hE2 hM2 (fun j hj => ?_) (fun c j h1 h2 h3 => (hgg c j h1 h2).trans (hg0 c j h1 h2 h3)) hrow (hK.eq u2 ((fr11_give N er2).on rfl)) hR
                  have q := hgv1 j hj
                  exact ⟨(hgg 1 j (by decide) (by decide)).trans q.1, (hgg 2 j (by decide) (by decide)).trans q.2.1, (hgg 3 j (by decide) (by decide)).trans q.2.2.1, (hgg 4 j (by decide) (by decide)).trans q.2.2.2.1, (hgg 5 j (by decide) (by decide)).trans q.2.2.2.2⟩
              · refine pairS hI (r := -2) (c1.mpr ?_) ?_
                · rw [if_pos ((set_in d3).mpr hs), if_neg (show ¬ (20 : Int32) ≤ nI (dn d) from nI_ngt (n := 20) (by omega) (by decide)), if_neg (fun c => hal ((c_alive hd hm hs').mp c))]
                · rw [c2 σ EqOn.rf, in_t (by omega) hs, z_b_some, if_neg (by decide), zc_t (b := inB 15 117) rfl, ixl.2.2.2.2.2.2.2.2.2.2.1, e15 σ EqOn.rf, if_neg (show ¬ nI (dn d) = 20 from fun c => h20 ((nI_eq (b := 20) (by omega) (by decide)).mp c)), r_areAlive hN hd hn hs', decide_eq_false hal, z_b_some, if_pos (show b2 false = 0 from rfl)]
          · refine pairS hI (r := -1) (c1.mpr ?_) ?_
            · rw [if_neg (fun c => hs ((set_in d3).mp c))]
            · rw [c2 σ EqOn.rf, in_f (by omega) hs, z_b_some, if_pos rfl]
      · exact pairS hI (r := -1) (by unfold f10_give; rw [noPlot_t hL hp, z_b_some, if_pos rfl, noPerson_t hL ha, z_b_some, if_pos rfl, noPerson_f hL hb, z_b_some, if_neg (by decide)]) (by unfold f11_give; rw [isPlot_t hL hp, z_b_some, if_neg (by decide), isPerson_t hL ha, z_b_some, if_neg (by decide), isPerson_f hL hb, z_b_some, if_pos rfl])
    · exact pairS hI (r := -1) (by unfold f10_give; rw [noPlot_t hL hp, z_b_some, if_pos rfl, noPerson_f hL ha, z_b_some, if_neg (by decide)]) (by unfold f11_give; rw [isPlot_t hL hp, z_b_some, if_neg (by decide), isPerson_f hL ha, z_b_some, if_pos rfl])
  · exact pairS hI (r := -1) (by unfold f10_give; rw [noPlot_f hL hp, z_b_some, if_neg (by decide)]) (by unfold f11_give; rw [isPlot_f hL hp, z_b_some, if_pos rfl])
