-- WRITING PAIRS: years, unsay, undo
/-- what keep() leaves, with the past as it was -/
def Kept (σ τ : Mm) (u nx : Nat) : Prop := gI τ 70 1 = nI ((nx + 1) % 30) ∧ gI τ 70 2 = nI (min (u + 1) 30) ∧ (∀ k, k < 4 → gI τ (74 + 2 * nx) k = gI σ 56 k) ∧ (∀ k, k < 7 → gI τ (74 + 2 * nx + 1) k = gI σ 57 k) ∧ (∀ c k, 74 ≤ c → c < 134 → c ≠ 74 + 2 * nx → c ≠ 74 + 2 * nx + 1 → gI τ c k = gI σ c k)
def D_K : Wr := [(70, 1, some 1), (70, 1, some 2), (74, 60, none)]
theorem Kept.eq {σ τ υ : Mm} {u nx : Nat} (hx : nx < 30) (h : Kept σ τ u nx) (hE : EqOn D_K τ υ) : Kept σ υ u nx := by
  obtain ⟨a1, a2, a3, a4, a5⟩ := h
  have hm : ∀ c k, 74 ≤ c → c < 134 → gI υ c k = gI τ c k := fun c k a b => hE.I (wIn_r 2 rfl a b)
  exact ⟨by rw [hE.I (wIn_s 0 rfl)]; exact a1, by rw [hE.I (wIn_s 1 rfl)]; exact a2, fun k hk => by rw [hm _ _ (by omega) (by omega)]; exact a3 k hk, fun k hk => by rw [hm _ _ (by omega) (by omega)]; exact a4 k hk, fun c k h1 h2 h3 h4 => by rw [hm _ _ h1 h2]; exact a5 c k h1 h2 h3 h4⟩
/-- what records() leaves -/
def Recd (σ τ : Mm) (u : Nat) : Prop := gI τ 160 63 = nI (min u 29 + 1) ∧ (∀ j k, k < 117 → j < min u 29 → gI τ 203 (117 * j + k) = gI σ 203 (117 * (if u = 30 then j + 1 else j) + k)) ∧ (∀ k, k < 117 → gI τ 203 (117 * min u 29 + k) = gI σ 198 k)
theorem c_keep' {N : Nat} {σ : Mm} {u nx : Nat} (hu : u ≤ 30) (hx : nx < 30) (h1 : gI σ 70 1 = nI nx) (h2 : gI σ 70 2 = nI u) : Ok (f6_keep N 56 σ) (fun _ τ => Kept σ τ u nx ∧ (∀ c k, c < 70 → gI τ c k = gI σ c k) ∧ EqOn D_C σ τ) := by
  refine (c_keep (N := N) hu hx h1 h2).run.mono ?_
  rintro v τ ⟨⟨a1, a2, a3, a4, a5⟩, e⟩
  exact ⟨⟨a1, a2, a3, a4, fun c k h1 h2 h3 h4 => a5 c k (by omega) h3 h4⟩, fun c k h => a5 c k (by omega) (by omega) (by omega), (fr6_keep N e).on rfl⟩
theorem r_records' {N : Nat} (hN : 4000 ≤ N) {σ τ : Mm} {u : Nat} (hu : u ≤ 30) (h63 : gI σ 160 63 = nI u) (hE : EqOn [(160, 1, some 63), (198, 1, none), (203, 1, none)] σ τ) : Ok (f11_records N τ) (fun _ υ => Recd σ υ u ∧ ∀ k, k < 117 → gI υ 198 k = gI τ 199 k) := by
  refine (r_records hN hu (by rw [hE.I (wIn_s 0 rfl)]; exact h63)).mono ?_
  rintro v υ ⟨q1, q2, q3, q4⟩
  refine ⟨⟨q1, fun j k hk hj => ?_, fun k hk => ?_⟩, q2⟩
  · rw [q3 j k hk hj, hE.I (wIn_r 2 rfl (by decide) (by decide))]
  · rw [q4 k hk, hE.I (wIn_r 1 rfl (by decide) (by decide))]
theorem RowOf.congr {f g : Nat → Int32} {d : Dt} {mo : Mo} (hd : Dok d) (h : RowOf f d mo) (hfg : ∀ k, k < 117 → g k = f k) : RowOf g d mo := by
  obtain ⟨d1, d2, d3, d4, d5, d6, d7, d8⟩ := id hd
  obtain ⟨ra, rl, r14, r15, r16, rg⟩ := h
  refine ⟨fun w hw => by rw [hfg _ (by omega)]; exact ra w hw, fun w hw => by rw [hfg _ (by omega)]; exact rl w hw, by rw [hfg _ (by decide)]; exact r14, by rw [hfg _ (by decide)]; exact r15, by rw [hfg _ (by decide)]; exact r16, fun j hj => ?_⟩
  rw [hfg _ (by omega), hfg _ (by omega), hfg _ (by omega), hfg _ (by omega), hfg _ (by omega)]
  exact rg j hj
/-- a thing done: the invariant afterwards -/
theorem inv_done {N : Nat} {σ τ : Mm} {o v : Nat} {d d2 : Dt} {mo mo2 : Mo} (hB : BR N σ o v d mo) (hd2 : Dok d2) (hk2 : Mok d2 mo2) (eP : dP d2 = dP d) (eQ : dQ d2 = dQ d) (eW : dW d2 = dW d) (en : dn d ≤ dn d2) {u nx : Nat} (hu : ∃ ns : Nat → Nat, u ≤ 30 ∧ nx < 30 ∧ (∀ i j, i ≤ j → j < u → ns i ≤ ns j) ∧ ∀ j, j < u → ns j ≤ dn d ∧ SnapAt σ (dP d) (dQ d) (dW d) (ns j) (74 + 2 * ((nx + 30 - u + j) % 30)) 50 (fun k => gI σ 203 (117 * j + k)))
    (hE : EqOn D_still σ τ) (hm2 : CM τ 56 d2 mo2) (hg : ∀ j, j < dn d2 → gI τ 51 j = nI (dgp d2 j) ∧ gI τ 52 j = nI (dgf d2 j) ∧ gI τ 53 j = nI (dgt d2 j) ∧ gI τ 54 j = dgb d2 j ∧ gI τ 55 j = nI (dgw d2 j)) (hg0 : ∀ c j, 1 ≤ c → c ≤ 5 → j < dn d → gI τ (50 + c) j = gI σ (50 + c) j)
    (hr : RowOf (gI τ 198) d2 mo2) (hK : Kept σ τ u nx) (hR : Recd σ τ u) : Inv N τ := by
  obtain ⟨hd, hk, hc, hm, hcM, hn, hsd, hInv⟩ := id hB
  obtain ⟨ns, u1, u2, u6, u7⟩ := hu
  obtain ⟨a1, a2, a3, a4, a5⟩ := hK
  obtain ⟨b1, b2, b3⟩ := hR
  refine inv_new hInv hE (n2 := dn d2) ?_ (undo_new hd.2.2.1 hInv.2.2.2.2.1 u1 u2 u6 u7 en a1 a2 a3 a4 a5 hg0 b1 b2 b3)
  have := snap_of (g := 50) hd2 hk2 hm2 hg hr
  rw [eP, eQ, eW] at this
  exact this
theorem BR.undo {N : Nat} {σ : Mm} {o v : Nat} {d : Dt} {mo : Mo} (hB : BR N σ o v d mo) : ∃ u nx : Nat, u ≤ 30 ∧ nx < 30 ∧ gI σ 70 2 = nI u ∧ gI σ 160 63 = nI u ∧ gI σ 70 1 = nI nx ∧ ∃ ns : Nat → Nat, u ≤ 30 ∧ nx < 30 ∧ (∀ i j, i ≤ j → j < u → ns i ≤ ns j) ∧ ∀ j, j < u → ns j ≤ dn d ∧ SnapAt σ (dP d) (dQ d) (dW d) (ns j) (74 + 2 * ((nx + 30 - u + j) % 30)) 50 (fun k => gI σ 203 (117 * j + k)) := by
  obtain ⟨hd, hk, hc, hm, hcM, hn, hsd, hInv⟩ := hB
  obtain ⟨u, nx, ns, h1, h2, h3, h4, h5, h6, h7⟩ := hInv.2.2.2.2.2.1
  exact ⟨u, nx, h1, h2, h3, h4, h5, ns, h1, h2, h6, h7⟩
-- years
theorem pr_years {N : Nat} (hN : 4000 ≤ N) : ∀ (x1 : Int32) (σ : Mm), Inv N σ → ∃ (r : Int32) (σ1 σ2 : Mm), f10_years N x1 σ = some (r, σ1) ∧ f11_years N x1 σ1 = some (r, σ2) ∧ Inv N σ2 := by
  intro x1 σ hI
  obtain ⟨o, v, d, mo, hB⟩ := bridgeI hI
  obtain ⟨hd, hk, hc, hm, hcM, hn, hsd, hInv⟩ := id hB
  obtain ⟨d1, d2, d3, d4, d5, d6, d7, d8⟩ := id hd
  by_cases hy : isN x1 61
  · obtain ⟨n, hn', rfl⟩ := id hy
    have inY : ∀ τ, f11_in N (nI n) 0 60 τ = some (1, τ) := fun τ => in_t (n := 61) (by decide) hy
    by_cases c0 : n = 0
    · subst c0
      refine pairS hI (r := yr mo) ?_ ?_
      · unfold f10_years
        rw [noYears_t hy, z_b_some, if_pos rfl, if_pos (show nI 0 ≤ 0 by decide), hm.1]
      · unfold f11_years
        rw [inY, z_b_some, if_neg (by decide), if_pos (show nI 0 = 0 from rfl), zc_t (b := inB 14 117) rfl, ixl.2.2.2.2.2.2.2.2.2.1, hn.2.2.1]
    · obtain ⟨u, nx, u1, u2, u3, u4, u5, hund⟩ := hB.undo
      refine pairW (Q1 := fun r σ1 => r = yr (passN d (gI σ o 5) mo n) ∧ CM σ1 56 d (passN d (gI σ o 5) mo n) ∧ EqOn D_C0 σ σ1 ∧ Kept σ σ1 u nx) (Q2 := fun _ σ1 r σ2 => r = yr (passN d (gI σ o 5) mo n) ∧ RowOf (gI σ2 198) d (passN d (gI σ o 5) mo n) ∧ Recd σ σ2 u) ?_ ?_ ?_
      · unfold f10_years
        refine gd0 (noYears_t hy) (Ok.f (nI_nle (by omega) (by omega)) (Ok.b (c_keep' u1 u2 u5 u3) ?_))
        rintro w τ ⟨hK, hlow, hE⟩
        have hcτ := hc.eq hE.C0
        refine Ok.r hcτ.l3 hcτ.o ?_
        rw [hc.sd hE.C0]
        refine Ok.b (c_passYears hN hd hcτ (hm.eq (Or.inl rfl) hE) (Or.inl rfl) hk _ (by omega)).run ?_
        rintro w2 υ ⟨⟨hM, hU⟩, er⟩
        exact Ok.ret ⟨hM.1, hM, hE.C0.tr hU, hK.eq u2 ((fr0_passYears N er).on rfl)⟩
      · rintro r1 σ1 er ⟨rfl, hM, hE, hK⟩
        have hS1 : MSt N σ1 v d mo (gI σ o 5) := hB.S.eq' ((fr10_years N er).on rfl)
        have hE1 : EqOn [(160, 1, some 63), (198, 1, none), (203, 1, none)] σ σ1 := (fr10_years N er).on rfl
        unfold f11_years
        refine gd1 (inY σ1) (Ok.f (nI_ne0 (by omega) (by omega)) (Ok.b (r_copies hN hd hS1).run ?_))
        rintro w τ ⟨⟨hM1, hE0, e57, e58, e59, hS2⟩, er2⟩
        refine Ok.b (r_goes hN hd hS2.1 hM1 hk e58 (n := n) (by omega)).run ?_
        rintro w2 υ ⟨⟨hM2, hU⟩, er3⟩
        rw [e57] at hM2
        refine Ok.b (r_records' hN u1 u4 ((hE1.tr ((fr11_copies N er2).on rfl)).tr ((fr11_goes N er3).on rfl))) ?_
        rintro w3 ρ ⟨hR, h198⟩
        have hrow : RowOf (gI ρ 198) d (passN d (gI σ o 5) mo n) := RowOf.congr hd hM2 h198
        rw [ixl.2.2.2.2.2.2.2.2.2.1]
        exact Ok.c rfl (Ok.ret ⟨hrow.2.2.1, hrow, hR⟩)
      · rintro r1 σ1 r2 σ2 er er2 ⟨rfl, hM, hE, hK⟩ ⟨rfl, hrow, hR⟩
        refine ⟨rfl, ?_⟩
        have hE2 : EqOn D_still σ σ2 := ((fr10_years N er).on rfl).tr ((fr11_years N er2).on rfl)
        have hM2 : CM σ2 56 d (passN d (gI σ o 5) mo n) := hM.eq (Or.inl rfl) ((fr11_years N er2).on rfl)
        have hg : ∀ c j, 1 ≤ c → c ≤ 5 → gI σ2 (50 + c) j = gI σ (50 + c) j := fun c j h1 h2 => by rw [((fr11_years N er2).on (D := [(50, 6, none)]) rfl).I (wIn_r 0 rfl (by omega) (by omega)), hE.I (wIn_r 6 rfl (by omega) (by omega))]
        refine inv_done hB hd (hk.passN n) rfl rfl rfl (Nat.le_refl _) hund hE2 hM2 (fun j hj => ?_) (fun c j h1 h2 _ => hg c j h1 h2) hrow (hK.eq u2 ((fr11_years N er2).on rfl)) hR
        have q := hc.2.2.2.2.2.2.2.2.2.1 j hj
        exact ⟨(hg 1 j (by decide) (by decide)).trans q.1, (hg 2 j (by decide) (by decide)).trans q.2.1, (hg 3 j (by decide) (by decide)).trans q.2.2.1, (hg 4 j (by decide) (by decide)).trans q.2.2.2.1, (hg 5 j (by decide) (by decide)).trans q.2.2.2.2⟩
  · refine pairS hI (r := -1) ?_ ?_
    · unfold f10_years
      rw [noYears_f hy, z_b_some, if_neg (by decide)]
    · unfold f11_years
      rw [show (60 : Int32) = nI 61 - 1 from rfl, in_f (by decide) hy, z_b_some, if_pos rfl]
-- unsay
def dU (d : Dt) (x : Int32) : Dt := (d.1, d.2.1, d.2.2.1, (d.2.2.2.1.1, d.2.2.2.1.2.1, x), d.2.2.2.2)
theorem pr_unsay {N : Nat} (hN : 4000 ≤ N) : ∀ (x1 x2 : Int32) (σ : Mm), Inv N σ → (x2 = 0 ∨ x2 = 1) → ∃ (r : Int32) (σ1 σ2 : Mm), f10_unsay N x1 x2 σ = some (r, σ1) ∧ f11_unsay N x1 x2 σ1 = some (r, σ2) ∧ Inv N σ2 := by
  intro x1 x2 σ hI hb
  obtain ⟨o, v, d, mo, hB⟩ := bridgeI hI
  obtain ⟨hd, hk, hc, hm, hcM, hn, hsd, hInv⟩ := id hB
  obtain ⟨d1, d2, d3, d4, d5, d6, d7, d8⟩ := id hd
  have hNw := hInv.2.2.2.2.1
  by_cases hp : isN x1 (dn d)
  · obtain ⟨g, hg, rfl⟩ := id hp
    have e16 : gI σ 198 16 = dun d := hn.2.2.2.2.1
    by_cases hu : b2 (gb (dun d) g) = x2
    · refine pairS hI (r := 0) ?_ ?_
      · unfold f10_unsay
        rw [noGiving_t hNw hp, z_b_some, if_pos rfl, z_l_eq, hm.2.2.1]
        cases e : gb (dun d) g
        · rw [if_pos ((gb_and0 (by omega)).mpr e), f10_unsay_31, if_pos (by rw [← hu, e]; rfl)]
        · rw [if_neg (fun c => by rw [gb_and0 (by omega), e] at c; exact Bool.noConfusion c), f10_unsay_31, if_pos (by rw [← hu, e]; rfl)]
      · unfold f11_unsay
        rw [isGiving_t hNw hp, z_b_some, if_neg (by decide), zc_t (b := inB 16 117) rfl, ixl.2.2.2.2.2.2.2.2.2.2.2, e16, gb_sr (by omega)]
        cases e : gb (dun d) g
        · rw [if_neg (by decide), f11_unsay_28, if_pos (by rw [← hu, e]; rfl)]
        · rw [if_pos (show b2 true = 1 from rfl), f11_unsay_28, if_pos (by rw [← hu, e]; rfl)]
    · obtain ⟨u, nx, u1, u2, u3, u4, u5, hund⟩ := hB.undo
      obtain ⟨X, hX⟩ : ∃ X, X = dun d ^^^ ((1 : Int32) <<< (nI g &&& 31)) := ⟨_, rfl⟩
      refine pairW (Q1 := fun r σ1 => r = 1 ∧ CM σ1 56 (dU d X) mo ∧ (∀ c j, 51 ≤ c → c ≤ 55 → gI σ1 c j = gI σ c j) ∧ Kept σ σ1 u nx) (Q2 := fun _ σ1 r σ2 => r = 1 ∧ RowOf (gI σ2 198) (dU d X) mo ∧ Recd σ σ2 u) ?_ ?_ ?_
      · have k31 : ∀ s0 : Int32, s0 ≠ x2 → Ok (f10_unsay_31 N x2 ((1 : Int32) <<< (nI g &&& 31)) s0 σ) (fun r σ1 => r = 1 ∧ CM σ1 56 (dU d X) mo ∧ (∀ c j, 51 ≤ c → c ≤ 55 → gI σ1 c j = gI σ c j) ∧ Kept σ σ1 u nx) := by
          intro s0 hs
          rw [f10_unsay_31]
          refine Ok.f hs (Ok.b (c_keep' u1 u2 u5 u3) ?_)
          rintro w τ ⟨hK, hlow, hE⟩
          obtain ⟨m0, m1, m2, m3, m4⟩ := hm.eq (Or.inl rfl) hE
          rw [z_l_eq, m2, ← hX]
          refine Ok.ret ⟨rfl, ⟨by rw [gI_k (by decide)]; exact m0, by rw [gI_k (by decide)]; exact m1, gI_e, by rw [gI_k (by decide)]; exact m3, fun w hw => by rw [gI_o (by decide)]; exact m4 w hw⟩, fun c j h1 h2 => by rw [gI_o (by omega)]; exact hlow c j (by omega), hK.eq u2 (EqOn_sIa EqOn.rf (by decide))⟩
        unfold f10_unsay
        refine gd0 (noGiving_t hNw hp) (Ok.l ?_)
        rw [hm.2.2.1]
        refine Ok.i (fun c => k31 0 ?_) (fun c => k31 1 ?_)
        · rw [gb_and0 (by omega)] at c
          rw [c] at hu
          exact hu
        · rw [gb_and0 (by omega)] at c
          rw [show gb (dun d) g = true by simpa using c] at hu
          exact hu
      · rintro r1 σ1 er ⟨rfl, hM, hgv, hK⟩
        have hS1 : MSt N σ1 v d mo (gI σ o 5) := hB.S.eq' ((fr10_unsay N er).on rfl)
        have hE1 : EqOn [(160, 1, some 63), (198, 1, none), (203, 1, none)] σ σ1 := (fr10_unsay N er).on rfl
        have k28 : ∀ s0 : Int32, s0 ≠ x2 → Ok (f11_unsay_28 N (nI g) x2 s0 σ1) (fun r σ2 => r = 1 ∧ RowOf (gI σ2 198) (dU d X) mo ∧ Recd σ σ2 u) := by
          intro s0 hs
          rw [f11_unsay_28]
          refine Ok.f hs (Ok.b (r_copies hN hd hS1).run ?_)
          rintro w τ ⟨⟨hM1, hE0, e57, e58, e59, hS2⟩, er2⟩
          obtain ⟨ra, rl, r14, r15, r16, rg⟩ := id hM1
          rw [ixl.2.2.2.2.2.2.2.2.2.2.2, r16, ← hX]
          refine Ok.c rfl (Ok.c rfl (Ok.l (Ok.b (r_records' hN u1 u4 ((hE1.tr ((fr11_copies N er2).on rfl)).tr (EqOn_sIa EqOn.rf (by decide)))) ?_)))
          rintro w3 ρ ⟨hR, h198⟩
          refine Ok.ret ⟨rfl, ?_, hR⟩
          have hnew : RowOf (gI (sI τ 199 16 X) 199) (dU d X) mo := ⟨fun w hw => by rw [gI_k (by have : w < dW d := hw; omega)]; exact ra w hw, fun w hw => by rw [gI_k (by have : w < dW d := hw; omega)]; exact rl w hw, by rw [gI_k (by decide)]; exact r14, by rw [gI_k (by decide)]; exact r15, gI_e, fun j hj => by
            rw [gI_k (by omega), gI_k (by omega), gI_k (by omega), gI_k (by omega), gI_k (by omega)]
            exact rg j hj⟩
          exact RowOf.congr (d := dU d X) hd hnew h198
        unfold f11_unsay
        have e16' : gI σ1 198 16 = dun d := by rw [hE1.I (wIn_r 1 rfl (by decide) (by decide))]; exact e16
        have hNw1 : f11_isGiving N (nI g) σ1 = some (1, σ1) := by
          unfold f11_isGiving
          rw [zc_t (b := inB 15 117) rfl, ixl.2.2.2.2.2.2.2.2.2.2.1, hE1.I (wIn_r 1 rfl (by decide) (by decide)), hn.2.2.2.1, in_t (by omega) hp, z_b_some, zc_t isZ_1]
        refine gd1 hNw1 (Ok.c rfl ?_)
        rw [ixl.2.2.2.2.2.2.2.2.2.2.2, e16', gb_sr (by omega)]
        refine Ok.i (fun c => k28 1 ?_) (fun c => k28 0 ?_)
        · rw [c] at hu
          exact hu
        · rw [b2_1] at c
          rw [show gb (dun d) g = false by simpa using c] at hu
          exact hu
      · rintro r1 σ1 r2 σ2 er er2 ⟨rfl, hM, hgv, hK⟩ ⟨rfl, hrow, hR⟩
        refine ⟨rfl, ?_⟩
        have hE2 : EqOn D_still σ σ2 := ((fr10_unsay N er).on rfl).tr ((fr11_unsay N er2).on rfl)
        have hM2 : CM σ2 56 (dU d X) mo := hM.eq (Or.inl rfl) ((fr11_unsay N er2).on rfl)
        have hgg : ∀ c j, 1 ≤ c → c ≤ 5 → gI σ2 (50 + c) j = gI σ (50 + c) j := fun c j h1 h2 => by rw [((fr11_unsay N er2).on (D := [(50, 6, none)]) rfl).I (wIn_r 0 rfl (by omega) (by omega)), hgv _ _ (by omega) (by omega)]
        refine inv_done (d2 := dU d X) (mo2 := mo) hB hd hk rfl rfl rfl (Nat.le_refl _) hund hE2 hM2 (fun j hj => ?_) (fun c j h1 h2 _ => hgg c j h1 h2) hrow (hK.eq u2 ((fr11_unsay N er2).on rfl)) hR
        have q := hc.2.2.2.2.2.2.2.2.2.1 j hj
        exact ⟨(hgg 1 j (by decide) (by decide)).trans q.1, (hgg 2 j (by decide) (by decide)).trans q.2.1, (hgg 3 j (by decide) (by decide)).trans q.2.2.1, (hgg 4 j (by decide) (by decide)).trans q.2.2.2.1, (hgg 5 j (by decide) (by decide)).trans q.2.2.2.2⟩
  · refine pairS hI (r := 0) ?_ ?_
    · unfold f10_unsay
      rw [noGiving_f hNw hp, z_b_some, if_neg (by decide)]
    · unfold f11_unsay
      rw [isGiving_f hNw hp, z_b_some, if_pos rfl]
