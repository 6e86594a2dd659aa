-- WRITING PAIRS: undo, hold, restore
theorem pr_undo {N : Nat} (hN : 4000 ≤ N) : ∀ (σ : Mm), Inv N σ → ∃ (r : Int32) (σ1 σ2 : Mm), f10_undo N σ = some (r, σ1) ∧ f11_undo N σ1 = some (r, σ2) ∧ Inv N σ2 := by
  intro σ hI
  obtain ⟨o, v, P, Q, W, n, hInv⟩ := id hI
  obtain ⟨h1, h2, h3, h4, h5, ⟨u, nx, ns, u1, u2, u3, u4, u5, u6, u7⟩, h7, h8, h9⟩ := id hInv
  have hW7 : W ≤ 7 := h3.2.2.2.2.1
  by_cases c0 : u = 0
  · subst c0
    refine pairS hI (r := 0) ?_ ?_
    · unfold f10_undo f6_takeBack
      rw [u3, if_pos (show nI 0 = 0 from rfl), z_b_some, zc_t isZ_0]
    · unfold f11_undo
      rw [u4, if_pos (show nI 0 = 0 from rfl)]
  · obtain ⟨q1, q2⟩ := u7 (u - 1) (by omega)
    have epos : (nx + 30 - u + (u - 1)) % 30 = (nx + 29) % 30 := by omega
    rw [epos] at q2
    refine pairW (Q1 := fun r σ1 => r = 1 ∧ gI σ1 70 1 = nI ((nx + 29) % 30) ∧ gI σ1 70 2 = nI (u - 1) ∧ (∀ k, k < 4 → gI σ1 56 k = gI σ (74 + 2 * ((nx + 29) % 30)) k) ∧ (∀ k, k < 7 → gI σ1 57 k = gI σ (74 + 2 * ((nx + 29) % 30) + 1) k) ∧ (∀ c k, c ≠ 70 → c ≠ 56 → c ≠ 57 → gI σ1 c k = gI σ c k)) (Q2 := fun _ σ1 r σ2 => r = 1 ∧ gI σ2 160 63 = nI (u - 1) ∧ (∀ k, k < 117 → gI σ2 198 k = gI σ1 203 (117 * (u - 1) + k))) ?_ ?_ ?_
    · unfold f10_undo
      have k28 : ∀ s : Nat, s = (nx + 29) % 30 → Ok (f6_takeBack_28 N 56 (nI s) σ) (fun r σ1 => r = 1 ∧ gI σ1 70 1 = nI ((nx + 29) % 30) ∧ gI σ1 70 2 = nI (u - 1) ∧ (∀ k, k < 4 → gI σ1 56 k = gI σ (74 + 2 * ((nx + 29) % 30)) k) ∧ (∀ k, k < 7 → gI σ1 57 k = gI σ (74 + 2 * ((nx + 29) % 30) + 1) k) ∧ (∀ c k, c ≠ 70 → c ≠ 56 → c ≠ 57 → gI σ1 c k = gI σ c k)) := by
        intro s hs
        have hs30 : s < 30 := by omega
        rw [f6_takeBack_28, z_l_eq, gI_e, ixn (by omega)]
        refine Ok.c (inBn hs30 (by decide)) (Ok.b (become_v (by omega) (by omega) (by omega)) ?_)
        rintro w τ ⟨b1, b2, b3, b4, b5⟩
        rw [z_l_eq, b4 70 2 (by decide) (by decide), gI_k (by decide), u3, show nI u - 1 = nI (u - 1) from pk_sub (b := 1) (by omega)]
        refine Ok.ret ⟨rfl, ?_, gI_e, fun k hk => ?_, fun k hk => ?_, fun c k c1 c2 c3 => ?_⟩
        · rw [gI_k (by decide), b4 70 1 (by decide) (by decide), gI_e, hs]
        · rw [gI_o (by decide), b1 k hk, gI_o (by omega), hs]
        · rw [gI_o (by decide), b2 k hk, gI_o (by omega), hs]
        · rw [gI_o c1, b4 c k c2 c3, gI_o c1]
      have hT : Ok (f6_takeBack N 56 σ) (fun r σ1 => r = 1 ∧ gI σ1 70 1 = nI ((nx + 29) % 30) ∧ gI σ1 70 2 = nI (u - 1) ∧ (∀ k, k < 4 → gI σ1 56 k = gI σ (74 + 2 * ((nx + 29) % 30)) k) ∧ (∀ k, k < 7 → gI σ1 57 k = gI σ (74 + 2 * ((nx + 29) % 30) + 1) k) ∧ (∀ c k, c ≠ 70 → c ≠ 56 → c ≠ 57 → gI σ1 c k = gI σ c k)) := by
        unfold f6_takeBack
        rw [u3, u5]
        refine Ok.f (nI_ne0 (by omega) (by omega)) (Ok.i (fun c => ?_) (fun c => ?_))
        · have c : nI nx ≤ nI 0 := c
          rw [nI_leI (by omega) (by decide)] at c
          exact k28 29 (by omega)
        · have c : ¬ nI nx ≤ nI 0 := c
          rw [nI_leI (by omega) (by decide)] at c
          rw [show nI nx - 1 = nI (nx - 1) from pk_sub (b := 1) (by omega)]
          exact k28 (nx - 1) (by omega)
      refine Ok.b hT ?_
      rintro r τ ⟨rfl, q⟩
      rw [zc_t isZ_1]
      exact Ok.ret ⟨rfl, q⟩
    · rintro r1 σ1 er ⟨rfl, e1, e2, e3, e4, e5⟩
      unfold f11_undo
      rw [e5 160 63 (by decide) (by decide) (by decide), u4, show nI u - 1 = nI (u - 1) from pk_sub (b := 1) (by omega)]
      refine Ok.f (nI_ne0 (by omega) (by omega)) (Ok.l ?_)
      refine Ok.lp (fun fu (_ : Unit) i τ => f11_undo_21 N fu i τ) 117 (fun i _ τ => (∀ k, k < i → gI τ 198 k = gI σ1 203 (117 * (u - 1) + k)) ∧ gI τ 160 63 = nI (u - 1) ∧ ∀ k, gI τ 203 k = gI σ1 203 k) (a := ()) ⟨fun k hk => absurd hk (Nat.not_lt_zero _), gI_e, fun k => gI_o (by decide)⟩ (by omega) ?_ ?_
      · rintro fu i a τ hi ⟨a1, a2, a3⟩ k
        show Ok (f11_undo_21 N (fu + 1) (nI i) τ) _
        rw [f11_undo_21, a2, m117, ixn (show 117 * (u - 1) + i < 2 ^ 31 by omega), ixn (show i < 2 ^ 31 by omega), a3]
        refine Ok.f (nI_ngt (n := 117) hi (by decide)) (Ok.c (inBn (by omega) (by decide)) (Ok.c (inBn hi (by decide)) (Ok.l (Ok.l ?_))))
        rw [nI_1]
        refine k () _ ⟨fun j hj => ?_, by rw [gI_o (by decide)]; exact a2, fun j => by rw [gI_o (by decide)]; exact a3 j⟩
        by_cases c : j = i
        · rw [c, gI_e]
        · rw [gI_k c]; exact a1 j (by omega)
      · rintro fu a τ ⟨a1, a2, a3⟩
        show Ok (f11_undo_21 N (fu + 1) (nI 117) τ) _
        rw [f11_undo_21]
        exact Ok.t nI_rf (Ok.ret ⟨rfl, a2, a1⟩)
    · rintro r1 σ1 r2 σ2 er er2 ⟨rfl, e1, e2, e3, e4, e5⟩ ⟨rfl, f1, f2⟩
      refine ⟨rfl, ?_⟩
      have hE2 : EqOn D_still σ σ2 := ((fr10_undo N er).on rfl).tr ((fr11_undo N er2).on rfl)
      have hS : EqOn [(50, 8, none), (70, 1, some 1), (70, 1, some 2), (74, 60, none), (203, 1, none)] σ1 σ2 := (fr11_undo N er2).on rfl
      have hg : ∀ c j, 1 ≤ c → c ≤ 5 → gI σ2 (50 + c) j = gI σ (50 + c) j := fun c j h1 h2 => by rw [hS.I (wIn_r 0 rfl (by omega) (by omega)), e5 _ _ (by omega) (by omega) (by omega)]
      refine inv_new hInv hE2 (n2 := ns (u - 1)) ?_ ⟨u - 1, (nx + 29) % 30, ns, by omega, Nat.mod_lt _ (by decide), by rw [hS.I (wIn_s 2 rfl)]; exact e2, f1, by rw [hS.I (wIn_s 1 rfl)]; exact e1, fun i j hij hj => u6 i j hij (by omega), fun j hj => ⟨u6 j (u - 1) (by omega) (by omega), ?_⟩⟩
      · refine q2.congr (m' := 56) (g' := 50) hW7 (fun k hk => ?_) (fun k hk => ?_) (fun c j h1 h2 _ => hg c j h1 h2) (fun k hk => ?_)
        · rw [hS.I (wIn_r 0 rfl (by decide) (by decide))]; exact e3 k hk
        · rw [hS.I (wIn_r 0 rfl (by decide) (by decide))]; exact e4 k hk
        · rw [f2 k hk, e5 _ _ (by decide) (by decide) (by decide)]
      · have hj7 := (u7 j (by omega)).2
        have ep : ((nx + 29) % 30 + 30 - (u - 1) + j) % 30 = (nx + 30 - u + j) % 30 := by omega
        rw [ep]
        refine hj7.congr hW7 (fun k hk => ?_) (fun k hk => ?_) (fun c j h1 h2 _ => hg c j h1 h2) (fun k hk => ?_)
        · rw [hS.I (wIn_r 3 rfl (by omega) (by omega)), e5 _ _ (by omega) (by omega) (by omega)]
        · rw [hS.I (wIn_r 3 rfl (by omega) (by omega)), e5 _ _ (by omega) (by omega) (by omega)]
        · rw [hS.I (wIn_r 4 rfl (by decide) (by decide)), e5 _ _ (by decide) (by decide) (by decide)]
/-- givings as a whole -/
theorem gbecome_v {N : Nat} {σ : Mm} {a b : Nat} (h : a + 5 < b + 1 ∨ b + 5 < a + 1) : Ok (f1_become N a b σ) (fun _ τ => (∀ c k, 1 ≤ c → c ≤ 5 → k < 20 → gI τ (a + c) k = gI σ (b + c) k) ∧ (∀ c k, c < a + 1 ∨ a + 5 < c → gI τ c k = gI σ c k)) := by
  have hgs : ∀ (τ : Mm) (x : Nat), τ.1 x = gI τ x := fun _ _ => rfl
  refine ⟨_, _, rfl, fun c k h1 h2 hk => ?_, fun c k hc => ?_⟩
  · rcases (show c = 1 ∨ c = 2 ∨ c = 3 ∨ c = 4 ∨ c = 5 by omega) with rfl | rfl | rfl | rfl | rfl
    · rw [gI_r, if_neg (by omega), gI_r, if_neg (by omega), gI_r, if_neg (by omega), gI_r, if_neg (by omega), gI_r, if_pos rfl, pk_cpy_in (Nat.zero_le _) (by omega), Nat.sub_zero, Nat.zero_add]
      rfl
    · rw [gI_r, if_neg (by omega), gI_r, if_neg (by omega), gI_r, if_neg (by omega), gI_r, if_pos rfl, pk_cpy_in (Nat.zero_le _) (by omega), Nat.sub_zero, Nat.zero_add, hgs, gI_r, if_neg (by omega)]
    · rw [gI_r, if_neg (by omega), gI_r, if_neg (by omega), gI_r, if_pos rfl, pk_cpy_in (Nat.zero_le _) (by omega), Nat.sub_zero, Nat.zero_add, hgs, gI_r, if_neg (by omega), gI_r, if_neg (by omega)]
    · rw [gI_r, if_neg (by omega), gI_r, if_pos rfl, pk_cpy_in (Nat.zero_le _) (by omega), Nat.sub_zero, Nat.zero_add, hgs, gI_r, if_neg (by omega), gI_r, if_neg (by omega), gI_r, if_neg (by omega)]
    · rw [gI_r, if_pos rfl, pk_cpy_in (Nat.zero_le _) (by omega), Nat.sub_zero, Nat.zero_add, hgs, gI_r, if_neg (by omega), gI_r, if_neg (by omega), gI_r, if_neg (by omega), gI_r, if_neg (by omega)]
  · rw [gI_r, if_neg (by omega), gI_r, if_neg (by omega), gI_r, if_neg (by omega), gI_r, if_neg (by omega), gI_r, if_neg (by omega)]
theorem in3_f {x : Int32} (h : ¬ isN x 3) : x < 0 ∨ ¬ x < 3 := by
  rcases isN_not (by decide) h with a | a
  · exact Or.inl a
  · exact Or.inr (Int32.not_lt.mpr a)
theorem BitsOr {s z : Nat} (hs : s < 2 ^ 31) (hz : z < 3) : nI s ||| ((1 : Int32) <<< (nI z &&& 31)) = nI (s ||| 2 ^ z) := by
  have := p31 (i := z) (by omega)
  rw [b1 (by omega), orN (by omega) (by omega)]
theorem pr_hold {N : Nat} (hN : 4000 ≤ N) : ∀ (x1 : Int32) (σ : Mm), Inv N σ → ∃ (r : Int32) (σ1 σ2 : Mm), f10_hold N x1 σ = some (r, σ1) ∧ f11_hold N x1 σ1 = some (r, σ2) ∧ Inv N σ2 := by
  intro x1 σ hI
  obtain ⟨o, v, P, Q, W, n, hInv⟩ := id hI
  obtain ⟨h1, h2, h3, h4, h5, h6, ⟨s, s1, s2, s3⟩, h8, h9⟩ := id hInv
  have hW7 : W ≤ 7 := h3.2.2.2.2.1
  have hn20 : n ≤ 20 := h5.1
  by_cases hp : isN x1 3
  · obtain ⟨z, hz, rfl⟩ := id hp
    refine pairW (Q1 := fun r σ1 => r = 1 ∧ gI σ1 70 5 = nI (s ||| 2 ^ z) ∧ (∀ k, k < 4 → gI σ1 (134 + 8 * z) k = gI σ 56 k) ∧ (∀ k, k < 7 → gI σ1 (134 + 8 * z + 1) k = gI σ 57 k) ∧ (∀ c k, 1 ≤ c → c ≤ 5 → k < 20 → gI σ1 (136 + 8 * z + c) k = gI σ (50 + c) k) ∧ (∀ c k, c ≠ 70 → (c < 134 + 8 * z ∨ 142 + 8 * z ≤ c) → gI σ1 c k = gI σ c k)) (Q2 := fun _ σ1 r σ2 => r = 1 ∧ gI σ2 210 z = 1 ∧ (∀ j, j ≠ z → gI σ2 210 j = gI σ1 210 j) ∧ (∀ k, k < 117 → gI σ2 211 (117 * z + k) = gI σ1 198 k) ∧ (∀ j k, k < 117 → j ≠ z → gI σ2 211 (117 * j + k) = gI σ1 211 (117 * j + k))) ?_ ?_ ?_
    · unfold f10_hold
      refine Ok.f (nI_pos (by omega)) (Ok.t (nI_lt (b := 3) hz (by decide)) ?_)
      unfold f6_holdIn
      rw [ixn (by omega)]
      have hH : Ok (z_c (inB (nI z) 3) (z_b (f5_become N (134 + 8 * z) 56 σ) fun _ σ_3 => z_c (inB (nI z) 3) (z_b (f1_become N (136 + 8 * z) 50 σ_3) fun _ σ_7 => z_l (sI σ_7 70 5 ((gI σ_7 70 5) ||| ((1 : Int32) <<< (nI z &&& 31)))) fun σ_9 => some ((), σ_9)))) (fun _ σ1 => gI σ1 70 5 = nI (s ||| 2 ^ z) ∧ (∀ k, k < 4 → gI σ1 (134 + 8 * z) k = gI σ 56 k) ∧ (∀ k, k < 7 → gI σ1 (134 + 8 * z + 1) k = gI σ 57 k) ∧ (∀ c k, 1 ≤ c → c ≤ 5 → k < 20 → gI σ1 (136 + 8 * z + c) k = gI σ (50 + c) k) ∧ (∀ c k, c ≠ 70 → (c < 134 + 8 * z ∨ 142 + 8 * z ≤ c) → gI σ1 c k = gI σ c k)) := by
        refine Ok.c (inBn hz (by decide)) (Ok.b (become_v (by omega) (by omega) (by omega)) ?_)
        rintro w τ ⟨b1, b2, b3, b4, b5⟩
        refine Ok.c (inBn hz (by decide)) (Ok.b (gbecome_v (by omega)) ?_)
        rintro w2 υ ⟨g1, g2⟩
        rw [z_l_eq, g2 70 5 (by omega), b4 70 5 (by omega) (by omega), s2, BitsOr (by omega) hz]
        refine Ok.ret ⟨gI_e, fun k hk => ?_, fun k hk => ?_, fun c k h1 h2 hk => ?_, fun c k h1 h2 => ?_⟩
        · rw [gI_o (by omega), g2 _ _ (by omega)]; exact b1 k hk
        · rw [gI_o (by omega), g2 _ _ (by omega)]; exact b2 k hk
        · rw [gI_o (by omega), g1 c k h1 h2 hk]; exact b4 _ _ (by omega) (by omega)
        · rw [gI_o h1, g2 _ _ (by omega)]; exact b4 _ _ (by omega) (by omega)
      refine Ok.b hH ?_
      rintro w τ q
      exact Ok.ret ⟨rfl, q⟩
    · rintro r1 σ1 er ⟨rfl, e1, e2, e3, e4, e5⟩
      unfold f11_hold
      have hin : f11_in N (nI z) 0 2 σ1 = some (1, σ1) := in_t (n := 3) (by decide) hp
      refine gd1 hin (Ok.c (inBn hz (by decide)) (Ok.l ?_))
      rw [ixn (by omega), show vp_nar .boolean (1 : Int32) = 1 from rfl]
      refine Ok.lp (fun fu (_ : Unit) i τ => f11_hold_20 N (nI z) fu i τ) 117 (fun i _ τ => (∀ k, k < i → gI τ 211 (117 * z + k) = gI σ1 198 k) ∧ (∀ j k, k < 117 → j ≠ z → gI τ 211 (117 * j + k) = gI σ1 211 (117 * j + k)) ∧ gI τ 210 z = 1 ∧ (∀ j, j ≠ z → gI τ 210 j = gI σ1 210 j) ∧ ∀ k, gI τ 198 k = gI σ1 198 k) (a := ()) ⟨fun k hk => absurd hk (Nat.not_lt_zero _), fun j k _ _ => gI_o (by decide), gI_e, fun j hj => gI_k hj, fun k => gI_o (by decide)⟩ (by omega) ?_ ?_
      · rintro fu i a τ hi ⟨a1, a2, a3, a4, a5⟩ k
        show Ok (f11_hold_20 N (nI z) (fu + 1) (nI i) τ) _
        rw [f11_hold_20, m117, ixn (show 117 * z + i < 2 ^ 31 by omega), ixn (show i < 2 ^ 31 by omega), a5]
        refine Ok.f (nI_ngt (n := 117) hi (by decide)) (Ok.c (inBn hi (by decide)) (Ok.c (inBn (by omega) (by decide)) (Ok.l (Ok.l ?_))))
        rw [nI_1]
        refine k () _ ⟨fun j hj => ?_, fun j l hl hj => ?_, by rw [gI_o (by decide)]; exact a3, fun j hj => by rw [gI_o (by decide)]; exact a4 j hj, fun j => by rw [gI_o (by decide)]; exact a5 j⟩
        · by_cases c : j = i
          · rw [c, gI_e]
          · rw [gI_k (by omega)]; exact a1 j (by omega)
        · rw [gI_k (by omega)]; exact a2 j l hl hj
      · rintro fu a τ ⟨a1, a2, a3, a4, a5⟩
        show Ok (f11_hold_20 N (nI z) (fu + 1) (nI 117) τ) _
        rw [f11_hold_20]
        exact Ok.t nI_rf (Ok.ret ⟨rfl, a3, a4, a1, a2⟩)
    · rintro r1 σ1 r2 σ2 er er2 ⟨rfl, e1, e2, e3, e4, e5⟩ ⟨rfl, f1, f2, f3, f4⟩
      refine ⟨rfl, ?_⟩
      have hE2 : EqOn (D_tape ++ (D_place ++ (D_land ++ (D_lawC ++ (D_lawM ++ (D_now ++ (D_undo ++ (D_told ++ D_vars)))))))) σ σ2 := ((fr10_hold N er).on rfl).tr ((fr11_hold N er2).on rfl)
      have hS : EqOn [(70, 1, some 5), (134, 24, none)] σ1 σ2 := (fr11_hold N er2).on rfl
      refine ⟨o, v, P, Q, W, n, h1.eq (hE2.sub (by decide)), h2.eq (hE2.sub (by decide)), h3.eq (hE2.sub (by decide)), h4.eq (hE2.sub (by decide)) (hE2.sub (by decide)), h5.eq (hE2.sub (by decide)), h6.eq (hE2.sub (by decide)), ⟨s ||| 2 ^ z, ?_, by rw [hS.I (wIn_s 0 rfl)]; exact e1, fun i hi => ?_⟩, h8.eq (hE2.sub (by decide)), h9.eq (hE2.sub (by decide))⟩
      · exact Nat.or_lt_two_pow (n := 3) s1 (Nat.pow_lt_pow_right (by decide) hz)
      · have eb : (s ||| 2 ^ z).testBit i = (s.testBit i || decide (z = i)) := by rw [Nat.testBit_or, Nat.testBit_two_pow]
        rw [eb]
        by_cases c : i = z
        · subst c
          refine ⟨by rw [f1]; simp, fun _ => ⟨n, ?_⟩⟩
          refine SnapAt.congr hW7 h5 (fun k hk => ?_) (fun k hk => ?_) (fun c j q1 q2 q3 => ?_) (fun k hk => ?_)
          · rw [hS.I (wIn_r 1 rfl (by omega) (by omega))]; exact e2 k hk
          · rw [hS.I (wIn_r 1 rfl (by omega) (by omega))]; exact e3 k hk
          · rw [hS.I (wIn_r 1 rfl (by omega) (by omega))]; exact e4 c j q1 q2 (by omega)
          · rw [f3 k hk]; exact e5 _ _ (by decide) (by omega)
        · have c' : z ≠ i := fun e => c e.symm
          rw [decide_eq_false c', Bool.or_false]
          obtain ⟨q1, q2⟩ := s3 i hi
          refine ⟨by rw [f2 i c, e5 _ _ (by decide) (by omega)]; exact q1, fun hb => ?_⟩
          obtain ⟨n', hn'⟩ := q2 hb
          refine ⟨n', SnapAt.congr hW7 hn' (fun k hk => ?_) (fun k hk => ?_) (fun c j q1 q2 q3 => ?_) (fun k hk => ?_)⟩
          · rw [hS.I (wIn_r 1 rfl (by omega) (by omega)), e5 _ _ (by omega) (by omega)]
          · rw [hS.I (wIn_r 1 rfl (by omega) (by omega)), e5 _ _ (by omega) (by omega)]
          · rw [hS.I (wIn_r 1 rfl (by omega) (by omega)), e5 _ _ (by omega) (by omega)]
          · rw [f4 i k hk c, e5 _ _ (by decide) (by omega)]
  · have hin : f11_in N x1 0 2 σ = some (0, σ) := in_f (n := 3) (by decide) hp
    refine pairS hI (r := 0) ?_ ?_
    · unfold f10_hold
      rcases in3_f hp with c | c
      · rw [if_pos c]
      · by_cases c2 : x1 < 0
        · rw [if_pos c2]
        · rw [if_neg c2, if_neg c]
    · unfold f11_hold
      rw [hin, z_b_some, if_pos rfl]
