-- READ: the pair
theorem sh_one {i : Nat} (h : i < 32) : ((1 : Int32) <<< (nI i &&& 31)) = nI (2 ^ i) := b1 h
def covB (a b : Nat × Nat × Option Nat) : Bool := decide (b.1 ≤ a.1) && decide (a.1 + a.2.1 ≤ b.1 + b.2.1) && (b.2.2 == none || b.2.2 == a.2.2)
theorem EqOn.cov {D E : Wr} {σ τ : Mm} (h : EqOn E σ τ) (hc : D.all (fun a => E.any (covB a)) = true) : EqOn D σ τ := fun id k ⟨a, ha, hb, hk⟩ => by
  obtain ⟨b, hb1, hb2⟩ := List.any_eq_true.mp (List.all_eq_true.mp hc a ha)
  unfold covB at hb2
  simp only [Bool.and_eq_true, Bool.or_eq_true, decide_eq_true_eq, beq_iff_eq] at hb2
  obtain ⟨⟨c1, c2⟩, c3⟩ := hb2
  refine h id k ⟨b, hb1, ⟨by omega, by omega⟩, ?_⟩
  rcases c3 with c3 | c3
  · exact Or.inl c3
  · rw [c3]; exact hk
def D_kE : Wr := [(50, 8, none), (70, 1, some 1), (70, 1, some 2), (70, 1, some 5), (74, 84, none), (0, 1, some 14), (0, 1, some 15), (158, 1, none), (0, 1, some 3), (0, 1, some 4), (60, 1, some 1), (6, 1, none), (1, 1, none)] ++ D_vars ++ [(160, 1, some 18), (160, 1, some 63), (160, 1, some 69), (167, 1, none), (198, 1, none), (203, 1, none), (208, 4, none)]
theorem pr_readX {N : Nat} (hN : 4000 ≤ N) : ∀ (σ : Mm), IX N σ → ∃ (r : Int32) (σ1 σ2 : Mm), f10_read N σ = some (r, σ1) ∧ f11_read N σ1 = some (r, σ2) ∧ IX N σ2 := by
  rintro σ ⟨hI, hV, hb, o, v, lw, ⟨x03, x18, hv, ho⟩, hLC, hLM, hwf⟩
  obtain ⟨o_, v_, P, Q, W, n', ⟨n, t1, t2, t3, t4⟩, hplace, hland, -, hnow, hundo, hslot, htold, hvars⟩ := hI
  obtain ⟨l1, l2, l3, l4, l5, l6, l7, l8, l9, l10, l11, l12, l13, l14, l15, l16, l17, l18, l19⟩ := id hland
  have eo : o = o_ := by rw [l6] at x03; cases x03; rfl
  subst eo
  have ev : v = v_ := (nI_eq (by omega) (by omega)).mp (x18.symm.trans l9)
  subst ev
  -- the bytes
  have hb' : ∀ j, ∃ b, b < 256 ∧ (j < 2000 → gI σ 1 j = sgn b) := fun j => by
    by_cases c : j < 2000
    · obtain ⟨b, h1, h2⟩ := hb j c
      exact ⟨b, h1, fun _ => h2⟩
    · exact ⟨0, by decide, fun h => absurd h c⟩
  let B : Nat → Nat := fun j => Classical.choose (hb' j)
  have hB1 : ∀ j, B j < 256 ∧ (j < 2000 → gI σ 1 j = sgn (B j)) := fun j => Classical.choose_spec (hb' j)
  have hB : TB B n := ⟨t1, fun j _ => (hB1 j).1⟩
  have hTC : TC σ B n := fun j hj => (hB1 j).2 (Nat.lt_of_lt_of_le hj t1)
  have ho' : 34 - o = 7 ∨ 34 - o = 27 := by omega
  have e34 : 34 - (34 - o) = o := by omega
  have hs : 1 - v < 2 := by omega
  -- the class
  obtain ⟨r1, σ1, er1, τ1, ⟨c1, c2, c3⟩, c4⟩ := c_read hN (o := 34 - o) ho' hB hTC hV t2 l7 (fun τ h04 h03 => by
    obtain ⟨u, υ, e, -⟩ := c_begin (N := N) ho' h04 h03
    exact ⟨υ, e⟩) (by rw [e34]; exact x03)
  rw [e34] at c2
  -- cells of the reference, the tape, words: as they were
  have k160 : ∀ c k, 160 ≤ c → c < 212 → gI τ1 c k = gI σ c k ∧ gL τ1 c k = gL σ c k := fun c k a b => ⟨c1.I (wIn_r 13 rfl a (by omega)), (c1 c k (wIn_r 13 rfl a (by omega))).2.1⟩
  have base : ∀ υ : Mm, EqOn [(1, 1, none), (6, 1, none), (160, 52, none)] τ1 υ → Ok (f11_read N υ) (fun r τ => rdM2 υ B n (1 - v) r τ) := fun υ hE => by
    have kk : ∀ c k, 160 ≤ c → c < 212 → gI υ c k = gI σ c k := fun c k a b => (hE.I (wIn_r 2 rfl a (by omega))).trans (k160 c k a b).1
    refine r_read hN hv hB (fun j hj => ?_) (fun k hk => ⟨?_, ?_⟩) ?_ ?_
    · rw [kk _ _ (by decide) (by decide), ← t4 j hj]; exact (hB1 j).2 (Nat.lt_of_lt_of_le hj t1)
    · exact ((hE 6 k (wIn_r 1 rfl (by decide) (by decide))).2.1).trans (((c1 6 k (wIn_r 11 rfl (by decide) (by decide))).2.1).trans (hV k hk).1)
    · exact ((hE 167 k (wIn_r 2 rfl (by decide) (by decide))).2.1).trans (((k160 167 k (by decide) (by decide)).2).trans (hV k hk).2)
    · rw [kk _ _ (by decide) (by decide)]; exact t3
    · rw [kk _ _ (by decide) (by decide)]; exact x18
  -- a reading with a fault
  have fault : ∀ (e : Nat × Nat) (τ2 : Mm), FC τ1 B n e → EqOn D_kM τ1 τ2 → KS τ1 (1 - v) τ2 → gI τ2 160 2 = 0 → IX N (sI τ2 160 17 (nI (bg B n e.2))) := by
    intro e τ2 hF m1 m2 m3
    generalize hρ : sI τ2 160 17 (nI (bg B n e.2)) = ρ
    have a1 : ∀ c k, c < 160 → gI ρ c k = gI τ1 c k ∧ gL ρ c k = gL τ1 c k ∧ gR ρ c k = gR τ1 c k := fun c k hc => by
      have := m1 c k (wIn_r 0 rfl (Nat.zero_le _) (by omega))
      rw [← hρ]
      exact ⟨by rw [gI_o (by omega)]; exact this.1, this.2.1, this.2.2⟩
    have a2 : EqOn (D_kM.drop 1) τ1 ρ := by
      rw [← hρ]
      exact (m1.sub (by decide)).tr (EqOn_sI EqOn.rf (by decide))
    have aS : ∀ c k, oS v c k → gI ρ c k = gI σ c k := fun c k hoS => by
      have hc : 170 ≤ c ∧ c < 195 := by unfold oS at hoS; omega
      rw [← hρ, gI_o (by omega), m2 v hv (by omega) c k hoS]
      exact (k160 c k (by omega) (by omega)).1
    have aL : ∀ c k, o ≤ c → c < o + 20 → gI ρ c k = gI σ c k := fun c k h1 h2 => (a1 c k (by omega)).1.trans (c2.I (wIn_r 0 rfl h1 h2))
    have aR : ∀ c k, c < 160 → wIn D_kC c k → gR ρ c k = gR σ c k := fun c k hc hw => ((a1 c k hc).2.2).trans (c1.R hw)
    have aI : ∀ c k, c < 160 → wIn D_kC c k → gI ρ c k = gI σ c k := fun c k hc hw => ((a1 c k hc).1).trans (c1.I hw)
    have aM : ∀ c k, 160 ≤ c → c < 212 → wIn (D_kM.drop 1) c k → gI ρ c k = gI σ c k := fun c k h1 h2 hw => (a2.I hw).trans (k160 c k h1 h2).1
    have r18 : gI ρ 160 18 = nI v := by rw [aM _ _ (by decide) (by decide) (wIn_s 0 rfl)]; exact x18
    have hLC' : LwC ρ (o + 12) lw := hLC.eq fun c k h1 h2 => aL c k (by omega) (by omega)
    have hLM' : LwM ρ v lw := hLM.eq fun c k _ _ hoS => aS c k hoS
    have hland' : V_land ρ o v P Q W := by
      refine ⟨l1, l2, l3, l4, l5, by rw [aR _ _ (by decide) (wIn_s 8 rfl)]; exact l6, by rw [aR _ _ (by decide) (wIn_s 9 rfl)]; exact l7, by rw [aR _ _ (by decide) (wIn_s 10 rfl)]; exact l8, r18, by rw [aL _ _ (by omega) (by omega)]; exact l10, by rw [aS _ _ (by unfold oS; omega)]; exact l11, by rw [aL _ _ (by omega) (by omega)]; exact l12, by rw [aS _ _ (by unfold oS; omega)]; exact l13, by rw [aL _ _ (by omega) (by omega)]; exact l14, by rw [aS _ _ (by unfold oS; omega)]; exact l15, ?_, by rw [aL _ _ (by omega) (by omega), aS _ _ (by unfold oS; omega)]; exact l17, fun p hp => ?_, fun w hw => ?_⟩
      · obtain ⟨m, i1, i2, i3, i4⟩ := l16
        exact ⟨m, i1, i2, by rw [aL _ _ (by omega) (by omega)]; exact i3, by rw [aS _ _ (by unfold oS; omega)]; exact i4⟩
      · obtain ⟨⟨x, i1, i2, i3⟩, ⟨y, j1, j2, j3⟩, ⟨z, k1, k2, k3⟩⟩ := l18 p hp
        exact ⟨⟨x, i1, by rw [aL _ _ (by omega) (by omega)]; exact i2, by rw [aS _ _ (by unfold oS; omega)]; exact i3⟩, ⟨y, j1, by rw [aL _ _ (by omega) (by omega)]; exact j2, by rw [aS _ _ (by unfold oS; omega)]; exact j3⟩, ⟨z, k1, by rw [aL _ _ (by omega) (by omega)]; exact k2, by rw [aS _ _ (by unfold oS; omega)]; exact k3⟩⟩
      · rw [aL _ _ (by omega) (by omega), aS _ _ (by unfold oS; omega)]; exact l19 w hw
    have hE : EqOn D_kE σ ρ := by
      rw [← hρ]
      exact ((c1.cov (by decide)).tr (m1.cov (by decide))).tr (EqOn_sI EqOn.rf (by decide))
    refine ⟨⟨o, v, P, Q, W, n', ⟨0, by decide, by rw [(a1 0 1 (by decide)).1]; exact c3, by rw [← hρ, gI_k (by decide)]; exact m3, fun j hj => absurd hj (Nat.not_lt_zero _)⟩, ?_, hland', V_law_of hN ho hv r18 hLC' hLM' hwf, hnow.eq (hE.cov (by decide)), hundo.eq (hE.cov (by decide)), hslot.eq (hE.cov (by decide)), htold.eq (hE.cov (by decide)), hvars.eq (hE.cov (by decide))⟩, fun k hk => ⟨?_, ?_⟩, fun j hj => ?_, o, v, lw, ⟨by rw [aR _ _ (by decide) (wIn_s 8 rfl)]; exact x03, r18, hv, ho⟩, hLC', hLM', hwf⟩
    · show gI ρ 2 5 = gI ρ 160 17
      rw [(a1 2 5 (by decide)).1, hF.2, ← hρ, gI_e]
    · exact ((hE.cov (D := [(6, 1, none)]) (by decide)) 6 k (wIn_r 0 rfl (by decide) (by decide))).2.1.trans (hV k hk).1
    · exact ((hE.cov (D := [(167, 1, none)]) (by decide)) 167 k (wIn_r 0 rfl (by decide) (by decide))).2.1.trans (hV k hk).2
    · obtain ⟨b, h1, h2⟩ := hb j hj
      exact ⟨b, h1, by rw [(hE.cov (D := [(1, 1, none)]) (by decide)).I (wIn_r 0 rfl (by decide) (by decide))]; exact h2⟩
  cases hg : gAll (kK B n) (vV B n) 401 0 cn0 lw0 with
  | inl e =>
    rw [hg] at c4
    obtain ⟨rfl, rfl, c5⟩ := c4
    obtain ⟨r2, σ2, er2, τ2, ⟨m1, m2, m3⟩, m4⟩ := base σ1 EqOn.rf
    rw [hg] at m4
    obtain ⟨rfl, rfl⟩ := m4
    exact ⟨_, σ1, _, er1, er2, fault e τ2 c5 m1 m2 m3⟩
  | inr res =>
    rw [hg] at c4
    dsimp only at c4
    cases hsA : sAll (kK B n) (vV B n) (wW B n) 401 0 cn0 ld0 with
    | inl e =>
      rw [hsA] at c4
      obtain ⟨rfl, rfl, c5⟩ := c4
      obtain ⟨r2, σ2, er2, τ2, ⟨m1, m2, m3⟩, m4⟩ := base σ1 EqOn.rf
      rw [hg] at m4
      dsimp only at m4
      rw [hsA] at m4
      obtain ⟨rfl, rfl⟩ := m4
      exact ⟨_, σ1, _, er1, er2, fault e τ2 c5 m1 m2 m3⟩
    | inr d =>
      rw [hsA] at c4
      obtain ⟨rfl, ebeg, ⟨f4, f5⟩, hLC2, ⟨hok, hmt, hcb⟩, hlwC⟩ := c4
      have hS := fr10_beginWithSpareLand N ebeg
      obtain ⟨u0, υ0, e0, hbg⟩ := c_begin (N := N) ho' (by rw [c1.R (wIn_s 9 rfl)]; exact l7) (by rw [c1.R (wIn_s 8 rfl), e34]; exact x03)
      have hυ : υ0 = σ1 := by rw [e0] at ebeg; cases ebeg; rfl
      subst hυ
      obtain ⟨r2, σ2, er2, τ2, ⟨m1, m2, m3⟩, m4⟩ := base υ0 (hS.on (by decide))
      rw [hg] at m4
      dsimp only at m4
      rw [hsA] at m4
      obtain ⟨rfl, ⟨g1, g2, g3, g4, g5, ⟨ρ, g6, g7⟩, g8⟩, t', σ', ⟨hRT, -, hRC, -, hRd⟩, lM, bM, hEC, hlM, h41, hbM, hRLT⟩ := m4
      obtain ⟨hLM2, -, -⟩ := hRd d rfl
      refine ⟨0, υ0, σ2, er1, er2, ?_⟩
      -- what stays
      have s1 : EqOn [(2, 1, none), (7, 20, none), (27, 20, none), (0, 1, some 1)] τ1 υ0 := hS.on (by decide)
      have s2 : EqOn [(0, 160, none)] υ0 σ2 := (m1.cov (by decide)).tr (g8.cov (by decide))
      have s3 : ∀ c k, c < 160 → gI σ2 c k = gI υ0 c k := fun c k hc => s2.I (wIn_r 0 rfl (Nat.zero_le _) (by omega))
      have sL : ∀ c k, 34 - o ≤ c → c < 34 - o + 20 → gI σ2 c k = gI τ1 c k := fun c k h1 h2 => by
        rw [s3 c k (by omega)]
        rcases ho with rfl | rfl
        · exact s1.I (wIn_r 2 rfl (by omega) (by omega))
        · exact s1.I (wIn_r 1 rfl (by omega) (by omega))
      have sM : ∀ c k, 170 ≤ c → c < 195 → gI σ2 c k = gI τ2 c k := fun c k h1 h2 => g8.I (wIn_r 3 rfl h1 (by omega))
      obtain ⟨-, ⟨p0, p4, p5⟩, ⟨p1, pA⟩, ⟨p2, wA⟩, ⟨p3, gA⟩⟩ := hLC2
      obtain ⟨⟨q184, q185⟩, pB, wB, gB, -⟩ := hLM2
      obtain ⟨-, ⟨⟨n1, n2⟩, -⟩, okp, okw, okg⟩ := hok
      obtain ⟨m1', m2', m3', m4', -⟩ := hmt
      obtain ⟨b1, b2, b3, b4⟩ := hcb
      obtain ⟨-, -, ⟨k170, k171, k175, k178⟩, -⟩ := hRC
      obtain ⟨⟨z04, z03, z60⟩, zg, ⟨z0, z1, z2, z3, z4⟩, y2, y5, y15⟩ := hbg
      have R : ∀ c k, c < 160 → gR σ2 c k = gR υ0 c k := fun c k hc => s2.R (wIn_r 0 rfl (Nat.zero_le _) (by omega))
      have hland' : V_land σ2 (34 - o) (1 - v) d.2.1.1 d.2.2.1.length d.2.2.2.1.length := by
        refine ⟨ho', hs, by omega, by omega, by omega, by rw [R _ _ (by decide)]; exact z03, by rw [R _ _ (by decide)]; exact z04, by rw [R _ _ (by decide)]; exact z60, g2, by rw [sL _ _ (by omega) (by omega)]; exact p0, by rw [sM _ _ (by decide) (by decide), k170, m1'], by rw [sL _ _ (by omega) (by omega)]; exact p1, by rw [sM _ _ (by decide) (by decide), k171, m2'], by rw [sL _ _ (by omega) (by omega)]; exact p2, by rw [sM _ _ (by decide) (by decide), k175, m3'], ⟨d.2.1.2.1, n1, n2, by rw [sL _ _ (by omega) (by omega)]; exact p4, by rw [sM _ _ (by decide) (by decide)]; exact q184⟩, by rw [sL _ _ (by omega) (by omega), sM _ _ (by decide) (by decide), p5, q185], fun p hp => ?_, fun w hw => ?_⟩
        · obtain ⟨a, ha, ⟨i1, i2, i3⟩, ⟨j1, j2, j3⟩⟩ := At_get (At_and pA pB) p hp
          obtain ⟨a1, a2, a3⟩ := okp a ha
          exact ⟨⟨a.1, a1, by rw [sL _ _ (by omega) (by omega)]; exact i1, by rw [sM _ _ (by decide) (by decide)]; exact j1⟩, ⟨a.2.1, a2, by rw [sL _ _ (by omega) (by omega)]; exact i2, by rw [sM _ _ (by decide) (by decide)]; exact j2⟩, ⟨a.2.2, a3, by rw [sL _ _ (by omega) (by omega)]; exact i3, by rw [sM _ _ (by decide) (by decide)]; exact j3⟩⟩
        · obtain ⟨a, ha, ⟨i1, i2⟩, ⟨j1, j2⟩⟩ := At_get (At_and wA wB) w hw
          rw [sL _ _ (by omega) (by omega), sM _ _ (by decide) (by decide), i2, j2]
      obtain ⟨w6, ⟨w14, w15, w16⟩, wg⟩ := g6
      rw [← m3'] at w6
      rw [← m4'] at w15 wg
      have hnow' : V_now σ2 d.2.1.1 d.2.2.1.length d.2.2.2.1.length d.2.2.2.2.length := by
        have h2W : (2 : Nat) ^ d.2.2.2.1.length ≤ 2 ^ 7 := Nat.pow_le_pow_right (by decide) (by omega)
        have h1W : 1 ≤ (2 : Nat) ^ d.2.2.2.1.length := Nat.one_le_two_pow
        refine ⟨by omega, ?_, by rw [g7 _ (by decide)]; exact w15, ?_, ?_, ⟨2 ^ d.2.2.2.1.length - 1, by omega, ?_, fun w hw => ?_⟩, fun w hw => ?_, fun g hg => ?_⟩
        · rw [s3 _ _ (by decide), z3]; exact p3
        · rw [g7 _ (by decide), w14, s3 _ _ (by decide), z0]
        · rw [g7 _ (by decide), w16, s3 _ _ (by decide), z2]
        · rw [s3 _ _ (by decide), z1, p2, sh_one (by omega)]
          exact pk_sub (b := 1) h1W
        · rw [g7 _ (by omega), (w6 w hw).2, Nat.testBit_two_pow_sub_one, decide_eq_true hw]
          rfl
        · obtain ⟨a, ha, ⟨i1, i2⟩, ⟨j1, j2⟩⟩ := At_get (At_and wA wB) w hw
          have := (okw a ha).1
          exact ⟨a.1, by omega, by show gI σ2 57 w = _; rw [s3 _ _ (by decide), z4 w (by omega)]; exact i1, by rw [g7 _ (by omega), (w6 w hw).1]; exact j1⟩
        · obtain ⟨a, ha, ⟨i1, i2, i3, i4, i5⟩, ⟨j1, j2, j3, j4, j5⟩⟩ := At_get (At_and gA gB) g hg
          obtain ⟨x1, x2, x3, x4, x5⟩ := okg a ha
          obtain ⟨v1, v2, v3, v4, v5⟩ := wg g hg
          have zz : ∀ c, 1 ≤ c → c ≤ 5 → gI σ2 (50 + c) g = gI τ1 (34 - o + 6 + c) g := fun c h1 h2 => by rw [s3 _ _ (by omega)]; exact zg c g h1 h2 (by omega)
          exact ⟨⟨a.1, x1, (zz 1 (by decide) (by decide)).trans i1, by rw [g7 _ (by omega), v1]; exact j1⟩, ⟨a.2.1, x2, (zz 2 (by decide) (by decide)).trans i2, by rw [g7 _ (by omega), v2]; exact j2⟩, ⟨a.2.2.1, x3, (zz 3 (by decide) (by decide)).trans i3, by rw [g7 _ (by omega), v3]; exact j3⟩, by rw [g7 _ (by omega), v4, j4]; exact (zz 4 (by decide) (by decide)).trans i4, ⟨a.2.2.2.2, x5, (zz 5 (by decide) (by decide)).trans i5, by rw [g7 _ (by omega), v5]; exact j5⟩⟩
      have hlwC' : LwC σ2 (34 - o + 12) res.2 := hlwC.eq fun c k h1 h2 => sL c k (by omega) (by omega)
      have hlwM' : LwM σ2 (1 - v) res.2 := by
        have ht4 := hRT.2.2.2.1
        have h0 : LwM τ2 (1 - v) res.2 := ⟨lM, bM, hEC.2.1.2, by omega, by omega, hRLT⟩
        exact h0.eq fun c k h1 h2 _ => sM c k (by omega) h2
      have hwf' : wfT res.2 := gAll_wf hg fun k w h => by cases h
      obtain ⟨u, nx, ns, u1, u2, u3, u4, u5, -⟩ := hundo
      have kC : EqOn ([(70, 1, some 1), (6, 1, none), (1, 1, none)] ++ D_vars) σ σ2 := ((c1.cov (by decide)).tr (hS.on (by decide))).tr (s2.cov (by decide))
      refine ⟨⟨34 - o, 1 - v, d.2.1.1, d.2.2.1.length, d.2.2.2.1.length, d.2.2.2.2.length, ⟨0, by decide, ?_, ?_, fun j hj => absurd hj (Nat.not_lt_zero _)⟩, ?_, hland', V_law_of hN ho' hs g2 hlwC' hlwM' hwf', hnow', ⟨0, nx, ns, by decide, u2, ?_, g3, ?_, fun i j _ hj => absurd hj (Nat.not_lt_zero _), fun j hj => absurd hj (Nat.not_lt_zero _)⟩, ⟨0, by decide, ?_, fun i hi => ⟨by rw [g5 i hi]; simp, fun hb => by simp at hb⟩⟩, ⟨0, by decide, ?_, g4, fun i hi => absurd hi (Nat.not_lt_zero _)⟩, hvars.eq (kC.cov (by decide))⟩, fun k hk => ⟨?_, ?_⟩, fun j hj => ?_, 34 - o, 1 - v, res.2, ⟨by rw [R _ _ (by decide)]; exact z03, g2, hs, ho'⟩, hlwC', hlwM', hwf'⟩
      · rw [s3 _ _ (by decide), s1.I (wIn_s 3 rfl)]; exact c3
      · rw [g8.I (wIn_s 1 rfl)]; exact m3
      · show gI σ2 2 5 = gI σ2 160 17
        rw [s3 _ _ (by decide), s1.I (wIn_r 0 rfl (by decide) (by decide)), f5, g1]
      · rw [s3 _ _ (by decide)]; exact y2
      · rw [kC.I (wIn_s 0 rfl)]; exact u5
      · rw [s3 _ _ (by decide)]; exact y5
      · rw [s3 _ _ (by decide)]; exact y15
      · exact ((kC.cov (D := [(6, 1, none)]) (by decide)) 6 k (wIn_r 0 rfl (by decide) (by decide))).2.1.trans (hV k hk).1
      · have e1 := (g8 167 k (wIn_r 2 rfl (by decide) (by decide))).2.1
        have e2 := (m1 167 k (wIn_r 4 rfl (by decide) (by decide))).2.1
        have e3 := ((hS.on (D := [(167, 1, none)]) (by decide)) 167 k (wIn_r 0 rfl (by decide) (by decide))).2.1
        exact (((e1.trans e2).trans e3).trans (k160 167 k (by decide) (by decide)).2).trans (hV k hk).2
      · obtain ⟨b, h1, h2⟩ := hb j hj
        exact ⟨b, h1, by rw [(kC.cov (D := [(1, 1, none)]) (by decide)).I (wIn_r 0 rfl (by decide) (by decide))]; exact h2⟩
