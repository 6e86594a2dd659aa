-- THE REFERENCE READS: all of it
def D_219 : Wr := [(0, 160, none), (160, 50, none), (211, 1, none)]
theorem r_219 {N : Nat} : ∀ {fu i : Nat} {σ : Mm}, i ≤ 3 → 3 - i < fu → (∀ j, j < i → gI σ 210 j = 0) → Ok (f11_read_219 N fu (nI i) σ) (fun r τ => r = 0 ∧ (∀ j, j < 3 → gI τ 210 j = 0) ∧ Same [(210, 1, none)] σ τ)
  | 0, i, σ, _, h, _ => absurd h (Nat.not_lt_zero _)
  | fu + 1, i, σ, hi, hf, hA => by
    rw [f11_read_219]
    by_cases c : i = 3
    · subst c
      exact Ok.t (by decide) (Ok.ret ⟨rfl, hA, fun _ _ _ => ⟨rfl, rfl, rfl⟩⟩)
    · refine Ok.f (nI_ngt (n := 3) (by omega) (by decide)) (Ok.c (inBn (by omega) (by decide)) ?_)
      rw [z_l_eq, nI_1, z_l_eq, ixn (by omega), show vp_nar .boolean (0 : Int32) = 0 from rfl]
      refine (r_219 (i := i + 1) (by omega) (by omega) (fun j hj => ?_)).mono ?_
      · by_cases e : j = i
        · subst e; exact gI_e
        · rw [gI_k e]; exact hA j (by omega)
      · rintro r τ ⟨h1, h2, h3⟩
        refine ⟨h1, h2, Same.tr (fun id k hn => ⟨gI_o (fun e => hn ⟨_, List.mem_cons_self, ⟨by subst e; exact Nat.le_refl _, by subst e; exact Nat.lt_succ_self _⟩, Or.inl rfl⟩), rfl, rfl⟩) h3⟩
/-- what the reference is after a text without a fault -/
def rdE (σ τ : Mm) (s W G : Nat) : Prop := gI τ 160 17 = -1 ∧ gI τ 160 18 = nI s ∧ gI τ 160 63 = 0 ∧ gI τ 160 69 = 0 ∧ (∀ j, j < 3 → gI τ 210 j = 0) ∧ (∃ ρ, rwB σ ρ s W G ∧ ∀ k, k < 117 → gI τ 198 k = gI ρ 199 k) ∧ EqOn [(0, 160, none), (160, 1, some 2), (167, 1, none), (170, 25, none), (203, 1, none), (208, 2, none), (211, 1, none)] σ τ
theorem r_164 {N : Nat} (hN : 4000 ≤ N) {σ : Mm} {s W G : Nat} (hs : s < 2) (hW : W ≤ 7) (hG : G ≤ 12) (h13 : gI σ 160 13 = 0) (h15 : gI σ 160 15 = 0) (h19 : gI σ 160 19 = nI s) (h175 : gI σ 175 s = nI W) (h178 : gI σ 178 s = nI G) : Ok (f11_read_164 N (-1) σ) (fun r τ => r = 0 ∧ rdE σ τ s W G) := by
  rw [f11_read_164, z_l_eq, gI_k (by decide), gI_k (by decide), h13, h15]
  refine Ok.t (by decide) (Ok.t (by decide) ?_)
  rw [gI_k (by decide), h19, z_l_eq]
  have e0 : ∀ c k, c ≠ 160 → gI (sI (sI σ 160 17 (-1)) 160 18 (nI s)) c k = gI σ c k := fun c k hc => by rw [gI_o hc, gI_o hc]
  refine Ok.b ((r_begins hN hs hW hG gI_e (by rw [e0 _ _ (by decide)]; exact h175) (by rw [e0 _ _ (by decide)]; exact h178)).fr fun r τ e => fr11_begins N e) ?_
  rintro - τ1 ⟨⟨b1, -, -, -⟩, hS1⟩
  refine Ok.b ((r_keepsRow2 hN).fr fun r τ e => fr11_keepsRow N e) ?_
  rintro - τ2 ⟨b2, hS2⟩
  rw [z_l_eq, z_l_eq]
  refine (r_219 (N := N) (i := 0) (fu := N) (by omega) (by omega) (fun j hj => absurd hj (Nat.not_lt_zero _))).mono ?_
  rintro r τ ⟨c1, c2, c3⟩
  have d1 : EqOn [(160, 1, some 17), (160, 1, some 18), (160, 1, some 2), (0, 160, none), (167, 1, none), (170, 25, none), (203, 1, none), (208, 2, none), (211, 1, none)] (sI (sI σ 160 17 (-1)) 160 18 (nI s)) τ := ((((hS1.on (by decide)).tr (hS2.on (by decide))).tr (EqOn_sI EqOn.rf (by decide))).tr (EqOn_sI EqOn.rf (by decide))).tr (c3.on (by decide))
  have d3 := c3.on (D := [(160, 1, some 63), (160, 1, some 69), (198, 1, none)]) (by decide)
  refine ⟨c1, by rw [d1.I (wIn_s 0 rfl), gI_k (by decide), gI_e], by rw [d1.I (wIn_s 1 rfl), gI_e], by rw [d3.I (wIn_s 0 rfl), gI_k (by decide), gI_e], by rw [d3.I (wIn_s 1 rfl), gI_e], c2, ⟨τ1, ?_, fun k hk => ?_⟩, ?_⟩
  · obtain ⟨p1, p2, p3⟩ := b1
    exact ⟨fun w hw => by rw [← e0 176 _ (by decide)]; exact p1 w hw, p2, fun g hg => by rw [← e0 179 _ (by decide), ← e0 180 _ (by decide), ← e0 181 _ (by decide), ← e0 182 _ (by decide), ← e0 183 _ (by decide)]; exact p3 g hg⟩
  · rw [d3.I (wIn_r 2 rfl (by decide) (by decide)), gI_o (by decide), gI_o (by decide)]
    exact b2 k hk
  · refine EqOn.tr ?_ (d1.sub (by decide))
    exact (EqOn_sI EqOn.rf (by decide)).tr (EqOn_sI EqOn.rf (by decide))
def rdM2 (σ : Mm) (B : Nat → Nat) (n s : Nat) (r : Int32) (τ : Mm) : Prop := ∃ τ', (EqOn D_kM σ τ' ∧ KS σ s τ' ∧ gI τ' 160 2 = 0) ∧ match gAll (kK B n) (vV B n) 401 0 cn0 lw0 with
  | .inl e => r = nI e.1 ∧ τ = sI τ' 160 17 (nI (bg B n e.2))
  | .inr res => match sAll (kK B n) (vV B n) (wW B n) 401 0 cn0 ld0 with
    | .inl e => r = nI e.1 ∧ τ = sI τ' 160 17 (nI (bg B n e.2))
    | .inr d => r = 0 ∧ rdE τ' τ s res.1.2.2.1 res.1.2.2.2 ∧ ∃ t' σ', RDL σ' τ' B n s t' res.1 (.inr d) res.2
theorem r_read {N : Nat} (hN : 4000 ≤ N) {σ : Mm} {B : Nat → Nat} {n v : Nat} (hv : v < 2) (hB : TB B n) (hT : ∀ j, j < n → gI σ 161 j = sgn (B j)) (hV : V_words σ) (h2 : gI σ 160 2 = nI n) (h18 : gI σ 160 18 = nI v) : Ok (f11_read N σ) (fun r τ => rdM2 σ B n (1 - v) r τ) := by
  have hn := hB.1
  have hs : 1 - v < 2 := by omega
  unfold f11_read
  rw [h2, z_l_eq]
  refine r_copy hB (σ0 := σ) (i := 0) (fu := N) (by omega) (by omega) gI_e (fun j hj => by rw [gI_o (by decide)]; exact hT j hj) (fun j hj => absurd hj (Nat.not_lt_zero _)) (Same_sI (i := 0) rfl) ?_
  intro τ1 hTM hS1
  rw [f11_read_36, z_l_eq]
  have hV1 : V_words (sI τ1 160 2 0) := fun k hk => by
    have e := hS1.on (D := [(6, 1, none), (167, 1, none)]) (by decide)
    have e6 := (e 6 k (wIn_r 0 rfl (by decide) (by decide))).2.1
    have e7 := (e 167 k (wIn_r 1 rfl (by decide) (by decide))).2.1
    exact ⟨e6.trans (hV k hk).1, e7.trans (hV k hk).2⟩
  have hTM1 : TM (sI τ1 160 2 0) B n := ⟨by rw [gI_k (by decide)]; exact hTM.1, fun j hj => by rw [gI_o (by decide)]; exact hTM.2 j hj⟩
  refine Ok.b ((r_cut hN hB hTM1 hV1).fr fun r τ e => fr11_cut N e) ?_
  rintro - τ2 ⟨hrows, hS2⟩
  rw [z_l_eq, z_l_eq, z_l_eq, z_l_eq, z_l_eq, z_l_eq]
  have k2 : EqOn D_kM σ τ2 := ((hS1.on (by decide)).tr (EqOn_sI EqOn.rf (by decide))).tr (hS2.on (by decide))
  have g18 : gI τ2 160 18 = nI v := by rw [k2.I (wIn_s 1 rfl)]; exact h18
  have e18 : gI (sI (sI (sI (sI τ2 160 11 0) 160 12 0) 160 13 0) 160 15 0) 160 18 = nI v := by rw [gI_k (by decide), gI_k (by decide), gI_k (by decide), gI_k (by decide)]; exact g18
  rw [e18, show (1 : Int32) - nI v = nI (1 - v) from pk_sub (a := 1) (by omega)]
  generalize h3 : sI (sI (sI (sI (sI (sI τ2 160 11 0) 160 12 0) 160 13 0) 160 15 0) 160 19 (nI (1 - v))) 160 20 0 = τ3
  have g19 : gI τ3 160 19 = nI (1 - v) := by rw [← h3, gI_k (by decide), gI_e]
  have k3 : EqOn D_kM σ τ3 := by
    rw [← h3]
    exact (((((k2.tr (EqOn_sI EqOn.rf (by decide))).tr (EqOn_sI EqOn.rf (by decide))).tr (EqOn_sI EqOn.rf (by decide))).tr (EqOn_sI EqOn.rf (by decide))).tr (EqOn_sI EqOn.rf (by decide))).tr (EqOn_sI EqOn.rf (by decide))
  have ks3 : ∀ w, kS w σ τ3 := fun w c k ho => by
    have hc : c ≠ 160 ∧ c ≠ 162 ∧ 170 ≤ c ∧ c < 195 := by unfold oS at ho; omega
    rw [← h3, gI_o hc.1, gI_o hc.1, gI_o hc.1, gI_o hc.1, gI_o hc.1, gI_o hc.1, (hS2.on (D := [(170, 25, none)]) (by decide)).I (wIn_r 0 rfl hc.2.2.1 (by omega)), gI_o hc.1, (hS1.on (D := [(170, 25, none)]) (by decide)).I (wIn_r 0 rfl hc.2.2.1 (by omega))]
  rw [g19]
  refine Ok.b ((r_plain hN hs).fr fun r τ e => fr11_plain N e) ?_
  rintro - τ4 ⟨⟨⟨p1, p2, p3, p4, p5, p6⟩, p7, p8⟩, hS4⟩
  have q4 := hS4.on (D := [(160, 1, none), (163, 4, none)]) (by decide)
  have q160 : ∀ k, gI τ4 160 k = gI τ3 160 k := fun k => q4.I (wIn_r 0 rfl (by decide) (by decide))
  rw [q160, g19, show (130 : Int32) * nI (1 - v) = nI (130 * (1 - v)) from pk_mul 130 _, z_l_eq, gI_k (by decide), q160, g19, show (420 : Int32) * nI (1 - v) = nI (420 * (1 - v)) from pk_mul 420 _, z_l_eq]
  generalize h5 : sI (sI τ4 160 41 (nI (130 * (1 - v)))) 160 47 (nI (420 * (1 - v))) = τ5
  have r5 : ∀ c k, c ≠ 160 → gI τ5 c k = gI τ4 c k := fun c k hc => by rw [← h5, gI_o hc, gI_o hc]
  have r5k : ∀ k, k ≠ 41 → k ≠ 47 → gI τ5 160 k = gI τ3 160 k := fun k a b => by rw [← h5, gI_k b, gI_k a]; exact q160 k
  have k5 : EqOn D_kM σ τ5 := by
    rw [← h5]
    exact ((k3.tr (hS4.on (by decide))).tr (EqOn_sI EqOn.rf (by decide))).tr (EqOn_sI EqOn.rf (by decide))
  have KS5 : KS σ (1 - v) τ5 := fun w a b => by
    refine ((ks3 w).tr (p8 w a b)).tr fun c k ho => ?_
    exact r5 c k (by unfold oS at ho; omega)
  have hTx : TxM τ5 B n := by
    have hx : TxM τ2 B n := hrows
    refine hx.eq (EqOn.tr ?_ (EqOn.tr (q4.sub (by decide)) ?_))
    · rw [← h3]
      exact (((((EqOn_sI EqOn.rf (by decide)).tr (EqOn_sI EqOn.rf (by decide))).tr (EqOn_sI EqOn.rf (by decide))).tr (EqOn_sI EqOn.rf (by decide))).tr (EqOn_sI EqOn.rf (by decide))).tr (EqOn_sI EqOn.rf (by decide))
    · rw [← h5]
      exact (EqOn_sI EqOn.rf (by decide)).tr (EqOn_sI EqOn.rf (by decide))
  have z11 : gI τ5 160 11 = nI 0 := by rw [r5k _ (by decide) (by decide), ← h3, gI_k (by decide), gI_k (by decide), gI_k (by decide), gI_k (by decide), gI_k (by decide), gI_e]; rfl
  have z12 : gI τ5 160 12 = 0 := by rw [r5k _ (by decide) (by decide), ← h3, gI_k (by decide), gI_k (by decide), gI_k (by decide), gI_k (by decide), gI_e]
  have z13 : gI τ5 160 13 = 0 := by rw [r5k _ (by decide) (by decide), ← h3, gI_k (by decide), gI_k (by decide), gI_k (by decide), gI_e]
  have z15 : gI τ5 160 15 = 0 := by rw [r5k _ (by decide) (by decide), ← h3, gI_k (by decide), gI_k (by decide), gI_e]
  have z19 : gI τ5 160 19 = nI (1 - v) := by rw [r5k _ (by decide) (by decide)]; exact g19
  have z20 : gI τ5 160 20 = nI 0 := by rw [r5k _ (by decide) (by decide), ← h3, gI_e]; rfl
  have z2 : gI τ5 160 2 = 0 := by
    rw [r5k _ (by decide) (by decide), ← h3, gI_k (by decide), gI_k (by decide), gI_k (by decide), gI_k (by decide), gI_k (by decide), gI_k (by decide), (hS2.on (D := [(160, 1, some 2)]) (by decide)).I (wIn_s 0 rfl), gI_e]
  have hRT : RT τ5 B n 0 := ⟨hB, hTx, fun q hq => absurd hq (Nat.not_lt_zero _), by decide, z11, z13⟩
  have hRD : RD τ5 B n (1 - v) 0 cn0 (.inr ld0) := by
    refine ⟨hRT, z15, ⟨hs, z19, ⟨by rw [r5 _ _ (by decide)]; exact p1, by rw [r5 _ _ (by decide)]; exact p2, by rw [r5 _ _ (by decide)]; exact p3, by rw [r5 _ _ (by decide)]; exact p4⟩, z20, z12⟩, ⟨by decide, by decide, by decide, by decide⟩, fun d hd => ?_⟩
    cases hd
    exact ⟨⟨⟨by rw [r5 _ _ (by decide)]; exact p5, by rw [r5 _ _ (by decide)]; exact p6⟩, trivial, trivial, trivial, trivial, fun a ha => (by cases ha), trivial⟩, ⟨rfl, rfl, rfl, rfl, rfl⟩, ⟨fun a ha => (by cases ha), ⟨⟨by decide, by decide⟩, by decide⟩, fun a ha => (by cases ha), fun a ha => (by cases ha), fun a ha => (by cases ha)⟩⟩
  have hLW : LWs τ5 τ5 (1 - v) 0 lw0 := ⟨[], 0, ⟨hs, ⟨by rw [← h5, gI_e]; rfl, trivial⟩, z12, fun w _ _ => kS.rf⟩, Nat.le_refl _, by rw [← h5, gI_k (by decide), gI_e]; rfl, Nat.le_refl _, fun k hk => ⟨by rw [r5 _ _ (by decide)]; exact (p7 k hk).1, by rw [r5 _ _ (by decide)]; exact (p7 k hk).2⟩⟩
  -- a fault
  have bad : ∀ (τ : Mm) (e : Nat × Nat) (x : Int32), FM τ B n e ∨ (gI τ 160 13 = 0 ∧ WSt (α := LD) τ B n 1000 (.inl e)) → Ok (f11_read_134 N τ) (fun r υ => r = nI e.1 ∧ υ = sI τ 160 17 (nI (bg B n e.2))) := by
    intro τ e _ h
    rw [f11_read_134]
    rcases h with h | ⟨h, w1, w2, w3, w4, w5⟩
    · refine Ok.f h.n0.2.1 ?_
      rw [f11_read_164, h.2.2, z_l_eq, gI_k (by decide), h.1]
      refine Ok.f ?_ (Ok.ret ⟨rfl, rfl⟩)
      rw [← h.1]; exact h.n0.2.1
    · have n15 : ¬ nI e.1 ≤ 0 := nI_ge (a := 0) (by omega) (by omega)
      rw [h, w1]
      refine Ok.t (by decide) (Ok.f n15 ?_)
      rw [f11_read_164, w2, z_l_eq, gI_k (by decide), gI_k (by decide), h, w1]
      exact Ok.t (by decide) (Ok.f n15 (Ok.ret ⟨rfl, rfl⟩))
  refine r_loop hN (D := (160, 1, some 2) :: D_kM) (by decide) (f := 401) (t := 0) (fu := N) (σ0 := τ5) (by omega) (by omega) ⟨hRD, hLW⟩ EqOn.rf (fun τ res hg hx hE => ?_) (fun τ e hg hF hK hE => ?_)
  · obtain ⟨t', hD, hL⟩ := hx
    obtain ⟨l, b, hEC, -⟩ := id hL
    have hE' := EqOn_c1 hE
    have hbase : EqOn D_kM σ τ ∧ KS σ (1 - v) τ ∧ gI τ 160 2 = 0 := ⟨k5.tr hE'.1, fun w a d => (KS5 w a d).tr (hEC.2.2.2 w a d), by rw [hE'.2.I (wIn_s 0 rfl)]; exact z2⟩
    have hD : RD τ B n (1 - v) t' res.1 (sAll (kK B n) (vV B n) (wW B n) 401 0 cn0 ld0) := hD
    cases hsA : sAll (kK B n) (vV B n) (wW B n) 401 0 cn0 ld0 with
    | inl e =>
      rw [hsA] at hD
      obtain ⟨hR, hW, -⟩ := hD
      refine (bad τ e 0 (Or.inr ⟨hR.2.2.2.2.2, hW.eq (by have := hR.2.2.2.1; omega) EqOn.rf⟩)).mono ?_
      rintro r υ hr
      refine ⟨τ, hbase, ?_⟩
      rw [hg]
      dsimp only
      rw [hsA]
      exact hr
    | inr d =>
      rw [hsA] at hD
      have w15 : gI τ 160 15 = 0 := hD.2.1
      have w13 : gI τ 160 13 = 0 := hD.1.2.2.2.2.2
      rw [f11_read_134, w13, w15]
      refine Ok.t (by decide) (Ok.t (by decide) ?_)
      obtain ⟨c1, c2, c3, c4⟩ := hD.2.2.2.1
      refine (r_164 hN hs c3 c4 w13 w15 hD.2.2.1.2.1 hD.2.2.1.2.2.1.2.2.1 hD.2.2.1.2.2.1.2.2.2).mono ?_
      rintro r υ ⟨hr, hx⟩
      refine ⟨τ, hbase, ?_⟩
      rw [hg]
      dsimp only
      rw [hsA]
      exact ⟨hr, hx, t', τ5, hD, hL⟩
  · have hE' := EqOn_c1 hE
    refine (bad τ e 0 (Or.inl hF)).mono ?_
    rintro r υ hr
    refine ⟨τ, ⟨k5.tr hE'.1, fun w a d => (KS5 w a d).tr (hK w a d), by rw [hE'.2.I (wIn_s 0 rfl)]; exact z2⟩, ?_⟩
    rw [hg]
    exact hr
