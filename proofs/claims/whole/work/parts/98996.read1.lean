-- THE CLASS READS
theorem nI_surj (x : Int32) : ∃ m : Nat, x = nI m := ⟨x.toBitVec.toNat, i32_ext (by rw [pk_tn x.toBitVec.isLt])⟩
theorem stk_any (σ : Mm) : ∀ m : Nat, ∃ stk : List Nat, stk.length = m ∧ StkAt σ stk
  | 0 => ⟨[], rfl, trivial⟩
  | m + 1 => by
    obtain ⟨stk, h1, h2⟩ := stk_any σ m
    obtain ⟨a, ha⟩ := nI_surj (gI σ 48 m)
    exact ⟨a :: stk, by simp [h1], by rw [h1]; exact ha, h2⟩
def ld0 : LD := ([], (0, 1, 0), [], [], [])
def cn0 : Cn := (0, 0, 0, 0)
def lw0 : LwT := fun _ => none
def D_kC : Wr := [(50, 8, none), (70, 1, some 1), (70, 1, some 2), (70, 1, some 5), (74, 84, none), (0, 1, some 14), (0, 1, some 15), (158, 1, none), (0, 1, some 3), (0, 1, some 4), (60, 1, some 1), (6, 1, none), (1, 1, none), (160, 52, none)] ++ D_vars
theorem c_clear {N : Nat} {σ : Mm} {o : Nat} (ho : o = 7 ∨ o = 27) : ∃ τ, f3_clear N o σ = some ((), τ) ∧ LC τ o ld0 ∧ CS τ (o + 12) dl0 ∧ LT τ (o + 12) dl0 lw0 := by
  obtain ⟨τ, e, h1, h2⟩ := s_clear (N := N) (σ := sI (sI (sI (sI (sI (sI (sI σ o 0 0) o 1 0) o 2 0) o 3 0) o 4 1) o 5 0) o 16 0) (q := o + 12)
  have k : ∀ j, gI τ o j = gI (sI (sI (sI (sI (sI (sI (sI σ o 0 0) o 1 0) o 2 0) o 3 0) o 4 1) o 5 0) o 16 0) o j := fun j => by
    have hf := fr4_clear N e
    rcases ho with rfl | rfl
    · exact (hf.on (D := [(7, 1, none)]) (by decide)).I (wIn_r 0 rfl (by decide) (by decide))
    · exact (hf.on (D := [(27, 1, none)]) (by decide)).I (wIn_r 0 rfl (by decide) (by decide))
  refine ⟨τ, ?_, ⟨⟨trivial, ?_, by decide, fun a ha => (by cases ha), trivial, fun a ha => (by cases ha)⟩, ⟨?_, ?_, ?_⟩, ⟨?_, trivial⟩, ⟨?_, trivial⟩, ⟨?_, trivial⟩⟩, h1, h2⟩
  · unfold f3_clear
    rw [z_l_eq, z_l_eq, z_l_eq, z_l_eq, z_l_eq, z_l_eq, z_l_eq, e, z_b_some]
  · rw [k, gI_e]; rfl
  · rw [k, gI_k (by decide), gI_k (by decide), gI_k (by decide), gI_k (by decide), gI_k (by decide), gI_k (by decide), gI_e]; rfl
  · rw [k, gI_k (by decide), gI_k (by decide), gI_e]; rfl
  · rw [k, gI_k (by decide), gI_e]; rfl
  · rw [k, gI_k (by decide), gI_k (by decide), gI_k (by decide), gI_k (by decide), gI_k (by decide), gI_e]; rfl
  · rw [k, gI_k (by decide), gI_k (by decide), gI_k (by decide), gI_k (by decide), gI_e]; rfl
  · rw [k, gI_k (by decide), gI_k (by decide), gI_k (by decide), gI_e]; rfl
theorem c_keeps {N : Nat} (hN : 4000 ≤ N) {σ : Mm} {B : Nat → Nat} {n o : Nat} {D : Wr} (ho : o = 7 ∨ o = 27) (hD : keptG D (o + 12)) (hD2 : offL [(o + 15, 1, none)] D = true) (hDR : offL [(47, 1, some 1)] D = true) (hB : TB B n) (hT : TxC σ B n) (h24 : gI σ 2 4 = 0) (h25 : gI σ 2 5 = -1) (h1 : CS σ (o + 12) dl0) (h2 : LT σ (o + 12) dl0 lw0) : Ok (f2_keeps N o σ) (PO D σ B n (gAll (kK B n) (vV B n) 401 0 cn0 lw0) (gaP B n (o + 12))) := by
  unfold f2_keeps
  rw [z_l_eq, z_l_eq, z_l_eq, z_l_eq, z_l_eq, z_l_eq]
  have hq : o + 12 = 19 ∨ o + 12 = 39 := by omega
  generalize hτ : sI (sI (sI (sI (sI (sR σ 47 1 (some (o + 12))) 47 2 0) 47 3 0) 47 4 0) 47 5 0) 47 6 0 = τ
  have g : ∀ c j, c ≠ 47 → gI τ c j = gI σ c j := fun c j hc => by
    rw [← hτ, gI_o hc, gI_o hc, gI_o hc, gI_o hc, gI_o hc]; rfl
  have gl : ∀ c j, gL τ c j = gL σ c j := fun c j => by rw [← hτ]; rfl
  obtain ⟨m, hm⟩ := nI_surj (gI τ 47 8)
  obtain ⟨dp, hdp⟩ := nI_surj (gI τ 47 9)
  obtain ⟨stk, hs1, hs2⟩ := stk_any τ m
  have t2 : gI τ 47 2 = nI 0 := by rw [← hτ, gI_k (by decide), gI_k (by decide), gI_k (by decide), gI_k (by decide), gI_e]; rfl
  have t3 : gI τ 47 3 = nI 0 := by rw [← hτ, gI_k (by decide), gI_k (by decide), gI_k (by decide), gI_e]; rfl
  have t4 : gI τ 47 4 = nI 0 := by rw [← hτ, gI_k (by decide), gI_k (by decide), gI_e]; rfl
  have t5 : gI τ 47 5 = nI 0 := by rw [← hτ, gI_k (by decide), gI_e]; rfl
  have t6 : gI τ 47 6 = nI 0 := by rw [← hτ, gI_e]; rfl
  have tR : gR τ 47 1 = some (o + 12) := by rw [← hτ]; exact gR_e
  have hGT : GT τ B n (o + 12) 0 cn0 lw0 := by
    refine ⟨dl0, stk, dp, ⟨hq, hB, hT.congr (fun j => g _ _ (by decide)) (fun j => g _ _ (by decide)) (fun j => gl _ _), fun q hq => absurd hq (Nat.not_lt_zero _), by decide, tR, t2, by rw [g _ _ (by omega)]; exact h1.1, h1.2.congr fun j _ => ⟨g _ _ (by omega), g _ _ (by omega)⟩, by rw [hs1]; exact hm, hs2, hdp, by rw [g _ _ (by decide)]; exact h24, by rw [g _ _ (by decide)]; exact h25⟩, by decide, ⟨t3, t4, t5, t6⟩, ?_⟩
    exact h2.more (x := []) fun j => g _ _ (by omega)
  have hE : EqOn D σ τ := by
    have e0 : EqOn D σ (sR σ 47 1 (some (o + 12))) := Same.on (L := [(47, 1, some 1)]) (fun id k hn => ⟨rfl, rfl, by
      unfold gR sR
      by_cases e : id = 47
      · subst e
        have : k ≠ 1 := fun e => hn ⟨_, List.mem_cons_self, ⟨Nat.le_refl _, Nat.lt_succ_self _⟩, Or.inr (by rw [e])⟩
        simp [upd, va_up, this]
      · simp [upd, e]⟩) hDR
    rw [← hτ]
    exact ((((e0.tr (EqOn_sIa EqOn.rf (off1 hD (by simp)))).tr (EqOn_sIa EqOn.rf (off1 hD (by simp)))).tr (EqOn_sIa EqOn.rf (off1 hD (by simp)))).tr (EqOn_sIa EqOn.rf (off1 hD (by simp)))).tr (EqOn_sIa EqOn.rf (off1 hD (by simp)))
  exact (c_keeps35 hN (o1 := o) hD hD2 (f := 401) (t := 0) (x := 0) (fu := N) (by omega) (by omega) (by omega) hGT ⟨by decide, by decide, by decide, by decide⟩).mono fun r υ hp => hp.tr hE
theorem c_fills {N : Nat} (hN : 4000 ≤ N) {σ : Mm} {B : Nat → Nat} {n o : Nat} {res : Cn × LwT} (ho : o = 7 ∨ o = 27) (hB : TB B n) (hT : TxC σ B n) (hL : LC σ o ld0) (h24 : gI σ 2 4 = 0) (h25 : gI σ 2 5 = -1) (hg : gAll (kK B n) (vV B n) 401 0 cn0 lw0 = .inr res) : Ok (f8_fills N o σ) (fun r τ => kL o σ τ ∧ match sAll (kK B n) (vV B n) (wW B n) 401 0 cn0 ld0 with
    | .inl e => r = 0 ∧ FC τ B n e
    | .inr d' => r = 1 ∧ (gI τ 2 4 = 0 ∧ gI τ 2 5 = -1) ∧ LC τ o d' ∧ okD d' ∧ mt res.1 d') := by
  unfold f8_fills
  rw [z_l_eq, z_l_eq]
  generalize hτ : sI (sR σ 49 1 (some o)) 49 2 0 = τ
  have g : ∀ c j, c ≠ 49 → gI τ c j = gI σ c j := fun c j hc => by rw [← hτ, gI_o hc]; rfl
  have hk : kL o σ τ := fun c k h1 h2 _ => ⟨g c k h2, by rw [← hτ]; rfl, by
    rw [← hτ]
    show gR (sR σ 49 1 (some o)) c k = gR σ c k
    unfold gR sR
    simp [h2]⟩
  have hTS : TS τ B n o 0 := ⟨ho, hB, hT.congr (fun j => g _ _ (by decide)) (fun j => g _ _ (by decide)) (fun j => by rw [← hτ]; rfl), fun q hq => absurd hq (Nat.not_lt_zero _), by decide, by rw [← hτ]; exact gR_e, by rw [← hτ]; exact gI_e, by rw [g _ _ (by decide)]; exact h24, by rw [g _ _ (by decide)]; exact h25⟩
  have hLτ : LC τ o ld0 := by
    refine hL.names (hL.1.eq2 fun c k hc => ⟨g _ _ (by omega), by rw [← hτ]; rfl⟩) fun c k h1 h2 _ => g _ _ (by omega)
  refine (c_fills12 hN (o1 := o) (f := 401) (t := 0) (x := 0) (fu := N) (by omega) (by omega) (by omega) hg ⟨by decide, by decide, by decide, by decide⟩ ⟨rfl, rfl, rfl, rfl, rfl⟩ ⟨fun a ha => (by cases ha), ⟨⟨by decide, by decide⟩, by decide⟩, fun a ha => (by cases ha), fun a ha => (by cases ha), fun a ha => (by cases ha)⟩ hTS hLτ).mono ?_
  rintro r υ ⟨u1, u2⟩
  exact ⟨hk.tr u1, u2⟩
def rdC (N : Nat) (σ : Mm) (B : Nat → Nat) (n o : Nat) (r : Int32) (τ : Mm) : Prop := ∃ τ', (EqOn D_kC σ τ' ∧ EqOn [(34 - o, 20, none)] σ τ' ∧ gI τ' 0 1 = 0) ∧ match gAll (kK B n) (vV B n) 401 0 cn0 lw0 with
  | .inl e => τ = τ' ∧ r = nI e.1 ∧ FC τ' B n e
  | .inr res => match sAll (kK B n) (vV B n) (wW B n) 401 0 cn0 ld0 with
    | .inl e => τ = τ' ∧ r = nI e.1 ∧ FC τ' B n e
    | .inr d => r = 0 ∧ f10_beginWithSpareLand N τ' = some ((), τ) ∧ (gI τ' 2 4 = 0 ∧ gI τ' 2 5 = -1) ∧ LC τ' o d ∧ (okD d ∧ mt res.1 d ∧ Cb res.1) ∧ LwC τ' (o + 12) res.2
theorem c_read {N : Nat} (hN : 4000 ≤ N) {σ : Mm} {B : Nat → Nat} {n o : Nat} (ho : o = 7 ∨ o = 27) (hB : TB B n) (hTC : TC σ B n) (hV : V_words σ) (h01 : gI σ 0 1 = nI n) (h04 : gR σ 0 4 = some o) (hbeg : ∀ τ : Mm, gR τ 0 4 = some o → gR τ 0 3 = some (34 - o) → ∃ υ, f10_beginWithSpareLand N τ = some ((), υ)) (h03 : gR σ 0 3 = some (34 - o)) : Ok (f10_read N σ) (fun r τ => rdC N σ B n o r τ) := by
  have hD1 : keptG [(34 - o, 20, none)] (o + 12) := by unfold keptG; rcases ho with rfl | rfl <;> decide
  have hD2 : offL [(o + 15, 1, none)] [(34 - o, 20, none)] = true := by rcases ho with rfl | rfl <;> decide
  have hD3 : offL [(47, 1, some 1)] [(34 - o, 20, none)] = true := by rcases ho with rfl | rfl <;> decide
  unfold f10_read
  rw [h01]
  refine Ok.b ((c_scan hN hB hTC hV).fr fun r τ e => fr9_scan N e) ?_
  rintro - τ1 ⟨⟨a1, a2, a3⟩, hS1⟩
  rw [z_l_eq]
  have k1 : EqOn D_kC σ (sI τ1 0 1 0) := (hS1.on (by decide)).tr (EqOn_sI EqOn.rf (by decide))
  have x1 : EqOn [(34 - o, 20, none)] σ (sI τ1 0 1 0) := by
    rcases ho with rfl | rfl <;> exact (hS1.on (by decide)).tr (EqOn_sI EqOn.rf (by decide))
  have r1 : gR (sI τ1 0 1 0) 0 4 = some o := by rw [k1.R (wIn_s 9 rfl)]; exact h04
  refine Ok.r r1 (kd_land ho) ?_
  obtain ⟨τ2, e2, b1, b2, b3⟩ := c_clear (N := N) (σ := sI τ1 0 1 0) ho
  have hS2 := fr3_clear N e2
  rw [e2, z_b_some]
  have k2 : EqOn D_kC σ τ2 := by
    rcases ho with rfl | rfl <;> exact k1.tr (hS2.on (by decide))
  have x2 : EqOn [(34 - o, 20, none)] σ τ2 := by
    rcases ho with rfl | rfl <;> exact x1.tr (hS2.on (by decide))
  have y2 : EqOn [(3, 3, none), (2, 1, none), (0, 1, some 1)] (sI τ1 0 1 0) τ2 := by
    rcases ho with rfl | rfl <;> exact hS2.on (by decide)
  have r2 : gR τ2 0 4 = some o := by rw [k2.R (wIn_s 9 rfl)]; exact h04
  refine Ok.r r2 (kd_land ho) ?_
  have hT1 : TxC τ1 B n := a3
  have hT2 : TxC τ2 B n := hT1.congr (fun j => by rw [y2.I (wIn_r 0 rfl (by decide) (by decide)), gI_o (by decide)]) (fun j => by rw [y2.I (wIn_r 0 rfl (by decide) (by decide)), gI_o (by decide)]) (fun j => (y2 5 j (wIn_r 0 rfl (by decide) (by decide))).2.1)
  have f24 : gI τ2 2 4 = 0 := by rw [y2.I (wIn_r 1 rfl (by decide) (by decide)), gI_o (by decide)]; exact a1
  have f25 : gI τ2 2 5 = -1 := by rw [y2.I (wIn_r 1 rfl (by decide) (by decide)), gI_o (by decide)]; exact a2
  refine Ok.b ((c_keeps hN ho hD1 hD2 hD3 hB hT2 f24 f25 b2 b3).fr fun r τ e => fr2_keeps N e) ?_
  rintro r3 τ3 ⟨⟨c1, c2⟩, hS3⟩
  have k3 : EqOn D_kC σ τ3 := by
    rcases ho with rfl | rfl <;> exact k2.tr (hS3.on (by decide))
  have x3 : EqOn [(34 - o, 20, none)] σ τ3 := x2.tr c1
  have y3 : EqOn [(3, 3, none), (0, 1, some 1)] τ2 τ3 := by
    rcases ho with rfl | rfl <;> exact hS3.on (by decide)
  have z3 : gI τ3 0 1 = 0 := by rw [y3.I (wIn_s 1 rfl), y2.I (wIn_s 2 rfl), gI_e]
  cases hg : gAll (kK B n) (vV B n) 401 0 cn0 lw0 with
  | inl e =>
    rw [hg] at c2
    refine Ok.t c2.1 (Ok.ret ⟨τ3, ⟨k3, x3, z3⟩, ?_⟩)
    rw [hg]
    exact ⟨rfl, c2.2.1, c2.2⟩
  | inr res =>
    rw [hg] at c2
    obtain ⟨rfl, cb, t', l, stk, dp, ⟨g1, g2, g3, g4, g5, g6, g7, g8, g9, g10, g11, g12, g13, g14⟩, gl, gc, glt⟩ := c2
    refine Ok.f (by decide) ?_
    have r3 : gR τ3 0 4 = some o := by rw [k3.R (wIn_s 9 rfl)]; exact h04
    refine Ok.r r3 (kd_land ho) ?_
    have w3 : EqOn [(o, 12, none), (o + 16, 4, none)] τ2 τ3 := by
      rcases ho with rfl | rfl <;> exact hS3.on (by decide)
    have hL3 : LC τ3 o ld0 := b1.names (b1.1.eq2 fun c k hc => by
      have hi : wIn [(o, 12, none), (o + 16, 4, none)] c k := by
        rcases hc with ⟨rfl, -⟩ | hc
        · exact wIn_r 0 rfl (by omega) (by omega)
        · exact wIn_r 1 rfl (by omega) (by omega)
      exact ⟨w3.I hi, (w3 c k hi).2.1⟩) fun c k h1 h2 _ => w3.I (wIn_r 0 rfl h1 h2)
    have hC3 : LwC τ3 (o + 12) res.2 := ⟨l, g8, by omega, g9, glt⟩
    refine Ok.b ((c_fills hN ho hB g3 hL3 g13 g14 hg).fr fun r τ e => fr8_fills N e) ?_
    rintro r4 τ4 ⟨⟨d1, d2⟩, hS4⟩
    have k4 : EqOn D_kC σ τ4 := by
      rcases ho with rfl | rfl <;> exact k3.tr (hS4.on (by decide))
    have x4 : EqOn [(34 - o, 20, none)] σ τ4 := x3.tr fun c k ⟨a, ha, hb, _⟩ => by
      rcases List.mem_cons.mp ha with rfl | ha
      · have h1 : 34 - o ≤ c := hb.1
        have h2 : c < 34 - o + 20 := hb.2
        exact d1 c k (by omega) (by omega) (by omega)
      · cases ha
    have y4 : EqOn [(0, 1, some 1), (19, 4, none), (39, 4, none)] τ3 τ4 := by
      rcases ho with rfl | rfl <;> exact hS4.on (by decide)
    have z4 : gI τ4 0 1 = 0 := by rw [y4.I (wIn_s 0 rfl)]; exact z3
    have hC4 : LwC τ4 (o + 12) res.2 := hC3.eq fun c k h1 h2 => by
      rcases ho with rfl | rfl
      · exact y4.I (wIn_r 1 rfl h1 h2)
      · exact y4.I (wIn_r 2 rfl h1 h2)
    cases hsA : sAll (kK B n) (vV B n) (wW B n) 401 0 cn0 ld0 with
    | inl e =>
      rw [hsA] at d2
      refine Ok.t d2.1 (Ok.ret ⟨τ4, ⟨k4, x4, z4⟩, ?_⟩)
      rw [hg]
      dsimp only
      rw [hsA]
      exact ⟨rfl, d2.2.1, d2.2⟩
    | inr d =>
      rw [hsA] at d2
      obtain ⟨rfl, ⟨e1, e2⟩, e3, e4, e5⟩ := d2
      refine Ok.f (by decide) ?_
      obtain ⟨υ, hυ⟩ := hbeg τ4 (by rw [k4.R (wIn_s 9 rfl)]; exact h04) (by rw [k4.R (wIn_s 8 rfl)]; exact h03)
      rw [hυ, z_b_some]
      have hS5 := fr10_beginWithSpareLand N hυ
      refine Ok.ret ⟨τ4, ⟨k4, x4, z4⟩, ?_⟩
      rw [hg]
      dsimp only
      rw [hsA]
      exact ⟨by rw [(hS5.on (D := [(2, 1, none)]) (by decide)).I (wIn_r 0 rfl (by decide) (by decide))]; exact e1, hυ, ⟨e1, e2⟩, e3, ⟨e4, e5, cb⟩, hC4⟩
