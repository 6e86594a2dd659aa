-- THE REFERENCE'S TELLS: one of them
theorem tM_F {σ τ : Mm} {B : Nat → Nat} {n s : Nat} {e : Nat × Nat} {dd : PR LD} {L : Wr} (hF : FM τ B n e) (hS : Same L σ τ) (h1 : offL L [(170, 25, none)] = true) (h2 : offL L D_lw = true) : tM σ B n s (.inl e) dd τ := ⟨fun v _ _ => kS_same hS h1, hS.on h2, hF⟩
theorem r_t13 {N : Nat} (hN : 4000 ≤ N) {σ : Mm} {B : Nat → Nat} {n s t : Nat} {c : Cn} {dd : PR LD} (h : RD σ B n s t c dd) (hk : kK B n t = 13) : Ok (f11_tellOne N σ) (fun _ τ => tM σ B n s (gP13 (kK B n) c t) (bP dd fun d => sP13 (wW B n) d t) τ) := by
  obtain ⟨hR, hW, hC, hcb, hD⟩ := id h
  obtain ⟨s2, s19, ⟨sc1, sc2, sc3, sc4⟩, s20, s12⟩ := id hC
  obtain ⟨b1, b2, b3, b4⟩ := id hcb
  have ht := hR.2.2.2.1
  unfold f11_tellOne
  rw [hR.2.2.2.2.1, ixn (by omega), hR.row.1, hk]
  refine Ok.c (inBn (by omega) (by decide)) (Ok.t rfl ?_)
  rw [s19, ixn (by omega), sc1]
  refine Ok.c (inBn s2 (by decide)) ?_
  refine Ok.b (show Ok (f11_roomFor N (nI c.1) 6 σ) _ from r_room (most := 6) hR (by omega) b1 (by decide)) ?_
  rintro - τ1 ⟨hX1, hS1⟩
  rw [hk] at hX1
  have fail : ∀ {e : Nat × Nat}, FM τ1 B n e → tM σ B n s (.inl e) (bP dd fun d => sP13 (wW B n) d t) τ1 := fun hF => tM_F hF hS1 (by decide) (by decide)
  cases hm0 : rmF (c.1 + 1) 6 t with
  | inl e =>
    rw [hm0] at hX1
    have hF : FM τ1 B n e := hX1
    have hg : gP13 (kK B n) c t = .inl e := by unfold gP13; rw [hm0]; rfl
    rw [hg]
    exact Ok.f hF.n0.2.1 (Ok.ret (fail hF))
  | inr u =>
    rw [hm0] at hX1
    have hX1 : RX τ1 B n (tk1 (kK B n) 13 t) := hX1
    cases hm1 : tk1 (kK B n) 13 t with
    | inl e =>
      rw [hm1] at hX1
      have hF : FM τ1 B n e := hX1
      have hg : gP13 (kK B n) c t = .inl e := by unfold gP13; rw [hm0]; show bP (tk1 (kK B n) 13 t) _ = _; rw [hm1]; rfl
      rw [hg]
      exact Ok.f hF.n0.2.1 (Ok.ret (fail hF))
    | inr t1 =>
      rw [hm1] at hX1
      obtain ⟨rfl, -, -⟩ := tk1_ok hm1
      have hR1 : RT τ1 B n (t + 1) := hX1
      have hD1 : RD τ1 B n s (t + 1) c dd := h.step (hS1.on (by decide)) hR1 (by omega)
      refine Ok.t (by rw [hR1.2.2.2.2.2]; decide) ?_
      · exact (r_bPerson hN hD1 hk hm1 hm0).mono fun r υ hu => tM.pre hS1 (by decide) (by decide) hu
theorem r_t14 {N : Nat} (hN : 4000 ≤ N) {σ : Mm} {B : Nat → Nat} {n s t : Nat} {c : Cn} {dd : PR LD} (h : RD σ B n s t c dd) (hk : kK B n t = 14) : Ok (f11_tellOne N σ) (fun _ τ => tM σ B n s (gP14 (kK B n) c t) (bP dd fun d => sP14 (vV B n) (wW B n) d t) τ) := by
  obtain ⟨hR, hW, hC, hcb, hD⟩ := id h
  obtain ⟨s2, s19, ⟨sc1, sc2, sc3, sc4⟩, s20, s12⟩ := id hC
  obtain ⟨b1, b2, b3, b4⟩ := id hcb
  have ht := hR.2.2.2.1
  unfold f11_tellOne
  rw [hR.2.2.2.2.1, ixn (by omega), hR.row.1, hk]
  refine Ok.c (inBn (by omega) (by decide)) (Ok.f (by decide) (Ok.t rfl ?_))
  rw [s19, ixn (by omega), sc2]
  refine Ok.c (inBn s2 (by decide)) ?_
  refine Ok.b (show Ok (f11_roomFor N (nI c.2.1) 7 σ) _ from r_room (most := 7) hR (by omega) b2 (by decide)) ?_
  rintro - τ1 ⟨hX1, hS1⟩
  rw [hk] at hX1
  have fail : ∀ {e : Nat × Nat}, FM τ1 B n e → tM σ B n s (.inl e) (bP dd fun d => sP14 (vV B n) (wW B n) d t) τ1 := fun hF => tM_F hF hS1 (by decide) (by decide)
  cases hm0 : rmF (c.2.1 + 1) 7 t with
  | inl e =>
    rw [hm0] at hX1
    have hF : FM τ1 B n e := hX1
    have hg : gP14 (kK B n) c t = .inl e := by unfold gP14; rw [hm0]; rfl
    rw [hg]
    exact Ok.f hF.n0.1 (Ok.ret (fail hF))
  | inr u =>
    rw [hm0] at hX1
    have hX1 : RX τ1 B n (tk1 (kK B n) 14 t) := hX1
    cases hm1 : tk1 (kK B n) 14 t with
    | inl e =>
      rw [hm1] at hX1
      have hF : FM τ1 B n e := hX1
      have hg : gP14 (kK B n) c t = .inl e := by unfold gP14; rw [hm0]; show bP (tk1 (kK B n) 14 t) _ = _; rw [hm1]; rfl
      rw [hg]
      exact Ok.f hF.n0.1 (Ok.ret (fail hF))
    | inr t1 =>
      rw [hm1] at hX1
      obtain ⟨rfl, -, -⟩ := tk1_ok hm1
      have hR1 : RT τ1 B n (t + 1) := hX1
      have hD1 : RD τ1 B n s (t + 1) c dd := h.step (hS1.on (by decide)) hR1 (by omega)
      refine Ok.t hR1.2.2.2.2.2 ?_
      · refine Ok.b (r_bPlot hN hD1 hk hm1 hm0) ?_
        rintro - υ hu
        exact Ok.ret (tM.pre hS1 (by decide) (by decide) hu)
theorem r_t15 {N : Nat} (hN : 4000 ≤ N) {σ : Mm} {B : Nat → Nat} {n s t : Nat} {c : Cn} {dd : PR LD} (h : RD σ B n s t c dd) (hk : kK B n t = 15) : Ok (f11_tellOne N σ) (fun _ τ => tM σ B n s (gP15 (kK B n) c t) (bP dd fun d => sP15 (vV B n) (wW B n) d t) τ) := by
  obtain ⟨hR, hW, hC, hcb, hD⟩ := id h
  obtain ⟨s2, s19, ⟨sc1, sc2, sc3, sc4⟩, s20, s12⟩ := id hC
  obtain ⟨b1, b2, b3, b4⟩ := id hcb
  have ht := hR.2.2.2.1
  unfold f11_tellOne
  rw [hR.2.2.2.2.1, ixn (by omega), hR.row.1, hk]
  refine Ok.c (inBn (by omega) (by decide)) (Ok.f (by decide) (Ok.f (by decide) (Ok.t rfl ?_)))
  rw [s19, ixn (by omega), sc3]
  refine Ok.c (inBn s2 (by decide)) ?_
  refine Ok.b (show Ok (f11_roomFor N (nI c.2.2.1) 7 σ) _ from r_room (most := 7) hR (by omega) b3 (by decide)) ?_
  rintro - τ1 ⟨hX1, hS1⟩
  rw [hk] at hX1
  have fail : ∀ {e : Nat × Nat}, FM τ1 B n e → tM σ B n s (.inl e) (bP dd fun d => sP15 (vV B n) (wW B n) d t) τ1 := fun hF => tM_F hF hS1 (by decide) (by decide)
  cases hm0 : rmF (c.2.2.1 + 1) 7 t with
  | inl e =>
    rw [hm0] at hX1
    have hF : FM τ1 B n e := hX1
    have hg : gP15 (kK B n) c t = .inl e := by unfold gP15; rw [hm0]; rfl
    rw [hg]
    exact Ok.f hF.n0.1 (Ok.ret (fail hF))
  | inr u =>
    rw [hm0] at hX1
    have hX1 : RX τ1 B n (tk1 (kK B n) 15 t) := hX1
    cases hm1 : tk1 (kK B n) 15 t with
    | inl e =>
      rw [hm1] at hX1
      have hF : FM τ1 B n e := hX1
      have hg : gP15 (kK B n) c t = .inl e := by unfold gP15; rw [hm0]; show bP (tk1 (kK B n) 15 t) _ = _; rw [hm1]; rfl
      rw [hg]
      exact Ok.f hF.n0.1 (Ok.ret (fail hF))
    | inr t1 =>
      rw [hm1] at hX1
      obtain ⟨rfl, -, -⟩ := tk1_ok hm1
      have hR1 : RT τ1 B n (t + 1) := hX1
      have hD1 : RD τ1 B n s (t + 1) c dd := h.step (hS1.on (by decide)) hR1 (by omega)
      refine Ok.t hR1.2.2.2.2.2 ?_
      · refine Ok.b (r_bWitness hN hD1 hk hm1 hm0) ?_
        rintro - υ hu
        exact Ok.ret (tM.pre hS1 (by decide) (by decide) hu)
theorem r_t16 {N : Nat} (hN : 4000 ≤ N) {σ : Mm} {B : Nat → Nat} {n s t : Nat} {c : Cn} {dd : PR LD} (h : RD σ B n s t c dd) (hk : kK B n t = 16) : Ok (f11_tellOne N σ) (fun _ τ => tM σ B n s (gP16 (kK B n) c t) (bP dd fun d => sP16 (kK B n) (vV B n) (wW B n) d t) τ) := by
  obtain ⟨hR, hW, hC, hcb, hD⟩ := id h
  obtain ⟨s2, s19, ⟨sc1, sc2, sc3, sc4⟩, s20, s12⟩ := id hC
  obtain ⟨b1, b2, b3, b4⟩ := id hcb
  have ht := hR.2.2.2.1
  unfold f11_tellOne
  rw [hR.2.2.2.2.1, ixn (by omega), hR.row.1, hk]
  refine Ok.c (inBn (by omega) (by decide)) (Ok.f (by decide) (Ok.f (by decide) (Ok.f (by decide) (Ok.t rfl ?_))))
  rw [s19, ixn (by omega), sc4]
  refine Ok.c (inBn s2 (by decide)) ?_
  refine Ok.b (show Ok (f11_roomFor N (nI c.2.2.2) 12 σ) _ from r_room (most := 12) hR (by omega) b4 (by decide)) ?_
  rintro - τ1 ⟨hX1, hS1⟩
  rw [hk] at hX1
  have fail : ∀ {e : Nat × Nat}, FM τ1 B n e → tM σ B n s (.inl e) (bP dd fun d => sP16 (kK B n) (vV B n) (wW B n) d t) τ1 := fun hF => tM_F hF hS1 (by decide) (by decide)
  cases hm0 : rmF (c.2.2.2 + 1) 12 t with
  | inl e =>
    rw [hm0] at hX1
    have hF : FM τ1 B n e := hX1
    have hg : gP16 (kK B n) c t = .inl e := by unfold gP16; rw [hm0]; rfl
    rw [hg]
    exact Ok.f hF.n0.1 (Ok.ret (fail hF))
  | inr u =>
    rw [hm0] at hX1
    have hX1 : RX τ1 B n (tk1 (kK B n) 16 t) := hX1
    cases hm1 : tk1 (kK B n) 16 t with
    | inl e =>
      rw [hm1] at hX1
      have hF : FM τ1 B n e := hX1
      have hg : gP16 (kK B n) c t = .inl e := by unfold gP16; rw [hm0]; show bP (tk1 (kK B n) 16 t) _ = _; rw [hm1]; rfl
      rw [hg]
      exact Ok.f hF.n0.1 (Ok.ret (fail hF))
    | inr t1 =>
      rw [hm1] at hX1
      obtain ⟨rfl, -, -⟩ := tk1_ok hm1
      have hR1 : RT τ1 B n (t + 1) := hX1
      have hD1 : RD τ1 B n s (t + 1) c dd := h.step (hS1.on (by decide)) hR1 (by omega)
      refine Ok.t hR1.2.2.2.2.2 ?_
      · refine Ok.b (r_bGiving hN hD1 hk hm1 hm0) ?_
        rintro - υ hu
        exact Ok.ret (tM.pre hS1 (by decide) (by decide) hu)
theorem r_int {N : Nat} {σ : Mm} {B : Nat → Nat} {n s t lo hi k cell : Nat} {c : Cn} {dd : PR LD} {f : LD → Nat → LD} {fl : LD → LD} (hcell : (cell = 184 ∨ cell = 185)) (h : RD σ B n s t c dd) (hk : kK B n t = k) (hk2 : k = 21 ∨ k = 22) (hlo : lo < 10000) (hhi : hi < 10000)
    (hT : ∀ (d : LD) (_ : Nat), sTell (kK B n) (vV B n) (wW B n) d t = bP (rng (vV B n (t + 1)) lo hi (t + 1)) fun x => .inr (f d x)) (hL : ∀ (d : LD) (x : Nat) (τ : Mm), (LM τ s d → LM (sI τ cell s (nI x)) s (f d x))) :
    Ok (z_b (f11_toldInt N (nI lo) (nI hi) σ) fun r_65 σ_66 => z_c (inB (gI σ 160 19) 2) (z_l (sI σ_66 cell (ix (gI σ 160 19)) r_65) fun σ_69 => some ((), σ_69))) (fun _ τ => tM σ B n s (gPi (kK B n) c k t) (bP dd fun d => sTell (kK B n) (vV B n) (wW B n) d t) τ) := by
  obtain ⟨hR, hW, hC, hcb, hD⟩ := id h
  obtain ⟨s2, s19, ⟨sc1, sc2, sc3, sc4⟩, s20, s12⟩ := id hC
  have ht := hR.2.2.2.1
  unfold f11_toldInt
  -- the steps
  have stp : Ok (f11_toldInt N (nI lo) (nI hi) σ) (fun r τ => RWt τ B n (bP (bP (tk1 (kK B n) k t) (tk1 (kK B n) 3)) (tk1 (kK B n) 4)) (bP (uu dd) fun _ => bP (rng (vV B n (t + 1)) lo hi (t + 1)) fun _ => .inr ()) ∧ (∀ t', bP (tk1 (kK B n) k t) (tk1 (kK B n) 3) = .inr t' → r = nI (vV B n (t + 1))) ∧ Same wr11_toldInt σ τ) := by
    suffices hh : Ok (f11_toldInt N (nI lo) (nI hi) σ) (fun r τ => RWt τ B n (bP (bP (tk1 (kK B n) k t) (tk1 (kK B n) 3)) (tk1 (kK B n) 4)) (bP (uu dd) fun _ => bP (rng (vV B n (t + 1)) lo hi (t + 1)) fun _ => .inr ()) ∧ (∀ t', bP (tk1 (kK B n) k t) (tk1 (kK B n) 3) = .inr t' → r = nI (vV B n (t + 1)))) from (hh.fr fun r τ e => fr11_toldInt N e).mono fun r τ ⟨⟨a, b⟩, c⟩ => ⟨a, b, c⟩
    unfold f11_toldInt
    refine Ok.b ((r_goN hR (by omega)).fr fun r τ e => fr11_goesOn N e) ?_
    rintro - τ ⟨t1, t2⟩
    rw [hk] at t1
    have hs1 : ∀ t', tk1 (kK B n) k t = .inr t' → t' = t + 1 := fun t' e => (tk1_ok e).1
    have hW1 : RWt τ B n (tk1 (kK B n) k t) (uu dd) := ⟨t1, fun t' ht' => by
      have := hs1 t' ht'
      exact (hW.cv er_uu).eq (by omega) (t2.on (by decide))⟩
    refine Ok.b (r_bounded hW1 (t := t + 1) hs1 hlo hhi) ?_
    rintro r υ ⟨u1, u2, u3⟩
    have hs2 : ∀ t', bP (tk1 (kK B n) k t) (tk1 (kK B n) 3) = .inr t' → t' = t + 2 := fun t' e => (tk1_st (t := t + 1) hs1 e).2.1
    refine Ok.b (show Ok (f11_must N 4 υ) _ from u1.must (N := N) (t := t + 2) hs2 (k := 4) (by decide) (by decide)) ?_
    rintro - ρ ⟨v1, v2⟩
    refine Ok.ret ⟨v1, fun t' e => ?_⟩
    obtain ⟨a, b, c, -⟩ := tk1_st (t := t + 1) hs1 e
    exact u2 a c
  refine Ok.b (show Ok (f11_toldInt N (nI lo) (nI hi) σ) _ from stp) ?_
  rintro r τ ⟨t1, t2, t3⟩
  rw [s19, ixn (by omega)]
  refine Ok.c (inBn s2 (by decide)) ?_
  rw [z_l_eq]
  have hs1 : ∀ t', tk1 (kK B n) k t = .inr t' → t' = t + 1 := fun t' e => (tk1_ok e).1
  have hs2 : ∀ t', bP (tk1 (kK B n) k t) (tk1 (kK B n) 3) = .inr t' → t' = t + 2 := fun t' e => (tk1_st (t := t + 1) hs1 e).2.1
  have hgp : gPi (kK B n) c k t = bP (bP (bP (tk1 (kK B n) k t) (tk1 (kK B n) 3)) (tk1 (kK B n) 4)) fun t3 => .inr (t3, c, none) := by
    unfold gPi
    rw [bP_assoc, bP_assoc]
  have ks : ∀ v, v < 2 → v ≠ s → kS v σ (sI τ cell s r) := fun v h1 hv => (kS_same t3 (by decide)).tr (kS_w (by unfold oS; omega))
  have kl : EqOn D_lw σ (sI τ cell s r) := by
    rcases hcell with rfl | rfl <;> exact (t3.on (by decide)).tr (EqOn_sIa EqOn.rf (by decide))
  have hX : EqOn (D_X ++ D_WS) τ (sI τ cell s r) := by
    rcases hcell with rfl | rfl <;> exact EqOn_sIa EqOn.rf (by decide)
  have t1' := t1.eq hX
  have hfin := fun t3 (e : bP (bP (tk1 (kK B n) k t) (tk1 (kK B n) 3)) (tk1 (kK B n) 4) = .inr t3) => tk1_st (t := t + 2) hs2 e
  generalize hS : bP (bP (tk1 (kK B n) k t) (tk1 (kK B n) 3)) (tk1 (kK B n) 4) = S at t1' hgp hfin
  rw [hgp]
  cases S with
  | inl e =>
    have hF : FM (sI τ cell s r) B n e := t1'.1
    exact Ok.ret ⟨ks, kl, hF⟩
  | inr t4 =>
    obtain ⟨i1, rfl, i3, i4⟩ := hfin t4 rfl
    have hr := t2 _ i1
    have e1 := t3.on (D := [(160, 1, some 19), (160, 1, some 12), (160, 1, some 20), (168, 2, none), (170, 16, none)]) (by decide)
    have w : ∀ c k, 170 ≤ c → c < 186 → gI τ c k = gI σ c k := fun c k h1 h2 => e1.I (wIn_r 4 rfl h1 h2)
    have g6 : ∀ c k, c ≠ 184 → c ≠ 185 → gI (sI τ cell s r) c k = gI τ c k := fun c k h1 h2 => gI_o (by omega)
    refine Ok.ret ⟨ks, kl, t1'.1, ?_, ⟨s2, by rw [g6 _ _ (by decide) (by decide), e1.I (wIn_s 0 rfl)]; exact s19, ⟨by rw [g6 _ _ (by decide) (by decide), w _ _ (by decide) (by decide)]; exact sc1, by rw [g6 _ _ (by decide) (by decide), w _ _ (by decide) (by decide)]; exact sc2, by rw [g6 _ _ (by decide) (by decide), w _ _ (by decide) (by decide)]; exact sc3, by rw [g6 _ _ (by decide) (by decide), w _ _ (by decide) (by decide)]; exact sc4⟩, by rw [g6 _ _ (by decide) (by decide), e1.I (wIn_s 2 rfl)]; exact s20, by rw [g6 _ _ (by decide) (by decide), e1.I (wIn_s 1 rfl)]; exact s12⟩, hcb, fun d' hd' => ?_⟩
    · refine (t1'.2 _ rfl).cv ?_
      cases dd with
      | inl e => rfl
      | inr d =>
        show er (bP (rng (vV B n (t + 1)) lo hi (t + 1)) fun _ => (.inr () : PR Unit)) = er (sTell (kK B n) (vV B n) (wW B n) d t)
        rw [hT d 0]
        cases rng (vV B n (t + 1)) lo hi (t + 1) <;> rfl
    · obtain ⟨d, hd, hs⟩ := bP_inr hd'
      obtain ⟨q1, q2, q3⟩ := hD d hd
      have hg : gTell (kK B n) (vV B n) c t = .inr (t + 2 + 1, c, none) := by
        unfold gTell
        rw [if_neg (by omega), if_neg (by omega), if_neg (by omega), if_neg (by omega), if_neg (by omega), if_pos (by omega), hk, hgp]
        rfl
      obtain ⟨z1, z2⟩ := sTell_ok q2 q3 hg hs
      refine ⟨?_, z1, z2⟩
      rw [hT d 0] at hs
      obtain ⟨x, hx, hs⟩ := bP_inr hs
      cases hs
      rw [hr, ← (rng_ok hx).1]
      exact hL d x τ (q1.eq w (nF_eq q1.2.2.2.2.1 (e1.sub (by decide))))
theorem LM_set {τ : Mm} {s x : Nat} {d : LD} (h : LM τ s d) : LM (sI τ 184 s (nI x)) s (d.1, (d.2.1.1, x, d.2.1.2.2), d.2.2) ∧ LM (sI τ 185 s (nI x)) s (d.1, (d.2.1.1, d.2.1.2.1, x), d.2.2) := by
  obtain ⟨⟨q1, q2⟩, q3, q4, q5, q6, q7⟩ := h
  have pw : ∀ c v, c = 184 ∨ c = 185 → At (pM (sI τ c s v) s) d.2.2.1 ∧ At (wM (sI τ c s v) s) d.2.2.2.1 ∧ At (gM (sI τ c s v) s) d.2.2.2.2 ∧ At (nF (sI τ c s v)) d.1 := fun c v hc => by
    refine ⟨At_eq q3 fun j a ha => ?_, At_eq q4 fun j a ha => ?_, At_eq q5 fun j a ha => ?_, At_eq q6 fun j a ha => ?_⟩
    · unfold pM at *
      rw [gI_o (by omega), gI_o (by omega), gI_o (by omega)]; exact ha
    · unfold wM at *
      rw [gI_o (by omega), gI_o (by omega)]; exact ha
    · unfold gM at *
      rw [gI_o (by omega), gI_o (by omega), gI_o (by omega), gI_o (by omega), gI_o (by omega)]; exact ha
    · exact ⟨ha.1, by rw [gI_o (by omega)]; exact ha.2⟩
  obtain ⟨a1, a2, a3, a4⟩ := pw 184 (nI x) (Or.inl rfl)
  obtain ⟨c1, c2, c3, c4⟩ := pw 185 (nI x) (Or.inr rfl)
  exact ⟨⟨⟨gI_e, by rw [gI_o (by decide)]; exact q2⟩, a1, a2, a3, a4, q7⟩, ⟨⟨by rw [gI_o (by decide)]; exact q1, gI_e⟩, c1, c2, c3, c4, q7⟩⟩
theorem r_tN {N : Nat} (hN : 4000 ≤ N) {σ : Mm} {B : Nat → Nat} {n s t : Nat} {c : Cn} {dd : PR LD} (h : RD σ B n s t c dd) (hl : ¬ (17 ≤ kK B n t ∧ kK B n t ≤ 20)) : Ok (f11_tellOne N σ) (fun _ τ => tM σ B n s (gTell (kK B n) (vV B n) c t) (bP dd fun d => sTell (kK B n) (vV B n) (wW B n) d t) τ) := by
  have hR := h.1
  have ht := hR.2.2.2.1
  have hkl : kK B n t < 35 := kK_lt
  have hsT : ∀ (g : LD → PR LD), (∀ d, sTell (kK B n) (vV B n) (wW B n) d t = g d) → (bP dd fun d => sTell (kK B n) (vV B n) (wW B n) d t) = bP dd fun d => g d := fun g hg => by
    cases dd with
    | inl e => rfl
    | inr d => exact hg d
  by_cases c13 : kK B n t = 13
  · rw [show gTell (kK B n) (vV B n) c t = gP13 (kK B n) c t by unfold gTell; rw [if_pos c13], hsT _ (fun d => by unfold sTell; rw [if_pos c13])]
    exact r_t13 hN h c13
  by_cases c14 : kK B n t = 14
  · rw [show gTell (kK B n) (vV B n) c t = gP14 (kK B n) c t by unfold gTell; rw [if_neg c13, if_pos c14], hsT _ (fun d => by unfold sTell; rw [if_neg c13, if_pos c14])]
    exact r_t14 hN h c14
  by_cases c15 : kK B n t = 15
  · rw [show gTell (kK B n) (vV B n) c t = gP15 (kK B n) c t by unfold gTell; rw [if_neg c13, if_neg c14, if_pos c15], hsT _ (fun d => by unfold sTell; rw [if_neg c13, if_neg c14, if_pos c15])]
    exact r_t15 hN h c15
  by_cases c16 : kK B n t = 16
  · rw [show gTell (kK B n) (vV B n) c t = gP16 (kK B n) c t by unfold gTell; rw [if_neg c13, if_neg c14, if_neg c15, if_pos c16], hsT _ (fun d => by unfold sTell; rw [if_neg c13, if_neg c14, if_neg c15, if_pos c16])]
    exact r_t16 hN h c16
  by_cases ci : kK B n t = 21 ∨ kK B n t = 22
  · rw [show gTell (kK B n) (vV B n) c t = gPi (kK B n) c (kK B n t) t by unfold gTell; rw [if_neg c13, if_neg c14, if_neg c15, if_neg c16, if_neg hl, if_pos ci]]
    unfold f11_tellOne
    rw [hR.2.2.2.2.1, ixn (by omega), hR.row.1]
    refine Ok.c (inBn (by omega) (by decide)) ?_
    by_cases c21 : kK B n t = 21
    · rw [show nI (km (kK B n t)) = nI 28 by rw [c21]; rfl]
      refine Ok.f (by decide) (Ok.f (by decide) (Ok.f (by decide) (Ok.f (by decide) (Ok.f (by decide) (Ok.f (by decide) (Ok.f (by decide) (Ok.f (by decide) (Ok.t rfl ?_))))))))
      exact r_int (lo := 1) (hi := 4) (k := kK B n t) (cell := 184) (fl := fun d => d) (f := fun d x => (d.1, (d.2.1.1, x, d.2.1.2.2), d.2.2)) (Or.inl rfl) h rfl ci (by decide) (by decide) (fun d _ => by unfold sTell; rw [if_neg c13, if_neg c14, if_neg c15, if_neg c16, if_pos c21]) (fun d x τ hh => (LM_set hh).1)
    · have c22 : kK B n t = 22 := by omega
      rw [show nI (km (kK B n t)) = nI 29 by rw [c22]; rfl]
      refine Ok.f (by decide) (Ok.f (by decide) (Ok.f (by decide) (Ok.f (by decide) (Ok.f (by decide) (Ok.f (by decide) (Ok.f (by decide) (Ok.f (by decide) (Ok.f (by decide) (Ok.t rfl ?_)))))))))
      exact r_int (lo := 0) (hi := 9999) (k := kK B n t) (cell := 185) (fl := fun d => d) (f := fun d x => (d.1, (d.2.1.1, d.2.1.2.1, x), d.2.2)) (Or.inr rfl) h rfl ci (by decide) (by decide) (fun d _ => by unfold sTell; rw [if_neg c13, if_neg c14, if_neg c15, if_neg c16, if_neg c21, if_pos c22]) (fun d x τ hh => (LM_set hh).2)
  rw [show gTell (kK B n) (vV B n) c t = .inl (1, t) by unfold gTell; rw [if_neg c13, if_neg c14, if_neg c15, if_neg c16, if_neg hl, if_neg ci]]
  have hkm := km_lt _ hkl
  have f283 : ∀ x, Ok (f11_tellOne_283 N x σ) (fun _ τ => tM σ B n s (.inl (1, t)) (bP dd fun d => sTell (kK B n) (vV B n) (wW B n) d t) τ) := fun x => by
    rw [f11_tellOne_283]
    refine Ok.b (show Ok (f11_fail N 1 σ) _ from (r_failN (k := 1) hR (Or.inl rfl)).fr fun r υ e => fr11_fail N e) ?_
    rintro - τ ⟨t1, t2⟩
    rw [f11_tellOne_288]
    exact Ok.f t1.n0.2.1 (Ok.ret (tM_F t1 t2 (by decide) (by decide)))
  have f252 : Ok (f11_tellOne_252 N σ) (fun _ τ => tM σ B n s (.inl (1, t)) (bP dd fun d => sTell (kK B n) (vV B n) (wW B n) d t) τ) := by
    rw [f11_tellOne_252, hR.2.2.2.2.1, ixn (by omega), hR.row.1]
    refine Ok.c (inBn (by omega) (by decide)) (Ok.l (Ok.i (fun _ => f283 _) (fun c0 => Ok.c (inBn (by omega) (by decide)) (Ok.f (fun c27 => ?_) (f283 _)))))
    have c27 : nI (km (kK B n t)) ≤ nI 27 := c27
    rw [nI_leI (by omega) (by decide)] at c27
    have hd : ∀ k, k < 35 → km k ≤ 27 → ¬ (nI (km k) - 24 < 0) → 17 ≤ k ∧ k ≤ 20 := by decide
    exact hl (hd _ hkl c27 c0)
  have ne : ∀ j, j < 35 → kK B n t ≠ j → ¬ nI (km (kK B n t)) = nI (km j) := fun j hj hne e => hne (km_inj _ hkl _ hj ((nI_eq (by omega) (by have := km_lt j hj; omega)).mp e))
  unfold f11_tellOne
  rw [hR.2.2.2.2.1, ixn (by omega), hR.row.1]
  refine Ok.c (inBn (by omega) (by decide)) ?_
  exact Ok.f (ne 13 (by decide) c13) (Ok.f (ne 14 (by decide) c14) (Ok.f (ne 15 (by decide) c15) (Ok.f (ne 16 (by decide) c16) (Ok.i (fun _ => f252) fun _ => Ok.i (fun _ => f252) fun _ => Ok.i (fun _ => f252) fun _ => Ok.i (fun _ => f252) fun _ => Ok.f (ne 21 (by decide) (by omega)) (Ok.f (ne 22 (by decide) (by omega)) f252)))))
