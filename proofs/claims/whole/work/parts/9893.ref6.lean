-- THE REFERENCE'S TELLS: a giving; all that are no laws
theorem D_lw_g {id k : Nat} (h : wIn D_lw id k) : wIn D_g id k := by
  obtain ⟨a, ha, hb, hc⟩ := h
  simp only [D_lw, List.mem_cons, List.not_mem_nil, or_false] at ha
  rcases ha with rfl | rfl | rfl
  · exact wIn_r 7 rfl (by have : 186 ≤ id := hb.1; omega) (by have : id < 186 + 9 := hb.2; omega)
  · have h1 : id = 160 := by have h1 : 160 ≤ id := hb.1; have h2 : id < 160 + 1 := hb.2; omega
    rcases hc with hc | hc
    · cases hc
    · cases hc; subst h1; exact wIn_s 3 rfl
  · have h1 : id = 160 := by have h1 : 160 ≤ id := hb.1; have h2 : id < 160 + 1 := hb.2; omega
    rcases hc with hc | hc
    · cases hc
    · cases hc; subst h1; exact wIn_s 4 rfl
theorem r_bGiving {N : Nat} (hN : 4000 ≤ N) {σ : Mm} {B : Nat → Nat} {n s t : Nat} {c : Cn} {dd : PR LD} (h : RD σ B n s (t + 1) c dd) (hk : kK B n t = 16) (ht : tk1 (kK B n) 16 t = .inr (t + 1)) (hm0 : rmF (c.2.2.2 + 1) 12 t = .inr ()) : Ok (f11_tellGiving N σ) (fun _ τ => tM σ B n s (gP16 (kK B n) c t) (bP dd fun d => sP16 (kK B n) (vV B n) (wW B n) d t) τ) := by
  have hnm := h.nm
  obtain ⟨hR, hW, hC, hcb, hD⟩ := id h
  obtain ⟨s2, s19, ⟨sc1, sc2, sc3, sc4⟩, s20, s12⟩ := id hC
  obtain ⟨b1, b2, b3, b4⟩ := id hcb
  have hcc : c.2.2.2 < 12 := by have := rmF_c hm0; omega
  unfold f11_tellGiving
  rw [s19, ixn (by omega), sc4]
  refine Ok.c (inBn s2 (by decide)) ?_
  rw [z_l_eq, show (12 : Int32) * nI s + nI c.2.2.2 = nI (12 * s + c.2.2.2) by rw [show (12 : Int32) = nI 12 from rfl, pk_mul, nI_add]]
  have hx24 : 12 * s + c.2.2.2 < 24 := by omega
  generalize hQ : 12 * s + c.2.2.2 = X at hx24
  have st2 : ∀ t', bP (.inr (t + 1) : PR Nat) (tk1 (kK B n) 2) = .inr t' → t' = t + 2 ∧ kK B n (t + 1) = 2 := fun t' e => by
    obtain ⟨-, a, b, -⟩ := tk1_st (t := t + 1) (fun t' e => by cases e; rfl) e
    exact ⟨a, b⟩
  have st3 : ∀ t', bP (bP (.inr (t + 1) : PR Nat) (tk1 (kK B n) 2)) (tk1 (kK B n) 2) = .inr t' → t' = t + 3 ∧ bP (.inr (t + 1) : PR Nat) (tk1 (kK B n) 2) = .inr (t + 2) ∧ kK B n (t + 2) = 2 := fun t' e => by
    obtain ⟨a, b, c, -⟩ := tk1_st (t := t + 2) (fun t' e => (st2 t' e).1) e
    exact ⟨b, a, c⟩
  have st4 : ∀ t', bP (bP (bP (.inr (t + 1) : PR Nat) (tk1 (kK B n) 2)) (tk1 (kK B n) 2)) (tk1 (kK B n) 2) = .inr t' → t' = t + 4 ∧ bP (bP (.inr (t + 1) : PR Nat) (tk1 (kK B n) 2)) (tk1 (kK B n) 2) = .inr (t + 3) ∧ kK B n (t + 3) = 2 := fun t' e => by
    obtain ⟨a, b, c, -⟩ := tk1_st (t := t + 3) (fun t' e => (st3 t' e).1) e
    exact ⟨b, a, c⟩
  have hgp : gP16 (kK B n) c t = bP (bP (bP (bP (bP (bP (bP (.inr (t + 1) : PR Nat) (tk1 (kK B n) 2)) (tk1 (kK B n) 2)) (tk1 (kK B n) 2)) (tk1 (kK B n) 3)) (nms (kK B n) 401)) (tk1 (kK B n) 4)) fun t7 => .inr (t7, (c.1, c.2.1, c.2.2.1, c.2.2.2 + 1), none) := by
    unfold gP16
    rw [hm0, bP_assoc, bP_assoc, bP_assoc, bP_assoc, bP_assoc, bP_assoc]
    show bP (tk1 (kK B n) 16 t) _ = _
    rw [ht]
  -- the end of it
  have fin : ∀ (τ : Mm) (S7 : PR Nat) (w7 : PR Unit), (∃ t6, ∀ t', S7 = .inr t' → t' = t6) → gP16 (kK B n) c t = bP (bP S7 (tk1 (kK B n) 4)) (fun t7 => .inr (t7, (c.1, c.2.1, c.2.2.1, c.2.2.2 + 1), none)) → RWt τ B n S7 w7 → er w7 = er (bP dd fun d => sP16 (kK B n) (vV B n) (wW B n) d t) → EqOn D_g σ τ → (∀ e k, 179 ≤ e → e ≤ 183 → k ≠ X → gI τ e k = gI σ e k) → (∀ d p a b g q t', dd = .inr d → S7 = .inr t' → sP16 (kK B n) (vV B n) (wW B n) d t = .inr (d.1, d.2.1, d.2.2.1, d.2.2.2.1, (p, a, b, g, q) :: d.2.2.2.2) → gI τ 179 X = nI p ∧ gI τ 180 X = nI a ∧ gI τ 181 X = nI b ∧ gI τ 182 X = nI g ∧ gI τ 183 X = nI q) → Ok (f11_tellGiving_189 N τ) (fun _ τ => tM σ B n s (gP16 (kK B n) c t) (bP dd fun d => sP16 (kK B n) (vV B n) (wW B n) d t) τ) := by
    rintro τ S7 w7 ⟨t6, ht6⟩ hg7 hW7 hE hEg hCe hV
    rw [f11_tellGiving_189]
    refine Ok.b (show Ok (f11_must N 4 τ) _ from hW7.must (N := N) (t := t6) ht6 (k := 4) (by decide) (by decide)) ?_
    rintro - υ ⟨hW8, hS8⟩
    have eg : EqOn D_g σ υ := hEg.tr (hS8.on (by decide))
    have ce : ∀ e k, 179 ≤ e → e ≤ 183 → gI υ e k = gI τ e k := fun e k h1 h2 => (hS8.on (D := [(179, 5, none)]) (by decide)).I (wIn_r 0 rfl h1 (by omega))
    have kl : EqOn D_lw σ υ := fun id k hi => eg id k (D_lw_g hi)
    have ks : ∀ v, v < 2 → v ≠ s → kS v σ υ := fun v h1 hv e k ho => by
      rcases (show (170 ≤ e ∧ e < 179) ∨ (179 ≤ e ∧ e ≤ 183) ∨ (184 ≤ e ∧ e < 195) by unfold oS at ho; omega) with e1 | e1 | e1
      · exact eg.I (wIn_r 6 rfl e1.1 e1.2)
      · rw [ce e k e1.1 e1.2]
        exact hCe e k e1.1 e1.2 (by unfold oS at ho; omega)
      · exact eg.I (wIn_r 7 rfl e1.1 e1.2)
    rw [hg7]
    have hst8 := fun t7 (e : bP S7 (tk1 (kK B n) 4) = .inr t7) => tk1_st (t := t6) ht6 e
    generalize hS : bP S7 (tk1 (kK B n) 4) = S8 at hW8 hg7 hst8
    cases S8 with
    | inl e =>
      have hF : FM υ B n e := hW8.1
      exact Ok.f hF.n0.1 (Ok.ret ⟨ks, kl, hF⟩)
    | inr t7 =>
      obtain ⟨i1, i2, i3, i4⟩ := hst8 t7 rfl
      have hR8 : RT υ B n t7 := hW8.1
      have hW8' := hW8.2 _ rfl
      have f19 : gI υ 160 19 = nI s := by rw [eg.I (wIn_s 0 rfl)]; exact s19
      have w17 : ∀ e k, 170 ≤ e → e < 179 → gI υ e k = gI σ e k := fun e k h1 h2 => eg.I (wIn_r 6 rfl h1 h2)
      have w18 : ∀ e k, 184 ≤ e → e < 195 → gI υ e k = gI σ e k := fun e k h1 h2 => eg.I (wIn_r 7 rfl h1 h2)
      have fcnt : gI υ 178 s = nI c.2.2.2 := by rw [w17 _ _ (by decide) (by decide)]; exact sc4
      refine Ok.t hR8.2.2.2.2.2 ?_
      rw [f19, ixn (by omega), fcnt, nI_1]
      refine Ok.c (inBn s2 (by decide)) (Ok.c (inBn s2 (by decide)) ?_)
      rw [z_l_eq]
      refine Ok.ret ⟨fun v h1 hv => (ks v h1 hv).tr (kS_w (by unfold oS; omega)), kl.tr (EqOn_sIa EqOn.rf (by decide)), ?_, ?_, ?_, ?_, ?_⟩
      · exact RX.eq (s := .inr t7) hR8 (EqOn_sIa EqOn.rf (by decide))
      · exact (hW8'.cv hE).eq (Nat.le_refl _) (EqOn_sIa EqOn.rf (by decide))
      · exact ⟨s2, by rw [gI_o (by decide)]; exact f19, ⟨by rw [gI_o (by decide), w17 _ _ (by decide) (by decide)]; exact sc1, by rw [gI_o (by decide), w17 _ _ (by decide) (by decide)]; exact sc2, by rw [gI_o (by decide), w17 _ _ (by decide) (by decide)]; exact sc3, gI_e⟩, by rw [gI_o (by decide), eg.I (wIn_s 2 rfl)]; exact s20, by rw [gI_o (by decide), eg.I (wIn_s 1 rfl)]; exact s12⟩
      · exact ⟨b1, b2, b3, hcc⟩
      · intro d' hd'
        obtain ⟨d, hd, hs⟩ := bP_inr hd'
        have hst : sTell (kK B n) (vV B n) (wW B n) d t = .inr d' := by
          unfold sTell
          rw [if_neg (by omega), if_neg (by omega), if_neg (by omega), if_pos hk]
          exact hs
        obtain ⟨⟨⟨q1, q2⟩, q3, q4, q5, q6, q7, q8⟩, q9, q10⟩ := hD d hd
        have hg : gTell (kK B n) (vV B n) c t = .inr (t7, (c.1, c.2.1, c.2.2.1, c.2.2.2 + 1), none) := by
          unfold gTell
          rw [if_neg (by omega), if_neg (by omega), if_neg (by omega), if_pos hk, hg7]
          rfl
        obtain ⟨z1, z2⟩ := sTell_ok q9 q10 hg hst
        refine ⟨?_, z1, z2⟩
        have hs0 := hs
        obtain ⟨p, hp, hs⟩ := bP_inr hs
        obtain ⟨a, ha, hs⟩ := bP_inr hs
        obtain ⟨b, hb, hs⟩ := bP_inr hs
        split at hs
        · cases hs
        obtain ⟨g, hg2, hs⟩ := bP_inr hs
        obtain ⟨q, hq, hs⟩ := bP_inr hs
        have hs : (.inr (d.1, d.2.1, d.2.2.1, d.2.2.2.1, (p, a, b, g, q) :: d.2.2.2.2) : PR LD) = .inr d' := hs
        cases hs
        obtain ⟨v1, v2, v3, v4, v5⟩ := hV d p a b g q t6 hd i1 hs0
        have hXd : X = 12 * s + d.2.2.2.2.length := by rw [← hQ, q9.2.2.2.1]
        have cc : ∀ e k, 179 ≤ e → e ≤ 183 → gI (sI υ 178 s (nI (c.2.2.2 + 1))) e k = gI τ e k := fun e k h1 h2 => by
          rw [gI_o (by omega)]; exact ce e k h1 h2
        refine ⟨⟨by rw [gI_o (by decide), w18 _ _ (by decide) (by decide)]; exact q1, by rw [gI_o (by decide), w18 _ _ (by decide) (by decide)]; exact q2⟩, q3.imp fun j x _ hx => ?_, q4.imp fun j x _ hx => ?_, ⟨⟨?_, ?_, ?_, ?_, ?_⟩, q5.imp fun j x hj hx => ?_⟩, ?_, q7, q8⟩
        · unfold pM at *
          rw [gI_o (by decide), gI_o (by decide), gI_o (by decide), w17 _ _ (by decide) (by decide), w17 _ _ (by decide) (by decide), w17 _ _ (by decide) (by decide)]; exact hx
        · unfold wM at *
          rw [gI_o (by decide), gI_o (by decide), w17 _ _ (by decide) (by decide), w17 _ _ (by decide) (by decide)]; exact hx
        · rw [cc _ _ (by decide) (by decide), ← hXd]; exact v1
        · rw [cc _ _ (by decide) (by decide), ← hXd]; exact v2
        · rw [cc _ _ (by decide) (by decide), ← hXd]; exact v3
        · rw [cc _ _ (by decide) (by decide), ← hXd]; exact v4
        · rw [cc _ _ (by decide) (by decide), ← hXd]; exact v5
        · unfold gM at *
          rw [cc _ _ (by decide) (by decide), cc _ _ (by decide) (by decide), cc _ _ (by decide) (by decide), cc _ _ (by decide) (by decide), cc _ _ (by decide) (by decide), hCe _ _ (by decide) (by decide) (by omega), hCe _ _ (by decide) (by decide) (by omega), hCe _ _ (by decide) (by decide) (by omega), hCe _ _ (by decide) (by decide) (by omega), hCe _ _ (by decide) (by decide) (by omega)]; exact hx
        · exact (nF_eq q6 (eg.sub (by decide))).imp fun j x _ hx => ⟨hx.1, by rw [gI_o (by decide)]; exact hx.2⟩
  -- the three names
  refine Ok.b (show Ok (f11_known N 10 σ) _ from r_known hN (k := 14) h.rw (t := t + 1) (fun t' e => by cases e; rfl) hnm (by decide) (by decide)) ?_
  rintro r1 τ1 ⟨⟨hW1, hr1, -, -⟩, hS1⟩
  generalize hw1 : (bP (uu dd) fun _ => bP (knw (nmOf dd) (wW B n (t + 1)) 14 (t + 1)) fun _ => (.inr () : PR Unit)) = w1 at hW1
  refine Ok.c (inBn hx24 (by decide)) ?_
  rw [z_l_eq, ixn (by omega)]
  have hW1' := hW1.eq (τ := sI τ1 179 X r1) (EqOn_sIa EqOn.rf (by decide))
  have eg1 : EqOn D_g σ (sI τ1 179 X r1) := (hS1.on (by decide)).tr (EqOn_sIa EqOn.rf (by decide))
  have ce1 : Cel σ (sI τ1 179 X r1) X _ := ((Cel.rf (σ := σ) (X := X)).fr (hS1.on (by decide))).w (c0 := 179) (r := r1)
  have hn1 : NM (sI τ1 179 X r1) w1 (c.1 + c.2.1 + c.2.2.1) (nmOf dd) := (hnm.eq (eg1.sub (by decide))).w fun u hu => by
    rw [hu] at hw1
    obtain ⟨u', hu', -⟩ := bP_inr hw1
    exact hu'
  generalize hu1 : sI τ1 179 X r1 = υ1 at hW1' eg1 ce1 hn1
  refine Ok.b (show Ok (f11_known N 0 υ1) _ from r_known hN (k := 13) hW1' (t := t + 2) (fun t' e => (st2 t' e).1) hn1 (by decide) (by decide)) ?_
  rintro r2 τ2 ⟨⟨hW2, hr2, -, -⟩, hS2⟩
  generalize hw2 : (bP w1 fun _ => bP (knw (nmOf dd) (wW B n (t + 2)) 13 (t + 2)) fun _ => (.inr () : PR Unit)) = w2 at hW2
  refine Ok.c (inBn hx24 (by decide)) ?_
  rw [z_l_eq]
  have hW2' := hW2.eq (τ := sI τ2 180 X r2) (EqOn_sIa EqOn.rf (by decide))
  have eg2 : EqOn D_g σ (sI τ2 180 X r2) := (eg1.tr (hS2.on (by decide))).tr (EqOn_sIa EqOn.rf (by decide))
  have ce2 : Cel σ (sI τ2 180 X r2) X _ := (ce1.fr (hS2.on (by decide))).w (c0 := 180) (r := r2)
  have hn2 : NM (sI τ2 180 X r2) w2 (c.1 + c.2.1 + c.2.2.1) (nmOf dd) := (hnm.eq (eg2.sub (by decide))).w fun u hu => by
    rw [hu] at hw2
    obtain ⟨u', hu', -⟩ := bP_inr hw2
    rw [hu'] at hw1
    obtain ⟨u2, hu2, -⟩ := bP_inr hw1
    exact hu2
  generalize hu2 : sI τ2 180 X r2 = υ2 at hW2' eg2 ce2 hn2
  rw [z_l_eq]
  have hx3 : ∀ t', bP (bP (.inr (t + 1) : PR Nat) (tk1 (kK B n) 2)) (tk1 (kK B n) 2) = .inr t' → gI υ2 160 11 = nI (t + 3) := fun t' e => by
    have h1 := hW2'.1
    rw [e, (st3 t' e).1] at h1
    exact h1.2.2.2.2.1
  generalize hx2 : gI υ2 160 11 = x2 at hx3
  refine Ok.b (show Ok (f11_known N 0 υ2) _ from r_known hN (k := 13) hW2' (t := t + 3) (fun t' e => (st3 t' e).1) hn2 (by decide) (by decide)) ?_
  rintro r3 τ3 ⟨⟨hW3, hr3, hq3, -⟩, hS3⟩
  generalize hw3 : (bP w2 fun _ => bP (knw (nmOf dd) (wW B n (t + 3)) 13 (t + 3)) fun _ => (.inr () : PR Unit)) = w3 at hW3 hq3
  refine Ok.c (inBn hx24 (by decide)) ?_
  rw [z_l_eq]
  have hW3' := hW3.eq (τ := sI τ3 181 X r3) (EqOn_sIa EqOn.rf (by decide))
  have hq3' : ∀ t', bP (bP (bP (.inr (t + 1) : PR Nat) (tk1 (kK B n) 2)) (tk1 (kK B n) 2)) (tk1 (kK B n) 2) = .inr t' → ¬ r3 < 0 → w3 = w2 ∧ WSt (sI τ3 181 X r3) B n (t + 3) w2 := fun t' e e2 => ⟨(hq3 t' e e2).1, (hq3 t' e e2).2.eq (Nat.le_refl _) (EqOn_sIa EqOn.rf (by decide))⟩
  have eg3 : EqOn D_g σ (sI τ3 181 X r3) := (eg2.tr (hS3.on (by decide))).tr (EqOn_sIa EqOn.rf (by decide))
  have ce3 : Cel σ (sI τ3 181 X r3) X _ := (ce2.fr (hS3.on (by decide))).w (c0 := 181) (r := r3)
  have wu3 : ∀ u, w3 = .inr u → w2 = .inr () ∧ w1 = .inr () ∧ uu dd = .inr () := fun u hu => by
    rw [hu] at hw3
    obtain ⟨u2, hu2, -⟩ := bP_inr hw3
    rw [hu2] at hw2
    obtain ⟨u1, hu1, -⟩ := bP_inr hw2
    rw [hu1] at hw1
    obtain ⟨u0, hu0, -⟩ := bP_inr hw1
    exact ⟨hu2, hu1, hu0⟩
  have hn3 : NM (sI τ3 181 X r3) w3 (c.1 + c.2.1 + c.2.2.1) (nmOf dd) := (hnm.eq (eg3.sub (by decide))).w fun u hu => (wu3 u hu).2.2
  generalize hu3 : sI τ3 181 X r3 = υ3 at hW3' hq3' eg3 ce3 hn3
  have g181 : gI υ3 181 X = r3 := by have := ce3 181 X (by decide) (by decide); rw [this]; simp
  have g180 : gI υ3 180 X = r2 := by have := ce3 180 X (by decide) (by decide); rw [this]; simp
  -- the years, the witnesses
  have rest : ∀ (ρ : Mm) (w4 : PR Unit), RWt ρ B n (bP (bP (bP (.inr (t + 1) : PR Nat) (tk1 (kK B n) 2)) (tk1 (kK B n) 2)) (tk1 (kK B n) 2)) w4 → (∀ u, w4 = .inr u → w3 = .inr ()) → (∀ t', bP (bP (bP (.inr (t + 1) : PR Nat) (tk1 (kK B n) 2)) (tk1 (kK B n) 2)) (tk1 (kK B n) 2) = .inr t' → w4 = bP w3 fun _ => if r3 = r2 then .inl (3, t + 3) else .inr ()) → Same [(160, 1, some 15), (160, 1, some 16)] υ3 ρ → Ok (f11_tellGiving_94 N (nI X) ρ) (fun _ τ => tM σ B n s (gP16 (kK B n) c t) (bP dd fun d => sP16 (kK B n) (vV B n) (wW B n) d t) τ) := by
    intro ρ w4 hW4 hw43 hw4 hS4
    rw [f11_tellGiving_94]
    refine Ok.b (show Ok (f11_bounded N 0 99 ρ) _ from r_bounded (lo := 0) (hi := 99) hW4 (t := t + 4) (fun t' e => (st4 t' e).1) (by decide) (by decide)) ?_
    rintro r5 τ5 ⟨hW5, hr5, hS5⟩
    generalize hw5 : (bP w4 fun _ => bP (rng (vV B n (t + 4)) 0 99 (t + 4)) fun _ => (.inr () : PR Unit)) = w5 at hW5
    refine Ok.c (inBn hx24 (by decide)) ?_
    rw [z_l_eq, ixn (by omega)]
    refine Ok.c (inBn hx24 (by decide)) ?_
    rw [z_l_eq]
    have hW5' := (hW5.eq (τ := sI τ5 182 X r5) (EqOn_sIa EqOn.rf (by decide))).eq (τ := sI (sI τ5 182 X r5) 183 X 0) (EqOn_sIa EqOn.rf (by decide))
    have eg5 : EqOn D_g σ (sI (sI τ5 182 X r5) 183 X 0) := (((eg3.tr (hS4.on (by decide))).tr (hS5.on (by decide))).tr (EqOn_sIa EqOn.rf (by decide))).tr (EqOn_sIa EqOn.rf (by decide))
    have ce5 : Cel σ (sI (sI τ5 182 X r5) 183 X 0) X _ := (((ce3.fr (hS4.on (by decide))).fr (hS5.on (by decide))).w (c0 := 182) (r := r5)).w (c0 := 183) (r := 0)
    have hn5 : NM (sI (sI τ5 182 X r5) 183 X 0) w5 (c.1 + c.2.1 + c.2.2.1) (nmOf dd) := (hnm.eq (eg5.sub (by decide))).w fun u hu => by
      rw [hu] at hw5
      obtain ⟨u4, hu4, -⟩ := bP_inr hw5
      exact (wu3 () (hw43 u4 hu4)).2.2
    generalize hu5 : sI (sI τ5 182 X r5) 183 X 0 = υ5 at hW5' eg5 ce5 hn5
    have ceX : ∀ e k, 179 ≤ e → e ≤ 183 → k ≠ X → gI υ5 e k = gI σ e k := fun e k h1 h2 h3 => by
      have := ce5 e k h1 h2
      rw [this]
      rcases (show e = 179 ∨ e = 180 ∨ e = 181 ∨ e = 182 ∨ e = 183 by omega) with rfl | rfl | rfl | rfl | rfl <;> simp [h3]
    have v179 : gI υ5 179 X = r1 := by have := ce5 179 X (by decide) (by decide); rw [this]; simp
    have v180 : gI υ5 180 X = r2 := by have := ce5 180 X (by decide) (by decide); rw [this]; simp
    have v181 : gI υ5 181 X = r3 := by have := ce5 181 X (by decide) (by decide); rw [this]; simp
    have v182 : gI υ5 182 X = r5 := by have := ce5 182 X (by decide) (by decide); rw [this]; simp
    have v183 : gI υ5 183 X = nI 0 := by have := ce5 183 X (by decide) (by decide); rw [this]; simp; rfl
    have hfin5 := fun t5 (e : bP (bP (bP (bP (.inr (t + 1) : PR Nat) (tk1 (kK B n) 2)) (tk1 (kK B n) 2)) (tk1 (kK B n) 2)) (tk1 (kK B n) 3) = .inr t5) => tk1_st (t := t + 4) (fun t' e => (st4 t' e).1) e
    cases hm5 : bP (bP (bP (bP (.inr (t + 1) : PR Nat) (tk1 (kK B n) 2)) (tk1 (kK B n) 2)) (tk1 (kK B n) 2)) (tk1 (kK B n) 3) with
    | inl e =>
      rw [hm5] at hW5' hgp
      obtain ⟨M, rfl⟩ : ∃ M, N = M + 1 := ⟨N - 1, by omega⟩
      rw [f11_tellGiving_114]
      have hF : FM υ5 B n e := hW5'.1
      refine Ok.f hF.n0.1 ?_
      rw [f11_tellGiving_189]
      refine Ok.b (show Ok (f11_must (M + 1) 4 υ5) _ from r_must (s := .inl e) (k := 4) hF (by decide) (by decide)) ?_
      rintro - ρ2 ⟨hF2, hS6⟩
      have hF2 : FM ρ2 B n e := hF2
      refine Ok.f hF2.n0.1 (Ok.ret ⟨fun v h1 hv e k ho => ?_, ?_, ?_⟩)
      · rw [(hS6.on (D := [(170, 25, none)]) (by decide)).I (wIn_r 0 rfl (by unfold oS at ho; omega) (by unfold oS at ho; omega))]
        rcases (show (170 ≤ e ∧ e < 179) ∨ (179 ≤ e ∧ e ≤ 183) ∨ (184 ≤ e ∧ e < 195) by unfold oS at ho; omega) with e1 | e1 | e1
        · exact eg5.I (wIn_r 6 rfl e1.1 e1.2)
        · exact ceX e k e1.1 e1.2 (by unfold oS at ho; omega)
        · exact eg5.I (wIn_r 7 rfl e1.1 e1.2)
      · exact EqOn.tr (fun id k hi => eg5 id k (D_lw_g hi)) (hS6.on (by decide))
      · rw [hgp]
        exact hF2
    | inr t5 =>
      obtain ⟨i1, rfl, i3, i4⟩ := hfin5 t5 hm5
      rw [hm5] at hW5'
      obtain ⟨-, j1, j2⟩ := st4 _ i1
      obtain ⟨-, j3, j4⟩ := st3 _ j1
      have hkk1 := (st2 _ j3).2
      refine r_gLoop hN hx24 (σ0 := υ5) (f := 401) (t := t + 4 + 1) (fu := N) (ss := 0) (l := nmOf dd) (by omega) (by omega) hW5' hn5 (fun u hu => ⟨v183, by decide⟩) EqOn.rf (fun _ _ _ _ _ => rfl) ?_
      intro ρ2 p1 p2 p3 p4
      refine fin ρ2 (nms (kK B n) 401 (t + 4 + 1)) _ ?_ ?_ p1 ?_ (eg5.tr p3) (fun e k h1 h2 h3 => by rw [p4 e k h1 h2 (by omega)]; exact ceX e k h1 h2 h3) ?_
      · cases hnn : nms (kK B n) 401 (t + 4 + 1) with
        | inl e => exact ⟨0, fun t' e => by cases e⟩
        | inr t6 => exact ⟨t6, fun t' e => by cases e; rfl⟩
      · rw [hgp, hm5]; rfl
      · rw [← hw5, hw4 _ i1, ← hw3, ← hw2, ← hw1]
        cases dd with
        | inl e => rfl
        | inr d =>
          show er (bP (bP (bP (bP (bP (bP (knw d.1 (wW B n (t + 1)) 14 (t + 1)) fun _ => (.inr () : PR Unit)) _) _) _) _) _) = er (sP16 (kK B n) (vV B n) (wW B n) d t)
          unfold sP16
          cases hp : knw d.1 (wW B n (t + 1)) 14 (t + 1) with
          | inl e => simp [bP, er]
          | inr p =>
            cases ha : knw d.1 (wW B n (t + 2)) 13 (t + 2) with
            | inl e => simp [bP, er, nmOf, ha]
            | inr a =>
              cases hb : knw d.1 (wW B n (t + 3)) 13 (t + 3) with
              | inl e => simp [bP, er, nmOf, ha, hb]
              | inr b =>
                have lt10 : ∀ {w s t i}, knw d.1 w s t = .inr i → i < 10 := fun hkn => by
                  obtain ⟨b, hb, e⟩ := knw_mem hkn
                  have := ((hnm.2.2 () rfl).2.2.2.2 b hb).2.2
                  rw [e] at this
                  exact this
                have hu1 : w1 = .inr () := by rw [← hw1]; show (bP (knw d.1 (wW B n (t + 1)) 14 (t + 1)) fun _ => (.inr () : PR Unit)) = _; rw [hp]; rfl
                have hu2 : w2 = .inr () := by rw [← hw2, hu1]; show (bP (knw d.1 (wW B n (t + 2)) 13 (t + 2)) fun _ => (.inr () : PR Unit)) = _; rw [ha]; rfl
                have e2 : r2 = nI a := hr2 () a _ hu1 j1 ha
                have e3 : r3 = nI b := hr3 () b _ hu2 i1 hb
                have hab : (r3 = r2) = (a = b) := by
                  rw [e2, e3]
                  exact propext ⟨fun e => ((nI_eq (by have := lt10 hb; omega) (by have := lt10 ha; omega)).mp e).symm, fun e => by rw [e]⟩
                by_cases cab : a = b
                · simp [bP, er, nmOf, ha, hb, hab, cab]
                · cases hg : rng (vV B n (t + 4)) 0 99 (t + 4) with
                  | inl e => simp [bP, er, nmOf, ha, hb, hab, cab, hg]
                  | inr g =>
                    cases hq : wset (kK B n) (wW B n) d.1 401 (t + 5) 0 with
                    | inl e => simp [bP, er, nmOf, ha, hb, hab, cab, hg, hq]
                    | inr q => simp [bP, er, nmOf, ha, hb, hab, cab, hg, hq]
      · intro d p a b g q t' hd hS7 hs
        have hnd : nmOf dd = d.1 := by rw [hd]; rfl
        obtain ⟨p', hp, hs⟩ := bP_inr hs
        obtain ⟨a', ha, hs⟩ := bP_inr hs
        obtain ⟨b', hb, hs⟩ := bP_inr hs
        split at hs
        · cases hs
        rename_i hab
        obtain ⟨g', hg, hs⟩ := bP_inr hs
        obtain ⟨q', hq, hs⟩ := bP_inr hs
        have hs : (.inr (d.1, d.2.1, d.2.2.1, d.2.2.2.1, (p', a', b', g', q') :: d.2.2.2.2) : PR LD) = .inr (d.1, d.2.1, d.2.2.1, d.2.2.2.1, (p, a, b, g, q) :: d.2.2.2.2) := hs
        cases hs
        have hu0 : uu dd = .inr () := by rw [hd]; rfl
        have hu1 : w1 = .inr () := by rw [← hw1, hu0, hnd, hp]; rfl
        have hu2 : w2 = .inr () := by rw [← hw2, hu1, hnd, ha]; rfl
        have hu3 : w3 = .inr () := by rw [← hw3, hu2, hnd, hb]; rfl
        have e1 : r1 = nI p := hr1 () p _ hu0 j3 (by rw [hnd]; exact hp)
        have e2 : r2 = nI a := hr2 () a _ hu1 j1 (by rw [hnd]; exact ha)
        have e3 : r3 = nI b := hr3 () b _ hu2 i1 (by rw [hnd]; exact hb)
        have e5 : r5 = nI g := by rw [hr5 i1 i3, (rng_ok hg).1]
        have lt10 : ∀ {w s t i}, knw d.1 w s t = .inr i → i < 10 := fun hkn => by
          obtain ⟨b, hb, e⟩ := knw_mem hkn
          have := ((hnm.2.2 () hu0).2.2.2.2 b (by rw [hnd]; exact hb)).2.2
          rw [e] at this
          exact this
        have hu4 : w4 = .inr () := by
          rw [hw4 _ i1, hu3]
          show (if r3 = r2 then _ else _) = _
          rw [if_neg]
          rw [e2, e3]
          intro e
          exact hab ((nI_eq (by have := lt10 hb; omega) (by have := lt10 ha; omega)).mp e).symm
        have hu5 : w5 = .inr () := by rw [← hw5, hu4, hg]; rfl
        have kp : ∀ e, 179 ≤ e → e ≤ 182 → gI ρ2 e X = gI υ5 e X := fun e h1 h2 => p4 e X h1 (by omega) (by omega)
        exact ⟨by rw [kp _ (by decide) (by decide), v179]; exact e1, by rw [kp _ (by decide) (by decide), v180]; exact e2, by rw [kp _ (by decide) (by decide), v181]; exact e3, by rw [kp _ (by decide) (by decide), v182]; exact e5, p2 () q hu5 ⟨t', hS7⟩ (by rw [hnd]; exact hq)⟩
  -- who gets it, who gives it
  rw [g181, g180]
  cases hm4 : bP (bP (bP (.inr (t + 1) : PR Nat) (tk1 (kK B n) 2)) (tk1 (kK B n) 2)) (tk1 (kK B n) 2) with
  | inl e =>
    have hF : FM υ3 B n e := by have := hW3'.1; rw [hm4] at this; exact this
    refine Ok.f hF.n0.1 (rest υ3 w3 hW3' (fun u hu => hu) (fun t' e => ?_) (fun _ _ _ => ⟨rfl, rfl, rfl⟩))
    rw [hm4] at e
    cases e
  | inr t4 =>
    obtain ⟨rfl, j1, j2⟩ := st4 _ hm4
    have hR3 : RT υ3 B n (t + 4) := by have := hW3'.1; rw [hm4] at this; exact this
    refine Ok.t hR3.2.2.2.2.2 (Ok.c (inBn hx24 (by decide)) (Ok.i (fun hr => ?_) (fun hr => Ok.c (inBn hx24 (by decide)) (Ok.c (inBn hx24 (by decide)) (Ok.i (fun he => ?_) (fun he => ?_))))))
    · refine rest υ3 w3 hW3' (fun u hu => hu) (fun t' _ => ?_) (fun _ _ _ => ⟨rfl, rfl, rfl⟩)
      cases w3 with
      | inl e => rfl
      | inr u =>
        exfalso
        obtain ⟨x1, x2, x3⟩ := wu3 u rfl
        rw [x1] at hw3
        obtain ⟨b, hb, -⟩ := bP_inr (show bP (knw (nmOf dd) (wW B n (t + 3)) 13 (t + 3)) _ = _ from hw3)
        have := hr3 () b _ x1 hm4 hb
        rw [this] at hr
        have hb10 : b < 10 := by
          obtain ⟨a, ha, e⟩ := knw_mem hb
          have := ((hnm.2.2 () x3).2.2.2.2 a ha).2.2
          rw [e] at this
          exact this
        exact nI_pos (by omega) hr
    · obtain ⟨y1, y2⟩ := hq3' _ hm4 hr
      have hx2' := hx3 _ j1
      rw [hx2']
      refine Ok.b (show Ok (f11_wrong N 3 (nI (t + 3)) υ3) _ from r_wrong (k := 3) (j := t + 3) hR3 (by omega) y2 (by decide) (by decide)) ?_
      rintro - ρ ⟨u1, u2⟩
      refine rest ρ (bP w2 fun _ => .inl (3, t + 3)) ⟨?_, fun t' ht' => ?_⟩ (fun u hu => ?_) (fun t' _ => ?_) u2
      · rw [hm4]
        exact RX.eq (s := .inr (t + 4)) hR3 (u2.on (by decide))
      · rw [hm4] at ht'
        cases ht'
        exact u1
      · obtain ⟨a, -, e⟩ := bP_inr hu
        cases e
      · rw [y1, if_pos he]
    · refine rest υ3 w3 hW3' (fun u hu => hu) (fun t' _ => ?_) (fun _ _ _ => ⟨rfl, rfl, rfl⟩)
      rw [if_neg he]
      cases w3 <;> rfl
