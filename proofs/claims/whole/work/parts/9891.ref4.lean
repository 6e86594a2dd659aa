-- THE REFERENCE'S TELLS: plots, witnesses
theorem r_bPlot {N : Nat} (hN : 4000 ≤ N) {σ : Mm} {B : Nat → Nat} {n s t : Nat} {c : Cn} {dd : PR LD} (h : RD σ B n s (t + 1) c dd) (hk : kK B n t = 14) (ht : tk1 (kK B n) 14 t = .inr (t + 1)) (hm0 : rmF (c.2.1 + 1) 7 t = .inr ()) : Ok (f11_tellPlot N σ) (fun _ τ => tM σ B n s (gP14 (kK B n) c t) (bP dd fun d => sP14 (vV B n) (wW B n) d t) τ) := by
  have hnm := h.nm
  obtain ⟨hR, hW, hC, hcb, hD⟩ := id h
  obtain ⟨s2, s19, ⟨sc1, sc2, sc3, sc4⟩, s20, s12⟩ := id hC
  obtain ⟨b1, b2, b3, b4⟩ := id hcb
  have hcc : c.2.1 < 7 := by have := rmF_c hm0; omega
  have w170 : ∀ c k, 170 ≤ c → c < 195 → wIn D_RC c k := fun c k h1 h2 => wIn_r 2 rfl h1 h2
  unfold f11_tellPlot
  rw [s19, ixn (by omega), sc2]
  refine Ok.c (inBn s2 (by decide)) ?_
  rw [z_l_eq, show (7 : Int32) * nI s + nI c.2.1 = nI (7 * s + c.2.1) by rw [show (7 : Int32) = nI 7 from rfl, pk_mul, nI_add]]
  have hx14 : 7 * s + c.2.1 < 14 := by omega
  generalize hQ : 7 * s + c.2.1 = X at hx14
  refine Ok.b (r_named hN h.rw (t := t + 1) (fun t' e => by cases e; rfl) hnm) ?_
  rintro r2 τ2 ⟨hW2, hr2, hS2⟩
  have st2 : ∀ t', bP (.inr (t + 1) : PR Nat) (tk1 (kK B n) 2) = .inr t' → t' = t + 2 ∧ kK B n (t + 1) = 2 := fun t' e => by
    obtain ⟨-, a, b, -⟩ := tk1_st (t := t + 1) (fun t' e => by cases e; rfl) e
    exact ⟨a, b⟩
  have st3 : ∀ t', bP (bP (.inr (t + 1) : PR Nat) (tk1 (kK B n) 2)) (tk1 (kK B n) 3) = .inr t' → t' = t + 3 ∧ bP (.inr (t + 1) : PR Nat) (tk1 (kK B n) 2) = .inr (t + 2) ∧ kK B n (t + 2) = 3 := fun t' e => by
    obtain ⟨a, b, c, -⟩ := tk1_st (t := t + 2) (fun t' e => (st2 t' e).1) e
    exact ⟨b, a, c⟩
  have st4 : ∀ t', bP (bP (bP (.inr (t + 1) : PR Nat) (tk1 (kK B n) 2)) (tk1 (kK B n) 3)) (tk1 (kK B n) 3) = .inr t' → t' = t + 4 ∧ bP (bP (.inr (t + 1) : PR Nat) (tk1 (kK B n) 2)) (tk1 (kK B n) 3) = .inr (t + 3) ∧ kK B n (t + 3) = 3 := fun t' e => by
    obtain ⟨a, b, c, -⟩ := tk1_st (t := t + 3) (fun t' e => (st3 t' e).1) e
    exact ⟨b, a, c⟩
  have st5 : ∀ t', bP (bP (bP (bP (.inr (t + 1) : PR Nat) (tk1 (kK B n) 2)) (tk1 (kK B n) 3)) (tk1 (kK B n) 3)) (tk1 (kK B n) 2) = .inr t' → t' = t + 5 ∧ bP (bP (bP (.inr (t + 1) : PR Nat) (tk1 (kK B n) 2)) (tk1 (kK B n) 3)) (tk1 (kK B n) 3) = .inr (t + 4) ∧ kK B n (t + 4) = 2 := fun t' e => by
    obtain ⟨a, b, c, -⟩ := tk1_st (t := t + 4) (fun t' e => (st4 t' e).1) e
    exact ⟨b, a, c⟩
  generalize hw2 : (bP (uu dd) fun _ => bP (newN (nmOf dd) (wW B n (t + 1)) 0 0 (t + 1)) fun _ => (.inr () : PR Unit)) = w2 at hW2
  refine Ok.b (show Ok (f11_bounded N 0 9 τ2) _ from r_bounded (lo := 0) (hi := 9) hW2 (t := t + 2) (fun t' e => (st2 t' e).1) (by decide) (by decide)) ?_
  rintro r3 τ3 ⟨hW3, hr3, hS3⟩
  generalize hw3 : (bP w2 fun _ => bP (rng (vV B n (t + 2)) 0 9 (t + 2)) fun _ => (.inr () : PR Unit)) = w3 at hW3
  refine Ok.c (inBn hx14 (by decide)) ?_
  rw [z_l_eq, ixn (by omega)]
  have hW3' := hW3.eq (τ := sI τ3 172 X r3) (EqOn_sIa EqOn.rf (by decide))
  refine Ok.b (show Ok (f11_bounded N 0 9 _) _ from r_bounded (lo := 0) (hi := 9) hW3' (t := t + 3) (fun t' e => (st3 t' e).1) (by decide) (by decide)) ?_
  rintro r4 τ4 ⟨hW4, hr4, hS4⟩
  generalize hw4 : (bP w3 fun _ => bP (rng (vV B n (t + 3)) 0 9 (t + 3)) fun _ => (.inr () : PR Unit)) = w4 at hW4
  refine Ok.c (inBn hx14 (by decide)) ?_
  rw [z_l_eq]
  have hW4' := hW4.eq (τ := sI τ4 173 X r4) (EqOn_sIa EqOn.rf (by decide))
  have nm4 : EqOn D_NM σ (sI τ4 173 X r4) := (((hS2.on (by decide)).tr (hS3.on (by decide))).tr (EqOn_sIa EqOn.rf (by decide))).tr ((hS4.on (by decide)).tr (EqOn_sIa EqOn.rf (by decide)))
  have c4 : EqOn [(160, 1, some 19), (160, 1, some 12), (170, 2, none), (175, 1, none), (178, 17, none), (174, 1, none), (176, 2, none)] σ (sI τ4 173 X r4) := (((hS2.on (by decide)).tr (hS3.on (by decide))).tr (EqOn_sIa EqOn.rf (by decide))).tr ((hS4.on (by decide)).tr (EqOn_sIa EqOn.rf (by decide)))
  have hs4 : ∀ v, v < 2 → v ≠ s → kS v σ (sI τ4 173 X r4) := fun v _ hv => ((((kS_same hS2 (by decide)).tr (kS_same hS3 (by decide))).tr (kS_w (by unfold oS; omega))).tr (kS_same hS4 (by decide))).tr (kS_w (by unfold oS; omega))
  have d0 : ∀ k, gI (sI τ4 173 X r4) 172 k = if k = X then r3 else gI σ 172 k := fun k => by
    rw [gI_o (by decide), (hS4.on (D := [(172, 1, none)]) (by decide)).I (wIn_r 0 rfl (by decide) (by decide))]
    by_cases e : k = X
    · subst e; rw [gI_e, if_pos rfl]
    · rw [gI_k e, if_neg e, (hS3.on (D := [(172, 1, none)]) (by decide)).I (wIn_r 0 rfl (by decide) (by decide)), (hS2.on (D := [(172, 1, none)]) (by decide)).I (wIn_r 0 rfl (by decide) (by decide))]
  have d1 : ∀ k, gI (sI τ4 173 X r4) 173 k = if k = X then r4 else gI σ 173 k := fun k => by
    by_cases e : k = X
    · subst e; rw [gI_e, if_pos rfl]
    · rw [gI_k e, if_neg e, (hS4.on (D := [(173, 1, none)]) (by decide)).I (wIn_r 0 rfl (by decide) (by decide)), gI_o (by decide), (hS3.on (D := [(173, 1, none)]) (by decide)).I (wIn_r 0 rfl (by decide) (by decide)), (hS2.on (D := [(173, 1, none)]) (by decide)).I (wIn_r 0 rfl (by decide) (by decide))]
  generalize hτ5 : sI τ4 173 X r4 = τ5 at hW4' nm4 c4 hs4 d0 d1
  have wu : ∀ u, w4 = .inr u → w3 = .inr () ∧ w2 = .inr () ∧ uu dd = .inr () := fun u hu => by
    rw [hu] at hw4
    obtain ⟨u3, hu3, -⟩ := bP_inr hw4
    rw [hu3] at hw3
    obtain ⟨u2, hu2, -⟩ := bP_inr hw3
    rw [hu2] at hw2
    obtain ⟨u1, hu1, -⟩ := bP_inr hw2
    exact ⟨hu3, hu2, hu1⟩
  have hn4 : NM τ5 w4 (c.1 + c.2.1 + c.2.2.1) (nmOf dd) := (hnm.eq nm4).w fun u hu => (wu u hu).2.2
  refine Ok.b (show Ok (f11_known N 0 τ5) _ from r_known hN (k := 13) hW4' (t := t + 4) (fun t' e => (st4 t' e).1) hn4 (by decide) (by decide)) ?_
  rintro r5 τ6 ⟨⟨hW5, hr5, -⟩, hS5⟩
  generalize hw5 : (bP w4 fun _ => bP (knw (nmOf dd) (wW B n (t + 4)) 13 (t + 4)) fun _ => (.inr () : PR Unit)) = w5 at hW5
  refine Ok.c (inBn hx14 (by decide)) ?_
  rw [z_l_eq]
  have hW5' := hW5.eq (τ := sI τ6 174 X r5) (EqOn_sIa EqOn.rf (by decide))
  have nm5 : EqOn D_NM σ (sI τ6 174 X r5) := nm4.tr ((hS5.on (by decide)).tr (EqOn_sIa EqOn.rf (by decide)))
  have c5 : EqOn [(160, 1, some 19), (160, 1, some 12), (170, 2, none), (175, 1, none), (178, 17, none), (176, 2, none)] σ (sI τ6 174 X r5) := (c4.sub (by decide)).tr ((hS5.on (by decide)).tr (EqOn_sIa EqOn.rf (by decide)))
  have hs5 : ∀ v, v < 2 → v ≠ s → kS v σ (sI τ6 174 X r5) := fun v h1 hv => ((hs4 v h1 hv).tr (kS_same hS5 (by decide))).tr (kS_w (by unfold oS; omega))
  have f0 : ∀ k, gI (sI τ6 174 X r5) 172 k = if k = X then r3 else gI σ 172 k := fun k => by
    rw [gI_o (by decide), (hS5.on (D := [(172, 2, none)]) (by decide)).I (wIn_r 0 rfl (by decide) (by decide))]; exact d0 k
  have f1 : ∀ k, gI (sI τ6 174 X r5) 173 k = if k = X then r4 else gI σ 173 k := fun k => by
    rw [gI_o (by decide), (hS5.on (D := [(172, 2, none)]) (by decide)).I (wIn_r 0 rfl (by decide) (by decide))]; exact d1 k
  have f2 : ∀ k, gI (sI τ6 174 X r5) 174 k = if k = X then r5 else gI σ 174 k := fun k => by
    by_cases e : k = X
    · subst e; rw [gI_e, if_pos rfl]
    · rw [gI_k e, if_neg e, (hS5.on (D := [(174, 1, none)]) (by decide)).I (wIn_r 0 rfl (by decide) (by decide)), c4.I (id := 174) (wIn_r 5 rfl (by decide) (by decide))]
  generalize hτ7 : sI τ6 174 X r5 = τ7 at hW5' nm5 c5 hs5 f0 f1 f2
  have hn5 : NM τ7 w5 (c.1 + c.2.1 + c.2.2.1) (nmOf dd) := (hnm.eq nm5).w fun u hu => by
    rw [hu] at hw5
    obtain ⟨u4, hu4, -⟩ := bP_inr hw5
    exact (wu u4 hu4).2.2
  have e19 : gI τ7 160 19 = nI s := by rw [c5.I (wIn_s 0 rfl)]; exact s19
  have ecnt : gI τ7 171 s = nI c.2.1 := by rw [c5.I (wIn_r 2 rfl (by decide) (by decide))]; exact sc2
  rw [e19, ixn (by omega), ecnt, show (10 : Int32) + nI c.2.1 = nI (10 * (14 - 13) + c.2.1) from nI_add 10 _]
  refine Ok.c (inBn s2 (by decide)) ?_
  refine Ok.b (r_ends (srt := 14) (num := c.2.1) hW5' (t := t + 5) (j := t + 1) (fun t' e => ?_) (by omega) hn5 (by omega)) ?_
  · obtain ⟨a1, a2, a3⟩ := st5 t' e
    obtain ⟨a4, a5, a6⟩ := st4 _ a2
    obtain ⟨a7, a8, a9⟩ := st3 _ a5
    exact ⟨a1, hr2 rfl, (st2 _ a8).2⟩
  rintro - τ8 ⟨hW6, hN6, hS6⟩
  have c6 := c5.tr (hS6.on (by decide))
  have hs6 : ∀ v, v < 2 → v ≠ s → kS v σ τ8 := fun v h1 hv => (hs5 v h1 hv).tr (kS_same hS6 (by decide))
  have kl6 : EqOn D_lw σ τ8 := by
    rw [← hτ7] at hS6
    rw [← hτ5] at hS5
    exact (((((((hS2.on (by decide)).tr (hS3.on (by decide))).tr (EqOn_sIa EqOn.rf (by decide))).tr (hS4.on (by decide))).tr (EqOn_sIa EqOn.rf (by decide))).tr (hS5.on (by decide))).tr (EqOn_sIa EqOn.rf (by decide))).tr (hS6.on (by decide))
  have hgp : gP14 (kK B n) c t = bP (bP (bP (bP (bP (bP (.inr (t + 1) : PR Nat) (tk1 (kK B n) 2)) (tk1 (kK B n) 3)) (tk1 (kK B n) 3)) (tk1 (kK B n) 2)) (tk1 (kK B n) 4)) fun t6 => .inr (t6, (c.1, c.2.1 + 1, c.2.2), none) := by
    unfold gP14
    rw [hm0, bP_assoc, bP_assoc, bP_assoc, bP_assoc, bP_assoc]
    show bP (tk1 (kK B n) 14 t) _ = _
    rw [ht]
  have hfin := fun t6 (e : bP (bP (bP (bP (bP (.inr (t + 1) : PR Nat) (tk1 (kK B n) 2)) (tk1 (kK B n) 3)) (tk1 (kK B n) 3)) (tk1 (kK B n) 2)) (tk1 (kK B n) 4) = .inr t6) => tk1_st (t := t + 5) (fun t' e => (st5 t' e).1) e
  generalize hS : bP (bP (bP (bP (bP (.inr (t + 1) : PR Nat) (tk1 (kK B n) 2)) (tk1 (kK B n) 3)) (tk1 (kK B n) 3)) (tk1 (kK B n) 2)) (tk1 (kK B n) 4) = S6 at hW6 hN6 hgp hfin
  rw [hgp]
  cases S6 with
  | inl e =>
    have hF : FM τ8 B n e := hW6.1
    exact Ok.f hF.n0.1 (Ok.ret ⟨fun v h1 hv => hs6 v h1 hv, kl6, hF⟩)
  | inr t6 =>
    obtain ⟨g1, rfl, g3, g4⟩ := hfin t6 rfl
    obtain ⟨-, g5, g6⟩ := st5 _ g1
    obtain ⟨-, g7, g8⟩ := st4 _ g5
    obtain ⟨-, g9, g10⟩ := st3 _ g7
    have hkk2 := (st2 _ g9).2
    obtain ⟨h20, hnn⟩ := hN6 _ rfl
    have hR6 : RT τ8 B n (t + 5 + 1) := hW6.1
    have hW6' := hW6.2 _ rfl
    have f19 : gI τ8 160 19 = nI s := by rw [c6.I (wIn_s 0 rfl)]; exact s19
    have fcnt : gI τ8 171 s = nI c.2.1 := by rw [c6.I (wIn_r 2 rfl (by decide) (by decide))]; exact sc2
    have p8 : EqOn [(170, 25, none)] τ7 τ8 := hS6.on (by decide)
    have q8 : ∀ c k, 170 ≤ c → c < 195 → gI τ8 c k = gI τ7 c k := fun c k h1 h2 => p8.I (wIn_r 0 rfl h1 h2)
    refine Ok.t hR6.2.2.2.2.2 ?_
    rw [f19, ixn (by omega), fcnt, nI_1]
    refine Ok.c (inBn s2 (by decide)) (Ok.c (inBn s2 (by decide)) ?_)
    rw [z_l_eq]
    have hE : er w5 = er (bP dd fun d => sP14 (vV B n) (wW B n) d t) := by
      rw [← hw5, ← hw4, ← hw3, ← hw2]
      cases dd with
      | inl e => rfl
      | inr d =>
        show er (bP (bP (bP (bP (newN d.1 (wW B n (t + 1)) 0 0 (t + 1)) fun _ => (.inr () : PR Unit)) _) _) _) = er (sP14 (vV B n) (wW B n) d t)
        unfold sP14 newN
        cases fnd d.1 (wW B n (t + 1)) with
        | some a => rfl
        | none =>
          cases hx : rng (vV B n (t + 2)) 0 9 (t + 2) with
          | inl e => simp [bP, er, hx]
          | inr x =>
            cases hy : rng (vV B n (t + 3)) 0 9 (t + 3) with
            | inl e => simp [bP, er, hx, hy]
            | inr y =>
              cases ha : knw d.1 (wW B n (t + 4)) 13 (t + 4) with
              | inl e => simp [bP, er, nmOf, hx, hy, ha]
              | inr a => simp [bP, er, nmOf, hx, hy, ha]
    refine Ok.ret ⟨fun v h1 hv => (hs6 v h1 hv).tr (kS_w (by unfold oS; omega)), kl6.tr (EqOn_sIa EqOn.rf (by decide)), ?_, ?_, ?_, ?_, ?_⟩
    · exact RX.eq (s := .inr (t + 5 + 1)) hR6 (EqOn_sIa EqOn.rf (by decide))
    · exact (hW6'.cv hE).eq (Nat.le_refl _) (EqOn_sIa EqOn.rf (by decide))
    · refine ⟨s2, by rw [gI_o (by decide)]; exact f19, ⟨by rw [gI_o (by decide), c6.I (wIn_r 2 rfl (by decide) (by decide))]; exact sc1, gI_e, by rw [gI_o (by decide), c6.I (wIn_r 3 rfl (by decide) (by decide))]; exact sc3, by rw [gI_o (by decide), c6.I (wIn_r 4 rfl (by decide) (by decide))]; exact sc4⟩, ?_, by rw [gI_o (by decide), c6.I (wIn_s 1 rfl)]; exact s12⟩
      rw [gI_o (by decide), h20]
      congr 1
      simp only []
      omega
    · exact ⟨b1, hcc, b3, b4⟩
    · intro d' hd'
      obtain ⟨d, hd, hs⟩ := bP_inr hd'
      have hst : sTell (kK B n) (vV B n) (wW B n) d t = .inr d' := by
        unfold sTell
        rw [if_neg (by omega), if_pos hk]
        exact hs
      obtain ⟨l', hl', hs2⟩ := bP_inr hs
      obtain ⟨x, hx, hs2⟩ := bP_inr hs2
      obtain ⟨y, hy, hs2⟩ := bP_inr hs2
      obtain ⟨a, ha, hs2⟩ := bP_inr hs2
      obtain ⟨hf, rfl⟩ := newN_ok hl'
      obtain ⟨⟨⟨q1, q2⟩, q3, q4, q5, q6, q7, q8'⟩, q9, q10⟩ := hD d hd
      have hg : gTell (kK B n) (vV B n) c t = .inr (t + 5 + 1, (c.1, c.2.1 + 1, c.2.2), none) := by
        unfold gTell
        rw [if_neg (by omega), if_pos hk, hgp]
        rfl
      obtain ⟨z1, z2⟩ := sTell_ok q9 q10 hg hst
      refine ⟨?_, z1, z2⟩
      have hwu2 : w2 = .inr () := by
        rw [← hw2]
        subst hd
        show (bP (newN d.1 (wW B n (t + 1)) 0 0 (t + 1)) fun _ => (.inr () : PR Unit)) = .inr ()
        unfold newN
        rw [hf]
        rfl
      have hwu3 : w3 = .inr () := by rw [← hw3, hwu2, hx]; rfl
      have hwu4 : w4 = .inr () := by rw [← hw4, hwu3, hy]; rfl
      have hnd : nmOf dd = d.1 := by rw [hd]; rfl
      have hwu5 : w5 = .inr () := by rw [← hw5, hwu4, hnd, ha]; rfl
      have hnn := hnn () hwu5
      have v5 : r5 = nI a := hr5 () a _ hwu4 g1 (by rw [hnd]; exact ha)
      have v3 : r3 = nI x := by rw [hr3 g9 g10, (rng_ok hx).1]
      have v4 : r4 = nI y := by rw [hr4 g7 g8, (rng_ok hy).1]
      rw [hnd] at hnn
      cases hs2
      have hXd : X = 7 * s + d.2.2.1.length := by rw [← hQ, q9.2.1]
      have kc : ∀ e k, e = 184 ∨ e = 185 ∨ e = 176 ∨ e = 177 ∨ (179 ≤ e ∧ e ≤ 183) → gI (sI τ8 171 s (nI (c.2.1 + 1))) e k = gI σ e k := fun e k hc => by
        rw [gI_o (by omega)]
        rcases (show (178 ≤ e ∧ e < 195) ∨ (176 ≤ e ∧ e < 178) by omega) with e1 | e1
        · exact c6.I (wIn_r 4 rfl e1.1 e1.2)
        · exact c6.I (wIn_r 5 rfl e1.1 e1.2)
      refine ⟨⟨by rw [kc _ _ (by omega)]; exact q1, by rw [kc _ _ (by omega)]; exact q2⟩, ⟨⟨?_, ?_, ?_⟩, q3.imp fun j b hj hb => ?_⟩, q4.imp fun j b _ hb => ?_, q5.imp fun j b _ hb => ?_, ?_, ?_, ⟨hf, q8'⟩⟩
      · rw [gI_o (by decide), q8 _ _ (by decide) (by decide), f0, if_pos hXd.symm]; exact v3
      · rw [gI_o (by decide), q8 _ _ (by decide) (by decide), f1, if_pos hXd.symm]; exact v4
      · rw [gI_o (by decide), q8 _ _ (by decide) (by decide), f2, if_pos hXd.symm]; exact v5
      · unfold pM at *
        rw [gI_o (by decide), q8 _ _ (by decide) (by decide), f0, if_neg (by omega), gI_o (by decide), q8 _ _ (by decide) (by decide), f1, if_neg (by omega), gI_o (by decide), q8 _ _ (by decide) (by decide), f2, if_neg (by omega)]; exact hb
      · unfold wM at *
        rw [kc _ _ (by omega), kc _ _ (by omega)]; exact hb
      · unfold gM at *
        rw [kc _ _ (by omega), kc _ _ (by omega), kc _ _ (by omega), kc _ _ (by omega), kc _ _ (by omega)]; exact hb
      · rw [q9.2.1]
        exact hnn.imp fun j a _ ha => ⟨ha.1, by rw [gI_o (by decide)]; exact ha.2⟩
      · intro a ha
        rcases List.mem_cons.mp ha with rfl | ha
        · exact wW_ok hR.1 hkk2
        · exact q7 a ha
theorem r_bWitness {N : Nat} (hN : 4000 ≤ N) {σ : Mm} {B : Nat → Nat} {n s t : Nat} {c : Cn} {dd : PR LD} (h : RD σ B n s (t + 1) c dd) (hk : kK B n t = 15) (ht : tk1 (kK B n) 15 t = .inr (t + 1)) (hm0 : rmF (c.2.2.1 + 1) 7 t = .inr ()) : Ok (f11_tellWitness N σ) (fun _ τ => tM σ B n s (gP15 (kK B n) c t) (bP dd fun d => sP15 (vV B n) (wW B n) d t) τ) := by
  have hnm := h.nm
  obtain ⟨hR, hW, hC, hcb, hD⟩ := id h
  obtain ⟨s2, s19, ⟨sc1, sc2, sc3, sc4⟩, s20, s12⟩ := id hC
  obtain ⟨b1, b2, b3, b4⟩ := id hcb
  have hcc : c.2.2.1 < 7 := by have := rmF_c hm0; omega
  have w170 : ∀ c k, 170 ≤ c → c < 195 → wIn D_RC c k := fun c k h1 h2 => wIn_r 2 rfl h1 h2
  unfold f11_tellWitness
  rw [s19, ixn (by omega), sc3]
  refine Ok.c (inBn s2 (by decide)) ?_
  rw [z_l_eq, show (7 : Int32) * nI s + nI c.2.2.1 = nI (7 * s + c.2.2.1) by rw [show (7 : Int32) = nI 7 from rfl, pk_mul, nI_add]]
  have hx14 : 7 * s + c.2.2.1 < 14 := by omega
  generalize hQ : 7 * s + c.2.2.1 = X at hx14
  refine Ok.b (r_named hN h.rw (t := t + 1) (fun t' e => by cases e; rfl) hnm) ?_
  rintro r2 τ2 ⟨hW2, hr2, hS2⟩
  have st2 : ∀ t', bP (.inr (t + 1) : PR Nat) (tk1 (kK B n) 2) = .inr t' → t' = t + 2 ∧ kK B n (t + 1) = 2 := fun t' e => by
    obtain ⟨-, a, b, -⟩ := tk1_st (t := t + 1) (fun t' e => by cases e; rfl) e
    exact ⟨a, b⟩
  have st3 : ∀ t', bP (bP (.inr (t + 1) : PR Nat) (tk1 (kK B n) 2)) (tk1 (kK B n) 3) = .inr t' → t' = t + 3 ∧ bP (.inr (t + 1) : PR Nat) (tk1 (kK B n) 2) = .inr (t + 2) ∧ kK B n (t + 2) = 3 := fun t' e => by
    obtain ⟨a, b, c, -⟩ := tk1_st (t := t + 2) (fun t' e => (st2 t' e).1) e
    exact ⟨b, a, c⟩
  have st4 : ∀ t', bP (bP (bP (.inr (t + 1) : PR Nat) (tk1 (kK B n) 2)) (tk1 (kK B n) 3)) (tk1 (kK B n) 3) = .inr t' → t' = t + 4 ∧ bP (bP (.inr (t + 1) : PR Nat) (tk1 (kK B n) 2)) (tk1 (kK B n) 3) = .inr (t + 3) ∧ kK B n (t + 3) = 3 := fun t' e => by
    obtain ⟨a, b, c, -⟩ := tk1_st (t := t + 3) (fun t' e => (st3 t' e).1) e
    exact ⟨b, a, c⟩
  generalize hw2 : (bP (uu dd) fun _ => bP (newN (nmOf dd) (wW B n (t + 1)) 0 0 (t + 1)) fun _ => (.inr () : PR Unit)) = w2 at hW2
  refine Ok.b (show Ok (f11_bounded N 0 99 τ2) _ from r_bounded (lo := 0) (hi := 99) hW2 (t := t + 2) (fun t' e => (st2 t' e).1) (by decide) (by decide)) ?_
  rintro r3 τ3 ⟨hW3, hr3, hS3⟩
  generalize hw3 : (bP w2 fun _ => bP (rng (vV B n (t + 2)) 0 99 (t + 2)) fun _ => (.inr () : PR Unit)) = w3 at hW3
  refine Ok.c (inBn hx14 (by decide)) ?_
  rw [z_l_eq, ixn (by omega)]
  have hW3' := hW3.eq (τ := sI τ3 176 X r3) (EqOn_sIa EqOn.rf (by decide))
  refine Ok.b (show Ok (f11_bounded N 0 99 _) _ from r_bounded (lo := 0) (hi := 99) hW3' (t := t + 3) (fun t' e => (st3 t' e).1) (by decide) (by decide)) ?_
  rintro r4 τ4 ⟨hW4, hr4, hS4⟩
  generalize hw4 : (bP w3 fun _ => bP (rng (vV B n (t + 3)) 0 99 (t + 3)) fun _ => (.inr () : PR Unit)) = w4 at hW4
  refine Ok.c (inBn hx14 (by decide)) ?_
  rw [z_l_eq]
  have hW4' := hW4.eq (τ := sI τ4 177 X r4) (EqOn_sIa EqOn.rf (by decide))
  have nm4 : EqOn D_NM σ (sI τ4 177 X r4) := (((hS2.on (by decide)).tr (hS3.on (by decide))).tr (EqOn_sIa EqOn.rf (by decide))).tr ((hS4.on (by decide)).tr (EqOn_sIa EqOn.rf (by decide)))
  have c4 : EqOn [(160, 1, some 19), (160, 1, some 12), (170, 2, none), (175, 1, none), (178, 17, none), (172, 3, none)] σ (sI τ4 177 X r4) := (((hS2.on (by decide)).tr (hS3.on (by decide))).tr (EqOn_sIa EqOn.rf (by decide))).tr ((hS4.on (by decide)).tr (EqOn_sIa EqOn.rf (by decide)))
  have hs4 : ∀ v, v < 2 → v ≠ s → kS v σ (sI τ4 177 X r4) := fun v _ hv => ((((kS_same hS2 (by decide)).tr (kS_same hS3 (by decide))).tr (kS_w (by unfold oS; omega))).tr (kS_same hS4 (by decide))).tr (kS_w (by unfold oS; omega))
  have d0 : ∀ k, gI (sI τ4 177 X r4) 176 k = if k = X then r3 else gI σ 176 k := fun k => by
    rw [gI_o (by decide), (hS4.on (D := [(176, 1, none)]) (by decide)).I (wIn_r 0 rfl (by decide) (by decide))]
    by_cases e : k = X
    · subst e; rw [gI_e, if_pos rfl]
    · rw [gI_k e, if_neg e, (hS3.on (D := [(176, 1, none)]) (by decide)).I (wIn_r 0 rfl (by decide) (by decide)), (hS2.on (D := [(176, 1, none)]) (by decide)).I (wIn_r 0 rfl (by decide) (by decide))]
  have d1 : ∀ k, gI (sI τ4 177 X r4) 177 k = if k = X then r4 else gI σ 177 k := fun k => by
    by_cases e : k = X
    · subst e; rw [gI_e, if_pos rfl]
    · rw [gI_k e, if_neg e, (hS4.on (D := [(177, 1, none)]) (by decide)).I (wIn_r 0 rfl (by decide) (by decide)), gI_o (by decide), (hS3.on (D := [(177, 1, none)]) (by decide)).I (wIn_r 0 rfl (by decide) (by decide)), (hS2.on (D := [(177, 1, none)]) (by decide)).I (wIn_r 0 rfl (by decide) (by decide))]
  generalize hτ5 : sI τ4 177 X r4 = τ5 at hW4' nm4 c4 hs4 d0 d1
  have wu : ∀ u, w4 = .inr u → w3 = .inr () ∧ w2 = .inr () ∧ uu dd = .inr () := fun u hu => by
    rw [hu] at hw4
    obtain ⟨u3, hu3, -⟩ := bP_inr hw4
    rw [hu3] at hw3
    obtain ⟨u2, hu2, -⟩ := bP_inr hw3
    rw [hu2] at hw2
    obtain ⟨u1, hu1, -⟩ := bP_inr hw2
    exact ⟨hu3, hu2, hu1⟩
  have hn4 : NM τ5 w4 (c.1 + c.2.1 + c.2.2.1) (nmOf dd) := (hnm.eq nm4).w fun u hu => (wu u hu).2.2
  have e19 : gI τ5 160 19 = nI s := by rw [c4.I (wIn_s 0 rfl)]; exact s19
  have ecnt : gI τ5 175 s = nI c.2.2.1 := by rw [c4.I (wIn_r 3 rfl (by decide) (by decide))]; exact sc3
  rw [e19, ixn (by omega), ecnt, show (20 : Int32) + nI c.2.2.1 = nI (10 * (15 - 13) + c.2.2.1) from nI_add 20 _]
  refine Ok.c (inBn s2 (by decide)) ?_
  refine Ok.b (r_ends (srt := 15) (num := c.2.2.1) hW4' (t := t + 4) (j := t + 1) (fun t' e => ?_) (by omega) hn4 (by omega)) ?_
  · obtain ⟨a4, a5, a6⟩ := st4 t' e
    obtain ⟨a7, a8, a9⟩ := st3 _ a5
    exact ⟨a4, hr2 rfl, (st2 _ a8).2⟩
  rintro - τ8 ⟨hW6, hN6, hS6⟩
  have c6 := c4.tr (hS6.on (by decide))
  have hs6 : ∀ v, v < 2 → v ≠ s → kS v σ τ8 := fun v h1 hv => (hs4 v h1 hv).tr (kS_same hS6 (by decide))
  have kl6 : EqOn D_lw σ τ8 := by
    rw [← hτ5] at hS6
    exact (((((hS2.on (by decide)).tr (hS3.on (by decide))).tr (EqOn_sIa EqOn.rf (by decide))).tr (hS4.on (by decide))).tr (EqOn_sIa EqOn.rf (by decide))).tr (hS6.on (by decide))
  have hgp : gP15 (kK B n) c t = bP (bP (bP (bP (bP (.inr (t + 1) : PR Nat) (tk1 (kK B n) 2)) (tk1 (kK B n) 3)) (tk1 (kK B n) 3)) (tk1 (kK B n) 4)) fun t6 => .inr (t6, (c.1, c.2.1, c.2.2.1 + 1, c.2.2.2), none) := by
    unfold gP15
    rw [hm0, bP_assoc, bP_assoc, bP_assoc, bP_assoc]
    show bP (tk1 (kK B n) 15 t) _ = _
    rw [ht]
  have hfin := fun t6 (e : bP (bP (bP (bP (.inr (t + 1) : PR Nat) (tk1 (kK B n) 2)) (tk1 (kK B n) 3)) (tk1 (kK B n) 3)) (tk1 (kK B n) 4) = .inr t6) => tk1_st (t := t + 4) (fun t' e => (st4 t' e).1) e
  generalize hS : bP (bP (bP (bP (.inr (t + 1) : PR Nat) (tk1 (kK B n) 2)) (tk1 (kK B n) 3)) (tk1 (kK B n) 3)) (tk1 (kK B n) 4) = S6 at hW6 hN6 hgp hfin
  rw [hgp]
  cases S6 with
  | inl e =>
    have hF : FM τ8 B n e := hW6.1
    exact Ok.f hF.n0.1 (Ok.ret ⟨fun v h1 hv => hs6 v h1 hv, kl6, hF⟩)
  | inr t6 =>
    obtain ⟨g1, rfl, g3, g4⟩ := hfin t6 rfl
    obtain ⟨-, g7, g8⟩ := st4 _ g1
    obtain ⟨-, g9, g10⟩ := st3 _ g7
    have hkk2 := (st2 _ g9).2
    obtain ⟨h20, hnn⟩ := hN6 _ rfl
    have hR6 : RT τ8 B n (t + 4 + 1) := hW6.1
    have hW6' := hW6.2 _ rfl
    have f19 : gI τ8 160 19 = nI s := by rw [c6.I (wIn_s 0 rfl)]; exact s19
    have fcnt : gI τ8 175 s = nI c.2.2.1 := by rw [c6.I (wIn_r 3 rfl (by decide) (by decide))]; exact sc3
    have p8 : EqOn [(170, 25, none)] τ5 τ8 := hS6.on (by decide)
    have q8 : ∀ c k, 170 ≤ c → c < 195 → gI τ8 c k = gI τ5 c k := fun c k h1 h2 => p8.I (wIn_r 0 rfl h1 h2)
    refine Ok.t hR6.2.2.2.2.2 ?_
    rw [f19, ixn (by omega), fcnt, nI_1]
    refine Ok.c (inBn s2 (by decide)) (Ok.c (inBn s2 (by decide)) ?_)
    rw [z_l_eq]
    have hE : er w4 = er (bP dd fun d => sP15 (vV B n) (wW B n) d t) := by
      rw [← hw4, ← hw3, ← hw2]
      cases dd with
      | inl e => rfl
      | inr d =>
        show er (bP (bP (bP (newN d.1 (wW B n (t + 1)) 0 0 (t + 1)) fun _ => (.inr () : PR Unit)) _) _) = er (sP15 (vV B n) (wW B n) d t)
        unfold sP15 newN
        cases fnd d.1 (wW B n (t + 1)) with
        | some a => rfl
        | none =>
          cases hx : rng (vV B n (t + 2)) 0 99 (t + 2) with
          | inl e => simp [bP, er, hx]
          | inr x =>
            cases hy : rng (vV B n (t + 3)) 0 99 (t + 3) with
            | inl e => simp [bP, er, hx, hy]
            | inr y =>
              simp [bP, er, hx, hy]
    refine Ok.ret ⟨fun v h1 hv => (hs6 v h1 hv).tr (kS_w (by unfold oS; omega)), kl6.tr (EqOn_sIa EqOn.rf (by decide)), ?_, ?_, ?_, ?_, ?_⟩
    · exact RX.eq (s := .inr (t + 4 + 1)) hR6 (EqOn_sIa EqOn.rf (by decide))
    · exact (hW6'.cv hE).eq (Nat.le_refl _) (EqOn_sIa EqOn.rf (by decide))
    · refine ⟨s2, by rw [gI_o (by decide)]; exact f19, ⟨by rw [gI_o (by decide), c6.I (wIn_r 2 rfl (by decide) (by decide))]; exact sc1, by rw [gI_o (by decide), c6.I (wIn_r 2 rfl (by decide) (by decide))]; exact sc2, gI_e, by rw [gI_o (by decide), c6.I (wIn_r 4 rfl (by decide) (by decide))]; exact sc4⟩, ?_, by rw [gI_o (by decide), c6.I (wIn_s 1 rfl)]; exact s12⟩
      rw [gI_o (by decide), h20]
      congr 1
    · exact ⟨b1, b2, hcc, b4⟩
    · intro d' hd'
      obtain ⟨d, hd, hs⟩ := bP_inr hd'
      have hst : sTell (kK B n) (vV B n) (wW B n) d t = .inr d' := by
        unfold sTell
        rw [if_neg (by omega), if_neg (by omega), if_pos hk]
        exact hs
      obtain ⟨l', hl', hs2⟩ := bP_inr hs
      obtain ⟨x, hx, hs2⟩ := bP_inr hs2
      obtain ⟨y, hy, hs2⟩ := bP_inr hs2
      obtain ⟨hf, rfl⟩ := newN_ok hl'
      obtain ⟨⟨⟨q1, q2⟩, q3, q4, q5, q6, q7, q8'⟩, q9, q10⟩ := hD d hd
      have hg : gTell (kK B n) (vV B n) c t = .inr (t + 4 + 1, (c.1, c.2.1, c.2.2.1 + 1, c.2.2.2), none) := by
        unfold gTell
        rw [if_neg (by omega), if_neg (by omega), if_pos hk, hgp]
        rfl
      obtain ⟨z1, z2⟩ := sTell_ok q9 q10 hg hst
      refine ⟨?_, z1, z2⟩
      have hwu2 : w2 = .inr () := by
        rw [← hw2]
        subst hd
        show (bP (newN d.1 (wW B n (t + 1)) 0 0 (t + 1)) fun _ => (.inr () : PR Unit)) = .inr ()
        unfold newN
        rw [hf]
        rfl
      have hwu3 : w3 = .inr () := by rw [← hw3, hwu2, hx]; rfl
      have hwu4 : w4 = .inr () := by rw [← hw4, hwu3, hy]; rfl
      have hnd : nmOf dd = d.1 := by rw [hd]; rfl
      have hnn := hnn () hwu4
      have v3 : r3 = nI x := by rw [hr3 g9 g10, (rng_ok hx).1]
      have v4 : r4 = nI y := by rw [hr4 g7 g8, (rng_ok hy).1]
      rw [hnd] at hnn
      cases hs2
      have hXd : X = 7 * s + d.2.2.2.1.length := by rw [← hQ, q9.2.2.1]
      have kc : ∀ e k, e = 184 ∨ e = 185 ∨ e = 172 ∨ e = 173 ∨ e = 174 ∨ (179 ≤ e ∧ e ≤ 183) → gI (sI τ8 175 s (nI (c.2.2.1 + 1))) e k = gI σ e k := fun e k hc => by
        rw [gI_o (by omega)]
        rcases (show (178 ≤ e ∧ e < 195) ∨ (172 ≤ e ∧ e < 175) by omega) with e1 | e1
        · exact c6.I (wIn_r 4 rfl e1.1 e1.2)
        · exact c6.I (wIn_r 5 rfl e1.1 e1.2)
      refine ⟨⟨by rw [kc _ _ (by omega)]; exact q1, by rw [kc _ _ (by omega)]; exact q2⟩, q3.imp fun j b _ hb => ?_, ⟨⟨?_, ?_⟩, q4.imp fun j b hj hb => ?_⟩, q5.imp fun j b _ hb => ?_, ?_, ?_, ⟨hf, q8'⟩⟩
      · unfold pM at *
        rw [kc _ _ (by omega), kc _ _ (by omega), kc _ _ (by omega)]; exact hb
      · rw [gI_o (by decide), q8 _ _ (by decide) (by decide), d0, if_pos hXd.symm]; exact v3
      · rw [gI_o (by decide), q8 _ _ (by decide) (by decide), d1, if_pos hXd.symm]; exact v4
      · unfold wM at *
        rw [gI_o (by decide), q8 _ _ (by decide) (by decide), d0, if_neg (by omega), gI_o (by decide), q8 _ _ (by decide) (by decide), d1, if_neg (by omega)]; exact hb
      · unfold gM at *
        rw [kc _ _ (by omega), kc _ _ (by omega), kc _ _ (by omega), kc _ _ (by omega), kc _ _ (by omega)]; exact hb
      · rw [q9.2.2.1]
        exact hnn.imp fun j a _ ha => ⟨ha.1, by rw [gI_o (by decide)]; exact ha.2⟩
      · intro a ha
        rcases List.mem_cons.mp ha with rfl | ha
        · exact wW_ok hR.1 hkk2
        · exact q7 a ha
