-- THE REFERENCE'S E
theorem opn_pure {K : Nat → Nat} : ∀ {f t t' : Nat} {stk stk' : List Nat}, opn K f t stk = .inr (t', stk') → sw stk → dpt stk ≤ 6 → sw stk' ∧ t + stk'.length = t' + stk.length ∧ dpt stk' + stk.length = dpt stk + stk'.length ∧ dpt stk' ≤ 6
  | 0, t, t', stk, stk', h, h1, h2 => by cases h; exact ⟨h1, rfl, rfl, h2⟩
  | f + 1, t, t', stk, stk', h, h1, h2 => by
    have hd := dpt_11 (r := stk)
    simp only [opn] at h
    split at h
    · split at h
      · cases h
      · cases htk : tk1 K 11 t with
        | inl e => rw [htk] at h; cases h
        | inr t1 =>
          rw [htk] at h
          obtain ⟨rfl, -, -⟩ := tk1_ok htk
          obtain ⟨a, b, c, d⟩ := opn_pure h ⟨h1, Or.inl rfl⟩ (by omega)
          simp only [List.length_cons] at b c
          exact ⟨a, by omega, by omega, d⟩
    · cases h; exact ⟨h1, rfl, rfl, h2⟩
theorem stl_11 {stk : List Nat} {l : Cd} (h : sw stk) (hd : 0 < dpt stk) : ∃ r, (stl 1 stk l).1 = 11 :: r ∧ sw r ∧ dpt stk = dpt r + 1 ∧ (stl 1 stk l).2.length + r.length + 1 = l.length + stk.length ∧ r.length < stk.length := by
  obtain ⟨n1, n2, n3⟩ := stl_ns (least := 1) (Nat.le_refl _) (stk := stk) (o := l)
  obtain ⟨w1, w2, -⟩ := stl_sw (least := 1) (stk := stk) (o := l) h
  have w2 := w2 rfl
  cases hst : (stl 1 stk l).1 with
  | nil =>
    rw [hst] at n1
    have : dpt ([] : List Nat) = 0 := rfl
    omega
  | cons a r =>
    rw [hst] at n1 n2 n3 w1 w2
    have : a = 11 := w2 a rfl
    subst this
    simp only [List.length_cons] at n2 n3
    exact ⟨r, rfl, w1.1, by rw [← n1, dpt_11], by omega, by omega⟩
theorem cls_pure {K : Nat → Nat} : ∀ {f t t' : Nat} {stk stk' : List Nat} {l l' : Cd}, cls K f t stk l = .inr (t', stk', l') → sw stk → dpt stk ≤ 6 → l.length + stk.length ≤ t + dpt stk → dpt stk < f → sw stk' ∧ t ≤ t' ∧ dpt stk' ≤ 6 ∧ l'.length + stk'.length ≤ t' + dpt stk' ∧ (0 < dpt stk' → K t' ≠ 12)
  | 0, t, t', stk, stk', l, l', _, _, _, _, h => absurd h (Nat.not_lt_zero _)
  | f + 1, t, t', stk, stk', l, l', h, h1, h2, h3, h4 => by
    simp only [cls] at h
    split at h
    · rename_i hc
      cases htk : tk1 K 12 t with
      | inl e => rw [htk] at h; cases h
      | inr t1 =>
        rw [htk] at h
        obtain ⟨rfl, -, -⟩ := tk1_ok htk
        obtain ⟨r, r1, r2, r3, r4, r5⟩ := stl_11 (l := l) h1 hc.1
        dsimp only at h
        rw [r1, List.tail_cons] at h
        obtain ⟨a, b, c, d, e⟩ := cls_pure h r2 (by omega) (by omega) (by omega)
        exact ⟨a, by omega, c, d, e⟩
    · rename_i hc
      cases h
      exact ⟨h1, Nat.le_refl _, h2, h3, fun hp hk => hc ⟨hp, hk⟩⟩
theorem r_unitF {N : Nat} {σ : Mm} {B : Nat → Nat} {n : Nat} {e : Nat × Nat} (h : FM σ B n e) : f11_unit N σ = some ((), σ) := by
  unfold f11_unit
  rw [r_isF h, z_b_some, if_pos rfl, if_neg h.n0.1, f11_unit_88, r_failF h, z_b_some]
theorem r_84F {N : Nat} {σ : Mm} {B : Nat → Nat} {n : Nat} {e : Nat × Nat} (h : FM σ B n e) {k12 : Int32 → Mm → Option (Unit × Mm)} {x : Int32} : f11_expression_84 N k12 x σ = some ((), σ) := by
  rw [f11_expression_84, r_unitF h, z_b_some, if_neg h.n0.2.1]
theorem r_23F {N : Nat} {σ : Mm} {B : Nat → Nat} {n fu : Nat} {e : Nat × Nat} (h : FM σ B n e) {k12 : Int32 → Mm → Option (Unit × Mm)} {x : Int32} : f11_expression_23 N k12 x (fu + 1) σ = some ((), σ) := by
  rw [f11_expression_23, r_isF h, z_b_some, if_pos rfl, r_84F h]
theorem KS.w {σ0 σ : Mm} {s c k : Nat} {x : Int32} (h : KS σ0 s σ) (hc : c < 170 ∨ 195 ≤ c) : KS σ0 s (sI σ c k x) := fun v a b => (h v a b).tr (kS_w (by unfold oS; omega))
theorem FM.w {σ : Mm} {B : Nat → Nat} {n c k : Nat} {x : Int32} {e : Nat × Nat} (h : FM σ B n e) (hc : ¬ (c = 160 ∧ (k = 13 ∨ k = 14))) : FM (sI σ c k x) B n e := by
  obtain ⟨h1, h2, h3⟩ := h
  have : ∀ j, j = 13 ∨ j = 14 → gI (sI σ c k x) 160 j = gI σ 160 j := fun j hj => by
    by_cases e1 : c = 160
    · subst e1; exact gI_k (by omega)
    · exact gI_o (Ne.symm e1)
  exact ⟨by rw [this 13 (Or.inl rfl)]; exact h1, h2, by rw [this 14 (Or.inr rfl)]; exact h3⟩
theorem r_pushF {N : Nat} {σ0 σ : Mm} {B : Nat → Nat} {n s m fu : Nat} {e : Nat × Nat} (h : FM σ B n e) (hK : KS σ0 s σ) (hm : gI σ 160 51 = nI m) (h64 : m < 64) {k12 : Int32 → Mm → Option (Unit × Mm)} {x : Int32} : Ok (z_c (inB (gI σ 160 51) 64) (z_l (sI σ 195 (ix (gI σ 160 51)) (6 : Int32)) fun σ_74 => z_l (sI σ_74 160 51 ((gI σ_74 160 51) + (1 : Int32))) fun σ_75 => f11_expression_23 N k12 x (fu + 1) σ_75)) (fun _ τ => FM τ B n e ∧ KS σ0 s τ) := by
  rw [hm]
  refine Ok.c (inBn h64 (by decide)) ?_
  rw [z_l_eq, z_l_eq, r_23F ((h.w (by omega)).w (by omega))]
  exact Ok.ret ⟨(h.w (by omega)).w (by omega), (hK.w (Or.inr (by decide))).w (Or.inl (by decide))⟩
theorem r_opens {N : Nat} {σ0 : Mm} {B : Nat → Nat} {n s : Nat} {l : Cd} {k12 : Int32 → Mm → Option (Unit × Mm)} {Q : Unit → Mm → Prop} : ∀ {f t fu : Nat} {stk : List Nat} {σ : Mm}, f + dpt stk = 7 → 1 ≤ f → f < fu → RT σ B n t → ED σ0 σ s l stk → sw stk → (∀ τ w, opn (kK B n) f t stk = .inr w → RT τ B n w.1 → ED σ0 τ s l w.2 → Ok (f11_expression_84 N k12 0 τ) Q) → (∀ τ e, opn (kK B n) f t stk = .inl e → FM τ B n e → KS σ0 s τ → Q () τ) → Ok (f11_expression_23 N k12 0 fu σ) Q
  | 0, t, fu, stk, σ, _, h, _, _, _, _, _, _ => absurd h (by decide)
  | f + 1, t, 0, stk, σ, _, _, h, _, _, _, _, _ => absurd h (Nat.not_lt_zero _)
  | f + 1, t, fu + 1, stk, σ, hf, hf1, hfu, hR, h, hsw, hk, hF => by
    have ht := hR.2.2.2.1
    have hl3 := sw_len hsw
    obtain ⟨h1, ⟨h2, h3⟩, ⟨h4, h5⟩, h6, h7⟩ := id h
    rw [f11_expression_23, show (6 : Int32) = nI (km 11) from rfl, r_isN hR (by decide), z_b_some]
    by_cases c : kK B n t = 11
    · rw [decide_eq_true c]
      refine Ok.f (by decide) ?_
      rw [h6]
      refine Ok.i (fun c6 => ?_) (fun c6 => ?_)
      · have c6 : nI (dpt stk) = nI 6 := c6
        rw [nI_eq (by omega) (by decide)] at c6
        have ho : opn (kK B n) (f + 1) t stk = .inl (2, t) := by rw [opn, if_pos c, if_pos c6]
        refine Ok.b (show Ok (f11_fail N 2 σ) _ from (r_failN (k := 2) hR (Or.inr rfl)).fr fun r υ e => fr11_fail N e) ?_
        rintro - τ ⟨t1, t2⟩
        have hE := h.go t2 (by decide) (by decide)
        rw [f11_expression_46, z_l_eq]
        refine Ok.b ((r_goF (t1.w (by omega))).fr fun r υ e => fr11_goesOn N e) ?_
        rintro - υ ⟨u1, u2⟩
        obtain ⟨M, rfl⟩ : ∃ M, fu = M + 1 := ⟨fu - 1, by omega⟩
        refine (r_pushF (σ0 := σ0) (s := s) (m := stk.length) u1 ?_ ?_ (by omega)).mono fun r ρ hρ => hF ρ _ ho hρ.1 hρ.2
        · intro v a b
          exact ((hE.2.2.2.2 v a b).tr (kS_w (by unfold oS; omega))).tr (kS_same u2 (by decide))
        · rw [(u2.on (D := [(160, 1, some 51)]) (by decide)).I (wIn_s 0 rfl), gI_k (by decide)]
          exact hE.2.2.1.1
      · have c6 : ¬ nI (dpt stk) = nI 6 := c6
        rw [nI_eq (by omega) (by decide)] at c6
        rw [f11_expression_46, h6, nI_1, z_l_eq]
        have hR1 : RT (sI σ 160 12 (nI (dpt stk + 1))) B n t := RX.eq (s := .inr t) hR (EqOn_sI EqOn.rf (by decide))
        refine Ok.b ((r_goN hR1 (by omega)).fr fun r υ e => fr11_goesOn N e) ?_
        rintro - υ ⟨u1, u2⟩
        rw [c] at u1
        have h51 : gI υ 160 51 = nI stk.length := by
          rw [(u2.on (D := [(160, 1, some 51)]) (by decide)).I (wIn_s 0 rfl), gI_k (by decide)]; exact h4
        have hKS : KS σ0 s υ := fun v a b => ((h7 v a b).tr (kS_w (by unfold oS; omega))).tr (kS_same u2 (by decide))
        cases htk : tk1 (kK B n) 11 t with
        | inl e =>
          rw [htk] at u1
          have u1 : FM υ B n e := u1
          obtain ⟨M, rfl⟩ : ∃ M, fu = M + 1 := ⟨fu - 1, by omega⟩
          exact (r_pushF (σ0 := σ0) (s := s) (m := stk.length) u1 hKS h51 (by omega)).mono fun r ρ hρ => hF ρ e (by rw [opn, if_pos c, if_neg c6, htk]) hρ.1 hρ.2
        | inr t1 =>
          rw [htk] at u1
          have ho : opn (kK B n) (f + 1) t stk = opn (kK B n) f t1 (11 :: stk) := by rw [opn, if_pos c, if_neg c6, htk]
          have u1 : RT υ B n t1 := u1
          have hd1 := dpt_11 (r := stk)
          rw [h51]
          refine Ok.c (inBn (by omega) (by decide)) ?_
          rw [z_l_eq, ixn (by omega), gI_o (by decide), h51, nI_1, z_l_eq]
          have w : ∀ c k, 193 ≤ c → c < 196 → gI υ c k = gI σ c k := fun c k a b => by
            rw [(u2.on (D := [(193, 3, none)]) (by decide)).I (wIn_r 0 rfl a b), gI_o (by omega)]
          have hE : ED σ0 (sI (sI υ 195 stk.length (nI (km 11))) 160 51 (nI (stk.length + 1))) s l (11 :: stk) := by
            refine ⟨h1, ⟨?_, h3.imp fun j a _ ha => ⟨?_, ?_⟩⟩, ⟨gI_e, ?_, h5.imp fun j a hj ha => ?_⟩, ?_, (hKS.w (Or.inr (by decide))).w (Or.inl (by decide))⟩
            · rw [gI_k (by decide), gI_o (by decide), (u2.on (D := [(160, 1, some 47)]) (by decide)).I (wIn_s 0 rfl), gI_k (by decide)]; exact h2
            · rw [gI_o (by decide), gI_o (by decide), w _ _ (by decide) (by decide)]; exact ha.1
            · rw [gI_o (by decide), gI_o (by decide), w _ _ (by decide) (by decide)]; exact ha.2
            · unfold sM
              rw [gI_o (by decide), gI_e]
            · unfold sM at *
              rw [gI_o (by decide), gI_k (by omega), w _ _ (by decide) (by decide)]; exact ha
            · rw [gI_k (by decide), gI_o (by decide), (u2.on (D := [(160, 1, some 12)]) (by decide)).I (wIn_s 0 rfl), gI_e, hd1]
          have hR2 : RT (sI (sI υ 195 stk.length (nI (km 11))) 160 51 (nI (stk.length + 1))) B n t1 := RX.eq (s := .inr t1) u1 ((EqOn_sIa EqOn.rf (by decide)).tr (EqOn_sI EqOn.rf (by decide)))
          exact r_opens (f := f) (t := t1) (fu := fu) (stk := 11 :: stk) (by omega) (by omega) (by omega) hR2 hE ⟨hsw, Or.inl rfl⟩ (fun τ w hw => hk τ w (by rw [ho]; exact hw)) (fun τ e he => hF τ e (by rw [ho]; exact he))
    · rw [decide_eq_false c]
      exact Ok.t rfl (hk σ (t, stk) (by rw [opn, if_neg c]) hR h)
theorem r_145F {N : Nat} (hN : 4000 ≤ N) {σ0 σ : Mm} {B : Nat → Nat} {n s : Nat} {l : Cd} {stk : List Nat} {e : Nat × Nat} (h : FM σ B n e) (hE : ED σ0 σ s l stk) (hsw : sw stk) (h21 : stk.length ≤ 21) (hl : l.length + stk.length < 420) {k12 : Int32 → Mm → Option (Unit × Mm)} {x : Int32} : Ok (f11_expression_145 N k12 x σ) (fun _ τ => FM τ B n e ∧ KS σ0 s τ) := by
  rw [f11_expression_145, r_isF h, z_b_some, r_isF h, z_b_some, r_isF h, z_b_some, r_isF h, z_b_some, if_pos rfl, if_pos rfl, if_pos rfl, if_pos rfl, f11_expression_186, if_pos rfl, f11_expression_191]
  have fin : Ok (f11_expression_204 N σ) (fun _ τ => FM τ B n e ∧ KS σ0 s τ) := by
    rw [f11_expression_204]
    refine Ok.b (r_comes hN (least := 1) (Or.inl rfl) rfl hE hsw h21 hl) ?_
    rintro - τ ⟨t1, t2⟩
    exact Ok.ret ⟨RX.eq (s := .inl e) h (t2.on (by decide)), t1.2.2.2.2⟩
  refine Ok.i (fun _ => fin) (fun _ => ?_)
  rw [r_failF h, z_b_some]
  exact fin
theorem r_closes {N : Nat} (hN : 4000 ≤ N) {σ0 : Mm} {B : Nat → Nat} {n s : Nat} {k12 : Int32 → Mm → Option (Unit × Mm)} {Q : Unit → Mm → Prop} : ∀ {f t fu : Nat} {stk : List Nat} {l : Cd} {σ : Mm}, dpt stk < f → f < fu → RT σ B n t → ED σ0 σ s l stk → sw stk → dpt stk ≤ 6 → l.length + stk.length ≤ t + dpt stk → (∀ τ w, cls (kK B n) f t stk l = .inr w → RT τ B n w.1 → ED σ0 τ s w.2.2 w.2.1 → Ok (f11_expression_145 N k12 0 τ) Q) → (∀ τ e, cls (kK B n) f t stk l = .inl e → FM τ B n e → KS σ0 s τ → Q () τ) → Ok (f11_expression_96 N k12 0 fu σ) Q
  | 0, t, fu, stk, l, σ, h, _, _, _, _, _, _, _, _ => absurd h (Nat.not_lt_zero _)
  | f + 1, t, 0, stk, l, σ, _, h, _, _, _, _, _, _, _ => absurd h (Nat.not_lt_zero _)
  | f + 1, t, fu + 1, stk, l, σ, hf, hfu, hR, h, hsw, hd6, hw, hk, hF => by
    have ht := hR.2.2.2.1
    have hl3 := sw_len hsw
    have h6 := h.2.2.2.1
    rw [f11_expression_96, show (7 : Int32) = nI (km 12) from rfl, r_isN hR (by decide), z_b_some]
    by_cases c : kK B n t = 12
    · rw [decide_eq_true c]
      refine Ok.f (by decide) ?_
      rw [h6]
      refine Ok.i (fun c0 => ?_) (fun c0 => ?_)
      · have c0 : nI (dpt stk) ≤ nI 0 := c0
        rw [nI_leI (by omega) (by decide)] at c0
        exact hk σ (t, stk, l) (by rw [cls, if_neg (by omega)]) hR h
      · have c0 : ¬ nI (dpt stk) ≤ nI 0 := c0
        rw [nI_leI (by omega) (by decide)] at c0
        obtain ⟨r, r1, r2, r3, r4, r5⟩ := stl_11 (l := l) hsw (by omega)
        refine Ok.b (show Ok (f11_comesOut N 0 σ) _ from r_comes hN (least := 1) (Or.inl rfl) rfl h hsw (by omega) (by omega)) ?_
        rintro - τ ⟨t1, t2⟩
        have hRt : RT τ B n t := RX.eq (s := .inr t) hR (t2.on (by decide))
        rw [r1] at t1
        obtain ⟨q1, ⟨q2, q3⟩, ⟨q4, q5⟩, q6, q7⟩ := id t1
        have q4 : gI τ 160 51 = nI (r.length + 1) := q4
        have q6 : gI τ 160 12 = nI (dpt (11 :: r)) := q6
        rw [q4, show nI (r.length + 1) - 1 = nI r.length from nI_pred _, z_l_eq, gI_k (by decide), q6, dpt_11, show nI (dpt r + 1) - 1 = nI (dpt r) from nI_pred _, z_l_eq]
        have hE : ED σ0 (sI (sI τ 160 51 (nI r.length)) 160 12 (nI (dpt r))) s (stl 1 stk l).2 r := ⟨q1, ⟨by rw [gI_k (by decide), gI_k (by decide)]; exact q2, q3.imp fun j a _ ha => ⟨by rw [gI_o (by decide), gI_o (by decide)]; exact ha.1, by rw [gI_o (by decide), gI_o (by decide)]; exact ha.2⟩⟩, ⟨by rw [gI_k (by decide), gI_e], q5.2.imp fun j a _ ha => by unfold sM at *; rw [gI_o (by decide), gI_o (by decide)]; exact ha⟩, gI_e, (q7.w (Or.inl (by decide))).w (Or.inl (by decide))⟩
        have hR2 : RT (sI (sI τ 160 51 (nI r.length)) 160 12 (nI (dpt r))) B n t := RX.eq (s := .inr t) hRt ((EqOn_sI EqOn.rf (by decide)).tr (EqOn_sI EqOn.rf (by decide)))
        refine Ok.b ((r_goN hR2 (by omega)).fr fun r υ e => fr11_goesOn N e) ?_
        rintro - υ ⟨u1, u2⟩
        rw [c] at u1
        have hEu := hE.go u2 (by decide) (by decide)
        cases htk : tk1 (kK B n) 12 t with
        | inl e =>
          rw [htk] at u1
          have u1 : FM υ B n e := u1
          have hcl : cls (kK B n) (f + 1) t stk l = .inl e := by rw [cls, if_pos ⟨by omega, c⟩, htk]
          obtain ⟨M, rfl⟩ : ∃ M, fu = M + 1 := ⟨fu - 1, by omega⟩
          rw [f11_expression_96, r_isF u1, z_b_some]
          exact Ok.t rfl ((r_145F hN u1 hEu r2 (by omega) (by omega)).mono fun r ρ hρ => hF ρ e hcl hρ.1 hρ.2)
        | inr t' =>
          rw [htk] at u1
          have u1 : RT υ B n t' := u1
          obtain ⟨rfl, -, -⟩ := tk1_ok htk
          have hcl : cls (kK B n) (f + 1) t stk l = cls (kK B n) f (t + 1) r (stl 1 stk l).2 := by rw [cls, if_pos ⟨by omega, c⟩, htk, r1]; rfl
          exact r_closes hN (f := f) (t := t + 1) (fu := fu) (stk := r) (l := (stl 1 stk l).2) (by omega) (by omega) u1 hEu r2 (by omega) (by omega) (fun τ w hw => hk τ w (by rw [hcl]; exact hw)) (fun τ e he => hF τ e (by rw [hcl]; exact he))
    · rw [decide_eq_false c]
      exact Ok.t rfl (hk σ (t, stk, l) (by rw [cls, if_neg (fun e => c e.2)]) hR h)
theorem rnk_k {k : Nat} : (rnk k = 0 ∧ k ≠ 6 ∧ k ≠ 7 ∧ k ≠ 8 ∧ k ≠ 9) ∨ (rnk k = 1 ∧ (k = 6 ∨ k = 7)) ∨ (rnk k = 2 ∧ (k = 8 ∨ k = 9)) := by
  unfold rnk
  by_cases c : k = 6 ∨ k = 7
  · rw [if_pos c]; exact Or.inr (Or.inl ⟨rfl, c⟩)
  · rw [if_neg c]
    by_cases c2 : k = 8 ∨ k = 9
    · rw [if_pos c2]; exact Or.inr (Or.inr ⟨rfl, c2⟩)
    · rw [if_neg c2]; exact Or.inl ⟨rfl, by omega, by omega, by omega, by omega⟩
/-- where an E ends, or a sign stands -/
theorem r_145 {N : Nat} (hN : 4000 ≤ N) {σ0 σ : Mm} {B : Nat → Nat} {n s t : Nat} {l : Cd} {stk : List Nat} {k12 : Int32 → Mm → Option (Unit × Mm)} {Q : Unit → Mm → Prop} (hR : RT σ B n t) (h : ED σ0 σ s l stk) (hsw : sw stk) (hd6 : dpt stk ≤ 6) (hw : l.length + stk.length ≤ t + dpt stk)
    (hend : rnk (kK B n t) = 0 → dpt stk = 0 → ∀ τ, RT τ B n t → ED σ0 τ s (stl 1 stk l).2 [] → Q () τ) (hbad : rnk (kK B n t) = 0 → dpt stk ≠ 0 → ∀ τ, FM τ B n (1, t) → KS σ0 s τ → Q () τ)
    (hF : rnk (kK B n t) ≠ 0 → ∀ τ e, tk1 (kK B n) (kK B n t) t = .inl e → FM τ B n e → KS σ0 s τ → Ok (k12 1 τ) Q) (hgo : rnk (kK B n t) ≠ 0 → ∀ τ t', tk1 (kK B n) (kK B n t) t = .inr t' → RT τ B n t' → ED σ0 τ s (stl (rnk (kK B n t)) stk l).2 (kK B n t :: (stl (rnk (kK B n t)) stk l).1) → Ok (k12 1 τ) Q) : Ok (f11_expression_145 N k12 0 σ) Q := by
  have ht := hR.2.2.2.1
  have hl3 := sw_len hsw
  have hdl : dpt stk ≤ stk.length := List.count_le_length
  obtain ⟨n1, n2, n3⟩ := stl_ns (least := 1) (Nat.le_refl _) (stk := stk) (o := l)
  obtain ⟨w1, w2, -⟩ := stl_sw (least := 1) (stk := stk) (o := l) hsw
  -- a sign: what binds as strongly comes out, it waits
  have sign : ∀ x, rnk (kK B n t) ≠ 0 → x = nI (rnk (kK B n t) - 1) → Ok (f11_expression_234 N k12 0 1 x σ) Q := by
    intro x hr hx
    have hrr : rnk (kK B n t) = 1 ∨ rnk (kK B n t) = 2 := by rcases rnk_k (k := kK B n t) with e | e | e <;> omega
    have hk10 := rnk_lt (s := kK B n t) (by omega)
    obtain ⟨m1, m2, m3⟩ := stl_ns (least := rnk (kK B n t)) (by omega) (stk := stk) (o := l)
    rw [f11_expression_234]
    refine Ok.b (r_comes hN (least := rnk (kK B n t)) hrr hx h hsw (by omega) (by omega)) ?_
    rintro - τ ⟨t1, t2⟩
    have hRt : RT τ B n t := RX.eq (s := .inr t) hR (t2.on (by decide))
    obtain ⟨q1, ⟨q2, q3⟩, ⟨q4, q5⟩, q6, q7⟩ := id t1
    rw [hRt.2.2.2.2.1, ixn (by omega), hRt.row.1, q4]
    refine Ok.c (inBn (by omega) (by decide)) (Ok.c (inBn (by omega) (by decide)) ?_)
    rw [z_l_eq, ixn (by omega), gI_o (by decide), q4, nI_1, z_l_eq]
    have hdn : dpt (kK B n t :: (stl (rnk (kK B n t)) stk l).1) = dpt (stl (rnk (kK B n t)) stk l).1 := by
      unfold dpt
      rw [List.count_cons_of_ne hk10.2]
    have hE : ED σ0 (sI (sI τ 195 (stl (rnk (kK B n t)) stk l).1.length (nI (km (kK B n t)))) 160 51 (nI ((stl (rnk (kK B n t)) stk l).1.length + 1))) s (stl (rnk (kK B n t)) stk l).2 (kK B n t :: (stl (rnk (kK B n t)) stk l).1) := ⟨q1, ⟨by rw [gI_k (by decide), gI_o (by decide)]; exact q2, q3.imp fun j a _ ha => ⟨by rw [gI_o (by decide), gI_o (by decide)]; exact ha.1, by rw [gI_o (by decide), gI_o (by decide)]; exact ha.2⟩⟩, ⟨gI_e, by unfold sM; rw [gI_o (by decide), gI_e], q5.imp fun j a hj ha => by unfold sM at *; rw [gI_o (by decide), gI_k (by omega)]; exact ha⟩, by rw [hdn, gI_k (by decide), gI_o (by decide)]; exact q6, (q7.w (Or.inr (by decide))).w (Or.inl (by decide))⟩
    have hR2 : RT (sI (sI τ 195 (stl (rnk (kK B n t)) stk l).1.length (nI (km (kK B n t)))) 160 51 (nI ((stl (rnk (kK B n t)) stk l).1.length + 1))) B n t := RX.eq (s := .inr t) hRt ((EqOn_sIa EqOn.rf (by decide)).tr (EqOn_sI EqOn.rf (by decide)))
    have hk2 : 2 ≤ kK B n t := by rcases rnk_k (k := kK B n t) with e | e | e <;> omega
    refine Ok.b ((r_goN hR2 hk2).fr fun r υ e => fr11_goesOn N e) ?_
    rintro - υ ⟨u1, u2⟩
    have hEu := hE.go u2 (by decide) (by decide)
    cases htk : tk1 (kK B n) (kK B n t) t with
    | inl e =>
      rw [htk] at u1
      exact hF hr υ e htk u1 hEu.2.2.2.2
    | inr t' =>
      rw [htk] at u1
      exact hgo hr υ t' htk u1 hEu
  rw [f11_expression_145, show (8 : Int32) = nI (km 6) from rfl, r_isN hR (by decide), z_b_some, show (9 : Int32) = nI (km 7) from rfl, r_isN hR (by decide), z_b_some, show (10 : Int32) = nI (km 8) from rfl, r_isN hR (by decide), z_b_some, show (15 : Int32) = nI (km 9) from rfl, r_isN hR (by decide), z_b_some]
  have s186 : rnk (kK B n t) ≠ 0 → Ok (f11_expression_181 N k12 0 σ) Q := by
    intro hr
    rw [f11_expression_181, f11_expression_186]
    refine Ok.f (by decide) ?_
    rw [show (10 : Int32) = nI (km 8) from rfl, r_isN hR (by decide), z_b_some]
    rcases rnk_k (k := kK B n t) with e | ⟨e1, e2⟩ | ⟨e1, e2⟩
    · exact absurd e.1 hr
    · rw [decide_eq_false (show ¬ kK B n t = 8 by omega)]
      refine Ok.t rfl ?_
      rw [show (15 : Int32) = nI (km 9) from rfl, r_isN hR (by decide), z_b_some, decide_eq_false (show ¬ kK B n t = 9 by omega)]
      exact Ok.t rfl (sign 0 hr (by rw [e1]; rfl))
    · by_cases c8 : kK B n t = 8
      · rw [decide_eq_true c8]
        refine Ok.f (by decide) ?_
        rw [f11_expression_229]
        exact sign 1 hr (by rw [e1]; rfl)
      · rw [decide_eq_false c8]
        refine Ok.t rfl ?_
        rw [show (15 : Int32) = nI (km 9) from rfl, r_isN hR (by decide), z_b_some, decide_eq_true (show kK B n t = 9 by omega)]
        refine Ok.f (by decide) ?_
        rw [f11_expression_229]
        exact sign 1 hr (by rw [e1]; rfl)
  rcases rnk_k (k := kK B n t) with ⟨e0, e6, e7, e8, e9⟩ | ⟨e1, e2⟩ | ⟨e1, e2⟩
  · rw [decide_eq_false e6, decide_eq_false e7, decide_eq_false e8, decide_eq_false e9]
    refine Ok.t rfl (Ok.t rfl (Ok.t rfl (Ok.t rfl ?_)))
    rw [f11_expression_186]
    refine Ok.t rfl ?_
    rw [f11_expression_191, h.2.2.2.1]
    refine Ok.i (fun c0 => ?_) (fun c0 => ?_)
    · have c0 : nI (dpt stk) ≤ nI 0 := c0
      rw [nI_leI (by omega) (by decide)] at c0
      rw [f11_expression_204]
      refine Ok.b (r_comes hN (least := 1) (Or.inl rfl) rfl h hsw (by omega) (by omega)) ?_
      rintro - τ ⟨t1, t2⟩
      rw [top_nil (w2 rfl) (by omega)] at t1
      exact Ok.ret (hend e0 (by omega) τ (RX.eq (s := .inr t) hR (t2.on (by decide))) t1)
    · have c0 : ¬ nI (dpt stk) ≤ nI 0 := c0
      rw [nI_leI (by omega) (by decide)] at c0
      refine Ok.b (show Ok (f11_fail N 1 σ) _ from (r_failN (k := 1) hR (Or.inl rfl)).fr fun r υ e => fr11_fail N e) ?_
      rintro - τ ⟨t1, t2⟩
      rw [f11_expression_204]
      refine Ok.b (r_comes hN (least := 1) (Or.inl rfl) rfl (h.go t2 (by decide) (by decide)) hsw (by omega) (by omega)) ?_
      rintro - υ ⟨u1, u2⟩
      exact Ok.ret (hbad e0 (by omega) υ (RX.eq (s := .inl (1, t)) t1 (u2.on (by decide))) u1.2.2.2.2)
  · rcases e2 with e2 | e2
    · rw [decide_eq_true e2]
      exact Ok.f (by decide) (s186 (by omega))
    · rw [decide_eq_false (show ¬ kK B n t = 6 by omega), decide_eq_true e2]
      exact Ok.t rfl (Ok.f (by decide) (s186 (by omega)))
  · rcases e2 with e2 | e2
    · rw [decide_eq_false (show ¬ kK B n t = 6 by omega), decide_eq_false (show ¬ kK B n t = 7 by omega), decide_eq_true e2]
      exact Ok.t rfl (Ok.t rfl (Ok.f (by decide) (s186 (by omega))))
    · rw [decide_eq_false (show ¬ kK B n t = 6 by omega), decide_eq_false (show ¬ kK B n t = 7 by omega), decide_eq_false (show ¬ kK B n t = 8 by omega), decide_eq_true e2]
      exact Ok.t rfl (Ok.t rfl (Ok.t rfl (Ok.f (by decide) (s186 (by omega)))))
theorem r_sumF {N : Nat} (hN : 4000 ≤ N) {σ0 : Mm} {B : Nat → Nat} {n s : Nat} : ∀ {f t fu : Nat} {stk : List Nat} {l : Cd} {σ : Mm}, 401 ≤ t + f → f + 1 < fu → RT σ B n t → ED σ0 σ s l stk → sw stk → dpt stk ≤ 6 → l.length + stk.length ≤ t + dpt stk → Ok (f11_expression_12 N 0 fu 1 σ) (fun _ τ => REx σ0 τ B n s (sumF (kK B n) (vV B n) f t stk l) [])
  | 0, t, fu, stk, l, σ, hf, _, hR, _, _, _, _ => absurd hR.2.2.2.1 (by omega)
  | f + 1, t, 0, stk, l, σ, _, h, _, _, _, _, _ => absurd h (Nat.not_lt_zero _)
  | f + 1, t, fu + 1, stk, l, σ, hf, hfu, hR, h, hsw, hd6, hw => by
    have ht := hR.2.2.2.1
    rw [f11_expression_12]
    refine Ok.f (by decide) (Ok.t hR.2.2.2.2.2 ?_)
    have e7 : opn (kK B n) 7 t stk = opn (kK B n) (7 - dpt stk) t stk := opn_fuel (by omega) (by omega) hd6
    refine r_opens (f := 7 - dpt stk) (by omega) (by omega) (by omega) hR h hsw (fun τ w ho hRw hEw => ?_) (fun τ e ho hFe hKe => ?_)
    · obtain ⟨t1, stk1⟩ := w
      dsimp only at hRw hEw
      obtain ⟨o1, o2, o3, o4⟩ := opn_pure ho hsw hd6
      have hle := opn_le ho
      have ho7 : opn (kK B n) 7 t stk = .inr (t1, stk1) := by rw [e7]; exact ho
      have ht1 := hRw.2.2.2.1
      rw [f11_expression_84]
      refine Ok.b (r_unit (N := N) hRw hEw (by omega)) ?_
      rintro - υ hU
      cases hu : unt (kK B n) (vV B n) t1 l with
      | inl e =>
        rw [hu] at hU
        have hU : FM υ B n e ∧ KS σ0 s υ := hU
        have hsf : sumF (kK B n) (vV B n) (f + 1) t stk l = .inl e := by simp only [sumF, ho7, hu]
        rw [hsf]
        exact Ok.f hU.1.n0.2.1 (Ok.ret hU)
      | inr w2 =>
        obtain ⟨t2, l2⟩ := w2
        rw [hu] at hU
        have hU : RT υ B n t2 ∧ ED σ0 υ s l2 stk1 := hU
        obtain ⟨u1, -⟩ := unt_ok hu
        have hl2 : l2.length = l.length + 1 := by
          unfold unt at hu
          split at hu
          · cases htk : tk1 (kK B n) 3 t1 with
            | inl e => rw [htk] at hu; cases hu
            | inr t' => rw [htk] at hu; cases hu; rfl
          · split at hu
            · cases htk : tk1 (kK B n) (kK B n t1) t1 with
              | inl e => rw [htk] at hu; cases hu
              | inr t' => rw [htk] at hu; cases hu; rfl
            · cases hu
        have ht2 := hU.1.2.2.2.1
        refine Ok.t (by rw [hU.1.2.2.2.2.2]; decide) ?_
        refine r_closes hN (f := 7) (by omega) (by omega) hU.1 hU.2 o1 o4 (by omega) (fun ρ w hc hRc hEc => ?_) (fun ρ e hc hFe hKe => ?_)
        · obtain ⟨t3, stk3, l3⟩ := w
          dsimp only at hRc hEc
          obtain ⟨c1, c2, c3, c4, c5⟩ := cls_pure hc o1 o4 (by omega) (by omega)
          have ht3 := hRc.2.2.2.1
          have hsf : sumF (kK B n) (vV B n) (f + 1) t stk l = (if rnk (kK B n t3) = 0 then (if dpt (stl 1 stk3 l3).1 = 0 then .inr (t3, (stl 1 stk3 l3).2) else .inl (1, t3)) else match tk1 (kK B n) (kK B n t3) t3 with
              | .inl e => .inl e
              | .inr t4 => sumF (kK B n) (vV B n) f t4 (kK B n t3 :: (stl (rnk (kK B n t3)) stk3 l3).1) (stl (rnk (kK B n t3)) stk3 l3).2) := by
            simp only [sumF, ho7, hu, hc]
            split
            · rfl
            · cases tk1 (kK B n) (kK B n t3) t3 <;> rfl
          obtain ⟨n1, n2, n3⟩ := stl_ns (least := 1) (Nat.le_refl _) (stk := stk3) (o := l3)
          refine r_145 hN hRc hEc c1 c3 c4 (fun e0 ed τ' hR' hE' => ?_) (fun e0 ed τ' hF' hK' => ?_) (fun er τ' e htk hF' hK' => ?_) (fun er τ' t4 htk hR' hE' => ?_)
          · rw [hsf, if_pos e0, if_pos (show dpt (stl 1 stk3 l3).1 = 0 by omega)]
            exact ⟨hR', hE'⟩
          · rw [hsf, if_pos e0, if_neg (show ¬ dpt (stl 1 stk3 l3).1 = 0 by omega)]
            exact ⟨hF', hK'⟩
          · rw [hsf, if_neg er, htk]
            obtain ⟨M, rfl⟩ : ∃ M, fu = M + 1 := ⟨fu - 1, by omega⟩
            show Ok (f11_expression_12 N 0 (M + 1) 1 τ') _
            rw [f11_expression_12]
            exact Ok.f (by decide) (Ok.f hF'.n0.1 (Ok.ret ⟨hF', hK'⟩))
          · rw [hsf, if_neg er, htk]
            obtain ⟨m1, m2, m3⟩ := stl_ns (least := rnk (kK B n t3)) (by omega) (stk := stk3) (o := l3)
            obtain ⟨x1, x2, x3⟩ := stl_sw (least := rnk (kK B n t3)) (stk := stk3) (o := l3) c1
            have hk10 := rnk_lt (s := kK B n t3) (by omega)
            obtain ⟨rfl, -, -⟩ := tk1_ok htk
            have hdn : dpt (kK B n t3 :: (stl (rnk (kK B n t3)) stk3 l3).1) = dpt stk3 := by
              rw [← m1]
              unfold dpt
              rw [List.count_cons_of_ne hk10.2]
            have hswn : sw (kK B n t3 :: (stl (rnk (kK B n t3)) stk3 l3).1) := by
              refine ⟨x1, Or.inr ?_⟩
              rcases rnk_k (k := kK B n t3) with e | e | e
              · exact absurd e.1 er
              · exact Or.inl ⟨e.1, x2 e.1⟩
              · exact Or.inr ⟨e.1, x3 e.1⟩
            exact r_sumF hN (f := f) (t := t3 + 1) (fu := fu) (by omega) (by omega) hR' hE' hswn (by omega) (by simp only [List.length_cons]; omega)
        · have hsf : sumF (kK B n) (vV B n) (f + 1) t stk l = .inl e := by simp only [sumF, ho7, hu, hc]
          rw [hsf]
          exact ⟨hFe, hKe⟩
    · have hsf : sumF (kK B n) (vV B n) (f + 1) t stk l = .inl e := by simp only [sumF, e7, ho]
      rw [hsf]
      exact ⟨hFe, hKe⟩
/-- the reference's code so far -/
def EC (σ0 σ : Mm) (s : Nat) (l : Cd) : Prop := s < 2 ∧ (gI σ 160 47 = nI (420 * s + l.length) ∧ At (cM σ s) l) ∧ gI σ 160 12 = 0 ∧ KS σ0 s σ
theorem r_expr {N : Nat} (hN : 4000 ≤ N) {σ0 σ : Mm} {B : Nat → Nat} {n s t : Nat} {l : Cd} (hR : RT σ B n t) (h : EC σ0 σ s l) (hw : l.length ≤ t) : Ok (f11_expression N σ) (fun _ τ => (match sumF (kK B n) (vV B n) 401 t [] [] with
    | .inl e => FM τ B n e ∧ KS σ0 s τ
    | .inr w => RT τ B n w.1 ∧ EC σ0 τ s (w.2 ++ l)) ∧ Same wr11_expression σ τ) := by
  refine Ok.fr ?_ fun r τ e => fr11_expression N e
  obtain ⟨h1, ⟨h2, h3⟩, h4, h5⟩ := h
  unfold f11_expression
  rw [z_l_eq, gI_k (by decide), h4, z_l_eq]
  have hE : ED σ0 (sI σ 160 51 0) s l [] := ⟨h1, ⟨by rw [gI_k (by decide)]; exact h2, h3.imp fun j a _ ha => ⟨by rw [gI_o (by decide)]; exact ha.1, by rw [gI_o (by decide)]; exact ha.2⟩⟩, ⟨gI_e, trivial⟩, by rw [gI_k (by decide)]; exact h4, h5.w (Or.inl (by decide))⟩
  have hR2 : RT (sI σ 160 51 0) B n t := RX.eq (s := .inr t) hR (EqOn_sI EqOn.rf (by decide))
  refine (r_sumF hN (f := 401) (t := t) (fu := N) (stk := []) (by omega) (by omega) hR2 hE trivial (by decide) (show l.length + 0 ≤ t + 0 by omega)).mono ?_
  rintro - τ hm
  have ha := sumF_app (K := kK B n) (V := vV B n) (l := l) (f := 401) (t := t) (stk := []) (o := [])
  rw [List.nil_append] at ha
  rw [ha] at hm
  cases hs : sumF (kK B n) (vV B n) 401 t [] [] with
  | inl e => rw [hs] at hm; exact hm
  | inr w =>
    obtain ⟨t', e⟩ := w
    rw [hs] at hm
    have hm : RT τ B n t' ∧ ED σ0 τ s (e ++ l) [] := hm
    exact ⟨hm.1, hm.2.1, hm.2.2.1, hm.2.2.2.2.1, hm.2.2.2.2.2⟩
