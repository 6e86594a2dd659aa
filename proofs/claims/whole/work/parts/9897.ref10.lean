-- THE REFERENCE'S LAWS: all of one
def lwM (σ0 σ : Mm) (B : Nat → Nat) (n s k b : Nat) (x2 : Int32) (l : Cd) (m : PR (Nat × Lw)) (τ : Mm) : Prop := match m with
  | .inl e => FM τ B n e ∧ KS σ0 s τ
  | .inr w => (RT τ B n w.1 ∧ EC σ0 τ s (rL l w.2.1 w.2.2) ∧ (rL l w.2.1 w.2.2).length ≤ w.1) ∧ (gI τ 160 41 = nI (130 * s + (b + w.2.1.length + 1)) ∧ gI τ 160 19 = nI s) ∧ BrAt τ s b l.length w.2.1 w.2.2 ∧ (gI τ 186 (4 * s + k) = x2 ∧ gI τ 187 (4 * s + k) = nI (130 * s + (b + w.2.1.length + 1))) ∧ (∀ c j, 188 ≤ c → c ≤ 192 → j < b → gI τ c (130 * s + j) = gI σ c (130 * s + j)) ∧ (∀ c j, c = 186 ∨ c = 187 → j ≠ 4 * s + k → gI τ c j = gI σ c j)
def cdO : PR (Nat × Cd) → Cd
  | .inr v => v.2
  | .inl _ => []
theorem r_129F {N : Nat} (hN : 4000 ≤ N) {σ0 σ : Mm} {B : Nat → Nat} {n s b : Nat} {e : Nat × Nat} {x1 x2 : Int32} (h : LX σ0 σ B n s b (.inl e)) (hb : b < 130) : Ok (f11_tellLaw_129 N x1 x2 σ) (fun _ τ => FM τ B n e ∧ KS σ0 s τ) := by
  have hs := h.1.1
  rw [f11_tellLaw_129, h.1.2.1, ixn (by omega)]
  refine Ok.c (inBn (by omega) (by decide)) ?_
  rw [z_l_eq]
  refine Ok.b (x_term hN (h.wr (c := 188) (j := b) (by decide) (by decide) hb) hb) ?_
  rintro - τ ⟨t1, -⟩
  refine Ok.b (show Ok (f11_must N 4 τ) _ from x_must (k := 4) t1 (by decide) (by decide)) ?_
  rintro - υ ⟨u1, -⟩
  have u1 : LX σ0 υ B n s (b + 1) (.inl e) := u1
  exact Ok.f u1.2.1.n0.2.1 (Ok.ret u1.2)
theorem r_129 {N : Nat} (hN : 4000 ≤ N) {σ0 σ : Mm} {B : Nat → Nat} {n s b k t : Nat} {l : Cd} {x2 : Int32} (h : LX σ0 σ B n s b (.inr (t, l))) (hb : b < 130) (hk : k < 4) : Ok (f11_tellLaw_129 N (nI k) x2 σ) (fun _ τ => lwM σ0 σ B n s k b x2 l (lwE (kK B n) (vV B n) t) τ) := by
  have hs := h.1.1
  rw [f11_tellLaw_129, h.1.2.1, ixn (by omega)]
  refine Ok.c (inBn (by omega) (by decide)) ?_
  rw [z_l_eq, show vp_nar .boolean (0 : Int32) = 0 from rfl]
  refine Ok.b (x_term hN (h.wr (c := 188) (j := b) (x := 0) (by decide) (by decide) hb) hb) ?_
  rintro - τ ⟨t1, t2, t3, t4⟩
  refine Ok.b (show Ok (f11_must N 4 τ) _ from x_must (k := 4) t1 (by decide) (by decide)) ?_
  rintro - υ ⟨u1, u2⟩
  have kc : ∀ c j, 186 ≤ c → c ≤ 192 → gI υ c j = gI τ c j := fun c j a1 a2 => (u2.on (D := [(186, 7, none)]) (by decide)).I (wIn_r 0 rfl a1 (by omega))
  have u1 : LX σ0 υ B n s (b + 1) (bP (bP (sumF (kK B n) (vV B n) 401 t [] []) fun v => (.inr (v.1, v.2 ++ l) : PR (Nat × Cd))) fun w => bP (tk1 (kK B n) 4 w.1) fun t' => .inr (t', w.2)) := u1
  have t3 : ∀ w, (bP (sumF (kK B n) (vV B n) 401 t [] []) fun v => (.inr (v.1, v.2 ++ l) : PR (Nat × Cd))) = .inr w → gI τ 192 (130 * s + b) = nI (420 * s + w.2.length) := t3
  unfold lwE
  cases hs1 : sumF (kK B n) (vV B n) 401 t [] [] with
  | inl e =>
    rw [hs1] at u1
    have u1 : LX σ0 υ B n s (b + 1) (.inl e) := u1
    exact Ok.f u1.2.1.n0.2.1 (Ok.ret u1.2)
  | inr v =>
    rw [hs1] at u1 t3
    have u1 : LX σ0 υ B n s (b + 1) (bP (tk1 (kK B n) 4 v.1) fun t' => .inr (t', v.2 ++ l)) := u1
    have t3 := t3 _ rfl
    show Ok _ (fun _ τ => lwM σ0 σ B n s k b x2 l (bP (tk1 (kK B n) 4 v.1) fun t2 => .inr (t2, [], v.2)) τ)
    cases htk : tk1 (kK B n) 4 v.1 with
    | inl e =>
      rw [htk] at u1
      have u1 : LX σ0 υ B n s (b + 1) (.inl e) := u1
      exact Ok.f u1.2.1.n0.2.1 (Ok.ret u1.2)
    | inr t' =>
      rw [htk] at u1
      have u1 : LX σ0 υ B n s (b + 1) (.inr (t', v.2 ++ l)) := u1
      obtain ⟨⟨-, q1, q2⟩, q3, ⟨p1, ⟨p2, p3⟩, p4, p5⟩, q5⟩ := u1
      refine Ok.t (by rw [q3.2.2.2.2.2]; decide) ?_
      rw [q2, show (4 : Int32) * nI s + nI k = nI (4 * s + k) by rw [show (4 : Int32) = nI 4 from rfl, pk_mul, nI_add], ixn (by omega)]
      refine Ok.c (inBn (by omega) (by decide)) ?_
      rw [z_l_eq, gI_o (by decide), q2, show (4 : Int32) * nI s + nI k = nI (4 * s + k) by rw [show (4 : Int32) = nI 4 from rfl, pk_mul, nI_add], ixn (by omega)]
      refine Ok.c (inBn (by omega) (by decide)) ?_
      rw [gI_o (by decide), q1, z_l_eq]
      have hE : EqOn (D_X ++ [(160, 1, some 41), (160, 1, some 19), (160, 1, some 47), (160, 1, some 12), (188, 7, none)]) υ (sI (sI υ 186 (4 * s + k) x2) 187 (4 * s + k) (nI (130 * s + (b + 1)))) := (EqOn_sIa EqOn.rf (by decide)).tr (EqOn_sIa EqOn.rf (by decide))
      have cc : ∀ c j, 188 ≤ c → c ≤ 194 → gI (sI (sI υ 186 (4 * s + k) x2) 187 (4 * s + k) (nI (130 * s + (b + 1)))) c j = gI υ c j := fun c j a1 a2 => hE.I (wIn_r 8 rfl a1 (by omega))
      have t2 : gI τ 191 (130 * s + b) = nI (420 * s + l.length) := t2 (t, l) rfl
      refine Ok.ret ⟨⟨RX.eq (s := .inr t') q3 (hE.sub (by decide)), ⟨p1, ⟨by rw [hE.I (wIn_s 6 rfl)]; exact p2, p3.imp fun j a _ ha => ?_⟩, by rw [hE.I (wIn_s 7 rfl)]; exact p4, fun v1 a1 a2 => ((p5 v1 a1 a2).tr (kS_w (by unfold oS; omega))).tr (kS_w (by unfold oS; omega))⟩, q5⟩, ⟨by rw [hE.I (wIn_s 4 rfl)]; exact q1, by rw [hE.I (wIn_s 5 rfl)]; exact q2⟩, ⟨?_, ?_, ?_⟩, ⟨by rw [gI_o (by decide), gI_e], gI_e⟩, fun c j a1 a2 a3 => ?_, fun c j a1 a2 => ?_⟩
      · unfold cM at *
        rw [cc _ _ (by decide) (by decide), cc _ _ (by decide) (by decide)]; exact ha
      · rw [cc _ _ (by decide) (by decide), kc _ _ (by decide) (by decide), t4 _ _ (by decide) (by decide) (Or.inr (by decide)), gI_e]
      · rw [cc _ _ (by decide) (by decide), kc _ _ (by decide) (by decide)]; exact t2
      · rw [cc _ _ (by decide) (by decide), kc _ _ (by decide) (by decide), t3]
        show nI (420 * s + (v.2 ++ l).length) = nI (420 * s + (l.length + v.2.length))
        rw [List.length_append, Nat.add_comm v.2.length]
      · rw [cc _ _ a1 (by omega), kc _ _ (by omega) a2, t4 _ _ (by omega) a2 (Or.inl (by omega))]
        by_cases e : c = 188
        · subst e; exact gI_k (by omega)
        · exact gI_o e
      · have e1 : gI (sI (sI υ 186 (4 * s + k) x2) 187 (4 * s + k) (nI (130 * s + (b + 1)))) c j = gI υ c j := by
          rcases a1 with rfl | rfl
          · rw [gI_o (by decide), gI_k a2]
          · rw [gI_k a2, gI_o (by decide)]
        rw [e1, kc c j (by omega) (by omega), t4 c j (by omega) (by omega) (Or.inr (by omega)), gI_o (by omega)]
theorem r_12F {N : Nat} (hN : 4000 ≤ N) {σ0 σ : Mm} {B : Nat → Nat} {n s b fu : Nat} {e : Nat × Nat} {x1 x2 x3 : Int32} (h : LX σ0 σ B n s b (.inl e)) (hb : b < 130) : Ok (f11_tellLaw_12 N x1 x2 (fu + 1) x3 σ) (fun _ τ => FM τ B n e ∧ KS σ0 s τ) := by
  rw [f11_tellLaw_12]
  exact Ok.f h.2.1.n0.1 (r_129F hN h hb)
/-- the token that is there -/
theorem x_go {N : Nat} {σ0 σ : Mm} {B : Nat → Nat} {n s b t : Nat} {l : Cd} (h : LX σ0 σ B n s b (.inr (t, l))) (hk : 2 ≤ kK B n t) : Ok (f11_goesOn N σ) (fun _ τ => LX σ0 τ B n s b (bP (tk1 (kK B n) (kK B n t) t) fun t' => .inr (t', l)) ∧ Same wr11_goesOn σ τ) := by
  obtain ⟨⟨h1, h2, h3⟩, a1, ⟨a2, ⟨a3, a4⟩, a5, a6⟩, a7⟩ := id h
  refine ((r_goN (N := N) a1 hk).fr fun r τ e => fr11_goesOn N e).mono ?_
  rintro - τ ⟨t1, t2⟩
  have e1 := t2.on (D := [(160, 1, some 41), (160, 1, some 19), (160, 1, some 47), (160, 1, some 12), (193, 2, none)]) (by decide)
  have hw : ∀ c k, 193 ≤ c → c < 195 → gI τ c k = gI σ c k := fun c k x y => e1.I (wIn_r 4 rfl x y)
  refine ⟨⟨⟨h1, by rw [e1.I (wIn_s 0 rfl)]; exact h2, by rw [e1.I (wIn_s 1 rfl)]; exact h3⟩, ?_⟩, t2⟩
  have hK : KS σ0 s τ := fun v x y => (a6 v x y).tr (kS_same t2 (by decide))
  cases htk : tk1 (kK B n) (kK B n t) t with
  | inl e => rw [htk] at t1; exact ⟨t1, hK⟩
  | inr t' =>
    rw [htk] at t1
    obtain ⟨rfl, -, -⟩ := tk1_ok htk
    refine ⟨t1, ⟨a2, ⟨by rw [e1.I (wIn_s 2 rfl)]; exact a3, a4.imp fun j x _ hx => ?_⟩, by rw [e1.I (wIn_s 3 rfl)]; exact a5, hK⟩, by show l.length ≤ t + 1; have a7 : l.length ≤ t := a7; omega⟩
    unfold cM at *
    rw [hw _ _ (by decide) (by decide), hw _ _ (by decide) (by decide)]; exact hx
theorem r_lawF {N : Nat} (hN : 4000 ≤ N) {σ0 : Mm} {B : Nat → Nat} {n s k : Nat} {x2 : Int32} (hk : k < 4) : ∀ {f t x fu b : Nat} {l : Cd} {σ : Mm}, x + f = 4 → f + 1 < fu → LX σ0 σ B n s b (.inr (t, l)) → b + f + 3 < 130 → Ok (f11_tellLaw_12 N (nI k) x2 fu (nI x) σ) (fun _ τ => lwM σ0 σ B n s k b x2 l (lawF (kK B n) (vV B n) f t) τ)
  | f, t, x, 0, b, l, σ, _, hfu, _, _ => absurd hfu (Nat.not_lt_zero _)
  | 0, t, x, fu + 1, b, l, σ, hx, hfu, h, hb => by
    have hR : RT σ B n t := h.2.1
    rw [f11_tellLaw_12, show (30 : Int32) = nI (km 23) from rfl, r_isN hR (by decide), z_b_some, lawF]
    refine Ok.t hR.2.2.2.2.2 ?_
    by_cases c : kK B n t = 23
    · rw [decide_eq_true c, if_pos c]
      refine Ok.f (by decide) (Ok.t (by rw [show x = 4 by omega]; rfl) ?_)
      refine Ok.b (show Ok (f11_fail N 2 σ) _ from (r_failN (k := 2) hR (Or.inr rfl)).fr fun r υ e => fr11_fail N e) ?_
      rintro - τ ⟨t1, t2⟩
      rw [f11_tellLaw_38]
      refine Ok.f t1.n0.2.1 (Ok.ret ⟨t1, fun v a d => (h.2.2.1.2.2.2 v a d).tr (kS_same t2 (by decide))⟩)
    · rw [decide_eq_false c, if_neg c]
      exact Ok.t rfl (r_129 hN h (by omega) hk)
  | f + 1, t, x, fu + 1, b, l, σ, hx, hfu, h, hb => by
    have hs := h.1.1
    have hR : RT σ B n t := h.2.1
    rw [f11_tellLaw_12, show (30 : Int32) = nI (km 23) from rfl, r_isN hR (by decide), z_b_some, lawF]
    refine Ok.t hR.2.2.2.2.2 ?_
    by_cases c : kK B n t = 23
    · rw [decide_eq_true c, if_pos c]
      refine Ok.f (by decide) (Ok.f (fun e => absurd ((nI_eq (b := 4) (by omega) (by decide)).mp e) (by omega)) ?_)
      rw [f11_tellLaw_38]
      refine Ok.t (by rw [hR.2.2.2.2.2]; decide) (Ok.l ?_)
      refine Ok.b (x_go h (by omega)) ?_
      rintro - τ1 ⟨g1, g2⟩
      rw [c] at g1
      rw [g1.1.2.1, ixn (by omega)]
      refine Ok.c (inBn (by omega) (by decide)) ?_
      rw [z_l_eq, show vp_nar .boolean (1 : Int32) = 1 from rfl, gI_o (by decide), g1.1.2.1, ixn (by omega)]
      refine Ok.c (inBn (by omega) (by decide)) ?_
      obtain ⟨y1, hy1, hy1'⟩ := g1.c
      rw [gI_o (by decide), hy1, z_l_eq]
      generalize hm1 : (bP (tk1 (kK B n) 23 t) fun t' => (.inr (t', l) : PR (Nat × Cd))) = m1 at g1 hy1'
      have g1' := (g1.wr (c := 188) (j := b) (x := 1) (by decide) (by decide) (by omega)).wr (c := 189) (j := b) (x := y1) (by decide) (by decide) (by omega)
      refine Ok.b (x_expr hN g1') ?_
      rintro - τ2 ⟨e1, e2⟩
      refine Ok.b (show Ok (f11_must N 13 τ2) _ from x_must (k := 10) e1 (by decide) (by decide)) ?_
      rintro - τ3 ⟨f1, f2⟩
      generalize hm3 : (bP (xE B n m1) fun w => bP (tk1 (kK B n) 10 w.1) fun t' => (.inr (t', w.2) : PR (Nat × Cd))) = m3 at f1
      rw [f1.1.2.1, ixn (by omega)]
      refine Ok.c (inBn (by omega) (by decide)) ?_
      obtain ⟨y3, hy3, hy3'⟩ := f1.c
      rw [hy3, z_l_eq]
      have f1' := f1.wr (c := 190) (j := b) (x := y3) (by decide) (by decide) (by omega)
      refine x_exprG (k := fun σ => f11_tellLaw_110 N (fun x3 σ => f11_tellLaw_12 N (nI k) x2 fu x3 σ) (nI k) x2 (nI x + 1) σ) hN f1' ?_
      intro τ4 h1 h2
      rw [f11_tellLaw_110]
      refine Ok.b (show Ok (f11_must N 31 τ4) _ from x_must (k := 24) h1 (by decide) (by decide)) ?_
      rintro - τ5 ⟨i1, i2⟩
      generalize hm5 : (bP (xE B n m3) fun w => bP (tk1 (kK B n) 24 w.1) fun t' => (.inr (t', w.2) : PR (Nat × Cd))) = m5 at i1
      refine Ok.b (x_term hN i1 (by omega)) ?_
      rintro - τ6 ⟨j1, j2, j3, j4⟩
      refine Ok.b (show Ok (f11_must N 32 τ6) _ from x_must (k := 25) j1 (by decide) (by decide)) ?_
      rintro - τ7 ⟨k1, k2⟩
      rw [nI_1]
      generalize hm7 : (bP (xE B n m5) fun w => bP (tk1 (kK B n) 25 w.1) fun t' => (.inr (t', w.2) : PR (Nat × Cd))) = m7 at k1
      -- what is meant, by the same steps
      have hspec : (bP (tk1 (kK B n) 23 t) fun t1 => bP (sumF (kK B n) (vV B n) 401 t1 [] []) fun w2 => bP (tk1 (kK B n) 10 w2.1) fun t3 => bP (sumF (kK B n) (vV B n) 401 t3 [] []) fun w4 => bP (tk1 (kK B n) 24 w4.1) fun t5 => bP (sumF (kK B n) (vV B n) 401 t5 [] []) fun w6 => bP (tk1 (kK B n) 25 w6.1) fun t7 => bP (lawF (kK B n) (vV B n) f t7) fun w8 => (.inr (w8.1, (w2.2, w4.2, w6.2) :: w8.2.1, w8.2.2) : PR (Nat × Lw))) = (bP m7 fun w => bP (lawF (kK B n) (vV B n) f w.1) fun w8 => .inr (w8.1, (cdO (bP (tk1 (kK B n) 23 t) fun t1 => sumF (kK B n) (vV B n) 401 t1 [] []), cdO (bP (tk1 (kK B n) 23 t) fun t1 => bP (sumF (kK B n) (vV B n) 401 t1 [] []) fun w2 => bP (tk1 (kK B n) 10 w2.1) fun t3 => sumF (kK B n) (vV B n) 401 t3 [] []), cdO (bP (tk1 (kK B n) 23 t) fun t1 => bP (sumF (kK B n) (vV B n) 401 t1 [] []) fun w2 => bP (tk1 (kK B n) 10 w2.1) fun t3 => bP (sumF (kK B n) (vV B n) 401 t3 [] []) fun w4 => bP (tk1 (kK B n) 24 w4.1) fun t5 => sumF (kK B n) (vV B n) 401 t5 [] [])) :: w8.2.1, w8.2.2)) := by
        subst hm7
        subst hm5
        subst hm3
        subst hm1
        unfold xE
        cases tk1 (kK B n) 23 t with
        | inl e => rfl
        | inr t1 =>
          dsimp only [bP]
          cases sumF (kK B n) (vV B n) 401 t1 [] [] with
          | inl e => rfl
          | inr w2 =>
            dsimp only
            cases tk1 (kK B n) 10 w2.1 with
            | inl e => rfl
            | inr t3 =>
              dsimp only
              cases sumF (kK B n) (vV B n) 401 t3 [] [] with
              | inl e => rfl
              | inr w4 =>
                dsimp only
                cases tk1 (kK B n) 24 w4.1 with
                | inl e => rfl
                | inr t5 =>
                  dsimp only
                  cases sumF (kK B n) (vV B n) 401 t5 [] [] with
                  | inl e => rfl
                  | inr w6 =>
                    dsimp only
                    cases tk1 (kK B n) 25 w6.1 with
                    | inl e => rfl
                    | inr t7 => rfl
      rw [hspec]
      cases m7 with
      | inl e =>
        obtain ⟨M, rfl⟩ : ∃ M, fu = M + 1 := ⟨fu - 1, by omega⟩
        exact r_12F hN k1 (by omega)
      | inr w7 =>
        obtain ⟨t7, l7⟩ := w7
        -- back to what was read
        obtain ⟨w6, hx6, hm7⟩ := bP_inr hm7
        obtain ⟨t7', ht7, hm7⟩ := bP_inr hm7
        have hm7 : (.inr (t7', w6.2) : PR (Nat × Cd)) = .inr (t7, l7) := hm7
        cases hm7
        obtain ⟨w5, hm5e, hx6'⟩ := bP_inr hx6
        obtain ⟨v6, hv6, hx6'⟩ := bP_inr hx6'
        have hx6' : (.inr (v6.1, v6.2 ++ w5.2) : PR (Nat × Cd)) = .inr w6 := hx6'
        cases hx6'
        rw [hm5e] at hm5
        obtain ⟨w4, hx4, hm5⟩ := bP_inr hm5
        obtain ⟨t5', ht5, hm5⟩ := bP_inr hm5
        have hm5 : (.inr (t5', w4.2) : PR (Nat × Cd)) = .inr w5 := hm5
        cases hm5
        obtain ⟨w3, hm3e, hx4'⟩ := bP_inr hx4
        obtain ⟨v4, hv4, hx4'⟩ := bP_inr hx4'
        have hx4' : (.inr (v4.1, v4.2 ++ w3.2) : PR (Nat × Cd)) = .inr w4 := hx4'
        cases hx4'
        rw [hm3e] at hm3
        obtain ⟨w2, hx2, hm3⟩ := bP_inr hm3
        obtain ⟨t3', ht3, hm3⟩ := bP_inr hm3
        have hm3 : (.inr (t3', w2.2) : PR (Nat × Cd)) = .inr w3 := hm3
        cases hm3
        obtain ⟨w1, hm1e, hx2'⟩ := bP_inr hx2
        obtain ⟨v2, hv2, hx2'⟩ := bP_inr hx2'
        have hx2' : (.inr (v2.1, v2.2 ++ w1.2) : PR (Nat × Cd)) = .inr w2 := hx2'
        cases hx2'
        rw [hm1e] at hm1
        obtain ⟨t1', ht1, hm1⟩ := bP_inr hm1
        have hm1 : (.inr (t1', l) : PR (Nat × Cd)) = .inr w1 := hm1
        cases hm1
        dsimp only at *
        have ea : (bP (tk1 (kK B n) 23 t) fun t1 => sumF (kK B n) (vV B n) 401 t1 [] []) = .inr v2 := by rw [ht1]; exact hv2
        have eb : (bP (tk1 (kK B n) 23 t) fun t1 => bP (sumF (kK B n) (vV B n) 401 t1 [] []) fun w2 => bP (tk1 (kK B n) 10 w2.1) fun t3 => sumF (kK B n) (vV B n) 401 t3 [] []) = .inr v4 := by rw [ht1]; show (bP (sumF (kK B n) (vV B n) 401 t1' [] []) _) = _; rw [hv2]; show (bP (tk1 (kK B n) 10 v2.1) _) = _; rw [ht3]; exact hv4
        have ec : (bP (tk1 (kK B n) 23 t) fun t1 => bP (sumF (kK B n) (vV B n) 401 t1 [] []) fun w2 => bP (tk1 (kK B n) 10 w2.1) fun t3 => bP (sumF (kK B n) (vV B n) 401 t3 [] []) fun w4 => bP (tk1 (kK B n) 24 w4.1) fun t5 => sumF (kK B n) (vV B n) 401 t5 [] []) = .inr v6 := by rw [ht1]; show (bP (sumF (kK B n) (vV B n) 401 t1' [] []) _) = _; rw [hv2]; show (bP (tk1 (kK B n) 10 v2.1) _) = _; rw [ht3]; show (bP (sumF (kK B n) (vV B n) 401 t3' [] []) _) = _; rw [hv4]; show (bP (tk1 (kK B n) 24 v4.1) _) = _; rw [ht5]; exact hv6
        rw [ea, eb, ec]
        show Ok _ (fun _ τ => lwM σ0 σ B n s k b x2 l (bP (lawF (kK B n) (vV B n) f t7) fun w8 => .inr (w8.1, (v2.2, v4.2, v6.2) :: w8.2.1, w8.2.2)) τ)
        -- the cells of this branch
        have p1 : ∀ c j, 186 ≤ c → c ≤ 192 → gI τ1 c j = gI σ c j := fun c j a1 a2 => (g2.on (D := [(186, 7, none)]) (by decide)).I (wIn_r 0 rfl a1 (by omega))
        have p2 : ∀ c j, 186 ≤ c → c ≤ 192 → gI τ2 c j = gI (sI (sI τ1 188 (130 * s + b) 1) 189 (130 * s + b) y1) c j := fun c j a1 a2 => (e2.on (D := [(186, 7, none)]) (by decide)).I (wIn_r 0 rfl a1 (by omega))
        have p3 : ∀ c j, 186 ≤ c → c ≤ 192 → gI τ3 c j = gI τ2 c j := fun c j a1 a2 => (f2.on (D := [(186, 7, none)]) (by decide)).I (wIn_r 0 rfl a1 (by omega))
        have p4 : ∀ c j, 186 ≤ c → c ≤ 192 → gI τ4 c j = gI (sI τ3 190 (130 * s + b) y3) c j := fun c j a1 a2 => (h2.on (D := [(186, 7, none)]) (by decide)).I (wIn_r 0 rfl a1 (by omega))
        have p5 : ∀ c j, 186 ≤ c → c ≤ 192 → gI τ5 c j = gI τ4 c j := fun c j a1 a2 => (i2.on (D := [(186, 7, none)]) (by decide)).I (wIn_r 0 rfl a1 (by omega))
        have p7 : ∀ c j, 186 ≤ c → c ≤ 192 → gI τ7 c j = gI τ6 c j := fun c j a1 a2 => (k2.on (D := [(186, 7, none)]) (by decide)).I (wIn_r 0 rfl a1 (by omega))
        have old : ∀ c j, 186 ≤ c → c ≤ 192 → (j ≠ 130 * s + b ∨ c < 188) → gI τ7 c j = gI σ c j := fun c j a1 a2 a3 => by
          rw [p7 c j a1 a2, j4 c j a1 a2 (by omega), p5 c j a1 a2, p4 c j a1 a2]
          have q1 : gI (sI τ3 190 (130 * s + b) y3) c j = gI τ3 c j := by
            by_cases e : c = 190
            · subst e; exact gI_k (by omega)
            · exact gI_o e
          rw [q1, p3 c j a1 a2, p2 c j a1 a2]
          have q2 : gI (sI (sI τ1 188 (130 * s + b) 1) 189 (130 * s + b) y1) c j = gI τ1 c j := by
            by_cases e : c = 189
            · subst e; rw [gI_k (by omega), gI_o (by decide)]
            · rw [gI_o e]
              by_cases e8 : c = 188
              · subst e8; exact gI_k (by omega)
              · exact gI_o e8
          rw [q2, p1 c j a1 a2]
        have n188 : gI τ7 188 (130 * s + b) = 1 := by
          rw [p7 _ _ (by decide) (by decide), j4 _ _ (by decide) (by decide) (Or.inr (by decide)), p5 _ _ (by decide) (by decide), p4 _ _ (by decide) (by decide), gI_o (by decide), p3 _ _ (by decide) (by decide), p2 _ _ (by decide) (by decide), gI_o (by decide), gI_e]
        have n189 : gI τ7 189 (130 * s + b) = nI (420 * s + l.length) := by
          rw [p7 _ _ (by decide) (by decide), j4 _ _ (by decide) (by decide) (Or.inr (by decide)), p5 _ _ (by decide) (by decide), p4 _ _ (by decide) (by decide), gI_o (by decide), p3 _ _ (by decide) (by decide), p2 _ _ (by decide) (by decide), gI_e]
          exact hy1' _ hm1e
        have n190 : gI τ7 190 (130 * s + b) = nI (420 * s + (v2.2 ++ l).length) := by
          rw [p7 _ _ (by decide) (by decide), j4 _ _ (by decide) (by decide) (Or.inr (by decide)), p5 _ _ (by decide) (by decide), p4 _ _ (by decide) (by decide), gI_e]
          exact hy3' _ hm3e
        have n191 : gI τ7 191 (130 * s + b) = nI (420 * s + (v4.2 ++ (v2.2 ++ l)).length) := by
          rw [p7 _ _ (by decide) (by decide)]
          exact j2 _ hm5e
        have n192 : gI τ7 192 (130 * s + b) = nI (420 * s + (v6.2 ++ (v4.2 ++ (v2.2 ++ l))).length) := by
          rw [p7 _ _ (by decide) (by decide)]
          exact j3 _ hx6
        refine (r_lawF hN hk (f := f) (t := t7) (x := x + 1) (fu := fu) (b := b + 1) (by omega) (by omega) k1 (by omega)).mono ?_
        rintro - υ hl
        cases hlf : lawF (kK B n) (vV B n) f t7 with
        | inl e => rw [hlf] at hl; exact hl
        | inr w8 =>
          rw [hlf] at hl
          obtain ⟨l1, ⟨l2, l2'⟩, l3, ⟨l4, l4'⟩, l5, l6⟩ := hl
          have len : b + 1 + w8.2.1.length + 1 = b + (w8.2.1.length + 1) + 1 := by omega
          rw [len] at l2 l4'
          have nn : ∀ c, 188 ≤ c → c ≤ 192 → gI υ c (130 * s + b) = gI τ7 c (130 * s + b) := fun c a1 a2 => l5 c b a1 a2 (Nat.lt_succ_self _)
          have lens : (v6.2 ++ (v4.2 ++ (v2.2 ++ l))).length = l.length + v2.2.length + v4.2.length + v6.2.length ∧ (v4.2 ++ (v2.2 ++ l)).length = l.length + v2.2.length + v4.2.length ∧ (v2.2 ++ l).length = l.length + v2.2.length := by
            simp only [List.length_append]
            omega
          refine ⟨l1, ⟨l2, l2'⟩, ⟨⟨?_, ?_, ?_, ?_, ?_⟩, ?_⟩, ⟨l4, l4'⟩, fun c j a1 a2 a3 => ?_, fun c j a1 a2 => ?_⟩
          · rw [nn _ (by decide) (by decide)]; exact n188
          · rw [nn _ (by decide) (by decide)]; exact n189
          · rw [nn _ (by decide) (by decide), n190, lens.2.2]
          · rw [nn _ (by decide) (by decide), n191, lens.2.1]
          · rw [nn _ (by decide) (by decide), n192, lens.1]
          · rw [← lens.1]; exact l3
          · rw [l5 c j a1 a2 (by omega)]
            exact old c _ (by omega) a2 (Or.inl (by omega))
          · rw [l6 c j a1 a2]
            exact old c j (by omega) (by omega) (Or.inr (by omega))
    · rw [decide_eq_false c, if_neg c]
      exact Ok.t rfl (r_129 hN h (by omega) hk)
