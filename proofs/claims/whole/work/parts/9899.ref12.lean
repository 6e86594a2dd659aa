-- THE REFERENCE'S TELLS: all of them
def RLT (σ : Mm) (s b : Nat) (l : Cd) (lw : LwT) : Prop := ∀ k, k < 4 → match lw k with
  | none => gI σ 186 (4 * s + k) = 0 ∧ gI σ 187 (4 * s + k) = 0
  | some w => ∃ (b0 : Nat) (pre post : Cd), gI σ 186 (4 * s + k) = nI (130 * s + b0) ∧ gI σ 187 (4 * s + k) = nI (130 * s + (b0 + w.1.length + 1)) ∧ b0 + w.1.length + 1 ≤ b ∧ BrAt σ s b0 pre.length w.1 w.2 ∧ l = post ++ rL pre w.1 w.2
def LWs (σ0 σ : Mm) (s t : Nat) (lw : LwT) : Prop := ∃ (l : Cd) (b : Nat), EC σ0 σ s l ∧ l.length ≤ t ∧ gI σ 160 41 = nI (130 * s + b) ∧ 4 * b ≤ t ∧ RLT σ s b l lw
theorem LWs.eq {σ0 σ τ : Mm} {s t t' : Nat} {lw : LwT} (h : LWs σ0 σ s t lw) (ht : t ≤ t') (e : EqOn D_lw σ τ) (h12 : gI τ 160 12 = 0) (hk : KS σ s τ) : LWs σ0 τ s t' lw := by
  obtain ⟨l, b, ⟨h1, ⟨h2, h3⟩, h4, h5⟩, h6, h7, h8, h9⟩ := h
  have w : ∀ c k, 186 ≤ c → c < 195 → gI τ c k = gI σ c k := fun c k a d => e.I (wIn_r 0 rfl a d)
  refine ⟨l, b, ⟨h1, ⟨by rw [e.I (wIn_s 2 rfl)]; exact h2, h3.imp fun j a _ ha => ?_⟩, h12, fun v a d => (h5 v a d).tr (hk v a d)⟩, by omega, by rw [e.I (wIn_s 1 rfl)]; exact h7, by omega, fun k hk4 => ?_⟩
  · unfold cM at *
    rw [w _ _ (by decide) (by decide), w _ _ (by decide) (by decide)]; exact ha
  · have := h9 k hk4
    cases hl : lw k with
    | none =>
      rw [hl] at this
      exact ⟨by rw [w _ _ (by decide) (by decide)]; exact this.1, by rw [w _ _ (by decide) (by decide)]; exact this.2⟩
    | some u =>
      rw [hl] at this
      obtain ⟨b0, pre, post, i1, i2, i3, i4, i5⟩ := this
      exact ⟨b0, pre, post, by rw [w _ _ (by decide) (by decide)]; exact i1, by rw [w _ _ (by decide) (by decide)]; exact i2, i3, i4.eq fun c j a1 a2 _ _ => w _ _ (by omega) (by omega), i5⟩
def RDL (σ0 σ : Mm) (B : Nat → Nat) (n s t : Nat) (c : Cn) (dd : PR LD) (lw : LwT) : Prop := RD σ B n s t c dd ∧ LWs σ0 σ s t lw
theorem gTell_lt {K V : Nat → Nat} {c : Cn} {t : Nat} {w : Nat × Cn × Option (Nat × Lw)} (h : gTell K V c t = .inr w) : t < w.1 := by
  unfold gTell at h
  split at h
  · obtain ⟨-, -, -, -, -, rfl⟩ := gP13_ok h; show t < t + 3; omega
  · split at h
    · obtain ⟨-, -, -, -, rfl⟩ := gP14_ok h; show t < t + 6; omega
    · split at h
      · obtain ⟨-, -, -, -, rfl⟩ := gP15_ok h; show t < t + 5; omega
      · split at h
        · obtain ⟨-, -, -, t6, q, -, -, -, rfl⟩ := gP16_ok h; show t < t6 + 1; omega
        · split at h
          · obtain ⟨w2, hw2, h⟩ := bP_inr h
            obtain ⟨-, q, -⟩ := lawG_ok hw2
            cases h
            show t < w2.1
            omega
          · split at h
            · obtain ⟨-, -, -, -, rfl⟩ := gPi_ok h; show t < t + 3; omega
            · cases h
/-- what one tell leaves -/
def tR (σ0 : Mm) (B : Nat → Nat) (n s : Nat) (lw : LwT) (m : PR (Nat × Cn × Option (Nat × Lw))) (dd : PR LD) (τ : Mm) : Prop := match m with
  | .inl e => FM τ B n e ∧ KS σ0 s τ
  | .inr w => RDL σ0 τ B n s w.1 w.2.1 dd (upL lw w.2.2)
theorem gTell_none {K V : Nat → Nat} {c : Cn} {t : Nat} {w : Nat × Cn × Option (Nat × Lw)} (h : gTell K V c t = .inr w) (hl : ¬ (17 ≤ K t ∧ K t ≤ 20)) : w.2.2 = none := by
  unfold gTell at h
  split at h
  · obtain ⟨-, -, -, -, -, rfl⟩ := gP13_ok h; rfl
  · split at h
    · obtain ⟨-, -, -, -, rfl⟩ := gP14_ok h; rfl
    · split at h
      · obtain ⟨-, -, -, -, rfl⟩ := gP15_ok h; rfl
      · split at h
        · obtain ⟨-, -, -, t6, q, -, -, -, rfl⟩ := gP16_ok h; rfl
        · split at h
          · obtain ⟨-, -, -, -, rfl⟩ := gPi_ok h; rfl
          · cases h
theorem RD.step2 {σ τ : Mm} {B : Nat → Nat} {n s t t' : Nat} {c : Cn} {dd : PR LD} (h : RD σ B n s t c dd) (e : EqOn [(160, 1, some 15), (160, 1, some 16), (160, 1, some 20), (160, 1, some 19), (168, 2, none), (170, 16, none)] σ τ) (h12 : gI τ 160 12 = 0) (hR : RT τ B n t') (ht : t ≤ t') : RD τ B n s t' c dd := by
  obtain ⟨-, hW, ⟨s2, s19, ⟨sc1, sc2, sc3, sc4⟩, s20, s12⟩, hcb, hD⟩ := h
  have w : ∀ c k, 170 ≤ c → c < 186 → gI τ c k = gI σ c k := fun c k h1 h2 => e.I (wIn_r 5 rfl h1 h2)
  refine ⟨hR, hW.eq ht (e.sub (by decide)), ⟨s2, by rw [e.I (wIn_s 3 rfl)]; exact s19, ⟨by rw [w _ _ (by decide) (by decide)]; exact sc1, by rw [w _ _ (by decide) (by decide)]; exact sc2, by rw [w _ _ (by decide) (by decide)]; exact sc3, by rw [w _ _ (by decide) (by decide)]; exact sc4⟩, by rw [e.I (wIn_s 2 rfl)]; exact s20, h12⟩, hcb, fun d hd => ?_⟩
  obtain ⟨a, b, c⟩ := hD d hd
  exact ⟨a.eq w (nF_eq a.2.2.2.2.1 (e.sub (by decide))), b, c⟩
theorem r_tell {N : Nat} (hN : 4000 ≤ N) {σ0 σ : Mm} {B : Nat → Nat} {n s t : Nat} {c : Cn} {dd : PR LD} {lw : LwT} (h : RDL σ0 σ B n s t c dd lw) : Ok (f11_tellOne N σ) (fun _ τ => tR σ0 B n s lw (gTell (kK B n) (vV B n) c t) (bP dd fun d => sTell (kK B n) (vV B n) (wW B n) d t) τ) := by
  obtain ⟨hD, hL⟩ := h
  by_cases hl : 17 ≤ kK B n t ∧ kK B n t ≤ 20
  · have hR := hD.1
    have ht := hR.2.2.2.1
    have hkl : kK B n t < 35 := kK_lt
    obtain ⟨l, b, hE, hlt, h41, hb, hT⟩ := hL
    have s2 := hE.1
    have hg : gTell (kK B n) (vV B n) c t = gPl (kK B n) (vV B n) c (kK B n t) t := by
      unfold gTell
      rw [if_neg (by omega), if_neg (by omega), if_neg (by omega), if_neg (by omega), if_pos hl]
    have hs : (bP dd fun d => sTell (kK B n) (vV B n) (wW B n) d t) = dd := by
      cases dd with
      | inl e => rfl
      | inr d =>
        show sTell (kK B n) (vV B n) (wW B n) d t = _
        unfold sTell
        rw [if_neg (by omega), if_neg (by omega), if_neg (by omega), if_neg (by omega), if_neg (by omega), if_neg (by omega)]
    have hX : LX σ0 σ B n s b (.inr (t, l)) := ⟨⟨s2, h41, hD.2.2.1.2.1⟩, hR, hE, hlt⟩
    have hkm : km (kK B n t) = kK B n t + 7 := by
      have : ∀ k, k < 35 → 17 ≤ k → km k = k + 7 := by decide
      exact this _ hkl hl.1
    rw [hg, hs]
    have main : Ok (f11_tellOne_252 N σ) (fun _ τ => tR σ0 B n s lw (gPl (kK B n) (vV B n) c (kK B n t) t) dd τ) := by
      rw [f11_tellOne_252, hR.2.2.2.2.1, ixn (by omega), hR.row.1, hkm, show nI (kK B n t + 7) - (24 : Int32) = nI (kK B n t - 17) by rw [show (24 : Int32) = nI 24 from rfl, pk_sub (by omega)]; congr 1]
      refine Ok.c (inBn (by omega) (by decide)) (Ok.l (Ok.f (nI_pos (by omega)) (Ok.c (inBn (by omega) (by decide)) (Ok.t (nI_le (b := 27) (by omega) (by decide)) ?_))))
      rw [f11_tellOne_288]
      refine Ok.t (by rw [hR.2.2.2.2.2]; decide) (Ok.b (x_go hX (by omega)) ?_)
      rintro - τ1 ⟨g1, g2⟩
      suffices hh : Ok (f11_tellLaw N (nI (kK B n t - 17)) τ1) (fun _ τ => tR σ0 B n s lw (gPl (kK B n) (vV B n) c (kK B n t) t) dd τ) from Ok.b hh fun r υ hu => Ok.ret hu
      generalize hm1 : (bP (tk1 (kK B n) (kK B n t) t) fun t' => (.inr (t', l) : PR (Nat × Cd))) = m1 at g1
      refine Ok.mono (P := fun _ τ => lwM σ0 σ B n s (kK B n t - 17) b (nI (130 * s + b)) l (lawG (kK B n) (vV B n) (kK B n t) t) τ ∧ Same wr11_tellLaw τ1 τ) (Ok.fr ?_ fun r τ e => fr11_tellLaw N e) ?_
      · unfold f11_tellLaw
        refine Ok.b (show Ok (f11_must N 5 τ1) _ from x_must (k := 5) g1 (by decide) (by decide)) ?_
        rintro - τ2 ⟨e1, e2⟩
        rw [e1.1.2.1, z_l_eq]
        generalize hm2 : (bP m1 fun w => bP (tk1 (kK B n) 5 w.1) fun t' => (.inr (t', w.2) : PR (Nat × Cd))) = m2 at e1
        cases m2 with
        | inl e =>
          have hle : lawG (kK B n) (vV B n) (kK B n t) t = .inl e := by
            unfold lawG
            rw [← hm1] at hm2
            cases htk : tk1 (kK B n) (kK B n t) t with
            | inl e' => rw [htk] at hm2; cases hm2; rfl
            | inr t1 =>
              rw [htk] at hm2
              have hm2 : (bP (tk1 (kK B n) 5 t1) fun t' => (.inr (t', l) : PR (Nat × Cd))) = .inl e := hm2
              show bP (tk1 (kK B n) 5 t1) _ = _
              cases htk2 : tk1 (kK B n) 5 t1 with
              | inl e' => rw [htk2] at hm2; cases hm2; rfl
              | inr t2 => rw [htk2] at hm2; cases hm2
          rw [hle]
          obtain ⟨M, rfl⟩ : ∃ M, N = M + 1 := ⟨N - 1, by omega⟩
          exact r_12F hN e1 (by omega)
        | inr w2 =>
          obtain ⟨w1, hw1, hm2⟩ := bP_inr hm2
          obtain ⟨t2, ht2, hm2⟩ := bP_inr hm2
          have hm2 : (.inr (t2, w1.2) : PR (Nat × Cd)) = .inr w2 := hm2
          cases hm2
          rw [hw1] at hm1
          obtain ⟨t1, ht1, hm1⟩ := bP_inr hm1
          have hm1 : (.inr (t1, l) : PR (Nat × Cd)) = .inr w1 := hm1
          cases hm1
          have hle : lawG (kK B n) (vV B n) (kK B n t) t = lawF (kK B n) (vV B n) 4 t2 := by
            unfold lawG
            rw [ht1]
            show bP (tk1 (kK B n) 5 t1) _ = _
            have ht2 : tk1 (kK B n) 5 t1 = .inr t2 := ht2
            rw [ht2]
            rfl
          rw [hle]
          refine (r_lawF hN (k := kK B n t - 17) (x2 := nI (130 * s + b)) (by omega) (f := 4) (t := t2) (x := 0) (fu := N) (b := b) (by omega) (by omega) e1 (by omega)).mono ?_
          rintro - τ hl
          have kc : ∀ c j, 186 ≤ c → c ≤ 192 → gI τ2 c j = gI σ c j := fun c j a1 a2 => by
            rw [(e2.on (D := [(186, 7, none)]) (by decide)).I (wIn_r 0 rfl a1 (by omega)), (g2.on (D := [(186, 7, none)]) (by decide)).I (wIn_r 0 rfl a1 (by omega))]
          cases hlf : lawF (kK B n) (vV B n) 4 t2 with
          | inl e => rw [hlf] at hl; exact hl
          | inr w =>
            rw [hlf] at hl
            obtain ⟨l1, l2, l3, l4, l5, l6⟩ := hl
            exact ⟨l1, l2, l3, l4, fun c j a1 a2 a3 => by rw [l5 c j a1 a2 a3]; exact kc _ _ (by omega) a2, fun c j a1 a2 => by rw [l6 c j a1 a2]; exact kc _ _ (by omega) (by omega)⟩
      · rintro - τ ⟨hl, hS⟩
        unfold gPl
        cases hlg : lawG (kK B n) (vV B n) (kK B n t) t with
        | inl e => rw [hlg] at hl; exact hl
        | inr w =>
          rw [hlg] at hl
          obtain ⟨⟨l1, l1', l1''⟩, ⟨l2, l2'⟩, l3, ⟨l4, l4'⟩, l5, l6⟩ := hl
          obtain ⟨-, q2, q3, -, -, q6, q7⟩ := lawG_ok hlg
          refine ⟨hD.step2 ((g2.on (by decide)).tr (hS.on (by decide))) l1'.2.2.1 l1 (by show t ≤ w.1; omega), rL l w.2.1 w.2.2, b + w.2.1.length + 1, l1', l1'', l2, by show 4 * (b + w.2.1.length + 1) ≤ w.1; omega, fun j hj => ?_⟩
          show match (if j = kK B n t - 17 then some w.2 else lw j) with
            | none => _
            | some w => _
          by_cases ej : j = kK B n t - 17
          · rw [if_pos ej, ej]
            exact ⟨b, l, [], l4, l4', Nat.le_refl _, l3, rfl⟩
          · rw [if_neg ej]
            have hTj := hT j hj
            cases hlj : lw j with
            | none =>
              rw [hlj] at hTj
              exact ⟨by rw [l6 _ _ (Or.inl rfl) (by omega)]; exact hTj.1, by rw [l6 _ _ (Or.inr rfl) (by omega)]; exact hTj.2⟩
            | some u =>
              rw [hlj] at hTj
              obtain ⟨b0, pre, post, i1, i2, i3, i4, i5⟩ := hTj
              obtain ⟨x, hx⟩ := rL_app (l := l) (r := w.2.1) (e := w.2.2)
              exact ⟨b0, pre, x ++ post, by rw [l6 _ _ (Or.inl rfl) (by omega)]; exact i1, by rw [l6 _ _ (Or.inr rfl) (by omega)]; exact i2, by omega, i4.eq fun c j a1 a2 _ a4 => l5 c j a1 a2 (by omega), by rw [hx, i5, List.append_assoc]⟩
    have ne : ∀ j, j < 35 → kK B n t ≠ j → ¬ nI (km (kK B n t)) = nI (km j) := fun j hj hne e => hne (km_inj _ hkl _ hj ((nI_eq (by omega) (by have := km_lt j hj; omega)).mp e))
    unfold f11_tellOne
    rw [hR.2.2.2.2.1, ixn (by omega), hR.row.1]
    refine Ok.c (inBn (by omega) (by decide)) ?_
    exact Ok.f (ne 13 (by decide) (by omega)) (Ok.f (ne 14 (by decide) (by omega)) (Ok.f (ne 15 (by decide) (by omega)) (Ok.f (ne 16 (by decide) (by omega)) (Ok.i (fun _ => main) fun _ => Ok.i (fun _ => main) fun _ => Ok.i (fun _ => main) fun _ => Ok.i (fun _ => main) fun _ => Ok.f (ne 21 (by decide) (by omega)) (Ok.f (ne 22 (by decide) (by omega)) main)))))
  · refine (r_tN hN hD hl).mono ?_
    rintro - τ ⟨t1, t2, t3⟩
    have hK0 : KS σ0 s σ := by
      obtain ⟨l, b, hE, -⟩ := hL
      exact hE.2.2.2
    cases hg : gTell (kK B n) (vV B n) c t with
    | inl e =>
      rw [hg] at t3
      exact ⟨t3, fun v a d => (hK0 v a d).tr (t1 v a d)⟩
    | inr w =>
      rw [hg] at t3
      have hlt := gTell_lt hg
      refine ⟨t3, ?_⟩
      rw [gTell_none hg hl]
      exact hL.eq (by omega) t2 t3.2.2.1.2.2.2.2 t1
theorem r_loop {N : Nat} (hN : 4000 ≤ N) {σ0 : Mm} {B : Nat → Nat} {n s : Nat} {Q : Int32 → Mm → Prop} {D : Wr} (hDt : offL wr11_tellOne D = true) : ∀ {f t fu : Nat} {c : Cn} {dd : PR LD} {lw : LwT} {σ : Mm}, 401 ≤ t + f → f + 1 < fu → RDL σ0 σ B n s t c dd lw → EqOn D σ0 σ → (∀ τ res, gAll (kK B n) (vV B n) f t c lw = .inr res → (∃ t', RDL σ0 τ B n s t' res.1 (bP dd fun d => sAll (kK B n) (vV B n) (wW B n) f t c d) res.2) → EqOn D σ0 τ → Ok (f11_read_134 N τ) Q) → (∀ τ e, gAll (kK B n) (vV B n) f t c lw = .inl e → FM τ B n e → KS σ0 s τ → EqOn D σ0 τ → Ok (f11_read_134 N τ) Q) → Ok (f11_read_112 N fu σ) Q
  | 0, t, fu, c, dd, lw, σ, hf, _, h, _, _, _ => absurd h.1.1.2.2.2.1 (by omega)
  | f + 1, t, 0, c, dd, lw, σ, _, h, _, _, _, _ => absurd h (Nat.not_lt_zero _)
  | f + 1, t, fu + 1, c, dd, lw, σ, hf, hfu, h, hE, hQ1, hQ2 => by
    have hR := h.1.1
    rw [f11_read_112, show (0 : Int32) = nI (km 0) from rfl, r_isN hR (by decide), z_b_some]
    refine Ok.t hR.2.2.2.2.2 ?_
    by_cases c0 : kK B n t = 0
    · rw [decide_eq_true c0]
      refine Ok.f (by decide) (hQ1 σ (c, lw) (by rw [gAll, if_pos c0]) ⟨t, ?_⟩ hE)
      have e : (bP dd fun d => sAll (kK B n) (vV B n) (wW B n) (f + 1) t c d) = dd := by
        cases dd with
        | inl e => rfl
        | inr d =>
          show sAll (kK B n) (vV B n) (wW B n) (f + 1) t c d = _
          rw [sAll, if_pos c0]
      rw [e]
      exact h
    · rw [decide_eq_false c0]
      refine Ok.t rfl (Ok.b ((r_tell hN h).fr fun r τ e => fr11_tellOne N e) ?_)
      rintro - τ ⟨hτ, hSt⟩
      have hE2 := hE.tr (hSt.on hDt)
      have hga : gAll (kK B n) (vV B n) (f + 1) t c lw = bP (gTell (kK B n) (vV B n) c t) fun w => gAll (kK B n) (vV B n) f w.1 w.2.1 (upL lw w.2.2) := by rw [gAll, if_neg c0]
      cases hg : gTell (kK B n) (vV B n) c t with
      | inl e =>
        rw [hg] at hτ hga
        have hτ : FM τ B n e ∧ KS σ0 s τ := hτ
        obtain ⟨M, rfl⟩ : ∃ M, fu = M + 1 := ⟨fu - 1, by omega⟩
        rw [f11_read_112]
        exact Ok.f hτ.1.n0.1 (hQ2 τ e hga hτ.1 hτ.2 hE2)
      | inr w =>
        rw [hg] at hτ hga
        have hlt := gTell_lt hg
        have hga : gAll (kK B n) (vV B n) (f + 1) t c lw = gAll (kK B n) (vV B n) f w.1 w.2.1 (upL lw w.2.2) := hga
        have hτ : RDL σ0 τ B n s w.1 w.2.1 (bP dd fun d => sTell (kK B n) (vV B n) (wW B n) d t) (upL lw w.2.2) := hτ
        have hsa : (bP (bP dd fun d => sTell (kK B n) (vV B n) (wW B n) d t) fun d => sAll (kK B n) (vV B n) (wW B n) f w.1 w.2.1 d) = (bP dd fun d => sAll (kK B n) (vV B n) (wW B n) (f + 1) t c d) := by
          rw [bP_assoc]
          cases dd with
          | inl e => rfl
          | inr d =>
            show bP (sTell (kK B n) (vV B n) (wW B n) d t) _ = sAll (kK B n) (vV B n) (wW B n) (f + 1) t c d
            rw [sAll, if_neg c0, hg]
        refine r_loop hN hDt (f := f) (t := w.1) (fu := fu) (by omega) (by omega) hτ hE2 (fun υ res hr hx => ?_) (fun υ e he => ?_)
        · rw [hsa] at hx
          exact hQ1 υ res (by rw [hga]; exact hr) hx
        · exact hQ2 υ e (by rw [hga]; exact he)
