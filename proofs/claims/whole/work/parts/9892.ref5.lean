-- THE REFERENCE'S TELLS: givings
def Cel (σ τ : Mm) (X : Nat) (v : Nat → Option Int32) : Prop := ∀ c k, 179 ≤ c → c ≤ 183 → gI τ c k = match v c with
  | some r => if k = X then r else gI σ c k
  | none => gI σ c k
theorem Cel.rf {σ : Mm} {X : Nat} : Cel σ σ X (fun _ => none) := fun _ _ _ _ => rfl
theorem Cel.fr {σ τ υ : Mm} {X : Nat} {v : Nat → Option Int32} (h : Cel σ τ X v) (e : EqOn [(179, 5, none)] τ υ) : Cel σ υ X v := fun c k h1 h2 => by
  rw [e.I (wIn_r 0 rfl h1 (by omega))]
  exact h c k h1 h2
theorem Cel.w {σ τ : Mm} {X c0 : Nat} {v : Nat → Option Int32} {r : Int32} (h : Cel σ τ X v) : Cel σ (sI τ c0 X r) X (fun c => if c = c0 then some r else v c) := fun c k h1 h2 => by
  by_cases e : c = c0
  · subst e
    dsimp only
    rw [if_pos rfl]
    dsimp only
    by_cases e2 : k = X
    · subst e2; rw [gI_e, if_pos rfl]
    · rw [gI_k e2, if_neg e2, h c k h1 h2]
      cases v c with
      | none => rfl
      | some r => dsimp only; rw [if_neg e2]
  · rw [gI_o e]
    dsimp only
    rw [if_neg e]
    exact h c k h1 h2
def D_g : Wr := [(160, 1, some 19), (160, 1, some 12), (160, 1, some 20), (160, 1, some 41), (160, 1, some 47), (168, 2, none), (170, 9, none), (184, 11, none)]
theorem wk_er {α : Type} {w : PR Unit} {m : PR α} : (bP (bP w fun _ => bP m fun _ => (.inr () : PR Unit)) fun _ => (.inr () : PR Unit)) = (bP w fun _ => bP m fun _ => .inr ()) := by
  cases w with
  | inl e => rfl
  | inr u => cases m <;> rfl
theorem r_gLoop {N : Nat} (hN : 4000 ≤ N) {B : Nat → Nat} {n X cnt : Nat} {l : Nms} {Q : Unit → Mm → Prop} (hX : X < 24) {σ0 : Mm} : ∀ {f t fu ss : Nat} {σ : Mm} {w : PR Unit}, 401 ≤ t + f → f + 1 < fu → RWt σ B n (.inr t) w → NM σ w cnt l → (∀ u, w = .inr u → gI σ 183 X = nI ss ∧ ss < 2 ^ 20) → EqOn D_g σ0 σ → (∀ c k, 179 ≤ c → c ≤ 183 → ¬ (c = 183 ∧ k = X) → gI σ c k = gI σ0 c k) → (∀ τ, RWt τ B n (nms (kK B n) f t) (bP w fun _ => bP (wset (kK B n) (wW B n) l f t ss) fun _ => .inr ()) → (∀ u s', w = .inr u → (∃ t', nms (kK B n) f t = .inr t') → wset (kK B n) (wW B n) l f t ss = .inr s' → gI τ 183 X = nI s') → EqOn D_g σ0 τ → (∀ c k, 179 ≤ c → c ≤ 183 → ¬ (c = 183 ∧ k = X) → gI τ c k = gI σ0 c k) → Ok (f11_tellGiving_189 N τ) Q) → Ok (f11_tellGiving_114 N (nI X) fu σ) Q
  | 0, t, fu, ss, σ, w, hf, _, h, _, _, _, _, _ => absurd (show RT σ B n t from h.1).2.2.2.1 (by omega)
  | f + 1, t, 0, ss, σ, w, _, h, _, _, _, _, _, _ => absurd h (Nat.not_lt_zero _)
  | f + 1, t, fu + 1, ss, σ, w, hf, hfu, h, hn, hs, hE, hC, hQ => by
    have hR : RT σ B n t := h.1
    have ht := hR.2.2.2.1
    rw [f11_tellGiving_114, show (1 : Int32) = nI (km 2) from rfl, r_isN hR (by decide), z_b_some, hR.2.2.2.2.1]
    refine Ok.t hR.2.2.2.2.2 ?_
    by_cases c : kK B n t = 2
    · rw [decide_eq_true c]
      refine Ok.f (by decide) (Ok.l ?_)
      refine Ok.b (show Ok (f11_known N 20 σ) _ from r_known hN (k := 15) h (t := t) (fun t' e => by cases e; rfl) hn (by decide) (by decide)) ?_
      rintro r τ ⟨⟨k1, k2, k3, k4⟩, hS⟩
      have hE1 : EqOn D_g σ0 τ := hE.tr (hS.on (by decide))
      have hC1 : ∀ c k, 179 ≤ c → c ≤ 183 → ¬ (c = 183 ∧ k = X) → gI τ c k = gI σ0 c k := fun c k h1 h2 h3 => by
        rw [(hS.on (D := [(179, 5, none)]) (by decide)).I (wIn_r 0 rfl h1 (by omega))]; exact hC c k h1 h2 h3
      have h183 : gI τ 183 X = gI σ 183 X := (hS.on (D := [(179, 5, none)]) (by decide)).I (wIn_r 0 rfl (by decide) (by decide))
      have hn1 : NM τ w cnt l := hn.eq (hS.on (by decide))
      have k1 : RWt τ B n (tk1 (kK B n) 2 t) _ := k1
      have k2 : ∀ u i t', w = .inr u → tk1 (kK B n) 2 t = .inr t' → _ → r = nI i := k2
      have k3 : ∀ t', tk1 (kK B n) 2 t = .inr t' → ¬ r < 0 → _ ∧ WSt τ B n t w := k3
      have k4 : ∀ e, tk1 (kK B n) 2 t = .inl e → r = -1 := k4
      have enm : nms (kK B n) (f + 1) t = bP (tk1 (kK B n) 2 t) (nms (kK B n) f) := by rw [nms, if_pos c]
      have ews : wset (kK B n) (wW B n) l (f + 1) t ss = bP (knw l (wW B n t) 15 t) fun i => if ss.testBit i then .inl (3, t) else wset (kK B n) (wW B n) l f (t + 1) (ss ||| 2 ^ i) := by rw [wset, if_pos c]
      cases hS' : tk1 (kK B n) 2 t with
      | inl e =>
        rw [hS'] at k1
        have hF : FM τ B n e := k1.1
        have hr := k4 e hS'
        subst hr
        refine Ok.t (by decide) ?_
        rw [f11_tellGiving_168]
        refine Ok.t (by decide) ?_
        rw [f11_tellGiving_186]
        obtain ⟨M, rfl⟩ : ∃ M, fu = M + 1 := ⟨fu - 1, by omega⟩
        rw [f11_tellGiving_114]
        refine Ok.f hF.n0.1 (hQ τ ?_ ?_ hE1 hC1)
        · rw [enm, hS']
          exact ⟨hF, fun t' ht' => by cases ht'⟩
        · rintro u s' - ⟨t', ht'⟩
          rw [enm, hS'] at ht'
          cases ht'
      | inr t1 =>
        obtain ⟨rfl, -, ht4⟩ := tk1_ok hS'
        rw [hS'] at k1
        have hR1 : RT τ B n (t + 1) := k1.1
        have go : ∀ {υ : Mm} {w2 : PR Unit} {s2 : Nat}, RWt υ B n (.inr (t + 1)) w2 → NM υ w2 cnt l → (∀ u, w2 = .inr u → gI υ 183 X = nI s2 ∧ s2 < 2 ^ 20) → EqOn D_g σ0 υ → (∀ c k, 179 ≤ c → c ≤ 183 → ¬ (c = 183 ∧ k = X) → gI υ c k = gI σ0 c k) → (bP w2 fun _ => bP (wset (kK B n) (wW B n) l f (t + 1) s2) fun _ => (.inr () : PR Unit)) = (bP w fun _ => bP (wset (kK B n) (wW B n) l (f + 1) t ss) fun _ => .inr ()) → (∀ u s', w = .inr u → wset (kK B n) (wW B n) l (f + 1) t ss = .inr s' → ∃ u2, w2 = .inr u2 ∧ wset (kK B n) (wW B n) l f (t + 1) s2 = .inr s') → Ok (f11_tellGiving_114 N (nI X) fu υ) Q := by
          intro υ w2 s2 g1 g2 g3 g4 g5 g6 g7
          refine r_gLoop hN hX (f := f) (t := t + 1) (fu := fu) (ss := s2) (by omega) (by omega) g1 g2 g3 g4 g5 fun ρ p1 p2 p3 p4 => hQ ρ ?_ ?_ p3 p4
          · rw [enm, hS']
            rw [g6] at p1
            exact p1
          · rintro u s' hu ⟨t', ht'⟩ hws
            obtain ⟨u2, hu2, hws2⟩ := g7 u s' hu hws
            rw [enm, hS'] at ht'
            exact p2 u2 s' hu2 ⟨t', ht'⟩ hws2
        by_cases hr : r < 0
        · refine Ok.t hr ?_
          rw [f11_tellGiving_168]
          refine Ok.t hr ?_
          rw [f11_tellGiving_186]
          cases w with
          | inl e => exact go (w2 := .inl e) (s2 := 0) k1 (hn1) (fun u hu => by cases hu) hE1 hC1 rfl (fun u s' hu => by cases hu)
          | inr u =>
            cases hkn : knw l (wW B n t) 15 t with
            | inr i =>
              exfalso
              have hri := k2 u i _ rfl hS' hkn
              rw [hri] at hr
              have hi : i < 10 := by
                obtain ⟨b, hb, e⟩ := knw_mem hkn
                have := ((hn1.2.2 u rfl).2.2.2.2 b hb).2.2
                rw [e] at this
                exact this
              exact nI_pos (by omega) hr
            | inl e =>
              have k1 : RWt τ B n (.inr (t + 1)) (bP (knw l (wW B n t) 15 t) fun _ => .inr ()) := k1
              rw [hkn] at k1
              have k1 : RWt τ B n (.inr (t + 1)) (.inl e) := k1
              refine go (w2 := .inl e) (s2 := 0) k1 (hn1.w fun u hu => by cases hu) (fun u hu => by cases hu) hE1 hC1 ?_ (fun u s' hu hws => ?_)
              · rw [ews, hkn]; rfl
              · rw [ews, hkn] at hws; cases hws
        · obtain ⟨q1, q2⟩ := k3 _ hS' hr
          refine Ok.f hr (Ok.c (inBn hX (by decide)) ?_)
          -- the bit is put in, and on
          have put : ∀ {υ : Mm} {w2 : PR Unit}, RWt υ B n (.inr (t + 1)) w2 → NM υ w2 cnt l → EqOn D_g σ0 υ → (∀ c k, 179 ≤ c → c ≤ 183 → ¬ (c = 183 ∧ k = X) → gI υ c k = gI σ0 c k) → gI υ 183 X = gI σ 183 X → (∀ u, w2 = .inr u → ∃ i, i < 10 ∧ r = nI i ∧ w = .inr () ∧ knw l (wW B n t) 15 t = .inr i ∧ ss.testBit i = false) → (∀ e, w2 = .inl e → (.inl e : PR Unit) = (bP w fun _ => bP (wset (kK B n) (wW B n) l (f + 1) t ss) fun _ => .inr ())) → Ok (f11_tellGiving_168 N (fun σ => f11_tellGiving_114 N (nI X) fu σ) (nI X) r υ) Q := by
            intro υ w2 g1 g2 g3 g4 g5 g6 g7
            rw [f11_tellGiving_168]
            refine Ok.f hr (Ok.c (inBn hX (by decide)) (Ok.c (inBn hX (by decide)) ?_))
            rw [z_l_eq, f11_tellGiving_186, ixn (by omega)]
            have w1 : ∀ x, RWt (sI υ 183 X x) B n (.inr (t + 1)) w2 := fun x => g1.eq (EqOn_sIa EqOn.rf (by decide))
            have w3 : ∀ x, NM (sI υ 183 X x) w2 cnt l := fun x => g2.eq (EqOn_sIa EqOn.rf (by decide))
            have w4 : ∀ x, EqOn D_g σ0 (sI υ 183 X x) := fun x => g3.tr (EqOn_sIa EqOn.rf (by decide))
            have w5 : ∀ x c k, 179 ≤ c → c ≤ 183 → ¬ (c = 183 ∧ k = X) → gI (sI υ 183 X x) c k = gI σ0 c k := fun x c k h1 h2 h3 => by
              by_cases e : c = 183
              · subst e; rw [gI_k (by omega)]; exact g4 _ _ h1 h2 h3
              · rw [gI_o e]; exact g4 _ _ h1 h2 h3
            cases w2 with
            | inl e =>
              refine go (w2 := .inl e) (s2 := 0) (w1 _) (w3 _) (fun u hu => by cases hu) (w4 _) (w5 _) (g7 e rfl) (fun u s' hu hws => ?_)
              have := g7 e rfl
              rw [hu, hws] at this
              cases this
            | inr u =>
              obtain ⟨i, hi, hri, hw, hkn, htb⟩ := g6 u rfl
              obtain ⟨v1, v2⟩ := hs () hw
              have hi2 : 2 ^ i < 2 ^ 20 := Nat.pow_lt_pow_right (by decide) (by omega)
              rw [g5, v1, hri, b1 (by omega), orN (by omega) (by omega)]
              refine go (w2 := .inr u) (s2 := ss ||| 2 ^ i) (w1 _) (w3 _) (fun u hu => ⟨gI_e, Nat.or_lt_two_pow v2 hi2⟩) (w4 _) (w5 _) ?_ (fun u' s' hu hws => ?_)
              · rw [hw, ews, hkn]
                show _ = bP (if ss.testBit i = true then .inl (3, t) else wset (kK B n) (wW B n) l f (t + 1) (ss ||| 2 ^ i)) fun _ => .inr ()
                rw [if_neg (by rw [htb]; decide)]
                rfl
              · rw [ews, hkn] at hws
                have hws : (if ss.testBit i = true then .inl (3, t) else wset (kK B n) (wW B n) l f (t + 1) (ss ||| 2 ^ i) : PR Nat) = .inr s' := hws
                rw [if_neg (by rw [htb]; decide)] at hws
                exact ⟨u, rfl, hws⟩
          cases w with
          | inl e =>
            have q2 : WSt τ B n t (.inl e) := q2
            refine Ok.i (fun _ => ?_) (fun _ => ?_)
            · refine Ok.b (show Ok (f11_wrong N 3 (nI t) τ) _ from r_wrong (k := 3) (w := .inl e) hR1 (show t ≤ t + 1 by omega) q2 (by decide) (by decide)) ?_
              rintro - υ ⟨u1, u2⟩
              refine put (w2 := .inl e) ⟨RX.eq (s := .inr (t + 1)) hR1 (u2.on (by decide)), fun t' ht' => by cases ht'; exact u1⟩ (hn1.eq (u2.on (by decide))) (hE1.tr (u2.on (by decide))) (fun c k h1 h2 h3 => by rw [(u2.on (D := [(179, 5, none)]) (by decide)).I (wIn_r 0 rfl h1 (by omega))]; exact hC1 c k h1 h2 h3) (by rw [(u2.on (D := [(179, 5, none)]) (by decide)).I (wIn_r 0 rfl (by decide) (by decide))]; exact h183) (fun u hu => by cases hu) (fun e' he' => by cases he'; rfl)
            · exact put (w2 := .inl e) ⟨hR1, fun t' ht' => by cases ht'; exact q2.eq (by omega) EqOn.rf⟩ hn1 hE1 hC1 h183 (fun u hu => by cases hu) (fun e' he' => by cases he'; rfl)
          | inr u =>
            cases hkn : knw l (wW B n t) 15 t with
            | inl e =>
              exfalso
              have q1 : (bP (knw l (wW B n t) 15 t) fun _ => (.inr () : PR Unit)) = .inr u := q1
              rw [hkn] at q1
              cases q1
            | inr i =>
              have hri := k2 u i _ rfl hS' hkn
              have hi : i < 10 := by
                obtain ⟨b, hb, e⟩ := knw_mem hkn
                have := ((hn1.2.2 u rfl).2.2.2.2 b hb).2.2
                rw [e] at this
                exact this
              obtain ⟨v1, v2⟩ := hs u rfl
              rw [show nI (km 2) = (1 : Int32) from rfl, ixn (by omega), h183, v1, hri, bit_sr (by omega) (by omega)]
              by_cases htb : ss.testBit i = true
              · rw [if_pos htb]
                refine Ok.t rfl ?_
                refine Ok.b (show Ok (f11_wrong N 3 (nI t) τ) _ from r_wrong (k := 3) (w := .inr ()) hR1 (show t ≤ t + 1 by omega) q2 (by decide) (by decide)) ?_
                rintro - υ ⟨u1, u2⟩
                rw [← hri]
                refine put (w2 := .inl (3, t)) ⟨RX.eq (s := .inr (t + 1)) hR1 (u2.on (by decide)), fun t' ht' => by cases ht'; exact u1⟩ ((hn1.eq (u2.on (by decide))).w fun u hu => by cases hu) (hE1.tr (u2.on (by decide))) (fun c k h1 h2 h3 => by rw [(u2.on (D := [(179, 5, none)]) (by decide)).I (wIn_r 0 rfl h1 (by omega))]; exact hC1 c k h1 h2 h3) (by rw [(u2.on (D := [(179, 5, none)]) (by decide)).I (wIn_r 0 rfl (by decide) (by decide))]; exact h183) (fun u hu => by cases hu) (fun e' he' => ?_)
                cases he'
                rw [ews, hkn]
                show _ = bP (if ss.testBit i = true then .inl (3, t) else wset (kK B n) (wW B n) l f (t + 1) (ss ||| 2 ^ i)) fun _ => .inr ()
                rw [if_pos htb]
                rfl
              · rw [if_neg htb]
                refine Ok.f (by decide) ?_
                rw [← hri]
                exact put (w2 := .inr u) ⟨hR1, fun t' ht' => by cases ht'; exact q2⟩ hn1 hE1 hC1 h183 (fun u hu => ⟨i, hi, hri, rfl, hkn, by simpa using htb⟩) (fun e' he' => by cases he')
    · rw [decide_eq_false c]
      refine Ok.t rfl (hQ σ ?_ ?_ hE hC)
      · rw [nms, if_neg c, wset, if_neg c]
        have e : (bP w fun _ => bP (.inr ss : PR Nat) fun _ => (.inr () : PR Unit)) = w := by cases w <;> rfl
        rw [e]
        exact h
      · intro u s' hu _ hws
        rw [wset, if_neg c] at hws
        cases hws
        exact (hs u hu).1
