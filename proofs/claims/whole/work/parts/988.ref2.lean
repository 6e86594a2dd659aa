-- THE REFERENCE'S NAMES
def nF (σ : Mm) (j : Nat) (a : List Nat × Nat × Nat) : Prop := gL σ 168 j = lN (rf 27 a.1) ∧ gI σ 169 j = nI (10 * (a.2.1 - 13) + a.2.2)
def nmK (l : Nms) : Prop := okN l ∧ ndN l ∧ ∀ a ∈ l, 13 ≤ a.2.1 ∧ a.2.1 ≤ 15 ∧ a.2.2 < 10
def NM (σ : Mm) (w : PR Unit) (cnt : Nat) (l : Nms) : Prop := gI σ 160 20 = nI cnt ∧ cnt ≤ 20 ∧ ∀ u, w = .inr u → cnt = l.length ∧ At (nF σ) l ∧ nmK l
theorem At.mid {α : Type} {F : Nat → α → Prop} {a : α} {y : List α} : ∀ {x : List α}, At F (x ++ a :: y) → F y.length a
  | [], h => h.1
  | _ :: _, h => At.mid h.2
def D_NM : Wr := [(160, 1, some 20), (168, 2, none)]
theorem NM.eq {σ τ : Mm} {w : PR Unit} {cnt : Nat} {l : Nms} (h : NM σ w cnt l) (e : EqOn D_NM σ τ) : NM τ w cnt l := by
  obtain ⟨h1, h2, h3⟩ := h
  refine ⟨by rw [e.I (wIn_s 0 rfl)]; exact h1, h2, fun u hu => ?_⟩
  obtain ⟨a, b, c⟩ := h3 u hu
  refine ⟨a, b.imp fun j x _ hx => ?_, c⟩
  unfold nF at *
  rw [(e 168 j (wIn_r 1 rfl (by decide) (by decide))).2.1, e.I (id := 169) (wIn_r 1 rfl (by decide) (by decide))]
  exact hx
theorem r_wrongI {N : Nat} {σ : Mm} {B : Nat → Nat} {n t j k : Nat} {e : Nat × Nat} (h : RT σ B n t) (hj : j ≤ t) (hw : WSt (α := Unit) σ B n j (.inl e)) : f11_wrong N (nI k) (nI j) σ = some ((), σ) := by
  obtain ⟨h1, h2, h3, h4, h5, h6⟩ := id h
  have hr := (h2 j (by omega) (vr_vm fun q hq => h3 q (by omega))).2.1
  have hlt := bg_le (B := B) h1.1 j
  obtain ⟨w1, w2, w3, w4, w5⟩ := id hw
  have hbg := bg_lt h1 (j := j) (fun q hq => h3 q (by omega)) w5
  unfold f11_wrong
  rw [zc_t (inBn (by omega) (by decide)), z_l_eq, h6, ixn (by omega), hr, w1, w2, if_neg (by decide), if_neg (fun e0 => ?_), if_pos (nI_lt hbg (by have := h1.1; omega))]
  have e0 : nI e.1 = nI 0 := e0
  rw [nI_eq (by omega) (by decide)] at e0
  omega
theorem r_wrong3 {N : Nat} {σ : Mm} {B : Nat → Nat} {n t j : Nat} (h : RT σ B n t) (hj : j ≤ t) (w1 : gI σ 160 15 = nI 3) (w2 : gI σ 160 16 = nI (bg B n j)) : f11_wrong N 3 (nI j) σ = some ((), σ) := by
  obtain ⟨h1, h2, h3, h4, h5, h6⟩ := id h
  have hr := (h2 j (by omega) (vr_vm fun q hq => h3 q (by omega))).2.1
  have hlt := bg_le (B := B) h1.1 j
  unfold f11_wrong
  rw [zc_t (inBn (by omega) (by decide)), z_l_eq, h6, ixn (by omega), hr, w1, w2, if_neg (by decide), if_neg (by decide), if_neg (nI_nlt (Nat.le_refl _) (by have := h1.1; omega)), if_pos rfl, if_neg (by decide)]
theorem r_named1 {N : Nat} {τ : Mm} {B : Nat → Nat} {n t t1 cnt : Nat} (h : RT τ B n t1) (ht : t ≤ t1) (h20 : gI τ 160 20 = nI cnt) (hc : cnt ≤ 20) (hz : f11_wrong N 3 (nI t) τ = some ((), τ)) : ∀ (fu i : Nat), i ≤ cnt → cnt - i < fu → f11_named_12 N (nI t) fu (nI i) τ = some (nI t, τ)
  | 0, i, _, hf => absurd hf (Nat.not_lt_zero _)
  | fu + 1, i, hi, hf => by
    have ht4 := h.2.2.2.1
    rw [f11_named_12, h20]
    by_cases c : i = cnt
    · rw [c, if_pos nI_rf]
    · rw [if_neg (nI_ge (by omega) (by omega)), if_pos h.2.2.2.2.2, zc_t (inBn (by omega) (by decide)), zc_t (inBn (by omega) (by decide))]
      have ih := r_named1 h ht h20 hc hz fu (i + 1) (by omega) (by omega)
      by_cases c2 : lg_cmp (gL τ 168 (ix (nI i))) (gL τ 166 (ix (nI t))) = 0
      · rw [if_pos c2, hz, z_b_some, f11_named_49, z_l_eq, nI_1]
        exact ih
      · rw [if_neg c2, f11_named_49, z_l_eq, nI_1]
        exact ih
theorem r_named {N : Nat} (hN : 4000 ≤ N) {σ : Mm} {B : Nat → Nat} {n t cnt : Nat} {l : Nms} {s : PR Nat} {w : PR Unit} (h : RWt σ B n s w) (hs : ∀ t', s = .inr t' → t' = t) (hn : NM σ w cnt l) : Ok (f11_named N σ) (fun r τ => RWt τ B n (bP s (tk1 (kK B n) 2)) (bP w fun _ => bP (newN l (wW B n t) 0 0 t) fun _ => .inr ()) ∧ (s = .inr t → r = nI t) ∧ Same wr11_named σ τ) := by
  suffices hh : Ok (f11_named N σ) (fun r τ => RWt τ B n (bP s (tk1 (kK B n) 2)) (bP w fun _ => bP (newN l (wW B n t) 0 0 t) fun _ => .inr ()) ∧ (s = .inr t → r = nI t)) from (hh.fr fun r τ e => fr11_named N e).mono fun r τ ⟨⟨a, b⟩, c⟩ => ⟨a, b, c⟩
  unfold f11_named
  rw [z_l_eq]
  have hx : s = .inr t → gI σ 160 11 = nI t := fun e => by
    have := h.1
    rw [e] at this
    exact this.2.2.2.2.1
  refine Ok.b (show Ok (f11_must N 1 σ) _ from h.must (N := N) hs (k := 2) (by decide) (by decide)) ?_
  rintro - τ ⟨hr, hsm⟩
  have hn' := hn.eq (hsm.on (D := D_NM) (by decide))
  cases hst : bP s (tk1 (kK B n) 2) with
  | inl e =>
    rw [hst] at hr
    have hF : FM τ B n e := hr.1
    obtain ⟨M, rfl⟩ : ∃ M, N = M + 1 := ⟨N - 1, by omega⟩
    rw [f11_named_12]
    have fin : Ok (some (gI σ 160 11, τ)) (fun r τ => RWt τ B n (.inl e) (bP w fun _ => bP (newN l (wW B n t) 0 0 t) fun _ => .inr ()) ∧ (s = .inr t → r = nI t)) := Ok.ret ⟨⟨hF, fun t' ht' => by cases ht'⟩, hx⟩
    exact Ok.i (fun _ => fin) (fun _ => Ok.f hF.n0.1 fin)
  | inr t1 =>
    obtain ⟨e1, e2, hk, ht4⟩ := tk1_st hs hst
    rw [hst] at hr
    have hR : RT τ B n t1 := hr.1
    have hw : WSt τ B n t w := (h.2 t e1).eq (Nat.le_refl _) (hsm.on (by decide))
    rw [hx e1]
    have hrow := (hR.2.1 t (by omega) (vr_vm fun q hq => hR.2.2.1 q (by omega))).2.2.2 hk
    have hrow : gL τ 166 t = lN (rf 27 (wW B n t)) := hrow
    have hwok := wW_ok hR.1 hk
    cases w with
    | inl e =>
      have hz := r_wrongI (N := N) (k := 3) hR (show t ≤ t1 by omega) hw
      rw [show (0 : Int32) = nI 0 from rfl, r_named1 hR (by omega) hn'.1 hn'.2.1 hz N 0 (by omega) (by have := hn'.2.1; omega)]
      exact Ok.ret ⟨⟨hR, fun t' ht' => by cases ht'; exact hw.eq (by omega) EqOn.rf⟩, fun _ => rfl⟩
    | inr u =>
      obtain ⟨n1, n2, n3⟩ := hn'
      obtain ⟨c1, c2, c3, c4, c5⟩ := n3 u rfl
      have hw0 : gI τ 160 15 = 0 := hw
      have key : ∀ (xr y : Nms) (fu : Nat), l = xr.reverse ++ y → xr.length < fu → (∀ a ∈ y, a.1 ≠ wW B n t) → Ok (f11_named_12 N (nI t) fu (nI y.length) τ) (fun r υ => RWt υ B n (.inr t1) (bP (newN l (wW B n t) 0 0 t) fun _ => .inr ()) ∧ (s = .inr t → r = nI t)) := by
        intro xr
        induction xr with
        | nil =>
          intro y fu hl hfu hy
          obtain ⟨fu, rfl⟩ : ∃ g, fu = g + 1 := ⟨fu - 1, by omega⟩
          have hly : l = y := hl
          rw [f11_named_12, n1, if_pos (by rw [c1, hly]; exact nI_rf)]
          have hnn : newN l (wW B n t) 0 0 t = .inr ((wW B n t, 0, 0) :: l) := by
            unfold newN
            rw [fnd_none (by rw [hly]; exact hy)]
          rw [hnn]
          exact Ok.ret ⟨⟨hR, fun t' ht' => by cases ht'; exact hw0⟩, fun _ => rfl⟩
        | cons a xr ih =>
          intro y fu hl hfu hy
          obtain ⟨fu, rfl⟩ : ∃ g, fu = g + 1 := ⟨fu - 1, by omega⟩
          have hl2 : l = xr.reverse ++ a :: y := by rw [hl]; simp
          have hlen : y.length < l.length := by rw [hl2]; simp; omega
          have hm := (show At (nF τ) (xr.reverse ++ a :: y) by rw [← hl2]; exact c2).mid
          have ha : okW a.1 := c3 a (by rw [hl2]; simp)
          rw [f11_named_12, n1, if_neg (nI_ge (by omega) (by omega)), if_pos hR.2.2.2.2.2, zc_t (inBn (by omega) (by decide)), zc_t (inBn (by omega) (by decide)), ixn (by omega), ixn (by omega), hm.1, hrow]
          simp only [List.length_cons] at hfu
          by_cases c : a.1 = wW B n t
          · rw [if_pos (by rw [rf_eqW (by decide) (by decide) ha hwok]; exact c)]
            have hnn : newN l (wW B n t) 0 0 t = .inl (3, t) := by
              unfold newN
              rw [hl2, fnd_mid c (by rw [← hl2]; exact c4)]
            rw [hnn]
            refine Ok.b (show Ok (f11_wrong N 3 (nI t) τ) _ from r_wrong (k := 3) (w := .inr ()) hR (show t ≤ t1 by omega) hw0 (by decide) (by decide)) ?_
            rintro - υ ⟨u1, u2⟩
            have hR2 : RT υ B n t1 := RX.eq (s := .inr t1) hR (u2.on (by decide))
            have hz := r_wrong3 (N := N) (j := t) hR2 (by omega) u1.1 u1.2.1
            have h20 : gI υ 160 20 = nI cnt := by
              have := u2.on (D := D_NM) (by decide)
              rw [this.I (wIn_s 0 rfl)]; exact n1
            rw [f11_named_49, z_l_eq, nI_1, r_named1 hR2 (by omega) h20 n2 hz fu (y.length + 1) (by omega) (by have := congrArg List.length hl2; simp at this; omega)]
            exact Ok.ret ⟨⟨hR2, fun t' ht' => by cases ht'; exact u1.eq (by omega) EqOn.rf⟩, fun _ => rfl⟩
          · rw [if_neg (by rw [rf_eqW (by decide) (by decide) ha hwok]; exact c), f11_named_49, z_l_eq, nI_1]
            exact ih (a :: y) fu hl2 (by omega) fun b hb => by
              rcases List.mem_cons.mp hb with rfl | hb
              · exact c
              · exact hy b hb
      have hr : l.length < N := by omega
      exact key l.reverse [] N (by simp) (by simpa using hr) (fun a ha => by cases ha)
theorem fnd_mem2 {w : List Nat} {a : Nat × Nat} : ∀ {l : Nms}, fnd l w = some a → ∃ b ∈ l, b.1 = w ∧ b.2 = a
  | [], h => by cases h
  | b :: r, h => by
    unfold fnd at h
    split at h
    · rename_i hb
      cases h; exact ⟨b, List.mem_cons_self, hb, rfl⟩
    · obtain ⟨c, hc, e⟩ := fnd_mem2 h
      exact ⟨c, List.mem_cons_of_mem _ hc, e⟩
theorem knw_no {l : Nms} {w : List Nat} {s t : Nat} (h : ∀ b ∈ l, ¬ (b.1 = w ∧ b.2.1 = s)) : knw l w s t = .inl (4, t) := by
  unfold knw
  cases hf : fnd l w with
  | none => rfl
  | some a =>
    dsimp only
    rw [if_neg]
    intro e
    obtain ⟨b, hb, b1, b2⟩ := fnd_mem2 hf
    exact h b hb ⟨b1, by rw [b2]; exact e⟩
def knP (σ : Mm) (B : Nat → Nat) (n t k : Nat) (l : Nms) (s : PR Nat) (w : PR Unit) (r : Int32) (τ : Mm) : Prop := RWt τ B n (bP s (tk1 (kK B n) 2)) (bP w fun _ => bP (knw l (wW B n t) k t) fun _ => .inr ()) ∧ (∀ u i t', w = .inr u → bP s (tk1 (kK B n) 2) = .inr t' → knw l (wW B n t) k t = .inr i → r = nI i) ∧ (∀ t', bP s (tk1 (kK B n) 2) = .inr t' → ¬ r < 0 → (bP w fun _ => bP (knw l (wW B n t) k t) fun _ => .inr ()) = w ∧ WSt τ B n t w) ∧ (∀ e, bP s (tk1 (kK B n) 2) = .inl e → r = -1)
theorem r_known {N : Nat} (hN : 4000 ≤ N) {σ : Mm} {B : Nat → Nat} {n t cnt k : Nat} {l : Nms} {s : PR Nat} {w : PR Unit} (h : RWt σ B n s w) (hs : ∀ t', s = .inr t' → t' = t) (hn : NM σ w cnt l) (hk1 : 13 ≤ k) (hk2 : k ≤ 15) : Ok (f11_known N (nI (10 * (k - 13))) σ) (fun r τ => knP σ B n t k l s w r τ ∧ Same wr11_known σ τ) := by
  refine Ok.fr ?_ fun r τ e => fr11_known N e
  unfold f11_known
  rw [z_l_eq]
  have hx : s = .inr t → gI σ 160 11 = nI t := fun e => by
    have := h.1
    rw [e] at this
    exact this.2.2.2.2.1
  refine Ok.b (show Ok (f11_must N 1 σ) _ from h.must (N := N) hs (k := 2) (by decide) (by decide)) ?_
  rintro - τ ⟨hr, hsm⟩
  have hn' := hn.eq (hsm.on (D := D_NM) (by decide))
  unfold knP
  cases hst : bP s (tk1 (kK B n) 2) with
  | inl e =>
    rw [hst] at hr
    have hF : FM τ B n e := hr.1
    exact Ok.f hF.n0.2.1 (Ok.ret ⟨⟨hF, fun t' ht' => by cases ht'⟩, fun u i t' _ ht' => (by cases ht'), fun t' ht' => (by cases ht'), fun _ _ => rfl⟩)
  | inr t1 =>
    obtain ⟨e1, e2, hk, ht4⟩ := tk1_st hs hst
    rw [hst] at hr
    have hR : RT τ B n t1 := hr.1
    have hw : WSt τ B n t w := (h.2 t e1).eq (Nat.le_refl _) (hsm.on (by decide))
    rw [hx e1]
    have hrow := (hR.2.1 t (by omega) (vr_vm fun q hq => hR.2.2.1 q (by omega))).2.2.2 hk
    have hrow : gL τ 166 t = lN (rf 27 (wW B n t)) := hrow
    have hwok := wW_ok hR.1 hk
    refine Ok.t (by rw [hR.2.2.2.2.2]; decide) ?_
    cases w with
    | inl e =>
      have loop : ∀ (fu i : Nat), i ≤ cnt → cnt - i < fu → ∃ r, f11_known_21 N (nI (10 * (k - 13))) (nI t) fu (nI i) τ = some (r, τ) := by
        intro fu
        induction fu with
        | zero => intro i _ hf; omega
        | succ fu ih =>
          intro i hi hf
          have hc := hn'.2.1
          rw [f11_known_21, hn'.1]
          by_cases c : i = cnt
          · rw [c, if_pos nI_rf, f11_known_83, show (4 : Int32) = nI 4 from rfl, r_wrongI hR (show t ≤ t1 by omega) hw, z_b_some]
            exact ⟨_, rfl⟩
          · obtain ⟨r, er⟩ := ih (i + 1) (by omega) (by omega)
            have e77 : f11_known_77 N (fun x3 σ => f11_known_21 N (nI (10 * (k - 13))) (nI t) fu x3 σ) (nI (10 * (k - 13))) (nI t) (nI i) τ = some (r, τ) := by
              rw [f11_known_77, z_l_eq, nI_1]; exact er
            rw [if_neg (nI_ge (by omega) (by omega)), zc_t (inBn (by omega) (by decide)), zc_t (inBn (by omega) (by decide))]
            by_cases c2 : lg_cmp (gL τ 168 (ix (nI i))) (gL τ 166 (ix (nI t))) = 0
            · rw [if_pos c2, zc_t (inBn (by omega) (by decide))]
              by_cases c3 : gI τ 169 (ix (nI i)) < nI (10 * (k - 13))
              · rw [if_pos c3]; exact ⟨r, e77⟩
              · rw [if_neg c3, zc_t (inBn (by omega) (by decide))]
                by_cases c4 : nI (10 * (k - 13)) + 10 ≤ gI τ 169 (ix (nI i))
                · rw [if_pos c4]; exact ⟨r, e77⟩
                · rw [if_neg c4, f11_known_68, zc_t (inBn (by omega) (by decide))]
                  exact ⟨_, rfl⟩
            · rw [if_neg c2]; exact ⟨r, e77⟩
      obtain ⟨r, er⟩ := loop N 0 (by omega) (by have := hn'.2.1; omega)
      rw [show (0 : Int32) = nI 0 from rfl, er]
      exact Ok.ret ⟨⟨hR, fun t' ht' => by cases ht'; exact hw.eq (by omega) EqOn.rf⟩, fun u i t' hu => (by cases hu), fun t' _ _ => ⟨rfl, hw⟩, fun e he => (by cases he)⟩
    | inr u =>
      obtain ⟨n1, n2, n3⟩ := hn'
      obtain ⟨c1, c2, c3, c4, c5⟩ := n3 u rfl
      have hw0 : gI τ 160 15 = 0 := hw
      have key : ∀ (xr y : Nms) (fu : Nat), l = xr.reverse ++ y → xr.length < fu → (∀ b ∈ y, ¬ (b.1 = wW B n t ∧ b.2.1 = k)) → Ok (f11_known_21 N (nI (10 * (k - 13))) (nI t) fu (nI y.length) τ) (fun r υ => RWt υ B n (.inr t1) (bP (knw l (wW B n t) k t) fun _ => .inr ()) ∧ (∀ u' i t', (.inr u : PR Unit) = .inr u' → (.inr t1 : PR Nat) = .inr t' → knw l (wW B n t) k t = .inr i → r = nI i) ∧ (∀ t', (.inr t1 : PR Nat) = .inr t' → ¬ r < 0 → (bP (knw l (wW B n t) k t) fun _ => .inr ()) = (.inr u : PR Unit) ∧ WSt (α := Unit) υ B n t (.inr u)) ∧ (∀ e, (.inr t1 : PR Nat) = .inl e → r = -1)) := by
        intro xr
        induction xr with
        | nil =>
          intro y fu hl hfu hy
          obtain ⟨fu, rfl⟩ : ∃ g, fu = g + 1 := ⟨fu - 1, by omega⟩
          have hly : l = y := hl
          rw [f11_known_21, n1, if_pos (by rw [c1, hly]; exact nI_rf), knw_no (by rw [hly]; exact hy), f11_known_83]
          refine Ok.b (show Ok (f11_wrong N 4 (nI t) τ) _ from r_wrong (k := 4) (w := .inr ()) hR (show t ≤ t1 by omega) hw0 (by decide) (by decide)) ?_
          rintro - υ ⟨u1, u2⟩
          exact Ok.ret ⟨⟨RX.eq (s := .inr t1) hR (u2.on (by decide)), fun t' ht' => by cases ht'; exact u1.eq (by omega) EqOn.rf⟩, fun u' i t' _ _ hkn => (by cases hkn), fun t' _ hr => absurd (by decide) hr, fun e he => (by cases he)⟩
        | cons a xr ih =>
          intro y fu hl hfu hy
          obtain ⟨fu, rfl⟩ : ∃ g, fu = g + 1 := ⟨fu - 1, by omega⟩
          have hl2 : l = xr.reverse ++ a :: y := by rw [hl]; simp
          have hlen : y.length < l.length := by rw [hl2]; simp; omega
          have hm := (show At (nF τ) (xr.reverse ++ a :: y) by rw [← hl2]; exact c2).mid
          have ham : a ∈ l := by rw [hl2]; simp
          have ha : okW a.1 := c3 a ham
          obtain ⟨a1, a2, a3⟩ := c5 a ham
          simp only [List.length_cons] at hfu
          have e77 : ¬ (a.1 = wW B n t ∧ a.2.1 = k) → Ok (f11_known_77 N (fun x3 σ => f11_known_21 N (nI (10 * (k - 13))) (nI t) fu x3 σ) (nI (10 * (k - 13))) (nI t) (nI y.length) τ) (fun r υ => RWt υ B n (.inr t1) (bP (knw l (wW B n t) k t) fun _ => .inr ()) ∧ (∀ u' i t', (.inr u : PR Unit) = .inr u' → (.inr t1 : PR Nat) = .inr t' → knw l (wW B n t) k t = .inr i → r = nI i) ∧ (∀ t', (.inr t1 : PR Nat) = .inr t' → ¬ r < 0 → (bP (knw l (wW B n t) k t) fun _ => .inr ()) = (.inr u : PR Unit) ∧ WSt (α := Unit) υ B n t (.inr u)) ∧ (∀ e, (.inr t1 : PR Nat) = .inl e → r = -1)) := by
            intro hne
            rw [f11_known_77, z_l_eq, nI_1]
            exact ih (a :: y) fu hl2 (by omega) fun b hb => by
              rcases List.mem_cons.mp hb with rfl | hb
              · exact hne
              · exact hy b hb
          rw [f11_known_21, n1, if_neg (nI_ge (by omega) (by omega)), zc_t (inBn (by omega) (by decide)), zc_t (inBn (by omega) (by decide)), ixn (by omega), ixn (by omega), hm.1, hrow, hm.2]
          by_cases c : a.1 = wW B n t
          · rw [if_pos (by rw [rf_eqW (by decide) (by decide) ha hwok]; exact c), zc_t (inBn (by omega) (by decide)), zc_t (inBn (by omega) (by decide)), show nI (10 * (k - 13)) + 10 = nI (10 * (k - 13) + 10) from nI_add _ 10]
            refine Ok.i (fun d1 => ?_) (fun d1 => Ok.i (fun d2 => ?_) (fun d2 => ?_))
            · rw [nI_ltI (by omega) (by omega)] at d1
              exact e77 (by omega)
            · rw [nI_leI (by omega) (by omega)] at d2
              exact e77 (by omega)
            · rw [nI_ltI (by omega) (by omega)] at d1
              rw [nI_leI (by omega) (by omega)] at d2
              have hak : a.2.1 = k := by omega
              have hkn : knw l (wW B n t) k t = .inr a.2.2 := by
                unfold knw
                rw [hl2, fnd_mid c (by rw [← hl2]; exact c4)]
                dsimp only
                rw [if_pos hak]
              rw [f11_known_68, zc_t (inBn (by omega) (by decide)), ixn (by omega), hm.2, hkn, hak, show nI (10 * (k - 13) + a.2.2) - nI (10 * (k - 13)) = nI a.2.2 by rw [pk_sub (by omega)]; congr 1; omega]
              exact Ok.ret ⟨⟨hR, fun t' ht' => by cases ht'; exact hw0⟩, fun u' i t' _ _ hkn => (by cases hkn; rfl), fun t' _ _ => ⟨rfl, hw0⟩, fun e he => (by cases he)⟩
          · rw [if_neg (by rw [rf_eqW (by decide) (by decide) ha hwok]; exact c)]
            exact e77 (fun h => c h.1)
      have hr : l.length < N := by omega
      exact key l.reverse [] N (by simp) (by simpa using hr) (fun a ha => by cases ha)
theorem r_ends {N : Nat} {σ : Mm} {B : Nat → Nat} {n t j cnt srt num : Nat} {l : Nms} {s : PR Nat} {w : PR Unit} {x1 : Int32} (h : RWt σ B n s w) (hs : ∀ t', s = .inr t' → t' = t ∧ x1 = nI j ∧ kK B n j = 2) (hj : j < t) (hn : NM σ w cnt l) (hc : cnt < 20) : Ok (f11_ends N x1 (nI (10 * (srt - 13) + num)) σ) (fun _ τ => RWt τ B n (bP s (tk1 (kK B n) 4)) w ∧ (∀ t', bP s (tk1 (kK B n) 4) = .inr t' → gI τ 160 20 = nI (cnt + 1) ∧ ∀ u, w = .inr u → At (nF τ) ((wW B n j, srt, num) :: l)) ∧ Same wr11_ends σ τ) := by
  suffices hh : Ok (f11_ends N x1 (nI (10 * (srt - 13) + num)) σ) (fun _ τ => RWt τ B n (bP s (tk1 (kK B n) 4)) w ∧ (∀ t', bP s (tk1 (kK B n) 4) = .inr t' → gI τ 160 20 = nI (cnt + 1) ∧ ∀ u, w = .inr u → At (nF τ) ((wW B n j, srt, num) :: l))) from (hh.fr fun r τ e => fr11_ends N e).mono fun r τ ⟨⟨a, b⟩, c⟩ => ⟨a, b, c⟩
  unfold f11_ends
  refine Ok.b (show Ok (f11_must N 4 σ) _ from h.must (N := N) (t := t) (fun t' e => (hs t' e).1) (k := 4) (by decide) (by decide)) ?_
  rintro - τ ⟨hr, hsm⟩
  have hn' := hn.eq (hsm.on (D := D_NM) (by decide))
  cases hst : bP s (tk1 (kK B n) 4) with
  | inl e =>
    rw [hst] at hr
    have hF : FM τ B n e := hr.1
    exact Ok.f hF.n0.2.1 (Ok.ret ⟨⟨hF, fun t' ht' => by cases ht'⟩, fun t' ht' => by cases ht'⟩)
  | inr t1 =>
    obtain ⟨e1, e2, hk, ht4⟩ := tk1_st (t := t) (fun t' e => (hs t' e).1) hst
    rw [hst] at hr
    have hR : RT τ B n t1 := hr.1
    have hw := hr.2 t1 rfl
    obtain ⟨n1, n2, n3⟩ := hn'
    have hrow := (hR.2.1 j (by omega) (vr_vm fun q hq => hR.2.2.1 q (by omega))).2.2.2 (hs t e1).2.2
    have hrow : gL τ 166 j = lN (rf 27 (wW B n j)) := hrow
    rw [(hs t e1).2.1]
    refine Ok.t (by rw [hR.2.2.2.2.2]; decide) (Ok.c (inBn (by omega) (by decide)) ?_)
    rw [n1, ixn (by omega), ixn (by omega), hrow]
    have e1 : ∀ v, gI (sL τ 168 cnt v) 160 20 = nI cnt := fun v => n1
    refine Ok.c (inBn hc (by decide)) ?_
    rw [z_l_eq, e1, ixn (by omega)]
    refine Ok.c (inBn hc (by decide)) ?_
    rw [z_l_eq, gI_o (show 160 ≠ 169 by decide), e1, nI_1, z_l_eq]
    refine Ok.ret ⟨⟨?_, fun t' ht' => ?_⟩, fun t' _ => ⟨gI_e, fun u hu => ?_⟩⟩
    · refine RX.eq (s := .inr t1) hR ?_
      intro id k hi
      refine ⟨?_, ?_, rfl⟩
      · have hne : ¬ (id = 160 ∧ k = 20) ∧ id ≠ 169 := by
          obtain ⟨a, ha, hb, hc⟩ := hi
          simp only [D_X, List.mem_cons, List.not_mem_nil, or_false] at ha
          rcases ha with rfl | rfl | rfl | rfl <;> simp at hb hc <;> omega
        by_cases e : id = 160
        · subst e; rw [gI_k (by omega), gI_o hne.2]; rfl
        · rw [gI_o e, gI_o hne.2]; rfl
      · have hne : id ≠ 168 := by
          obtain ⟨a, ha, hb, hc⟩ := hi
          simp only [D_X, List.mem_cons, List.not_mem_nil, or_false] at ha
          rcases ha with rfl | rfl | rfl | rfl <;> simp at hb hc <;> omega
        show gL (sL τ 168 cnt _) id k = gL τ id k
        unfold gL sL
        simp [hne]
    · cases ht'
      refine hw.eq (Nat.le_refl _) ?_
      intro id k hi
      obtain ⟨a, ha, hb, hc2⟩ := hi
      simp only [D_WS, List.mem_cons, List.not_mem_nil, or_false] at ha
      have hid : id = 160 ∧ k ≠ 20 := by rcases ha with rfl | rfl <;> simp at hb hc2 <;> omega
      obtain ⟨rfl, hk20⟩ := hid
      refine ⟨by rw [gI_k hk20, gI_o (by decide)]; rfl, ?_, rfl⟩
      show gL (sL τ 168 cnt _) 160 k = gL τ 160 k
      unfold gL sL
      simp
    · obtain ⟨c1, c2, -⟩ := n3 u hu
      refine ⟨⟨?_, ?_⟩, c2.imp fun i a hi ha => ⟨?_, ?_⟩⟩
      · show gL (sL τ 168 cnt _) 168 l.length = _
        rw [← c1]
        exact gL_e
      · rw [gI_o (by decide), ← c1, gI_e]
      · show gL (sL τ 168 cnt _) 168 i = _
        rw [gL_k (by omega)]
        exact ha.1
      · rw [gI_o (by decide), gI_k (by omega)]
        exact ha.2
