-- THE GRAMMAR: all tells, as the class looks at them
theorem bP_inr {α β : Type} {m : PR α} {k : α → PR β} {b : β} (h : bP m k = .inr b) : ∃ a, m = .inr a ∧ k a = .inr b := by
  cases m with
  | inl e => cases h
  | inr a => exact ⟨a, rfl, h⟩
theorem PO.map {α β : Type} {D : Wr} {σ τ : Mm} {B : Nat → Nat} {n : Nat} {m : PR α} {f : α → β} {P : α → Mm → Prop} {Q : β → Mm → Prop} {r : Int32} (hp : PO D σ B n m P r τ) (h : ∀ a, m = .inr a → EqOn D σ τ → P a τ → Q (f a) τ) : PO D σ B n (bP m fun a => .inr (f a)) Q r τ := by
  obtain ⟨h1, h2⟩ := hp
  refine ⟨h1, ?_⟩
  cases m with
  | inl e => exact h2
  | inr a => exact ⟨h2.1, h a rfl h1 h2.2⟩
def Cb (c : Cn) : Prop := c.1 ≤ 6 ∧ c.2.1 ≤ 7 ∧ c.2.2.1 ≤ 7 ∧ c.2.2.2 ≤ 12
theorem rm_ok {c most t : Nat} {u : Unit} (h : rmF c most t = .inr u) : c ≤ most := by
  unfold rmF at h
  split at h
  · assumption
  · cases h
theorem gP13_ok {K : Nat → Nat} {c : Cn} {t : Nat} {w : Nat × Cn × Option (Nat × Lw)} (h : gP13 K c t = .inr w) : c.1 + 1 ≤ 6 ∧ K t = 13 ∧ K (t + 1) = 2 ∧ K (t + 2) = 4 ∧ t + 2 < 400 ∧ w = (t + 3, (c.1 + 1, c.2), none) := by
  obtain ⟨u, hu, h⟩ := bP_inr h
  obtain ⟨t1, h1, h⟩ := bP_inr h
  obtain ⟨t2, h2, h⟩ := bP_inr h
  obtain ⟨t3, h3, h⟩ := bP_inr h
  obtain ⟨rfl, k1, l1⟩ := tk1_ok h1
  obtain ⟨rfl, k2, l2⟩ := tk1_ok h2
  obtain ⟨rfl, k3, l3⟩ := tk1_ok h3
  cases h
  exact ⟨rm_ok hu, k1, k2, k3, l3, rfl⟩
theorem gP14_ok {K : Nat → Nat} {c : Cn} {t : Nat} {w : Nat × Cn × Option (Nat × Lw)} (h : gP14 K c t = .inr w) : c.2.1 + 1 ≤ 7 ∧ K t = 14 ∧ (K (t + 1) = 2 ∧ K (t + 2) = 3 ∧ K (t + 3) = 3 ∧ K (t + 4) = 2 ∧ K (t + 5) = 4) ∧ t + 5 < 400 ∧ w = (t + 6, (c.1, c.2.1 + 1, c.2.2), none) := by
  obtain ⟨u, hu, h⟩ := bP_inr h
  obtain ⟨t1, h1, h⟩ := bP_inr h
  obtain ⟨t2, h2, h⟩ := bP_inr h
  obtain ⟨t3, h3, h⟩ := bP_inr h
  obtain ⟨t4, h4, h⟩ := bP_inr h
  obtain ⟨t5, h5, h⟩ := bP_inr h
  obtain ⟨t6, h6, h⟩ := bP_inr h
  obtain ⟨rfl, k1, l1⟩ := tk1_ok h1
  obtain ⟨rfl, k2, l2⟩ := tk1_ok h2
  obtain ⟨rfl, k3, l3⟩ := tk1_ok h3
  obtain ⟨rfl, k4, l4⟩ := tk1_ok h4
  obtain ⟨rfl, k5, l5⟩ := tk1_ok h5
  obtain ⟨rfl, k6, l6⟩ := tk1_ok h6
  cases h
  exact ⟨rm_ok hu, k1, ⟨k2, k3, k4, k5, k6⟩, l6, rfl⟩
theorem gP15_ok {K : Nat → Nat} {c : Cn} {t : Nat} {w : Nat × Cn × Option (Nat × Lw)} (h : gP15 K c t = .inr w) : c.2.2.1 + 1 ≤ 7 ∧ K t = 15 ∧ (K (t + 1) = 2 ∧ K (t + 2) = 3 ∧ K (t + 3) = 3 ∧ K (t + 4) = 4) ∧ t + 4 < 400 ∧ w = (t + 5, (c.1, c.2.1, c.2.2.1 + 1, c.2.2.2), none) := by
  obtain ⟨u, hu, h⟩ := bP_inr h
  obtain ⟨t1, h1, h⟩ := bP_inr h
  obtain ⟨t2, h2, h⟩ := bP_inr h
  obtain ⟨t3, h3, h⟩ := bP_inr h
  obtain ⟨t4, h4, h⟩ := bP_inr h
  obtain ⟨t5, h5, h⟩ := bP_inr h
  obtain ⟨rfl, k1, l1⟩ := tk1_ok h1
  obtain ⟨rfl, k2, l2⟩ := tk1_ok h2
  obtain ⟨rfl, k3, l3⟩ := tk1_ok h3
  obtain ⟨rfl, k4, l4⟩ := tk1_ok h4
  obtain ⟨rfl, k5, l5⟩ := tk1_ok h5
  cases h
  exact ⟨rm_ok hu, k1, ⟨k2, k3, k4, k5⟩, l5, rfl⟩
theorem nms_ok {K : Nat → Nat} : ∀ {f t t' : Nat}, 401 ≤ t + f → t ≤ 400 → nms K f t = .inr t' → t ≤ t' ∧ t' ≤ 400 ∧ (∀ j, t ≤ j → j < t' → K j = 2) ∧ K t' ≠ 2
  | 0, t, t', hf, ht, _ => absurd hf (by omega)
  | f + 1, t, t', hf, ht, h => by
    unfold nms at h
    by_cases c : K t = 2
    · rw [if_pos c] at h
      obtain ⟨t1, h1, h⟩ := bP_inr h
      obtain ⟨rfl, k1, l1⟩ := tk1_ok h1
      obtain ⟨a1, a2, a3, a4⟩ := nms_ok (by omega) (by omega) h
      refine ⟨by omega, a2, fun j j1 j2 => ?_, a4⟩
      by_cases e : j = t
      · rw [e]; exact c
      · exact a3 j (by omega) j2
    · rw [if_neg c] at h
      cases h
      exact ⟨Nat.le_refl _, ht, fun j j1 j2 => absurd j2 (by omega), c⟩
theorem gP16_ok {K : Nat → Nat} {c : Cn} {t : Nat} {w : Nat × Cn × Option (Nat × Lw)} (h : gP16 K c t = .inr w) : c.2.2.2 + 1 ≤ 12 ∧ K t = 16 ∧ (K (t + 1) = 2 ∧ K (t + 2) = 2 ∧ K (t + 3) = 2 ∧ K (t + 4) = 3) ∧ ∃ t6, t + 5 ≤ t6 ∧ t6 < 400 ∧ (∀ j, t + 5 ≤ j → j < t6 → K j = 2) ∧ K t6 = 4 ∧ w = (t6 + 1, (c.1, c.2.1, c.2.2.1, c.2.2.2 + 1), none) := by
  obtain ⟨u, hu, h⟩ := bP_inr h
  obtain ⟨t1, h1, h⟩ := bP_inr h
  obtain ⟨t2, h2, h⟩ := bP_inr h
  obtain ⟨t3, h3, h⟩ := bP_inr h
  obtain ⟨t4, h4, h⟩ := bP_inr h
  obtain ⟨t5, h5, h⟩ := bP_inr h
  obtain ⟨t6, h6, h⟩ := bP_inr h
  obtain ⟨t7, h7, h⟩ := bP_inr h
  obtain ⟨rfl, k1, l1⟩ := tk1_ok h1
  obtain ⟨rfl, k2, l2⟩ := tk1_ok h2
  obtain ⟨rfl, k3, l3⟩ := tk1_ok h3
  obtain ⟨rfl, k4, l4⟩ := tk1_ok h4
  obtain ⟨rfl, k5, l5⟩ := tk1_ok h5
  obtain ⟨a1, a2, a3, a4⟩ := nms_ok (by omega) (by omega) h6
  obtain ⟨rfl, k7, l7⟩ := tk1_ok h7
  cases h
  exact ⟨rm_ok hu, k1, ⟨k2, k3, k4, k5⟩, t6, a1, l7, a3, k7, rfl⟩
theorem gPi_ok {K : Nat → Nat} {c : Cn} {k t : Nat} {w : Nat × Cn × Option (Nat × Lw)} (h : gPi K c k t = .inr w) : K t = k ∧ K (t + 1) = 3 ∧ K (t + 2) = 4 ∧ t + 2 < 400 ∧ w = (t + 3, c, none) := by
  obtain ⟨t1, h1, h⟩ := bP_inr h
  obtain ⟨t2, h2, h⟩ := bP_inr h
  obtain ⟨t3, h3, h⟩ := bP_inr h
  obtain ⟨rfl, k1, l1⟩ := tk1_ok h1
  obtain ⟨rfl, k2, l2⟩ := tk1_ok h2
  obtain ⟨rfl, k3, l3⟩ := tk1_ok h3
  cases h
  exact ⟨k1, k2, k3, l3, rfl⟩
theorem gTell_cb {K V : Nat → Nat} {c : Cn} {t : Nat} {w : Nat × Cn × Option (Nat × Lw)} (h : gTell K V c t = .inr w) (hc : Cb c) : Cb w.2.1 := by
  obtain ⟨c1, c2, c3, c4⟩ := hc
  unfold gTell at h
  split at h
  · obtain ⟨a, -, -, -, -, rfl⟩ := gP13_ok h; exact ⟨a, c2, c3, c4⟩
  · split at h
    · obtain ⟨a, -, -, -, rfl⟩ := gP14_ok h; exact ⟨c1, a, c3, c4⟩
    · split at h
      · obtain ⟨a, -, -, -, rfl⟩ := gP15_ok h; exact ⟨c1, c2, a, c4⟩
      · split at h
        · obtain ⟨a, -, -, t6, -, -, -, -, rfl⟩ := gP16_ok h; exact ⟨c1, c2, c3, a⟩
        · split at h
          · obtain ⟨w2, -, h⟩ := bP_inr h; cases h; exact ⟨c1, c2, c3, c4⟩
          · split at h
            · obtain ⟨-, -, -, -, rfl⟩ := gPi_ok h; exact ⟨c1, c2, c3, c4⟩
            · cases h
-- the class's laws, and where they begin
def dfc (k : Nat) : Cd := if k = 0 then [(3, 0), (7, 0), (1, 2), (1, 1)] else if k = 1 then [(3, 0), (0, 0)] else if k = 2 then [(3, 0), (1, 6)] else [(3, 0), (0, 1)]
def lcd (pre : Cd) (k : Nat) : Option Lw → Cd
  | none => dfc k ++ pre
  | some w => cLw pre w.1 w.2
def LT (σ : Mm) (q : Nat) (l : Cd) (lw : LwT) : Prop := ∀ k, k < 4 → ∃ pre post : Cd, gI σ (q + 3) k = nI pre.length ∧ l = post ++ lcd pre k (lw k)
theorem LT.more {σ τ : Mm} {q : Nat} {l x : Cd} {lw : LwT} (h : LT σ q l lw) (e : ∀ j, gI τ (q + 3) j = gI σ (q + 3) j) : LT τ q (x ++ l) lw := by
  intro k hk
  obtain ⟨pre, post, h1, h2⟩ := h k hk
  exact ⟨pre, x ++ post, by rw [e]; exact h1, by rw [h2, List.append_assoc]⟩
def GT (σ : Mm) (B : Nat → Nat) (n q t : Nat) (c : Cn) (lw : LwT) : Prop := ∃ (l : Cd) (stk : List Nat) (dp : Nat), GS σ B n q t l stk dp ∧ l.length ≤ t + 10 ∧ Cnt σ c ∧ LT σ q l lw
def gtP (B : Nat → Nat) (n q t : Nat) (lw : LwT) (w : Nat × Cn × Option (Nat × Lw)) (τ : Mm) : Prop := GT τ B n q w.1 w.2.1 (upL lw w.2.2) ∧ t < w.1
theorem tP_gt {σ τ : Mm} {B : Nat → Nat} {n q t : Nat} {l : Cd} {stk : List Nat} {dp : Nat} {c : Cn} {lw : LwT} {w : Nat × Cn × Option (Nat × Lw)} (hq : q = 19 ∨ q = 39) (hl : l.length ≤ t + 10) (hL : LT σ q l lw) (h : tP σ B n q t l stk dp w τ) : gtP B n q t lw w τ := by
  obtain ⟨h1, h2, h3, h4, h5⟩ := h
  refine ⟨⟨l, stk, dp, h1, by omega, h2, ?_⟩, h4⟩
  rw [h5]
  refine (hL.more (x := []) fun j => ?_)
  rcases hq with rfl | rfl
  · exact h3.I (wIn_r 0 rfl (by decide) (by decide))
  · exact h3.I (wIn_r 1 rfl (by decide) (by decide))
theorem c_tellL {N : Nat} (hN : 4000 ≤ N) {B : Nat → Nat} {n q : Nat} {D : Wr} (hD : keptG D q) (hD2 : offL [(q + 3, 1, none)] D = true) {t k : Nat} (hk1 : 17 ≤ k) (hk2 : k ≤ 20) {c : Cn} {lw : LwT} {σ : Mm} (h : GT σ B n q t c lw) : Ok (f2_keepsLaw N (nI k) σ) (PO D σ B n (gPl (kK B n) (vV B n) c k t) (gtP B n q t lw)) := by
  obtain ⟨l, stk, dp, g1, g2, g3, g4⟩ := h
  refine ((c_lawG hN (C := 10) (by decide) hD hD2 hk1 hk2 g1 g2).frP (D2 := D_47) (fun r τ e => fr2_keepsLaw N e) rfl).mono fun r τ hp => hp.map ?_
  rintro w - - ⟨⟨⟨w1, w2, w3⟩, w4, w5⟩, w6⟩
  refine ⟨⟨_, _, _, w1, w3, g3.eq w6, ?_⟩, w2⟩
  intro j hj
  by_cases e : j = k - 17
  · subst e
    refine ⟨l, [], w4, ?_⟩
    show _ = [] ++ lcd l (k - 17) (if k - 17 = k - 17 then some w.2 else lw (k - 17))
    rw [if_pos rfl]
    rfl
  · obtain ⟨pre, post, h1, h2⟩ := g4 j hj
    obtain ⟨x, hx⟩ := cLw_app (l := l) (r := w.2.1) (e := w.2.2)
    refine ⟨pre, x ++ post, by rw [w5 j e]; exact h1, ?_⟩
    show _ = (x ++ post) ++ lcd pre j (if j = k - 17 then some w.2 else lw j)
    rw [if_neg e, hx, h2, List.append_assoc]
theorem c_tellN {N : Nat} (hN : 4000 ≤ N) {B : Nat → Nat} {n q : Nat} {D : Wr} (hD : keptG D q) {t : Nat} (hk : ¬ (17 ≤ kK B n t ∧ kK B n t ≤ 20)) {c : Cn} (hcb : Cb c) {lw : LwT} {σ : Mm} (h : GT σ B n q t c lw) : Ok (f2_keepsTell N (nI (kK B n t)) σ) (PO D σ B n (gTell (kK B n) (vV B n) c t) (gtP B n q t lw)) := by
  obtain ⟨l, stk, dp, g1, g2, g3, g4⟩ := h
  obtain ⟨b1, b2, b3, b4⟩ := hcb
  have hq := g1.1
  have hkl := tkK_lt (B := B) (n := n) (b := bg B n t)
  have hkk : kK B n t = tkK B n (bg B n t) := rfl
  unfold gTell
  by_cases c13 : kK B n t = 13
  · rw [if_pos c13, c13]
    exact (c_t13 hN g1 hD g3 (by omega)).mono fun r τ hp => hp.mono fun a _ _ ha => tP_gt hq g2 g4 (c := c) ha
  rw [if_neg c13]
  by_cases c14 : kK B n t = 14
  · rw [if_pos c14, c14]
    exact (c_t14 hN g1 hD g3 (by omega)).mono fun r τ hp => hp.mono fun a _ _ ha => tP_gt hq g2 g4 (c := c) ha
  rw [if_neg c14]
  by_cases c15 : kK B n t = 15
  · rw [if_pos c15, c15]
    exact (c_t15 hN g1 hD g3 (by omega)).mono fun r τ hp => hp.mono fun a _ _ ha => tP_gt hq g2 g4 (c := c) ha
  rw [if_neg c15]
  by_cases c16 : kK B n t = 16
  · rw [if_pos c16, c16]
    exact (c_t16 hN g1 hD g3 (by omega)).mono fun r τ hp => hp.mono fun a _ _ ha => tP_gt hq g2 g4 (c := c) ha
  rw [if_neg c16, if_neg hk]
  by_cases ci : kK B n t = 21 ∨ kK B n t = 22
  · rw [if_pos ci]
    exact (c_ti hN g1 hD g3 ci).mono fun r τ hp => hp.mono fun a _ _ ha => tP_gt hq g2 g4 (c := c) ha
  · rw [if_neg ci]
    exact c_tbad g1 hD (by omega) c13 c14 c15 c16 (by omega) (by omega)
def gaP (B : Nat → Nat) (n q : Nat) (w : Cn × LwT) (τ : Mm) : Prop := Cb w.1 ∧ ∃ t', GT τ B n q t' w.1 w.2
theorem c_keeps35 {N : Nat} (hN : 4000 ≤ N) {B : Nat → Nat} {n q o1 : Nat} {D : Wr} (hD : keptG D q) (hD2 : offL [(q + 3, 1, none)] D = true) : ∀ {f t x fu : Nat} {c : Cn} {lw : LwT} {σ : Mm}, 401 ≤ t + f → x + f = 401 → f < fu → GT σ B n q t c lw → Cb c → Ok (f2_keeps_35 N o1 fu (nI x) σ) (PO D σ B n (gAll (kK B n) (vV B n) f t c lw) (gaP B n q))
  | 0, t, x, fu, c, lw, σ, hf, _, _, h, _ => by
    obtain ⟨l, stk, dp, g1, -⟩ := h
    exact absurd g1.2.2.2.2.1 (by omega)
  | f + 1, t, x, 0, c, lw, σ, _, _, h, _, _ => absurd h (Nat.not_lt_zero _)
  | f + 1, t, x, fu + 1, c, lw, σ, hf, hx, hfu, h, hcb => by
    obtain ⟨l, stk, dp, g1, g2, g3, g4⟩ := id h
    have ht := g1.2.2.2.2.1
    have hkl := tkK_lt (B := B) (n := n) (b := bg B n t)
    have hkk : kK B n t = tkK B n (bg B n t) := rfl
    have g7 : gI σ 47 2 = nI t := g1.2.2.2.2.2.2.1
    have go : ∀ {w : Nat × Cn × Option (Nat × Lw)} {τ : Mm}, gTell (kK B n) (vV B n) c t = .inr w → gtP B n q t lw w τ → Ok (f2_keeps_113 N (fun x2 σ => f2_keeps_35 N o1 fu x2 σ) o1 (nI x) τ) (PO D τ B n (gAll (kK B n) (vV B n) f w.1 w.2.1 (upL lw w.2.2)) (gaP B n q)) := by
      rintro w τ hw ⟨w1, w2⟩
      rw [f2_keeps_113, z_l_eq, nI_1]
      exact c_keeps35 hN hD hD2 (f := f) (t := w.1) (x := x + 1) (fu := fu) (by omega) (by omega) (by omega) w1 (gTell_cb hw hcb)
    have runP : ∀ {y : Option (Int32 × Mm)} {m : PR (Nat × Cn × Option (Nat × Lw))}, m = gTell (kK B n) (vV B n) c t → Ok y (PO D σ B n m (gtP B n q t lw)) → Ok y (PO D σ B n (gTell (kK B n) (vV B n) c t) (fun w τ => gTell (kK B n) (vV B n) c t = .inr w ∧ gtP B n q t lw w τ)) := by
      rintro y m rfl hy
      exact hy.mono fun r τ hp => hp.mono fun a ha _ hb => ⟨ha, hb⟩
    rw [f2_keeps_35, g7, c_kA (by omega), z_b_some, g7, c_kA (by omega), z_b_some, g1.k.1, gAll]
    refine Ok.f (nI_nlt (a := 400) (by omega) (by decide)) (Ok.i (fun c0 => ?_) (fun c0 => ?_))
    · have c0 : nI (kK B n t) = nI 0 := c0
      rw [nI_eq (by omega) (by decide)] at c0
      rw [if_pos c0]
      exact Ok.ret ⟨EqOn.rf, rfl, hcb, t, h⟩
    · have c0 : ¬ nI (kK B n t) = nI 0 := c0
      rw [nI_eq (by omega) (by decide)] at c0
      rw [if_neg c0]
      have tell : ¬ (17 ≤ kK B n t ∧ kK B n t ≤ 20) → Ok (f2_keeps_84 N (fun x2 σ => f2_keeps_35 N o1 fu x2 σ) o1 (nI x) (nI (kK B n t)) σ) (PO D σ B n (bP (gTell (kK B n) (vV B n) c t) fun w => gAll (kK B n) (vV B n) f w.1 w.2.1 (upL lw w.2.2)) (gaP B n q)) := by
        intro hk
        rw [f2_keeps_84, f2_keeps_85]
        refine Ok.t rfl (Ok.pr (runP rfl (c_tellN hN hD hk hcb h)) ?_)
        rintro w τ ⟨w1, w2⟩ -
        exact go w1 w2
      refine Ok.i (fun c17 => ?_) (fun c17 => Ok.i (fun c20 => ?_) (fun c20 => ?_))
      · have c17 : nI (kK B n t) < nI 17 := c17
        rw [nI_ltI (by omega) (by decide)] at c17
        exact tell (by omega)
      · have c20 : nI 20 < nI (kK B n t) := c20
        rw [nI_ltI (by decide) (by omega)] at c20
        exact tell (by omega)
      · have c17 : ¬ nI (kK B n t) < nI 17 := c17
        rw [nI_ltI (by omega) (by decide)] at c17
        have c20 : ¬ nI 20 < nI (kK B n t) := c20
        rw [nI_ltI (by decide) (by omega)] at c20
        have e : gPl (kK B n) (vV B n) c (kK B n t) t = gTell (kK B n) (vV B n) c t := by
          unfold gTell
          rw [if_neg (by omega), if_neg (by omega), if_neg (by omega), if_neg (by omega), if_pos ⟨by omega, by omega⟩]
        rw [f2_keeps_85]
        refine Ok.f (by decide) (Ok.pr (runP e (c_tellL hN hD hD2 (by omega) (by omega) h)) ?_)
        rintro w τ ⟨w1, w2⟩ -
        exact go w1 w2
-- the laws that are not told
def CS (σ : Mm) (q : Nat) (l : Cd) : Prop := gI σ q 2 = nI l.length ∧ LawAt σ q l
theorem s_put {N : Nat} {σ : Mm} {q : Nat} {l : Cd} (h : CS σ q l) (hl : l.length < 416) (a b : Nat) : ∃ τ, f4_put N q (nI a) (nI b) σ = some (nI l.length, τ) ∧ CS τ q ((a, b) :: l) ∧ ∀ j, gI τ (q + 3) j = gI σ (q + 3) j := by
  obtain ⟨g8, g9⟩ := h
  refine ⟨sI (sI (sI σ (q + 1) l.length (nI a)) (q + 2) l.length (nI b)) q 2 (nI (l.length + 1)), ?_, ⟨gI_e, ?_, ?_, g9.congr fun j hj => ⟨?_, ?_⟩⟩, fun j => ?_⟩
  · unfold f4_put
    rw [g8, z_l_eq, if_neg (show ¬ (416 : Int32) ≤ nI l.length from nI_ngt (n := 416) hl (by decide)), zc_t (inBn hl (by decide)), z_l_eq, zc_t (inBn hl (by decide)), z_l_eq, z_l_eq, ixn (by omega), gI_o (show q ≠ q + 2 by omega), gI_o (show q ≠ q + 1 by omega), g8, nI_1]
  · rw [gI_o (by omega), gI_o (by omega), gI_e]
  · rw [gI_o (by omega), gI_e]
  · rw [gI_o (by omega), gI_o (by omega), gI_k (by omega)]
  · rw [gI_o (by omega), gI_k (by omega), gI_o (by omega)]
  · rw [gI_o (by omega), gI_o (by omega), gI_o (by omega)]
theorem s_begin {N : Nat} {σ : Mm} {q : Nat} {l : Cd} (h : CS σ q l) {k : Nat} (hk : k < 4) : ∃ τ, f4_begin N q (nI k) σ = some ((), τ) ∧ CS τ q l ∧ gI τ (q + 3) k = nI l.length ∧ ∀ j, j ≠ k → gI τ (q + 3) j = gI σ (q + 3) j := by
  obtain ⟨g8, g9⟩ := h
  refine ⟨sI σ (q + 3) k (nI l.length), ?_, ⟨by rw [gI_o (by omega)]; exact g8, g9.congr fun j hj => ⟨gI_o (by omega), gI_o (by omega)⟩⟩, gI_e, fun j hj => gI_k hj⟩
  unfold f4_begin
  rw [if_neg (nI_pos (by omega)), if_neg (show ¬ (4 : Int32) ≤ nI k from nI_ngt (n := 4) hk (by decide)), zc_t (inBn hk (by decide)), z_l_eq, ixn (by omega), g8]
def dl0 : Cd := [(3, 0), (0, 1), (3, 0), (1, 6), (3, 0), (0, 0), (3, 0), (7, 0), (1, 2), (1, 1)]
theorem s_clear {N : Nat} {σ : Mm} {q : Nat} : ∃ τ, f4_clear N q σ = some ((), τ) ∧ CS τ q dl0 ∧ LT τ q dl0 (fun _ => none) := by
  have h0 : CS (sI σ q 2 0) q [] := ⟨gI_e, trivial⟩
  obtain ⟨τ1, e1, c1, s1, o1⟩ := s_begin (N := N) h0 (k := 0) (by decide)
  obtain ⟨τ2, e2, c2, o2⟩ := s_put (N := N) c1 (by decide) 1 1
  obtain ⟨τ3, e3, c3, o3⟩ := s_put (N := N) c2 (by decide) 1 2
  obtain ⟨τ4, e4, c4, o4⟩ := s_put (N := N) c3 (by decide) 7 0
  obtain ⟨τ5, e5, c5, o5⟩ := s_put (N := N) c4 (by decide) 3 0
  obtain ⟨τ6, e6, c6, s6, o6⟩ := s_begin (N := N) c5 (k := 1) (by decide)
  obtain ⟨τ7, e7, c7, o7⟩ := s_put (N := N) c6 (by decide) 0 0
  obtain ⟨τ8, e8, c8, o8⟩ := s_put (N := N) c7 (by decide) 3 0
  obtain ⟨τ9, e9, c9, s9, o9⟩ := s_begin (N := N) c8 (k := 2) (by decide)
  obtain ⟨τa, ea, ca, oa⟩ := s_put (N := N) c9 (by decide) 1 6
  obtain ⟨τb, eb, cb, ob⟩ := s_put (N := N) ca (by decide) 3 0
  obtain ⟨τc, ec, cc, sc, oc⟩ := s_begin (N := N) cb (k := 3) (by decide)
  obtain ⟨τd, ed, cd, od⟩ := s_put (N := N) cc (by decide) 0 1
  obtain ⟨τe, ee, ce, oe⟩ := s_put (N := N) cd (by decide) 3 0
  refine ⟨τe, ?_, ce, ?_⟩
  · have e1 : f4_begin N q 0 (sI σ q 2 0) = some ((), τ1) := e1
    have e2 : f4_put N q 1 1 τ1 = some (nI 0, τ2) := e2
    have e3 : f4_put N q 1 2 τ2 = some (nI 1, τ3) := e3
    have e4 : f4_put N q 7 0 τ3 = some (nI 2, τ4) := e4
    have e5 : f4_put N q 3 0 τ4 = some (nI 3, τ5) := e5
    have e6 : f4_begin N q 1 τ5 = some ((), τ6) := e6
    have e7 : f4_put N q 0 0 τ6 = some (nI 4, τ7) := e7
    have e8 : f4_put N q 3 0 τ7 = some (nI 5, τ8) := e8
    have e9 : f4_begin N q 2 τ8 = some ((), τ9) := e9
    have ea : f4_put N q 1 6 τ9 = some (nI 6, τa) := ea
    have eb : f4_put N q 3 0 τa = some (nI 7, τb) := eb
    have ec : f4_begin N q 3 τb = some ((), τc) := ec
    have ed : f4_put N q 0 1 τc = some (nI 8, τd) := ed
    have ee : f4_put N q 3 0 τd = some (nI 9, τe) := ee
    unfold f4_clear
    rw [z_l_eq, e1, z_b_some, e2, z_b_some, e3, z_b_some, e4, z_b_some, e5, z_b_some, e6, z_b_some, e7, z_b_some, e8, z_b_some, e9, z_b_some, ea, z_b_some, eb, z_b_some, ec, z_b_some, ed, z_b_some, ee, z_b_some]
  · intro k hk
    rcases (show k = 0 ∨ k = 1 ∨ k = 2 ∨ k = 3 by omega) with rfl | rfl | rfl | rfl
    · exact ⟨[], [(3, 0), (0, 1), (3, 0), (1, 6), (3, 0), (0, 0)], by rw [oe, od, oc 0 (by decide), ob, oa, o9 0 (by decide), o8, o7, o6 0 (by decide), o5, o4, o3, o2]; exact s1, rfl⟩
    · exact ⟨[(3, 0), (7, 0), (1, 2), (1, 1)], [(3, 0), (0, 1), (3, 0), (1, 6)], by rw [oe, od, oc 1 (by decide), ob, oa, o9 1 (by decide), o8, o7]; exact s6, rfl⟩
    · exact ⟨[(3, 0), (0, 0), (3, 0), (7, 0), (1, 2), (1, 1)], [(3, 0), (0, 1)], by rw [oe, od, oc 2 (by decide), ob, oa]; exact s9, rfl⟩
    · exact ⟨[(3, 0), (1, 6), (3, 0), (0, 0), (3, 0), (7, 0), (1, 2), (1, 1)], [], by rw [oe, od]; exact sc, rfl⟩
