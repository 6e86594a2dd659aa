-- THE REFERENCE'S LAWS
def rL : Cd → List (Cd × Cd × Cd) → Cd → Cd
  | l, [], e => e ++ l
  | l, w :: r, e => rL (w.2.2 ++ (w.2.1 ++ (w.1 ++ l))) r e
theorem rL_app : ∀ {l : Cd} {r : List (Cd × Cd × Cd)} {e : Cd}, ∃ x, rL l r e = x ++ l
  | l, [], e => ⟨e, rfl⟩
  | l, w :: r, e => by
    obtain ⟨x, hx⟩ := rL_app (l := w.2.2 ++ (w.2.1 ++ (w.1 ++ l))) (r := r) (e := e)
    exact ⟨x ++ (w.2.2 ++ (w.2.1 ++ w.1)), by show rL _ r e = _; rw [hx]; simp⟩
/-- a law's branches, from b on, its code from m on -/
def BrAt (σ : Mm) (s : Nat) : Nat → Nat → List (Cd × Cd × Cd) → Cd → Prop
  | b, m, [], e => gI σ 188 (130 * s + b) = 0 ∧ gI σ 191 (130 * s + b) = nI (420 * s + m) ∧ gI σ 192 (130 * s + b) = nI (420 * s + (m + e.length))
  | b, m, w :: r, e => (gI σ 188 (130 * s + b) = 1 ∧ gI σ 189 (130 * s + b) = nI (420 * s + m) ∧ gI σ 190 (130 * s + b) = nI (420 * s + (m + w.1.length)) ∧ gI σ 191 (130 * s + b) = nI (420 * s + (m + w.1.length + w.2.1.length)) ∧ gI σ 192 (130 * s + b) = nI (420 * s + (m + w.1.length + w.2.1.length + w.2.2.length))) ∧ BrAt σ s (b + 1) (m + w.1.length + w.2.1.length + w.2.2.length) r e
theorem BrAt.eq {σ τ : Mm} {s : Nat} : ∀ {b m : Nat} {r : List (Cd × Cd × Cd)} {e : Cd}, BrAt σ s b m r e → (∀ c j, 188 ≤ c → c ≤ 192 → b ≤ j → j < b + r.length + 1 → gI τ c (130 * s + j) = gI σ c (130 * s + j)) → BrAt τ s b m r e
  | b, m, [], e, h, hE => by
    obtain ⟨h1, h2, h3⟩ := h
    exact ⟨by rw [hE _ _ (by decide) (by decide) (by omega) (by simp)]; exact h1, by rw [hE _ _ (by decide) (by decide) (by omega) (by simp)]; exact h2, by rw [hE _ _ (by decide) (by decide) (by omega) (by simp)]; exact h3⟩
  | b, m, w :: r, e, h, hE => by
    obtain ⟨⟨h1, h2, h3, h4, h5⟩, h6⟩ := h
    have hb : b < b + (w :: r).length + 1 := by omega
    refine ⟨⟨by rw [hE _ _ (by decide) (by decide) (by omega) hb]; exact h1, by rw [hE _ _ (by decide) (by decide) (by omega) hb]; exact h2, by rw [hE _ _ (by decide) (by decide) (by omega) hb]; exact h3, by rw [hE _ _ (by decide) (by decide) (by omega) hb]; exact h4, by rw [hE _ _ (by decide) (by decide) (by omega) hb]; exact h5⟩, h6.eq fun c j a1 a2 a3 a4 => hE c j a1 a2 (by omega) (by simp only [List.length_cons]; omega)⟩
/-- while a law is looked at -/
def LX (σ0 σ : Mm) (B : Nat → Nat) (n s b : Nat) (m : PR (Nat × Cd)) : Prop := (s < 2 ∧ gI σ 160 41 = nI (130 * s + b) ∧ gI σ 160 19 = nI s) ∧ match m with
  | .inl e => FM σ B n e ∧ KS σ0 s σ
  | .inr w => RT σ B n w.1 ∧ EC σ0 σ s w.2 ∧ w.2.length ≤ w.1
theorem LX.c {σ0 σ : Mm} {B : Nat → Nat} {n s b : Nat} {m : PR (Nat × Cd)} (h : LX σ0 σ B n s b m) : ∃ x, gI σ 160 47 = x ∧ ∀ w, m = .inr w → x = nI (420 * s + w.2.length) := ⟨_, rfl, fun w hw => by
  subst hw
  exact h.2.2.1.2.1.1⟩
def D_LX : Wr := [(160, 1, some 41), (160, 1, some 19), (160, 1, some 11), (160, 1, some 13), (160, 1, some 14), (160, 1, some 47), (160, 1, some 12), (163, 4, none), (193, 2, none)]
theorem LX.eq {σ0 σ τ : Mm} {B : Nat → Nat} {n s b : Nat} {m : PR (Nat × Cd)} (h : LX σ0 σ B n s b m) (e : EqOn D_LX σ τ) (hk : KS σ s τ) : LX σ0 τ B n s b m := by
  obtain ⟨⟨h1, h2, h3⟩, h4⟩ := h
  refine ⟨⟨h1, by rw [e.I (wIn_s 0 rfl)]; exact h2, by rw [e.I (wIn_s 1 rfl)]; exact h3⟩, ?_⟩
  cases m with
  | inl a => exact ⟨RX.eq (s := .inl a) h4.1 (e.sub (by decide)), fun v x y => (h4.2 v x y).tr (hk v x y)⟩
  | inr w =>
    obtain ⟨a1, ⟨a2, ⟨a3, a4⟩, a5, a6⟩, a7⟩ := h4
    have hw : ∀ c k, 193 ≤ c → c < 195 → gI τ c k = gI σ c k := fun c k x y => e.I (wIn_r 8 rfl x y)
    refine ⟨RX.eq (s := .inr w.1) a1 (e.sub (by decide)), ⟨a2, ⟨by rw [e.I (wIn_s 5 rfl)]; exact a3, a4.imp fun j x _ hx => ?_⟩, by rw [e.I (wIn_s 6 rfl)]; exact a5, fun v x y => (a6 v x y).tr (hk v x y)⟩, a7⟩
    unfold cM at *
    rw [hw _ _ (by decide) (by decide), hw _ _ (by decide) (by decide)]; exact hx
theorem LX.wr {σ0 σ : Mm} {B : Nat → Nat} {n s b : Nat} {m : PR (Nat × Cd)} (h : LX σ0 σ B n s b m) {c j : Nat} {x : Int32} (h1 : 188 ≤ c) (h2 : c ≤ 192) (hj : j < 130) : LX σ0 (sI σ c (130 * s + j) x) B n s b m := by
  have hs := h.1.1
  refine h.eq ?_ fun v a d => kS_w (by unfold oS; omega)
  rcases (show c = 188 ∨ c = 189 ∨ c = 190 ∨ c = 191 ∨ c = 192 by omega) with rfl | rfl | rfl | rfl | rfl <;> exact EqOn_sIa EqOn.rf (by decide)
/-- a token is taken -/
theorem x_must {N : Nat} {σ0 σ : Mm} {B : Nat → Nat} {n s b k : Nat} {m : PR (Nat × Cd)} (h : LX σ0 σ B n s b m) (hk : k < 35) (hk2 : 2 ≤ k) : Ok (f11_must N (nI (km k)) σ) (fun _ τ => LX σ0 τ B n s b (bP m fun w => bP (tk1 (kK B n) k w.1) fun t' => .inr (t', w.2)) ∧ Same wr11_must σ τ) := by
  obtain ⟨⟨h1, h2, h3⟩, h4⟩ := id h
  cases m with
  | inl e =>
    refine (r_must (N := N) (s := .inl e) h4.1 hk hk2).mono ?_
    rintro - τ ⟨t1, t2⟩
    have e1 := t2.on (D := [(160, 1, some 41), (160, 1, some 19)]) (by decide)
    exact ⟨⟨⟨h1, by rw [e1.I (wIn_s 0 rfl)]; exact h2, by rw [e1.I (wIn_s 1 rfl)]; exact h3⟩, t1, fun v x y => (h4.2 v x y).tr (kS_same t2 (by decide))⟩, t2⟩
  | inr w =>
    obtain ⟨a1, ⟨a2, ⟨a3, a4⟩, a5, a6⟩, a7⟩ := h4
    refine (r_must (N := N) (s := .inr w.1) a1 hk hk2).mono ?_
    rintro - τ ⟨t1, t2⟩
    have e1 := t2.on (D := [(160, 1, some 41), (160, 1, some 19), (160, 1, some 47), (160, 1, some 12), (193, 2, none)]) (by decide)
    have hw : ∀ c k, 193 ≤ c → c < 195 → gI τ c k = gI σ c k := fun c k x y => e1.I (wIn_r 4 rfl x y)
    refine ⟨⟨⟨h1, by rw [e1.I (wIn_s 0 rfl)]; exact h2, by rw [e1.I (wIn_s 1 rfl)]; exact h3⟩, ?_⟩, t2⟩
    have t1 : RX τ B n (tk1 (kK B n) k w.1) := t1
    have hK : KS σ0 s τ := fun v x y => (a6 v x y).tr (kS_same t2 (by decide))
    show match (bP (tk1 (kK B n) k w.1) fun t' => (.inr (t', w.2) : PR (Nat × Cd))) with
      | .inl e => FM τ B n e ∧ KS σ0 s τ
      | .inr w => RT τ B n w.1 ∧ EC σ0 τ s w.2 ∧ w.2.length ≤ w.1
    cases htk : tk1 (kK B n) k w.1 with
    | inl e => rw [htk] at t1; exact ⟨t1, hK⟩
    | inr t' =>
      rw [htk] at t1
      obtain ⟨rfl, -, -⟩ := tk1_ok htk
      refine ⟨t1, ⟨a2, ⟨by rw [e1.I (wIn_s 2 rfl)]; exact a3, a4.imp fun j x _ hx => ?_⟩, by rw [e1.I (wIn_s 3 rfl)]; exact a5, hK⟩, by show w.2.length ≤ w.1 + 1; omega⟩
      unfold cM at *
      rw [hw _ _ (by decide) (by decide), hw _ _ (by decide) (by decide)]; exact hx
theorem r_exprF {N : Nat} (hN : 4000 ≤ N) {σ : Mm} {B : Nat → Nat} {n : Nat} {e : Nat × Nat} (h : FM σ B n e) : f11_expression N σ = some ((), sI σ 160 51 0) := by
  obtain ⟨M, rfl⟩ : ∃ M, N = M + 1 := ⟨N - 1, by omega⟩
  unfold f11_expression
  rw [z_l_eq, z_l_eq, f11_expression_12, if_neg (by decide), if_neg (h.w (k := 51) (by omega)).n0.1]
def xE (B : Nat → Nat) (n : Nat) (m : PR (Nat × Cd)) : PR (Nat × Cd) := bP m fun w => bP (sumF (kK B n) (vV B n) 401 w.1 [] []) fun v => .inr (v.1, v.2 ++ w.2)
/-- the code of an E is no longer than its tokens -/
theorem opn_len {K : Nat → Nat} {f t t' : Nat} {stk stk' : List Nat} (h : opn K f t stk = .inr (t', stk')) (h1 : sw stk) (h2 : dpt stk ≤ 6) : t + stk'.length = t' + stk.length ∧ dpt stk' + stk.length = dpt stk + stk'.length := by
  obtain ⟨-, b, c, -⟩ := opn_pure h h1 h2
  exact ⟨b, c⟩
theorem unt_len {K V : Nat → Nat} {t t' : Nat} {l l' : Cd} (hu : unt K V t l = .inr (t', l')) : l'.length = l.length + 1 ∧ ∃ a, l' = a :: l ∧ (a.1 = 0 ∨ (a.1 = 1 ∧ a.2 < 9)) := by
  unfold unt at hu
  split at hu
  · cases htk : tk1 K 3 t with
    | inl e => rw [htk] at hu; cases hu
    | inr t' => rw [htk] at hu; cases hu; exact ⟨rfl, _, rfl, Or.inl rfl⟩
  · split at hu
    · rename_i hk
      cases htk : tk1 K (K t) t with
      | inl e => rw [htk] at hu; cases hu
      | inr t' => rw [htk] at hu; cases hu; exact ⟨rfl, _, rfl, Or.inr ⟨rfl, by show K t - 26 < 9; omega⟩⟩
    · cases hu
theorem sumF_len {K V : Nat → Nat} : ∀ {f t t' : Nat} {stk : List Nat} {l l' : Cd}, sumF K V f t stk l = .inr (t', l') → sw stk → dpt stk ≤ 6 → l.length + stk.length ≤ t + dpt stk → l'.length ≤ t'
  | 0, t, t', stk, l, l', h, _, _, _ => by cases h
  | f + 1, t, t', stk, l, l', h, hsw, hd6, hw => by
    simp only [sumF] at h
    cases ho : opn K 7 t stk with
    | inl e => rw [ho] at h; cases h
    | inr w1 =>
      obtain ⟨t1, stk1⟩ := w1
      rw [ho] at h
      dsimp only at h
      have hle := opn_le ho
      obtain ⟨o1, o2, o3, o4⟩ := opn_pure ho hsw hd6
      cases hu : unt K V t1 l with
      | inl e => rw [hu] at h; cases h
      | inr w2 =>
        obtain ⟨t2, l2⟩ := w2
        rw [hu] at h
        dsimp only at h
        obtain ⟨u1, -⟩ := unt_ok hu
        have u2 := (unt_len hu).1
        cases hc : cls K 7 t2 stk1 l2 with
        | inl e => rw [hc] at h; cases h
        | inr w3 =>
          obtain ⟨t3, stk3, l3⟩ := w3
          rw [hc] at h
          dsimp only at h
          obtain ⟨c1, c2, c3, c4, c5⟩ := cls_pure hc o1 o4 (by omega) (by omega)
          obtain ⟨n1, n2, n3⟩ := stl_ns (least := 1) (Nat.le_refl _) (stk := stk3) (o := l3)
          have hdl : dpt stk3 ≤ stk3.length := List.count_le_length
          split at h
          · split at h
            · rename_i hd0
              cases h
              omega
            · cases h
          · rename_i er
            cases htk : tk1 K (K t3) t3 with
            | inl e => rw [htk] at h; cases h
            | inr t4 =>
              rw [htk] at h
              dsimp only at h
              obtain ⟨m1, m2, m3⟩ := stl_ns (least := rnk (K t3)) (by omega) (stk := stk3) (o := l3)
              obtain ⟨x1, x2, x3⟩ := stl_sw (least := rnk (K t3)) (stk := stk3) (o := l3) c1
              have hk10 := rnk_lt (s := K t3) (by omega)
              obtain ⟨rfl, -, -⟩ := tk1_ok htk
              have hdn : dpt (K t3 :: (stl (rnk (K t3)) stk3 l3).1) = dpt stk3 := by
                rw [← m1]
                unfold dpt
                rw [List.count_cons_of_ne hk10.2]
              have hswn : sw (K t3 :: (stl (rnk (K t3)) stk3 l3).1) := by
                refine ⟨x1, Or.inr ?_⟩
                rcases rnk_k (k := K t3) with e | e | e
                · exact absurd e.1 er
                · exact Or.inl ⟨e.1, x2 e.1⟩
                · exact Or.inr ⟨e.1, x3 e.1⟩
              exact sumF_len h hswn (by omega) (by simp only [List.length_cons]; omega)
theorem x_expr {N : Nat} (hN : 4000 ≤ N) {σ0 σ : Mm} {B : Nat → Nat} {n s b : Nat} {m : PR (Nat × Cd)} (h : LX σ0 σ B n s b m) : Ok (f11_expression N σ) (fun _ τ => LX σ0 τ B n s b (xE B n m) ∧ Same wr11_expression σ τ) := by
  obtain ⟨⟨h1, h2, h3⟩, h4⟩ := id h
  cases m with
  | inl e =>
    have e0 := r_exprF hN h4.1
    refine ⟨_, _, e0, ?_, fr11_expression N e0⟩
    exact ⟨⟨h1, by rw [gI_k (by decide)]; exact h2, by rw [gI_k (by decide)]; exact h3⟩, h4.1.w (by omega), h4.2.w (Or.inl (by decide))⟩
  | inr w =>
    obtain ⟨a1, a2, a7⟩ := h4
    refine (r_expr hN a1 a2 a7).mono ?_
    rintro - τ ⟨t1, t2⟩
    have e1 := t2.on (D := [(160, 1, some 41), (160, 1, some 19)]) (by decide)
    refine ⟨⟨⟨h1, by rw [e1.I (wIn_s 0 rfl)]; exact h2, by rw [e1.I (wIn_s 1 rfl)]; exact h3⟩, ?_⟩, t2⟩
    show match (bP (sumF (kK B n) (vV B n) 401 w.1 [] []) fun v => (.inr (v.1, v.2 ++ w.2) : PR (Nat × Cd))) with
      | .inl e => FM τ B n e ∧ KS σ0 s τ
      | .inr w => RT τ B n w.1 ∧ EC σ0 τ s w.2 ∧ w.2.length ≤ w.1
    cases hs : sumF (kK B n) (vV B n) 401 w.1 [] [] with
    | inl e => rw [hs] at t1; exact t1
    | inr v =>
      rw [hs] at t1
      have ha := sumF_app (K := kK B n) (V := vV B n) (l := w.2) (f := 401) (t := w.1) (stk := []) (o := [])
      rw [List.nil_append, hs] at ha
      exact ⟨t1.1, t1.2, sumF_len ha trivial (by decide) (show w.2.length + 0 ≤ w.1 + 0 by omega)⟩
theorem x_exprG {N : Nat} (hN : 4000 ≤ N) {σ0 σ : Mm} {B : Nat → Nat} {n s b : Nat} {m : PR (Nat × Cd)} (h : LX σ0 σ B n s b m) {k : Mm → Option (Unit × Mm)} {Q : Unit → Mm → Prop} (hk : ∀ τ, LX σ0 τ B n s b (xE B n m) → Same wr11_expression σ τ → Ok (k τ) Q) : Ok (if gI σ 160 13 = 0 then z_b (f11_expression N σ) fun _ τ => k τ else k σ) Q := by
  cases m with
  | inl e => exact Ok.f h.2.1.n0.1 (hk σ h (fun _ _ _ => ⟨rfl, rfl, rfl⟩))
  | inr w =>
    refine Ok.t h.2.1.2.2.2.2.2 (Ok.b (x_expr hN h) ?_)
    rintro - τ ⟨t1, t2⟩
    exact hk τ t1 t2
/-- a term -/
theorem x_term {N : Nat} (hN : 4000 ≤ N) {σ0 σ : Mm} {B : Nat → Nat} {n s b : Nat} {m : PR (Nat × Cd)} (h : LX σ0 σ B n s b m) (hb : b < 130) : Ok (f11_term N σ) (fun _ τ => LX σ0 τ B n s (b + 1) (xE B n m) ∧ (∀ w, m = .inr w → gI τ 191 (130 * s + b) = nI (420 * s + w.2.length)) ∧ (∀ w, xE B n m = .inr w → gI τ 192 (130 * s + b) = nI (420 * s + w.2.length)) ∧ (∀ c j, 186 ≤ c → c ≤ 192 → (j ≠ 130 * s + b ∨ c < 191) → gI τ c j = gI σ c j)) := by
  have hs := h.1.1
  have h41 := h.1.2.1
  unfold f11_term
  rw [h41, ixn (by omega)]
  refine Ok.c (inBn (by omega) (by decide)) ?_
  rw [z_l_eq]
  obtain ⟨x, hx1, hx2⟩ := h.c
  rw [hx1]
  have h' := h.wr (c := 191) (j := b) (x := x) (by decide) (by decide) hb
  refine x_exprG (k := fun σ => f11_term_24 N σ) hN h' ?_
  intro τ t1 t2
  have e41 := t1.1.2.1
  rw [f11_term_24, e41, ixn (by omega)]
  refine Ok.c (inBn (by omega) (by decide)) ?_
  rw [z_l_eq]
  obtain ⟨y, hy1, hy2⟩ := t1.c
  rw [hy1, gI_o (by decide), e41, nI_1, z_l_eq]
  have h2 := t1.wr (c := 192) (j := b) (x := y) (by decide) (by decide) hb
  have kc : ∀ c j, 186 ≤ c → c ≤ 192 → gI τ c j = gI (sI σ 191 (130 * s + b) x) c j := fun c j a1 a2 => (t2.on (D := [(186, 7, none)]) (by decide)).I (wIn_r 0 rfl a1 (by omega))
  refine Ok.ret ⟨⟨⟨hs, gI_e, by rw [gI_k (by decide)]; exact h2.1.2.2⟩, ?_⟩, fun w hw => ?_, fun w hw => ?_, fun c j a1 a2 a3 => ?_⟩
  · have hk : KS (sI τ 192 (130 * s + b) y) s (sI (sI τ 192 (130 * s + b) y) 160 41 (nI (130 * s + b + 1))) := fun v a b => kS_w (by unfold oS; omega)
    cases hm : xE B n m with
    | inl e =>
      rw [hm] at h2
      exact ⟨h2.2.1.w (by omega), fun v a b => (h2.2.2 v a b).tr (hk v a b)⟩
    | inr w =>
      rw [hm] at h2
      obtain ⟨a1, ⟨a2, ⟨a3, a4⟩, a5, a6⟩, a7⟩ := h2.2
      refine ⟨RX.eq (s := .inr w.1) a1 (EqOn_sI EqOn.rf (by decide)), ⟨a2, ⟨by rw [gI_k (by decide)]; exact a3, a4.imp fun j x _ hx => ⟨by rw [gI_o (by decide)]; exact hx.1, by rw [gI_o (by decide)]; exact hx.2⟩⟩, by rw [gI_k (by decide)]; exact a5, fun v x y => (a6 v x y).tr (hk v x y)⟩, a7⟩
  · rw [gI_o (by decide), gI_o (by decide), kc _ _ (by decide) (by decide), gI_e]
    exact hx2 w hw
  · rw [gI_o (by decide), gI_e]
    exact hy2 w hw
  · rw [gI_o (by omega)]
    have e1 : gI (sI τ 192 (130 * s + b) y) c j = gI τ c j := by
      by_cases e : c = 192
      · subst e; exact gI_k (by omega)
      · exact gI_o e
    rw [e1, kc c j a1 a2]
    by_cases e : c = 191
    · subst e; exact gI_k (by omega)
    · exact gI_o e
