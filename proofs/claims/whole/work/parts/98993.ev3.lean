-- THE CLASS'S LAWS, AS THEY ARE RECKONED
theorem ru_0 {vars : Nat → Int32} {a : Nat × Nat} {r : List (Nat × Nat)} {s : List Int32} (h : a.1 = 0) : ru vars (a :: r) s = ru vars r (nI a.2 :: s) := by
  conv => lhs; unfold ru
  rw [if_pos h]
theorem ru_1 {vars : Nat → Int32} {a : Nat × Nat} {r : List (Nat × Nat)} {s : List Int32} (h : a.1 = 1) : ru vars (a :: r) s = ru vars r (vars a.2 :: s) := by
  conv => lhs; unfold ru
  rw [if_neg (by omega), if_pos h]
theorem ru_op {vars : Nat → Int32} {a : Nat × Nat} {r : List (Nat × Nat)} {b x : Int32} {s : List Int32} (h : 6 ≤ a.1) : ru vars (a :: r) (b :: x :: s) = (if a.1 = 6 then ru vars r ((x + b) :: s) else if a.1 = 7 then ru vars r ((x - b) :: s) else if a.1 = 8 then ru vars r ((x * b) :: s) else if b = 0 then none else ru vars r ((x / b) :: s)) := by
  conv => lhs; unfold ru
  rw [if_neg (by omega), if_neg (by omega)]
def CodeC (σ : Mm) (q : Nat) : Nat → List (Nat × Nat) → Prop
  | _, [] => True
  | p, a :: r => (gI σ (q + 1) p = nI a.1 ∧ gI σ (q + 2) p = nI a.2) ∧ CodeC σ q (p + 1) r
theorem CodeC_app {σ : Mm} {q : Nat} : ∀ {p : Nat} {x y : List (Nat × Nat)}, CodeC σ q p (x ++ y) ↔ CodeC σ q p x ∧ CodeC σ q (p + x.length) y
  | p, [], y => ⟨fun h => ⟨trivial, h⟩, fun h => h.2⟩
  | p, a :: x, y => by
    have ih := CodeC_app (σ := σ) (q := q) (p := p + 1) (x := x) (y := y)
    rw [show p + (a :: x).length = p + 1 + x.length by simp only [List.length_cons]; omega]
    exact ⟨fun h => ⟨⟨h.1, (ih.mp h.2).1⟩, (ih.mp h.2).2⟩, fun h => ⟨h.1.1, ih.mpr ⟨h.1.2, h.2⟩⟩⟩
theorem CodeC_of {σ : Mm} {q : Nat} : ∀ {l : Cd}, LawAt σ q l → CodeC σ q 0 l.reverse
  | [], _ => trivial
  | a :: r, h => by
    rw [List.reverse_cons]
    refine CodeC_app.mpr ⟨CodeC_of h.2.2, ?_⟩
    rw [List.length_reverse, Nat.zero_add]
    exact ⟨⟨h.1, h.2.1⟩, trivial⟩
theorem CodeC.eq {σ τ : Mm} {q : Nat} (e : ∀ k, gI τ (q + 1) k = gI σ (q + 1) k ∧ gI τ (q + 2) k = gI σ (q + 2) k) : ∀ {p : Nat} {c : List (Nat × Nat)}, CodeC σ q p c → CodeC τ q p c
  | p, [], _ => trivial
  | p, a :: r, h => ⟨⟨by rw [(e p).1]; exact h.1.1, by rw [(e p).2]; exact h.1.2⟩, CodeC.eq e h.2⟩
def SA (σ : Mm) (q : Nat) (S : List Int32) : Prop := At (fun j v => gI σ (q + 4) j = v) S
theorem SA.push {σ : Mm} {q : Nat} {S : List Int32} {v : Int32} (h : SA σ q S) : SA (sI σ (q + 4) S.length v) q (v :: S) := ⟨gI_e, h.imp fun j a hj ha => by rw [gI_k (by omega)]; exact ha⟩
def K4 (q : Nat) (σ τ : Mm) : Prop := ∀ c k, c ≠ q + 4 → gI τ c k = gI σ c k
theorem K4.tr {q : Nat} {σ τ υ : Mm} (h : K4 q σ τ) (h2 : K4 q τ υ) : K4 q σ υ := fun c k hc => (h2 c k hc).trans (h c k hc)
theorem K4_w {q : Nat} {σ : Mm} {k : Nat} {v : Int32} : K4 q σ (sI σ (q + 4) k v) := fun c j hc => gI_o hc
theorem c_run {N q vr len : Nat} (hvr : vr ≠ q + 4) (hlen : len ≤ 416) {Q : Int32 → Mm → Prop} {base : List Int32} (hb : base.length ≤ 1) : ∀ {c : List (Nat × Nat)} {h h' : Nat} {s : List Int32} {p x5 fu : Nat} {σ : Mm}, wfc h c = some h' → s.length = h → h ≤ 15 → CodeC σ q p c → gI σ q 2 = nI len → p + c.length < len → x5 ≤ p → c.length < fu → SA σ q (s ++ base) → (∀ τ, ru (gI σ vr) c s = none → Q 0 τ) → (∀ s' τ fu', ru (gI σ vr) c s = some s' → K4 q σ τ → SA τ q (s' ++ base) → fu' + c.length = fu → Ok (f4_answer_13 N q vr fu' (nI (p + c.length)) (nI (s' ++ base).length) (nI (x5 + c.length)) τ) Q) → Ok (f4_answer_13 N q vr fu (nI p) (nI (s ++ base).length) (nI x5) σ) Q
  | [], h, h', s, p, x5, fu, σ, hw, hs, h15, hC, hl, hp, hx, hf, hS, h0, h1 => h1 s σ fu rfl (fun _ _ _ => rfl) hS rfl
  | a :: r, h, h', s, p, x5, 0, σ, hw, hs, h15, hC, hl, hp, hx, hf, hS, h0, h1 => absurd hf (Nat.not_lt_zero _)
  | a :: r, h, h', s, p, x5, fu + 1, σ, hw, hs, h15, hC, hl, hp, hx, hf, hS, h0, h1 => by
    have hr : (a :: r).length = r.length + 1 := rfl
    have hH : (s ++ base).length = s.length + base.length := List.length_append
    rw [f4_answer_13, hl, ixn (by omega), hC.1.1, hC.1.2]
    refine Ok.f (nI_ngt (by omega) (by omega)) (Ok.f (nI_ngt (by omega) (by omega)) (Ok.c (inBn (by omega) (by decide)) (Ok.l (Ok.c (inBn (by omega) (by decide)) (Ok.l (Ok.l ?_))))))
    rw [nI_1]
    -- on with the next step
    have go : ∀ {τ : Mm} {s2 : List Int32} {h2 : Nat}, wfc h2 r = some h' → s2.length = h2 → h2 ≤ 15 → K4 q σ τ → SA τ q (s2 ++ base) → (ru (gI σ vr) (a :: r) s = ru (gI σ vr) r s2) → Ok (f4_answer_304 N (fun x3 x4 x5 σ => f4_answer_13 N q vr fu x3 x4 x5 σ) q vr (nI (p + 1)) (nI (s2 ++ base).length) (nI x5) τ) Q := by
      intro τ s2 h2 g1 g2 g3 g4 g5 g6
      rw [f4_answer_304, z_l_eq, nI_1]
      have hv : gI τ vr = gI σ vr := funext fun k => g4 vr k hvr
      refine c_run hvr hlen hb g1 g2 g3 (hC.2.eq fun k => ⟨g4 _ _ (by omega), g4 _ _ (by omega)⟩) (by rw [g4 _ _ (by omega)]; exact hl) (by omega) (by omega) (by omega) g5 (fun υ hn => h0 υ (by rw [g6, ← hv]; exact hn)) (fun s' υ fu' hs' hk hA hfu => ?_)
      rw [show p + 1 + r.length = p + (a :: r).length by omega, show x5 + 1 + r.length = x5 + (a :: r).length by omega]
      exact h1 s' υ fu' (by rw [g6, ← hv]; exact hs') (g4.tr hk) hA (by omega)
    unfold wfc at hw
    by_cases ca : a.1 = 0 ∨ (a.1 = 1 ∧ a.2 < 9)
    · rw [if_pos ca] at hw
      by_cases c14 : h ≤ 14
      · rw [if_pos c14] at hw
        have push : ∀ v, (ru (gI σ vr) (a :: r) s = ru (gI σ vr) r (v :: s)) → Ok (f4_answer_105 N (fun x3 x4 x5 σ => f4_answer_13 N q vr fu x3 x4 x5 σ) q vr (nI (p + 1)) (nI (s ++ base).length) (nI x5) (nI (s ++ base).length) v σ) Q := by
          intro v hv
          rw [f4_answer_105, ixn (by omega)]
          refine Ok.c (inBn (by omega) (by decide)) ?_
          rw [z_l_eq, nI_1, z_l_eq]
          exact go (s2 := v :: s) hw (by simp only [List.length_cons]; omega) (by omega) K4_w hS.push hv
        rcases ca with e | ⟨e, e9⟩
        · refine Ok.t (by rw [e]; rfl) ?_
          rw [f4_answer_60]
          refine Ok.f (nI_ngt (n := 28) (by omega) (by decide)) (Ok.f (by rw [e]; decide) ?_)
          rw [f4_answer_85]
          exact Ok.t (by rw [e]; rfl) (push (nI a.2) (ru_0 e))
        · refine Ok.f (by rw [e]; decide) (Ok.t (by rw [e]; rfl) ?_)
          rw [f4_answer_60]
          refine Ok.f (nI_ngt (n := 28) (by omega) (by decide)) (Ok.t (by rw [e]; rfl) (Ok.t (nI_lt (b := 9) e9 (by decide)) ?_))
          rw [f4_answer_85]
          refine Ok.f (by rw [e]; decide) (Ok.c (inBn e9 (by decide)) ?_)
          rw [ixn (by omega)]
          exact push (gI σ vr a.2) (ru_1 e)
      · rw [if_neg c14] at hw
        cases hw
    · rw [if_neg ca] at hw
      by_cases cb : 6 ≤ a.1 ∧ a.1 ≤ 9 ∧ 2 ≤ h
      · rw [if_pos cb] at hw
        have ne : ∀ j : Nat, j < 6 → ¬ nI a.1 = nI j := fun j hj e => by
          rw [nI_eq (by omega) (by omega)] at e
          omega
        obtain ⟨b, x, s', rfl⟩ : ∃ b x s', s = b :: x :: s' := by
          match s, hs with
          | [], hs => simp at hs; omega
          | [_], hs => simp at hs; omega
          | b :: x :: s', _ => exact ⟨b, x, s', rfl⟩
        simp only [List.length_cons] at hs hH
        have hT : (b :: x :: s' ++ base).length = (s' ++ base).length + 2 := by simp
        have hT2 : (s' ++ base).length = s'.length + base.length := List.length_append
        have hb1 : gI σ (q + 4) ((s' ++ base).length + 1) = b := hS.1
        have hx1 : gI σ (q + 4) (s' ++ base).length = x := hS.2.1
        have hS2 : SA σ q (s' ++ base) := hS.2.2
        rw [hT]
        refine Ok.f (ne 0 (by decide)) (Ok.f (ne 1 (by decide)) (Ok.f (ne 3 (by decide)) (Ok.t (nI_le (a := 2) (by omega) (by omega)) (Ok.l ?_))))
        rw [show nI ((s' ++ base).length + 2) + (-1 : Int32) = nI ((s' ++ base).length + 1) from pk_m1 _, ixn (by omega), hb1, show nI ((s' ++ base).length + 1) - 1 = nI (s' ++ base).length from nI_pred _, ixn (by omega), hx1]
        refine Ok.c (inBn (by omega) (by decide)) (Ok.l (Ok.c (inBn (by omega) (by decide)) (Ok.l ?_)))
        refine Ok.f (ne 2 (by decide)) (Ok.f (ne 3 (by decide)) (Ok.f (ne 4 (by decide)) (Ok.f (ne 5 (by decide)) ?_)))
        have res : ∀ v, (ru (gI σ vr) (a :: r) (b :: x :: s') = ru (gI σ vr) r (v :: s')) → Ok (f4_answer_304 N (fun x3 x4 x5 σ => f4_answer_13 N q vr fu x3 x4 x5 σ) q vr (nI (p + 1)) (nI ((s' ++ base).length + 1)) (nI x5) (sI σ (q + 4) (s' ++ base).length v)) Q := by
          intro v hv
          exact go (s2 := v :: s') hw (by simp only [List.length_cons]; omega) (by omega) K4_w hS2.push hv
        have hru : ru (gI σ vr) (a :: r) (b :: x :: s') = (if a.1 = 6 then ru (gI σ vr) r ((x + b) :: s') else if a.1 = 7 then ru (gI σ vr) r ((x - b) :: s') else if a.1 = 8 then ru (gI σ vr) r ((x * b) :: s') else if b = 0 then none else ru (gI σ vr) r ((x / b) :: s')) := ru_op (by omega)
        refine Ok.i (fun c6 => ?_) (fun c6 => Ok.i (fun c7 => ?_) (fun c7 => Ok.i (fun c8 => ?_) (fun c8 => ?_)))
        · have c6 : nI a.1 = nI 6 := c6
          rw [nI_eq (by omega) (by decide)] at c6
          refine Ok.c (inBn (by omega) (by decide)) ?_
          rw [z_l_eq]
          exact res _ (by rw [hru, if_pos c6])
        · have c6 : ¬ nI a.1 = nI 6 := c6
          have c7 : nI a.1 = nI 7 := c7
          rw [nI_eq (by omega) (by decide)] at c6 c7
          refine Ok.c (inBn (by omega) (by decide)) ?_
          rw [z_l_eq]
          exact res _ (by rw [hru, if_neg c6, if_pos c7])
        · have c6 : ¬ nI a.1 = nI 6 := c6
          have c7 : ¬ nI a.1 = nI 7 := c7
          have c8 : nI a.1 = nI 8 := c8
          rw [nI_eq (by omega) (by decide)] at c6 c7 c8
          refine Ok.c (inBn (by omega) (by decide)) ?_
          rw [z_l_eq]
          exact res _ (by rw [hru, if_neg c6, if_neg c7, if_pos c8])
        · have c6 : ¬ nI a.1 = nI 6 := c6
          have c7 : ¬ nI a.1 = nI 7 := c7
          have c8 : ¬ nI a.1 = nI 8 := c8
          rw [nI_eq (by omega) (by decide)] at c6 c7 c8
          rw [f4_answer_283]
          refine Ok.i (fun cz => ?_) (fun cz => ?_)
          · exact Ok.ret (h0 σ (by rw [hru, if_neg c6, if_neg c7, if_neg c8, if_pos cz]))
          · rw [show nI ((s' ++ base).length + 1) - 1 = nI (s' ++ base).length from nI_pred _, ixn (by omega)]
            refine Ok.c (by simpa using cz) (Ok.c (inBn (by omega) (by decide)) ?_)
            rw [z_l_eq]
            exact res _ (by rw [hru, if_neg c6, if_neg c7, if_neg c8, if_neg cz])
      · rw [if_neg cb] at hw
        cases hw
/-- the steps of a law in their order, from p on -/
def lcI : Nat → List (Cd × Cd × Cd) → Cd → List (Nat × Nat)
  | _, [], e => e.reverse ++ [(3, 0)]
  | p, w :: r, e => w.1.reverse ++ (w.2.1.reverse ++ ((2, p + w.1.length + w.2.1.length + w.2.2.length + 2) :: (w.2.2.reverse ++ ((3, 0) :: lcI (p + w.1.length + w.2.1.length + w.2.2.length + 2) r e))))
theorem cLw_rev : ∀ {l : Cd} {r : List (Cd × Cd × Cd)} {e : Cd}, (cLw l r e).reverse = l.reverse ++ lcI l.length r e
  | l, [], e => by
    show ((3, 0) :: (e ++ l)).reverse = _
    simp [lcI]
  | l, w :: r, e => by
    show (cLw _ r e).reverse = _
    rw [cLw_rev]
    have hlen : (((3, 0) :: w.2.2) ++ (2, (((3, 0) :: w.2.2) ++ (2, 0) :: (w.2.1 ++ (w.1 ++ l))).length) :: (w.2.1 ++ (w.1 ++ l))).length = l.length + w.1.length + w.2.1.length + w.2.2.length + 2 := by
      simp only [List.length_append, List.length_cons]; omega
    have hlen2 : (((3, 0) :: w.2.2) ++ (2, 0) :: (w.2.1 ++ (w.1 ++ l))).length = l.length + w.1.length + w.2.1.length + w.2.2.length + 2 := by
      simp only [List.length_append, List.length_cons]; omega
    rw [hlen, hlen2]
    simp [lcI]
theorem c_lawRun {N q vr len : Nat} (hvr : vr ≠ q + 4) (hlen : len ≤ 416) : ∀ {r : List (Cd × Cd × Cd)} {e : Cd} {p x5 fu : Nat} {σ : Mm}, (∀ x ∈ r, wfE x.1 ∧ wfE x.2.1 ∧ wfE x.2.2) → wfE e → CodeC σ q p (lcI p r e) → gI σ q 2 = nI len → p + (lcI p r e).length ≤ len → x5 ≤ p → len < p + fu → Ok (f4_answer_13 N q vr fu (nI p) (nI 0) (nI x5) σ) (fun v _ => v = lawE (gI σ vr) r e)
  | [], e, p, x5, fu, σ, _, he, hC, hl, hp, hx, hf => by
    have hL : (lcI p [] e).length = e.length + 1 := by simp [lcI]
    obtain ⟨c1, c2⟩ := CodeC_app.mp hC
    rw [List.length_reverse] at c2
    have hlE : lawE (gI σ vr) [] e = (ev (gI σ vr) e).getD 0 := rfl
    rw [hlE]
    refine c_run (base := []) (s := []) hvr hlen (by decide) he rfl (by decide) c1 hl (by rw [List.length_reverse]; omega) hx (by rw [List.length_reverse]; omega) trivial (fun τ hn => ?_) (fun s' τ fu' hs' hk hA hfu => ?_)
    · rcases ev_run (vars := gI σ vr) he with ⟨a, b⟩ | ⟨v, a, b⟩
      · rw [b]; rfl
      · rw [a] at hn; cases hn
    · rcases ev_run (vars := gI σ vr) he with ⟨a, b⟩ | ⟨v, a, b⟩
      · rw [a] at hs'; cases hs'
      · rw [a] at hs'
        cases hs'
        rw [List.length_reverse] at hfu ⊢
        obtain ⟨g, rfl⟩ : ∃ g, fu' = g + 1 := ⟨fu' - 1, by omega⟩
        have d1 : gI τ (q + 1) (p + e.length) = nI 3 := by rw [hk _ _ (by omega)]; exact c2.1.1
        rw [f4_answer_13, hk _ _ (by omega), hl, ixn (by omega), d1]
        refine Ok.f (nI_ngt (by omega) (by omega)) (Ok.f (nI_ngt (by omega) (by omega)) (Ok.c (inBn (by omega) (by decide)) (Ok.l (Ok.c (inBn (by omega) (by decide)) (Ok.l (Ok.l (Ok.f (by decide) (Ok.f (by decide) (Ok.t rfl ?_)))))))))
        rw [f4_answer_118]
        refine Ok.f (show ¬ nI 1 ≤ 0 by decide) (Ok.c (show inB (nI 1 - 1) 28 = true by decide) (Ok.ret ?_))
        rw [b]
        have i1 : ix (nI 1 - 1) = 0 := by decide
        show gI τ (q + 4) (ix (nI 1 - 1)) = v
        rw [i1]
        exact hA.1
  | w :: r, e, p, x5, fu, σ, hr, he, hC, hl, hp, hx, hf => by
    obtain ⟨w1, w2, w3⟩ := hr w List.mem_cons_self
    have hL : (lcI p (w :: r) e).length = w.1.length + w.2.1.length + w.2.2.length + 2 + (lcI (p + w.1.length + w.2.1.length + w.2.2.length + 2) r e).length := by
      simp only [lcI, List.length_append, List.length_cons, List.length_reverse]; omega
    obtain ⟨c1, c2⟩ := CodeC_app.mp hC
    obtain ⟨c2, c3⟩ := CodeC_app.mp c2
    rw [List.length_reverse] at c2 c3
    rw [List.length_reverse] at c3
    obtain ⟨⟨d1, d2⟩, c4⟩ := c3
    obtain ⟨c4, c5⟩ := CodeC_app.mp c4
    rw [List.length_reverse] at c5
    obtain ⟨⟨d3, d4⟩, c6⟩ := c5
    have d1 : gI σ (q + 1) (p + w.1.length + w.2.1.length) = nI 2 := d1
    have d2 : gI σ (q + 2) (p + w.1.length + w.2.1.length) = nI (p + w.1.length + w.2.1.length + w.2.2.length + 2) := d2
    have d3 : gI σ (q + 1) (p + w.1.length + w.2.1.length + 1 + w.2.2.length) = nI 3 := d3
    have c6 : CodeC σ q (p + w.1.length + w.2.1.length + w.2.2.length + 2) (lcI (p + w.1.length + w.2.1.length + w.2.2.length + 2) r e) := by
      rw [show p + w.1.length + w.2.1.length + w.2.2.length + 2 = p + w.1.length + w.2.1.length + 1 + w.2.2.length + 1 by omega] at c6 ⊢
      exact c6
    unfold lawE
    refine c_run (base := []) (s := []) hvr hlen (by decide) w1 rfl (by decide) c1 hl (by rw [List.length_reverse]; omega) hx (by rw [List.length_reverse]; omega) trivial (fun τ hn => ?_) (fun s' τ fu' hs' hk hA hfu => ?_)
    · rcases ev_run (vars := gI σ vr) w1 with ⟨a, b⟩ | ⟨v, a, b⟩
      · rw [b]
      · rw [a] at hn; cases hn
    · rcases ev_run (vars := gI σ vr) w1 with ⟨a, b⟩ | ⟨u, a, b⟩
      · rw [a] at hs'; cases hs'
      rw [a] at hs'
      cases hs'
      rw [b]
      dsimp only
      rw [List.length_reverse] at hfu ⊢
      have hv : gI τ vr = gI σ vr := funext fun k => hk vr k hvr
      have hkC : ∀ k, gI τ (q + 1) k = gI σ (q + 1) k ∧ gI τ (q + 2) k = gI σ (q + 2) k := fun k => ⟨hk _ _ (by omega), hk _ _ (by omega)⟩
      refine c_run (base := [u]) (s := []) hvr hlen (Nat.le_refl 1) w2 rfl (by decide) (c2.eq hkC) (by rw [hk _ _ (by omega)]; exact hl) (by rw [List.length_reverse]; omega) (by omega) (by rw [List.length_reverse]; omega) hA (fun υ hn => ?_) (fun s' υ fu2 hs' hk2 hA2 hfu2 => ?_)
      · rw [hv] at hn
        rcases ev_run (vars := gI σ vr) w2 with ⟨a, b⟩ | ⟨v, a, b⟩
        · rw [b]
        · rw [a] at hn; cases hn
      · rw [hv] at hs'
        rcases ev_run (vars := gI σ vr) w2 with ⟨a, b⟩ | ⟨v, a, b⟩
        · rw [a] at hs'; cases hs'
        rw [a] at hs'
        cases hs'
        rw [b]
        dsimp only
        rw [List.length_reverse] at hfu2 ⊢
        have hk12 := hk.tr hk2
        obtain ⟨g, rfl⟩ : ∃ g, fu2 = g + 1 := ⟨fu2 - 1, by omega⟩
        have hv0 : gI υ (q + 4) 1 = v := hA2.1
        have hu0 : gI υ (q + 4) 0 = u := hA2.2.1
        rw [f4_answer_13, hk12 _ _ (by omega), hl, ixn (by omega), hk12 _ _ (by omega), d1, hk12 _ _ (by omega), d2]
        refine Ok.f (nI_ngt (by omega) (by omega)) (Ok.f (nI_ngt (by omega) (by omega)) (Ok.c (inBn (by omega) (by decide)) (Ok.l (Ok.c (inBn (by omega) (by decide)) (Ok.l (Ok.l (Ok.f (by decide) (Ok.f (by decide) (Ok.f (by decide) (Ok.t (show 2 ≤ nI 2 by decide) (Ok.l (Ok.c (show inB (nI 2 + (-1 : Int32)) 28 = true by decide) (Ok.l (Ok.c (show inB (nI 2 + (-1 : Int32) - 1) 28 = true by decide) (Ok.l (Ok.t rfl (Ok.l ?_)))))))))))))))))
        have i1 : ix (nI 2 + (-1 : Int32)) = 1 := by decide
        have i2 : ix (nI 2 + (-1 : Int32) - 1) = 0 := by decide
        have e1 : gI υ (q + 4) (ix (nI ([v] ++ [u]).length + (-1 : Int32))) = v := by
          show gI υ (q + 4) (ix (nI 2 + (-1 : Int32))) = v
          rw [i1]; exact hv0
        have e2 : gI υ (q + 4) (ix (nI ([v] ++ [u]).length + (-1 : Int32) - 1)) = u := by
          show gI υ (q + 4) (ix (nI 2 + (-1 : Int32) - 1)) = u
          rw [i2]; exact hu0
        have i3 : nI ([v] ++ [u]).length + (-1 : Int32) + (-1 : Int32) = nI 0 := by
          show nI 2 + (-1 : Int32) + (-1 : Int32) = nI 0
          decide
        rw [e1, e2, i3, nI_1]
        have hv2 : gI υ vr = gI σ vr := funext fun k => hk12 vr k hvr
        have hkC2 : ∀ k, gI υ (q + 1) k = gI σ (q + 1) k ∧ gI υ (q + 2) k = gI σ (q + 2) k := fun k => ⟨hk12 _ _ (by omega), hk12 _ _ (by omega)⟩
        refine Ok.i (fun hle => ?_) (fun hle => ?_)
        · have hnlt : ¬ u < v := fun h => by
            rw [Int32.lt_iff_toInt_lt] at h
            rw [Int32.le_iff_toInt_le] at hle
            omega
          rw [if_neg hnlt, f4_answer_228, f4_answer_304, z_l_eq, nI_1]
          refine (c_lawRun hvr hlen (r := r) (e := e) (p := p + w.1.length + w.2.1.length + w.2.2.length + 2) (fu := g) (fun x hx => hr x (List.mem_cons_of_mem _ hx)) he (c6.eq hkC2) (by rw [hk12 _ _ (by omega)]; exact hl) (by omega) (by omega) (by omega)).mono ?_
          intro y ρ hy
          rw [hy, hv2]
        · have hlt : u < v := by
            rw [Int32.lt_iff_toInt_lt]
            rw [Int32.le_iff_toInt_le] at hle
            omega
          rw [if_pos hlt, f4_answer_228, f4_answer_304, z_l_eq, nI_1]
          refine c_run (base := []) (s := []) hvr hlen (by decide) w3 rfl (by decide) (c4.eq hkC2) (by rw [hk12 _ _ (by omega)]; exact hl) (by rw [List.length_reverse]; omega) (by omega) (by rw [List.length_reverse]; omega) trivial (fun ρ hn => ?_) (fun s' ρ fu3 hs' hk3 hA3 hfu3 => ?_)
          · rw [hv2] at hn
            rcases ev_run (vars := gI σ vr) w3 with ⟨a, b⟩ | ⟨x, a, b⟩
            · rw [b]; rfl
            · rw [a] at hn; cases hn
          · rw [hv2] at hs'
            rcases ev_run (vars := gI σ vr) w3 with ⟨a, b⟩ | ⟨x, a, b⟩
            · rw [a] at hs'; cases hs'
            rw [a] at hs'
            cases hs'
            rw [List.length_reverse] at hfu3 ⊢
            have hk123 := hk12.tr hk3
            obtain ⟨g3, rfl⟩ : ∃ g3, fu3 = g3 + 1 := ⟨fu3 - 1, by omega⟩
            rw [f4_answer_13, hk123 _ _ (by omega), hl, ixn (by omega), hk123 _ _ (by omega), d3]
            refine Ok.f (nI_ngt (by omega) (by omega)) (Ok.f (nI_ngt (by omega) (by omega)) (Ok.c (inBn (by omega) (by decide)) (Ok.l (Ok.c (inBn (by omega) (by decide)) (Ok.l (Ok.l (Ok.f (by decide) (Ok.f (by decide) (Ok.t rfl ?_)))))))))
            rw [f4_answer_118]
            refine Ok.f (show ¬ nI 1 ≤ 0 by decide) (Ok.c (show inB (nI 1 - 1) 28 = true by decide) (Ok.ret ?_))
            rw [b]
            have i1 : ix (nI 1 - 1) = 0 := by decide
            show gI ρ (q + 4) (ix (nI 1 - 1)) = x
            rw [i1]
            exact hA3.1
