-- THE REFERENCE'S LAWS, AS THEY ARE RECKONED
def CodeM (σ : Mm) : Nat → List (Nat × Nat) → Prop
  | _, [] => True
  | p, a :: r => (gI σ 193 p = nI (rop a.1) ∧ gI σ 194 p = nI a.2) ∧ CodeM σ (p + 1) r
theorem CodeM_app {σ : Mm} : ∀ {p : Nat} {x y : List (Nat × Nat)}, CodeM σ p (x ++ y) ↔ CodeM σ p x ∧ CodeM σ (p + x.length) y
  | p, [], y => ⟨fun h => ⟨trivial, h⟩, fun h => h.2⟩
  | p, a :: x, y => by
    have ih := CodeM_app (σ := σ) (p := p + 1) (x := x) (y := y)
    rw [show p + (a :: x).length = p + 1 + x.length by simp only [List.length_cons]; omega]
    exact ⟨fun h => ⟨⟨h.1, (ih.mp h.2).1⟩, (ih.mp h.2).2⟩, fun h => ⟨h.1.1, ih.mpr ⟨h.1.2, h.2⟩⟩⟩
theorem CodeM_of {σ : Mm} {s : Nat} : ∀ {l : Cd}, At (cM σ s) l → CodeM σ (420 * s) l.reverse
  | [], _ => trivial
  | a :: r, h => by
    rw [List.reverse_cons]
    refine CodeM_app.mpr ⟨CodeM_of h.2, ?_⟩
    rw [List.length_reverse]
    exact ⟨⟨h.1.1, h.1.2⟩, trivial⟩
theorem CodeM.eq {σ τ : Mm} (e : ∀ k, gI τ 193 k = gI σ 193 k ∧ gI τ 194 k = gI σ 194 k) : ∀ {p : Nat} {c : List (Nat × Nat)}, CodeM σ p c → CodeM τ p c
  | p, [], _ => trivial
  | p, a :: r, h => ⟨⟨by rw [(e p).1]; exact h.1.1, by rw [(e p).2]; exact h.1.2⟩, CodeM.eq e h.2⟩
def SP (σ : Mm) (S : List Int32) : Prop := At (fun j v => gI σ 197 j = v) S
theorem SP.push {σ : Mm} {S : List Int32} {v : Int32} (h : SP σ S) : SP (sI σ 197 S.length v) (v :: S) := ⟨gI_e, h.imp fun j a hj ha => by rw [gI_k (by omega)]; exact ha⟩
def KT (σ τ : Mm) : Prop := ∀ c k, c ≠ 197 → ¬ (c = 160 ∧ k = 54) → gI τ c k = gI σ c k
theorem KT.tr {σ τ υ : Mm} (h : KT σ τ) (h2 : KT τ υ) : KT σ υ := fun c k h3 h4 => (h2 c k h3 h4).trans (h c k h3 h4)
theorem KT.rf {σ : Mm} : KT σ σ := fun _ _ _ _ => rfl
theorem KT_w {σ : Mm} {k : Nat} {v : Int32} : KT σ (sI σ 197 k v) := fun c j hc _ => gI_o hc
def rP (σ τ : Mm) (m : Option (List Int32)) (v : Int32) : Prop := KT σ τ ∧ match m with
  | none => v = 0 ∧ gI τ 160 54 = 1
  | some s' => gI τ 160 54 = gI σ 160 54 ∧ ∀ x, s' = [x] → v = x
theorem r_run {N : Nat} : ∀ {c : List (Nat × Nat)} {h h' : Nat} {s : List Int32} {p fu : Nat} {σ : Mm}, wfc h c = some h' → s.length = h → h ≤ 15 → CodeM σ p c → p + c.length ≤ 840 → c.length < fu → SP σ s → Ok (f11_termOf_5 N (nI (p + c.length)) fu (nI s.length) (nI p) σ) (fun v τ => rP σ τ (ru (gI σ 196) c s) v)
  | c, h, h', s, p, 0, σ, _, _, _, _, _, hf, _ => absurd hf (Nat.not_lt_zero _)
  | [], h, h', s, p, fu + 1, σ, hw, hs, h15, hC, hp, hf, hS => by
    rw [f11_termOf_5]
    refine Ok.t nI_rf (Ok.c (by decide) (Ok.ret ⟨KT.rf, rfl, fun x hx => ?_⟩))
    rw [hx] at hS
    exact hS.1
  | a :: r, h, h', s, p, fu + 1, σ, hw, hs, h15, hC, hp, hf, hS => by
    have hr : (a :: r).length = r.length + 1 := rfl
    rw [f11_termOf_5, ixn (by omega), hC.1.1, hC.1.2]
    refine Ok.f (nI_ngt (by omega) (by omega)) (Ok.c (inBn (by omega) (by decide)) (Ok.l ?_))
    have go : ∀ {τ : Mm} {s2 : List Int32} {h2 : Nat}, wfc h2 r = some h' → s2.length = h2 → h2 ≤ 15 → KT σ τ → gI τ 160 54 = gI σ 160 54 → SP τ s2 → (ru (gI σ 196) (a :: r) s = ru (gI σ 196) r s2) → Ok (f11_termOf_159 N (fun x3 x4 σ => f11_termOf_5 N (nI (p + (a :: r).length)) fu x3 x4 σ) (nI (p + (a :: r).length)) (nI s2.length) (nI p) τ) (fun v τ => rP σ τ (ru (gI σ 196) (a :: r) s) v) := by
      intro τ s2 h2 g1 g2 g3 g4 g45 g5 g6
      rw [f11_termOf_159, z_l_eq, nI_1]
      have hv : gI τ 196 = gI σ 196 := funext fun k => g4 196 k (by decide) (by omega)
      have ih := r_run (N := N) (fu := fu) g1 g2 g3 (hC.2.eq fun k => ⟨g4 _ _ (by decide) (by omega), g4 _ _ (by decide) (by omega)⟩) (by omega) (by omega) g5
      rw [show p + 1 + r.length = p + (a :: r).length by omega] at ih
      refine ih.mono ?_
      rintro v υ ⟨k1, k2⟩
      rw [hv, ← g6] at k2
      refine ⟨g4.tr k1, ?_⟩
      cases hru : ru (gI σ 196) (a :: r) s with
      | none => rw [hru] at k2; exact k2
      | some s' => rw [hru] at k2; exact ⟨k2.1.trans g45, k2.2⟩
    have k54 : ∀ k v, gI (sI σ 197 k v) 160 54 = gI σ 160 54 := fun k v => gI_o (by decide)
    unfold wfc at hw
    by_cases ca : a.1 = 0 ∨ (a.1 = 1 ∧ a.2 < 9)
    · rw [if_pos ca] at hw
      by_cases c14 : h ≤ 14
      · rw [if_pos c14] at hw
        have push : ∀ v, (ru (gI σ 196) (a :: r) s = ru (gI σ 196) r (v :: s)) → Ok (f11_termOf_58 N (fun x3 x4 σ => f11_termOf_5 N (nI (p + (a :: r).length)) fu x3 x4 σ) (nI (p + (a :: r).length)) (nI s.length) (nI p) (nI s.length) v σ) (fun v τ => rP σ τ (ru (gI σ 196) (a :: r) s) v) := by
          intro v hv
          rw [f11_termOf_58, ixn (by omega)]
          refine Ok.c (inBn (by omega) (by decide)) ?_
          rw [z_l_eq, nI_1, z_l_eq]
          exact go (s2 := v :: s) hw (by simp only [List.length_cons]; omega) (by omega) KT_w (k54 _ _) hS.push hv
        rcases ca with e | ⟨e, e9⟩
        · refine Ok.f (by rw [e]; decide) (Ok.t (by rw [e]; rfl) (Ok.c (inBn (by omega) (by decide)) ?_))
          exact push (nI a.2) (ru_0 e)
        · refine Ok.f (by rw [e]; decide) (Ok.f (by rw [e]; decide) (Ok.c (inBn (by omega) (by decide)) (Ok.c (inBn e9 (by decide)) ?_)))
          rw [ixn (i := a.2) (by omega)]
          exact push (gI σ 196 a.2) (ru_1 e)
      · rw [if_neg c14] at hw
        cases hw
    · rw [if_neg ca] at hw
      by_cases cb : 6 ≤ a.1 ∧ a.1 ≤ 9 ∧ 2 ≤ h
      · rw [if_pos cb] at hw
        have hrop : rop a.1 = a.1 - 4 := by unfold rop; rw [if_neg (by omega)]
        rw [hrop]
        obtain ⟨b, x, s', rfl⟩ : ∃ b x s', s = b :: x :: s' := by
          match s, hs with
          | [], hs => simp at hs; omega
          | [_], hs => simp at hs; omega
          | b :: x :: s', _ => exact ⟨b, x, s', rfl⟩
        simp only [List.length_cons] at hs
        have hT : (b :: x :: s').length = s'.length + 2 := rfl
        have hb1 : gI σ 197 (s'.length + 1) = b := hS.1
        have hx1 : gI σ 197 s'.length = x := hS.2.1
        have hS2 : SP σ s' := hS.2.2
        rw [hT]
        refine Ok.t (nI_le (a := 2) (by omega) (by omega)) (Ok.l ?_)
        rw [show nI (s'.length + 2) + (-1 : Int32) = nI (s'.length + 1) from pk_m1 _, show nI (s'.length + 1) - 1 = nI s'.length from nI_pred _, ixn (i := s'.length) (by omega), ixn (i := s'.length + 1) (by omega), hb1, hx1]
        refine Ok.c (inBn (by omega) (by decide)) (Ok.l (Ok.c (inBn (by omega) (by decide)) (Ok.l ?_)))
        have res : ∀ v, (ru (gI σ 196) (a :: r) (b :: x :: s') = ru (gI σ 196) r (v :: s')) → Ok (f11_termOf_158 N (fun x3 x4 σ => f11_termOf_5 N (nI (p + (a :: r).length)) fu x3 x4 σ) (nI (p + (a :: r).length)) (nI (s'.length + 1)) (nI p) (nI (s'.length + 1) - 1) v σ) (fun v τ => rP σ τ (ru (gI σ 196) (a :: r) (b :: x :: s')) v) := by
          intro v hv
          rw [f11_termOf_158, show nI (s'.length + 1) - 1 = nI s'.length from nI_pred _, ixn (by omega)]
          refine Ok.c (inBn (by omega) (by decide)) ?_
          rw [z_l_eq]
          exact go (s2 := v :: s') hw (by simp only [List.length_cons]; omega) (by omega) KT_w (k54 _ _) hS2.push hv
        have hru : ru (gI σ 196) (a :: r) (b :: x :: s') = (if a.1 = 6 then ru (gI σ 196) r ((x + b) :: s') else if a.1 = 7 then ru (gI σ 196) r ((x - b) :: s') else if a.1 = 8 then ru (gI σ 196) r ((x * b) :: s') else if b = 0 then none else ru (gI σ 196) r ((x / b) :: s')) := ru_op (by omega)
        rcases (show a.1 = 6 ∨ a.1 = 7 ∨ a.1 = 8 ∨ a.1 = 9 by omega) with e | e | e | e
        · rw [e]
          refine Ok.f (by decide) ?_
          rw [f11_termOf_104]
          exact Ok.t rfl (res _ (by rw [hru, if_pos e]))
        · rw [e]
          refine Ok.f (by decide) ?_
          rw [f11_termOf_104]
          exact Ok.f (by decide) (Ok.t rfl (res _ (by rw [hru, if_neg (by omega), if_pos e])))
        · rw [e]
          refine Ok.f (by decide) ?_
          rw [f11_termOf_104]
          exact Ok.f (by decide) (Ok.f (by decide) (Ok.t rfl (res _ (by rw [hru, if_neg (by omega), if_neg (by omega), if_pos e]))))
        · rw [e]
          refine Ok.t rfl (Ok.i (fun cz => ?_) (fun cz => ?_))
          · rw [f11_termOf_97, z_l_eq, hru, if_neg (by omega), if_neg (by omega), if_neg (by omega), if_pos cz]
            exact Ok.ret ⟨fun c k h1 h2 => by
              by_cases e1 : c = 160
              · subst e1; exact gI_k (by omega)
              · exact gI_o e1, rfl, gI_e⟩
          · rw [f11_termOf_104]
            exact Ok.f (by decide) (Ok.f (by decide) (Ok.f (by decide) (Ok.c (by simpa using cz) (res _ (by rw [hru, if_neg (by omega), if_neg (by omega), if_neg (by omega), if_neg cz])))))
      · rw [if_neg cb] at hw
        cases hw
def eP (σ τ : Mm) (m : Option Int32) (v : Int32) : Prop := KT σ τ ∧ match m with
  | none => v = 0 ∧ gI τ 160 54 = 1
  | some x => v = x ∧ gI τ 160 54 = gI σ 160 54
theorem r_termE {N : Nat} (hN : 4000 ≤ N) {e : Cd} {p : Nat} {σ : Mm} (he : wfE e) (hC : CodeM σ p e.reverse) (hp : p + e.length ≤ 840) : Ok (f11_termOf N (nI p) (nI (p + e.length)) σ) (fun v τ => eP σ τ (ev (gI σ 196) e) v) := by
  unfold f11_termOf
  have hh := r_run (N := N) (s := []) (fu := N) he rfl (by decide) hC (by rw [List.length_reverse]; exact hp) (by rw [List.length_reverse]; omega) trivial
  rw [List.length_reverse] at hh
  refine hh.mono ?_
  rintro v τ ⟨k1, k2⟩
  refine ⟨k1, ?_⟩
  rcases ev_run (vars := gI σ 196) he with ⟨a, b⟩ | ⟨x, a, b⟩
  · rw [a] at k2
    rw [b]
    exact k2
  · rw [a] at k2
    rw [b]
    exact ⟨k2.2 x rfl, k2.1⟩
def rI : List (Cd × Cd × Cd) → Cd → List (Nat × Nat)
  | [], e => e.reverse
  | w :: r, e => w.1.reverse ++ (w.2.1.reverse ++ (w.2.2.reverse ++ rI r e))
theorem rL_rev : ∀ {l : Cd} {r : List (Cd × Cd × Cd)} {e : Cd}, (rL l r e).reverse = l.reverse ++ rI r e
  | l, [], e => by show (e ++ l).reverse = _; simp [rI]
  | l, w :: r, e => by
    show (rL _ r e).reverse = _
    rw [rL_rev]
    simp [rI]
theorem r_119 {N : Nat} (hN : 4000 ≤ N) {e : Cd} {p X : Nat} {σ : Mm} (hX : X < 260) (he : wfE e) (hC : CodeM σ p e.reverse) (hp : p + e.length ≤ 840) (h1 : gI σ 191 X = nI p) (h2 : gI σ 192 X = nI (p + e.length)) (h54 : gI σ 160 54 = 0) : Ok (f11_lawTells_119 N (nI X) σ) (fun v _ => v = (ev (gI σ 196) e).getD 0) := by
  rw [f11_lawTells_119, ixn (by omega), h1, h2]
  refine Ok.c (inBn hX (by decide)) (Ok.c (inBn hX (by decide)) (Ok.b (r_termE hN he hC hp) ?_))
  rintro v τ ⟨k1, k2⟩
  cases hv : ev (gI σ 196) e with
  | none =>
    rw [hv] at k2
    exact Ok.f (by rw [k2.2]; decide) (Ok.ret rfl)
  | some x =>
    rw [hv] at k2
    exact Ok.t (by rw [k2.2]; exact h54) (Ok.ret k2.1)
theorem r_lawRun {N : Nat} (hN : 4000 ≤ N) {s X : Nat} (hs : s < 2) (hX : X < 8) : ∀ {r : List (Cd × Cd × Cd)} {e : Cd} {b m fu : Nat} {σ : Mm}, (∀ x ∈ r, wfE x.1 ∧ wfE x.2.1 ∧ wfE x.2.2) → wfE e → BrAt σ s b m r e → CodeM σ (420 * s + m) (rI r e) → 420 * s + m + (rI r e).length ≤ 840 → b + r.length < 130 → gI σ 187 X = nI (130 * s + (b + r.length + 1)) → gI σ 160 54 = 0 → r.length < fu → Ok (f11_lawTells_39 N (nI X) fu (nI (130 * s + b)) σ) (fun v _ => v = lawE (gI σ 196) r e)
  | r, e, b, m, 0, σ, _, _, _, _, _, _, _, _, hf => absurd hf (Nat.not_lt_zero _)
  | [], e, b, m, fu + 1, σ, _, he, hB, hC, hp, hb, h187, h54, hf => by
    obtain ⟨h1, h2, h3⟩ := hB
    have hL : (rI [] e).length = e.length := by simp [rI]
    simp only [List.length_nil, Nat.add_zero] at h187 hb
    rw [f11_lawTells_39, ixn (i := X) (by omega), h187, ixn (i := 130 * s + b) (by omega), h1]
    refine Ok.c (inBn hX (by decide)) (Ok.f (nI_ngt (by omega) (by omega)) (Ok.c (inBn (by omega) (by decide)) (Ok.t rfl ?_)))
    exact r_119 hN (by omega) he hC (by omega) h2 (by rw [Nat.add_assoc]; exact h3) h54
  | w :: r, e, b, m, fu + 1, σ, hr, he, hB, hC, hp, hb, h187, h54, hf => by
    obtain ⟨w1, w2, w3⟩ := hr w List.mem_cons_self
    obtain ⟨⟨h1, h2, h3, h4, h5⟩, h6⟩ := hB
    have hL : (rI (w :: r) e).length = w.1.length + w.2.1.length + w.2.2.length + (rI r e).length := by
      simp only [rI, List.length_append, List.length_reverse]; omega
    obtain ⟨c1, c2⟩ := CodeM_app.mp hC
    obtain ⟨c2, c3⟩ := CodeM_app.mp c2
    obtain ⟨c3, c4⟩ := CodeM_app.mp c3
    simp only [List.length_reverse] at c2 c3 c4
    simp only [List.length_cons] at h187 hb hf
    have q3 : gI σ 190 (130 * s + b) = nI (420 * s + m + w.1.length) := by rw [h3]; congr 1; omega
    have q4 : gI σ 191 (130 * s + b) = nI (420 * s + m + w.1.length + w.2.1.length) := by rw [h4]; congr 1; omega
    have q5 : gI σ 192 (130 * s + b) = nI (420 * s + m + w.1.length + w.2.1.length + w.2.2.length) := by rw [h5]; congr 1; omega
    rw [f11_lawTells_39, ixn (i := X) (by omega), h187, ixn (i := 130 * s + b) (by omega), h1, h2, q3]
    refine Ok.c (inBn hX (by decide)) (Ok.f (nI_ngt (by omega) (by omega)) (Ok.c (inBn (by omega) (by decide)) (Ok.f (by decide) (Ok.c (inBn (by omega) (by decide)) (Ok.c (inBn (by omega) (by decide)) ?_)))))
    refine Ok.b (r_termE hN w1 c1 (by omega)) ?_
    rintro u τ ⟨k1, k2⟩
    have kk : ∀ c k, c ≠ 197 → c ≠ 160 → gI τ c k = gI σ c k := fun c k a d => k1 c k a (by omega)
    have hv : gI τ 196 = gI σ 196 := funext fun k => kk 196 k (by decide) (by decide)
    refine Ok.c (inBn (by omega) (by decide)) (Ok.c (inBn (by omega) (by decide)) ?_)
    rw [kk 190 _ (by decide) (by decide), kk 191 _ (by decide) (by decide), q3, q4]
    have c2' : CodeM τ (420 * s + m + w.1.length) w.2.1.reverse := c2.eq fun k => ⟨kk _ _ (by decide) (by decide), kk _ _ (by decide) (by decide)⟩
    refine Ok.b (r_termE hN w2 c2' (by omega)) ?_
    rintro v υ ⟨k3, k4⟩
    rw [hv] at k4
    have k13 := k1.tr k3
    have kk2 : ∀ c k, c ≠ 197 → c ≠ 160 → gI υ c k = gI σ c k := fun c k a d => k13 c k a (by omega)
    have hv2 : gI υ 196 = gI σ 196 := funext fun k => kk2 196 k (by decide) (by decide)
    unfold lawE
    cases hu : ev (gI σ 196) w.1 with
    | none =>
      rw [hu] at k2
      have : gI υ 160 54 = 1 := by
        cases hvv : ev (gI σ 196) w.2.1 with
        | none => rw [hvv] at k4; exact k4.2
        | some x => rw [hvv] at k4; rw [k4.2]; exact k2.2
      exact Ok.f (by rw [this]; decide) (Ok.ret rfl)
    | some u' =>
      rw [hu] at k2
      obtain ⟨rfl, k2⟩ := k2
      dsimp only
      cases hvv : ev (gI σ 196) w.2.1 with
      | none =>
        rw [hvv] at k4
        exact Ok.f (by rw [k4.2]; decide) (Ok.ret rfl)
      | some v' =>
        rw [hvv] at k4
        obtain ⟨rfl, k4⟩ := k4
        have k54 : gI υ 160 54 = 0 := by rw [k4, k2]; exact h54
        dsimp only
        refine Ok.t k54 (Ok.i (fun hlt => ?_) (fun hlt => ?_))
        · rw [if_pos hlt, ← hv2]
          refine r_119 hN (by omega) w3 (c3.eq fun k => ⟨kk2 _ _ (by decide) (by decide), kk2 _ _ (by decide) (by decide)⟩) (by omega) (by rw [kk2 _ _ (by decide) (by decide)]; exact q4) (by rw [kk2 _ _ (by decide) (by decide)]; exact q5) k54
        · rw [if_neg hlt, z_l_eq, nI_1]
          have hB2 : BrAt υ s (b + 1) (m + w.1.length + w.2.1.length + w.2.2.length) r e := h6.eq fun c j a1 a2 _ _ => kk2 _ _ (by omega) (by omega)
          have hC2 : CodeM υ (420 * s + (m + w.1.length + w.2.1.length + w.2.2.length)) (rI r e) := by
            rw [show 420 * s + (m + w.1.length + w.2.1.length + w.2.2.length) = 420 * s + m + w.1.length + w.2.1.length + w.2.2.length by omega]
            exact c4.eq fun k => ⟨kk2 _ _ (by decide) (by decide), kk2 _ _ (by decide) (by decide)⟩
          have ih := r_lawRun hN hs hX (r := r) (e := e) (b := b + 1) (fu := fu) (fun x hx => hr x (List.mem_cons_of_mem _ hx)) he hB2 hC2 (by omega) (by omega) (by rw [kk2 _ _ (by decide) (by decide), h187]; congr 2; omega) k54 (by omega)
          rw [hv2] at ih
          exact ih
