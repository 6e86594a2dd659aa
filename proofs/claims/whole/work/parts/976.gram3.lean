-- THE GRAMMAR: openings, units, closings
def top1 (r : List Nat) : Prop := ∀ s, r.head? = some s → s = 11
def top2 (r : List Nat) : Prop := ∀ s, r.head? = some s → s = 11 ∨ rnk s = 1
def sw : List Nat → Prop
  | [] => True
  | s :: r => sw r ∧ (s = 11 ∨ (rnk s = 1 ∧ top1 r) ∨ (rnk s = 2 ∧ top2 r))
theorem rnk_lt {s : Nat} (h : 1 ≤ rnk s) : s < 10 ∧ s ≠ 11 := by
  unfold rnk at h
  split at h
  · omega
  · split at h <;> omega
theorem sw_len : ∀ {stk : List Nat}, sw stk → stk.length ≤ 3 * dpt stk + 2 ∧ (top1 stk → stk.length ≤ 3 * dpt stk) ∧ (top2 stk → stk.length ≤ 3 * dpt stk + 1) ∧ sgs stk
  | [], _ => ⟨by simp, by simp, by simp, fun s hs => by cases hs⟩
  | s :: r, h => by
    obtain ⟨a1, a2, a3, a4⟩ := sw_len h.1
    have hs : s < 2 ^ 31 := by
      rcases h.2 with e | ⟨e, -⟩ | ⟨e, -⟩
      · omega
      · have := rnk_lt (s := s) (by omega); omega
      · have := rnk_lt (s := s) (by omega); omega
    have hsg : sgs (s :: r) := fun y hy => by
      rcases List.mem_cons.mp hy with rfl | hy
      · exact hs
      · exact a4 y hy
    rcases h.2 with e | ⟨e, ht⟩ | ⟨e, ht⟩
    · subst e
      have hd : dpt (11 :: r) = dpt r + 1 := by unfold dpt; rw [List.count_cons_self]
      rw [hd]
      refine ⟨by simp only [List.length_cons]; omega, fun _ => by simp only [List.length_cons]; omega, fun _ => by simp only [List.length_cons]; omega, hsg⟩
    · have hne := (rnk_lt (s := s) (by omega)).2
      have hd : dpt (s :: r) = dpt r := by unfold dpt; rw [List.count_cons_of_ne hne]
      have := a2 ht
      rw [hd]
      refine ⟨by simp only [List.length_cons]; omega, fun h => ?_, fun _ => by simp only [List.length_cons]; omega, hsg⟩
      exact absurd (h s rfl) hne
    · have hne := (rnk_lt (s := s) (by omega)).2
      have hd : dpt (s :: r) = dpt r := by unfold dpt; rw [List.count_cons_of_ne hne]
      have := a3 ht
      rw [hd]
      refine ⟨by simp only [List.length_cons]; omega, fun h => absurd (h s rfl) hne, fun h => ?_, hsg⟩
      rcases h s rfl with e2 | e2
      · exact absurd e2 hne
      · omega
theorem stl_sw {least : Nat} : ∀ {stk : List Nat} {o : Cd}, sw stk → sw (stl least stk o).1 ∧ (least = 1 → top1 (stl least stk o).1) ∧ (least = 2 → top2 (stl least stk o).1)
  | [], o, _ => ⟨trivial, (fun _ s hs => by cases hs), (fun _ s hs => by cases hs)⟩
  | s :: r, o, h => by
    unfold stl
    by_cases c : least ≤ rnk s
    · rw [if_pos c]
      exact stl_sw h.1
    · rw [if_neg c]
      refine ⟨h, fun e y hy => ?_, fun e y hy => ?_⟩
      · cases hy
        rcases h.2 with e2 | ⟨e2, -⟩ | ⟨e2, -⟩
        · exact e2
        · omega
        · omega
      · cases hy
        rcases h.2 with e2 | ⟨e2, -⟩ | ⟨e2, -⟩
        · exact Or.inl e2
        · exact Or.inr e2
        · omega
theorem c_opens {N : Nat} (hN : 4000 ≤ N) {B : Nat → Nat} {n q : Nat} {l : Cd} {D : Wr} (hD : keptG D q) : ∀ {f t x fu : Nat} {stk : List Nat} {σ : Mm}, f + dpt stk = 7 → 1 ≤ f → x + f ≤ 7 → f < fu → GS σ B n q t l stk (dpt stk) → sw stk → Ok (f2_takeOpenings_2 N fu (nI x) σ) (fun r τ => EqOn D σ τ ∧ match opn (kK B n) f t stk with
    | .inl e => r = 0 ∧ FC τ B n e
    | .inr (t', stk') => r = 1 ∧ GS τ B n q t' l stk' (dpt stk') ∧ sw stk' ∧ t + stk'.length = t' + stk.length ∧ dpt stk' + stk.length = dpt stk + stk'.length ∧ dpt stk' ≤ 6)
  | 0, t, x, fu, stk, σ, _, hf1, _, _, _, _ => absurd hf1 (by decide)
  | f + 1, t, x, fu, stk, σ, hf, _, hx, hfu, h, hsw => by
    obtain ⟨fu, rfl⟩ : ∃ g, fu = g + 1 := ⟨fu - 1, by omega⟩
    obtain ⟨g1, g2, g3, g4, g5, g6, g7, g8, g9, g10, g11, g12⟩ := id h
    have hkl := tkK_lt (B := B) (n := n) (b := bg B n t)
    have hkk : kK B n t = tkK B n (bg B n t) := rfl
    rw [f2_takeOpenings_2, g7, c_kA (by omega), z_b_some, h.k.1]
    refine Ok.f (nI_nlt (a := 400) (by omega) (by decide)) (Ok.i (fun c => ?_) (fun c => ?_))
    · have c : nI (kK B n t) = nI 11 := c
      rw [nI_eq (by omega) (by decide)] at c
      rw [g12.1]
      refine Ok.i (fun c6 => ?_) (fun c6 => ?_)
      · have c6 : nI (dpt stk) = nI 6 := c6
        rw [nI_eq (by omega) (by decide)] at c6
        rw [f2_takeOpenings_34, g7, show (2 : Int32) = nI 2 from rfl, c_refuse h, z_b_some, zc_t isZ_0, show opn (kK B n) (f + 1) t stk = .inl (2, t) by rw [opn, if_pos c, if_pos c6]]
        exact Ok.ret ⟨EqOn_sI (EqOn_sI EqOn.rf (off1 hD (by simp))) (off1 hD (by simp)), rfl, FC_ref⟩
      · have c6 : ¬ nI (dpt stk) = nI 6 := c6
        rw [nI_eq (by omega) (by decide)] at c6
        refine Ok.b (c_take h (k := 11) (by decide) (by decide) hD) ?_
        rintro r τ ⟨hE, hm⟩
        cases htk : tk1 (kK B n) 11 t with
        | inl e =>
          rw [htk] at hm
          rw [show opn (kK B n) (f + 1) t stk = .inl e by rw [opn, if_pos c, if_neg c6, htk]]
          exact Ok.t hm.1 (Ok.ret ⟨hE, rfl, hm.2⟩)
        | inr t' =>
          rw [htk] at hm
          have et : t' = t + 1 := by
            unfold tk1 at htk
            rw [if_pos c] at htk
            split at htk
            · cases htk; rfl
            · cases htk
          rw [show opn (kK B n) (f + 1) t stk = opn (kK B n) f t' (11 :: stk) by rw [opn, if_pos c, if_neg c6, htk]]
          refine Ok.f (by rw [hm.1]; decide) ?_
          have hl3 := sw_len hsw
          obtain ⟨τ2, e1, e2, e3⟩ := c_await (N := N) hm.2 (by omega) 11 hD
          rw [show (11 : Int32) = nI 11 from rfl, e1, z_b_some]
          have hdp : gI τ2 47 9 = nI (dpt stk) := e2.2.2.2.2.2.2.2.2.2.2.2.1
          have hd1 : dpt (11 :: stk) = dpt stk + 1 := by unfold dpt; rw [List.count_cons_self]
          rw [hdp, nI_1, z_l_eq, z_l_eq, nI_1]
          obtain ⟨p1, p2⟩ := e2.dep hD (dpt stk + 1)
          rw [← hd1] at p1 p2 ⊢
          refine (c_opens hN hD (f := f) (x := x + 1) (fu := fu) (stk := 11 :: stk) (by omega) (by omega) (by omega) (by omega) p1 ⟨hsw, Or.inl rfl⟩).mono ?_
          rintro r2 ρ ⟨hE2, hm2⟩
          refine ⟨((hE.tr e3).tr p2).tr hE2, ?_⟩
          cases ho : opn (kK B n) f t' (11 :: stk) with
          | inl e => rw [ho] at hm2; exact hm2
          | inr w =>
            rw [ho] at hm2
            obtain ⟨h1, h2, h3, h4, h5, h6⟩ := hm2
            simp only [List.length_cons] at h4 h5
            exact ⟨h1, h2, h3, by omega, by omega, h6⟩
    · have c : ¬ nI (kK B n t) = nI 11 := c
      rw [nI_eq (by omega) (by decide)] at c
      rw [show opn (kK B n) (f + 1) t stk = .inr (t, stk) by rw [opn, if_neg c]]
      exact Ok.ret ⟨EqOn.rf, rfl, h, hsw, rfl, rfl, by omega⟩
theorem c_unit {N : Nat} {σ : Mm} {B : Nat → Nat} {n q t : Nat} {l : Cd} {stk : List Nat} {dp : Nat} (h : GS σ B n q t l stk dp) (hl : l.length < 416) {D : Wr} (hD : keptG D q) : Ok (f2_takeUnit N σ) (fun r τ => EqOn D σ τ ∧ match unt (kK B n) (vV B n) t l with
    | .inl e => r = 0 ∧ FC τ B n e
    | .inr (t', l') => r = 1 ∧ GS τ B n q t' l' stk dp ∧ t' = t + 1 ∧ l'.length = l.length + 1) := by
  obtain ⟨g1, g2, g3, g4, g5, g6, g7, g8, g9, g10, g11, g12⟩ := id h
  have hkl := tkK_lt (B := B) (n := n) (b := bg B n t)
  have hkk : kK B n t = tkK B n (bg B n t) := rfl
  have tkt : ∀ {k t'}, kK B n t = k → tk1 (kK B n) k t = .inr t' → t' = t + 1 := fun hk htk => by
    unfold tk1 at htk
    rw [if_pos hk] at htk
    split at htk
    · cases htk; rfl
    · cases htk
  unfold f2_takeUnit
  rw [g7, c_kA (by omega), z_b_some, h.k.1, g7]
  refine Ok.i (fun c => ?_) (fun c => ?_)
  · have c : nI (kK B n t) = nI 3 := c
    rw [nI_eq (by omega) (by decide)] at c
    have hv := (g3 t g5 g4).2.2.2 c
    refine Ok.r g6 (kd_q g1) ?_
    rw [c_vA (by omega), z_b_some, hv, lN_i, show (0 : Int32) = nI 0 from rfl]
    obtain ⟨τ, e1, e2, e3⟩ := c_put (N := N) h hl 0 (nv B (bg B n t) (rn isD B n (bg B n t) - bg B n t)) hD
    rw [e1, z_b_some, c]
    refine Ok.b (c_take e2 (k := 3) (by decide) (by decide) hD) ?_
    rintro r ρ ⟨hE, hm⟩
    cases htk : tk1 (kK B n) 3 t with
    | inl e =>
      rw [htk] at hm
      rw [show unt (kK B n) (vV B n) t l = .inl e by rw [unt, if_pos c, htk], hm.1, zc_t isZ_0]
      exact Ok.ret ⟨e3.tr hE, rfl, hm.2⟩
    | inr t' =>
      rw [htk] at hm
      rw [show unt (kK B n) (vV B n) t l = .inr (t', (0, vV B n t) :: l) by rw [unt, if_pos c, htk], hm.1, zc_t isZ_1]
      exact Ok.ret ⟨e3.tr hE, rfl, hm.2, tkt c htk, rfl⟩
  · have c : ¬ nI (kK B n t) = nI 3 := c
    rw [nI_eq (by omega) (by decide)] at c
    have bad : ¬ (26 ≤ kK B n t ∧ kK B n t ≤ 34) → Ok (f2_takeUnit_75 N σ) (fun r τ => EqOn D σ τ ∧ match unt (kK B n) (vV B n) t l with
        | .inl e => r = 0 ∧ FC τ B n e
        | .inr (t', l') => r = 1 ∧ GS τ B n q t' l' stk dp ∧ t' = t + 1 ∧ l'.length = l.length + 1) := by
      intro hb
      rw [f2_takeUnit_75, g7, show (1 : Int32) = nI 1 from rfl, c_refuse h, z_b_some, zc_t isZ_0, show unt (kK B n) (vV B n) t l = .inl (1, t) by rw [unt, if_neg c, if_neg hb]]
      exact Ok.ret ⟨EqOn_sI (EqOn_sI EqOn.rf (off1 hD (by simp))) (off1 hD (by simp)), rfl, FC_ref⟩
    refine Ok.i (fun c26 => ?_) (fun c26 => Ok.i (fun c34 => ?_) (fun c34 => ?_))
    · have c26 : nI (kK B n t) < nI 26 := c26
      rw [nI_ltI (by omega) (by decide)] at c26
      exact bad (by omega)
    · have c34 : nI 34 < nI (kK B n t) := c34
      rw [nI_ltI (by decide) (by omega)] at c34
      exact bad (by omega)
    · have c26 : ¬ nI (kK B n t) < nI 26 := c26
      rw [nI_ltI (by omega) (by decide)] at c26
      have c34 : ¬ nI 34 < nI (kK B n t) := c34
      rw [nI_ltI (by decide) (by omega)] at c34
      refine Ok.r g6 (kd_q g1) ?_
      rw [show nI (kK B n t) - (26 : Int32) = nI (kK B n t - 26) from pk_sub (b := 26) (by omega), show (1 : Int32) = nI 1 from rfl]
      obtain ⟨τ, e1, e2, e3⟩ := c_put (N := N) h hl 1 (kK B n t - 26) hD
      rw [e1, z_b_some]
      refine Ok.b (c_take e2 (k := kK B n t) (by omega) (by omega) hD) ?_
      rintro r ρ ⟨hE, hm⟩
      cases htk : tk1 (kK B n) (kK B n t) t with
      | inl e =>
        rw [htk] at hm
        rw [show unt (kK B n) (vV B n) t l = .inl e by rw [unt, if_neg c, if_pos ⟨by omega, by omega⟩, htk], hm.1, zc_t isZ_0]
        exact Ok.ret ⟨e3.tr hE, rfl, hm.2⟩
      | inr t' =>
        rw [htk] at hm
        rw [show unt (kK B n) (vV B n) t l = .inr (t', (1, kK B n t - 26) :: l) by rw [unt, if_neg c, if_pos ⟨by omega, by omega⟩, htk], hm.1, zc_t isZ_1]
        exact Ok.ret ⟨e3.tr hE, rfl, hm.2, tkt rfl htk, rfl⟩
theorem c_closes {N : Nat} (hN : 4000 ≤ N) {B : Nat → Nat} {n q C : Nat} (hC : C ≤ 12) {D : Wr} (hD : keptG D q) : ∀ {f t x fu : Nat} {stk : List Nat} {l : Cd} {σ : Mm}, dpt stk < f → x + f ≤ 7 → f < fu → GS σ B n q t l stk (dpt stk) → sw stk → dpt stk ≤ 6 → l.length + stk.length ≤ t + C + dpt stk → Ok (f2_takeClosings_2 N fu (nI x) σ) (fun r τ => EqOn D σ τ ∧ match cls (kK B n) f t stk l with
    | .inl e => r = 0 ∧ FC τ B n e
    | .inr (t', stk', l') => r = 1 ∧ GS τ B n q t' l' stk' (dpt stk') ∧ sw stk' ∧ t ≤ t' ∧ dpt stk' ≤ 6 ∧ l'.length + stk'.length ≤ t' + C + dpt stk' ∧ (0 < dpt stk' → kK B n t' ≠ 12))
  | 0, t, x, fu, stk, l, σ, hf, _, _, _, _, _, _ => absurd hf (Nat.not_lt_zero _)
  | f + 1, t, x, fu, stk, l, σ, hf, hx, hfu, h, hsw, hd6, hw => by
    obtain ⟨fu, rfl⟩ : ∃ g, fu = g + 1 := ⟨fu - 1, by omega⟩
    obtain ⟨g1, g2, g3, g4, g5, g6, g7, g8, g9, g10, g11, g12⟩ := id h
    have hkl := tkK_lt (B := B) (n := n) (b := bg B n t)
    have hkk : kK B n t = tkK B n (bg B n t) := rfl
    rw [f2_takeClosings_2, g12.1, g7, c_kA (by omega), z_b_some, h.k.1]
    refine Ok.f (nI_nlt (a := 400) (by omega) (by decide)) (Ok.i (fun c0 => ?_) (fun c0 => Ok.i (fun c => ?_) (fun c => ?_)))
    · have c0 : nI (dpt stk) ≤ nI 0 := c0
      rw [nI_leI (by omega) (by decide)] at c0
      rw [show cls (kK B n) (f + 1) t stk l = .inr (t, stk, l) by rw [cls, if_neg (by omega)]]
      exact Ok.ret ⟨EqOn.rf, rfl, h, hsw, Nat.le_refl _, hd6, hw, fun hp => by omega⟩
    · have c0 : ¬ nI (dpt stk) ≤ nI 0 := c0
      rw [nI_leI (by omega) (by decide)] at c0
      have c : nI (kK B n t) = nI 12 := c
      rw [nI_eq (by omega) (by decide)] at c
      refine Ok.b (c_take h (k := 12) (by decide) (by decide) hD) ?_
      rintro r τ ⟨hE, hm⟩
      cases htk : tk1 (kK B n) 12 t with
      | inl e =>
        rw [htk] at hm
        rw [show cls (kK B n) (f + 1) t stk l = .inl e by rw [cls, if_pos ⟨by omega, c⟩, htk]]
        exact Ok.t hm.1 (Ok.ret ⟨hE, rfl, hm.2⟩)
      | inr t' =>
        rw [htk] at hm
        have et : t' = t + 1 := by
          unfold tk1 at htk
          rw [if_pos c] at htk
          split at htk
          · cases htk; rfl
          · cases htk
        rw [show cls (kK B n) (f + 1) t stk l = cls (kK B n) f t' (stl 1 stk l).1.tail (stl 1 stk l).2 by rw [cls, if_pos ⟨by omega, c⟩, htk]]
        refine Ok.f (by rw [hm.1]; decide) ?_
        have hl3 := sw_len hsw
        have ht4 := hm.2.2.2.2.2.1
        refine Ok.b (c_settle hN (least := 1) (by decide) hD hm.2 hl3.2.2.2 (by omega) (by omega) (Nat.le_refl _)) ?_
        rintro u ρ ⟨k1, k2⟩
        obtain ⟨n1, n2, n3⟩ := stl_ns (least := 1) (Nat.le_refl _) (stk := stk) (o := l)
        obtain ⟨w1, w2, -⟩ := stl_sw (least := 1) (stk := stk) (o := l) hsw
        have w2 := w2 rfl
        cases hst : (stl 1 stk l).1 with
        | nil =>
          rw [hst] at n1
          have : dpt ([] : List Nat) = 0 := rfl
          omega
        | cons s r =>
          rw [hst] at k1 n1 n2 n3 w1 w2
          have hs11 : s = 11 := w2 s rfl
          subst hs11
          have hdr : dpt (11 :: r) = dpt r + 1 := by unfold dpt; rw [List.count_cons_self]
          have h8 : gI ρ 47 8 = nI (r.length + 1) := k1.2.2.2.2.2.2.2.2.2.1
          have h9 : gI ρ 47 9 = nI (dpt stk) := k1.2.2.2.2.2.2.2.2.2.2.2.1
          obtain ⟨p1, p2⟩ := k1.pop hD
          obtain ⟨p3, p4⟩ := p1.dep hD (dpt r)
          have emx : mxI (nI (r.length + 1) - 1) 0 = nI r.length := by
            rw [nI_pred]
            show (if nI r.length < 0 then 0 else nI r.length) = _
            rw [if_neg (nI_pos (by simp only [List.length_cons] at n3; omega))]
          rw [h8, emx, z_l_eq, gI_k (by decide), h9, show nI (dpt stk) - 1 = nI (dpt stk - 1) from pk_sub (b := 1) (by omega), show dpt stk - 1 = dpt r by omega, z_l_eq, z_l_eq, nI_1]
          simp only [List.length_cons] at n2 n3
          refine (c_closes hN hC hD (f := f) (x := x + 1) (fu := fu) (stk := r) (l := (stl 1 stk l).2) (by omega) (by omega) (by omega) p3 w1.1 (by omega) (by omega)).mono ?_
          rintro r2 ρ2 ⟨hE2, hm2⟩
          refine ⟨(((hE.tr k2).tr p2).tr p4).tr hE2, ?_⟩
          show match cls (kK B n) f t' r (stl 1 stk l).2 with
            | .inl e => r2 = 0 ∧ FC ρ2 B n e
            | .inr (t', stk', l') => r2 = 1 ∧ GS ρ2 B n q t' l' stk' (dpt stk') ∧ sw stk' ∧ t ≤ t' ∧ dpt stk' ≤ 6 ∧ l'.length + stk'.length ≤ t' + C + dpt stk' ∧ (0 < dpt stk' → kK B n t' ≠ 12)
          cases ho : cls (kK B n) f t' r (stl 1 stk l).2 with
          | inl e => rw [ho] at hm2; exact hm2
          | inr w =>
            rw [ho] at hm2
            obtain ⟨h1, h2, h3, h4, h5, h6, h7⟩ := hm2
            exact ⟨h1, h2, h3, by omega, h5, h6, h7⟩
    · have c0 : ¬ nI (dpt stk) ≤ nI 0 := c0
      have c : ¬ nI (kK B n t) = nI 12 := c
      rw [nI_eq (by omega) (by decide)] at c
      rw [show cls (kK B n) (f + 1) t stk l = .inr (t, stk, l) by rw [cls, if_neg (fun e => c e.2)]]
      exact Ok.ret ⟨EqOn.rf, rfl, h, hsw, Nat.le_refl _, hd6, hw, fun _ => c⟩
