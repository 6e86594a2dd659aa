-- THE GRAMMAR: an E
theorem dpt_11 {r : List Nat} : dpt (11 :: r) = dpt r + 1 := by unfold dpt; rw [List.count_cons_self]
theorem opn_fuel {K : Nat → Nat} : ∀ {f g t : Nat} {stk : List Nat}, 7 ≤ f + dpt stk → 7 ≤ g + dpt stk → dpt stk ≤ 6 → opn K f t stk = opn K g t stk
  | 0, g, t, stk, h1, _, h3 => absurd h1 (by omega)
  | f + 1, 0, t, stk, _, h2, h3 => absurd h2 (by omega)
  | f + 1, g + 1, t, stk, h1, h2, h3 => by
    have hd := dpt_11 (r := stk)
    simp only [opn]
    by_cases c : K t = 11
    · rw [if_pos c, if_pos c]
      by_cases c6 : dpt stk = 6
      · rw [if_pos c6, if_pos c6]
      · rw [if_neg c6, if_neg c6]
        cases tk1 K 11 t with
        | inl e => rfl
        | inr t' => exact opn_fuel (stk := 11 :: stk) (by omega) (by omega) (by omega)
    · rw [if_neg c, if_neg c]
theorem top_nil {r : List Nat} (h : top1 r) (hd : dpt r = 0) : r = [] := by
  cases r with
  | nil => rfl
  | cons s r =>
    have e := h s rfl
    subst e
    unfold dpt at hd
    rw [List.count_cons_self] at hd
    omega
theorem tk1_ok {K : Nat → Nat} {k t t' : Nat} (h : tk1 K k t = .inr t') : t' = t + 1 ∧ K t = k ∧ t < 400 := by
  unfold tk1 at h
  split at h
  · split at h
    · cases h; exact ⟨rfl, by assumption, by assumption⟩
    · cases h
  · cases h
theorem opn_le {K : Nat → Nat} : ∀ {f t t1 : Nat} {stk stk1 : List Nat}, opn K f t stk = .inr (t1, stk1) → t ≤ t1
  | 0, t, t1, stk, stk1, h => by cases h; exact Nat.le_refl _
  | f + 1, t, t1, stk, stk1, h => by
    simp only [opn] at h
    split at h
    · split at h
      · cases h
      · cases htk : tk1 K 11 t with
        | inl e => rw [htk] at h; cases h
        | inr t' =>
          rw [htk] at h
          have h2 := opn_le h
          have := (tk1_ok htk).1
          omega
    · cases h; exact Nat.le_refl _
theorem c_sumF {N : Nat} (hN : 4000 ≤ N) {B : Nat → Nat} {n q C : Nat} (hC : C ≤ 12) {D : Wr} (hD : keptG D q) : ∀ {f t x fu : Nat} {stk : List Nat} {l : Cd} {σ : Mm}, 401 ≤ t + f → x + f = 401 → f < fu → GS σ B n q t l stk (dpt stk) → sw stk → dpt stk ≤ 6 → l.length + stk.length ≤ t + C + dpt stk → Ok (f2_keepsSum_12 N fu (nI x) σ) (fun r τ => EqOn D σ τ ∧ match sumF (kK B n) (vV B n) f t stk l with
    | .inl e => r = 0 ∧ FC τ B n e
    | .inr (t', l') => r = 1 ∧ GS τ B n q t' l' [] 0 ∧ t < t' ∧ l'.length ≤ t' + C)
  | 0, t, x, fu, stk, l, σ, hf, _, _, h, _, _, _ => absurd h.2.2.2.2.1 (by omega)
  | f + 1, t, x, fu, stk, l, σ, hf, hx, hfu, h, hsw, hd6, hw => by
    obtain ⟨fu, rfl⟩ : ∃ g, fu = g + 1 := ⟨fu - 1, by omega⟩
    have ht := h.2.2.2.2.1
    have hls := List.count_le_length (a := 11) (l := stk)
    have hls : dpt stk ≤ stk.length := hls
    rw [f2_keepsSum_12]
    refine Ok.f (nI_nlt (a := 400) (by omega) (by decide)) ?_
    -- openings
    have hop := c_opens hN hD (f := 7 - dpt stk) (x := 0) (fu := N) (by omega) (by omega) (by omega) (by omega) h hsw
    have e7 : opn (kK B n) 7 t stk = opn (kK B n) (7 - dpt stk) t stk := opn_fuel (by omega) (by omega) hd6
    unfold sumF
    rw [e7]
    refine Ok.b (show Ok (f2_takeOpenings N σ) _ from hop) ?_
    rintro r1 τ1 ⟨hE1, hm1⟩
    cases ho : opn (kK B n) (7 - dpt stk) t stk with
    | inl e =>
      rw [ho] at hm1
      exact Ok.t hm1.1 (Ok.ret ⟨hE1, rfl, hm1.2⟩)
    | inr w1 =>
      obtain ⟨t1, stk1⟩ := w1
      have hle := opn_le ho
      rw [ho] at hm1
      dsimp only
      obtain ⟨o1, o2, o3, o4, o5, o6⟩ := hm1
      refine Ok.f (by rw [o1]; decide) ?_
      have ht1 := o2.2.2.2.2.1
      -- a unit
      refine Ok.b (c_unit o2 (by omega) hD) ?_
      rintro r2 τ2 ⟨hE2, hm2⟩
      cases hu : unt (kK B n) (vV B n) t1 l with
      | inl e =>
        rw [hu] at hm2
        exact Ok.t hm2.1 (Ok.ret ⟨hE1.tr hE2, rfl, hm2.2⟩)
      | inr w2 =>
        obtain ⟨t2, l2⟩ := w2
        rw [hu] at hm2
        dsimp only
        obtain ⟨u1, u2, u3, u4⟩ := hm2
        refine Ok.f (by rw [u1]; decide) ?_
        have ht2 := u2.2.2.2.2.1
        -- closings
        refine Ok.b (show Ok (f2_takeClosings N τ2) _ from c_closes hN hC hD (f := 7) (x := 0) (fu := N) (by omega) (by omega) (by omega) u2 o3 o6 (by omega)) ?_
        rintro r3 τ3 ⟨hE3, hm3⟩
        have hE123 := (hE1.tr hE2).tr hE3
        cases hcl : cls (kK B n) 7 t2 stk1 l2 with
        | inl e =>
          rw [hcl] at hm3
          exact Ok.t hm3.1 (Ok.ret ⟨hE123, rfl, hm3.2⟩)
        | inr w3 =>
          obtain ⟨t3, stk3, l3⟩ := w3
          rw [hcl] at hm3
          dsimp only
          obtain ⟨v1, v2, v3, v4, v5, v6, v7⟩ := hm3
          refine Ok.f (by rw [v1]; decide) ?_
          have ht3 := v2.2.2.2.2.1
          have hl3 := sw_len v3
          have hkl := tkK_lt (B := B) (n := n) (b := bg B n t3)
          have hkk : kK B n t3 = tkK B n (bg B n t3) := rfl
          have h47 : gI τ3 47 2 = nI t3 := v2.2.2.2.2.2.2.1
          rw [h47, c_kA (by omega), z_b_some, v2.k.1]
          rw [c_rank (by omega), z_b_some]
          have hrk : rnk (kK B n t3) ≤ 2 := by
            unfold rnk
            split
            · omega
            · split <;> omega
          by_cases c0 : rnk (kK B n t3) = 0
          · rw [if_pos c0, c0]
            refine Ok.t rfl ?_
            rw [f2_keepsSum_61]
            refine Ok.b (c_settle hN (least := 1) (by decide) hD v2 hl3.2.2.2 (by omega) (by omega) (Nat.le_refl _)) ?_
            rintro u ρ ⟨k1, k2⟩
            obtain ⟨n1, n2, n3⟩ := stl_ns (least := 1) (Nat.le_refl _) (stk := stk3) (o := l3)
            obtain ⟨w1, w2, -⟩ := stl_sw (least := 1) (stk := stk3) (o := l3) v3
            have h9 : gI ρ 47 9 = nI (dpt stk3) := k1.2.2.2.2.2.2.2.2.2.2.2.1
            rw [h9]
            by_cases cd : dpt stk3 = 0
            · rw [if_pos (show dpt (stl 1 stk3 l3).1 = 0 by omega)]
              have hnil := top_nil (w2 rfl) (by omega)
              rw [hnil, cd] at k1
              rw [hnil] at n2
              simp only [List.length_nil] at n2
              refine Ok.t (show nI (dpt stk3) = 0 by rw [cd]; rfl) ?_
              refine Ok.ret ⟨hE123.tr k2, rfl, k1, by omega, ?_⟩
              have := k1.2.2.2.2.1
              omega
            · rw [if_neg (show ¬ dpt (stl 1 stk3 l3).1 = 0 by omega)]
              refine Ok.f (fun e => cd ((nI_eq (b := 0) (by omega) (by decide)).mp e)) (Ok.b (c_take k1 (k := 12) (by decide) (by decide) hD) ?_)
              rintro r4 ρ4 ⟨hE4, hm4⟩
              rw [show tk1 (kK B n) 12 t3 = .inl (1, t3) by unfold tk1; rw [if_neg (v7 (by omega))]] at hm4
              exact Ok.t hm4.1 (Ok.ret ⟨(hE123.tr k2).tr hE4, rfl, hm4.2⟩)
          · rw [if_neg c0]
            refine Ok.f (fun e => c0 ((nI_eq (b := 0) (by omega) (by decide)).mp e)) ?_
            rw [c_rank (by omega), z_b_some]
            refine Ok.b (c_settle hN (least := rnk (kK B n t3)) (by omega) hD v2 hl3.2.2.2 (by omega) (by omega) (by omega)) ?_
            rintro u ρ ⟨k1, k2⟩
            obtain ⟨n1, n2, n3⟩ := stl_ns (least := rnk (kK B n t3)) (by omega) (stk := stk3) (o := l3)
            obtain ⟨w1, w2, w3⟩ := stl_sw (least := rnk (kK B n t3)) (stk := stk3) (o := l3) v3
            have hk10 := rnk_lt (s := kK B n t3) (by omega)
            refine Ok.b (c_take k1 (k := kK B n t3) (by omega) (by unfold rnk at c0; split at c0 <;> (try split at c0) <;> omega) hD) ?_
            rintro r4 ρ4 ⟨hE4, hm4⟩
            cases htk : tk1 (kK B n) (kK B n t3) t3 with
            | inl e =>
              rw [htk] at hm4
              exact Ok.t hm4.1 (Ok.ret ⟨(hE123.tr k2).tr hE4, rfl, hm4.2⟩)
            | inr t4 =>
              rw [htk] at hm4
              obtain ⟨et, -, t400⟩ := tk1_ok htk
              refine Ok.f (by rw [hm4.1]; decide) ?_
              have hl4 := sw_len w1
              obtain ⟨ρ5, e1, e2, e3⟩ := c_await (N := N) hm4.2 (by omega) (kK B n t3) hD
              rw [e1, z_b_some, z_l_eq, nI_1]
              have hdn : dpt (kK B n t3 :: (stl (rnk (kK B n t3)) stk3 l3).1) = dpt stk3 := by
                rw [← n1]
                unfold dpt
                rw [List.count_cons_of_ne hk10.2]
              have hswn : sw (kK B n t3 :: (stl (rnk (kK B n t3)) stk3 l3).1) := by
                refine ⟨w1, Or.inr ?_⟩
                rcases (show rnk (kK B n t3) = 1 ∨ rnk (kK B n t3) = 2 by omega) with e | e
                · exact Or.inl ⟨e, w2 e⟩
                · exact Or.inr ⟨e, w3 e⟩
              rw [← hdn] at e2
              refine (c_sumF hN hC hD (f := f) (x := x + 1) (fu := fu) (t := t4) (by omega) (by omega) (by omega) e2 hswn (by omega) (by simp only [List.length_cons]; omega)).mono ?_
              rintro r6 ρ6 ⟨hE6, hm6⟩
              refine ⟨(((hE123.tr k2).tr hE4).tr e3).tr hE6, ?_⟩
              show match sumF (kK B n) (vV B n) f t4 (kK B n t3 :: (stl (rnk (kK B n t3)) stk3 l3).1) (stl (rnk (kK B n t3)) stk3 l3).2 with
                | .inl e => r6 = 0 ∧ FC ρ6 B n e
                | .inr (t', l') => r6 = 1 ∧ GS ρ6 B n q t' l' [] 0 ∧ t < t' ∧ l'.length ≤ t' + C
              cases hs : sumF (kK B n) (vV B n) f t4 (kK B n t3 :: (stl (rnk (kK B n t3)) stk3 l3).1) (stl (rnk (kK B n t3)) stk3 l3).2 with
              | inl e => rw [hs] at hm6; exact hm6
              | inr w =>
                rw [hs] at hm6
                obtain ⟨z1, z2, z3, z4⟩ := hm6
                exact ⟨z1, z2, by omega, z4⟩

-- code that is added behind
def ap1 (l : Cd) : PR (Nat × Cd) → PR (Nat × Cd)
  | .inl e => .inl e
  | .inr (t, o) => .inr (t, o ++ l)
def ap2 (l : Cd) : PR (Nat × List Nat × Cd) → PR (Nat × List Nat × Cd)
  | .inl e => .inl e
  | .inr (t, s, o) => .inr (t, s, o ++ l)
theorem stl_app {least : Nat} {l : Cd} : ∀ {stk : List Nat} {o : Cd}, stl least stk (o ++ l) = ((stl least stk o).1, (stl least stk o).2 ++ l)
  | [], o => rfl
  | s :: r, o => by
    simp only [stl]
    by_cases c : least ≤ rnk s
    · rw [if_pos c, if_pos c]
      exact stl_app (stk := r) (o := (s, 0) :: o)
    · rw [if_neg c, if_neg c]
theorem unt_app {K V : Nat → Nat} {t : Nat} {o l : Cd} : unt K V t (o ++ l) = ap1 l (unt K V t o) := by
  unfold unt
  by_cases c : K t = 3
  · rw [if_pos c, if_pos c]
    cases tk1 K 3 t <;> rfl
  · rw [if_neg c, if_neg c]
    by_cases c2 : 26 ≤ K t ∧ K t ≤ 34
    · rw [if_pos c2, if_pos c2]
      cases tk1 K (K t) t <;> rfl
    · rw [if_neg c2, if_neg c2]
      rfl
theorem cls_app {K : Nat → Nat} {l : Cd} : ∀ {f t : Nat} {stk : List Nat} {o : Cd}, cls K f t stk (o ++ l) = ap2 l (cls K f t stk o)
  | 0, t, stk, o => rfl
  | f + 1, t, stk, o => by
    simp only [cls]
    by_cases c : 0 < dpt stk ∧ K t = 12
    · rw [if_pos c, if_pos c, stl_app]
      cases tk1 K 12 t with
      | inl e => rfl
      | inr t' => exact cls_app
    · rw [if_neg c, if_neg c]
      rfl
theorem sumF_app {K V : Nat → Nat} {l : Cd} : ∀ {f t : Nat} {stk : List Nat} {o : Cd}, sumF K V f t stk (o ++ l) = ap1 l (sumF K V f t stk o)
  | 0, t, stk, o => rfl
  | f + 1, t, stk, o => by
    simp only [sumF]
    cases opn K 7 t stk with
    | inl e => rfl
    | inr w1 =>
      obtain ⟨t1, stk1⟩ := w1
      simp only [unt_app]
      cases unt K V t1 o with
      | inl e => rfl
      | inr w2 =>
        obtain ⟨t2, o2⟩ := w2
        simp only [ap1, cls_app]
        cases cls K 7 t2 stk1 o2 with
        | inl e => rfl
        | inr w3 =>
          obtain ⟨t3, stk3, o3⟩ := w3
          simp only [ap2, stl_app]
          by_cases c : rnk (K t3) = 0
          · rw [if_pos c, if_pos c]
            by_cases d : dpt (stl 1 stk3 o3).1 = 0
            · rw [if_pos d, if_pos d]
            · rw [if_neg d, if_neg d]
          · rw [if_neg c, if_neg c]
            cases tk1 K (K t3) t3 with
            | inl e => rfl
            | inr t4 => exact sumF_app
theorem GS.zero {σ : Mm} {B : Nat → Nat} {n q t : Nat} {l : Cd} {stk : List Nat} {dp : Nat} (h : GS σ B n q t l stk dp) {D : Wr} (hD : keptG D q) : GS (sI (sI σ 47 8 0) 47 9 0) B n q t l [] 0 ∧ EqOn D σ (sI (sI σ 47 8 0) 47 9 0) := by
  obtain ⟨g1, g2, g3, g4, g5, g6, g7, g8, g9, g10, g11, g12⟩ := id h
  have e : ∀ c j, c ≠ 47 → gI (sI (sI σ 47 8 0) 47 9 0) c j = gI σ c j := fun c j h1 => by rw [gI_o h1, gI_o h1]
  exact ⟨⟨g1, g2, g3.congr (fun j => e _ _ (by decide)) (fun j => e _ _ (by decide)) (fun j => rfl), g4, g5, g6, by rw [gI_k (by decide), gI_k (by decide)]; exact g7, by rw [e _ _ (by omega)]; exact g8, g9.congr fun j hj => ⟨e _ _ (by omega), e _ _ (by omega)⟩, by rw [gI_k (by decide), gI_e]; rfl, trivial, gI_e, by rw [e _ _ (by decide)]; exact g12.2.1, by rw [e _ _ (by decide)]; exact g12.2.2⟩, EqOn_sIa (EqOn_sIa EqOn.rf (off1 hD (by simp))) (off1 hD (by simp))⟩
theorem c_sum {N : Nat} (hN : 4000 ≤ N) {B : Nat → Nat} {n q C : Nat} (hC : C ≤ 12) {D : Wr} (hD : keptG D q) {t : Nat} {l : Cd} {stk : List Nat} {dp : Nat} {σ : Mm} (h : GS σ B n q t l stk dp) (hw : l.length ≤ t + C) : Ok (f2_keepsSum N σ) (fun r τ => EqOn D σ τ ∧ match sumF (kK B n) (vV B n) 401 t [] [] with
    | .inl e => r = 0 ∧ FC τ B n e
    | .inr (t', e) => r = 1 ∧ GS τ B n q t' (e ++ l) [] 0 ∧ t < t' ∧ (e ++ l).length ≤ t' + C) := by
  obtain ⟨z1, z2⟩ := h.zero hD
  unfold f2_keepsSum
  rw [z_l_eq, z_l_eq]
  refine (c_sumF hN hC hD (f := 401) (t := t) (x := 0) (fu := N) (stk := []) (l := l) (by omega) (by omega) (by omega) z1 trivial (by decide) (by simp; exact hw)).mono ?_
  rintro r τ ⟨hE, hm⟩
  have ha := sumF_app (K := kK B n) (V := vV B n) (l := l) (f := 401) (t := t) (stk := []) (o := [])
  rw [List.nil_append] at ha
  rw [ha] at hm
  refine ⟨z2.tr hE, ?_⟩
  cases hs : sumF (kK B n) (vV B n) 401 t [] [] with
  | inl e => rw [hs] at hm; exact hm
  | inr w => obtain ⟨t', e⟩ := w; rw [hs] at hm; exact hm
