-- THE CLASS'S TELLING: witnesses, givings
theorem c_fWitness {N : Nat} (hN : 4000 ≤ N) {σ : Mm} {B : Nat → Nat} {n o t : Nat} {d : LD} (h : TS σ B n o (t + 1)) (hd : LC σ o d) (hl : d.1.length < 20) (hQ : d.2.2.2.1.length < 7) (ht : t + 3 < 400) (hk : kK B n (t + 1) = 2 ∧ kK B n (t + 2) = 3 ∧ kK B n (t + 3) = 3) : Ok (f8_fillsWitness N σ) (TO σ B n o (sP15 (vV B n) (wW B n) d t) (t + 4)) := by
  have ho := h.1
  unfold f8_fillsWitness sP15
  refine Ok.r h.2.2.2.2.2.1 (kd_land ho) ?_
  rw [hd.2.2.2.1.1, z_l_eq]
  refine Ok.f (show ¬ (7 : Int32) ≤ nI d.2.2.2.1.length from nI_ngt (n := 7) hQ (by decide)) ?_
  refine Ok.b (c_newN hN h hd.1 hl (by omega) hk.1 (s := 15) (i := d.2.2.2.1.length) (by decide) (by omega)) ?_
  rintro r τ ⟨hkp, hm⟩
  have hkL : kL o σ τ := fun c k a b e => hkp c k a b (by omega) (by omega) (by omega) (by omega)
  cases hnew : newN d.1 (wW B n (t + 1)) 15 d.2.2.2.1.length (t + 1) with
  | inl e => rw [hnew] at hm; exact Ok.t hm.1 (Ok.ret ⟨hkL, rfl, hm.2⟩)
  | inr l' =>
    rw [hnew] at hm
    obtain ⟨rfl, hT, hn⟩ := hm
    have hL : LC τ o (l', d.2) := hd.names hn fun c k h1 h2 h3 => (hkp c k (by omega) (by omega) (by omega) (by omega) (by omega) (by omega)).1
    have hT : TFs τ B n o (.inr (t + 2)) := hT
    generalize hq : d.2.2.2.1.length = Q at hQ
    refine Ok.f (by decide) (Ok.r hT.ref.1 (kd_land ho) ?_)
    obtain ⟨r1, τ1, e1, T1, v1, k1⟩ := c_num (N := N) (lo := 0) (hi := 99) hT (fun t' e => by cases e; exact ⟨by omega, hk.2.1⟩) (by decide) (by decide)
    rw [show (0 : Int32) = nI 0 from rfl, show (99 : Int32) = nI 99 from rfl, e1, z_b_some]
    refine Ok.c (inBn hQ (by decide)) ?_
    rw [z_l_eq, ixn (by omega)]
    have T1' := T1.w (c := o + 4) (k := Q) (v := r1) (by omega) (by omega)
    refine Ok.r T1'.ref.1 (kd_land ho) ?_
    obtain ⟨r2, τ2, e2, T2, v2, k2⟩ := c_num (N := N) (lo := 0) (hi := 99) T1' (fun t' e => by
      obtain ⟨u, hu, rfl⟩ := rng_st e
      cases hu
      exact ⟨by omega, hk.2.2⟩) (by decide) (by decide)
    rw [e2, z_b_some]
    refine Ok.c (inBn hQ (by decide)) ?_
    rw [z_l_eq]
    have T2' := T2.w (c := o + 5) (k := Q) (v := r2) (by omega) (by omega)
    refine Ok.r T2'.ref.1 (kd_land ho) ?_
    have hQ1 : gI (sI τ2 (o + 5) Q r2) o 2 = nI Q := by
      rw [gI_o (by omega), k2.I (by omega) (by omega), gI_o (by omega), k1.I (by omega) (by omega), ← hq]
      exact hL.2.2.2.1.1
    rw [hQ1, nI_1, z_l_eq]
    have T4 := T2'.w (c := o) (k := 2) (v := nI (Q + 1)) (by omega) (by omega)
    have hkL5 : kL o σ (sI (sI τ2 (o + 5) Q r2) o 2 (nI (Q + 1))) := ((((hkL.tr k1.kL).tr (kL_w (by omega) (by omega))).tr k2.kL).tr (kL_w (by omega) (by omega))).tr (kL_w (by omega) (by omega))
    generalize hυ : sI (sI τ2 (o + 5) Q r2) o 2 (nI (Q + 1)) = υ at T4 hkL5
    have bad : ∀ {e : Nat × Nat}, TFs υ B n o (.inl e) → Ok (if gI υ 2 4 = 0 then some ((1 : Int32), υ) else some (nI 0, υ)) (TO σ B n o (.inl e) (t + 4)) := fun he => Ok.f (FC_n0 he) (Ok.ret ⟨hkL5, rfl, he.1⟩)
    dsimp only [bP] at T4 v1 v2 ⊢
    cases hx : rng (vV B n (t + 2)) 0 99 (t + 2) with
    | inl e => rw [hx] at T4; exact bad T4
    | inr x =>
      rw [hx] at T4
      dsimp only at T4
      cases hy : rng (vV B n (t + 3)) 0 99 (t + 3) with
      | inl e => rw [show t + 2 + 1 = t + 3 from rfl, hy] at T4; exact bad T4
      | inr y =>
        rw [show t + 2 + 1 = t + 3 from rfl, hy] at T4
        have w1 : r1 = nI x := v1 (t + 2) x rfl hx
        have w2 : r2 = nI y := v2 (t + 3) y (by rw [hx]) hy
        have T4 : TS υ B n o (t + 4) := T4
        refine Ok.t T4.2.2.2.2.2.2.2.1 (Ok.ret ⟨hkL5, rfl, T4, ?_⟩)
        obtain ⟨h1, ⟨a1, a2, a3⟩, ⟨b1, b2⟩, ⟨c1, c2⟩, ⟨d1, d2⟩⟩ := hL
        have eq : ∀ c k, o ≤ c → c < o + 20 → c ≠ o + 4 → c ≠ o + 5 → ¬ (c = o ∧ k = 2) → gI υ c k = gI τ c k := fun c k i1 i2 i3 i4 i6 => by
          have e0 : gI υ c k = gI (sI τ2 (o + 5) Q r2) c k := by
            rw [← hυ]
            by_cases e : c = o
            · subst e; exact gI_k (by omega)
            · exact gI_o e
          rw [e0, gI_o i4, k2.I (by omega) (by omega), gI_o i3, k1.I (by omega) (by omega)]
        have eL : ∀ c k, o ≤ c → c < o + 20 → gL υ c k = gL τ c k := fun c k i1 i2 => by
          rw [← hυ]
          exact ((k2 c k (by omega) (by omega)).2.1).trans (k1 c k (by omega) (by omega)).2.1
        have q1 : ∀ k, gI υ (o + 4) k = if k = Q then nI x else gI τ (o + 4) k := fun k => by
          rw [← hυ, gI_o (by omega), gI_o (by omega), k2.I (by omega) (by omega)]
          by_cases e : k = Q
          · subst e; rw [if_pos rfl, gI_e]; exact w1
          · rw [if_neg e, gI_k e, k1.I (by omega) (by omega)]
        have q2 : ∀ k, gI υ (o + 5) k = if k = Q then nI y else gI τ (o + 5) k := fun k => by
          rw [← hυ, gI_o (by omega)]
          by_cases e : k = Q
          · subst e; rw [if_pos rfl, gI_e]; exact w2
          · rw [if_neg e, gI_k e, k2.I (by omega) (by omega), gI_o (by omega), k1.I (by omega) (by omega)]
        have hg1 : gI υ o 2 = nI (Q + 1) := by rw [← hυ]; exact gI_e
        have E : ∀ c k, c < 12 → c ≠ 4 → c ≠ 5 → ¬ (c = 0 ∧ k = 2) → gI υ (o + c) k = gI τ (o + c) k := fun c k i1 i2 i3 i4 => eq _ _ (by omega) (by omega) (by omega) (by omega) (by omega)
        have E0 : ∀ k, k ≠ 2 → gI υ o k = gI τ o k := fun k hk => E 0 k (by decide) (by decide) (by decide) (by omega)
        refine ⟨h1.eq2 fun c k i3 => ⟨eq c k (by omega) (by omega) (by omega) (by omega) (by omega), eL c k (by omega) (by omega)⟩, ⟨by rw [E0 _ (by decide)]; exact a1, by rw [E0 _ (by decide)]; exact a2, by rw [E0 _ (by decide)]; exact a3⟩, ⟨by rw [E0 _ (by decide)]; exact b1, b2.imp fun j b hj hb => ?_⟩, ⟨?_, ⟨?_, ?_⟩, c2.imp fun j b hj hb => ?_⟩, ⟨by rw [E0 _ (by decide)]; exact d1, d2.imp fun j b hj hb => ?_⟩⟩
        · unfold pF at *
          rw [E 1 _ (by decide) (by decide) (by decide) (by omega), E 2 _ (by decide) (by decide) (by decide) (by omega), E 3 _ (by decide) (by decide) (by decide) (by omega)]; exact hb
        · rw [hg1, ← hq]; rfl
        · rw [q1, if_pos hq]
        · rw [q2, if_pos hq]
        · have hj : j < d.2.2.2.1.length := hj
          unfold wF at *
          rw [q1, q2, if_neg (by omega), if_neg (by omega)]; exact hb
        · unfold gF at *
          rw [E 7 _ (by decide) (by decide) (by decide) (by omega), E 8 _ (by decide) (by decide) (by decide) (by omega), E 9 _ (by decide) (by decide) (by decide) (by omega), E 10 _ (by decide) (by decide) (by decide) (by omega), E 11 _ (by decide) (by decide) (by decide) (by omega)]; exact hb
theorem fnd_mem {w : List Nat} {a : Nat × Nat} : ∀ {l : Nms}, fnd l w = some a → ∃ b ∈ l, b.2 = a
  | [], h => by cases h
  | b :: r, h => by
    unfold fnd at h
    split at h
    · cases h; exact ⟨b, List.mem_cons_self, rfl⟩
    · obtain ⟨c, hc, e⟩ := fnd_mem h
      exact ⟨c, List.mem_cons_of_mem _ hc, e⟩
theorem knw_mem {l : Nms} {w : List Nat} {s t i : Nat} (h : knw l w s t = .inr i) : ∃ b ∈ l, b.2 = (s, i) := by
  unfold knw at h
  cases hf : fnd l w with
  | none => rw [hf] at h; cases h
  | some a =>
    rw [hf] at h
    dsimp only at h
    split at h
    · rename_i hs
      cases h
      obtain ⟨b, hb, e⟩ := fnd_mem hf
      exact ⟨b, hb, by rw [e, ← hs]⟩
    · cases h
theorem knw_inl {l : Nms} {w : List Nat} {s t : Nat} {e : Nat × Nat} (h : knw l w s t = .inl e) : e = (4, t) := by
  unfold knw at h
  split at h
  · split at h
    · cases h
    · cases h; rfl
  · cases h; rfl
theorem knw_st {s : PR Nat} {l : Nms} {W : Nat → List Nat} {k t' : Nat} (h : (bP s fun t => bP (knw l (W t) k t) fun _ => .inr (t + 1)) = .inr t') : ∃ t, s = .inr t ∧ t' = t + 1 := by
  obtain ⟨t, h1, h⟩ := bP_inr h
  obtain ⟨v, h2, h⟩ := bP_inr h
  cases h
  exact ⟨t, h1, rfl⟩
theorem c_gFault {N : Nat} (hN : 4000 ≤ N) {σ : Mm} {B : Nat → Nat} {n o : Nat} {e : Nat × Nat} (h : TFs σ B n o (.inl e)) {x1 x2 x3 x4 : Int32} : Ok (f8_fillsGiving_66 N x1 x2 x3 x4 N 0 0 σ) (fun r τ => τ = σ ∧ r = 0) := by
  obtain ⟨M, rfl⟩ : ∃ M, N = M + 1 := ⟨N - 1, by omega⟩
  have h0 := FC_n0 h
  rw [f8_fillsGiving_66]
  refine Ok.f (by decide) (Ok.f h0 ?_)
  rw [f8_fillsGiving_155]
  exact Ok.f h0 (Ok.ret ⟨rfl, rfl⟩)
theorem c_gLoop {N : Nat} (hN : 4000 ≤ N) {B : Nat → Nat} {n o t6 p a b g : Nat} {d : LD} (ht6 : t6 < 400) (hk6 : kK B n t6 = 4) (hG : d.2.2.2.2.length < 12) : ∀ {f t s x fu : Nat} {σ : Mm}, 401 ≤ t + f → x + f = 401 → f < fu → t ≤ t6 → (∀ j, t ≤ j → j < t6 → kK B n j = 2) → TS σ B n o t → LC σ o d → s < 2 ^ 20 → Ok (f8_fillsGiving_66 N (nI p) (nI a) (nI b) (nI g) fu (nI s) (nI x) σ) (TO σ B n o (bP (wset (kK B n) (wW B n) d.1 f t s) fun s => .inr (d.1, d.2.1, d.2.2.1, d.2.2.2.1, (p, a, b, g, s) :: d.2.2.2.2)) t6)
  | 0, t, s, x, fu, σ, hf, _, _, _, _, h, _, _ => absurd h.2.2.2.2.1 (by omega)
  | f + 1, t, s, x, 0, σ, _, _, h, _, _, _, _, _ => absurd h (Nat.not_lt_zero _)
  | f + 1, t, s, x, fu + 1, σ, hf, hx, hfu, htt, hK, h, hd, hs => by
    have ho := h.1
    have hkl := tkK_lt (B := B) (n := n) (b := bg B n t)
    have hkk : kK B n t = tkK B n (bg B n t) := rfl
    have h49 : gI σ 49 2 = nI t := h.2.2.2.2.2.2.1
    have h0 : gI σ 2 4 = 0 := h.2.2.2.2.2.2.2.1
    rw [f8_fillsGiving_66, h49, c_kA (by omega), z_b_some, h.row.1, wset]
    refine Ok.f (nI_nlt (a := 400) (by omega) (by decide)) (Ok.t h0 (Ok.i (fun c => ?_) (fun c => ?_)))
    · have c : nI (kK B n t) = nI 2 := c
      rw [nI_eq (by omega) (by decide)] at c
      have hne : t ≠ t6 := fun e => by rw [e, hk6] at c; omega
      rw [if_pos c]
      obtain ⟨r1, τ1, e1, T1, v1, k1⟩ := c_known (N := N) hN (k := 15) (s := .inr t) h hd.1 (fun t' e => by cases e; exact ⟨by omega, c⟩) (by decide)
      rw [show (15 : Int32) = nI 15 from rfl, e1, z_b_some, z_l_eq]
      dsimp only [bP] at T1 ⊢
      cases hkn : knw d.1 (wW B n t) 15 t with
      | inl e =>
        rw [hkn] at T1
        refine Ok.f (FC_n0 T1) ?_
        rw [f8_fillsGiving_142, z_l_eq, z_l_eq]
        have h0' := FC_n0 T1
        obtain ⟨M, rfl⟩ : ∃ M, fu = M + 1 := ⟨fu - 1, by omega⟩
        dsimp only
        rw [f8_fillsGiving_66, nI_1]
        have fin : Ok (f8_fillsGiving_155 N (nI p) (nI a) (nI b) (nI g) (nI s ||| 1 <<< (r1 &&& 31)) τ1) (TO σ B n o (.inl e) t6) := by
          rw [f8_fillsGiving_155]
          exact Ok.f h0' (Ok.ret ⟨k1.kL, rfl, T1.1⟩)
        exact Ok.i (fun _ => fin) (fun _ => Ok.f h0' fin)
      | inr i =>
        rw [hkn] at T1
        have hi : i < 20 := by
          obtain ⟨b, hb, e⟩ := knw_mem hkn
          have := (hd.1.2.2.2.2.2 b hb).2
          rw [e] at this
          exact this
        have T1 : TS τ1 B n o (t + 1) := T1
        have w1 : r1 = nI i := v1 t i rfl hkn
        have hi2 : 2 ^ i < 2 ^ 20 := Nat.pow_lt_pow_right (by decide) hi
        rw [w1, b1 (by omega)]
        refine Ok.t T1.2.2.2.2.2.2.2.1 (Ok.i (fun cb => ?_) (fun cb => ?_))
        · rw [bit_and (by omega) (by omega)] at cb
          dsimp only
          rw [if_neg (show ¬ s.testBit i = true by rw [cb]; decide), f8_fillsGiving_142, z_l_eq, z_l_eq, nI_1, orN (by omega) (by omega)]
          refine (c_gLoop hN ht6 hk6 hG (f := f) (t := t + 1) (s := s ||| 2 ^ i) (x := x + 1) (fu := fu) (by omega) (by omega) (by omega) (by omega) (fun j j1 j2 => hK j (by omega) j2) T1 (hd.kp ho k1) (Nat.or_lt_two_pow hs hi2)).mono ?_
          rintro r υ ⟨u1, u2⟩
          exact ⟨k1.kL.tr u1, u2⟩
        · rw [bit_and (by omega) (by omega)] at cb
          have cb : s.testBit i = true := by simpa using cb
          dsimp only
          rw [if_pos cb, f8_fillsGiving_127, T1.2.2.2.2.2.2.1, show nI (t + 1) - 1 = nI t from nI_pred _, show (3 : Int32) = nI 3 from rfl, t_refuse T1 (by omega), z_b_some, zc_t isZ_0]
          exact Ok.ret ⟨k1.kL.tr ((kp_sI (Or.inl rfl)).tr (kp_sI (Or.inl rfl))).kL, rfl, FC_ref⟩
    · have c : ¬ nI (kK B n t) = nI 2 := c
      rw [nI_eq (by omega) (by decide)] at c
      have hte : t = t6 := by
        rcases Nat.lt_or_ge t t6 with e | e
        · exact absurd (hK t (Nat.le_refl _) e) c
        · omega
      subst hte
      rw [if_neg c, f8_fillsGiving_155]
      generalize hq : d.2.2.2.2.length = Q at hG
      have hQ : gI σ o 3 = nI Q := by rw [hd.2.2.2.2.1, hq]
      refine Ok.t h0 (Ok.r h.2.2.2.2.2.1 (kd_land ho) (Ok.t (show gI σ o 3 < 12 by rw [hQ]; exact nI_lt (b := 12) hG (by decide)) (Ok.r h.2.2.2.2.2.1 (kd_land ho) (Ok.r h.2.2.2.2.2.1 (kd_land ho) ?_))))
      have hput : f1_put N (o + 6) (nI Q) (nI p) (nI a) (nI b) (-nI g) (nI s) σ = some ((), sI (sI (sI (sI (sI σ (o + 7) Q (nI p)) (o + 8) Q (nI a)) (o + 9) Q (nI b)) (o + 10) Q (-nI g)) (o + 11) Q (nI s)) := by
        unfold f1_put
        rw [if_neg (nI_pos (by omega)), if_neg (show ¬ (20 : Int32) ≤ nI Q from nI_ngt (n := 20) (by omega) (by decide)), ixn (by omega), zc_t (inBn (by omega) (by decide)), z_l_eq, zc_t (inBn (by omega) (by decide)), z_l_eq, zc_t (inBn (by omega) (by decide)), z_l_eq, zc_t (inBn (by omega) (by decide)), z_l_eq, zc_t (inBn (by omega) (by decide)), z_l_eq]
      rw [hQ, hput, z_b_some]
      have T : TFs σ B n o (.inr t) := h
      have T5 := ((((T.w (c := o + 7) (k := Q) (v := nI p) (by omega) (by omega)).w (c := o + 8) (k := Q) (v := nI a) (by omega) (by omega)).w (c := o + 9) (k := Q) (v := nI b) (by omega) (by omega)).w (c := o + 10) (k := Q) (v := -nI g) (by omega) (by omega)).w (c := o + 11) (k := Q) (v := nI s) (by omega) (by omega)
      have k5 : kL o σ (sI (sI (sI (sI (sI σ (o + 7) Q (nI p)) (o + 8) Q (nI a)) (o + 9) Q (nI b)) (o + 10) Q (-nI g)) (o + 11) Q (nI s)) := ((((kL_w (by omega) (by omega)).tr (kL_w (by omega) (by omega))).tr (kL_w (by omega) (by omega))).tr (kL_w (by omega) (by omega))).tr (kL_w (by omega) (by omega))
      refine Ok.r T5.ref.1 (kd_land ho) ?_
      have o3 : gI (sI (sI (sI (sI (sI σ (o + 7) Q (nI p)) (o + 8) Q (nI a)) (o + 9) Q (nI b)) (o + 10) Q (-nI g)) (o + 11) Q (nI s)) o 3 = nI Q := by
        rw [gI_o (by omega), gI_o (by omega), gI_o (by omega), gI_o (by omega), gI_o (by omega)]; exact hQ
      rw [o3, nI_1, z_l_eq]
      have T6 := T5.w (c := o) (k := 3) (v := nI (Q + 1)) (by omega) (by omega)
      have T6 : TS _ B n o t := T6
      refine Ok.ret ⟨k5.tr (kL_w (by omega) (by omega)), rfl, T6, ?_⟩
      have E : ∀ c k, c < 7 → ¬ (c = 0 ∧ k = 3) → gI (sI (sI (sI (sI (sI (sI σ (o + 7) Q (nI p)) (o + 8) Q (nI a)) (o + 9) Q (nI b)) (o + 10) Q (-nI g)) (o + 11) Q (nI s)) o 3 (nI (Q + 1))) (o + c) k = gI σ (o + c) k := fun c k i1 i2 => by
        have : gI (sI (sI (sI (sI (sI (sI σ (o + 7) Q (nI p)) (o + 8) Q (nI a)) (o + 9) Q (nI b)) (o + 10) Q (-nI g)) (o + 11) Q (nI s)) o 3 (nI (Q + 1))) (o + c) k = gI (sI (sI (sI (sI (sI σ (o + 7) Q (nI p)) (o + 8) Q (nI a)) (o + 9) Q (nI b)) (o + 10) Q (-nI g)) (o + 11) Q (nI s)) (o + c) k := by
          by_cases e : c = 0
          · subst e; exact gI_k (by omega)
          · exact gI_o (by omega)
        rw [this, gI_o (by omega), gI_o (by omega), gI_o (by omega), gI_o (by omega), gI_o (by omega)]
      have E0 : ∀ k, k ≠ 3 → gI (sI (sI (sI (sI (sI (sI σ (o + 7) Q (nI p)) (o + 8) Q (nI a)) (o + 9) Q (nI b)) (o + 10) Q (-nI g)) (o + 11) Q (nI s)) o 3 (nI (Q + 1))) o k = gI σ o k := fun k hk => E 0 k (by decide) (by omega)
      obtain ⟨h1, ⟨a1, a2, a3⟩, ⟨b1, b2⟩, ⟨c1, c2⟩, ⟨d1, d2⟩⟩ := hd
      have G : ∀ c k, 7 ≤ c → c < 12 → gI (sI (sI (sI (sI (sI (sI σ (o + 7) Q (nI p)) (o + 8) Q (nI a)) (o + 9) Q (nI b)) (o + 10) Q (-nI g)) (o + 11) Q (nI s)) o 3 (nI (Q + 1))) (o + c) k = if k = Q then (if c = 7 then nI p else if c = 8 then nI a else if c = 9 then nI b else if c = 10 then -nI g else nI s) else gI σ (o + c) k := fun c k i1 i2 => by
        rw [gI_o (by omega)]
        rcases (show c = 7 ∨ c = 8 ∨ c = 9 ∨ c = 10 ∨ c = 11 by omega) with rfl | rfl | rfl | rfl | rfl
        · rw [gI_o (by omega), gI_o (by omega), gI_o (by omega), gI_o (by omega)]
          by_cases e : k = Q
          · subst e; rw [if_pos rfl, gI_e]; rfl
          · rw [if_neg e, gI_k e]
        · rw [gI_o (by omega), gI_o (by omega), gI_o (by omega)]
          by_cases e : k = Q
          · subst e; rw [if_pos rfl, gI_e]; rfl
          · rw [if_neg e, gI_k e, gI_o (by omega)]
        · rw [gI_o (by omega), gI_o (by omega)]
          by_cases e : k = Q
          · subst e; rw [if_pos rfl, gI_e]; rfl
          · rw [if_neg e, gI_k e, gI_o (by omega), gI_o (by omega)]
        · rw [gI_o (by omega)]
          by_cases e : k = Q
          · subst e; rw [if_pos rfl, gI_e]; rfl
          · rw [if_neg e, gI_k e, gI_o (by omega), gI_o (by omega), gI_o (by omega)]
        · by_cases e : k = Q
          · subst e; rw [if_pos rfl, gI_e]; rfl
          · rw [if_neg e, gI_k e, gI_o (by omega), gI_o (by omega), gI_o (by omega), gI_o (by omega)]
      refine ⟨h1.eq2 fun c k i3 => ⟨?_, rfl⟩, ⟨by rw [E0 _ (by decide)]; exact a1, by rw [E0 _ (by decide)]; exact a2, by rw [E0 _ (by decide)]; exact a3⟩, ⟨by rw [E0 _ (by decide)]; exact b1, b2.imp fun j b hj hb => ?_⟩, ⟨by rw [E0 _ (by decide)]; exact c1, c2.imp fun j b hj hb => ?_⟩, ⟨by rw [gI_e, ← hq]; rfl, ⟨?_, ?_, ?_, ?_, ?_⟩, d2.imp fun j b hj hb => ?_⟩⟩
      · rcases i3 with ⟨rfl, rfl⟩ | i3
        · exact E0 16 (by decide)
        · rw [gI_o (by omega), gI_o (by omega), gI_o (by omega), gI_o (by omega), gI_o (by omega), gI_o (by omega)]
      · unfold pF at *
        rw [E 1 _ (by decide) (by omega), E 2 _ (by decide) (by omega), E 3 _ (by decide) (by omega)]; exact hb
      · unfold wF at *
        rw [E 4 _ (by decide) (by omega), E 5 _ (by decide) (by omega)]; exact hb
      · rw [G 7 _ (by decide) (by decide), if_pos hq]; rfl
      · rw [G 8 _ (by decide) (by decide), if_pos hq]; rfl
      · rw [G 9 _ (by decide) (by decide), if_pos hq]; rfl
      · rw [G 10 _ (by decide) (by decide), if_pos hq]; rfl
      · rw [G 11 _ (by decide) (by decide), if_pos hq]; rfl
      · unfold gF at *
        rw [G 7 _ (by decide) (by decide), G 8 _ (by decide) (by decide), G 9 _ (by decide) (by decide), G 10 _ (by decide) (by decide), G 11 _ (by decide) (by decide), if_neg (by omega), if_neg (by omega), if_neg (by omega), if_neg (by omega), if_neg (by omega)]; exact hb
