-- THE CLASS'S TELLING: all of it
theorem c_fGiving {N : Nat} (hN : 4000 ≤ N) {σ : Mm} {B : Nat → Nat} {n o t t6 : Nat} {d : LD} (h : TS σ B n o (t + 1)) (hd : LC σ o d) (hG : d.2.2.2.2.length < 12) (ht6 : t6 < 400) (ht : t + 5 ≤ t6) (hk : kK B n (t + 1) = 2 ∧ kK B n (t + 2) = 2 ∧ kK B n (t + 3) = 2 ∧ kK B n (t + 4) = 3) (hK : ∀ j, t + 5 ≤ j → j < t6 → kK B n j = 2) (hk6 : kK B n t6 = 4) : Ok (f8_fillsGiving N σ) (TO σ B n o (sP16 (kK B n) (vV B n) (wW B n) d t) t6) := by
  have ho := h.1
  have T0 : TFs σ B n o (.inr (t + 1)) := h
  obtain ⟨r1, τ1, e1, T1, v1, k1⟩ := c_known (N := N) hN (k := 14) T0 hd.1 (fun t' e => by cases e; exact ⟨by omega, hk.1⟩) (by decide)
  obtain ⟨r2, τ2, e2, T2, v2, k2⟩ := c_known (N := N) hN (k := 13) T1 (hd.1.kp ho k1) (fun t' e => by
    obtain ⟨u, hu, rfl⟩ := knw_st e
    cases hu
    exact ⟨by omega, hk.2.1⟩) (by decide)
  obtain ⟨r3, τ3, e3, T3, v3, k3⟩ := c_known (N := N) hN (k := 13) T2 (hd.1.kp ho (k1.tr k2)) (fun t' e => by
    obtain ⟨u, hu, rfl⟩ := knw_st e
    obtain ⟨u2, hu2, rfl⟩ := knw_st hu
    cases hu2
    exact ⟨by omega, hk.2.2.1⟩) (by decide)
  have k123 := (k1.tr k2).tr k3
  have hd3 := hd.kp ho k123
  unfold f8_fillsGiving sP16
  rw [show (14 : Int32) = nI 14 from rfl, show (13 : Int32) = nI 13 from rfl, e1, z_b_some, e2, z_b_some, e3, z_b_some]
  have bad : ∀ {e : Nat × Nat}, TFs τ3 B n o (.inl e) → Ok (if gI τ3 2 4 = 0 then (if r2 = r3 then z_b (f9_refuse N 3 (gI τ3 49 2 - 1) τ3) fun r_43 σ_44 => z_c (isZ r_43) (some (r_43, σ_44)) else f8_fillsGiving_51 N r1 r2 r3 τ3) else f8_fillsGiving_51 N r1 r2 r3 τ3) (TO σ B n o (.inl e) t6) := by
    intro e he
    refine Ok.f (FC_n0 he) ?_
    obtain ⟨r4, τ4, e4, T4, -, k4⟩ := c_num (N := N) (lo := 0) (hi := 99) he (fun t' e => by cases e) (by decide) (by decide)
    rw [f8_fillsGiving_51, show f8_takeNumber N 0 99 τ3 = some (r4, τ4) from e4, z_b_some]
    have T4 : TFs τ4 B n o (.inl e) := T4
    refine (c_gFault hN T4).mono ?_
    rintro r υ ⟨rfl, rfl⟩
    exact ⟨(k123.tr k4).kL, rfl, T4.1⟩
  dsimp only [bP] at T3 v1 v2 v3 ⊢
  cases hp : knw d.1 (wW B n (t + 1)) 14 (t + 1) with
  | inl e => rw [hp] at T3; exact bad T3
  | inr p =>
    rw [hp] at T3
    dsimp only at T3
    cases ha : knw d.1 (wW B n (t + 2)) 13 (t + 2) with
    | inl e => rw [show t + 1 + 1 = t + 2 from rfl, ha] at T3; exact bad T3
    | inr a =>
      rw [show t + 1 + 1 = t + 2 from rfl, ha] at T3
      dsimp only at T3
      cases hb : knw d.1 (wW B n (t + 3)) 13 (t + 3) with
      | inl e => rw [show t + 2 + 1 = t + 3 from rfl, hb] at T3; exact bad T3
      | inr b =>
        rw [show t + 2 + 1 = t + 3 from rfl, hb] at T3
        have w1 : r1 = nI p := v1 (t + 1) p rfl hp
        have w2 : r2 = nI a := v2 (t + 2) a (by rw [hp]) ha
        have w3 : r3 = nI b := v3 (t + 3) b (by rw [hp]; dsimp only; rw [show t + 1 + 1 = t + 2 from rfl, ha]) hb
        have T3 : TS τ3 B n o (t + 4) := T3
        have lt20 : ∀ {w s t i}, knw d.1 w s t = .inr i → i < 20 := fun hkn => by
          obtain ⟨b, hb, e⟩ := knw_mem hkn
          have := (hd.1.2.2.2.2.2 b hb).2
          rw [e] at this
          exact this
        have ha20 := lt20 ha
        have hb20 := lt20 hb
        rw [w1, w2, w3]
        refine Ok.t T3.2.2.2.2.2.2.2.1 (Ok.i (fun c => ?_) (fun c => ?_))
        · rw [nI_eq (by omega) (by omega)] at c
          dsimp only
          rw [if_pos c, T3.2.2.2.2.2.2.1, show nI (t + 4) - 1 = nI (t + 3) from nI_pred _, show (3 : Int32) = nI 3 from rfl, t_refuse T3 (by omega), z_b_some, zc_t isZ_0]
          exact Ok.ret ⟨(k123.tr ((kp_sI (Or.inl rfl)).tr (kp_sI (Or.inl rfl)))).kL, rfl, FC_ref⟩
        · rw [nI_eq (by omega) (by omega)] at c
          dsimp only
          rw [if_neg c]
          obtain ⟨r4, τ4, e4, T4, v4, k4⟩ := c_num (N := N) (lo := 0) (hi := 99) (s := .inr (t + 4)) T3 (fun t' e => by cases e; exact ⟨by omega, hk.2.2.2⟩) (by decide) (by decide)
          rw [f8_fillsGiving_51, show f8_takeNumber N 0 99 τ3 = some (r4, τ4) from e4, z_b_some]
          dsimp only [bP] at T4
          cases hg : rng (vV B n (t + 4)) 0 99 (t + 4) with
          | inl e =>
            rw [hg] at T4
            refine (c_gFault hN T4).mono ?_
            rintro r υ ⟨rfl, rfl⟩
            exact ⟨(k123.tr k4).kL, rfl, T4.1⟩
          | inr g =>
            rw [hg] at T4
            have w4 : r4 = nI g := v4 (t + 4) g rfl hg
            rw [w4]
            refine (c_gLoop hN ht6 hk6 hG (d := d) (f := 401) (t := t + 5) (s := 0) (x := 0) (fu := N) (p := p) (a := a) (b := b) (g := g) (by omega) (by omega) (by omega) ht hK T4 (hd3.kp ho k4) (by decide)).mono ?_
            rintro r υ ⟨u1, u2⟩
            exact ⟨(k123.tr k4).kL.tr u1, u2⟩
theorem c_fInt {N : Nat} {σ : Mm} {B : Nat → Nat} {n o t lo hi k : Nat} {d d2 : Nat → LD} (h : TS σ B n o (t + 1)) (ht : t + 1 < 400) (hk : kK B n (t + 1) = 3) (hlo : lo < 10000) (hhi : hi < 10000) (hd : ∀ τ x, kp σ τ → LC (sI τ o k (nI x)) o (d x)) : Ok (z_r (gR σ 49 1) 3 fun t_25 => z_b (f8_takeNumber N (nI lo) (nI hi) σ) fun r_27 σ_28 => z_l (sI σ_28 t_25 k r_27) fun σ_30 => if gI σ_30 2 4 = 0 then some ((1 : Int32), σ_30) else some ((0 : Int32), σ_30)) (TO σ B n o (bP (rng (vV B n (t + 1)) lo hi (t + 1)) fun x => .inr (d x)) (t + 2)) := by
  have ho := h.1
  refine Ok.r h.2.2.2.2.2.1 (kd_land ho) ?_
  obtain ⟨r1, τ1, e1, T1, v1, k1⟩ := c_num (N := N) (lo := lo) (hi := hi) (s := .inr (t + 1)) h (fun t' e => by cases e; exact ⟨ht, hk⟩) hlo hhi
  rw [e1, z_b_some, z_l_eq]
  have T2 := T1.w (c := o) (k := k) (v := r1) (by omega) (by omega)
  dsimp only [bP] at T2 ⊢
  cases hx : rng (vV B n (t + 1)) lo hi (t + 1) with
  | inl e =>
    rw [hx] at T2
    exact Ok.f (FC_n0 T2) (Ok.ret ⟨k1.kL.tr (kL_w (by omega) (by omega)), rfl, T2.1⟩)
  | inr x =>
    rw [hx] at T2
    have w1 : r1 = nI x := v1 (t + 1) x rfl hx
    have T2 : TS (sI τ1 o k r1) B n o (t + 2) := T2
    refine Ok.t T2.2.2.2.2.2.2.2.1 (Ok.ret ⟨k1.kL.tr (kL_w (by omega) (by omega)), rfl, T2, ?_⟩)
    rw [w1]
    exact hd τ1 x k1
theorem LC_set {σ τ : Mm} {o : Nat} {d : LD} (ho : o = 7 ∨ o = 27) (h : LC σ o d) (hk : kp σ τ) (x : Nat) : LC (sI τ o 4 (nI x)) o (d.1, (d.2.1.1, x, d.2.1.2.2), d.2.2) ∧ LC (sI τ o 5 (nI x)) o (d.1, (d.2.1.1, d.2.1.2.1, x), d.2.2) := by
  obtain ⟨h1, ⟨a1, a2, a3⟩, ⟨b1, b2⟩, ⟨c1, c2⟩, ⟨d1, d2⟩⟩ := h.kp ho hk
  have pw : ∀ k v, At (pF τ o) d.2.2.1 → At (pF (sI τ o k v) o) d.2.2.1 := fun k v h => h.imp fun j b _ hb => by
    unfold pF at *
    rw [gI_o (by omega), gI_o (by omega), gI_o (by omega)]; exact hb
  have ww : ∀ k v, At (wF τ o) d.2.2.2.1 → At (wF (sI τ o k v) o) d.2.2.2.1 := fun k v h => h.imp fun j b _ hb => by
    unfold wF at *
    rw [gI_o (by omega), gI_o (by omega)]; exact hb
  have gw : ∀ k v, At (gF τ o) d.2.2.2.2 → At (gF (sI τ o k v) o) d.2.2.2.2 := fun k v h => h.imp fun j b _ hb => by
    unfold gF at *
    rw [gI_o (by omega), gI_o (by omega), gI_o (by omega), gI_o (by omega), gI_o (by omega)]; exact hb
  have nw : ∀ k v, k ≠ 16 → NC (sI τ o k v) o d.1 := fun k v hk => h1.eq2 fun c j hc => ⟨by
    rcases hc with ⟨rfl, rfl⟩ | hc
    · exact gI_k (by omega)
    · exact gI_o (by omega), rfl⟩
  refine ⟨⟨nw _ _ (by decide), ⟨by rw [gI_k (by decide)]; exact a1, gI_e, by rw [gI_k (by decide)]; exact a3⟩, ⟨by rw [gI_k (by decide)]; exact b1, pw _ _ b2⟩, ⟨by rw [gI_k (by decide)]; exact c1, ww _ _ c2⟩, ⟨by rw [gI_k (by decide)]; exact d1, gw _ _ d2⟩⟩, ⟨nw _ _ (by decide), ⟨by rw [gI_k (by decide)]; exact a1, by rw [gI_k (by decide)]; exact a2, gI_e⟩, ⟨by rw [gI_k (by decide)]; exact b1, pw _ _ b2⟩, ⟨by rw [gI_k (by decide)]; exact c1, ww _ _ c2⟩, ⟨by rw [gI_k (by decide)]; exact d1, gw _ _ d2⟩⟩⟩
-- the tokens of a tell that keeps to the grammar
def G4 (K : Nat → Nat) (t t' : Nat) : Prop := ∀ j, t ≤ j → j < t' → 2 ≤ K j ∧ K j ≠ 4
theorem G4.tr {K : Nat → Nat} {a b c : Nat} (h : G4 K a b) (h2 : G4 K b c) : G4 K a c := fun j h3 h4 => by
  rcases Nat.lt_or_ge j b with e | e
  · exact h j h3 e
  · exact h2 j e h4
theorem G4.one {K : Nat → Nat} {a : Nat} (h : 2 ≤ K a ∧ K a ≠ 4) : G4 K a (a + 1) := fun j h3 h4 => by
  have : j = a := by omega
  rw [this]; exact h
theorem opn_ok {K : Nat → Nat} : ∀ {f t t1 : Nat} {stk stk1 : List Nat}, opn K f t stk = .inr (t1, stk1) → G4 K t t1
  | 0, t, t1, stk, stk1, h => by cases h; exact fun j h3 h4 => by omega
  | f + 1, t, t1, stk, stk1, h => by
    simp only [opn] at h
    split at h
    · split at h
      · cases h
      · cases htk : tk1 K 11 t with
        | inl e => rw [htk] at h; cases h
        | inr t' =>
          rw [htk] at h
          have h2 := opn_ok h
          obtain ⟨rfl, hk, -⟩ := tk1_ok htk
          exact (G4.one (by omega)).tr h2
    · cases h; exact fun j h3 h4 => by omega
theorem unt_ok {K V : Nat → Nat} {t t' : Nat} {l l' : Cd} (h : unt K V t l = .inr (t', l')) : t' = t + 1 ∧ G4 K t t' := by
  unfold unt at h
  split at h
  · rename_i hk
    cases htk : tk1 K 3 t with
    | inl e => rw [htk] at h; cases h
    | inr t1 => rw [htk] at h; cases h; obtain ⟨rfl, -, -⟩ := tk1_ok htk; exact ⟨rfl, G4.one (by omega)⟩
  · split at h
    · rename_i hk
      cases htk : tk1 K (K t) t with
      | inl e => rw [htk] at h; cases h
      | inr t1 => rw [htk] at h; cases h; obtain ⟨rfl, -, -⟩ := tk1_ok htk; exact ⟨rfl, G4.one (by omega)⟩
    · cases h
theorem cls_ok {K : Nat → Nat} : ∀ {f t t1 : Nat} {stk stk1 : List Nat} {l l1 : Cd}, cls K f t stk l = .inr (t1, stk1, l1) → t ≤ t1 ∧ G4 K t t1
  | 0, t, t1, stk, stk1, l, l1, h => by cases h; exact ⟨Nat.le_refl _, fun j h3 h4 => by omega⟩
  | f + 1, t, t1, stk, stk1, l, l1, h => by
    simp only [cls] at h
    split at h
    · cases htk : tk1 K 12 t with
      | inl e => rw [htk] at h; cases h
      | inr t' =>
        rw [htk] at h
        obtain ⟨h1, h2⟩ := cls_ok h
        obtain ⟨rfl, hk, -⟩ := tk1_ok htk
        exact ⟨by omega, (G4.one (by omega)).tr h2⟩
    · cases h; exact ⟨Nat.le_refl _, fun j h3 h4 => by omega⟩
theorem sumF_ok {K V : Nat → Nat} : ∀ {f t t' : Nat} {stk : List Nat} {l l' : Cd}, sumF K V f t stk l = .inr (t', l') → t < t' ∧ G4 K t t'
  | 0, t, t', stk, l, l', h => by cases h
  | f + 1, t, t', stk, l, l', h => by
    simp only [sumF] at h
    cases ho : opn K 7 t stk with
    | inl e => rw [ho] at h; cases h
    | inr w1 =>
      obtain ⟨t1, stk1⟩ := w1
      rw [ho] at h
      dsimp only at h
      have h1 := opn_le ho
      have g1 := opn_ok ho
      cases hu : unt K V t1 l with
      | inl e => rw [hu] at h; cases h
      | inr w2 =>
        obtain ⟨t2, l2⟩ := w2
        rw [hu] at h
        dsimp only at h
        obtain ⟨h2, g2⟩ := unt_ok hu
        cases hc : cls K 7 t2 stk1 l2 with
        | inl e => rw [hc] at h; cases h
        | inr w3 =>
          obtain ⟨t3, stk3, l3⟩ := w3
          rw [hc] at h
          dsimp only at h
          obtain ⟨h3, g3⟩ := cls_ok hc
          split at h
          · split at h
            · cases h; exact ⟨by omega, (g1.tr g2).tr g3⟩
            · cases h
          · rename_i hr
            cases htk : tk1 K (K t3) t3 with
            | inl e => rw [htk] at h; cases h
            | inr t4 =>
              rw [htk] at h
              dsimp only at h
              obtain ⟨h5, g5⟩ := sumF_ok h
              obtain ⟨rfl, -, -⟩ := tk1_ok htk
              refine ⟨by omega, (((g1.tr g2).tr g3).tr (G4.one ?_)).tr g5⟩
              unfold rnk at hr
              split at hr
              · omega
              · split at hr
                · omega
                · exact absurd rfl hr
theorem lwE_ok {K V : Nat → Nat} {t : Nat} {w : Nat × Lw} (h : lwE K V t = .inr w) : t + 1 < w.1 ∧ w.1 ≤ 400 ∧ K (w.1 - 1) = 4 ∧ G4 K t (w.1 - 1) := by
  obtain ⟨⟨t1, e⟩, h1, h⟩ := bP_inr h
  obtain ⟨t2, h2, h⟩ := bP_inr h
  obtain ⟨a1, a2⟩ := sumF_ok h1
  obtain ⟨rfl, k2, l2⟩ := tk1_ok h2
  cases h
  exact ⟨by show t + 1 < t1 + 1; omega, by show t1 + 1 ≤ 400; omega, k2, a2⟩
theorem lawF_ok {K V : Nat → Nat} : ∀ {f t : Nat} {w : Nat × Lw}, lawF K V f t = .inr w → t + 1 < w.1 ∧ w.1 ≤ 400 ∧ K (w.1 - 1) = 4 ∧ G4 K t (w.1 - 1) ∧ w.2.1.length ≤ f ∧ t + 7 * w.2.1.length + 2 ≤ w.1
  | 0, t, w, h => by
    unfold lawF at h
    split at h
    · cases h
    · obtain ⟨a, b, c, e⟩ := lwE_ok h
      obtain ⟨⟨t1, ee⟩, h1, h⟩ := bP_inr h
      obtain ⟨t2, h2, h⟩ := bP_inr h
      cases h
      exact ⟨a, b, c, e, Nat.le_refl _, by show t + 7 * 0 + 2 ≤ t2; have a : t + 1 < t2 := a; omega⟩
  | f + 1, t, w, h => by
    unfold lawF at h
    split at h
    · obtain ⟨t1, h1, h⟩ := bP_inr h
      obtain ⟨⟨t2, ca⟩, h2, h⟩ := bP_inr h
      obtain ⟨t3, h3, h⟩ := bP_inr h
      obtain ⟨⟨t4, cb⟩, h4, h⟩ := bP_inr h
      obtain ⟨t5, h5, h⟩ := bP_inr h
      obtain ⟨⟨t6, cc⟩, h6, h⟩ := bP_inr h
      obtain ⟨t7, h7, h⟩ := bP_inr h
      obtain ⟨w8, h8, hz⟩ := bP_inr h
      obtain ⟨rfl, k1, -⟩ := tk1_ok h1
      obtain ⟨a2, g2⟩ := sumF_ok h2
      obtain ⟨rfl, k3, -⟩ := tk1_ok h3
      obtain ⟨a4, g4⟩ := sumF_ok h4
      obtain ⟨rfl, k5, -⟩ := tk1_ok h5
      obtain ⟨a6, g6⟩ := sumF_ok h6
      obtain ⟨rfl, k7, -⟩ := tk1_ok h7
      obtain ⟨b1, b2, b3, b4, b5, b6⟩ := lawF_ok h8
      cases hz
      dsimp only at *
      refine ⟨by omega, b2, b3, (((((((G4.one (by omega)).tr g2).tr (G4.one (by omega))).tr g4).tr (G4.one (by omega))).tr g6).tr (G4.one (by omega))).tr b4, by simp only [List.length_cons]; omega, by simp only [List.length_cons]; omega⟩
    · obtain ⟨a, b, c, e⟩ := lwE_ok h
      obtain ⟨⟨t1, ee⟩, h1, h⟩ := bP_inr h
      obtain ⟨t2, h2, h⟩ := bP_inr h
      cases h
      exact ⟨a, b, c, e, Nat.zero_le _, by show t + 7 * 0 + 2 ≤ t2; have a : t + 1 < t2 := a; omega⟩
theorem lawG_ok {K V : Nat → Nat} {k t : Nat} {w : Nat × Lw} (h : lawG K V k t = .inr w) : K t = k ∧ t + 3 < w.1 ∧ w.1 ≤ 400 ∧ K (w.1 - 1) = 4 ∧ G4 K (t + 1) (w.1 - 1) ∧ w.2.1.length ≤ 4 ∧ t + 7 * w.2.1.length + 4 ≤ w.1 := by
  obtain ⟨t1, h1, h⟩ := bP_inr h
  obtain ⟨t2, h2, h⟩ := bP_inr h
  obtain ⟨rfl, k1, -⟩ := tk1_ok h1
  obtain ⟨rfl, k2, -⟩ := tk1_ok h2
  obtain ⟨b1, b2, b3, b4, b5, b6⟩ := lawF_ok h
  exact ⟨k1, by omega, b2, b3, (G4.one (by omega)).tr b4, b5, by omega⟩
