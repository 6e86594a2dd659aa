-- THE CLASS'S TELLING: persons, plots, witnesses, givings
theorem NC.eq2 {σ τ : Mm} {o : Nat} {l : Nms} (h : NC σ o l) (e : ∀ c k, (c = o ∧ k = 16) ∨ (o + 17 ≤ c ∧ c < o + 20) → gI τ c k = gI σ c k ∧ gL τ c k = gL σ c k) : NC τ o l := by
  obtain ⟨h1, h2, h3⟩ := h
  exact ⟨h1.congr fun j hj => ⟨(e _ _ (by omega)).2, (e _ _ (by omega)).1, (e _ _ (by omega)).1⟩, by rw [(e _ _ (by omega)).1]; exact h2, h3⟩
def At {α : Type} (F : Nat → α → Prop) : List α → Prop
  | [] => True
  | a :: r => F r.length a ∧ At F r
theorem At.imp {α : Type} {F G : Nat → α → Prop} : ∀ {l : List α}, At F l → (∀ j a, j < l.length → F j a → G j a) → At G l
  | [], _, _ => trivial
  | a :: r, h, e => ⟨e _ _ (Nat.lt_succ_self _) h.1, h.2.imp fun j b hj => e j b (Nat.lt_succ_of_lt hj)⟩
def pF (σ : Mm) (o j : Nat) (a : Nat × Nat × Nat) : Prop := gI σ (o + 1) j = nI a.1 ∧ gI σ (o + 2) j = nI a.2.1 ∧ gI σ (o + 3) j = nI a.2.2
def wF (σ : Mm) (o j : Nat) (a : Nat × Nat) : Prop := gI σ (o + 4) j = nI a.1 ∧ gI σ (o + 5) j = nI a.2
def gF (σ : Mm) (o j : Nat) (a : Nat × Nat × Nat × Nat × Nat) : Prop := gI σ (o + 7) j = nI a.1 ∧ gI σ (o + 8) j = nI a.2.1 ∧ gI σ (o + 9) j = nI a.2.2.1 ∧ gI σ (o + 10) j = - nI a.2.2.2.1 ∧ gI σ (o + 11) j = nI a.2.2.2.2
def LC (σ : Mm) (o : Nat) (d : LD) : Prop := NC σ o d.1 ∧ (gI σ o 0 = nI d.2.1.1 ∧ gI σ o 4 = nI d.2.1.2.1 ∧ gI σ o 5 = nI d.2.1.2.2) ∧ (gI σ o 1 = nI d.2.2.1.length ∧ At (pF σ o) d.2.2.1) ∧ (gI σ o 2 = nI d.2.2.2.1.length ∧ At (wF σ o) d.2.2.2.1) ∧ (gI σ o 3 = nI d.2.2.2.2.length ∧ At (gF σ o) d.2.2.2.2)
theorem LC.names {σ τ : Mm} {o : Nat} {d : LD} {l : Nms} (h : LC σ o d) (hn : NC τ o l) (e : ∀ c k, o ≤ c → c < o + 12 → ¬ (c = o ∧ k = 16) → gI τ c k = gI σ c k) : LC τ o (l, d.2) := by
  obtain ⟨h1, ⟨a1, a2, a3⟩, ⟨b1, b2⟩, ⟨c1, c2⟩, ⟨e1, e2⟩⟩ := h
  refine ⟨hn, ⟨by rw [e _ _ (by omega) (by omega) (by omega)]; exact a1, by rw [e _ _ (by omega) (by omega) (by omega)]; exact a2, by rw [e _ _ (by omega) (by omega) (by omega)]; exact a3⟩, ⟨by rw [e _ _ (by omega) (by omega) (by omega)]; exact b1, b2.imp fun j a _ hj => ?_⟩, ⟨by rw [e _ _ (by omega) (by omega) (by omega)]; exact c1, c2.imp fun j a _ hj => ?_⟩, ⟨by rw [e _ _ (by omega) (by omega) (by omega)]; exact e1, e2.imp fun j a _ hj => ?_⟩⟩
  · unfold pF at *
    rw [e _ _ (by omega) (by omega) (by omega), e _ _ (by omega) (by omega) (by omega), e _ _ (by omega) (by omega) (by omega)]; exact hj
  · unfold wF at *
    rw [e _ _ (by omega) (by omega) (by omega), e _ _ (by omega) (by omega) (by omega)]; exact hj
  · unfold gF at *
    rw [e _ _ (by omega) (by omega) (by omega), e _ _ (by omega) (by omega) (by omega), e _ _ (by omega) (by omega) (by omega), e _ _ (by omega) (by omega) (by omega), e _ _ (by omega) (by omega) (by omega)]; exact hj
theorem LC.kp {σ τ : Mm} {o : Nat} {d : LD} (ho : o = 7 ∨ o = 27) (h : LC σ o d) (hk : kp σ τ) : LC τ o d := h.names (h.1.kp ho hk) fun c k h1 h2 _ => (hk c k (by omega) (by omega)).1
/-- all but the text's fault, the telling's place, the land o -/
def kL (o : Nat) (σ τ : Mm) : Prop := ∀ c k, c ≠ 2 → c ≠ 49 → ¬ (o ≤ c ∧ c < o + 20) → gI τ c k = gI σ c k ∧ gL τ c k = gL σ c k ∧ gR τ c k = gR σ c k
theorem kL.tr {o : Nat} {σ τ υ : Mm} (h : kL o σ τ) (h2 : kL o τ υ) : kL o σ υ := fun c k a b d => by
  obtain ⟨e1, e2, e3⟩ := h c k a b d
  obtain ⟨f1, f2, f3⟩ := h2 c k a b d
  exact ⟨f1.trans e1, f2.trans e2, f3.trans e3⟩
theorem kL.rf {o : Nat} {σ : Mm} : kL o σ σ := fun _ _ _ _ _ => ⟨rfl, rfl, rfl⟩
theorem kp.kL {o : Nat} {σ τ : Mm} (h : kp σ τ) : kL o σ τ := fun c k a b _ => h c k a b
theorem kL_w {o : Nat} {σ : Mm} {c k : Nat} {v : Int32} (h1 : o ≤ c) (h2 : c < o + 20) : kL o σ (sI σ c k v) := fun c' k' _ _ h => ⟨gI_o (by omega), rfl, rfl⟩
theorem TFs.w {σ : Mm} {B : Nat → Nat} {n o : Nat} {s : PR Nat} {c k : Nat} {v : Int32} (h1 : o ≤ c) (h2 : c < o + 20) (h : TFs σ B n o s) : TFs (sI σ c k v) B n o s := by
  cases s with
  | inl e =>
    obtain ⟨⟨a1, a2⟩, a3, a4, a5, a6⟩ := h
    exact ⟨⟨by rw [gI_o (by omega)]; exact a1, by rw [gI_o (by omega)]; exact a2⟩, a3, a4, a5, a6⟩
  | inr t =>
    obtain ⟨b1, b2, b3, b4, b5, b6, b7, b8⟩ := h
    exact ⟨b1, b2, b3.congr (fun j => gI_o (by omega)) (fun j => gI_o (by omega)) (fun j => rfl), b4, b5, b6, by rw [gI_o (by omega)]; exact b7, by rw [gI_o (by omega)]; exact b8.1, by rw [gI_o (by omega)]; exact b8.2⟩
theorem TFs.ref {σ : Mm} {B : Nat → Nat} {n o : Nat} {s : PR Nat} (h : TFs σ B n o s) : gR σ 49 1 = some o ∧ (o = 7 ∨ o = 27) := by
  cases s with
  | inl e => exact ⟨h.2.2.2.1, h.2.2.2.2⟩
  | inr t => exact ⟨h.2.2.2.2.2.1, h.1⟩
theorem FC_n0 {σ : Mm} {B : Nat → Nat} {n o : Nat} {e : Nat × Nat} (h : TFs σ B n o (.inl e)) : ¬ gI σ 2 4 = 0 := fun e0 => by
  obtain ⟨⟨h1, -⟩, h2, h3, -⟩ := h
  rw [h1] at e0
  have e0 : nI e.1 = nI 0 := e0
  rw [nI_eq (by omega) (by decide)] at e0
  omega
/-- what one tell leaves -/
def TO (σ : Mm) (B : Nat → Nat) (n o : Nat) (m : PR LD) (je : Nat) : Int32 → Mm → Prop := fun r τ => kL o σ τ ∧ match m with
  | .inl e => r = 0 ∧ FC τ B n e
  | .inr d' => r = 1 ∧ TS τ B n o je ∧ LC τ o d'
theorem c_fPerson {N : Nat} (hN : 4000 ≤ N) {σ : Mm} {B : Nat → Nat} {n o t : Nat} {d : LD} (h : TS σ B n o (t + 1)) (hd : LC σ o d) (hl : d.1.length < 20) (hP : d.2.1.1 < 6) (ht : t + 1 < 400) (hk : kK B n (t + 1) = 2) : Ok (f8_fillsPerson N σ) (TO σ B n o (sP13 (wW B n) d t) (t + 2)) := by
  have ho := h.1
  unfold f8_fillsPerson sP13
  refine Ok.r h.2.2.2.2.2.1 (kd_land ho) ?_
  rw [hd.2.1.1, z_l_eq]
  refine Ok.f (nI_ngt (n := 6) hP (by decide)) (Ok.b (c_newN hN h hd.1 hl ht hk (s := 13) (i := d.2.1.1) (by decide) (by omega)) ?_)
  rintro r τ ⟨hkp, hm⟩
  have hkL : kL o σ τ := fun c k a b e => hkp c k a b (by omega) (by omega) (by omega) (by omega)
  cases hnew : newN d.1 (wW B n (t + 1)) 13 d.2.1.1 (t + 1) with
  | inl e => rw [hnew] at hm; exact Ok.t hm.1 (Ok.ret ⟨hkL, rfl, hm.2⟩)
  | inr l' =>
    rw [hnew] at hm
    obtain ⟨rfl, hT, hn⟩ := hm
    have hL : LC τ o (l', d.2) := hd.names hn fun c k h1 h2 h3 => (hkp c k (by omega) (by omega) (by omega) (by omega) (by omega) (by omega)).1
    refine Ok.f (by decide) (Ok.r hT.2.2.2.2.2.1 (kd_land ho) ?_)
    rw [hL.2.1.1, nI_1, z_l_eq]
    refine Ok.ret ⟨hkL.tr (kL_w (by omega) (by omega)), rfl, TFs.w (s := .inr (t + 1 + 1)) (by omega) (by omega) hT, ?_⟩
    obtain ⟨h1, ⟨a1, a2, a3⟩, ⟨b1, b2⟩, ⟨c1, c2⟩, ⟨e1, e2⟩⟩ := hL
    refine ⟨h1.eq2 fun c k hc => ⟨?_, rfl⟩, ⟨gI_e, by rw [gI_k (by decide)]; exact a2, by rw [gI_k (by decide)]; exact a3⟩, ⟨by rw [gI_k (by decide)]; exact b1, b2.imp fun j a _ hj => ?_⟩, ⟨by rw [gI_k (by decide)]; exact c1, c2.imp fun j a _ hj => ?_⟩, ⟨by rw [gI_k (by decide)]; exact e1, e2.imp fun j a _ hj => ?_⟩⟩
    · by_cases e : c = o
      · subst e; exact gI_k (by omega)
      · exact gI_o e
    · unfold pF at *
      rw [gI_o (by omega), gI_o (by omega), gI_o (by omega)]; exact hj
    · unfold wF at *
      rw [gI_o (by omega), gI_o (by omega)]; exact hj
    · unfold gF at *
      rw [gI_o (by omega), gI_o (by omega), gI_o (by omega), gI_o (by omega), gI_o (by omega)]; exact hj
theorem knw_new {l : Nms} {w u : List Nat} {s s' i t : Nat} (hf : fnd l u = none) (hs : s' ≠ s) : knw ((u, s', i) :: l) w s t = knw l w s t := by
  unfold knw
  by_cases e : u = w
  · subst e
    rw [hf]
    have : fnd ((u, s', i) :: l) u = some (s', i) := by
      show (if u = u then _ else _) = _
      rw [if_pos rfl]
    rw [this]
    dsimp only
    rw [if_neg hs]
  · have : fnd ((u, s', i) :: l) w = fnd l w := by
      show (if u = w then _ else _) = _
      rw [if_neg e]
    rw [this]
theorem newN_ok {l l' : Nms} {w : List Nat} {s i t : Nat} (h : newN l w s i t = .inr l') : fnd l w = none ∧ l' = (w, s, i) :: l := by
  unfold newN at h
  cases hf : fnd l w with
  | none => rw [hf] at h; cases h; exact ⟨rfl, rfl⟩
  | some a => rw [hf] at h; cases h
theorem rng_ok {v lo hi t x : Nat} (h : rng v lo hi t = .inr x) : x = v ∧ lo ≤ v ∧ v ≤ hi := by
  unfold rng at h
  split at h
  · cases h; exact ⟨rfl, by assumption⟩
  · cases h
theorem rng_st {s : PR Nat} {V : Nat → Nat} {lo hi t' : Nat} (h : (bP s fun t => bP (rng (V t) lo hi t) fun _ => .inr (t + 1)) = .inr t') : ∃ t, s = .inr t ∧ t' = t + 1 := by
  obtain ⟨t, h1, h⟩ := bP_inr h
  obtain ⟨v, h2, h⟩ := bP_inr h
  cases h
  exact ⟨t, h1, rfl⟩
theorem c_fPlot {N : Nat} (hN : 4000 ≤ N) {σ : Mm} {B : Nat → Nat} {n o t : Nat} {d : LD} (h : TS σ B n o (t + 1)) (hd : LC σ o d) (hl : d.1.length < 20) (hQ : d.2.2.1.length < 7) (ht : t + 4 < 400) (hk : kK B n (t + 1) = 2 ∧ kK B n (t + 2) = 3 ∧ kK B n (t + 3) = 3 ∧ kK B n (t + 4) = 2) : Ok (f8_fillsPlot N σ) (TO σ B n o (sP14 (vV B n) (wW B n) d t) (t + 5)) := by
  have ho := h.1
  unfold f8_fillsPlot sP14
  refine Ok.r h.2.2.2.2.2.1 (kd_land ho) ?_
  rw [hd.2.2.1.1, z_l_eq]
  refine Ok.f (show ¬ (7 : Int32) ≤ nI d.2.2.1.length from nI_ngt (n := 7) hQ (by decide)) ?_
  refine Ok.b (c_newN hN h hd.1 hl (by omega) hk.1 (s := 14) (i := d.2.2.1.length) (by decide) (by omega)) ?_
  rintro r τ ⟨hkp, hm⟩
  have hkL : kL o σ τ := fun c k a b e => hkp c k a b (by omega) (by omega) (by omega) (by omega)
  cases hnew : newN d.1 (wW B n (t + 1)) 14 d.2.2.1.length (t + 1) with
  | inl e => rw [hnew] at hm; exact Ok.t hm.1 (Ok.ret ⟨hkL, rfl, hm.2⟩)
  | inr l' =>
    rw [hnew] at hm
    obtain ⟨rfl, hT, hn⟩ := hm
    have hL : LC τ o (l', d.2) := hd.names hn fun c k h1 h2 h3 => (hkp c k (by omega) (by omega) (by omega) (by omega) (by omega) (by omega)).1
    have hT : TFs τ B n o (.inr (t + 2)) := hT
    generalize hq : d.2.2.1.length = Q at hQ
    refine Ok.f (by decide) (Ok.r hT.ref.1 (kd_land ho) ?_)
    obtain ⟨r1, τ1, e1, T1, v1, k1⟩ := c_num (N := N) (lo := 0) (hi := 9) hT (fun t' e => by cases e; exact ⟨by omega, hk.2.1⟩) (by decide) (by decide)
    rw [show (0 : Int32) = nI 0 from rfl, show (9 : Int32) = nI 9 from rfl, e1, z_b_some]
    refine Ok.c (inBn hQ (by decide)) ?_
    rw [z_l_eq, ixn (by omega)]
    have T1' := T1.w (c := o + 1) (k := Q) (v := r1) (by omega) (by omega)
    refine Ok.r T1'.ref.1 (kd_land ho) ?_
    obtain ⟨r2, τ2, e2, T2, v2, k2⟩ := c_num (N := N) (lo := 0) (hi := 9) T1' (fun t' e => by
      obtain ⟨u, hu, rfl⟩ := rng_st e
      cases hu
      exact ⟨by omega, hk.2.2.1⟩) (by decide) (by decide)
    rw [e2, z_b_some]
    refine Ok.c (inBn hQ (by decide)) ?_
    rw [z_l_eq]
    have T2' := T2.w (c := o + 2) (k := Q) (v := r2) (by omega) (by omega)
    refine Ok.r T2'.ref.1 (kd_land ho) ?_
    have hn2 : NC (sI τ2 (o + 2) Q r2) o l' := hn.eq2 fun c k h3 => by
      refine ⟨?_, ?_⟩
      · rw [gI_o (by omega), k2.I (by omega) (by omega), gI_o (by omega), k1.I (by omega) (by omega)]
      · exact ((k2 c k (by omega) (by omega)).2.1).trans (k1 c k (by omega) (by omega)).2.1
    obtain ⟨r3, τ3, e3, T3, v3, k3⟩ := c_known (N := N) hN (k := 13) T2' hn2 (fun t' e => by
      obtain ⟨u, hu, rfl⟩ := rng_st e
      obtain ⟨u2, hu2, rfl⟩ := rng_st hu
      cases hu2
      exact ⟨by omega, hk.2.2.2⟩) (by decide)
    rw [show (13 : Int32) = nI 13 from rfl, e3, z_b_some]
    refine Ok.c (inBn hQ (by decide)) ?_
    rw [z_l_eq]
    have T3' := T3.w (c := o + 3) (k := Q) (v := r3) (by omega) (by omega)
    refine Ok.r T3'.ref.1 (kd_land ho) ?_
    have hQ1 : gI (sI τ3 (o + 3) Q r3) o 1 = nI Q := by
      rw [gI_o (by omega), k3.I (by omega) (by omega), gI_o (by omega), k2.I (by omega) (by omega), gI_o (by omega), k1.I (by omega) (by omega), ← hq]
      exact hL.2.2.1.1
    rw [hQ1, nI_1, z_l_eq]
    have T4 := T3'.w (c := o) (k := 1) (v := nI (Q + 1)) (by omega) (by omega)
    have hkL5 : kL o σ (sI (sI τ3 (o + 3) Q r3) o 1 (nI (Q + 1))) := ((((((hkL.tr k1.kL).tr (kL_w (by omega) (by omega))).tr k2.kL).tr (kL_w (by omega) (by omega))).tr k3.kL).tr (kL_w (by omega) (by omega))).tr (kL_w (by omega) (by omega))
    generalize hυ : sI (sI τ3 (o + 3) Q r3) o 1 (nI (Q + 1)) = υ at T4 hkL5
    have bad : ∀ {e : Nat × Nat}, TFs υ B n o (.inl e) → Ok (if gI υ 2 4 = 0 then some ((1 : Int32), υ) else some (nI 0, υ)) (TO σ B n o (.inl e) (t + 5)) := fun he => Ok.f (FC_n0 he) (Ok.ret ⟨hkL5, rfl, he.1⟩)
    dsimp only [bP] at T4 v1 v2 v3 ⊢
    cases hx : rng (vV B n (t + 2)) 0 9 (t + 2) with
    | inl e => rw [hx] at T4; exact bad T4
    | inr x =>
      rw [hx] at T4
      dsimp only at T4
      cases hy : rng (vV B n (t + 3)) 0 9 (t + 3) with
      | inl e => rw [show t + 2 + 1 = t + 3 from rfl, hy] at T4; exact bad T4
      | inr y =>
        rw [show t + 2 + 1 = t + 3 from rfl, hy] at T4
        dsimp only at T4
        obtain ⟨hf, rfl⟩ := newN_ok hnew
        have hkk : knw ((wW B n (t + 1), 14, d.2.2.1.length) :: d.1) (wW B n (t + 4)) 13 (t + 4) = knw d.1 (wW B n (t + 4)) 13 (t + 4) := knw_new hf (by decide)
        cases ha : knw d.1 (wW B n (t + 4)) 13 (t + 4) with
        | inl e => rw [show t + 3 + 1 = t + 4 from rfl, hkk, ha] at T4; exact bad T4
        | inr a =>
          rw [show t + 3 + 1 = t + 4 from rfl, hkk, ha] at T4
          have w1 : r1 = nI x := v1 (t + 2) x rfl hx
          have w2 : r2 = nI y := v2 (t + 3) y (by rw [hx]) hy
          have w3 : r3 = nI a := v3 (t + 4) a (by rw [hx]; dsimp only; rw [show t + 2 + 1 = t + 3 from rfl, hy]) (by rw [hkk]; exact ha)
          have T4 : TS υ B n o (t + 5) := T4
          refine Ok.t T4.2.2.2.2.2.2.2.1 (Ok.ret ⟨hkL5, rfl, T4, ?_⟩)
          obtain ⟨h1, ⟨a1, a2, a3⟩, ⟨b1, b2⟩, ⟨c1, c2⟩, ⟨d1, d2⟩⟩ := hL
          have eq : ∀ c k, o ≤ c → c < o + 20 → c ≠ o + 1 → c ≠ o + 2 → c ≠ o + 3 → ¬ (c = o ∧ k = 1) → gI υ c k = gI τ c k := fun c k i1 i2 i3 i4 i5 i6 => by
            have e0 : gI υ c k = gI (sI τ3 (o + 3) Q r3) c k := by
              rw [← hυ]
              by_cases e : c = o
              · subst e; exact gI_k (by omega)
              · exact gI_o e
            rw [e0, gI_o i5, k3.I (by omega) (by omega), gI_o i4, k2.I (by omega) (by omega), gI_o i3, k1.I (by omega) (by omega)]
          have eL : ∀ c k, o ≤ c → c < o + 20 → gL υ c k = gL τ c k := fun c k i1 i2 => by
            rw [← hυ]
            exact ((k3 c k (by omega) (by omega)).2.1).trans (((k2 c k (by omega) (by omega)).2.1).trans (k1 c k (by omega) (by omega)).2.1)
          have q1 : ∀ k, gI υ (o + 1) k = if k = Q then nI x else gI τ (o + 1) k := fun k => by
            rw [← hυ, gI_o (by omega), gI_o (by omega), k3.I (by omega) (by omega), gI_o (by omega), k2.I (by omega) (by omega)]
            by_cases e : k = Q
            · subst e; rw [if_pos rfl, gI_e]; exact w1
            · rw [if_neg e, gI_k e, k1.I (by omega) (by omega)]
          have q2 : ∀ k, gI υ (o + 2) k = if k = Q then nI y else gI τ (o + 2) k := fun k => by
            rw [← hυ, gI_o (by omega), gI_o (by omega), k3.I (by omega) (by omega)]
            by_cases e : k = Q
            · subst e; rw [if_pos rfl, gI_e]; exact w2
            · rw [if_neg e, gI_k e, k2.I (by omega) (by omega), gI_o (by omega), k1.I (by omega) (by omega)]
          have q3 : ∀ k, gI υ (o + 3) k = if k = Q then nI a else gI τ (o + 3) k := fun k => by
            rw [← hυ, gI_o (by omega)]
            by_cases e : k = Q
            · subst e; rw [if_pos rfl, gI_e]; exact w3
            · rw [if_neg e, gI_k e, k3.I (by omega) (by omega), gI_o (by omega), k2.I (by omega) (by omega), gI_o (by omega), k1.I (by omega) (by omega)]
          have hg1 : gI υ o 1 = nI (Q + 1) := by rw [← hυ]; exact gI_e
          refine ⟨h1.eq2 fun c k i3 => ⟨eq c k (by omega) (by omega) (by omega) (by omega) (by omega) (by omega), eL c k (by omega) (by omega)⟩, ⟨by rw [eq _ _ (by omega) (by omega) (by omega) (by omega) (by omega) (by omega)]; exact a1, by rw [eq _ _ (by omega) (by omega) (by omega) (by omega) (by omega) (by omega)]; exact a2, by rw [eq _ _ (by omega) (by omega) (by omega) (by omega) (by omega) (by omega)]; exact a3⟩, ⟨?_, ⟨?_, ?_, ?_⟩, b2.imp fun j b hj hb => ?_⟩, ⟨by rw [eq _ _ (by omega) (by omega) (by omega) (by omega) (by omega) (by omega)]; exact c1, c2.imp fun j b hj hb => ?_⟩, ⟨by rw [eq _ _ (by omega) (by omega) (by omega) (by omega) (by omega) (by omega)]; exact d1, d2.imp fun j b hj hb => ?_⟩⟩
          · rw [hg1, ← hq]; rfl
          · rw [q1, if_pos hq]
          · rw [q2, if_pos hq]
          · rw [q3, if_pos hq]
          · have hj : j < d.2.2.1.length := hj
            unfold pF at *
            rw [q1, q2, q3, if_neg (by omega), if_neg (by omega), if_neg (by omega)]; exact hb
          · unfold wF at *
            rw [eq _ _ (by omega) (by omega) (by omega) (by omega) (by omega) (by omega), eq _ _ (by omega) (by omega) (by omega) (by omega) (by omega) (by omega)]; exact hb
          · unfold gF at *
            rw [eq _ _ (by omega) (by omega) (by omega) (by omega) (by omega) (by omega), eq _ _ (by omega) (by omega) (by omega) (by omega) (by omega) (by omega), eq _ _ (by omega) (by omega) (by omega) (by omega) (by omega) (by omega), eq _ _ (by omega) (by omega) (by omega) (by omega) (by omega) (by omega), eq _ _ (by omega) (by omega) (by omega) (by omega) (by omega) (by omega)]; exact hb
