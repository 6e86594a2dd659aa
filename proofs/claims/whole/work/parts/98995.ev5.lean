-- LAWS: by both, the same
def eD (k : Nat) : Cd := if k = 0 then [(7, 0), (1, 2), (1, 1)] else if k = 1 then [(0, 0)] else if k = 2 then [(1, 6)] else [(0, 1)]
def lwO (k : Nat) (o : Option Lw) : Lw := o.getD ([], eD k)
theorem lcd_eq {pre : Cd} {k : Nat} (hk : k < 4) {o : Option Lw} : lcd pre k o = cLw pre (lwO k o).1 (lwO k o).2 := by
  cases o with
  | some w => rfl
  | none =>
    rcases (show k = 0 ∨ k = 1 ∨ k = 2 ∨ k = 3 by omega) with rfl | rfl | rfl | rfl <;> rfl
theorem eD_wf : ∀ k, k < 4 → wfE (eD k) := by
  intro k hk
  unfold wfE
  rcases (show k = 0 ∨ k = 1 ∨ k = 2 ∨ k = 3 by omega) with rfl | rfl | rfl | rfl <;> decide
theorem lwO_wf {lw : LwT} (h : wfT lw) {k : Nat} (hk : k < 4) : wfL (lwO k (lw k)) := by
  cases hl : lw k with
  | none => exact ⟨fun x hx => (by cases hx), eD_wf k hk⟩
  | some w => exact h k w hl
theorem dfl_E {k : Nat} (hk : k < 4) (f : Nat → Int32) : dfl k f = lawE f [] (eD k) := by
  rcases (show k = 0 ∨ k = 1 ∨ k = 2 ∨ k = 3 by omega) with rfl | rfl | rfl | rfl <;> rfl
def LwC (σ : Mm) (q : Nat) (lw : LwT) : Prop := ∃ l : Cd, gI σ q 2 = nI l.length ∧ l.length ≤ 415 ∧ LawAt σ q l ∧ LT σ q l lw
def LwM (σ : Mm) (v : Nat) (lw : LwT) : Prop := ∃ (l : Cd) (b : Nat), At (cM σ v) l ∧ l.length ≤ 420 ∧ b ≤ 129 ∧ RLT σ v b l lw
theorem LwC.eq {σ τ : Mm} {q : Nat} {lw : LwT} (h : LwC σ q lw) (e : ∀ c k, q ≤ c → c < q + 4 → gI τ c k = gI σ c k) : LwC τ q lw := by
  obtain ⟨l, h1, h2, h3, h4⟩ := h
  refine ⟨l, by rw [e _ _ (by omega) (by omega)]; exact h1, h2, h3.congr fun j _ => ⟨e _ _ (by omega) (by omega), e _ _ (by omega) (by omega)⟩, fun k hk => ?_⟩
  obtain ⟨pre, post, i1, i2⟩ := h4 k hk
  exact ⟨pre, post, by rw [e _ _ (by omega) (by omega)]; exact i1, i2⟩
theorem LwM.eq {σ τ : Mm} {v : Nat} {lw : LwT} (h : LwM σ v lw) (e : ∀ c k, 186 ≤ c → c < 195 → oS v c k → gI τ c k = gI σ c k) : LwM τ v lw := by
  obtain ⟨l, b, h1, h2, h3, h4⟩ := h
  refine ⟨l, b, h1.imp fun j a hj ha => ?_, h2, h3, fun k hk => ?_⟩
  · unfold cM at *
    rw [e _ _ (by decide) (by decide) (by unfold oS; omega), e _ _ (by decide) (by decide) (by unfold oS; omega)]; exact ha
  · have := h4 k hk
    cases hl : lw k with
    | none =>
      rw [hl] at this
      exact ⟨by rw [e _ _ (by decide) (by decide) (by unfold oS; omega)]; exact this.1, by rw [e _ _ (by decide) (by decide) (by unfold oS; omega)]; exact this.2⟩
    | some w =>
      rw [hl] at this
      obtain ⟨b0, pre, post, i1, i2, i3, i4, i5⟩ := this
      exact ⟨b0, pre, post, by rw [e _ _ (by decide) (by decide) (by unfold oS; omega)]; exact i1, by rw [e _ _ (by decide) (by decide) (by unfold oS; omega)]; exact i2, i3, i4.eq fun c j a1 a2 a3 a4 => e _ _ (by omega) (by omega) (by unfold oS; omega), i5⟩
theorem lwC_run {N : Nat} (hN : 4000 ≤ N) {σ : Mm} {q vr k : Nat} {lw : LwT} (h : LwC σ q lw) (hw : wfT lw) (hk : k < 4) (hvr : vr ≠ q + 4) : ∃ τ, f4_answer N q vr (nI k) σ = some (lawE (gI σ vr) (lwO k (lw k)).1 (lwO k (lw k)).2, τ) := by
  obtain ⟨l, h1, h2, h3, h4⟩ := h
  obtain ⟨pre, post, i1, i2⟩ := h4 k hk
  rw [lcd_eq hk] at i2
  have hC := CodeC_of h3
  rw [i2, List.reverse_append, cLw_rev, List.append_assoc] at hC
  have hC2 := (CodeC_app.mp (CodeC_app.mp hC).2).1
  rw [List.length_reverse, Nat.zero_add] at hC2
  have hlen : pre.length + (lcI pre.length (lwO k (lw k)).1 (lwO k (lw k)).2).length ≤ l.length := by
    have := congrArg List.length i2
    have e2 := congrArg List.length (cLw_rev (l := pre) (r := (lwO k (lw k)).1) (e := (lwO k (lw k)).2))
    rw [List.length_reverse, List.length_append, List.length_reverse] at e2
    rw [List.length_append] at this
    omega
  obtain ⟨w1, w2⟩ := lwO_wf hw hk
  obtain ⟨r, τ, e, hr⟩ := c_lawRun (N := N) (q := q) (vr := vr) (len := l.length) hvr (by omega) (p := pre.length) (x5 := 0) (fu := N) (σ := σ) w1 w2 hC2 h1 hlen (Nat.zero_le _) (by omega)
  refine ⟨τ, ?_⟩
  unfold f4_answer
  rw [zc_t (inBn hk (by decide)), z_l_eq, ixn (by omega), i1]
  rw [← hr]
  exact e
theorem lwM_run {N : Nat} (hN : 4000 ≤ N) {σ : Mm} {v k : Nat} {lw : LwT} (h : LwM σ v lw) (hw : wfT lw) (hk : k < 4) (hv : v < 2) (h18 : gI σ 160 18 = nI v) : ∃ τ, f11_lawTells N (nI k) (dfl k (gI σ 196)) σ = some (lawE (gI σ 196) (lwO k (lw k)).1 (lwO k (lw k)).2, τ) := by
  obtain ⟨l, b, h1, h2, h3, h4⟩ := h
  have hT := h4 k hk
  have hx : (4 : Int32) * nI v + nI k = nI (4 * v + k) := by rw [show (4 : Int32) = nI 4 from rfl, pk_mul, nI_add]
  suffices hh : Ok (f11_lawTells N (nI k) (dfl k (gI σ 196)) σ) (fun r _ => r = lawE (gI σ 196) (lwO k (lw k)).1 (lwO k (lw k)).2) by
    obtain ⟨r, τ, e, hr⟩ := hh
    exact ⟨τ, by rw [← hr]; exact e⟩
  unfold f11_lawTells
  rw [h18, hx, z_l_eq, ixn (by omega)]
  refine Ok.c (inBn (by omega) (by decide)) (Ok.c (inBn (by omega) (by decide)) ?_)
  cases hl : lw k with
  | none =>
    rw [hl] at hT
    rw [hT.1, hT.2]
    exact Ok.t rfl (Ok.ret (dfl_E hk _))
  | some w =>
    rw [hl] at hT
    obtain ⟨b0, pre, post, i1, i2, i3, i4, i5⟩ := hT
    rw [i1, i2]
    refine Ok.f (fun e => absurd ((nI_eq (by omega) (by omega)).mp e) (by omega)) ?_
    rw [z_l_eq]
    refine Ok.c (inBn (by omega) (by decide)) (Ok.l ?_)
    rw [gI_o (by decide), i1]
    have hC := CodeM_of h1
    rw [i5, List.reverse_append, rL_rev, List.append_assoc] at hC
    have hC2 := (CodeM_app.mp (CodeM_app.mp hC).2).1
    rw [List.length_reverse] at hC2
    have hlen : pre.length + (rI w.1 w.2).length ≤ l.length := by
      have := congrArg List.length i5
      have e2 := congrArg List.length (rL_rev (l := pre) (r := w.1) (e := w.2))
      rw [List.length_reverse, List.length_append, List.length_reverse] at e2
      rw [List.length_append] at this
      omega
    obtain ⟨w1, w2⟩ := hw k w hl
    have hv2 : gI (sI σ 160 54 0) 196 = gI σ 196 := funext fun j => gI_o (by decide)
    have hR := r_lawRun hN (s := v) (X := 4 * v + k) hv (by omega) (r := w.1) (e := w.2) (b := b0) (m := pre.length) (fu := N) (σ := sI σ 160 54 0) w1 w2 (i4.eq fun c j a1 a2 _ _ => gI_o (by omega)) (hC2.eq fun j => ⟨gI_o (by decide), gI_o (by decide)⟩) (by omega) (by omega) (by rw [gI_o (by decide)]; exact i2) gI_e (by omega)
    rw [hv2] at hR
    exact hR
theorem V_law_of {N : Nat} (hN : 4000 ≤ N) {σ : Mm} {o v : Nat} {lw : LwT} (ho : o = 7 ∨ o = 27) (hv : v < 2) (h18 : gI σ 160 18 = nI v) (hC : LwC σ (o + 12) lw) (hM : LwM σ v lw) (hw : wfT lw) : V_law N σ o := by
  intro k hk
  refine ⟨fun f => lawE f (lwO k (lw k)).1 (lwO k (lw k)).2, fun f g hfg => lawE_congr hfg (lwO_wf hw hk).1 (lwO_wf hw hk).2, fun τ hE vr hvr => ?_, fun τ hE => ?_⟩
  · have hC2 : LwC τ (o + 12) lw := hC.eq fun c j a1 a2 => by
      rcases ho with rfl | rfl
      · exact hE.I (wIn_r 0 rfl a1 a2)
      · exact hE.I (wIn_r 1 rfl a1 a2)
    refine lwC_run hN hC2 hw hk fun e => ?_
    subst e
    rcases ho with rfl | rfl
    · exact absurd hvr (by decide)
    · exact absurd hvr (by decide)
  · have hM2 : LwM τ v lw := hM.eq fun c j a1 a2 _ => hE.I (wIn_r 0 rfl a1 a2)
    exact lwM_run hN hM2 hw hk hv (by rw [hE.I (wIn_s 1 rfl)]; exact h18)
