-- THE REFERENCE'S E: its code, its signs that wait
def rop (k : Nat) : Nat := if k < 2 then k else k - 4
def cM (σ : Mm) (s j : Nat) (a : Nat × Nat) : Prop := gI σ 193 (420 * s + j) = nI (rop a.1) ∧ gI σ 194 (420 * s + j) = nI a.2
def sM (σ : Mm) (j a : Nat) : Prop := gI σ 195 j = nI (km a)
def KS (σ0 : Mm) (s : Nat) (σ : Mm) : Prop := ∀ v, v < 2 → v ≠ s → kS v σ0 σ
def ED (σ0 σ : Mm) (s : Nat) (l : Cd) (stk : List Nat) : Prop := s < 2 ∧ (gI σ 160 47 = nI (420 * s + l.length) ∧ At (cM σ s) l) ∧ (gI σ 160 51 = nI stk.length ∧ At (sM σ) stk) ∧ gI σ 160 12 = nI (dpt stk) ∧ KS σ0 s σ
def D_ED : Wr := [(160, 1, some 47), (160, 1, some 51), (160, 1, some 12), (193, 3, none)]
theorem ED.eq {σ0 σ τ : Mm} {s : Nat} {l : Cd} {stk : List Nat} (h : ED σ0 σ s l stk) (e : EqOn D_ED σ τ) (hk : ∀ v, kS v σ τ) : ED σ0 τ s l stk := by
  obtain ⟨h1, ⟨h2, h3⟩, ⟨h4, h5⟩, h6, h7⟩ := h
  have w : ∀ c k, 193 ≤ c → c < 196 → gI τ c k = gI σ c k := fun c k a b => e.I (wIn_r 3 rfl a b)
  refine ⟨h1, ⟨by rw [e.I (wIn_s 0 rfl)]; exact h2, h3.imp fun j a _ ha => ?_⟩, ⟨by rw [e.I (wIn_s 1 rfl)]; exact h4, h5.imp fun j a _ ha => ?_⟩, by rw [e.I (wIn_s 2 rfl)]; exact h6, fun v a b => (h7 v a b).tr (hk v)⟩
  · unfold cM at *
    rw [w _ _ (by decide) (by decide), w _ _ (by decide) (by decide)]; exact ha
  · unfold sM at *
    rw [w _ _ (by decide) (by decide)]; exact ha
theorem r_emit {N : Nat} {σ0 σ : Mm} {s : Nat} {l : Cd} {stk : List Nat} (h : ED σ0 σ s l stk) (hl : l.length < 420) {a b : Nat} {x : Int32} (hx : x = nI (rop a)) : ∃ τ, f11_emit N x (nI b) σ = some ((), τ) ∧ ED σ0 τ s ((a, b) :: l) stk := by
  obtain ⟨h1, ⟨h2, h3⟩, ⟨h4, h5⟩, h6, h7⟩ := h
  subst hx
  refine ⟨sI (sI (sI σ 193 (420 * s + l.length) (nI (rop a))) 194 (420 * s + l.length) (nI b)) 160 47 (nI (420 * s + l.length + 1)), ?_, h1, ⟨gI_e, ⟨?_, ?_⟩, h3.imp fun j e hj he => ⟨?_, ?_⟩⟩, ⟨?_, h5.imp fun j e hj he => ?_⟩, ?_, fun v hv hvs c k ho => ?_⟩
  · unfold f11_emit
    rw [h2, zc_t (inBn (by omega) (by decide)), z_l_eq, ixn (by omega), gI_o (by decide), h2, zc_t (inBn (by omega) (by decide)), z_l_eq, ixn (by omega), gI_o (by decide), gI_o (by decide), h2, z_l_eq, nI_1]
  · rw [gI_o (by decide), gI_o (by decide), gI_e]
  · rw [gI_o (by decide), gI_e]
  · rw [gI_o (by decide), gI_o (by decide), gI_k (by omega)]; exact he.1
  · rw [gI_o (by decide), gI_k (by omega), gI_o (by decide)]; exact he.2
  · rw [gI_k (by decide), gI_o (by decide), gI_o (by decide)]; exact h4
  · unfold sM at *
    rw [gI_o (by decide), gI_o (by decide), gI_o (by decide)]; exact he
  · rw [gI_k (by decide), gI_o (by decide), gI_o (by decide)]; exact h6
  · have hc : c ≠ 160 := by unfold oS at ho; omega
    rw [gI_o hc]
    by_cases e1 : c = 194
    · subst e1
      rw [gI_k (by unfold oS at ho; omega), gI_o (by decide)]
      exact h7 v hv hvs _ _ ho
    · rw [gI_o e1]
      by_cases e2 : c = 193
      · subst e2
        rw [gI_k (by unfold oS at ho; omega)]
        exact h7 v hv hvs _ _ ho
      · rw [gI_o e2]
        exact h7 v hv hvs _ _ ho
theorem sw_mem {stk : List Nat} (h : sw stk) : ∀ a ∈ stk, a = 11 ∨ (6 ≤ a ∧ a ≤ 9) := by
  induction stk with
  | nil => intro a ha; cases ha
  | cons b r ih =>
    intro a ha
    rcases List.mem_cons.mp ha with rfl | ha
    · rcases h.2 with e | ⟨e, -⟩ | ⟨e, -⟩
      · exact Or.inl e
      · unfold rnk at e
        split at e
        · omega
        · split at e <;> omega
      · unfold rnk at e
        split at e
        · omega
        · split at e
          · omega
          · omega
    · exact ih h.1 a ha
theorem r_comes {N : Nat} (hN : 4000 ≤ N) {σ0 : Mm} {s least : Nat} (hle : least = 1 ∨ least = 2) {x : Int32} (hx : x = nI (least - 1)) : ∀ {stk : List Nat} {l : Cd} {σ : Mm}, ED σ0 σ s l stk → sw stk → stk.length ≤ 21 → l.length + stk.length < 420 → Ok (f11_comesOut N x σ) (fun _ τ => ED σ0 τ s (stl least stk l).2 (stl least stk l).1 ∧ Same wr11_comesOut σ τ) := by
  intro stk l σ h hs h21 hlen
  refine Ok.fr ?_ fun r τ e => fr11_comesOut N e
  unfold f11_comesOut
  subst hx
  have key : ∀ (stk : List Nat) (fu : Nat) (l : Cd) (σ : Mm), ED σ0 σ s l stk → sw stk → stk.length ≤ 21 → stk.length < fu → l.length + stk.length < 420 → Ok (f11_comesOut_0 N (nI (least - 1)) fu σ) (fun _ τ => ED σ0 τ s (stl least stk l).2 (stl least stk l).1) := by
    intro stk
    induction stk with
    | nil =>
      intro fu l σ h _ _ hf _
      obtain ⟨fu, rfl⟩ : ∃ f, fu = f + 1 := ⟨fu - 1, by omega⟩
      rw [f11_comesOut_0, h.2.2.1.1]
      exact Ok.t (by decide) (Ok.ret h)
    | cons a r ih =>
      intro fu l σ h hs h21 hf hl
      simp only [List.length_cons] at h21 hf hl
      obtain ⟨fu, rfl⟩ : ∃ f, fu = f + 1 := ⟨fu - 1, by omega⟩
      obtain ⟨h1, ⟨h2, h3⟩, ⟨h4, h5⟩, h6, h7⟩ := id h
      have ham := sw_mem hs a List.mem_cons_self
      have h4 : gI σ 160 51 = nI (r.length + 1) := h4
      have h5a : gI σ 195 r.length = nI (km a) := h5.1
      rw [f11_comesOut_0, h4, show nI (r.length + 1) - 1 = nI r.length from nI_pred _, ixn (by omega), h5a]
      refine Ok.f (nI_nle (by omega) (by omega)) (Ok.c (inBn (by omega) (by decide)) (Ok.l ?_))
      -- a sign that comes out
      have pop : a ≠ 11 → least ≤ rnk a → Ok (f11_comesOut_42 N (fun σ => f11_comesOut_0 N (nI (least - 1)) fu σ) (nI (least - 1)) (nI (km a)) σ) (fun _ τ => ED σ0 τ s (stl least (a :: r) l).2 (stl least (a :: r) l).1) := by
        intro hne hlr
        rw [f11_comesOut_42, h4, show nI (r.length + 1) - 1 = nI r.length from nI_pred _, z_l_eq]
        have hd : dpt (a :: r) = dpt r := by unfold dpt; rw [List.count_cons_of_ne hne]
        have hE : ED σ0 (sI σ 160 51 (nI r.length)) s l r := ⟨h1, ⟨by rw [gI_k (by decide)]; exact h2, h3.imp fun j e _ he => ⟨by rw [gI_o (by decide)]; exact he.1, by rw [gI_o (by decide)]; exact he.2⟩⟩, ⟨gI_e, h5.2.imp fun j e _ he => by unfold sM at *; rw [gI_o (by decide)]; exact he⟩, by rw [gI_k (by decide), ← hd]; exact h6, fun v a b => (h7 v a b).tr (kS_w (by unfold oS; omega))⟩
        rw [show stl least (a :: r) l = stl least r ((a, 0) :: l) by rw [stl, if_pos hlr]]
        have em : ∀ (y : Int32), y = nI (rop a) → Ok (f11_comesOut_84 N (fun σ => f11_comesOut_0 N (nI (least - 1)) fu σ) (nI (least - 1)) y (sI σ 160 51 (nI r.length))) (fun _ τ => ED σ0 τ s (stl least r ((a, 0) :: l)).2 (stl least r ((a, 0) :: l)).1) := by
          intro y hy
          obtain ⟨τ, e1, e2⟩ := r_emit (N := N) hE (by omega) (a := a) (b := 0) hy
          rw [f11_comesOut_84, show (0 : Int32) = nI 0 from rfl, e1, z_b_some]
          exact ih fu ((a, 0) :: l) τ e2 hs.1 (by omega) (by omega) (by simp only [List.length_cons]; omega)
        rcases (show a = 6 ∨ a = 7 ∨ a = 8 ∨ a = 9 by omega) with rfl | rfl | rfl | rfl
        · exact Ok.t rfl (em _ rfl)
        · exact Ok.f (by decide) (Ok.t rfl (em _ rfl))
        · exact Ok.f (by decide) (Ok.f (by decide) (Ok.t rfl (em _ rfl)))
        · exact Ok.f (by decide) (Ok.f (by decide) (Ok.f (by decide) (em _ rfl)))
      have stay : ¬ least ≤ rnk a → Ok (some ((), σ)) (fun _ τ => ED σ0 τ s (stl least (a :: r) l).2 (stl least (a :: r) l).1) := by
        intro hn
        rw [show stl least (a :: r) l = (a :: r, l) by rw [stl, if_neg hn]]
        exact Ok.ret h
      by_cases c11 : a = 11
      · subst c11
        exact Ok.t rfl (stay (by rw [rnk_11]; omega))
      · have hne6 : ¬ nI (km a) = 6 := by
          rcases (show a = 6 ∨ a = 7 ∨ a = 8 ∨ a = 9 by omega) with rfl | rfl | rfl | rfl <;> decide
        refine Ok.f hne6 ?_
        rcases hle with rfl | rfl
        · refine Ok.t rfl (pop c11 ?_)
          rcases (show a = 6 ∨ a = 7 ∨ a = 8 ∨ a = 9 by omega) with rfl | rfl | rfl | rfl <;> decide
        · refine Ok.f (by decide) ?_
          rcases (show a = 6 ∨ a = 7 ∨ a = 8 ∨ a = 9 by omega) with rfl | rfl | rfl | rfl
          · exact Ok.t rfl (stay (by decide))
          · exact Ok.f (by decide) (Ok.t rfl (stay (by decide)))
          · exact Ok.f (by decide) (Ok.f (by decide) (pop (by decide) (by decide)))
          · exact Ok.f (by decide) (Ok.f (by decide) (pop (by decide) (by decide)))
  exact key stk N l σ h hs h21 (by omega) hlen
/-- the look goes on, the code stays -/
theorem ED.go {σ0 σ τ : Mm} {s : Nat} {l : Cd} {stk : List Nat} {L : Wr} (h : ED σ0 σ s l stk) (hS : Same L σ τ) (h1 : offL L D_ED = true) (h2 : offL L [(170, 25, none)] = true) : ED σ0 τ s l stk := h.eq (hS.on h1) fun _ => kS_same hS h2
def REx (σ0 σ : Mm) (B : Nat → Nat) (n s : Nat) (m : PR (Nat × Cd)) (stk : List Nat) : Prop := match m with
  | .inl e => FM σ B n e ∧ KS σ0 s σ
  | .inr w => RT σ B n w.1 ∧ ED σ0 σ s w.2 stk
theorem r_unit {N : Nat} {σ0 σ : Mm} {B : Nat → Nat} {n s t : Nat} {l : Cd} {stk : List Nat} (hR : RT σ B n t) (h : ED σ0 σ s l stk) (hl : l.length < 420) : Ok (f11_unit N σ) (fun _ τ => REx σ0 τ B n s (unt (kK B n) (vV B n) t l) stk) := by
  have ht := hR.2.2.2.1
  have hB := hR.1
  have hkl : kK B n t < 35 := kK_lt
  unfold f11_unit
  rw [show (2 : Int32) = nI (km 3) from rfl, r_isN hR (by decide), z_b_some]
  -- the look goes on
  have go : ∀ {τ : Mm} {l' : Cd}, RT τ B n t → ED σ0 τ s l' stk → 2 ≤ kK B n t → Ok (z_b (f11_goesOn N τ) fun _ σ_25 => some ((), σ_25)) (fun _ υ => REx σ0 υ B n s (match tk1 (kK B n) (kK B n t) t with
      | .inl e => .inl e
      | .inr t' => .inr (t', l')) stk) := by
    intro τ l' r1 r2 hk
    refine Ok.b ((r_goN r1 hk).fr fun r υ e => fr11_goesOn N e) ?_
    rintro - υ ⟨u1, u2⟩
    have hE := r2.go u2 (by decide) (by decide)
    cases htk : tk1 (kK B n) (kK B n t) t with
    | inl e => rw [htk] at u1; exact Ok.ret ⟨u1, hE.2.2.2.2⟩
    | inr t' => rw [htk] at u1; exact Ok.ret ⟨u1, hE⟩
  have keep : ∀ {τ : Mm} {x y : Int32}, f11_emit N x y σ = some ((), τ) → RT τ B n t := fun e => RX.eq (s := .inr t) hR ((fr11_emit N e).on (by decide))
  by_cases c : kK B n t = 3
  · rw [decide_eq_true c]
    refine Ok.f (by decide) ?_
    rw [hR.2.2.2.2.1, ixn (by omega), hR.row.2.2.1 c]
    refine Ok.c (inBn (by omega) (by decide)) ?_
    obtain ⟨τ, e1, e2⟩ := r_emit (N := N) h hl (a := 0) (b := vV B n t) rfl
    have e1 : f11_emit N 0 (nI (vV B n t)) σ = some ((), τ) := e1
    rw [e1, z_b_some]
    have hg := go (keep e1) e2 (by omega)
    rw [show unt (kK B n) (vV B n) t l = (match tk1 (kK B n) (kK B n t) t with
      | .inl e => .inl e
      | .inr t' => .inr (t', (0, vV B n t) :: l)) by rw [unt, if_pos c, c]; cases tk1 (kK B n) 3 t <;> rfl]
    exact hg
  · rw [decide_eq_false c]
    refine Ok.t rfl (Ok.t hR.2.2.2.2.2 ?_)
    rw [hR.2.2.2.2.1, ixn (by omega), hR.row.1]
    refine Ok.c (inBn (by omega) (by decide)) ?_
    have bad : ¬ (26 ≤ kK B n t ∧ kK B n t ≤ 34) → Ok (f11_unit_88 N σ) (fun _ τ => REx σ0 τ B n s (unt (kK B n) (vV B n) t l) stk) := by
      intro hb
      rw [f11_unit_88, show unt (kK B n) (vV B n) t l = .inl (1, t) by rw [unt, if_neg c, if_neg hb]]
      refine Ok.b (show Ok (f11_fail N 1 σ) _ from (r_failN (k := 1) hR (Or.inl rfl)).fr fun r υ e => fr11_fail N e) ?_
      rintro - υ ⟨u1, u2⟩
      exact Ok.ret ⟨u1, (h.go u2 (by decide) (by decide)).2.2.2.2⟩
    have kmv : ∀ k, k < 35 → ((km k < 33) = (k < 26)) ∧ ((41 < km k) = False) := by
      have : ∀ k, k < 35 → (decide (km k < 33) = decide (k < 26)) ∧ ¬ 41 < km k := by decide
      exact fun k hk => ⟨propext (decide_eq_decide.mp (this k hk).1), eq_false (this k hk).2⟩
    have hkm := km_lt _ hkl
    refine Ok.i (fun c33 => ?_) (fun c33 => Ok.c (inBn (by omega) (by decide)) (Ok.i (fun c41 => ?_) (fun c41 => Ok.c (inBn (by omega) (by decide)) ?_)))
    · have c33 : nI (km (kK B n t)) < nI 33 := c33
      rw [nI_ltI (by omega) (by decide), (kmv _ hkl).1] at c33
      exact bad (by omega)
    · have c41 : nI 41 < nI (km (kK B n t)) := c41
      rw [nI_ltI (by decide) (by omega), (kmv _ hkl).2] at c41
      exact c41.elim
    · have c33 : ¬ nI (km (kK B n t)) < nI 33 := c33
      rw [nI_ltI (by omega) (by decide), (kmv _ hkl).1] at c33
      have hkk : km (kK B n t) = kK B n t + 7 := by
        have : ∀ k, k < 35 → 26 ≤ k → km k = k + 7 := by decide
        exact this _ hkl (by omega)
      rw [hkk, show nI (kK B n t + 7) - (33 : Int32) = nI (kK B n t - 26) by rw [show (33 : Int32) = nI 33 from rfl, pk_sub (by omega)]; congr 1]
      obtain ⟨τ, e1, e2⟩ := r_emit (N := N) h hl (a := 1) (b := kK B n t - 26) rfl
      have e1 : f11_emit N 1 (nI (kK B n t - 26)) σ = some ((), τ) := e1
      rw [e1, z_b_some]
      have hg := go (keep e1) e2 (by omega)
      rw [show unt (kK B n) (vV B n) t l = (match tk1 (kK B n) (kK B n t) t with
        | .inl e => .inl e
        | .inr t' => .inr (t', (1, kK B n t - 26) :: l)) by rw [unt, if_neg c, if_pos ⟨by omega, by omega⟩]; cases tk1 (kK B n) (kK B n t) t <;> rfl]
      exact hg
