-- THE REFERENCE'S LOOK: tokens that are taken, faults, wrongs
theorem km_inj : ∀ a, a < 35 → ∀ b, b < 35 → km a = km b → a = b := by decide
theorem km_lt : ∀ a, a < 35 → km a < 42 := by decide
theorem tkE_gt {B : Nat → Nat} {n b : Nat} (hB : TB B n) (h : tkK B n b ≠ 0) : b < tkE B n b := by
  unfold tkK at h
  unfold tkE
  by_cases c : n ≤ b
  · rw [if_pos c] at h; exact absurd rfl h
  · rw [if_neg c]
    split
    · rename_i hL
      rw [rn_t hB.1 (by omega) hL]
      have := (rn_ok (P := isL) (B := B) (n := n) (i := b + 1) hB.1).1
      omega
    · split
      · rename_i hD
        rw [rn_t hB.1 (by omega) hD]
        have := (rn_ok (P := isD) (B := B) (n := n) (i := b + 1) hB.1).1
        omega
      · omega
theorem bg_lt {B : Nat → Nat} {n : Nat} (hB : TB B n) {i : Nat} : ∀ {j : Nat}, vr B n j → i < j → bg B n i < bg B n j
  | 0, _, h => absurd h (Nat.not_lt_zero _)
  | j + 1, hv, h => by
    have h1 : bg B n j < bg B n (j + 1) := Nat.lt_of_lt_of_le (tkE_gt hB (hv j (Nat.lt_succ_self _)).1) (rn_ok (P := isBk) (B := B) (n := n) (i := tkE B n (bg B n j)) hB.1).1
    by_cases e : i = j
    · rw [e]; exact h1
    · exact Nat.lt_trans (bg_lt hB (j := j) (fun q hq => hv q (by omega)) (by omega)) h1
def TxM (σ : Mm) (B : Nat → Nat) (n : Nat) : Prop := ∀ r, r ≤ 400 → vm B n r → RowM σ B n r (bg B n r)
def RT (σ : Mm) (B : Nat → Nat) (n t : Nat) : Prop := TB B n ∧ TxM σ B n ∧ vr B n t ∧ t ≤ 400 ∧ gI σ 160 11 = nI t ∧ gI σ 160 13 = 0
def FM (σ : Mm) (B : Nat → Nat) (n : Nat) (e : Nat × Nat) : Prop := gI σ 160 13 = nI e.1 ∧ (e.1 = 1 ∨ e.1 = 2) ∧ gI σ 160 14 = nI (bg B n e.2)
def RX (σ : Mm) (B : Nat → Nat) (n : Nat) : PR Nat → Prop
  | .inl e => FM σ B n e
  | .inr t => RT σ B n t
def WSt {α : Type} (σ : Mm) (B : Nat → Nat) (n b : Nat) : PR α → Prop
  | .inl e => gI σ 160 15 = nI e.1 ∧ gI σ 160 16 = nI (bg B n e.2) ∧ 3 ≤ e.1 ∧ e.1 ≤ 5 ∧ e.2 < b
  | .inr _ => gI σ 160 15 = 0
theorem TxM.eq {σ τ : Mm} {B : Nat → Nat} {n : Nat} (h : TxM σ B n) (e : EqOn [(163, 4, none)] σ τ) : TxM τ B n := fun r hr hv => by
  obtain ⟨a, b, c, d⟩ := h r hr hv
  have w : ∀ c k, 163 ≤ c → c < 167 → wIn [(163, 4, none)] c k := fun c k h1 h2 => wIn_r 0 rfl h1 h2
  refine ⟨by rw [e.I (w _ _ (by decide) (by decide))]; exact a, by rw [e.I (w _ _ (by decide) (by decide))]; exact b, fun h => by rw [e.I (w _ _ (by decide) (by decide))]; exact c h, fun h => by rw [(e _ _ (w _ _ (by decide) (by decide))).2.1]; exact d h⟩
def D_X : Wr := [(160, 1, some 11), (160, 1, some 13), (160, 1, some 14), (163, 4, none)]
theorem RX.eq {σ τ : Mm} {B : Nat → Nat} {n : Nat} {s : PR Nat} (h : RX σ B n s) (e : EqOn D_X σ τ) : RX τ B n s := by
  cases s with
  | inl a =>
    obtain ⟨h1, h2, h3⟩ := h
    exact ⟨by rw [e.I (wIn_s 1 rfl)]; exact h1, h2, by rw [e.I (wIn_s 2 rfl)]; exact h3⟩
  | inr t =>
    obtain ⟨h1, h2, h3, h4, h5, h6⟩ := h
    exact ⟨h1, h2.eq (e.sub (by decide)), h3, h4, by rw [e.I (wIn_s 0 rfl)]; exact h5, by rw [e.I (wIn_s 1 rfl)]; exact h6⟩
def D_WS : Wr := [(160, 1, some 15), (160, 1, some 16)]
theorem WSt.eq {α : Type} {σ τ : Mm} {B : Nat → Nat} {n b b' : Nat} {w : PR α} (h : WSt σ B n b w) (hb : b ≤ b') (e : EqOn D_WS σ τ) : WSt τ B n b' w := by
  cases w with
  | inl a =>
    obtain ⟨h1, h2, h3, h4, h5⟩ := h
    exact ⟨by rw [e.I (wIn_s 0 rfl)]; exact h1, by rw [e.I (wIn_s 1 rfl)]; exact h2, h3, h4, by omega⟩
  | inr t =>
    have h : gI σ 160 15 = 0 := h
    show gI τ 160 15 = 0
    rw [e.I (wIn_s 0 rfl)]; exact h
theorem Ok.fr {α : Type} {L : Wr} {σ : Mm} {P : α → Mm → Prop} {x : Option (α × Mm)} (h : Ok x P) (hf : ∀ r τ, x = some (r, τ) → Same L σ τ) : Ok x (fun r τ => P r τ ∧ Same L σ τ) := by
  refine h.run.mono ?_
  rintro r τ ⟨h1, h2⟩
  exact ⟨h1, hf r τ h2⟩
theorem RT.row {σ : Mm} {B : Nat → Nat} {n t : Nat} (h : RT σ B n t) : gI σ 163 t = nI (km (kK B n t)) ∧ gI σ 164 t = nI (bg B n t) ∧ (kK B n t = 3 → gI σ 165 t = nI (vV B n t)) ∧ (kK B n t = 2 → gL σ 166 t = lN (rf 27 (wW B n t))) := h.2.1 t h.2.2.2.1 (vr_vm h.2.2.1)
theorem kK_lt {B : Nat → Nat} {n t : Nat} : kK B n t < 35 := tkK_lt
theorem FM.n0 {σ : Mm} {B : Nat → Nat} {n : Nat} {e : Nat × Nat} (h : FM σ B n e) : ¬ gI σ 160 13 = 0 ∧ ¬ gI σ 160 13 ≤ 0 ∧ 0 < gI σ 160 13 := by
  obtain ⟨h1, h2, -⟩ := h
  rw [h1]
  rcases h2 with e | e <;> rw [e] <;> decide
theorem r_isN {N : Nat} {σ : Mm} {B : Nat → Nat} {n t k : Nat} (h : RT σ B n t) (hk : k < 35) : f11_is N (nI (km k)) σ = some (b2 (decide (kK B n t = k)), σ) := by
  obtain ⟨h1, h2, h3, h4, h5, h6⟩ := id h
  have a1 := km_lt k hk
  have a2 := km_lt _ (kK_lt (B := B) (n := n) (t := t))
  unfold f11_is
  rw [if_pos h6, h5, zc_t (inBn (by omega) (by decide)), ixn (by omega), h.row.1]
  by_cases c : kK B n t = k
  · rw [if_pos (by rw [c]), decide_eq_true c]; rfl
  · rw [if_neg (fun e => c (km_inj _ kK_lt _ hk ((nI_eq (by omega) (by omega)).mp e))), decide_eq_false c]; rfl
theorem r_isF {N : Nat} {σ : Mm} {B : Nat → Nat} {n : Nat} {e : Nat × Nat} {x : Int32} (h : FM σ B n e) : f11_is N x σ = some (0, σ) := by
  unfold f11_is
  rw [if_neg h.n0.1]
theorem r_failF {N : Nat} {σ : Mm} {B : Nat → Nat} {n : Nat} {e : Nat × Nat} {x : Int32} (h : FM σ B n e) : f11_fail N x σ = some ((), σ) := by
  unfold f11_fail
  rw [if_neg h.n0.2.1]
theorem r_failN {N : Nat} {σ : Mm} {B : Nat → Nat} {n t k : Nat} (h : RT σ B n t) (hk : k = 1 ∨ k = 2) : Ok (f11_fail N (nI k) σ) (fun _ τ => FM τ B n (k, t)) := by
  obtain ⟨h1, h2, h3, h4, h5, h6⟩ := id h
  unfold f11_fail
  rw [if_pos (by rw [h6]; decide), z_l_eq, gI_k (by decide), h5]
  refine Ok.c (inBn (by omega) (by decide)) ?_
  rw [ixn (by omega), gI_o (by decide), h.row.2.1, z_l_eq]
  exact Ok.ret ⟨by rw [gI_k (by decide), gI_e], hk, gI_e⟩
theorem r_goN {N : Nat} {σ : Mm} {B : Nat → Nat} {n t : Nat} (h : RT σ B n t) (hk : 2 ≤ kK B n t) : Ok (f11_goesOn N σ) (fun _ τ => RX τ B n (tk1 (kK B n) (kK B n t) t)) := by
  obtain ⟨h1, h2, h3, h4, h5, h6⟩ := id h
  unfold f11_goesOn tk1
  rw [h5, if_pos rfl]
  by_cases c : t < 400
  · rw [if_pos c]
    refine Ok.f (fun e => absurd ((nI_eq (b := 400) (by omega) (by decide)).mp e) (by omega)) ?_
    rw [nI_1, z_l_eq]
    refine Ok.ret ⟨h1, h2.eq (EqOn_sI EqOn.rf (by decide)), fun r hr => ?_, by omega, gI_e, by rw [gI_k (by decide)]; exact h6⟩
    by_cases e : r = t
    · rw [e]
      have : kK B n t = tkK B n (bg B n t) := rfl
      omega
    · exact h3 r (by omega)
  · rw [if_neg c]
    refine Ok.t (by rw [show t = 400 by omega]; rfl) (Ok.b (r_failN (k := 2) h (Or.inr rfl)) ?_)
    rintro - τ hτ
    exact Ok.ret hτ
theorem r_goF {N : Nat} {σ : Mm} {B : Nat → Nat} {n : Nat} {e : Nat × Nat} (h : FM σ B n e) : Ok (f11_goesOn N σ) (fun _ τ => FM τ B n e) := by
  unfold f11_goesOn
  refine Ok.i (fun _ => ?_) (fun _ => ?_)
  · rw [r_failF h, z_b_some]
    exact Ok.ret h
  · rw [z_l_eq]
    exact Ok.ret ⟨by rw [gI_k (by decide)]; exact h.1, h.2.1, by rw [gI_k (by decide)]; exact h.2.2⟩
theorem r_must {N : Nat} {σ : Mm} {B : Nat → Nat} {n k : Nat} {s : PR Nat} (h : RX σ B n s) (hk : k < 35) (hk2 : 2 ≤ k) : Ok (f11_must N (nI (km k)) σ) (fun _ τ => RX τ B n (bP s (tk1 (kK B n) k)) ∧ Same wr11_must σ τ) := by
  refine Ok.fr ?_ fun r τ e => fr11_must N e
  unfold f11_must
  cases s with
  | inl e =>
    have h : FM σ B n e := h
    rw [r_isF h, z_b_some]
    refine Ok.t rfl ?_
    rw [r_failF h, z_b_some]
    exact Ok.ret h
  | inr t =>
    have h : RT σ B n t := h
    rw [r_isN h hk, z_b_some]
    show Ok _ (fun _ τ => RX τ B n (tk1 (kK B n) k t))
    by_cases c : kK B n t = k
    · rw [decide_eq_true c]
      refine Ok.f (by decide) (Ok.b (r_goN h (by omega)) ?_)
      rintro - τ hτ
      rw [c] at hτ
      exact Ok.ret hτ
    · rw [decide_eq_false c, show tk1 (kK B n) k t = .inl (1, t) by unfold tk1; rw [if_neg c]]
      refine Ok.t rfl (Ok.b (r_failN (k := 1) h (Or.inl rfl)) ?_)
      rintro - τ hτ
      exact Ok.ret hτ
/-- a wrong: the first one stays -/
theorem r_wrong {N : Nat} {σ : Mm} {B : Nat → Nat} {n t j k : Nat} {w : PR Unit} (h : RT σ B n t) (hj : j ≤ t) (hw : WSt σ B n j w) (hk : 3 ≤ k) (hk5 : k ≤ 5) : Ok (f11_wrong N (nI k) (nI j) σ) (fun _ τ => WSt τ B n (j + 1) (bP w fun _ => (.inl (k, j) : PR Unit)) ∧ Same [(160, 1, some 15), (160, 1, some 16)] σ τ) := by
  obtain ⟨h1, h2, h3, h4, h5, h6⟩ := id h
  have hr := (h2 j (by omega) (vr_vm fun q hq => h3 q (by omega))).2.1
  have hlt := bg_le (B := B) h1.1 j
  unfold f11_wrong
  rw [h6, ixn (by omega), hr]
  refine Ok.c (inBn (by omega) (by decide)) (Ok.l (Ok.f (by decide) ?_))
  cases w with
  | inl e =>
    obtain ⟨w1, w2, w3, w4, w5⟩ := id hw
    have hbg := bg_lt h1 (j := j) (fun q hq => h3 q (by omega)) w5
    rw [w1, w2]
    refine Ok.f (fun e0 => ?_) (Ok.t (nI_lt hbg (by have := h1.1; omega)) (Ok.ret ⟨⟨w1, w2, w3, w4, by omega⟩, fun _ _ _ => ⟨rfl, rfl, rfl⟩⟩))
    have e0 : nI e.1 = nI 0 := e0
    rw [nI_eq (by omega) (by decide)] at e0
    omega
  | inr u =>
    have hw : gI σ 160 15 = 0 := hw
    rw [hw]
    refine Ok.t rfl ?_
    rw [f11_wrong_46, z_l_eq, z_l_eq]
    exact Ok.ret ⟨⟨by rw [gI_k (by decide), gI_e], gI_e, hk, hk5, Nat.lt_succ_self _⟩, (Same_sI (i := 0) rfl).tr (Same_sI (i := 1) rfl)⟩
/-- where the look is, and what is wrong so far -/
def RWt (σ : Mm) (B : Nat → Nat) (n : Nat) (s : PR Nat) (w : PR Unit) : Prop := RX σ B n s ∧ ∀ t, s = .inr t → WSt σ B n t w
theorem tk1_st {K : Nat → Nat} {s : PR Nat} {k t t' : Nat} (hs : ∀ t', s = .inr t' → t' = t) (h : bP s (tk1 K k) = .inr t') : s = .inr t ∧ t' = t + 1 ∧ K t = k ∧ t < 400 := by
  obtain ⟨u, h1, h2⟩ := bP_inr h
  have := hs u h1
  subst this
  obtain ⟨a, b, c⟩ := tk1_ok h2
  exact ⟨h1, a, b, c⟩
theorem RWt.must {N : Nat} {σ : Mm} {B : Nat → Nat} {n k t : Nat} {s : PR Nat} {w : PR Unit} (h : RWt σ B n s w) (hs : ∀ t', s = .inr t' → t' = t) (hk : k < 35) (hk2 : 2 ≤ k) : Ok (f11_must N (nI (km k)) σ) (fun _ τ => RWt τ B n (bP s (tk1 (kK B n) k)) w ∧ Same wr11_must σ τ) := by
  refine (r_must h.1 hk hk2).mono ?_
  rintro - τ ⟨a, b⟩
  refine ⟨⟨a, fun t' ht' => ?_⟩, b⟩
  obtain ⟨h1, h2, -⟩ := tk1_st hs ht'
  exact (h.2 t h1).eq (by omega) (b.on (by decide))
theorem Same.sub {L L' : Wr} {σ τ : Mm} (h : Same L σ τ) (hs : ∀ a ∈ L, a ∈ L') : Same L' σ τ := fun id k hn => h id k fun ⟨a, ha, hb⟩ => hn ⟨a, hs a ha, hb⟩
theorem r_bounded {N : Nat} {σ : Mm} {B : Nat → Nat} {n lo hi t : Nat} {s : PR Nat} {w : PR Unit} (h : RWt σ B n s w) (hs : ∀ t', s = .inr t' → t' = t) (hlo : lo < 10000) (hhi : hi < 10000) : Ok (f11_bounded N (nI lo) (nI hi) σ) (fun r τ => RWt τ B n (bP s (tk1 (kK B n) 3)) (bP w fun _ => bP (rng (vV B n t) lo hi t) fun _ => .inr ()) ∧ (s = .inr t → kK B n t = 3 → r = nI (vV B n t)) ∧ Same wr11_bounded σ τ) := by
  suffices hh : Ok (f11_bounded N (nI lo) (nI hi) σ) (fun r τ => RWt τ B n (bP s (tk1 (kK B n) 3)) (bP w fun _ => bP (rng (vV B n t) lo hi t) fun _ => .inr ()) ∧ (s = .inr t → kK B n t = 3 → r = nI (vV B n t))) from (hh.fr fun r τ e => fr11_bounded N e).mono fun r τ ⟨⟨a, b⟩, c⟩ => ⟨a, b, c⟩
  unfold f11_bounded
  cases s with
  | inl e =>
    have hF : FM σ B n e := h.1
    refine Ok.t hF.n0.2.2 ?_
    rw [f11_bounded_15, r_failF hF, z_b_some]
    exact Ok.ret ⟨⟨hF, fun t' ht' => by cases ht'⟩, fun e => by cases e⟩
  | inr t' =>
    have := hs t' rfl
    subst this
    have hR : RT σ B n t' := h.1
    have hw := h.2 t' rfl
    obtain ⟨h1, h2, h3, h4, h5, h6⟩ := id hR
    rw [h6, show (2 : Int32) = nI (km 3) from rfl, r_isN hR (by decide), z_b_some]
    refine Ok.f (by decide) ?_
    show Ok _ (fun r τ => RWt τ B n (tk1 (kK B n) 3 t') (bP w fun _ => bP (rng (vV B n t') lo hi t') fun _ => .inr ()) ∧ _)
    by_cases c : kK B n t' = 3
    · rw [decide_eq_true c, h5, ixn (by omega), hR.row.2.2.1 c]
      have hv := vV_lt h1 c
      refine Ok.f (by decide) (Ok.c (inBn (by omega) (by decide)) (Ok.l ?_))
      have fin : ∀ {τ : Mm} {w' : PR Unit}, RT τ B n t' → WSt τ B n (t' + 1) w' → Ok (f11_bounded_51 N (nI (vV B n t')) τ) (fun r υ => RWt υ B n (tk1 (kK B n) 3 t') w' ∧ (((.inr t' : PR Nat) = .inr t') → kK B n t' = 3 → r = nI (vV B n t'))) := by
        intro τ w' hτ hw'
        rw [f11_bounded_51]
        refine Ok.b ((r_goN hτ (by omega)).fr fun r υ e => fr11_goesOn N e) ?_
        rintro - υ ⟨u1, u2⟩
        rw [c] at u1
        refine Ok.ret ⟨⟨u1, fun t2 ht2 => ?_⟩, fun _ _ => rfl⟩
        obtain ⟨rfl, -, -⟩ := tk1_ok ht2
        exact hw'.eq (Nat.le_refl _) (u2.on (by decide))
      have bad : ¬ (lo ≤ vV B n t' ∧ vV B n t' ≤ hi) → Ok (f11_bounded_42 N (nI (vV B n t')) σ) (fun r υ => RWt υ B n (tk1 (kK B n) 3 t') (bP w fun _ => bP (rng (vV B n t') lo hi t') fun _ => .inr ()) ∧ (((.inr t' : PR Nat) = .inr t') → kK B n t' = 3 → r = nI (vV B n t'))) := by
        intro hb
        rw [f11_bounded_42, h5, show (5 : Int32) = nI 5 from rfl, show (rng (vV B n t') lo hi t') = .inl (5, t') by unfold rng; rw [if_neg hb]]
        refine Ok.b (r_wrong hR (Nat.le_refl _) hw (by decide) (by decide)) ?_
        rintro - τ ⟨u1, u2⟩
        exact fin (RX.eq (s := .inr t') hR (u2.on (by decide))) u1
      refine Ok.i (fun c1 => ?_) (fun c1 => Ok.i (fun c2 => ?_) (fun c2 => ?_))
      · rw [nI_ltI (by omega) (by omega)] at c1
        exact bad (by omega)
      · rw [nI_ltI (by omega) (by omega)] at c1
        rw [nI_leI (by omega) (by omega)] at c2
        rw [show (rng (vV B n t') lo hi t') = .inr (vV B n t') by unfold rng; rw [if_pos ⟨by omega, c2⟩]]
        have e : (bP w fun _ => bP (.inr (vV B n t') : PR Nat) fun _ => (.inr () : PR Unit)) = w := by cases w <;> rfl
        rw [e]
        exact fin hR (hw.eq (by omega) EqOn.rf)
      · rw [nI_leI (by omega) (by omega)] at c2
        exact bad (by omega)
    · rw [decide_eq_false c]
      refine Ok.t rfl ?_
      rw [f11_bounded_15, show tk1 (kK B n) 3 t' = .inl (1, t') by unfold tk1; rw [if_neg c]]
      refine Ok.b (r_failN (k := 1) hR (Or.inl rfl)) ?_
      rintro - τ hτ
      exact Ok.ret ⟨⟨hτ, fun t2 ht2 => by cases ht2⟩, fun _ e => absurd e c⟩
