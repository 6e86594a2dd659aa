-- PAIRS: which, ask
def lft (d : Dt) (mo : Mo) (tw : Nat → Nat) (tb : Nat → Bool) : Nat → Nat → Bool
  | 0, _ => true
  | i + 1, g => lft d mo tw tb i g && (if tb i then swG d mo g (tw i) else !swG d mo g (tw i))
/-- what is told, by both -/
def ToldC (σ : Mm) (d : Dt) (tw : Nat → Nat) (tb : Nat → Bool) (t : Nat) : Prop := ∀ i, i < t → tw i < dW d ∧ gI σ 158 i = nI (tw i) ∧ ((gI σ 0 14 >>> (nI i &&& 31)) &&& 1) = b2 (tb i)
def ToldM (σ : Mm) (d : Dt) (tw : Nat → Nat) (tb : Nat → Bool) (t : Nat) : Prop := ∀ i, i < t → tw i < dW d ∧ gI σ 208 i = nI (tw i) ∧ gI σ 209 i = b2 (tb i)
theorem told_of {σ : Mm} {d : Dt} (hd : Dok d) (h : V_told σ (dW d)) : ∃ (t : Nat) (tw : Nat → Nat) (tb : Nat → Bool), t ≤ 20 ∧ gI σ 0 15 = nI t ∧ gI σ 160 69 = nI t ∧ ToldC σ d tw tb t ∧ ToldM σ d tw tb t := by
  obtain ⟨t, h1, h2, h3, h4⟩ := h
  refine ⟨t, fun i => ix (gI σ 158 i), fun i => decide (gI σ 209 i = 1), h1, h2, h3, fun i hi => ?_, fun i hi => ?_⟩
  · obtain ⟨⟨w, a, b, c⟩, e, f⟩ := h4 i hi
    have hb : w < 2 ^ 31 := by have := hd.2.2.1; omega
    refine ⟨by show ix (gI σ 158 i) < _; rw [b, ixn hb]; exact a, by show _ = nI (ix (gI σ 158 i)); rw [b, ixn hb], ?_⟩
    rw [e]
    rcases f with q | q <;> simp [q, b2]
  · obtain ⟨⟨w, a, b, c⟩, e, f⟩ := h4 i hi
    have hb : w < 2 ^ 31 := by have := hd.2.2.1; omega
    refine ⟨by show ix (gI σ 158 i) < _; rw [b, ixn hb]; exact a, by show _ = nI (ix (gI σ 158 i)); rw [b, ixn hb]; exact c, ?_⟩
    rcases f with q | q <;> simp [q, b2]
theorem c_leftBy {N : Nat} (hN : 4000 ≤ N) {σ : Mm} {o : Nat} {d : Dt} {mo : Mo} (hd : Dok d) (hc : CL N σ o d) (hm : CM σ 56 d mo) {tw : Nat → Nat} {tb : Nat → Bool} {t : Nat} (ht : t ≤ 20) (hT : ToldC σ d tw tb t) {k : Nat} (hk : k ≤ t) :
    Ok (f10_leftBy N (nI k) σ) (Rd D_C σ (nI (bs (lft d mo tw tb k) (dn d)))) := by
  obtain ⟨d1, d2, d3, d4, d5, d6, d7, d8⟩ := id hd
  unfold f10_leftBy
  rw [hm.2.2.2.1, sub1N (by omega), z_l_eq]
  refine Ok.lp (fun fu (a : Int32) i τ => f10_leftBy_14 N (nI k) fu a i τ) k (fun i a τ => a = nI (bs (lft d mo tw tb i) (dn d)) ∧ EqOn ([(0, 1, some 14), (158, 1, none)] ++ D_C) σ τ) ⟨rfl, EqOn.rf⟩ (by omega) ?_ ?_
  · rintro fu i a τ hi ⟨rfl, hE'⟩ kk
    have hE : EqOn D_C σ τ := hE'.sub fun _ ha => List.mem_append_right _ ha
    obtain ⟨t1, t2, t3⟩ := hT i (by omega)
    show Ok (f10_leftBy_14 N (nI k) (fu + 1) _ (nI i) τ) _
    rw [f10_leftBy_14, ixn (by omega), hE'.I (wIn_r 1 rfl (by decide) (by decide)), t2]
    refine Ok.f (nI_ngt hi (by omega)) (Ok.f (nI_ngt (n := 20) (by omega) (by decide)) (Ok.c (inBn (by omega) (by decide)) (Ok.b (c_swornToBy hN hd (hc.eq hE.C0) (hm.eq (Or.inl rfl) hE) (Or.inl rfl) t1).run ?_)))
    rintro r υ ⟨⟨rfl, hU⟩, er⟩
    have hE2 : EqOn ([(0, 1, some 14), (158, 1, none)] ++ D_C) σ υ := hE'.tr ((fr0_swornToBy N er).on rfl)
    have h32 : ∀ q : Nat → Bool, bs q (dn d) < 2 ^ 32 := fun q => Nat.lt_of_lt_of_le (bs_lt _) (Nat.pow_le_pow_right (by decide) (by omega))
    rw [hE2.I (wIn_s 0 rfl), t3]
    refine Ok.i (fun h => ?_) (fun h => ?_)
    · rw [b2_0] at h
      rw [f10_leftBy_68, z_l_eq, z_l_eq, nI_1, xor1, diffN (by omega)]
      refine kk _ _ ⟨?_, hE2⟩
      congr 1
      refine bs_congr fun g _ => ?_
      show _ = (lft d mo tw tb i g && _)
      rw [h, if_neg (by decide)]
    · rw [b2_0] at h
      rw [f10_leftBy_68, z_l_eq, z_l_eq, nI_1, andN (h32 _) (h32 _), bs_and]
      refine kk _ _ ⟨?_, hE2⟩
      congr 1
      refine bs_congr fun g _ => ?_
      show _ = (lft d mo tw tb i g && _)
      rw [show tb i = true by simpa using h, if_pos rfl]
  · rintro fu a τ ⟨rfl, hE'⟩
    show Ok (f10_leftBy_14 N (nI k) (fu + 1) _ (nI k) τ) _
    rw [f10_leftBy_14]
    exact Ok.t nI_rf (Ok.ret ⟨rfl, hE'.sub fun _ ha => List.mem_append_right _ ha⟩)
theorem r_whichBits {N : Nat} (hN : 4000 ≤ N) {σ : Mm} {v : Nat} {d : Dt} {mo : Mo} {sd : Int32} (hd : Dok d) (hS : MSt N σ v d mo sd) {tw : Nat → Nat} {tb : Nat → Bool} {t : Nat} (ht : t ≤ 20) (hT : ToldM σ d tw tb t) {k : Nat} (hk : k ≤ t) :
    Ok (f11_whichBits N (nI k) σ) (fun r τ => r = nI (bs (lft d mo tw tb k) (dn d)) ∧ ML N τ v d ∧ MR τ d mo) := by
  obtain ⟨d1, d2, d3, d4, d5, d6, d7, d8⟩ := id hd
  unfold f11_whichBits
  refine Ok.b (r_copies hN hd hS).run ?_
  rintro u τ ⟨⟨hM, -, -, -, -, hS2⟩, er⟩
  have hT2 : ∀ i, i < t → gI τ 208 i = nI (tw i) ∧ gI τ 209 i = b2 (tb i) := fun i hi => by
    have hf := (fr11_copies N er).on (D := [(208, 2, none)]) rfl
    rw [hf.I (wIn_r 0 rfl (by decide) (by decide)), hf.I (wIn_r 0 rfl (by decide) (by decide))]
    exact (hT i hi).2
  refine Ok.lp (fun fu (a : Int32) i ρ => f11_whichBits_8 N (nI k) fu a i ρ) (dn d) (fun i a ρ => a = nI (bs (lft d mo tw tb k) i) ∧ EqOn ((208, 2, none) :: D_M) τ ρ) ⟨rfl, EqOn.rf⟩ (by omega) ?_ ?_
  · rintro fu i a ρ hi ⟨rfl, hR'⟩ kk
    have hR : EqOn D_M τ ρ := hR'.sub fun _ ha => List.mem_cons_of_mem _ ha
    obtain ⟨ra, rl, r14, r15, r16, rg⟩ := hM.eq hR
    show Ok (f11_whichBits_8 N (nI k) (fu + 1) _ (nI i) ρ) _
    rw [f11_whichBits_8, ixl.2.2.2.2.2.2.2.2.2.2.1, r15]
    refine Ok.c rfl (Ok.f (nI_ngt hi (by omega)) (Ok.b (r_swearBits hN hd (hS2.1.eq hR.M0) (hM.eq hR) hi).run ?_))
    rintro r ρ2 ⟨⟨rfl, hR2⟩, er2⟩
    have hR3 : EqOn ((208, 2, none) :: D_M) τ ρ2 := hR'.tr ((fr11_swearBits N er2).on rfl)
    refine Ok.lp (fun fu2 (b : Int32) j ρ => f11_whichBits_32 N (fun x2 x3 σ => f11_whichBits_8 N (nI k) fu x2 x3 σ) (nI k) (nI (bs (lft d mo tw tb k) i)) (nI i) (nI (bs (swG d mo i) (dW d))) fu2 b j ρ) k (fun j b ρ => b = b2 (lft d mo tw tb j i) ∧ ρ = ρ2) ⟨rfl, rfl⟩ (by omega) ?_ ?_
    · rintro fu2 j b ρ3 hj ⟨rfl, rfl⟩ kk2
      obtain ⟨t1, -, -⟩ := hT j (by omega)
      obtain ⟨t2, t3⟩ := hT2 j (by omega)
      show Ok (f11_whichBits_32 N _ (nI k) _ (nI i) _ (fu2 + 1) _ (nI j) ρ3) _
      rw [f11_whichBits_32, ixn (by omega), hR3.I (wIn_r 0 rfl (by decide) (by decide)), hR3.I (wIn_r 0 rfl (by decide) (by decide)), t2, t3, bs_sr (by omega) t1]
      refine Ok.f (nI_ngt hj (by omega)) (Ok.c (inBn (by omega) (by decide)) (Ok.c (inBn (by omega) (by decide)) (Ok.i (fun h => ?_) (fun h => ?_))))
      · rw [f11_whichBits_63, z_l_eq, nI_1]
        refine kk2 _ _ ⟨?_, rfl⟩
        congr 1
        show _ = (lft d mo tw tb j i && _)
        cases e1 : tb j <;> cases e2 : swG d mo i (tw j) <;> rw [e1, e2] at h <;> first | exact absurd h (by decide) | simp
      · rw [f11_whichBits_63, z_l_eq, nI_1]
        refine kk2 _ _ ⟨?_, rfl⟩
        show (0 : Int32) = b2 (lft d mo tw tb j i && _)
        cases e1 : tb j <;> cases e2 : swG d mo i (tw j) <;> rw [e1, e2] at h <;> first | exact absurd rfl h | simp [b2]
    · rintro fu2 b ρ3 ⟨rfl, rfl⟩
      show Ok (f11_whichBits_32 N _ (nI k) _ (nI i) _ (fu2 + 1) _ (nI k) ρ3) _
      rw [f11_whichBits_32]
      refine Ok.t nI_rf ?_
      rw [f11_whichBits_69]
      refine Ok.i (fun h => ?_) (fun h => ?_)
      · rw [b2_0] at h
        rw [f11_whichBits_80, z_l_eq, nI_1]
        exact kk _ _ ⟨by rw [bs_skip h], hR3⟩
      · rw [b2_0] at h
        rw [z_l_eq, f11_whichBits_80, z_l_eq, nI_1, b1 (by omega), bs_step (p := lft d mo tw tb k) (by omega) (by simpa using h)]
        exact kk _ _ ⟨rfl, hR3⟩
  · rintro fu a ρ ⟨rfl, hR'⟩
    have hR : EqOn D_M τ ρ := hR'.sub fun _ ha => List.mem_cons_of_mem _ ha
    obtain ⟨ra, rl, r14, r15, r16, rg⟩ := hM.eq hR
    show Ok (f11_whichBits_8 N (nI k) (fu + 1) _ (nI (dn d)) ρ) _
    rw [f11_whichBits_8, ixl.2.2.2.2.2.2.2.2.2.2.1, r15]
    exact Ok.c rfl (Ok.t nI_rf (Ok.ret ⟨rfl, hS2.1.eq hR.M0, hM.eq hR⟩))
theorem ToldM.eq {σ τ : Mm} {d : Dt} {tw : Nat → Nat} {tb : Nat → Bool} {t : Nat} (hE : EqOn D_all σ τ) (h : ToldM σ d tw tb t) : ToldM τ d tw tb t := fun i hi => by
  have hf := hE.sub (D' := [(208, 2, none)]) (by decide)
  rw [hf.I (wIn_r 0 rfl (by decide) (by decide)), hf.I (wIn_r 0 rfl (by decide) (by decide))]
  exact h i hi
theorem told69 {σ τ : Mm} (hE : EqOn D_all σ τ) : gI τ 160 69 = gI σ 160 69 := (hE.sub (D' := [(160, 1, some 69)]) (by decide)).I (wIn_s 0 rfl)
theorem inT_t {N t : Nat} {x : Int32} {σ : Mm} (ht : t < 2 ^ 29) (h : isN x (t + 1)) : f11_in N x 0 (nI t) σ = some (1, σ) := by
  rw [show nI t = nI (t + 1) - 1 from (nI_pred t).symm]
  exact in_t (by omega) h
theorem inT_f {N t : Nat} {x : Int32} {σ : Mm} (ht : t < 2 ^ 29) (h : ¬ isN x (t + 1)) : f11_in N x 0 (nI t) σ = some (0, σ) := by
  rw [show nI t = nI (t + 1) - 1 from (nI_pred t).symm]
  exact in_f (by omega) h
theorem kT_f {t : Nat} {x : Int32} (ht : t < 2 ^ 29) (h : ¬ isN x (t + 1)) (h0 : ¬ x < 0) : nI t < x := by
  obtain ⟨j, hj, rfl⟩ := nI_of h0
  by_cases c : j < t + 1
  · exact absurd ⟨j, c, rfl⟩ h
  · exact nI_lt (by omega) hj
theorem pr_which {N : Nat} (hN : 4000 ≤ N) : ∀ (x1 x2 : Int32) (σ : Mm), Inv N σ → ∃ (r : Int32) (σ1 σ2 : Mm), f10_which N x1 x2 σ = some (r, σ1) ∧ f11_which N x1 x2 σ1 = some (r, σ2) ∧ Inv N σ2 := by
  intro x1 x2 σ hI
  obtain ⟨o, v, d, mo, hB⟩ := bridgeI hI
  obtain ⟨hd, hk, hc, hm, hcM, hn, hsd, hInv⟩ := id hB
  have hL := hInv.2.2.1
  have hNw := hInv.2.2.2.2.1
  obtain ⟨d1, d2, d3, d4, d5, d6, d7, d8⟩ := id hd
  obtain ⟨t, tw, tb, ht, h15, h69, hTC, hTM⟩ := told_of hd hInv.2.2.2.2.2.2.2.1
  by_cases hx : isN x1 (t + 1)
  · by_cases hz : x2 = 0 ∨ x2 = 1
    · obtain ⟨k, hk', rfl⟩ := id hx
      refine pairR hI (fun _ _ e => fr10_which N e) rfl (fun _ _ _ e => fr11_which N e) rfl (if x2 = 0 then nI (cnt (lft d mo tw tb k) (dn d)) else nI (bs (lft d mo tw tb k) (dn d))) ?_ (fun τ hE => ?_)
      · have h23 : Ok (f10_which_23 N (nI k) x2 σ) (fun r _ => r = if x2 = 0 then nI (cnt (lft d mo tw tb k) (dn d)) else nI (bs (lft d mo tw tb k) (dn d))) := by
          refine Ok.b (c_leftBy hN hd hc hm ht hTC (by omega)) ?_
          rintro r υ ⟨rfl, -⟩
          exact Ok.ii (fun _ => Ok.ret (bitC_bs d5)) (fun _ => Ok.ret rfl)
        unfold f10_which
        rw [h15]
        refine Ok.f (nI_pos (by omega)) (Ok.f (nI_nlt (by omega) (by omega)) ?_)
        rcases hz with h | h
        · exact Ok.t h h23
        · exact Ok.f (by rw [h]; decide) (Ok.t h h23)
      · unfold f11_which
        rw [told69 hE, h69]
        refine gd1 (inT_t (by omega) hx) (gd1 (in01_t hz) (Ok.b (r_whichBits hN hd (hB.S.eq hE) ht (hTM.eq hE) (by omega)) ?_))
        rintro r υ ⟨rfl, -⟩
        refine Ok.ii (fun _ => ?_) (fun _ => Ok.ret rfl)
        rw [r_bitsB hN d5, z_b_some]
        exact Ok.ret rfl
    · refine pairR hI (fun _ _ e => fr10_which N e) rfl (fun _ _ _ e => fr11_which N e) rfl (-1) ?_ (fun τ hE => ?_)
      · obtain ⟨k, hk', rfl⟩ := id hx
        unfold f10_which
        rw [h15]
        exact Ok.f (nI_pos (by omega)) (Ok.f (nI_nlt (by omega) (by omega)) (Ok.f (fun c => hz (Or.inl c)) (Ok.f (fun c => hz (Or.inr c)) (Ok.ret rfl))))
      · unfold f11_which
        rw [told69 hE, h69]
        exact gd1 (inT_t (by omega) hx) (gd0 (in01_f hz) (Ok.ret rfl))
  · refine pairR hI (fun _ _ e => fr10_which N e) rfl (fun _ _ _ e => fr11_which N e) rfl (-1) ?_ (fun τ hE => ?_)
    · unfold f10_which
      rw [h15]
      by_cases c : x1 < 0
      · exact Ok.t c (Ok.ret rfl)
      · exact Ok.f c (Ok.t (kT_f (by omega) hx c) (Ok.ret rfl))
    · unfold f11_which
      rw [told69 hE, h69]
      exact gd0 (inT_f (by omega) hx) (Ok.ret rfl)
theorem cnt_sub {p q : Nat → Bool} : ∀ {n : Nat}, (∀ i, i < n → p i = true → q i = true) → cnt p n ≤ cnt q n
  | 0, _ => Nat.le_refl _
  | n + 1, h => by
    have ih := cnt_sub (n := n) fun i hi => h i (by omega)
    unfold cnt
    cases e : p n
    · simp; omega
    · simp [h n (by omega) e]; omega
def wrst (d : Dt) (mo : Mo) (l : Nat → Bool) (w : Nat) : Nat := max (cnt (fun g => l g && swG d mo g w) (dn d)) (cnt l (dn d) - cnt (fun g => l g && swG d mo g w) (dn d))
theorem pr_ask {N : Nat} (hN : 4000 ≤ N) : ∀ (x1 : Int32) (σ : Mm), Inv N σ → ∃ (r : Int32) (σ1 σ2 : Mm), f10_ask N x1 σ = some (r, σ1) ∧ f11_ask N x1 σ1 = some (r, σ2) ∧ Inv N σ2 := by
  intro x1 σ hI
  obtain ⟨o, v, d, mo, hB⟩ := bridgeI hI
  obtain ⟨hd, hk, hc, hm, hcM, hn, hsd, hInv⟩ := id hB
  have hL := hInv.2.2.1
  have hNw := hInv.2.2.2.2.1
  obtain ⟨d1, d2, d3, d4, d5, d6, d7, d8⟩ := id hd
  obtain ⟨t, tw, tb, ht, h15, h69, hTC, hTM⟩ := told_of hd hInv.2.2.2.2.2.2.2.1
  by_cases hx : isN x1 (t + 1)
  · obtain ⟨k, hk', rfl⟩ := id hx
    obtain ⟨l, hl⟩ : ∃ l, l = lft d mo tw tb k := ⟨_, rfl⟩
    have hbl : bs l (dn d) < 2 ^ 31 := Nat.lt_of_lt_of_le (bs_lt _) (Nat.pow_le_pow_right (by decide) (by omega))
    have hcl := cnt_le (p := l) (dn d)
    have hcs : ∀ w, cnt (fun g => l g && swG d mo g w) (dn d) ≤ cnt l (dn d) := fun w => cnt_sub fun i _ h => by rw [Bool.and_eq_true] at h; exact h.1
    have hws : ∀ w, wrst d mo l w ≤ 20 := fun w => by unfold wrst; have := hcs w; omega
    by_cases hz : bs l (dn d) = 0
    · refine pairR hI (fun _ _ e => fr10_ask N e) rfl (fun _ _ _ e => fr11_ask N e) rfl (-2) ?_ (fun τ hE => ?_)
      · unfold f10_ask
        rw [h15]
        refine Ok.f (nI_pos (by omega)) (Ok.t (nI_le (by omega) (by omega)) (Ok.b (c_leftBy hN hd hc hm ht hTC (by omega)) ?_))
        rintro r υ ⟨rfl, -⟩
        rw [← hl, hz]
        exact Ok.t rfl (Ok.ret rfl)
      · unfold f11_ask
        rw [told69 hE, h69]
        refine gd1 (inT_t (by omega) hx) (Ok.b (r_whichBits hN hd (hB.S.eq hE) ht (hTM.eq hE) (by omega)) ?_)
        rintro r υ ⟨rfl, hcU, hMU⟩
        obtain ⟨hv2, h18, hP, hQ, hW, hK, hpl, hme, hlaw⟩ := id hcU
        rw [← hl, hz]
        obtain ⟨fu, hfu⟩ : ∃ fu, N = fu + 1 := ⟨N - 1, by omega⟩
        have e : Ok (f11_ask_29 N (nI 0) (fu + 1) (-2) 0 0 υ) (fun r _ => r = -2) := by
          rw [f11_ask_29, h18]
          refine Ok.c (inBn hv2 (by decide)) (Ok.i (fun _ => Ok.ret rfl) (fun _ => Ok.t rfl (Ok.ret rfl)))
        rw [← hfu] at e
        exact e
    · have hnz : ¬ nI (bs l (dn d)) = 0 := fun c => hz ((nI_eq (b := 0) hbl (by decide)).mp c)
      refine pairR hI (fun _ _ e => fr10_ask N e) rfl (fun _ _ _ e => fr11_ask N e) rfl (e1 (bst ltB (fun _ => true) (wrst d mo l) (dW d))) ?_ (fun τ hE => ?_)
      · unfold f10_ask
        rw [h15]
        refine Ok.f (nI_pos (by omega)) (Ok.t (nI_le (by omega) (by omega)) (Ok.b (c_leftBy hN hd hc hm ht hTC (by omega)) ?_))
        rintro r σ1 ⟨rfl, hE1⟩
        rw [← hl]
        refine Ok.f hnz ?_
        refine Ok.lp (fun fu (a : Int32 × Int32) i τ => f10_ask_37 N (nI (bs l (dn d))) fu a.1 a.2 i τ) (dW d) (fun i a τ => a = (e1 (bst ltB (fun _ => true) (wrst d mo l) i), e2 21 (bst ltB (fun _ => true) (wrst d mo l) i)) ∧ EqOn D_C σ τ) (a := (-2, 21)) ⟨rfl, hE1⟩ (by omega) ?_ ?_
        · rintro fu i a τ hi ⟨rfl, hE⟩ kk
          obtain ⟨ho, hl3, hl, hP, hQ, hW, hK, hpl, hme, hgv, hlaw, hv⟩ := hc.eq hE.C0
          show Ok (f10_ask_37 N _ (fu + 1) _ _ (nI i) τ) _
          rw [f10_ask_37]
          refine Ok.r hl3 (kd_land ho) (Ok.f (by rw [hW]; exact nI_ngt hi (by omega)) (Ok.b (c_swornToBy hN hd (hc.eq hE.C0) (hm.eq (Or.inl rfl) hE) (Or.inl rfl) hi) ?_))
          rintro r υ ⟨rfl, hU⟩
          have h32 : ∀ q : Nat → Bool, bs q (dn d) < 2 ^ 32 := fun q => Nat.lt_of_lt_of_le (bs_lt _) (Nat.pow_le_pow_right (by decide) (by omega))
          rw [z_l_eq, z_l_eq, andN (h32 _) (h32 _), bs_and, bitC_bs d5, bitC_bs d5, pk_sub (hcs i)]
          have hc1 := hcs i
          have ew : mxI (nI (cnt (fun g => l g && swG d mo g i) (dn d))) (nI (cnt l (dn d) - cnt (fun g => l g && swG d mo g i) (dn d))) = nI (wrst d mo l i) := by
            show (if _ < _ then _ else _) = _
            unfold wrst
            by_cases c : cnt (fun g => l g && swG d mo g i) (dn d) < cnt l (dn d) - cnt (fun g => l g && swG d mo g i) (dn d)
            · rw [if_pos (nI_lt c (by omega)), Nat.max_eq_right (by omega)]
            · rw [if_neg (nI_nlt (by omega) (by omega)), Nat.max_eq_left (by omega)]
          rw [ew]
          have hE2 := hE.tr hU
          have hwi := hws i
          cases hb : bst ltB (fun _ => true) (wrst d mo l) i with
          | none =>
            refine Ok.f (show ¬ nI 21 ≤ nI (wrst d mo l i) from nI_ngt (by omega) (by decide)) ?_
            rw [f10_ask_97, z_l_eq, nI_1]
            exact kk (_, _) _ ⟨by rw [mn_n hb rfl] <;> rfl, hE2⟩
          | some q =>
            have hq := bst_ok hb
            have hq2 := hws q.1
            refine Ok.i (fun h2 => ?_) (fun h2 => ?_)
            · have h2 : nI q.2 ≤ nI (wrst d mo l i) := h2
              rw [nI_leI (by omega) (by omega)] at h2
              rw [f10_ask_97, z_l_eq, nI_1]
              exact kk (_, _) _ ⟨by rw [mn_keep hb (by omega), hb] <;> rfl, hE2⟩
            · have h2 : ¬ nI q.2 ≤ nI (wrst d mo l i) := h2
              rw [nI_leI (by omega) (by omega)] at h2
              rw [f10_ask_97, z_l_eq, nI_1]
              exact kk (_, _) _ ⟨by rw [mn_set hb rfl (by omega)] <;> rfl, hE2⟩
        · rintro fu a τ ⟨rfl, hE⟩
          obtain ⟨ho, hl3, hl, hP, hQ, hW, hK, hpl, hme, hgv, hlaw, hv⟩ := hc.eq hE.C0
          show Ok (f10_ask_37 N _ (fu + 1) _ _ (nI (dW d)) τ) _
          rw [f10_ask_37]
          exact Ok.r hl3 (kd_land ho) (Ok.t (by rw [hW]; exact nI_rf) (Ok.ret rfl))
      · unfold f11_ask
        rw [told69 hE, h69]
        refine gd1 (inT_t (by omega) hx) (Ok.b (r_whichBits hN hd (hB.S.eq hE) ht (hTM.eq hE) (by omega)) ?_)
        rintro r υ ⟨rfl, hcU, hMU⟩
        rw [← hl]
        refine Ok.lp (fun fu (a : Int32 × Int32) i ρ => f11_ask_29 N (nI (bs l (dn d))) fu a.1 a.2 i ρ) (dW d) (fun i a ρ => a = (e1 (bst ltB (fun _ => true) (wrst d mo l) i), e2 0 (bst ltB (fun _ => true) (wrst d mo l) i)) ∧ EqOn D_M υ ρ) (a := (-2, 0)) ⟨rfl, EqOn.rf⟩ (by omega) ?_ ?_
        · rintro fu i a ρ hi ⟨rfl, hR⟩ kk
          obtain ⟨hv2, h18, hP, hQ, hW, hK, hpl, hme, hlaw⟩ := hcU.eq hR.M0
          show Ok (f11_ask_29 N _ (fu + 1) _ _ (nI i) ρ) _
          rw [f11_ask_29, h18, ixn (by omega), hW]
          refine Ok.c (inBn hv2 (by decide)) (Ok.f (nI_ngt hi (by omega)) (Ok.f hnz ?_))
          refine Ok.lp (fun fu2 (b : Int32) j ρ => f11_ask_53 N (fun x3 x4 x5 σ => f11_ask_29 N (nI (bs l (dn d))) fu x3 x4 x5 σ) (nI (bs l (dn d))) (e1 (bst ltB (fun _ => true) (wrst d mo l) i)) (e2 0 (bst ltB (fun _ => true) (wrst d mo l) i)) (nI i) fu2 b j ρ) (dn d) (fun j b ρ2 => b = nI (cnt (fun g => l g && swG d mo g i) j) ∧ EqOn D_M υ ρ2) ⟨rfl, hR⟩ (by omega) ?_ ?_
          · rintro fu2 j b ρ2 hj ⟨rfl, hR2⟩ kk2
            obtain ⟨ra, rl, r14, r15, r16, rg⟩ := hMU.eq hR2
            show Ok (f11_ask_53 N _ _ _ _ (nI i) (fu2 + 1) _ (nI j) ρ2) _
            rw [f11_ask_53, ixl.2.2.2.2.2.2.2.2.2.2.1, r15, bs_sr d5 hj]
            refine Ok.c rfl (Ok.f (nI_ngt hj (by omega)) (Ok.i (fun h => Ok.b (r_doesSwear hN hd (hcU.eq hR2.M0) (hMU.eq hR2) hi hj) ?_) (fun h => ?_)))
            · rintro r ρ3 ⟨rfl, hR3⟩
              rw [b2_1] at h
              refine Ok.i (fun h2 => ?_) (fun h2 => ?_)
              · rw [b2_0] at h2
                rw [f11_ask_89, z_l_eq, nI_1]
                exact kk2 _ _ ⟨by rw [cnt_skip (p := fun g => l g && swG d mo g i) (i := j) (by simp only [h2, Bool.and_false])], hR2.tr hR3⟩
              · rw [b2_0] at h2
                rw [z_l_eq, f11_ask_89, z_l_eq, nI_1, nI_1]
                exact kk2 _ _ ⟨by rw [cnt_step (p := fun g => l g && swG d mo g i) (i := j) (by simp only [h, Bool.true_and]; simpa using h2)], hR2.tr hR3⟩
            · rw [b2_1] at h
              rw [f11_ask_89, z_l_eq, nI_1]
              exact kk2 _ _ ⟨by rw [cnt_skip (p := fun g => l g && swG d mo g i) (i := j) (by simp only [show l j = false by simpa using h, Bool.false_and])], hR2⟩
          · rintro fu2 b ρ2 ⟨rfl, hR2⟩
            obtain ⟨ra, rl, r14, r15, r16, rg⟩ := hMU.eq hR2
            show Ok (f11_ask_53 N _ _ _ _ (nI i) (fu2 + 1) _ (nI (dn d)) ρ2) _
            rw [f11_ask_53, ixl.2.2.2.2.2.2.2.2.2.2.1, r15]
            refine Ok.c rfl (Ok.t nI_rf ?_)
            have hc1 := hcs i
            have hwi := hws i
            -- the last step
            have h119 : Ok (f11_ask_119 N (fun x3 x4 x5 σ => f11_ask_29 N (nI (bs l (dn d))) fu x3 x4 x5 σ) (nI (bs l (dn d))) (e1 (bst ltB (fun _ => true) (wrst d mo l) i)) (e2 0 (bst ltB (fun _ => true) (wrst d mo l) i)) (nI i) (nI (wrst d mo l i)) ρ2) (fun r _ => r = e1 (bst ltB (fun _ => true) (wrst d mo l) (dW d))) := by
              rw [f11_ask_119]
              cases hb : bst ltB (fun _ => true) (wrst d mo l) i with
              | none =>
                refine Ok.t (show (-2 : Int32) < 0 by decide) ?_
                rw [f11_ask_135, f11_ask_142, z_l_eq, nI_1]
                exact kk (_, _) _ ⟨by rw [mn_n hb rfl] <;> rfl, hR2⟩
              | some q =>
                have hq := bst_ok hb
                have hq2 := hws q.1
                refine Ok.f (show ¬ nI q.1 < 0 from nI_pos (by omega)) (Ok.i (fun h2 => ?_) (fun h2 => ?_))
                · have h2 : nI (wrst d mo l i) < nI q.2 := h2
                  rw [nI_ltI (by omega) (by omega)] at h2
                  rw [f11_ask_135, f11_ask_142, z_l_eq, nI_1]
                  exact kk (_, _) _ ⟨by rw [mn_set hb rfl h2] <;> rfl, hR2⟩
                · have h2 : ¬ nI (wrst d mo l i) < nI q.2 := h2
                  rw [nI_ltI (by omega) (by omega)] at h2
                  rw [f11_ask_142, z_l_eq, nI_1]
                  exact kk (_, _) _ ⟨by rw [mn_keep hb h2, hb] <;> rfl, hR2⟩
            rw [f11_ask_95, r_bitsB hN d5, z_b_some, pk_sub hc1]
            refine Ok.i (fun h => ?_) (fun h => ?_)
            · rw [nI_leI (by omega) (by omega)] at h
              rw [r_bitsB hN d5, z_b_some, pk_sub hc1, show cnt l (dn d) - cnt (fun g => l g && swG d mo g i) (dn d) = wrst d mo l i by unfold wrst; omega]
              exact h119
            · rw [nI_leI (by omega) (by omega)] at h
              rw [show cnt (fun g => l g && swG d mo g i) (dn d) = wrst d mo l i by unfold wrst; omega]
              exact h119
        · rintro fu a ρ ⟨rfl, hR⟩
          obtain ⟨hv2, h18, hP, hQ, hW, hK, hpl, hme, hlaw⟩ := hcU.eq hR.M0
          show Ok (f11_ask_29 N _ (fu + 1) _ _ (nI (dW d)) ρ) _
          rw [f11_ask_29, h18, ixn (by omega), hW]
          exact Ok.c (inBn hv2 (by decide)) (Ok.t nI_rf (Ok.ret rfl))
  · refine pairR hI (fun _ _ e => fr10_ask N e) rfl (fun _ _ _ e => fr11_ask N e) rfl (-1) ?_ (fun τ hE => ?_)
    · unfold f10_ask
      rw [h15]
      by_cases c : x1 < 0
      · exact Ok.t c (Ok.ret rfl)
      · exact Ok.f c (Ok.f (Int32.not_le.mpr (kT_f (by omega) hx c)) (Ok.ret rfl))
    · unfold f11_ask
      rw [told69 hE, h69]
      exact gd0 (inT_f (by omega) hx) (Ok.ret rfl)
