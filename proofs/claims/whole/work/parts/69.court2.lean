-- THE COURT: sets of all plots, laws of dying, walking, asking; years
def ctAll (d : Dt) (mo : Mo) (g : Nat) : Bool := ctg d mo (dgp d g) g
theorem c_countingOfAll {N : Nat} (hN : 4000 ≤ N) {σ : Mm} {o m : Nat} {d : Dt} {mo : Mo} (hd : Dok d) (hc : CL N σ o d) (hm : CM σ m d mo) (hmm : m = 56 ∨ m = 58) : Ok (f0_countingOfAll N m σ) (Rd D_C σ (nI (bs (ctAll d mo) (dn d)))) := by
  obtain ⟨d1, d2, d3, d4, d5, d6, d7, d8⟩ := id hd
  unfold f0_countingOfAll
  refine Ok.lp (fun fu (a : Int32) i τ => f0_countingOfAll_4 N m fu a i τ) (dQ d) (fun i a τ => a = nI (bs (fun g => decide (dgp d g < i) && ctAll d mo g) (dn d)) ∧ EqOn D_C σ τ) ⟨?_, EqOn.rf⟩ (by omega) ?_ ?_
  · rw [bs_0.mpr (fun i _ => by simp)]; rfl
  · rintro fu i a τ hi ⟨rfl, hE⟩ k
    obtain ⟨ho, hl3, hl, hP, hQ, hW, hK, hpl, hme, hgv, hlaw, hv⟩ := hc.eq hE.C0
    show Ok (f0_countingOfAll_4 N m (fu + 1) _ (nI i) τ) _
    rw [f0_countingOfAll_4]
    refine Ok.r hl (kd_land ho) (Ok.f (by rw [hQ]; exact nI_ngt hi (by omega)) (Ok.b (c_counting hN hd (hc.eq hE.C0) (hm.eq hmm hE) hmm hi) ?_))
    rintro r υ ⟨rfl, hU⟩
    have h20 : ∀ p : Nat → Bool, bs p (dn d) < 2 ^ 32 := fun p => Nat.lt_of_lt_of_le (bs_lt _) (Nat.pow_le_pow_right (by decide) (by omega))
    rw [z_l_eq, z_l_eq, nI_1, orN (h20 _) (h20 _), bs_or]
    refine k _ _ ⟨?_, hE.tr hU⟩
    congr 1
    refine bs_congr fun g hg => ?_
    unfold ctAll
    by_cases c : dgp d g = i
    · rw [c, decide_eq_false (by omega), decide_eq_true (by omega)]; simp
    · have : ctg d mo i g = false := by unfold ctg ctS; rw [decide_eq_false c]; rfl
      rw [this, Bool.or_false, show decide (dgp d g < i + 1) = decide (dgp d g < i) from decide_eq_decide.mpr (by omega)]
  · rintro fu a τ ⟨rfl, hE⟩
    obtain ⟨ho, hl3, hl, hP, hQ, hW, hK, hpl, hme, hgv, hlaw, hv⟩ := hc.eq hE.C0
    show Ok (f0_countingOfAll_4 N m (fu + 1) _ (nI (dQ d)) τ) _
    rw [f0_countingOfAll_4]
    refine Ok.r hl (kd_land ho) (Ok.t (by rw [hQ]; exact nI_rf) (Ok.ret ⟨?_, hE⟩))
    congr 1
    refine bs_congr fun g hg => ?_
    rw [decide_eq_true (d7 g hg).1, Bool.true_and]
/-- in how many plots two moments differ -/
def oth (d : Dt) (mo mo2 : Mo) : Nat := cnt (fun p => decide (own d mo p ≠ own d mo2 p)) (dQ d)
theorem own_lt {d : Dt} (hd : Dok d) {mo : Mo} {p : Nat} (hp : p < dQ d) : own d mo p < dP d := ownS_lt hd hp _ (Nat.le_refl _)
theorem c_plotsOfOthers {N : Nat} (hN : 4000 ≤ N) {σ : Mm} {o : Nat} {d : Dt} {mo mo2 : Mo} (hd : Dok d) (hc : CL N σ o d) (hm : CM σ 56 d mo) (hm2 : CM σ 58 d mo2) : Ok (f0_plotsOfOthers N 56 58 σ) (Rd D_C σ (nI (oth d mo mo2))) := by
  obtain ⟨d1, d2, d3, d4, d5, d6, d7, d8⟩ := id hd
  unfold f0_plotsOfOthers
  refine Ok.lp (fun fu (a : Int32) i τ => f0_plotsOfOthers_5 N 56 58 fu a i τ) (dQ d) (fun i a τ => a = nI (cnt (fun p => decide (own d mo p ≠ own d mo2 p)) i) ∧ EqOn D_C σ τ) ⟨rfl, EqOn.rf⟩ (by omega) ?_ ?_
  · rintro fu i a τ hi ⟨rfl, hE⟩ k
    obtain ⟨ho, hl3, hl, hP, hQ, hW, hK, hpl, hme, hgv, hlaw, hv⟩ := hc.eq hE.C0
    show Ok (f0_plotsOfOthers_5 N 56 58 (fu + 1) _ (nI i) τ) _
    rw [f0_plotsOfOthers_5]
    refine Ok.r hl (kd_land ho) (Ok.f (by rw [hQ]; exact nI_ngt hi (by omega)) (Ok.b (c_owner hN hd (hc.eq hE.C0) (hm.eq (Or.inl rfl) hE) (Or.inl rfl) hi) ?_))
    rintro r υ ⟨rfl, hU⟩
    refine Ok.b (c_owner hN hd (hc.eq (hE.tr hU).C0) (hm2.eq (Or.inr rfl) (hE.tr hU)) (Or.inr rfl) hi) ?_
    rintro r2 υ2 ⟨rfl, hU2⟩
    have o1 := own_lt hd (mo := mo) hi
    have o2 := own_lt hd (mo := mo2) hi
    refine Ok.i (fun h => ?_) (fun h => ?_)
    · rw [nI_eq (by omega) (by omega)] at h
      rw [f0_plotsOfOthers_37, z_l_eq, nI_1]
      exact k _ _ ⟨by rw [cnt_skip (p := fun p => decide (own d mo p ≠ own d mo2 p)) (i := i) (decide_eq_false (fun c => c h))], (hE.tr hU).tr hU2⟩
    · rw [nI_eq (by omega) (by omega)] at h
      rw [z_l_eq, f0_plotsOfOthers_37, z_l_eq, nI_1, nI_1]
      exact k _ _ ⟨by rw [cnt_step (p := fun p => decide (own d mo p ≠ own d mo2 p)) (i := i) (decide_eq_true h)], (hE.tr hU).tr hU2⟩
  · rintro fu a τ ⟨rfl, hE⟩
    obtain ⟨ho, hl3, hl, hP, hQ, hW, hK, hpl, hme, hgv, hlaw, hv⟩ := hc.eq hE.C0
    show Ok (f0_plotsOfOthers_5 N 56 58 (fu + 1) _ (nI (dQ d)) τ) _
    rw [f0_plotsOfOthers_5]
    exact Ok.r hl (kd_land ho) (Ok.t (by rw [hQ]; exact nI_rf) (Ok.ret ⟨rfl, hE⟩))
/-- how many plots are a person's -/
def hasP (d : Dt) (mo : Mo) (a : Nat) : Nat := cnt (fun p => decide (own d mo p = a)) (dQ d)
theorem fill_65 {N : Nat} (hN : 4000 ≤ N) {σ : Mm} : Ok (fJ_fill N 65 0 σ) (fun _ τ => (∀ a, a < 6 → gI τ 65 a = nI 0) ∧ EqOn D_C σ τ) := by
  unfold fJ_fill
  refine Ok.lp (fun fu (_ : Unit) i τ => fJ_fill_5 N 65 0 6 fu i τ) 6 (fun i _ τ => (∀ a, a < i → gI τ 65 a = nI 0) ∧ EqOn D_C σ τ) (a := ()) ⟨fun a ha => absurd ha (Nat.not_lt_zero _), EqOn.rf⟩ (by omega) ?_ ?_
  · rintro fu i a τ hi ⟨h0, hE⟩ k
    show Ok (fJ_fill_5 N 65 0 6 (fu + 1) (nI i) τ) _
    rw [fJ_fill_5]
    refine Ok.f (nI_ngt (n := 6) hi (by decide)) (Ok.c (inBn hi (by decide)) (Ok.l (Ok.l ?_)))
    rw [nI_1, ixn (by omega)]
    refine k () _ ⟨fun a ha => ?_, EqOn_sIa hE (by decide)⟩
    rw [gI_s]
    by_cases c : a = i
    · rw [if_pos ⟨rfl, c⟩]; rfl
    · rw [if_neg (fun e => c e.2)]; exact h0 a (by omega)
  · rintro fu a τ ⟨h0, hE⟩
    show Ok (fJ_fill_5 N 65 0 6 (fu + 1) (nI 6) τ) _
    rw [fJ_fill_5]
    exact Ok.t (by decide) (Ok.ret ⟨h0, hE⟩)
theorem c_countPlots {N : Nat} (hN : 4000 ≤ N) {σ : Mm} {o m : Nat} {d : Dt} {mo : Mo} (hd : Dok d) (hc : CL N σ o d) (hm : CM σ m d mo) (hmm : m = 56 ∨ m = 58) : Ok (f0_countPlots N m σ) (fun _ τ => (∀ a, a < 6 → gI τ 65 a = nI (hasP d mo a)) ∧ EqOn D_C σ τ) := by
  obtain ⟨d1, d2, d3, d4, d5, d6, d7, d8⟩ := id hd
  unfold f0_countPlots
  refine Ok.b (fill_65 hN) ?_
  rintro u σ1 ⟨hz, hE1⟩
  refine Ok.lp (fun fu (_ : Unit) i τ => f0_countPlots_10 N m fu i τ) (dQ d) (fun i _ τ => (∀ a, a < 6 → gI τ 65 a = nI (cnt (fun p => decide (own d mo p = a)) i)) ∧ EqOn D_C σ τ) (a := ()) ⟨hz, hE1⟩ (by omega) ?_ ?_
  · rintro fu i a τ hi ⟨h0, hE⟩ k
    obtain ⟨ho, hl3, hl, hP, hQ, hW, hK, hpl, hme, hgv, hlaw, hv⟩ := hc.eq hE.C0
    show Ok (f0_countPlots_10 N m (fu + 1) (nI i) τ) _
    rw [f0_countPlots_10]
    refine Ok.r hl (kd_land ho) (Ok.f (by rw [hQ]; exact nI_ngt hi (by omega)) (Ok.b (c_owner hN hd (hc.eq hE.C0) (hm.eq hmm hE) hmm hi).run ?_))
    rintro r υ ⟨⟨rfl, hU⟩, er⟩
    have o1 := own_lt hd (mo := mo) hi
    refine Ok.f (nI_pos (by omega)) (Ok.f (nI_ngt (n := 6) (by omega) (by decide)) (Ok.c (inBn (by omega) (by decide)) (Ok.c (inBn (by omega) (by decide)) (Ok.l ?_))))
    rw [f0_countPlots_51, z_l_eq, nI_1, ixn (by omega)]
    have h65 : ∀ j, gI υ 65 j = gI τ 65 j := fun j => ((fr0_owner N er).on (D := [(65, 1, none)]) rfl).I (wIn_r 0 rfl (by decide) (by decide))
    refine k () _ ⟨fun a ha => ?_, EqOn_sIa (hE.tr hU) (by decide)⟩
    rw [gI_s, h65, h65, h0 a ha, h0 _ (by omega)]
    by_cases c : own d mo i = a
    · rw [if_pos ⟨rfl, c.symm⟩, cnt_step (p := fun p => decide (own d mo p = a)) (i := i) (decide_eq_true c), nI_1, c]
    · rw [if_neg (fun e => c e.2.symm), cnt_skip (p := fun p => decide (own d mo p = a)) (i := i) (decide_eq_false c)]
  · rintro fu a τ ⟨h0, hE⟩
    obtain ⟨ho, hl3, hl, hP, hQ, hW, hK, hpl, hme, hgv, hlaw, hv⟩ := hc.eq hE.C0
    show Ok (f0_countPlots_10 N m (fu + 1) (nI (dQ d)) τ) _
    rw [f0_countPlots_10]
    exact Ok.r hl (kd_land ho) (Ok.t (by rw [hQ]; exact nI_rf) (Ok.ret ⟨h0, hE⟩))
-- laws
def dist (a b : Nat) : Nat := if a < b then b - a else a - b
theorem dist_C : ∀ a, a < 10 → ∀ b, b < 10 → abI (nI a - nI b) = nI (dist a b) := by decide
def vW (d : Dt) (mo : Mo) (p q j : Nat) : Int32 := if j = 3 then yr mo else if j = 6 then nI (dist (dx d p) (dx d q) + dist (dy d p) (dy d q)) else if j = 7 then nI (dx d q) else if j = 8 then nI (dy d q) else 0
def vA (d : Dt) (mo : Mo) (p j : Nat) : Int32 := if j = 3 then yr mo else if j = 7 then nI (dx d p) else if j = 8 then nI (dy d p) else 0
def wlk (d : Dt) (mo : Mo) (p q : Nat) : Nat := hld 99 (dF d 2 (vW d mo p q))
def askV (d : Dt) (mo : Mo) (p : Nat) : Nat := hld 99 (dF d 3 (vA d mo p))
def die (d : Dt) (mo : Mo) (w : Nat) : Nat := hld 100 (dF d 1 (vS d mo 0 0 w))
theorem heldTo_C {N m : Nat} (hm : m < 2 ^ 31) {x : Int32} {σ : Mm} : f0_heldTo N (nI m) x σ = some (nI (hld m x), σ) := by
  show some (mxI 0 (mnI (nI m) x), σ) = _
  rw [hld_C hm]
theorem c_asking {N : Nat} (hN : 4000 ≤ N) {σ : Mm} {o m : Nat} {d : Dt} {mo : Mo} (hd : Dok d) (hc : CL N σ o d) (hm : CM σ m d mo) (hmm : m = 56 ∨ m = 58) {p : Nat} (hp : p < dQ d) : Ok (f0_asking N m (nI p) σ) (Rd D_C σ (nI (askV d mo p))) := by
  obtain ⟨d1, d2, d3, d4, d5, d6, d7, d8⟩ := id hd
  obtain ⟨ho, hl3, hl, hP, hQ, hW, hK, hpl, hme, hgv, hlaw, hv⟩ := id hc
  obtain ⟨m0, m1, m2, m3, m4⟩ := id hm
  unfold f0_asking
  repeat (first | (with_reducible refine Ok.l ?_) | ((with_reducible refine Ok.c ?_ ?_); · first | rfl | exact inBn (by omega) (by decide)) | ((with_reducible refine Ok.r ?_ (kd_land ho) ?_); · exact hl))
  refine Ok.b (c_law hc (k := 3) (vr := 64) ?_ (by decide) (by rfl)) ?_
  · repeat (first | exact hE | exact EqOn.rf | refine EqOn_sI ?_ (by decide) | refine EqOn_sIa ?_ (by decide))
  rintro r υ ⟨hr, hU⟩
  have hE2 : EqOn D_C σ υ := EqOn.tr (by repeat (first | exact hE | exact EqOn.rf | refine EqOn_sI ?_ (by decide) | refine EqOn_sIa ?_ (by decide))) hU
  have n1 : (m = 64) = False := eq_false (by omega)
  have n2 : (o + 1 = 64) = False := eq_false (by omega)
  have n3 : (o + 2 = 64) = False := eq_false (by omega)
  have e : r = dF d 3 (vA d mo p) := by
    rw [hr]
    refine d8 3 (by decide) _ _ (nine ?_ ?_ ?_ ?_ ?_ ?_ ?_ ?_ ?_)
    all_goals simp (disch := omega) [gI_s, ixl, ixn, vA, hpl p hp, m0, n1, n2, n3]
    · exact vv hv 13 rfl
    · exact vv hv 14 rfl
    · exact vv hv 15 rfl
    · exact vv hv 16 rfl
    · exact vv hv 17 rfl
    · exact vv hv 18 rfl
  rw [show (99 : Int32) = nI 99 from rfl, heldTo_C (by decide), e]
  exact Ok.ret ⟨rfl, hE2⟩
theorem c_walking {N : Nat} (hN : 4000 ≤ N) {σ : Mm} {o m : Nat} {d : Dt} {mo : Mo} (hd : Dok d) (hc : CL N σ o d) (hm : CM σ m d mo) (hmm : m = 56 ∨ m = 58) {p q : Nat} (hp : p < dQ d) (hq : q < dQ d) : Ok (f0_walking N m (nI p) (nI q) σ) (Rd D_C σ (nI (wlk d mo p q))) := by
  obtain ⟨d1, d2, d3, d4, d5, d6, d7, d8⟩ := id hd
  obtain ⟨ho, hl3, hl, hP, hQ, hW, hK, hpl, hme, hgv, hlaw, hv⟩ := id hc
  obtain ⟨m0, m1, m2, m3, m4⟩ := id hm
  unfold f0_walking
  repeat (first | (with_reducible refine Ok.l ?_) | ((with_reducible refine Ok.c ?_ ?_); · first | rfl | exact inBn (by omega) (by decide)) | ((with_reducible refine Ok.r ?_ (kd_land ho) ?_); · exact hl))
  refine Ok.b (c_law hc (k := 2) (vr := 63) ?_ (by decide) (by rfl)) ?_
  · repeat (first | exact hE | exact EqOn.rf | refine EqOn_sI ?_ (by decide) | refine EqOn_sIa ?_ (by decide))
  rintro r υ ⟨hr, hU⟩
  have hE2 : EqOn D_C σ υ := EqOn.tr (by repeat (first | exact hE | exact EqOn.rf | refine EqOn_sI ?_ (by decide) | refine EqOn_sIa ?_ (by decide))) hU
  have n1 : (m = 63) = False := eq_false (by omega)
  have n2 : (o + 1 = 63) = False := eq_false (by omega)
  have n3 : (o + 2 = 63) = False := eq_false (by omega)
  have e1 := dist_C (dx d p) (by have := d6 p hp; omega) (dx d q) (by have := d6 q hq; omega)
  have e2 := dist_C (dy d p) (by have := d6 p hp; omega) (dy d q) (by have := d6 q hq; omega)
  have e : r = dF d 2 (vW d mo p q) := by
    rw [hr]
    refine d8 2 (by decide) _ _ (nine ?_ ?_ ?_ ?_ ?_ ?_ ?_ ?_ ?_)
    · simp (disch := omega) [gI_s, ixl, ixn, vW]; exact vv hv 8 rfl
    · simp (disch := omega) [gI_s, ixl, ixn, vW]; exact vv hv 9 rfl
    · simp (disch := omega) [gI_s, ixl, ixn, vW]; exact vv hv 10 rfl
    · simp (disch := omega) [gI_s, ixl, ixn, vW, m0]
    · simp (disch := omega) [gI_s, ixl, ixn, vW]; exact vv hv 11 rfl
    · simp (disch := omega) [gI_s, ixl, ixn, vW]; exact vv hv 12 rfl
    · simp (disch := omega) only [gI_s, ixl, ixn, n2, n3, false_and, ↓reduceIte, Nat.reduceEqDiff, and_false, and_self, hpl p hp, hpl q hq, e1, e2, nI_add]
      rfl
    · simp (disch := omega) [gI_s, ixl, ixn, vW, n2, n3, hpl q hq]
    · simp (disch := omega) [gI_s, ixl, ixn, vW, n2, n3, hpl q hq]
  rw [show (99 : Int32) = nI 99 from rfl, heldTo_C (by decide), e]
  exact Ok.ret ⟨rfl, hE2⟩
theorem c_deathIn100 {N : Nat} (hN : 4000 ≤ N) {σ : Mm} {o m : Nat} {d : Dt} {mo : Mo} (hd : Dok d) (hc : CL N σ o d) (hm : CM σ m d mo) (hmm : m = 56 ∨ m = 58) {w : Nat} (hw : w < dW d) : Ok (f0_deathIn100 N m (nI w) σ) (Rd D_C σ (nI (die d mo w))) := by
  obtain ⟨d1, d2, d3, d4, d5, d6, d7, d8⟩ := id hd
  obtain ⟨ho, hl3, hl, hP, hQ, hW, hK, hpl, hme, hgv, hlaw, hv⟩ := id hc
  obtain ⟨m0, m1, m2, m3, m4⟩ := id hm
  unfold f0_deathIn100
  repeat (first | (with_reducible refine Ok.l ?_) | ((with_reducible refine Ok.c ?_ ?_); · first | rfl | exact inBn (by omega) (by decide)) | ((with_reducible refine Ok.r ?_ (kd_land ho) ?_); · exact hl))
  refine Ok.b (c_law hc (k := 1) (vr := 62) ?_ (by decide) (by rfl)) ?_
  · repeat (first | exact hE | exact EqOn.rf | refine EqOn_sI ?_ (by decide) | refine EqOn_sIa ?_ (by decide))
  rintro r υ ⟨hr, hU⟩
  have hE2 : EqOn D_C σ υ := EqOn.tr (by repeat (first | exact hE | exact EqOn.rf | refine EqOn_sI ?_ (by decide) | refine EqOn_sIa ?_ (by decide))) hU
  have n1 : (m = 62) = False := eq_false (by omega)
  have n2 : (m + 1 = 62) = False := eq_false (by omega)
  have n3 : (o + 5 = 62) = False := eq_false (by omega)
  have e : r = dF d 1 (vS d mo 0 0 w) := by
    rw [hr]
    refine d8 1 (by decide) _ _ (nine ?_ ?_ ?_ ?_ ?_ ?_ ?_ ?_ ?_)
    · simp (disch := omega) [gI_s, ixl, ixn, vS, m4 w hw]
    · simp (disch := omega) [gI_s, ixl, ixn, vS, n3, hme w hw]
    · simp (disch := omega) [gI_s, ixl, ixn, vS]; exact vv hv 3 rfl
    · simp (disch := omega) [gI_s, ixl, ixn, vS, m0, n1]
    · simp (disch := omega) [gI_s, ixl, ixn, vS]
    · simp (disch := omega) [gI_s, ixl, ixn, vS]; exact vv hv 4 rfl
    · simp (disch := omega) [gI_s, ixl, ixn, vS]; exact vv hv 5 rfl
    · simp (disch := omega) [gI_s, ixl, ixn, vS]; exact vv hv 6 rfl
    · simp (disch := omega) [gI_s, ixl, ixn, vS]; exact vv hv 7 rfl
  rw [show (100 : Int32) = nI 100 from rfl, heldTo_C (by decide), e]
  exact Ok.ret ⟨rfl, hE2⟩
