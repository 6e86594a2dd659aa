-- THE COURT
theorem c_swearersOf {N : Nat} (hN : 4000 ≤ N) {σ : Mm} {o m : Nat} {d : Dt} {mo : Mo} (hd : Dok d) (hc : CL N σ o d) (hm : CM σ m d mo) (hmm : m = 56 ∨ m = 58) {s : Nat} (hs : s < 2 ^ 20) (since seen : Int32) :
    Ok (f0_swearersOf N m (nI s) since seen σ) (Rd D_C σ (nI (bs (swP d mo s since seen) (dW d)))) := by
  obtain ⟨d1, d2, d3, d4, d5, d6, d7, d8⟩ := id hd
  unfold f0_swearersOf
  refine Ok.lp (fun fu (a : Int32) i τ => f0_swearersOf_6 N m (nI s) since seen fu a i τ) (dW d) (fun i a τ => a = nI (bs (swP d mo s since seen) i) ∧ EqOn D_C σ τ) ⟨rfl, EqOn.rf⟩ (by omega) ?_ ?_
  · rintro fu i a τ hi ⟨rfl, hE⟩ k
    obtain ⟨ho, hl3, hl, hP, hQ, hW, hK, hpl, hme, hgv, hlaw, hv⟩ := hc.eq hE.C0
    obtain ⟨m0, m1, m2, m3, m4⟩ := hm.eq hmm hE
    show Ok (f0_swearersOf_6 N m (nI s) since seen (fu + 1) _ (nI i) τ) _
    rw [f0_swearersOf_6]
    refine Ok.r hl (kd_land ho) (Ok.f (by rw [hW]; exact nI_ngt hi (by omega)) (Ok.l ?_))
    have hb : ((nI s &&& gI τ m 1) &&& ((1 : Int32) <<< (nI i &&& 31)) = 0) = ((s.testBit i && al mo i) = false) := by
      have h1 := bs_lt (p := al mo) (dW d)
      have h2 := two7 hd h1
      rw [b1 (by omega), m1, andN (by omega) (by omega), bit_and (Nat.lt_of_le_of_lt Nat.and_le_left (by omega)) (by omega), Nat.testBit_and, bs_bit]
      simp [hi]
    refine Ok.i (fun h => ?_) (fun h => ?_)
    · rw [hb] at h
      rw [f0_swearersOf_123, z_l_eq, nI_1]
      exact k _ _ ⟨by rw [bs_skip (p := swP d mo s since seen) (i := i) (by unfold swP; rw [h]; rfl)], hE⟩
    · rw [hb] at h
      have h' : (s.testBit i && al mo i) = true := by simpa using h
      repeat (first | (with_reducible refine Ok.l ?_) | ((with_reducible refine Ok.c ?_ ?_); · first | rfl | exact inBn (by omega) (by decide)) | ((with_reducible refine Ok.r ?_ (kd_land ho) ?_); · exact hl))
      refine Ok.b (c_law hc (k := 0) (vr := 61) ?_ (by decide) (by rfl)) ?_
      · repeat (first | exact hE | exact EqOn.rf | refine EqOn_sI ?_ (by decide) | refine EqOn_sIa ?_ (by decide))
      rintro r υ ⟨hr, hU⟩
      have hE2 : EqOn D_C σ υ := EqOn.tr (by repeat (first | exact hE | exact EqOn.rf | refine EqOn_sI ?_ (by decide) | refine EqOn_sIa ?_ (by decide))) hU
      have n1 : (m = 61) = False := eq_false (by omega)
      have n2 : (m + 1 = 61) = False := eq_false (by omega)
      have n3 : (o + 5 = 61) = False := eq_false (by omega)
      have v6 : gI τ 61 6 = 0 := vv hv 0 rfl
      have v7 : gI τ 61 7 = 0 := vv hv 1 rfl
      have v8 : gI τ 61 8 = 0 := vv hv 2 rfl
      have e : r = dF d 0 (vS d mo since seen i) := by
        rw [hr]
        refine d8 0 (by decide) _ _ (nine ?_ ?_ ?_ ?_ ?_ ?_ ?_ ?_ ?_)
        all_goals simp (disch := omega) [gI_s, ixl, ixn, vS, m4 i hi, hme i hi, m0, v6, v7, v8, n1, n2, n3]
      have e2 : (r ≤ 0) = (swr d mo since seen i = false) := by rw [e]; simp [swr]
      refine Ok.i (fun h2 => ?_) (fun h2 => ?_)
      · rw [e2] at h2
        rw [f0_swearersOf_123, z_l_eq, nI_1]
        exact k _ _ ⟨by rw [bs_skip (p := swP d mo s since seen) (i := i) (by unfold swP; rw [h2, Bool.and_false])], hE2⟩
      · rw [e2] at h2
        rw [z_l_eq, f0_swearersOf_123, z_l_eq, nI_1, b1 (by omega), bs_step (by omega) (by unfold swP; rw [h', Bool.true_and]; simpa using h2)]
        exact k _ _ ⟨rfl, hE2⟩
  · rintro fu a τ ⟨rfl, hE⟩
    obtain ⟨ho, hl3, hl, hP, hQ, hW, hK, hpl, hme, hgv, hlaw, hv⟩ := hc.eq hE.C0
    show Ok (f0_swearersOf_6 N m (nI s) since seen (fu + 1) _ (nI (dW d)) τ) _
    rw [f0_swearersOf_6]
    exact Ok.r hl (kd_land ho) (Ok.t (by rw [hW]; exact nI_rf) (Ok.ret ⟨rfl, hE⟩))
theorem c_swearers {N : Nat} (hN : 4000 ≤ N) {σ : Mm} {o m : Nat} {d : Dt} {mo : Mo} (hd : Dok d) (hc : CL N σ o d) (hm : CM σ m d mo) (hmm : m = 56 ∨ m = 58) {g : Nat} (hg : g < dn d) {s : Nat} (hs : s < 2 ^ 20) :
    Ok (f0_swearers N m (nI g) (nI s) σ) (Rd D_C σ (nI (bs (fun w => s.testBit w && swG d mo g w) (dW d)))) := by
  obtain ⟨d1, d2, d3, d4, d5, d6, d7, d8⟩ := id hd
  obtain ⟨ho, hl3, hl, hP, hQ, hW, hK, hpl, hme, hgv, hlaw, hv⟩ := id hc
  obtain ⟨m0, m1, m2, m3, m4⟩ := id hm
  obtain ⟨g1, g2, g3, g4, g5⟩ := hgv g hg
  have hw := two7 hd (d7 g hg).2.2.2
  unfold f0_swearers
  repeat (first | (with_reducible refine Ok.l ?_) | ((with_reducible refine Ok.c ?_ ?_); · first | rfl | exact inBn (by omega) (by decide)) | ((with_reducible refine Ok.r ?_ (kd_land ho) ?_); · exact hl))
  rw [ixn (by omega), g5, g4, m0, bitC_set (n := 20) (by omega) (by decide), andN (by omega) (by omega)]
  refine Ok.b (c_swearersOf hN hd hc hm hmm (s := dgw d g &&& s) (Nat.lt_of_le_of_lt Nat.and_le_right hs) _ _) ?_
  rintro r τ ⟨rfl, hE⟩
  refine Ok.ret ⟨?_, hE⟩
  congr 1
  refine bs_congr fun w hw => ?_
  unfold swG swP
  rw [Nat.testBit_and]
  cases (dgw d g).testBit w <;> cases s.testBit w <;> simp
theorem sw_self {d : Dt} {mo : Mo} {g : Nat} : bs (fun w => (dgw d g).testBit w && swG d mo g w) (dW d) = bs (swG d mo g) (dW d) := bs_congr fun w _ => by
  unfold swG swP
  cases (dgw d g).testBit w <;> simp
theorem c_swAll {N : Nat} (hN : 4000 ≤ N) {σ : Mm} {o m : Nat} {d : Dt} {mo : Mo} (hd : Dok d) (hc : CL N σ o d) (hm : CM σ m d mo) (hmm : m = 56 ∨ m = 58) {g : Nat} (hg : g < dn d) : Ok (f0_swearers N m (nI g) (gI σ 55 (ix (nI g))) σ) (Rd D_C σ (nI (bs (swG d mo g) (dW d)))) := by
  obtain ⟨d1, d2, d3, d4, d5, d6, d7, d8⟩ := id hd
  obtain ⟨ho, hl3, hl, hP, hQ, hW, hK, hpl, hme, hgv, hlaw, hv⟩ := id hc
  obtain ⟨g1, g2, g3, g4, g5⟩ := hgv g hg
  have hw := two7 hd (d7 g hg).2.2.2
  rw [ixn (by omega), g5, ← sw_self]
  exact c_swearers hN hd hc hm hmm hg (by omega)
theorem c_howManySwear {N : Nat} (hN : 4000 ≤ N) {σ : Mm} {o m : Nat} {d : Dt} {mo : Mo} (hd : Dok d) (hc : CL N σ o d) (hm : CM σ m d mo) (hmm : m = 56 ∨ m = 58) {g : Nat} (hg : g < dn d) : Ok (f0_howManySwear N m (nI g) σ) (Rd D_C σ (nI (cnt (swG d mo g) (dW d)))) := by
  obtain ⟨d1, d2, d3, d4, d5, d6, d7, d8⟩ := id hd
  unfold f0_howManySwear
  refine Ok.c (inBn (by omega) (by decide)) (Ok.b (c_swAll hN hd hc hm hmm hg) ?_)
  rintro r τ ⟨rfl, hE⟩
  exact Ok.ret ⟨bitC_bs (by omega), hE⟩
theorem c_stands {N : Nat} (hN : 4000 ≤ N) {σ : Mm} {o m : Nat} {d : Dt} {mo : Mo} (hd : Dok d) (hc : CL N σ o d) (hm : CM σ m d mo) (hmm : m = 56 ∨ m = 58) {g : Nat} (hg : g < dn d) : Ok (f0_stands N m (nI g) σ) (Rd D_C σ (b2 (std d mo g))) := by
  obtain ⟨d1, d2, d3, d4, d5, d6, d7, d8⟩ := id hd
  obtain ⟨m0, m1, m2, m3, m4⟩ := id hm
  unfold f0_stands
  rw [m2]
  refine Ok.i (fun h => ?_) (fun h => ?_)
  · refine Ok.c (inBn (by omega) (by decide)) (Ok.b (c_swAll hN hd hc hm hmm hg) ?_)
    rintro r τ ⟨rfl, hE⟩
    obtain ⟨ho, hl3, hl, hP, hQ, hW, hK, hpl, hme, hgv, hlaw, hv⟩ := hc.eq hE.C0
    have hu : ubit d g = false := by unfold ubit; rw [decide_eq_true h]; rfl
    have hcl := cnt_le (p := swG d mo g) (dW d)
    refine Ok.r hl (kd_land ho) ?_
    rw [bitC_bs (by omega), hK]
    refine Ok.i (fun h2 => ?_) (fun h2 => ?_)
    · rw [nI_ltI (by omega) (by omega)] at h2
      refine Ok.ret ⟨?_, hE⟩
      unfold std
      rw [hu, decide_eq_false (by omega)]
      rfl
    · rw [nI_ltI (by omega) (by omega)] at h2
      refine Ok.ret ⟨?_, hE⟩
      unfold std
      rw [hu, decide_eq_true (by omega)]
      rfl
  · refine Ok.ret ⟨?_, EqOn.rf⟩
    have hu : ubit d g = true := by unfold ubit; rw [decide_eq_false h]; rfl
    unfold std
    rw [hu]
    rfl
theorem c_swornToBy {N : Nat} (hN : 4000 ≤ N) {σ : Mm} {o m : Nat} {d : Dt} {mo : Mo} (hd : Dok d) (hc : CL N σ o d) (hm : CM σ m d mo) (hmm : m = 56 ∨ m = 58) {w : Nat} (hw : w < dW d) : Ok (f0_swornToBy N m (nI w) σ) (Rd D_C σ (nI (bs (fun g => swG d mo g w) (dn d)))) := by
  obtain ⟨d1, d2, d3, d4, d5, d6, d7, d8⟩ := id hd
  unfold f0_swornToBy
  refine Ok.lp (fun fu (a : Int32) i τ => f0_swornToBy_5 N m (nI w) fu a i τ) (dn d) (fun i a τ => a = nI (bs (fun g => swG d mo g w) i) ∧ EqOn D_C σ τ) ⟨rfl, EqOn.rf⟩ (by omega) ?_ ?_
  · rintro fu i a τ hi ⟨rfl, hE⟩ k
    obtain ⟨m0, m1, m2, m3, m4⟩ := hm.eq hmm hE
    show Ok (f0_swornToBy_5 N m (nI w) (fu + 1) _ (nI i) τ) _
    rw [f0_swornToBy_5, m3, b1 (by omega)]
    refine Ok.f (nI_ngt hi (by omega)) (Ok.b (c_swearers hN hd (hc.eq hE.C0) (hm.eq hmm hE) hmm hi (s := 2 ^ w) (Nat.pow_lt_pow_right (by decide) (by omega))) ?_)
    rintro r υ ⟨rfl, hU⟩
    have e : (nI (bs (fun v => (2 ^ w).testBit v && swG d mo i v) (dW d)) = 0) = (swG d mo i w = false) := by
      have h1 := bs_lt (p := fun v => (2 ^ w).testBit v && swG d mo i v) (dW d)
      have h2 := two7 hd h1
      rw [show (0 : Int32) = nI 0 from rfl, nI_eq (by omega) (by decide), bs_0]
      refine propext ⟨fun h => by have := h w hw; simpa [Nat.testBit_two_pow] using this, fun h v hv => ?_⟩
      rw [Nat.testBit_two_pow]
      by_cases c : w = v
      · subst c; simp [h]
      · simp [c]
    refine Ok.i (fun h => ?_) (fun h => ?_)
    · rw [e] at h
      rw [f0_swornToBy_34, z_l_eq, nI_1]
      exact k _ _ ⟨by rw [bs_skip (p := fun g => swG d mo g w) (i := i) h], hE.tr hU⟩
    · rw [e] at h
      rw [z_l_eq, f0_swornToBy_34, z_l_eq, nI_1, b1 (by omega), bs_step (p := fun g => swG d mo g w) (by omega) (by simpa using h)]
      exact k _ _ ⟨rfl, hE.tr hU⟩
  · rintro fu a τ ⟨rfl, hE⟩
    obtain ⟨m0, m1, m2, m3, m4⟩ := hm.eq hmm hE
    show Ok (f0_swornToBy_5 N m (nI w) (fu + 1) _ (nI (dn d)) τ) _
    rw [f0_swornToBy_5, m3]
    exact Ok.t nI_rf (Ok.ret ⟨rfl, hE⟩)
theorem c_standing {N : Nat} (hN : 4000 ≤ N) {σ : Mm} {o m : Nat} {d : Dt} {mo : Mo} (hd : Dok d) (hc : CL N σ o d) (hm : CM σ m d mo) (hmm : m = 56 ∨ m = 58) : Ok (f0_standing N m σ) (Rd D_C σ (nI (bs (std d mo) (dn d)))) := by
  obtain ⟨d1, d2, d3, d4, d5, d6, d7, d8⟩ := id hd
  unfold f0_standing
  refine Ok.lp (fun fu (a : Int32) i τ => f0_standing_4 N m fu a i τ) (dn d) (fun i a τ => a = nI (bs (std d mo) i) ∧ EqOn D_C σ τ) ⟨rfl, EqOn.rf⟩ (by omega) ?_ ?_
  · rintro fu i a τ hi ⟨rfl, hE⟩ k
    obtain ⟨m0, m1, m2, m3, m4⟩ := hm.eq hmm hE
    show Ok (f0_standing_4 N m (fu + 1) _ (nI i) τ) _
    rw [f0_standing_4, m3]
    refine Ok.f (nI_ngt hi (by omega)) (Ok.b (c_stands hN hd (hc.eq hE.C0) (hm.eq hmm hE) hmm hi) ?_)
    rintro r υ ⟨rfl, hU⟩
    refine Ok.i (fun h => ?_) (fun h => ?_)
    · rw [b2_0] at h
      rw [f0_standing_27, z_l_eq, nI_1]
      exact k _ _ ⟨by rw [bs_skip (p := std d mo) (i := i) h], hE.tr hU⟩
    · rw [b2_0] at h
      rw [z_l_eq, f0_standing_27, z_l_eq, nI_1, b1 (by omega), bs_step (p := std d mo) (by omega) (by simpa using h)]
      exact k _ _ ⟨rfl, hE.tr hU⟩
  · rintro fu a τ ⟨rfl, hE⟩
    obtain ⟨m0, m1, m2, m3, m4⟩ := hm.eq hmm hE
    show Ok (f0_standing_4 N m (fu + 1) _ (nI (dn d)) τ) _
    rw [f0_standing_4, m3]
    exact Ok.t nI_rf (Ok.ret ⟨rfl, hE⟩)
theorem ctS_t {d : Dt} {st : Nat → Bool} {p i : Nat} (h1 : dgp d i = p) (h2 : dgf d i = ownS d st p i) (h3 : st i = true) : ctS d st p i = true ∧ ownS d st p (i + 1) = dgt d i := by
  constructor
  · unfold ctS; rw [decide_eq_true h1, decide_eq_true h2, h3]; rfl
  · rw [ownS, if_pos ⟨h1, h2, h3⟩]
theorem ctS_f {d : Dt} {st : Nat → Bool} {p i : Nat} (h : ¬ (dgp d i = p ∧ dgf d i = ownS d st p i ∧ st i = true)) : ctS d st p i = false ∧ ownS d st p (i + 1) = ownS d st p i := by
  constructor
  · unfold ctS
    by_cases h1 : dgp d i = p
    · by_cases h2 : dgf d i = ownS d st p i
      · have h3 : st i = false := by
          cases e : st i
          · rfl
          · exact absurd ⟨h1, h2, e⟩ h
        rw [h3, Bool.and_false]
      · rw [decide_eq_false h2, Bool.and_false, Bool.false_and]
    · rw [decide_eq_false h1, Bool.false_and, Bool.false_and]
  · rw [ownS, if_neg h]
theorem c_counting {N : Nat} (hN : 4000 ≤ N) {σ : Mm} {o m : Nat} {d : Dt} {mo : Mo} (hd : Dok d) (hc : CL N σ o d) (hm : CM σ m d mo) (hmm : m = 56 ∨ m = 58) {p : Nat} (hp : p < dQ d) : Ok (f0_counting N m (nI p) σ) (Rd D_C σ (nI (bs (ctg d mo p) (dn d)))) := by
  obtain ⟨d1, d2, d3, d4, d5, d6, d7, d8⟩ := id hd
  obtain ⟨ho, hl3, hl, hP, hQ, hW, hK, hpl, hme, hgv, hlaw, hv⟩ := id hc
  unfold f0_counting
  refine Ok.r hl (kd_land ho) (Ok.c (inBn (by omega) (by decide)) (Ok.l ?_))
  rw [ixn (by omega), (hpl p hp).2.2]
  refine Ok.lp (fun fu (a : Int32 × Int32) i τ => f0_counting_16 N m (nI p) fu a.1 a.2 i τ) (dn d) (fun i a τ => a = (nI (bs (ctg d mo p) i), nI (ownS d (std d mo) p i)) ∧ EqOn D_C σ τ) (a := (0, nI (dfi d p))) ⟨rfl, EqOn.rf⟩ (by omega) ?_ ?_
  · rintro fu i a τ hi ⟨rfl, hE⟩ k
    obtain ⟨ho, hl3, hl, hP, hQ, hW, hK, hpl, hme, hgv, hlaw, hv⟩ := hc.eq hE.C0
    obtain ⟨m0, m1, m2, m3, m4⟩ := hm.eq hmm hE
    obtain ⟨g1, g2, g3, g4, g5⟩ := hgv i hi
    obtain ⟨q1, q2, q3, q4⟩ := d7 i hi
    have hown := ownS_lt hd (st := std d mo) hp i (by omega)
    show Ok (f0_counting_16 N m (nI p) (fu + 1) _ _ (nI i) τ) _
    rw [f0_counting_16, m3]
    refine Ok.f (nI_ngt hi (by omega)) (Ok.c (inBn (by omega) (by decide)) ?_)
    rw [ixn (by omega), g1, g2]
    refine Ok.i (fun h => ?_) (fun h => ?_)
    · rw [nI_eq (by omega) (by omega)] at h
      refine Ok.c (inBn (by omega) (by decide)) (Ok.i (fun h2 => ?_) (fun h2 => ?_))
      · rw [nI_eq (by omega) (by omega)] at h2
        refine Ok.b (c_stands hN hd (hc.eq hE.C0) (hm.eq hmm hE) hmm hi) ?_
        rintro r υ ⟨rfl, hU⟩
        refine Ok.i (fun h3 => ?_) (fun h3 => ?_)
        · rw [b2_0] at h3
          have e := ctS_f (d := d) (st := std d mo) (p := p) (i := i) (fun c => by rw [h3] at c; exact Bool.noConfusion c.2.2)
          rw [f0_counting_83, z_l_eq, nI_1]
          exact k (_, _) _ ⟨by rw [e.2, bs_skip (p := ctg d mo p) (i := i) e.1], hE.tr hU⟩
        · rw [b2_0] at h3
          have e := ctS_t (d := d) (st := std d mo) (p := p) (i := i) h h2 (by simpa using h3)
          refine Ok.c (inBn (by omega) (by decide)) (Ok.l (Ok.l ?_))
          rw [f0_counting_83, z_l_eq, nI_1, b1 (by omega), bs_step (p := ctg d mo p) (by omega) e.1, hU.I (wIn_r 7 rfl (by decide) (by decide)), g3]
          exact k (_, _) _ ⟨by rw [e.2] <;> rfl, hE.tr hU⟩
      · rw [nI_eq (by omega) (by omega)] at h2
        have e := ctS_f (d := d) (st := std d mo) (p := p) (i := i) (fun c => h2 c.2.1)
        rw [f0_counting_83, z_l_eq, nI_1]
        exact k (_, _) _ ⟨by rw [e.2, bs_skip (p := ctg d mo p) (i := i) e.1], hE⟩
    · rw [nI_eq (by omega) (by omega)] at h
      have e := ctS_f (d := d) (st := std d mo) (p := p) (i := i) (fun c => h c.1)
      rw [f0_counting_83, z_l_eq, nI_1]
      exact k (_, _) _ ⟨by rw [e.2, bs_skip (p := ctg d mo p) (i := i) e.1], hE⟩
  · rintro fu a τ ⟨rfl, hE⟩
    obtain ⟨m0, m1, m2, m3, m4⟩ := hm.eq hmm hE
    show Ok (f0_counting_16 N m (nI p) (fu + 1) _ _ (nI (dn d)) τ) _
    rw [f0_counting_16, m3]
    exact Ok.t nI_rf (Ok.ret ⟨rfl, hE⟩)
theorem c_owner {N : Nat} (hN : 4000 ≤ N) {σ : Mm} {o m : Nat} {d : Dt} {mo : Mo} (hd : Dok d) (hc : CL N σ o d) (hm : CM σ m d mo) (hmm : m = 56 ∨ m = 58) {p : Nat} (hp : p < dQ d) : Ok (f0_owner N m (nI p) σ) (Rd D_C σ (nI (own d mo p))) := by
  obtain ⟨d1, d2, d3, d4, d5, d6, d7, d8⟩ := id hd
  obtain ⟨ho, hl3, hl, hP, hQ, hW, hK, hpl, hme, hgv, hlaw, hv⟩ := id hc
  unfold f0_owner
  refine Ok.r hl (kd_land ho) (Ok.c (inBn (by omega) (by decide)) (Ok.l ?_))
  rw [ixn (by omega), (hpl p hp).2.2]
  refine Ok.lp (fun fu (a : Int32) i τ => f0_owner_13 N m (nI p) fu a i τ) (dn d) (fun i a τ => a = nI (ownS d (std d mo) p i) ∧ EqOn D_C σ τ) ⟨rfl, EqOn.rf⟩ (by omega) ?_ ?_
  · rintro fu i a τ hi ⟨rfl, hE⟩ k
    obtain ⟨ho, hl3, hl, hP, hQ, hW, hK, hpl, hme, hgv, hlaw, hv⟩ := hc.eq hE.C0
    obtain ⟨m0, m1, m2, m3, m4⟩ := hm.eq hmm hE
    obtain ⟨g1, g2, g3, g4, g5⟩ := hgv i hi
    obtain ⟨q1, q2, q3, q4⟩ := d7 i hi
    have hown := ownS_lt hd (st := std d mo) hp i (by omega)
    show Ok (f0_owner_13 N m (nI p) (fu + 1) _ (nI i) τ) _
    rw [f0_owner_13, m3]
    refine Ok.f (nI_ngt hi (by omega)) (Ok.c (inBn (by omega) (by decide)) ?_)
    rw [ixn (by omega), g1, g2]
    refine Ok.i (fun h => ?_) (fun h => ?_)
    · rw [nI_eq (by omega) (by omega)] at h
      refine Ok.c (inBn (by omega) (by decide)) (Ok.i (fun h2 => ?_) (fun h2 => ?_))
      · rw [nI_eq (by omega) (by omega)] at h2
        refine Ok.b (c_stands hN hd (hc.eq hE.C0) (hm.eq hmm hE) hmm hi) ?_
        rintro r υ ⟨rfl, hU⟩
        refine Ok.i (fun h3 => ?_) (fun h3 => ?_)
        · rw [b2_0] at h3
          have e := ctS_f (d := d) (st := std d mo) (p := p) (i := i) (fun c => by rw [h3] at c; exact Bool.noConfusion c.2.2)
          rw [f0_owner_71, z_l_eq, nI_1]
          exact k _ _ ⟨by rw [e.2], hE.tr hU⟩
        · rw [b2_0] at h3
          have e := ctS_t (d := d) (st := std d mo) (p := p) (i := i) h h2 (by simpa using h3)
          refine Ok.c (inBn (by omega) (by decide)) (Ok.l ?_)
          rw [f0_owner_71, z_l_eq, nI_1, hU.I (wIn_r 7 rfl (by decide) (by decide)), g3]
          exact k _ _ ⟨by rw [e.2], hE.tr hU⟩
      · rw [nI_eq (by omega) (by omega)] at h2
        have e := ctS_f (d := d) (st := std d mo) (p := p) (i := i) (fun c => h2 c.2.1)
        rw [f0_owner_71, z_l_eq, nI_1]
        exact k _ _ ⟨by rw [e.2], hE⟩
    · rw [nI_eq (by omega) (by omega)] at h
      have e := ctS_f (d := d) (st := std d mo) (p := p) (i := i) (fun c => h c.1)
      rw [f0_owner_71, z_l_eq, nI_1]
      exact k _ _ ⟨by rw [e.2], hE⟩
  · rintro fu a τ ⟨rfl, hE⟩
    obtain ⟨m0, m1, m2, m3, m4⟩ := hm.eq hmm hE
    show Ok (f0_owner_13 N m (nI p) (fu + 1) _ (nI (dn d)) τ) _
    rw [f0_owner_13, m3]
    exact Ok.t nI_rf (Ok.ret ⟨rfl, hE⟩)
/-- whose it would be by the book -/
def said (d : Dt) (g : Nat) : Bool := !ubit d g
theorem c_ownerByBook {N : Nat} (hN : 4000 ≤ N) {σ : Mm} {o m : Nat} {d : Dt} {mo : Mo} (hd : Dok d) (hc : CL N σ o d) (hm : CM σ m d mo) (hmm : m = 56 ∨ m = 58) {p : Nat} (hp : p < dQ d) : Ok (f0_ownerByBook N m (nI p) σ) (Rd D_C σ (nI (ownS d (said d) p (dn d)))) := by
  obtain ⟨d1, d2, d3, d4, d5, d6, d7, d8⟩ := id hd
  obtain ⟨ho, hl3, hl, hP, hQ, hW, hK, hpl, hme, hgv, hlaw, hv⟩ := id hc
  unfold f0_ownerByBook
  refine Ok.r hl (kd_land ho) (Ok.c (inBn (by omega) (by decide)) (Ok.l ?_))
  rw [ixn (by omega), (hpl p hp).2.2]
  refine Ok.lp (fun fu (a : Int32) i τ => f0_ownerByBook_13 N m (nI p) fu a i τ) (dn d) (fun i a τ => a = nI (ownS d (said d) p i) ∧ EqOn D_C σ τ) ⟨rfl, EqOn.rf⟩ (by omega) ?_ ?_
  · rintro fu i a τ hi ⟨rfl, hE⟩ k
    obtain ⟨ho, hl3, hl, hP, hQ, hW, hK, hpl, hme, hgv, hlaw, hv⟩ := hc.eq hE.C0
    obtain ⟨m0, m1, m2, m3, m4⟩ := hm.eq hmm hE
    obtain ⟨g1, g2, g3, g4, g5⟩ := hgv i hi
    obtain ⟨q1, q2, q3, q4⟩ := d7 i hi
    have hown := ownS_lt hd (st := said d) hp i (by omega)
    show Ok (f0_ownerByBook_13 N m (nI p) (fu + 1) _ (nI i) τ) _
    rw [f0_ownerByBook_13, m3, m2]
    refine Ok.f (nI_ngt hi (by omega)) (Ok.i (fun h0 => ?_) (fun h0 => ?_))
    · have hs : said d i = true := by unfold said ubit; rw [decide_eq_true h0]; rfl
      rw [f0_ownerByBook_39]
      refine Ok.f (by decide) (Ok.c (inBn (by omega) (by decide)) ?_)
      rw [ixn (by omega), g1, g2, g3]
      refine Ok.i (fun h => ?_) (fun h => ?_)
      · rw [nI_eq (by omega) (by omega)] at h
        refine Ok.c (inBn (by omega) (by decide)) (Ok.i (fun h2 => ?_) (fun h2 => ?_))
        · rw [nI_eq (by omega) (by omega)] at h2
          have e := ctS_t (d := d) (st := said d) (p := p) (i := i) h h2 hs
          refine Ok.c (inBn (by omega) (by decide)) (Ok.l ?_)
          rw [f0_ownerByBook_85, z_l_eq, nI_1]
          exact k _ _ ⟨by rw [e.2], hE⟩
        · rw [nI_eq (by omega) (by omega)] at h2
          have e := ctS_f (d := d) (st := said d) (p := p) (i := i) (fun c => h2 c.2.1)
          rw [f0_ownerByBook_85, z_l_eq, nI_1]
          exact k _ _ ⟨by rw [e.2], hE⟩
      · rw [nI_eq (by omega) (by omega)] at h
        have e := ctS_f (d := d) (st := said d) (p := p) (i := i) (fun c => h c.1)
        rw [f0_ownerByBook_85, z_l_eq, nI_1]
        exact k _ _ ⟨by rw [e.2], hE⟩
    · have hs : said d i = false := by unfold said ubit; rw [decide_eq_false h0]; rfl
      have e := ctS_f (d := d) (st := said d) (p := p) (i := i) (fun c => by rw [hs] at c; exact Bool.noConfusion c.2.2)
      rw [f0_ownerByBook_39]
      refine Ok.t rfl ?_
      rw [f0_ownerByBook_85, z_l_eq, nI_1]
      exact k _ _ ⟨by rw [e.2], hE⟩
  · rintro fu a τ ⟨rfl, hE⟩
    obtain ⟨m0, m1, m2, m3, m4⟩ := hm.eq hmm hE
    show Ok (f0_ownerByBook_13 N m (nI p) (fu + 1) _ (nI (dn d)) τ) _
    rw [f0_ownerByBook_13, m3]
    exact Ok.t nI_rf (Ok.ret ⟨rfl, hE⟩)
