-- COVER
theorem cnt_mir {s : Nat} (hs : s < 2 ^ 7) : cnt (mir s).testBit 7 = cnt s.testBit 7 := by
  simp only [cnt, show (mir s).testBit 0 = s.testBit 6 from mir_bit (by decide), show (mir s).testBit 1 = s.testBit 5 from mir_bit (by decide), show (mir s).testBit 2 = s.testBit 4 from mir_bit (by decide), show (mir s).testBit 3 = s.testBit 3 from mir_bit (by decide), show (mir s).testBit 4 = s.testBit 2 from mir_bit (by decide), show (mir s).testBit 5 = s.testBit 1 from mir_bit (by decide), show (mir s).testBit 6 = s.testBit 0 from mir_bit (by decide)]
  omega
theorem quN_al {d : Dt} {mo : Mo} : ∀ k, al (quN d mo k) = al mo
  | 0 => rfl
  | k + 1 => quN_al k
theorem quN_yr {d : Dt} {mo : Mo} : ∀ k, yr (quN d mo k) = yr mo + nI k
  | 0 => (Int32.add_zero _).symm
  | k + 1 => by
    show yr (quN d mo k) + 1 = _
    rw [quN_yr k, Int32.add_assoc, nI_1]
theorem quN_ag {d : Dt} {mo : Mo} {w : Nat} (hk : Mok d mo) (hw : w < dW d) (ha : al mo w = true) : ∀ k, ag (quN d mo k) w = min (ag mo w + k) 999
  | 0 => by
    have := hk w hw
    show ag mo w = _
    omega
  | k + 1 => by
    show agQ (quN d mo k) (dW d) w = _
    unfold agQ
    rw [if_pos ⟨hw, by rw [quN_al]; exact ha⟩, quN_ag hk hw ha k]
    omega
/-- would swear in k years -/
def wS (d : Dt) (mo : Mo) (z k w : Nat) : Bool := swr d (quN d mo k) (nI k) (nI z) w
def cov (d : Dt) (mo : Mo) (n s : Nat) : Prop := ∀ k, k ≤ n → dK d ≤ cnt (fun w => s.testBit w && wS d mo (cnt s.testBit 7) k w) (dW d)
def alv (d : Dt) (mo : Mo) (s : Nat) : Prop := ∀ w, s.testBit w = true → w < dW d ∧ al mo w = true
def vld (d : Dt) (mo : Mo) (n s : Nat) : Prop := s < 2 ^ 7 ∧ cnt s.testBit 7 ≤ 4 ∧ alv d mo s ∧ cov d mo n s
/-- the best: the fewest, then the first -/
def IsB (d : Dt) (mo : Mo) (n : Nat) (b : Option Nat) : Prop := match b with
  | none => ∀ t, ¬ vld d mo n t
  | some s => vld d mo n s ∧ ∀ t, vld d mo n t → cnt s.testBit 7 < cnt t.testBit 7 ∨ (cnt s.testBit 7 = cnt t.testBit 7 ∧ mir t ≤ mir s)
theorem IsB.uniq {d : Dt} {mo : Mo} {n : Nat} {a b : Option Nat} (ha : IsB d mo n a) (hb : IsB d mo n b) : a = b := by
  cases a with
  | none =>
    cases b with
    | none => rfl
    | some t => exact absurd hb.1 (ha t)
  | some s =>
    cases b with
    | none => exact absurd ha.1 (hb s)
    | some t =>
      have h1 := ha.2 t hb.1
      have h2 := hb.2 s ha.1
      have e : mir s = mir t := by omega
      have e2 := congrArg mir e
      rw [mir_mir ha.1.1, mir_mir hb.1.1] at e2
      rw [e2]
theorem r_wouldSwear {N : Nat} (hN : 4000 ≤ N) {σ : Mm} {v : Nat} {d : Dt} {mo : Mo} (hd : Dok d) (hc : ML N σ v d) (hm : MR σ d mo) (hk : Mok d mo) {w k z : Nat} (hw : w < dW d) (ha : al mo w = true) (hk60 : k ≤ 60) : Ok (f11_wouldSwear N (nI w) (nI z) (nI k) σ) (Rd D_M σ (b2 (wS d mo z k w))) := by
  obtain ⟨d1, d2, d3, d4, d5, d6, d7, d8⟩ := id hd
  unfold f11_wouldSwear
  refine Ok.b (r_looksAt hN hd hc hm hw) ?_
  rintro u τ ⟨hj, hE⟩
  obtain ⟨ra, rl, r14, r15, r16, rg⟩ := hm.eq hE
  have hag := hk w hw
  rw [ixn (by omega), ra w hw, nI_add, show (999 : Int32) = nI 999 from rfl, hld_M (by decide), z_b_some, show hld 999 (nI (ag mo w + k)) = min (ag mo w + k) 999 by unfold hld; rw [nI_clamp (by omega), Nat.min_comm]]
  repeat (first | (with_reducible refine Ok.l ?_) | ((with_reducible refine Ok.c ?_ ?_); · first | rfl | exact inBn (by omega) (by decide)))
  refine Ok.b (r_law hd hc (k := 0) (f := vS d (quN d mo k) (nI k) (nI z) w) ?_ (by decide) ?_ ?_) ?_
  · exact EqOn.M0 (by repeat (first | exact hE | exact EqOn.rf | refine EqOn_sI ?_ (by decide) | refine EqOn_sIa ?_ (by decide)))
  · refine nine ?_ ?_ ?_ ?_ ?_ ?_ ?_ ?_ ?_ <;> simp (disch := omega) [gI_s, ixl, ixn, hj, vS, r14, quN_yr, quN_ag hk hw ha]
  · simp (disch := omega) [gI_s, ixl, hj, vS, dfl]
  rintro r υ ⟨rfl, hU⟩
  have hE2 : EqOn D_M σ υ := EqOn.tr (by repeat (first | exact hE | exact EqOn.rf | refine EqOn_sI ?_ (by decide) | refine EqOn_sIa ?_ (by decide))) hU
  unfold wS swr
  refine Ok.i (fun h3 => Ok.ret ⟨?_, hE2⟩) (fun h3 => Ok.ret ⟨?_, hE2⟩)
  · rw [decide_eq_true h3]; rfl
  · rw [decide_eq_false h3]; rfl
theorem cnt7 {s : Nat} (hs : s < 2 ^ 7) : cnt s.testBit 20 = cnt s.testBit 7 := by
  conv => lhs; rw [bs_of hs]
  exact cnt_bs (by decide)
theorem r_doesCover {N : Nat} (hN : 4000 ≤ N) {σ : Mm} {v : Nat} {d : Dt} {mo : Mo} (hd : Dok d) (hc : ML N σ v d) (hm : MR σ d mo) (hk : Mok d mo) {s n : Nat} (hs : s < 2 ^ 7) (ha : alv d mo s) (hn : n ≤ 60) : Ok (f11_doesCover N (nI s) (nI n) σ) (fun r τ => (r = 1 ∧ cov d mo n s ∨ r = 0 ∧ ¬ cov d mo n s) ∧ EqOn D_M σ τ) := by
  obtain ⟨d1, d2, d3, d4, d5, d6, d7, d8⟩ := id hd
  unfold f11_doesCover
  refine Ok.lp (fun fu (_ : Unit) i τ => f11_doesCover_2 N (nI s) (nI n) fu i τ) (n + 1) (fun i _ τ => (∀ k, k < i → dK d ≤ cnt (fun w => s.testBit w && wS d mo (cnt s.testBit 7) k w) (dW d)) ∧ EqOn D_M σ τ) (a := ()) ⟨fun k hk => absurd hk (Nat.not_lt_zero _), EqOn.rf⟩ (by omega) ?_ ?_
  · rintro fu i a τ hi ⟨h0, hE⟩ kk
    show Ok (f11_doesCover_2 N (nI s) (nI n) (fu + 1) (nI i) τ) _
    rw [f11_doesCover_2]
    refine Ok.f (nI_nlt (by omega) (by omega)) ?_
    refine Ok.lp (fun fu2 (b : Int32) j ρ => f11_doesCover_13 N (fun x3 σ => f11_doesCover_2 N (nI s) (nI n) fu x3 σ) (nI s) (nI n) (nI i) fu2 b j ρ) (dW d) (fun j b ρ => b = nI (cnt (fun w => s.testBit w && wS d mo (cnt s.testBit 7) i w) j) ∧ EqOn D_M σ ρ) ⟨rfl, hE⟩ (by omega) ?_ ?_
    · rintro fu2 j b ρ hj ⟨rfl, hR⟩ kk2
      obtain ⟨hv2, h18, hP, hQ, hW, hK, hpl, hme, hlaw⟩ := hc.eq hR.M0
      show Ok (f11_doesCover_13 N _ (nI s) (nI n) (nI i) (fu2 + 1) _ (nI j) ρ) _
      rw [f11_doesCover_13, h18, ixn (by omega), hW, bit_sr (by omega) (by omega)]
      refine Ok.c (inBn hv2 (by decide)) (Ok.f (nI_ngt hj (by omega)) (Ok.i (fun c => ?_) (fun c => ?_)))
      · have hb : s.testBit j = true := by
          cases e : s.testBit j
          · rw [e] at c; exact absurd c (by decide)
          · rfl
        rw [r_bits hN (by omega), z_b_some, cnt7 hs]
        refine Ok.b (r_wouldSwear hN hd (hc.eq hR.M0) (hm.eq hR) hk hj (ha j hb).2 (by omega)) ?_
        rintro r ρ2 ⟨rfl, hR2⟩
        refine Ok.i (fun c2 => ?_) (fun c2 => ?_)
        · rw [b2_0] at c2
          rw [f11_doesCover_54, z_l_eq, nI_1]
          exact kk2 _ _ ⟨by rw [cnt_skip (p := fun w => s.testBit w && wS d mo (cnt s.testBit 7) i w) (i := j) (by simp only [c2, Bool.and_false])], hR.tr hR2⟩
        · rw [b2_0] at c2
          rw [z_l_eq, f11_doesCover_54, z_l_eq, nI_1, nI_1]
          exact kk2 _ _ ⟨by rw [cnt_step (p := fun w => s.testBit w && wS d mo (cnt s.testBit 7) i w) (i := j) (by simp only [hb, Bool.true_and]; simpa using c2)], hR.tr hR2⟩
      · have hb : s.testBit j = false := by
          cases e : s.testBit j
          · rfl
          · rw [e] at c; exact absurd rfl c
        rw [f11_doesCover_54, z_l_eq, nI_1]
        exact kk2 _ _ ⟨by rw [cnt_skip (p := fun w => s.testBit w && wS d mo (cnt s.testBit 7) i w) (i := j) (by simp only [hb, Bool.false_and])], hR⟩
    · rintro fu2 b ρ ⟨rfl, hR⟩
      obtain ⟨hv2, h18, hP, hQ, hW, hK, hpl, hme, hlaw⟩ := hc.eq hR.M0
      have hcl := cnt_le (p := fun w => s.testBit w && wS d mo (cnt s.testBit 7) i w) (dW d)
      show Ok (f11_doesCover_13 N _ (nI s) (nI n) (nI i) (fu2 + 1) _ (nI (dW d)) ρ) _
      rw [f11_doesCover_13, h18, ixn (by omega), hW]
      refine Ok.c (inBn hv2 (by decide)) (Ok.t nI_rf ?_)
      rw [f11_doesCover_60, h18, ixn (by omega), hK]
      refine Ok.c (inBn hv2 (by decide)) (Ok.i (fun c => ?_) (fun c => ?_))
      · rw [nI_leI (by omega) (by omega)] at c
        rw [z_l_eq, nI_1]
        refine kk () _ ⟨fun k hk => ?_, hR⟩
        by_cases e : k = i
        · rw [e]; exact c
        · exact h0 k (by omega)
      · rw [nI_leI (by omega) (by omega)] at c
        exact Ok.ret ⟨Or.inr ⟨rfl, fun h => c (h i (by omega))⟩, hR⟩
  · rintro fu a τ ⟨h0, hE⟩
    show Ok (f11_doesCover_2 N (nI s) (nI n) (fu + 1) (nI (n + 1)) τ) _
    rw [f11_doesCover_2]
    exact Ok.t (nI_lt (by omega) (by omega)) (Ok.ret ⟨Or.inl ⟨rfl, fun k hk => h0 k (by omega)⟩, hE⟩)
-- the class
theorem c_see {N : Nat} (hN : 4000 ≤ N) {σ : Mm} {o : Nat} {d : Dt} {mo : Mo} (hd : Dok d) (hc : CL N σ o d) (hm : CM σ 56 d mo) (hk : Mok d mo) {n z : Nat} (hn : n ≤ 60) : Ok (f10_seeWhoWouldSwear N (nI n) (nI z) σ) (fun _ τ => (∀ k, k ≤ n → gI τ 159 k = nI (bs (fun w => al mo w && wS d mo z k w) (dW d))) ∧ EqOn D_C1 σ τ) := by
  obtain ⟨d1, d2, d3, d4, d5, d6, d7, d8⟩ := id hd
  unfold f10_seeWhoWouldSwear
  refine Ok.b (c_become hd hm) ?_
  rintro u τ ⟨hM, hE⟩
  refine Ok.lp (fun fu (_ : Unit) i τ => f10_seeWhoWouldSwear_13 N (nI n) (nI z) fu i τ) (n + 1) (fun i _ ρ => (∀ k, k < i → gI ρ 159 k = nI (bs (fun w => al mo w && wS d mo z k w) (dW d))) ∧ CM ρ 58 d (quN d mo i) ∧ EqOn D_C1 σ ρ) (a := ()) ⟨fun k hk => absurd hk (Nat.not_lt_zero _), hM, hE⟩ (by omega) ?_ ?_
  · rintro fu i a ρ hi ⟨h0, hM, hE⟩ kk
    show Ok (f10_seeWhoWouldSwear_13 N (nI n) (nI z) (fu + 1) (nI i) ρ) _
    rw [f10_seeWhoWouldSwear_13, (hm.eq1 hE).2.1]
    have h7 := two7 hd (bs_lt (p := al mo) (dW d))
    refine Ok.f (nI_nlt (by omega) (by omega)) (Ok.f (nI_ngt (n := 61) (by omega) (by decide)) (Ok.b (c_swearersOf hN hd (hc.eq hE.C10) hM (Or.inr rfl) (by omega) (nI i) (nI z)).run ?_))
    rintro r ρ2 ⟨⟨rfl, hR⟩, er⟩
    have h159 : ∀ k, gI ρ2 159 k = gI ρ 159 k := fun k => ((fr0_swearersOf N er).on (D := [(159, 1, none)]) rfl).I (wIn_r 0 rfl (by decide) (by decide))
    have hbs : bs (swP d (quN d mo i) (bs (al mo) (dW d)) (nI i) (nI z)) (dW d) = bs (fun w => al mo w && wS d mo z i w) (dW d) := bs_congr fun w hw => by
      unfold swP wS
      rw [quN_al, bs_bit, decide_eq_true hw, Bool.true_and, Bool.and_self]
    rw [hbs]
    refine Ok.c (inBn (by omega) (by decide)) (Ok.l ?_)
    rw [ixn (by omega)]
    have hE3 : EqOn D_C ρ (sI ρ2 159 i (nI (bs (fun w => al mo w && wS d mo z i w) (dW d)))) := EqOn_sIa hR (by decide)
    have hE4 := hE.tr hE3.CC1
    refine Ok.b (c_passQuietYear hN hd (hc.eq hE4.C10) (hM.eq (Or.inr rfl) hE3) (Or.inr rfl) (hk.quN i)).run ?_
    rintro u2 ρ3 ⟨⟨hM2, hR3⟩, er3⟩
    rw [z_l_eq, nI_1]
    have h159' : ∀ k, gI ρ3 159 k = gI (sI ρ2 159 i (nI (bs (fun w => al mo w && wS d mo z i w) (dW d)))) 159 k := fun k => ((fr0_passQuietYear N er3).on (D := [(159, 1, none)]) rfl).I (wIn_r 0 rfl (by decide) (by decide))
    refine kk () _ ⟨fun k hk => ?_, hM2, hE4.tr ((fr0_passQuietYear N er3).on rfl)⟩
    rw [h159']
    by_cases c : k = i
    · rw [c, gI_e]
    · rw [gI_k c, h159]; exact h0 k (by omega)
  · rintro fu a ρ ⟨h0, hM, hE⟩
    show Ok (f10_seeWhoWouldSwear_13 N (nI n) (nI z) (fu + 1) (nI (n + 1)) ρ) _
    rw [f10_seeWhoWouldSwear_13]
    exact Ok.t (nI_lt (by omega) (by omega)) (Ok.ret ⟨fun k hk => h0 k (by omega), hE⟩)
theorem c_covers {N : Nat} (hN : 4000 ≤ N) {σ : Mm} {o : Nat} {d : Dt} {mo : Mo} (hd : Dok d) (hc : CL N σ o d) {s n : Nat} (hs : s < 2 ^ 7) (ha : alv d mo s) (hn : n ≤ 60) (h159 : ∀ k, k ≤ n → gI σ 159 k = nI (bs (fun w => al mo w && wS d mo (cnt s.testBit 7) k w) (dW d))) : Ok (f10_coversYears N (nI s) (nI n) σ) (fun r τ => (r = 1 ∧ cov d mo n s ∨ r = 0 ∧ ¬ cov d mo n s) ∧ τ = σ) := by
  obtain ⟨d1, d2, d3, d4, d5, d6, d7, d8⟩ := id hd
  obtain ⟨ho, hl3, hl, hP, hQ, hW, hK, hpl, hme, hgv, hlaw, hv⟩ := id hc
  unfold f10_coversYears
  refine Ok.lp (fun fu (_ : Unit) i τ => f10_coversYears_2 N (nI s) (nI n) fu i τ) (n + 1) (fun i _ τ => (∀ k, k < i → dK d ≤ cnt (fun w => s.testBit w && wS d mo (cnt s.testBit 7) k w) (dW d)) ∧ τ = σ) (a := ()) ⟨fun k hk => absurd hk (Nat.not_lt_zero _), rfl⟩ (by omega) ?_ ?_
  · rintro fu i a τ hi ⟨h0, rfl⟩ kk
    have hcl := cnt_le (p := fun w => s.testBit w && wS d mo (cnt s.testBit 7) i w) (dW d)
    have sW : s < 2 ^ dW d := by
      rw [bs_of hs, bs_ge (n := dW d) (p := s.testBit) d3 (fun i h1 h2 => by
        cases e : s.testBit i
        · rfl
        · have := (ha i e).1; omega)]
      exact bs_lt _
    have h32 : ∀ q : Nat → Bool, bs q (dW d) < 2 ^ 32 := fun q => Nat.lt_of_lt_of_le (bs_lt _) (Nat.pow_le_pow_right (by decide) (by omega))
    have eb : bitC (nI (bs (fun w => al mo w && wS d mo (cnt s.testBit 7) i w) (dW d)) &&& nI s) = nI (cnt (fun w => s.testBit w && wS d mo (cnt s.testBit 7) i w) (dW d)) := by
      rw [show nI s = nI (bs s.testBit (dW d)) from congrArg nI (bs_of sW), andN (h32 _) (h32 _), bs_and, bitC_bs (by omega)]
      congr 1
      refine cnt_congr fun w hw => ?_
      cases e : s.testBit w
      · simp
      · rw [(ha w e).2]; simp
    show Ok (f10_coversYears_2 N (nI s) (nI n) (fu + 1) (nI i) τ) _
    rw [f10_coversYears_2, ixn (by omega), h159 i (by omega), eb]
    refine Ok.f (nI_nlt (by omega) (by omega)) (Ok.f (nI_ngt (n := 61) (by omega) (by decide)) (Ok.c (inBn (by omega) (by decide)) (Ok.r hl3 (kd_land ho) ?_)))
    rw [hK]
    refine Ok.i (fun c => ?_) (fun c => ?_)
    · rw [nI_leI (by omega) (by omega)] at c
      rw [z_l_eq, nI_1]
      refine kk () _ ⟨fun k hk => ?_, rfl⟩
      by_cases e : k = i
      · rw [e]; exact c
      · exact h0 k (by omega)
    · rw [nI_leI (by omega) (by omega)] at c
      exact Ok.ret ⟨Or.inr ⟨rfl, fun h => c (h i (by omega))⟩, rfl⟩
  · rintro fu a τ ⟨h0, rfl⟩
    show Ok (f10_coversYears_2 N (nI s) (nI n) (fu + 1) (nI (n + 1)) τ) _
    rw [f10_coversYears_2]
    exact Ok.t (nI_lt (by omega) (by omega)) (Ok.ret ⟨Or.inl ⟨rfl, fun k hk => h0 k (by omega)⟩, rfl⟩)
theorem c_alv {σ : Mm} {d : Dt} {mo : Mo} (hd : Dok d) (hm : CM σ 56 d mo) {s : Nat} (hs : s < 2 ^ 7) : (nI s &&& (gI σ 56 1 ^^^ (-1 : Int32)) = 0) = alv d mo s := by
  have h7 := hd.2.2.1
  rw [hm.2.1, xor1, show nI s = nI (bs s.testBit 7) from congrArg nI (bs_of hs), bs_more (p := al mo) (m := 7) h7, diffN (by decide)]
  have hb := bs_lt (p := fun i => s.testBit i && !(decide (i < dW d) && al mo i)) 7
  rw [show (0 : Int32) = nI 0 from rfl, nI_eq (by omega) (by decide), bs_0]
  refine propext ⟨fun h w hw => ?_, fun h w hw => ?_⟩
  · have w7 : w < 7 := by
      by_cases c : w < 7
      · exact c
      · rw [bit7 hs (by omega)] at hw; exact Bool.noConfusion hw
    have := h w w7
    rw [hw] at this
    simpa using this
  · cases e : s.testBit w
    · rfl
    · obtain ⟨a, b⟩ := h w e
      rw [decide_eq_true a, b]; rfl
def encB (b : Option Nat) : Int32 := match b with | none => 0 | some s => nI s
theorem vld_pos {d : Dt} (hd : Dok d) {mo : Mo} {n s : Nat} (h : vld d mo n s) : dK d ≤ cnt s.testBit 7 := by
  have h1 := h.2.2.2 0 (Nat.zero_le _)
  have h2 : cnt (fun w => s.testBit w && wS d mo (cnt s.testBit 7) 0 w) (dW d) ≤ cnt s.testBit (dW d) := cnt_sub fun i _ e => by rw [Bool.and_eq_true] at e; exact e.1
  have h3 : cnt s.testBit (dW d) ≤ cnt s.testBit 7 := cnt_mono hd.2.2.1
  omega
theorem c_fewest {N : Nat} (hN : 4000 ≤ N) {σ : Mm} {o : Nat} {d : Dt} {mo : Mo} (hd : Dok d) (hc : CL N σ o d) (hm : CM σ 56 d mo) (hk : Mok d mo) {n : Nat} (hn : n ≤ 60) : Ok (f10_fewestWitnesses N (nI n) σ) (fun r _ => ∃ b, IsB d mo n b ∧ r = encB b) := by
  obtain ⟨d1, d2, d3, d4, d5, d6, d7, d8⟩ := id hd
  obtain ⟨ho, hl3, hl, hP, hQ, hW, hK, hpl, hme, hgv, hlaw, hv⟩ := id hc
  unfold f10_fewestWitnesses
  refine Ok.r hl3 (kd_land ho) (Ok.l ?_)
  rw [hK]
  refine Ok.lpf (fun fu (_ : Unit) i τ => f10_fewestWitnesses_8 N (nI n) fu i τ) 5 (fun z _ τ => (∀ t, vld d mo n t → z ≤ cnt t.testBit 7) ∧ EqOn D_C1 σ τ) ?_ ?_ N (dK d) () σ ⟨fun t ht => vld_pos hd ht, EqOn.rf⟩ (by omega) (by omega)
  · rintro fu z a τ hz ⟨h0, hE⟩ kk
    show Ok (f10_fewestWitnesses_8 N (nI n) (fu + 1) (nI z) τ) _
    rw [f10_fewestWitnesses_8]
    refine Ok.f (nI_nlt (a := 4) (by omega) (by decide)) (Ok.b (c_see hN hd (hc.eq hE.C10) (hm.eq1 hE) hk hn) ?_)
    rintro u ρ ⟨h159, hR⟩
    have hER := hE.tr hR
    refine Ok.lpf (fun fu2 (_ : Unit) i τ => f10_fewestWitnesses_22 N (fun x2 σ => f10_fewestWitnesses_8 N (nI n) fu x2 σ) (nI n) (nI z) fu2 ((127 : Int32) - i) τ) 127 (fun i _ τ => (∀ t, vld d mo n t → cnt t.testBit 7 = z → mir t ≤ 127 - i) ∧ τ = ρ) ?_ ?_ N 0 () ρ ⟨fun t ht _ => by have := mir_lt t; omega, rfl⟩ (by omega) (by omega)
    · rintro fu2 i b τ hi ⟨hm0, rfl⟩ kk2
      show Ok (f10_fewestWitnesses_22 N _ (nI n) (nI z) (fu2 + 1) ((127 : Int32) - nI i) τ) _
      have e127 : (127 : Int32) - nI i = nI (127 - i) := pk_sub (a := 127) (by omega)
      have next : (∀ t, vld d mo n t → cnt t.testBit 7 = z → mir t ≠ 127 - i) → Ok (f10_fewestWitnesses_68 N (fun x2 σ => f10_fewestWitnesses_8 N (nI n) fu x2 σ) (fun x3 σ => f10_fewestWitnesses_22 N (fun x2 σ => f10_fewestWitnesses_8 N (nI n) fu x2 σ) (nI n) (nI z) fu2 x3 σ) (nI n) (nI z) (nI (127 - i)) τ) (fun r _ => ∃ b, IsB d mo n b ∧ r = encB b) := by
        intro hne
        rw [f10_fewestWitnesses_68, z_l_eq]
        have := kk2 () τ ⟨fun t ht hct => by have := hm0 t ht hct; have := hne t ht hct; omega, rfl⟩
        have e2 : nI (127 - i) + (-1 : Int32) = (127 : Int32) - nI (i + 1) := by
          rw [show (127 : Int32) - nI (i + 1) = nI (127 - (i + 1)) from pk_sub (a := 127) (by omega), show 127 - i = 127 - (i + 1) + 1 by omega, pk_m1]
        rw [e2]
        exact this
      rw [e127, f10_fewestWitnesses_22]
      have hlt : 127 - i < 2 ^ 7 := by omega
      refine Ok.f (nI_nle (by omega) (by omega)) ?_
      rw [bitC_set (n := 7) hlt (by decide)]
      have hcm : cnt (mir (127 - i)).testBit 7 = cnt (127 - i).testBit 7 := cnt_mir hlt
      have hc7 := cnt_le (p := (127 - i).testBit) 7
      refine Ok.i (fun c => ?_) (fun c => next fun t ht hct e => c ?_)
      · rw [nI_eq (by omega) (by omega)] at c
        rw [c_mirrored hN hlt, z_b_some]
        refine Ok.i (fun c2 => ?_) (fun c2 => next fun t ht hct e => c2 ?_)
        · rw [c_alv hd (hm.eq1 hER) (mir_lt _)] at c2
          refine Ok.b (c_covers hN hd (hc.eq hER.C10) (mir_lt _) c2 hn (fun k hk => by rw [hcm, c]; exact h159 k hk)) ?_
          rintro r τ2 ⟨hr, rfl⟩
          rcases hr with ⟨rfl, hcov⟩ | ⟨rfl, hcov⟩
          · refine Ok.f (by decide) (Ok.ret ⟨some (mir (127 - i)), ⟨⟨mir_lt _, by rw [hcm]; omega, c2, hcov⟩, fun t ht => ?_⟩, rfl⟩)
            rw [hcm, c, mir_mir hlt]
            have h1 := h0 t ht
            by_cases e : cnt t.testBit 7 = z
            · exact Or.inr ⟨e.symm, hm0 t ht e⟩
            · exact Or.inl (by omega)
          · refine Ok.t rfl (next fun t ht hct e => hcov ?_)
            have e3 := congrArg mir e
            rw [mir_mir ht.1] at e3
            rw [← e3]
            exact ht.2.2.2
        · rw [c_alv hd (hm.eq1 hER) (mir_lt _)]
          have e3 := congrArg mir e
          rw [mir_mir ht.1] at e3
          rw [← e3]
          exact ht.2.2.1
      · have e3 := congrArg mir e
        rw [mir_mir ht.1] at e3
        rw [← hcm, ← e3, hct]
    · rintro fu2 b τ ⟨hm0, rfl⟩
      show Ok (f10_fewestWitnesses_22 N _ (nI n) (nI z) (fu2 + 1) ((127 : Int32) - nI 127) τ) _
      rw [f10_fewestWitnesses_22]
      refine Ok.t (by decide) ?_
      rw [f10_fewestWitnesses_74, z_l_eq, nI_1]
      refine kk () _ ⟨fun t ht => ?_, hER⟩
      have h1 := h0 t ht
      by_cases e : cnt t.testBit 7 = z
      · have h2 := hm0 t ht e
        have e4 : mir t = 0 := by omega
        have e3 := congrArg mir e4
        rw [mir_mir ht.1] at e3
        have h5 := vld_pos hd ht
        rw [e3] at h5
        exact absurd h5 (by rw [show cnt (mir 0).testBit 7 = 0 from by decide]; omega)
      · omega
  · rintro fu a τ ⟨h0, hE⟩
    show Ok (f10_fewestWitnesses_8 N (nI n) (fu + 1) (nI 5) τ) _
    rw [f10_fewestWitnesses_8]
    refine Ok.t (by decide) (Ok.ret ⟨none, fun t ht => ?_, rfl⟩)
    have := h0 t ht
    have := ht.2.1
    omega
/-- as pairR, with an answer that the first one tells -/
theorem pairQ {N : Nat} {σ : Mm} {x : Option (Int32 × Mm)} {y : Mm → Option (Int32 × Mm)} {L1 L2 : Wr} (hI : Inv N σ) (f1 : ∀ r τ, x = some (r, τ) → Same L1 σ τ) (hd1 : offL L1 D_all = true) (f2 : ∀ r τ υ, y τ = some (r, υ) → Same L2 τ υ) (hd2 : offL L2 D_all = true)
    {P : Int32 → Prop} (h1 : Ok x (fun r1 _ => P r1)) (h2 : ∀ r, P r → ∀ τ, EqOn D_all σ τ → Ok (y τ) (fun r2 _ => r2 = r)) : ∃ (r : Int32) (σ1 σ2 : Mm), x = some (r, σ1) ∧ y σ1 = some (r, σ2) ∧ Inv N σ2 := by
  obtain ⟨r1, σ1, e1, hp⟩ := h1
  have hE := (f1 _ _ e1).on hd1
  obtain ⟨r2, σ2, e2, rfl⟩ := h2 r1 hp σ1 hE
  exact ⟨r2, σ1, σ2, e1, e2, (hI.eq hE).keep (f2 _ _ _ e2) hd2⟩
def encM (b : Option Nat) : Int32 := match b with | none => -1 | some s => nI s
/-- the answer of cover -/
def covA (x : Int32) (b : Option Nat) (r : Int32) : Prop := match b with
  | none => r = -2
  | some s => (x = -1 ∧ r = nI (cnt s.testBit 7)) ∨ (∃ j, j < 4 ∧ x = nI j ∧ ((∃ g, g < 7 ∧ s.testBit g = true ∧ cnt s.testBit g = j ∧ r = nI g) ∨ ((∀ g, g < 7 → s.testBit g = true → cnt s.testBit g ≠ j) ∧ r = -1)))
theorem in_m1 {N : Nat} {x : Int32} {σ : Mm} (h : x = -1 ∨ isN x 4) : f11_in N x (-1) 3 σ = some (1, σ) := by
  unfold f11_in
  rcases h with rfl | ⟨j, hj, rfl⟩
  · rw [if_neg (by decide), if_neg (by decide)]
  · rcases (show j = 0 ∨ j = 1 ∨ j = 2 ∨ j = 3 by omega) with rfl | rfl | rfl | rfl <;> rfl
theorem out_m1 {x : Int32} (h : ¬ (x = -1 ∨ isN x 4)) : x < -1 ∨ ¬ x < 4 := by
  by_cases c : x < 0
  · left
    have h1 : x ≠ -1 := fun e => h (Or.inl e)
    rw [Int32.lt_iff_toInt_lt] at *
    have e0 : (0 : Int32).toInt = 0 := rfl
    have em : (-1 : Int32).toInt = -1 := rfl
    have : x.toInt ≠ -1 := fun e => h1 (Int32.toInt_inj.mp (by rw [e, em]))
    omega
  · obtain ⟨j, hj, rfl⟩ := nI_of c
    right
    exact fun e => h (Or.inr ⟨j, (nI_ltI hj (b := 4) (by decide)).mp e, rfl⟩)
theorem cnt_g {s g : Nat} (hg : g < 20) (hs : s < 2 ^ 7) (hb : s.testBit g = true) : g < 7 := by
  by_cases c : g < 7
  · exact c
  · rw [bit7 hs (by omega)] at hb; exact Bool.noConfusion hb
theorem pr_cover {N : Nat} (hN : 4000 ≤ N) : ∀ (x1 x2 : Int32) (σ : Mm), Inv N σ → ∃ (r : Int32) (σ1 σ2 : Mm), f10_cover N x1 x2 σ = some (r, σ1) ∧ f11_cover N x1 x2 σ1 = some (r, σ2) ∧ Inv N σ2 := by
  intro x1 x2 σ hI
  obtain ⟨o, v, d, mo, hB⟩ := bridgeI hI
  obtain ⟨hd, hk, hc, hm, hcM, hn, hsd, hInv⟩ := id hB
  have hL := hInv.2.2.1
  have hNw := hInv.2.2.2.2.1
  obtain ⟨d1, d2, d3, d4, d5, d6, d7, d8⟩ := id hd
  by_cases hy : isN x1 61
  · by_cases hx : x2 = -1 ∨ isN x2 4
    · obtain ⟨n, hn', rfl⟩ := id hy
      refine pairQ hI (fun _ _ e => fr10_cover N e) rfl (fun _ _ _ e => fr11_cover N e) rfl (P := fun r => ∃ b, IsB d mo n b ∧ covA x2 b r) ?_ ?_
      · have h1 : ¬ x2 < -1 := by
          rcases hx with rfl | ⟨j, hj, rfl⟩
          · decide
          · intro c
            exact nI_pos (n := j) (by omega) (Int32.lt_trans c (by decide))
        have h2 : x2 < 4 := by
          rcases hx with rfl | ⟨j, hj, rfl⟩
          · decide
          · exact nI_lt (b := 4) hj (by decide)
        refine gd0 (noYears_t hy) (Ok.f h1 (Ok.t h2 (Ok.b (c_fewest hN hd hc hm hk (by omega)) ?_)))
        rintro r υ ⟨b, hb, rfl⟩
        cases b with
        | none => exact Ok.t rfl (Ok.ret ⟨none, hb, rfl⟩)
        | some s =>
          have hs := hb.1.1
          have hpos := vld_pos hd hb.1
          have hs0 : s ≠ 0 := fun e => by
            rw [e] at hpos
            exact absurd hpos (by rw [show cnt (Nat.testBit 0) 7 = 0 from by decide]; omega)
          refine Ok.f (show ¬ nI s = 0 from nI_ne0 (by omega) (by omega)) ?_
          rcases hx with rfl | ⟨j, hj, rfl⟩
          · refine Ok.t rfl (Ok.ret ⟨some s, hb, Or.inl ⟨rfl, ?_⟩⟩)
            exact bitC_set (n := 7) hs (by decide)
          · refine Ok.f (show ¬ nI j = -1 from fun e => nI_pos (n := j) (by omega) (by rw [e]; decide)) ?_
            show Ok (z_b (f10_bitAt N (nI s) (nI j) υ) _) _
            by_cases hex : ∃ g, g < 7 ∧ s.testBit g = true ∧ cnt s.testBit g = j
            · obtain ⟨g, g1, g2, g3⟩ := hex
              rw [bitAt_some hN (by omega) (by omega) g2 g3, z_b_some]
              exact Ok.ret ⟨some s, hb, Or.inr ⟨j, hj, rfl, Or.inl ⟨g, g1, g2, g3, rfl⟩⟩⟩
            · rw [bitAt_none hN (by omega) (by omega) (fun g g1 g2 g3 => hex ⟨g, cnt_g g1 hs g2, g2, g3⟩), z_b_some]
              exact Ok.ret ⟨some s, hb, Or.inr ⟨j, hj, rfl, Or.inr ⟨fun g g1 g2 g3 => hex ⟨g, g1, g2, g3⟩, rfl⟩⟩⟩
      · rintro r ⟨b, hb, hr⟩ τ hE
        refine gd1 (isLong_t hy) (gd1 (in_m1 hx) (Ok.b (r_copies hN hd (hB.S.eq hE)).run ?_))
        rintro u υ ⟨⟨hM, -, -, -, -, hS⟩, er⟩
        have hp7 : 2 ^ dW d ≤ 2 ^ 7 := Nat.pow_le_pow_right (by decide) d3
        refine Ok.lp (fun fu (a : Int32) i ρ => f11_cover_27 N (nI n) x2 fu a i ρ) (2 ^ dW d) (fun i a ρ => (∃ b', a = encM b' ∧ (match b' with | none => ∀ t, t < i → ¬ vld d mo n t | some s => s < i ∧ vld d mo n s ∧ ∀ t, t < i → vld d mo n t → cnt s.testBit 7 < cnt t.testBit 7 ∨ (cnt s.testBit 7 = cnt t.testBit 7 ∧ mir t ≤ mir s))) ∧ EqOn D_M υ ρ ∧ EqOn [(198, 1, none)] υ ρ) ⟨⟨none, rfl, fun t ht => absurd ht (Nat.not_lt_zero _)⟩, EqOn.rf, EqOn.rf⟩ (by omega) ?_ ?_
        · rintro fu i a ρ hi ⟨⟨b', rfl, hb'⟩, hR, hR8⟩ kk
          have hi7 : i < 2 ^ 7 := by omega
          have hMNρ : MN ρ d mo := by
            have e : gI ρ 198 = gI υ 198 := gI_row fun k => hR8.I (wIn_r 0 rfl (by decide) (by decide))
            unfold MN
            rw [e]
            exact hS.2.1
          obtain ⟨hv2, h18, hP, hQ, hW, hK, hpl, hme, hlaw⟩ := hS.1.eq hR.M0
          show Ok (f11_cover_27 N (nI n) x2 (fu + 1) _ (nI i) ρ) _
          rw [f11_cover_27, h18, ixn (by omega), hW, b1 (by omega)]
          have hci := cnt_le (p := i.testBit) 7
          -- it is passed over
          have skip : ∀ ρ2, EqOn D_M υ ρ2 → EqOn [(198, 1, none)] υ ρ2 → (match b' with | none => ¬ vld d mo n i | some s => vld d mo n i → cnt s.testBit 7 < cnt i.testBit 7 ∨ (cnt s.testBit 7 = cnt i.testBit 7 ∧ mir i ≤ mir s)) → Ok (f11_cover_114 N (fun x3 x4 σ => f11_cover_27 N (nI n) x2 fu x3 x4 σ) (nI n) x2 (encM b') (nI i) ρ2) (fun r2 _ => r2 = r) := by
            intro ρ2 h1 h2 h3
            rw [f11_cover_114, z_l_eq, nI_1]
            refine kk _ _ ⟨⟨b', rfl, ?_⟩, h1, h2⟩
            cases b' with
            | none =>
              intro t ht
              by_cases e : t = i
              · rw [e]; exact h3
              · exact hb' t (by omega)
            | some s =>
              refine ⟨by have := hb'.1; omega, hb'.2.1, fun t ht hv => ?_⟩
              by_cases e : t = i
              · rw [e]; rw [e] at hv; exact h3 hv
              · exact hb'.2.2 t (by omega) hv
          have take : ∀ ρ2, EqOn D_M υ ρ2 → EqOn [(198, 1, none)] υ ρ2 → vld d mo n i → (match b' with | none => True | some s => cnt i.testBit 7 < cnt s.testBit 7 ∨ (cnt i.testBit 7 = cnt s.testBit 7 ∧ mir s ≤ mir i)) → Ok (f11_cover_111 N (fun x3 x4 σ => f11_cover_27 N (nI n) x2 fu x3 x4 σ) (nI n) x2 (nI i) ρ2) (fun r2 _ => r2 = r) := by
            intro ρ2 h1 h2 hv h3
            rw [f11_cover_111, f11_cover_114, z_l_eq, nI_1]
            refine kk _ _ ⟨⟨some i, rfl, by omega, hv, fun t ht hvt => ?_⟩, h1, h2⟩
            by_cases e : t = i
            · rw [e]; exact Or.inr ⟨rfl, Nat.le_refl _⟩
            · cases b' with
              | none => exact absurd hvt (hb' t (by omega))
              | some s =>
                have := hb'.2.2 t (by omega) hvt
                have h3 : cnt i.testBit 7 < cnt s.testBit 7 ∨ (cnt i.testBit 7 = cnt s.testBit 7 ∧ mir s ≤ mir i) := h3
                omega
          have hskipN : ∀ ρ2, EqOn D_M υ ρ2 → EqOn [(198, 1, none)] υ ρ2 → ¬ vld d mo n i → Ok (f11_cover_114 N (fun x3 x4 σ => f11_cover_27 N (nI n) x2 fu x3 x4 σ) (nI n) x2 (encM b') (nI i) ρ2) (fun r2 _ => r2 = r) := by
            intro ρ2 h1 h2 hv
            refine skip ρ2 h1 h2 ?_
            cases b' with
            | none => exact hv
            | some s => exact fun h => absurd h hv
          refine Ok.c (inBn hv2 (by decide)) (Ok.f (nI_ngt hi (by omega)) ?_)
          rw [r_bits hN (by omega), z_b_some, cnt7 hi7]
          refine Ok.i (fun c => ?_) (fun c => ?_)
          · have c : nI 4 < nI (cnt i.testBit 7) := c
            rw [nI_ltI (by decide) (by omega)] at c
            exact hskipN ρ hR hR8 (fun h => by have := h.2.1; omega)
          · have c : ¬ nI 4 < nI (cnt i.testBit 7) := c
            rw [nI_ltI (by decide) (by omega)] at c
            rw [r_areAlive hN hd hMNρ hi, z_b_some]
            have eal : (∀ w, w < dW d → i.testBit w = true → al mo w = true) ↔ alv d mo i := by
              constructor
              · intro h w hw
                have hwW : w < dW d := by
                  by_cases c : w < dW d
                  · exact c
                  · rw [Nat.testBit_lt_two_pow (Nat.lt_of_lt_of_le hi (Nat.pow_le_pow_right (by decide) (by omega)))] at hw
                    exact Bool.noConfusion hw
                exact ⟨hwW, h w hwW hw⟩
              · exact fun h w _ hw => (h w hw).2
            refine Ok.i (fun c2 => ?_) (fun c2 => ?_)
            · rw [b2_0] at c2
              have c2' := of_decide_eq_false c2
              exact hskipN ρ hR hR8 (fun h => c2' (eal.mpr h.2.2.1))
            · rw [b2_0] at c2
              have c2' : ∀ w, w < dW d → i.testBit w = true → al mo w = true := by simpa using c2
              have halv := eal.mp c2'
              refine Ok.b (r_doesCover hN hd (hS.1.eq hR.M0) (hM.eq hR) hk hi7 halv (by omega)).run ?_
              rintro r1 ρ2 ⟨⟨hr1, hR2⟩, er2⟩
              have hR3 := hR.tr hR2
              have hR83 : EqOn [(198, 1, none)] υ ρ2 := hR8.tr ((fr11_doesCover N er2).on rfl)
              rcases hr1 with ⟨rfl, hcov⟩ | ⟨rfl, hcov⟩
              · have hv : vld d mo n i := ⟨hi7, by omega, halv, hcov⟩
                refine Ok.f (by decide) ?_
                cases b' with
                | none => exact Ok.t (show (-1 : Int32) < 0 by decide) (take ρ2 hR3 hR83 hv trivial)
                | some s =>
                  have hs7 := hb'.2.1.1
                  have hcs := cnt_le (p := s.testBit) 7
                  refine Ok.f (show ¬ nI s < 0 from nI_pos (by omega)) ?_
                  rw [show encM (some s) = nI s from rfl, r_bits hN (by omega), z_b_some, r_bits hN (by omega), z_b_some, cnt7 hi7, cnt7 hs7]
                  refine Ok.i (fun c3 => ?_) (fun c3 => ?_)
                  · rw [nI_ltI (by omega) (by omega)] at c3
                    exact take ρ2 hR3 hR83 hv (Or.inl c3)
                  · rw [nI_ltI (by omega) (by omega)] at c3
                    rw [r_bits hN (by omega), z_b_some, r_bits hN (by omega), z_b_some, cnt7 hi7, cnt7 hs7]
                    refine Ok.i (fun c4 => ?_) (fun c4 => ?_)
                    · rw [nI_eq (by omega) (by omega)] at c4
                      have hne : i ≠ s := by have := hb'.1; omega
                      rw [r_isEarlier hN hi7 hs7 c4 (by omega) hne, z_b_some]
                      refine Ok.i (fun c5 => ?_) (fun c5 => ?_)
                      · rw [b2_0] at c5
                        have c5' := of_decide_eq_false c5
                        exact skip ρ2 hR3 hR83 (fun _ => Or.inr ⟨c4.symm, by omega⟩)
                      · rw [b2_0] at c5
                        have c5' : mir s < mir i := by simpa using c5
                        exact take ρ2 hR3 hR83 hv (Or.inr ⟨c4, by omega⟩)
                    · rw [nI_eq (by omega) (by omega)] at c4
                      exact skip ρ2 hR3 hR83 (fun _ => Or.inl (by omega))
              · exact Ok.t rfl (hskipN ρ2 hR3 hR83 (fun h => hcov h.2.2.2))
        · rintro fu a ρ ⟨⟨b', rfl, hb'⟩, hR, hR8⟩
          obtain ⟨hv2, h18, hP, hQ, hW, hK, hpl, hme, hlaw⟩ := hS.1.eq hR.M0
          have hall : ∀ t, vld d mo n t → t < 2 ^ dW d := fun t ht => by
            rw [bs_of ht.1, bs_ge (n := dW d) (p := t.testBit) d3 (fun i h1 h2 => by
              cases e : t.testBit i
              · rfl
              · have := (ht.2.2.1 i e).1; omega)]
            exact bs_lt _
          have hB' : IsB d mo n b' := by
            cases b' with
            | none => exact fun t ht => hb' t (hall t ht) ht
            | some s => exact ⟨hb'.2.1, fun t ht => hb'.2.2 t (hall t ht) ht⟩
          have e := IsB.uniq hB' hb
          subst e
          show Ok (f11_cover_27 N (nI n) x2 (fu + 1) _ (nI (2 ^ dW d)) ρ) _
          rw [f11_cover_27, h18, ixn (by omega), hW, b1 (by omega)]
          refine Ok.c (inBn hv2 (by decide)) (Ok.t nI_rf ?_)
          rw [f11_cover_120]
          cases b' with
          | none => exact Ok.f (show ¬ (0 : Int32) ≤ -1 by decide) (Ok.ret hr.symm)
          | some s =>
            have hs7 := hB'.1.1
            refine Ok.t (show (0 : Int32) ≤ nI s from nI_pos' (by omega)) ?_
            rcases hr with ⟨rfl, hr⟩ | ⟨j, hj, rfl, hr⟩
            · refine Ok.t rfl ?_
              rw [show encM (some s) = nI s from rfl, r_bits hN (by omega), z_b_some, cnt7 hs7]
              exact Ok.ret hr.symm
            · refine Ok.f (show ¬ nI j = -1 from fun e => nI_pos (n := j) (by omega) (by rw [e]; decide)) ?_
              rcases hr with ⟨g, g1, g2, g3, hr⟩ | ⟨hno, hr⟩
              · rw [show encM (some s) = nI s from rfl, ith_some hN (by omega) g1 g2 g3, z_b_some]
                exact Ok.ret hr.symm
              · rw [show encM (some s) = nI s from rfl, ith_none hN (by omega) (by omega) hno, z_b_some]
                exact Ok.ret hr.symm
    · have hin : ∀ τ, f11_in N x2 (-1) 3 τ = some (0, τ) := fun τ => by
        unfold f11_in
        rcases out_m1 hx with c | c
        · rw [if_pos c]
        · by_cases c2 : x2 < -1
          · rw [if_pos c2]
          · have h3 : (3 : Int32) < x2 := by
              rw [Int32.not_lt, Int32.le_iff_toInt_le] at c
              rw [Int32.lt_iff_toInt_lt]
              have e3 : (3 : Int32).toInt = 3 := rfl
              have e4 : (4 : Int32).toInt = 4 := rfl
              omega
            rw [if_neg c2, if_pos h3]
      refine pairR hI (fun _ _ e => fr10_cover N e) rfl (fun _ _ _ e => fr11_cover N e) rfl (-1) (gd0 (noYears_t hy) ?_) (fun τ hE => gd1 (isLong_t hy) (gd0 (hin τ) (Ok.ret rfl)))
      by_cases c2 : x2 < -1
      · exact Ok.t c2 (Ok.ret rfl)
      · rcases out_m1 hx with c | c
        · exact absurd c c2
        · exact Ok.f c2 (Ok.f c (Ok.ret rfl))
  · exact pairR hI (fun _ _ e => fr10_cover N e) rfl (fun _ _ _ e => fr11_cover N e) rfl (-1) (gd1 (noYears_f hy) (Ok.ret rfl)) (fun τ hE => gd0 (isLong_f hy) (Ok.ret rfl))
