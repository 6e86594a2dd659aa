-- THE REFERENCE: laws, years
theorem r_diesNow {N : Nat} (hN : 4000 ≤ N) {σ : Mm} {v : Nat} {d : Dt} {mo : Mo} (hd : Dok d) (hc : ML N σ v d) (hm : MR σ d mo) {w : Nat} (hw : w < dW d) : Ok (f11_diesNow N (nI w) σ) (Rd D_M σ (nI (die d mo w))) := by
  unfold f11_diesNow
  refine Ok.b (r_looksAt hN hd hc hm hw) ?_
  rintro u τ ⟨hj, hE⟩
  refine Ok.b (r_law hd hc (k := 1) hE.M0 (by decide) hj rfl) ?_
  rintro r υ ⟨rfl, hU⟩
  rw [show (100 : Int32) = nI 100 from rfl, hld_M (by decide), z_b_some]
  exact Ok.ret ⟨rfl, hE.tr hU⟩
theorem r_asksAt {N : Nat} (hN : 4000 ≤ N) {σ : Mm} {v : Nat} {d : Dt} {mo : Mo} (hd : Dok d) (hc : ML N σ v d) (hm : MR σ d mo) {p : Nat} (hp : p < dQ d) : Ok (f11_asksAt N (nI p) σ) (Rd D_M σ (nI (askV d mo p))) := by
  obtain ⟨d1, d2, d3, d4, d5, d6, d7, d8⟩ := id hd
  unfold f11_asksAt
  refine Ok.b (r_looks hN) ?_
  rintro u τ ⟨hj, hE⟩
  obtain ⟨hv2, h18, hP, hQ, hW, hK, hpl, hme, hlaw⟩ := hc.eq hE.M0
  obtain ⟨ra, rl, r14, r15, r16, rg⟩ := id hm
  rw [h18, m7]
  refine Ok.c (inBn (by omega) (by decide)) (Ok.c rfl (Ok.l ?_))
  rw [gI_o (by decide), h18, m7]
  repeat (first | (with_reducible refine Ok.l ?_) | ((with_reducible refine Ok.c ?_ ?_); · first | rfl | exact inBn (by omega) (by decide)))
  refine Ok.b (r_law hd hc (k := 3) (f := vA d mo p) ?_ (by decide) ?_ rfl) ?_
  · exact EqOn.M0 (by repeat (first | exact hE | exact EqOn.rf | refine EqOn_sI ?_ (by decide) | refine EqOn_sIa ?_ (by decide)))
  · have e1 := (hpl p hp).1
    have e2 := (hpl p hp).2.1
    refine nine ?_ ?_ ?_ ?_ ?_ ?_ ?_ ?_ ?_ <;> simp (disch := omega) [gI_s, ixl, ixn, hj, vA, r14, e1, e2]
  rintro r υ ⟨rfl, hU⟩
  have hE2 : EqOn D_M σ υ := EqOn.tr (by repeat (first | exact hE | exact EqOn.rf | refine EqOn_sI ?_ (by decide) | refine EqOn_sIa ?_ (by decide))) hU
  rw [show (99 : Int32) = nI 99 from rfl, hld_M (by decide), z_b_some]
  exact Ok.ret ⟨rfl, hE2⟩
theorem off_M {N a b : Nat} (ha : a < 2 ^ 31) (hb : b < 2 ^ 31) {σ : Mm} : f11_off N (nI a) (nI b) σ = some (nI (dist a b), σ) := by
  unfold f11_off dist
  by_cases c : b ≤ a
  · rw [if_pos (nI_le c ha), if_neg (by omega), pk_sub c]
  · rw [if_neg (nI_ge (by omega) hb), if_pos (by omega), pk_sub (by omega)]
theorem m7' {v : Nat} : (7 : Int32) * nI v = nI (7 * v) := by rw [show (7 : Int32) = nI 7 from rfl, pk_mul]
theorem r_walksTo {N : Nat} (hN : 4000 ≤ N) {σ : Mm} {v : Nat} {d : Dt} {mo : Mo} (hd : Dok d) (hc : ML N σ v d) (hm : MR σ d mo) {p q : Nat} (hp : p < dQ d) (hq : q < dQ d) : Ok (f11_walksTo N (nI p) (nI q) σ) (Rd D_M σ (nI (wlk d mo p q))) := by
  obtain ⟨d1, d2, d3, d4, d5, d6, d7, d8⟩ := id hd
  obtain ⟨hv2, h18, hP, hQ, hW, hK, hpl, hme, hlaw⟩ := id hc
  obtain ⟨ra, rl, r14, r15, r16, rg⟩ := id hm
  unfold f11_walksTo
  rw [h18, m7', z_l_eq, nI_add, nI_add]
  refine Ok.b (r_looks hN) ?_
  rintro u τ ⟨hj, hE⟩
  obtain ⟨hv2, h18, hP, hQ, hW, hK, hpl, hme, hlaw⟩ := hc.eq hE.M0
  obtain ⟨x1, y1, f1⟩ := hpl p hp
  obtain ⟨x2, y2, f2⟩ := hpl q hq
  obtain ⟨-, bx1, by1⟩ := d6 p hp
  obtain ⟨-, bx2, by2⟩ := d6 q hq
  repeat (first | (with_reducible refine Ok.l ?_) | ((with_reducible refine Ok.c ?_ ?_); · first | rfl | exact inBn (by omega) (by decide)))
  rw [ixn (show 7 * v + p < 2 ^ 31 by omega), ixn (show 7 * v + q < 2 ^ 31 by omega), x1, x2, off_M (by omega) (by omega), z_b_some]
  repeat (first | (with_reducible refine Ok.l ?_) | ((with_reducible refine Ok.c ?_ ?_); · first | rfl | exact inBn (by omega) (by decide)))
  rw [y1, y2, off_M (by omega) (by omega), z_b_some]
  repeat (first | (with_reducible refine Ok.l ?_) | ((with_reducible refine Ok.c ?_ ?_); · first | rfl | exact inBn (by omega) (by decide)))
  refine Ok.b (r_law hd hc (k := 2) (f := vW d mo p q) ?_ (by decide) ?_ ?_) ?_
  · exact EqOn.M0 (by repeat (first | exact hE | exact EqOn.rf | refine EqOn_sI ?_ (by decide) | refine EqOn_sIa ?_ (by decide)))
  · refine nine ?_ ?_ ?_ ?_ ?_ ?_ ?_ ?_ ?_ <;> simp (disch := omega) [gI_s, ixl, ixn, hj, vW, r14, x2, y2, nI_add]
  · simp (disch := omega) [gI_s, ixl, ixn, hj, vW, dfl, nI_add]
  rintro r υ ⟨rfl, hU⟩
  have hE2 : EqOn D_M σ υ := EqOn.tr (by repeat (first | exact hE | exact EqOn.rf | refine EqOn_sI ?_ (by decide) | refine EqOn_sIa ?_ (by decide))) hU
  rw [show (99 : Int32) = nI 99 from rfl, hld_M (by decide), z_b_some]
  exact Ok.ret ⟨rfl, hE2⟩
theorem r_standBits {N : Nat} (hN : 4000 ≤ N) {σ : Mm} {v : Nat} {d : Dt} {mo : Mo} (hd : Dok d) (hc : ML N σ v d) (hm : MR σ d mo) {fl : Bool} (hf : gI σ 160 59 = b2 fl) : Ok (f11_standBits N σ) (Rd D_M σ (nI (bs (stF d mo fl) (dn d)))) := by
  obtain ⟨d1, d2, d3, d4, d5, d6, d7, d8⟩ := id hd
  unfold f11_standBits
  refine Ok.lp (fun fu (a : Int32) i τ => f11_standBits_4 N fu a i τ) (dn d) (fun i a τ => a = nI (bs (stF d mo fl) i) ∧ EqOn D_M σ τ) ⟨rfl, EqOn.rf⟩ (by omega) ?_ ?_
  · rintro fu i a τ hi ⟨rfl, hE⟩ k
    obtain ⟨ra, rl, r14, r15, r16, rg⟩ := hm.eq hE
    show Ok (f11_standBits_4 N (fu + 1) _ (nI i) τ) _
    rw [f11_standBits_4, ixl.2.2.2.2.2.2.2.2.2.2.1, r15]
    refine Ok.c rfl (Ok.f (nI_ngt hi (by omega)) (Ok.b (r_doesStand hN hd (hc.eq hE.M0) (hm.eq hE) (fl := fl) (by rw [flag hE.M1]; exact hf) hi) ?_))
    rintro r υ ⟨rfl, hU⟩
    refine Ok.i (fun h => ?_) (fun h => ?_)
    · rw [b2_0] at h
      rw [f11_standBits_29, z_l_eq, nI_1]
      exact k _ _ ⟨by rw [bs_skip (p := stF d mo fl) (i := i) h], hE.tr hU⟩
    · rw [b2_0] at h
      rw [z_l_eq, f11_standBits_29, z_l_eq, nI_1, b1 (by omega), bs_step (p := stF d mo fl) (by omega) (by simpa using h)]
      exact k _ _ ⟨rfl, hE.tr hU⟩
  · rintro fu a τ ⟨rfl, hE⟩
    obtain ⟨ra, rl, r14, r15, r16, rg⟩ := hm.eq hE
    show Ok (f11_standBits_4 N (fu + 1) _ (nI (dn d)) τ) _
    rw [f11_standBits_4, ixl.2.2.2.2.2.2.2.2.2.2.1, r15]
    exact Ok.c rfl (Ok.t nI_rf (Ok.ret ⟨rfl, hE⟩))
theorem r_countsOf {N : Nat} (hN : 4000 ≤ N) {σ : Mm} {v : Nat} {d : Dt} {mo : Mo} (hd : Dok d) (hc : ML N σ v d) (hm : MR σ d mo) {st : Nat → Bool} (hw : Wh σ d st (dn d)) {p : Nat} (hp : p < dQ d) : Ok (f11_countsOf N (nI p) σ) (fun r τ => r = nI (cnt (ctS d st p) (dn d)) ∧ τ = σ) := by
  obtain ⟨d1, d2, d3, d4, d5, d6, d7, d8⟩ := id hd
  unfold f11_countsOf
  refine Ok.lp (fun fu (a : Int32) i τ => f11_countsOf_4 N (nI p) fu a i τ) (dn d) (fun i a τ => a = nI (cnt (ctS d st p) i) ∧ τ = σ) ⟨rfl, rfl⟩ (by omega) ?_ ?_
  · rintro fu i a τ hi ⟨rfl, rfl⟩ k
    obtain ⟨ra, rl, r14, r15, r16, rg⟩ := id hm
    obtain ⟨g1, g2, g3, g4, g5⟩ := rg i hi
    obtain ⟨q1, q2, q3, q4⟩ := d7 i hi
    show Ok (f11_countsOf_4 N (nI p) (fu + 1) _ (nI i) τ) _
    rw [f11_countsOf_4, ixl.2.2.2.2.2.2.2.2.2.2.1, r15, ad17, ixn (by omega), ixn (by omega), g1, (hw.2 i hi).2]
    refine Ok.c rfl (Ok.f (nI_ngt hi (by omega)) (Ok.c (inBn (by omega) (by decide)) (Ok.i (fun h => ?_) (fun h => ?_))))
    · rw [nI_eq (by omega) (by omega)] at h
      refine Ok.c (inBn (by omega) (by decide)) (Ok.i (fun h2 => ?_) (fun h2 => ?_))
      · rw [b2_0, h] at h2
        rw [f11_countsOf_40, z_l_eq, nI_1]
        exact k _ _ ⟨by rw [cnt_skip (p := ctS d st p) (i := i) h2], rfl⟩
      · rw [b2_0, h] at h2
        rw [z_l_eq, f11_countsOf_40, z_l_eq, nI_1, nI_1]
        exact k _ _ ⟨by rw [cnt_step (p := ctS d st p) (i := i) (by simpa using h2)], rfl⟩
    · rw [nI_eq (by omega) (by omega)] at h
      rw [f11_countsOf_40, z_l_eq, nI_1]
      exact k _ _ ⟨by rw [cnt_skip (p := ctS d st p) (i := i) (ctS_f (fun c => h c.1)).1], rfl⟩
  · rintro fu a τ ⟨rfl, rfl⟩
    obtain ⟨ra, rl, r14, r15, r16, rg⟩ := id hm
    show Ok (f11_countsOf_4 N (nI p) (fu + 1) _ (nI (dn d)) τ) _
    rw [f11_countsOf_4, ixl.2.2.2.2.2.2.2.2.2.2.1, r15]
    exact Ok.c rfl (Ok.t nI_rf (Ok.ret ⟨rfl, rfl⟩))
theorem r_hasNow {N : Nat} (hN : 4000 ≤ N) {σ : Mm} {v : Nat} {d : Dt} (hd : Dok d) (hc : ML N σ v d) {f : Nat → Nat} (hf : ∀ p, p < dQ d → f p < 2 ^ 31 ∧ gI σ 200 p = nI (f p)) {a : Nat} (ha : a < 2 ^ 31) :
    f11_hasNow N (nI a) σ = some (nI (cnt (fun p => decide (f p = a)) (dQ d)), σ) := by
  have h : Ok (f11_hasNow N (nI a) σ) (fun r τ => r = nI (cnt (fun p => decide (f p = a)) (dQ d)) ∧ τ = σ) := by
    obtain ⟨d1, d2, d3, d4, d5, d6, d7, d8⟩ := id hd
    obtain ⟨hv2, h18, hP, hQ, hW, hK, hpl, hme, hlaw⟩ := id hc
    unfold f11_hasNow
    refine Ok.lp (fun fu (x : Int32) i τ => f11_hasNow_4 N (nI a) fu x i τ) (dQ d) (fun i x τ => x = nI (cnt (fun p => decide (f p = a)) i) ∧ τ = σ) ⟨rfl, rfl⟩ (by omega) ?_ ?_
    · rintro fu i x τ hi ⟨rfl, rfl⟩ k
      show Ok (f11_hasNow_4 N (nI a) (fu + 1) _ (nI i) τ) _
      rw [f11_hasNow_4, h18, ixn (by omega), hQ, ixn (by omega), (hf i hi).2]
      refine Ok.c (inBn hv2 (by decide)) (Ok.f (nI_ngt hi (by omega)) (Ok.c (inBn (by omega) (by decide)) (Ok.i (fun h => ?_) (fun h => ?_))))
      · rw [nI_eq (hf i hi).1 ha] at h
        rw [z_l_eq, f11_hasNow_30, z_l_eq, nI_1, nI_1]
        exact k _ _ ⟨by rw [cnt_step (p := fun p => decide (f p = a)) (i := i) (decide_eq_true h)], rfl⟩
      · rw [nI_eq (hf i hi).1 ha] at h
        rw [f11_hasNow_30, z_l_eq, nI_1]
        exact k _ _ ⟨by rw [cnt_skip (p := fun p => decide (f p = a)) (i := i) (decide_eq_false h)], rfl⟩
    · rintro fu x τ ⟨rfl, rfl⟩
      show Ok (f11_hasNow_4 N (nI a) (fu + 1) _ (nI (dQ d)) τ) _
      rw [f11_hasNow_4, h18, ixn (by omega), hQ]
      exact Ok.c (inBn hv2 (by decide)) (Ok.t nI_rf (Ok.ret ⟨rfl, rfl⟩))
  obtain ⟨r, τ, e, rfl, rfl⟩ := h
  exact e
-- years
def alG (mo : Mo) (dd : Nat → Bool) (i w : Nat) : Bool := al mo w && !(decide (w < i) && dd w)
def agG (mo : Mo) (dd : Nat → Bool) (i w : Nat) : Nat := if w < i ∧ alG mo dd i w = true then min (ag mo w + 1) 999 else ag mo w
def goneG (d : Dt) (mo : Mo) (dd : Nat → Bool) : Mo := (alG mo dd (dW d), agG mo dd (dW d), yr mo + 1)
theorem alG_ne {mo : Mo} {dd : Nat → Bool} {w i : Nat} (h : w ≠ i) : alG mo dd (i + 1) w = alG mo dd i w := by unfold alG; rw [lt_ne h]
theorem agG_ne {mo : Mo} {dd : Nat → Bool} {w i : Nat} (h : w ≠ i) : agG mo dd (i + 1) w = agG mo dd i w := by
  unfold agG
  rw [alG_ne h]
  by_cases c : w < i ∧ alG mo dd i w = true
  · rw [if_pos c, if_pos ⟨by omega, c.2⟩]
  · rw [if_neg c, if_neg (fun e => c ⟨by omega, e.2⟩)]
theorem gone_pass {d : Dt} {mo : Mo} {s : Int32} : goneG d mo (dead d s mo) = pass d s mo := rfl
theorem gone_quiet {d : Dt} {mo : Mo} : goneG d mo (fun _ => false) = quiet d mo := by
  have e : ∀ i, alG mo (fun _ => false) i = al mo := fun i => funext fun w => by unfold alG; simp
  unfold goneG quiet
  rw [e]
  refine congrArg (fun z => (al mo, z, yr mo + 1)) (funext fun w => ?_)
  unfold agG agQ
  rw [e]
theorem MR.upd {σ : Mm} {d : Dt} {mo mo2 : Mo} {j : Nat} {x : Int32} (hd : Dok d) (h : MR σ d mo) (hj : j < 15) (ha : ∀ w, w < dW d → (if w = j then x else gI σ 199 w) = nI (ag mo2 w)) (hl : ∀ w, w < dW d → (if 7 + w = j then x else gI σ 199 (7 + w)) = b2 (al mo2 w)) (hy : (if 14 = j then x else gI σ 199 14) = yr mo2) : MR (sI σ 199 j x) d mo2 := by
  obtain ⟨ra, rl, r14, r15, r16, rg⟩ := h
  have e : ∀ k, gI (sI σ 199 j x) 199 k = if k = j then x else gI σ 199 k := fun k => by
    by_cases c : k = j
    · subst c; rw [gI_e, if_pos rfl]
    · rw [gI_k c, if_neg c]
  have h7 := hd.2.2.1
  refine ⟨fun w hw => by rw [e]; exact ha w hw, fun w hw => by rw [e]; exact hl w hw, by rw [e]; exact hy, by rw [e, if_neg (by omega)]; exact r15, by rw [e, if_neg (by omega)]; exact r16, fun g hg => ?_⟩
  rw [e, e, e, e, e, if_neg (by omega), if_neg (by omega), if_neg (by omega), if_neg (by omega), if_neg (by omega)]
  exact rg g hg
theorem held999 {N a : Nat} (h : a ≤ 999) {σ : Mm} : f11_held N (nI a + 1) 0 999 σ = some (nI (min (a + 1) 999), σ) := by
  rw [nI_1, show (999 : Int32) = nI 999 from rfl, hld_M (by decide)]
  unfold hld
  rw [nI_clamp (by omega), Nat.min_comm]
theorem r_yearGoes {N : Nat} (hN : 4000 ≤ N) {σ : Mm} {v : Nat} {d : Dt} {mo : Mo} (hd : Dok d) (hc : ML N σ v d) (hm : MR σ d mo) (hk : Mok d mo) {fl : Bool} (hf : gI σ 160 58 = b2 fl) : Ok (f11_yearGoes N σ) (fun _ τ => MR τ d (if fl then quiet d mo else pass d (gI σ 160 57) mo) ∧ EqOn D_M1 σ τ) := by
  obtain ⟨d1, d2, d3, d4, d5, d6, d7, d8⟩ := id hd
  have hg : ∃ dd : Nat → Bool, dd = (fun w => !fl && dead d (gI σ 160 57) mo w) := ⟨_, rfl⟩
  obtain ⟨dd, hdd⟩ := hg
  have hfin : (if fl then quiet d mo else pass d (gI σ 160 57) mo) = goneG d mo dd := by
    rw [hdd]
    cases fl
    · rw [show (fun w => !false && dead d (gI σ 160 57) mo w) = dead d (gI σ 160 57) mo from funext fun w => by rw [Bool.not_false, Bool.true_and], gone_pass, if_neg (by decide)]
    · rw [show (fun w => !true && dead d (gI σ 160 57) mo w) = fun _ => false from funext fun w => by rw [Bool.not_true, Bool.false_and], gone_quiet, if_pos rfl]
  rw [hfin]
  unfold f11_yearGoes
  refine Ok.lp (fun fu (_ : Unit) i τ => f11_yearGoes_2 N fu i τ) (dW d) (fun i _ τ => MR τ d (alG mo dd i, agG mo dd i, yr mo) ∧ EqOn D_M1 σ τ) (a := ()) ⟨?_, EqOn.rf⟩ (by omega) ?_ ?_
  · obtain ⟨ra, rl, r14, r15, r16, rg⟩ := hm
    refine ⟨fun w hw => ?_, fun w hw => ?_, r14, r15, r16, rg⟩
    · rw [ra w hw]; show _ = nI (agG mo dd 0 w); unfold agG; rw [if_neg (by omega)]
    · rw [rl w hw]; show _ = b2 (alG mo dd 0 w); unfold alG; simp
  · rintro fu i a τ hi ⟨hM, hE⟩ k
    obtain ⟨hv2, h18, hP, hQ, hW, hK, hpl, hme, hlaw⟩ := hc.eq hE.M10
    obtain ⟨ra, rl, r14, r15, r16, rg⟩ := id hM
    have eai : agG mo dd i i = ag mo i := by unfold agG; rw [if_neg (by omega)]
    have eli : alG mo dd i i = al mo i := by unfold alG; simp
    have hri : gI τ 199 i = nI (ag mo i) := by rw [ra i hi]; show nI (agG mo dd i i) = _; rw [eai]
    have hli : gI τ 199 (7 + i) = b2 (al mo i) := by rw [rl i hi]; show b2 (alG mo dd i i) = _; rw [eli]
    show Ok (f11_yearGoes_2 N (fu + 1) (nI i) τ) _
    rw [f11_yearGoes_2]
    simp only [ad7, ad17, ad37, ad57, ad77, ad97, m7]
    rw [h18, ixn (by omega), hW, ixn (by omega), hli]
    refine Ok.c (inBn hv2 (by decide)) (Ok.f (nI_ngt hi (by omega)) (Ok.c (inBn (by omega) (by decide)) (Ok.i (fun h => ?_) (fun h => ?_))))
    · rw [b2_0] at h
      rw [f11_yearGoes_95, z_l_eq, nI_1]
      refine k () _ ⟨⟨fun w hw => ?_, fun w hw => ?_, r14, r15, r16, rg⟩, hE⟩
      · rw [ra w hw]
        show nI (agG mo dd i w) = nI (agG mo dd (i + 1) w)
        by_cases c : w = i
        · subst c
          rw [eai]
          unfold agG
          rw [if_neg (fun e => by have := e.2; unfold alG at this; rw [h] at this; exact Bool.noConfusion this)]
        · rw [agG_ne c]
      · rw [rl w hw]
        show b2 (alG mo dd i w) = b2 (alG mo dd (i + 1) w)
        by_cases c : w = i
        · subst c
          unfold alG
          rw [h]
          rfl
        · rw [alG_ne c]
    · rw [b2_0] at h
      have h' : al mo i = true := by simpa using h
      -- it lives on
      have lives : ∀ υ, EqOn D_M τ υ → dd i = false → Ok (f11_yearGoes_74 N (fun x1 σ => f11_yearGoes_2 N fu x1 σ) (nI i) υ) (fun _ τ => MR τ d (goneG d mo dd) ∧ EqOn D_M1 σ τ) := by
        intro υ hU hf'
        have hMU := hM.eq hU
        have hri' : gI υ 199 i = nI (ag mo i) := by rw [hU.I (wIn_r 0 rfl (by decide) (by decide))]; exact hri
        rw [f11_yearGoes_74, ixn (by omega), hri', held999 (hk i hi), z_b_some]
        repeat (first | (with_reducible refine Ok.l ?_) | ((with_reducible refine Ok.c ?_ ?_); · first | rfl | exact inBn (by omega) (by decide)))
        rw [f11_yearGoes_95, z_l_eq, nI_1]
        have e1 : alG mo dd (i + 1) = alG mo dd i := funext fun w => by
          by_cases c : w = i
          · subst c; unfold alG; rw [hf', Bool.and_false, Bool.and_false]
          · exact alG_ne c
        refine k () _ ⟨MR.upd hd hMU (by omega) (fun w hw => ?_) (fun w hw => ?_) ?_, EqOn_sIa (hE.tr hU.M1) (by decide)⟩
        · show _ = nI (agG mo dd (i + 1) w)
          by_cases c : w = i
          · subst c
            rw [if_pos rfl]
            unfold agG
            rw [if_pos ⟨by omega, by rw [e1, eli]; exact h'⟩]
          · rw [if_neg c, agG_ne c]; exact hMU.1 w hw
        · show _ = b2 (alG mo dd (i + 1) w)
          rw [if_neg (by omega), e1]
          exact hMU.2.1 w hw
        · rw [if_neg (by omega)]; exact hMU.2.2.1
      refine Ok.i (fun h2 => ?_) (fun h2 => ?_)
      · rw [flag58 hE, hf, b2_0] at h2
        refine Ok.c rfl ?_
        rw [ixl.2.2.2.2.2.2.2.2.2.1, r14, lot_M, z_b_some, flag57 hE, show yr (alG mo dd i, agG mo dd i, yr mo) = yr mo from rfl]
        refine Ok.b (r_diesNow hN hd (hc.eq hE.M10) hM hi) ?_
        rintro r υ ⟨rfl, hU⟩
        have ed : die d (alG mo dd i, agG mo dd i, yr mo) i = die d mo i := by
          unfold die
          congr 2
          funext j
          show vS d (alG mo dd i, agG mo dd i, yr mo) 0 0 i j = _
          unfold vS
          rw [show ag (alG mo dd i, agG mo dd i, yr mo) i = ag mo i from eai]
          rfl
        rw [ed]
        refine Ok.i (fun h3 => ?_) (fun h3 => ?_)
        · refine lives υ hU ?_
          rw [hdd]
          show (!fl && dead d (gI σ 160 57) mo i) = false
          unfold dead
          rw [decide_eq_true h3]
          simp
        · have hdi : dd i = true := by
            rw [hdd]
            show (!fl && dead d (gI σ 160 57) mo i) = true
            unfold dead
            rw [decide_eq_false h3, h2]
            rfl
          have hMU := hM.eq hU
          refine Ok.c (inBn (by omega) (by decide)) (Ok.l ?_)
          rw [f11_yearGoes_95, z_l_eq, nI_1]
          refine k () _ ⟨MR.upd hd hMU (by omega) (fun w hw => ?_) (fun w hw => ?_) ?_, EqOn_sIa (hE.tr hU.M1) (by decide)⟩
          · show _ = nI (agG mo dd (i + 1) w)
            rw [if_neg (by omega), hMU.1 w hw]
            show nI (agG mo dd i w) = _
            by_cases c : w = i
            · subst c
              rw [eai]
              unfold agG
              rw [if_neg (fun e => by have := e.2; unfold alG at this; rw [hdi, decide_eq_true (show w < w + 1 by omega)] at this; simp at this)]
            · rw [agG_ne c]
          · show _ = b2 (alG mo dd (i + 1) w)
            by_cases c : w = i
            · subst c
              rw [if_pos rfl]
              unfold alG
              rw [hdi, decide_eq_true (show w < w + 1 by omega)]
              simp [b2]
            · rw [if_neg (by omega), alG_ne c]; exact hMU.2.1 w hw
          · rw [if_neg (by omega)]; exact hMU.2.2.1
      · rw [flag58 hE, hf, b2_0] at h2
        refine lives τ EqOn.rf ?_
        rw [hdd, show fl = true by simpa using h2]
        rfl
  · rintro fu a τ ⟨hM, hE⟩
    obtain ⟨hv2, h18, hP, hQ, hW, hK, hpl, hme, hlaw⟩ := hc.eq hE.M10
    show Ok (f11_yearGoes_2 N (fu + 1) (nI (dW d)) τ) _
    rw [f11_yearGoes_2, h18, ixn (by omega), hW]
    refine Ok.c (inBn hv2 (by decide)) (Ok.t nI_rf ?_)
    rw [f11_yearGoes_101, ixl.2.2.2.2.2.2.2.2.2.1]
    repeat (first | (with_reducible refine Ok.l ?_) | ((with_reducible refine Ok.c ?_ ?_); · first | rfl | exact inBn (by omega) (by decide)))
    refine Ok.ret ⟨MR.upd hd hM (by decide) (fun w hw => ?_) (fun w hw => ?_) ?_, EqOn_sIa hE (by decide)⟩
    · rw [if_neg (by omega)]; exact hM.1 w hw
    · rw [if_neg (by omega)]; exact hM.2.1 w hw
    · rw [if_pos rfl, hM.2.2.1]; rfl
theorem r_goes {N : Nat} (hN : 4000 ≤ N) {σ : Mm} {v : Nat} {d : Dt} {mo : Mo} (hd : Dok d) (hc : ML N σ v d) (hm : MR σ d mo) (hk : Mok d mo) (hf : gI σ 160 58 = 0) {n : Nat} (hn : n ≤ 60) : Ok (f11_goes N (nI n) σ) (fun _ τ => MR τ d (passN d (gI σ 160 57) mo n) ∧ EqOn D_M1 σ τ) := by
  unfold f11_goes
  refine Ok.lp (fun fu (_ : Unit) i τ => f11_goes_2 N (nI n) fu i τ) n (fun i _ τ => MR τ d (passN d (gI σ 160 57) mo i) ∧ EqOn D_M1 σ τ) (a := ()) ⟨hm, EqOn.rf⟩ (by omega) ?_ ?_
  · rintro fu i a τ hi ⟨hM, hE⟩ k
    show Ok (f11_goes_2 N (nI n) (fu + 1) (nI i) τ) _
    rw [f11_goes_2]
    refine Ok.f (nI_ngt hi (by omega)) (Ok.b (r_yearGoes hN hd (hc.eq hE.M10) hM (hk.passN i) (fl := false) (by rw [flag58 hE]; exact hf)) ?_)
    rintro r υ ⟨hM2, hU⟩
    rw [z_l_eq, nI_1]
    rw [flag57 hE] at hM2
    exact k () _ ⟨hM2, hE.tr hU⟩
  · rintro fu a τ ⟨hM, hE⟩
    show Ok (f11_goes_2 N (nI n) (fu + 1) (nI n) τ) _
    rw [f11_goes_2]
    exact Ok.t nI_rf (Ok.ret ⟨hM, hE⟩)
