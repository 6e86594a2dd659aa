-- YEARS
def agQ (mo : Mo) (i w : Nat) : Nat := if w < i ∧ al mo w = true then min (ag mo w + 1) 999 else ag mo w
theorem lt_ne {w i : Nat} (h : w ≠ i) : decide (w < i + 1) = decide (w < i) := decide_eq_decide.mpr (by omega)
theorem agQ_ne {mo : Mo} {w i : Nat} (h : w ≠ i) : agQ mo (i + 1) w = agQ mo i w := by
  unfold agQ
  by_cases c : w < i ∧ al mo w = true
  · rw [if_pos c, if_pos ⟨by omega, c.2⟩]
  · rw [if_neg c, if_neg (fun e => c ⟨by omega, e.2⟩)]
def quiet (d : Dt) (mo : Mo) : Mo := (al mo, agQ mo (dW d), yr mo + 1)
def dead (d : Dt) (s : Int32) (mo : Mo) (w : Nat) : Bool := !decide (nI (die d mo w) ≤ lotI s (8 * yr mo + nI w))
def alD (d : Dt) (s : Int32) (mo : Mo) (i w : Nat) : Bool := al mo w && !(decide (w < i) && dead d s mo w)
def pass (d : Dt) (s : Int32) (mo : Mo) : Mo := quiet d (alD d s mo (dW d), ag mo, yr mo)
def passN (d : Dt) (s : Int32) (mo : Mo) : Nat → Mo
  | 0 => mo
  | k + 1 => pass d s (passN d s mo k)
theorem Mok.quiet {d : Dt} {mo : Mo} (h : Mok d mo) : Mok d (quiet d mo) := fun w hw => by
  show agQ mo (dW d) w ≤ 999
  unfold agQ
  split
  · exact Nat.min_le_right _ _
  · exact h w hw
theorem Mok.pass {d : Dt} {mo : Mo} {s : Int32} (h : Mok d mo) : Mok d (pass d s mo) := Mok.quiet (mo := (alD d s mo (dW d), ag mo, yr mo)) (fun w hw => h w hw)
theorem Mok.passN {d : Dt} {mo : Mo} {s : Int32} (h : Mok d mo) : ∀ k, Mok d (passN d s mo k)
  | 0 => h
  | k + 1 => (Mok.passN h k).pass
theorem CM.age {σ : Mm} {m : Nat} {d : Dt} {mo : Mo} {i a : Nat} (h : CM σ m d mo) : CM (sI σ (m + 1) i (nI a)) m d (al mo, fun w => if w = i then a else ag mo w, yr mo) := by
  obtain ⟨m0, m1, m2, m3, m4⟩ := h
  refine ⟨by rw [gI_o (by omega)]; exact m0, by rw [gI_o (by omega)]; exact m1, by rw [gI_o (by omega)]; exact m2, by rw [gI_o (by omega)]; exact m3, fun w hw => ?_⟩
  show _ = nI (if w = i then a else ag mo w)
  by_cases c : w = i
  · subst c; rw [gI_e, if_pos rfl]
  · rw [gI_k c, if_neg c]; exact m4 w hw
theorem CM.congr {σ : Mm} {m : Nat} {d : Dt} {mo mo2 : Mo} (h : CM σ m d mo) (h1 : ∀ w, w < dW d → al mo w = al mo2 w) (h2 : ∀ w, w < dW d → ag mo w = ag mo2 w) (h3 : yr mo = yr mo2) : CM σ m d mo2 := by
  obtain ⟨m0, m1, m2, m3, m4⟩ := h
  exact ⟨m0.trans h3, by rw [m1, bs_congr h1], m2, m3, fun w hw => by rw [m4 w hw, h2 w hw]⟩
theorem EqOn_m {σ τ : Mm} {m k : Nat} {v : Int32} (hmm : m = 56 ∨ m = 58) (h : EqOn D_C0 σ τ) : EqOn D_C0 σ (sI τ m k v) := by
  rcases hmm with rfl | rfl <;> exact EqOn_sIa h (by decide)
theorem EqOn_m1 {σ τ : Mm} {m k : Nat} {v : Int32} (hmm : m = 56 ∨ m = 58) (h : EqOn D_C0 σ τ) : EqOn D_C0 σ (sI τ (m + 1) k v) := by
  rcases hmm with rfl | rfl <;> exact EqOn_sIa h (by decide)
theorem min999 {a : Nat} (h : a ≤ 999) : mnI (nI a + 1) 999 = nI (min (a + 1) 999) := by
  rw [nI_1]
  show (if nI 999 < nI (a + 1) then nI 999 else nI (a + 1)) = _
  by_cases c : 999 < a + 1
  · rw [if_pos (nI_lt c (by omega)), Nat.min_eq_right (by omega)]
  · rw [if_neg (nI_nlt (by omega) (by omega)), Nat.min_eq_left (by omega)]
theorem alive_sr {σ : Mm} {m : Nat} {d : Dt} {mo : Mo} (hd : Dok d) (hm : CM σ m d mo) {i : Nat} (hi : i < dW d) : ((gI σ m 1 >>> (nI i &&& 31)) &&& 1) = b2 (al mo i) := by
  have h1 := bs_lt (p := al mo) (dW d)
  have h2 := two7 hd h1
  have := hd.2.2.1
  rw [hm.2.1, bit_sr (by omega) (by omega), bs_bit]
  simp [hi, b2]
theorem c_passQuietYear {N : Nat} (hN : 4000 ≤ N) {σ : Mm} {o m : Nat} {d : Dt} {mo : Mo} (hd : Dok d) (hc : CL N σ o d) (hm : CM σ m d mo) (hmm : m = 56 ∨ m = 58) (hk : Mok d mo) : Ok (f0_passQuietYear N m σ) (fun _ τ => CM τ m d (quiet d mo) ∧ EqOn D_C0 σ τ) := by
  obtain ⟨d1, d2, d3, d4, d5, d6, d7, d8⟩ := id hd
  unfold f0_passQuietYear
  refine Ok.lp (fun fu (_ : Unit) i τ => f0_passQuietYear_2 N m fu i τ) (dW d) (fun i _ τ => CM τ m d (al mo, agQ mo i, yr mo) ∧ EqOn D_C0 σ τ) (a := ()) ⟨hm.congr (fun _ _ => rfl) (fun w _ => by show ag mo w = agQ mo 0 w; unfold agQ; rw [if_neg (by omega)]) rfl, EqOn.rf⟩ (by omega) ?_ ?_
  · rintro fu i a τ hi ⟨hM, hE⟩ k
    obtain ⟨ho, hl3, hl, hP, hQ, hW, hK, hpl, hme, hgv, hlaw, hv⟩ := hc.eq hE
    show Ok (f0_passQuietYear_2 N m (fu + 1) (nI i) τ) _
    rw [f0_passQuietYear_2]
    refine Ok.r hl (kd_land ho) (Ok.f (by rw [hW]; exact nI_ngt hi (by omega)) ?_)
    rw [alive_sr hd hM hi]
    have ea : ag (al mo, agQ mo i, yr mo) i = ag mo i := by show agQ mo i i = _; unfold agQ; rw [if_neg (by omega)]
    refine Ok.i (fun h => ?_) (fun h => ?_)
    · rw [b2_0] at h
      rw [f0_passQuietYear_44, z_l_eq, nI_1]
      refine k () _ ⟨hM.congr (fun _ _ => rfl) (fun w _ => ?_) rfl, hE⟩
      show agQ mo i w = agQ mo (i + 1) w
      by_cases c2 : w = i
      · subst c2
        have h' : al mo w = false := h
        unfold agQ
        rw [if_neg (by omega), if_neg (fun e => by rw [h'] at e; exact Bool.noConfusion e.2)]
      · exact (agQ_ne c2).symm
    · rw [b2_0] at h
      refine Ok.c (inBn (by omega) (by decide)) (Ok.c (inBn (by omega) (by decide)) (Ok.l ?_))
      rw [f0_passQuietYear_44, z_l_eq, nI_1, ixn (by omega), hM.2.2.2.2 i hi, ea, min999 (hk i hi)]
      refine k () _ ⟨hM.age.congr (fun _ _ => rfl) (fun w _ => ?_) rfl, EqOn_m1 hmm hE⟩
      show (if w = i then min (ag mo i + 1) 999 else agQ mo i w) = agQ mo (i + 1) w
      by_cases c2 : w = i
      · subst c2
        have h' : al mo w = true := by
          have h2 : ¬ al mo w = false := h
          simpa using h2
        unfold agQ
        rw [if_pos rfl, if_pos ⟨by omega, h'⟩]
      · rw [if_neg c2, agQ_ne c2]
  · rintro fu a τ ⟨hM, hE⟩
    obtain ⟨ho, hl3, hl, hP, hQ, hW, hK, hpl, hme, hgv, hlaw, hv⟩ := hc.eq hE
    show Ok (f0_passQuietYear_2 N m (fu + 1) (nI (dW d)) τ) _
    rw [f0_passQuietYear_2]
    refine Ok.r hl (kd_land ho) (Ok.t (by rw [hW]; exact nI_rf) ?_)
    rw [f0_passQuietYear_50, z_l_eq]
    obtain ⟨m0, m1, m2, m3, m4⟩ := hM
    refine Ok.ret ⟨⟨by rw [gI_e, m0]; rfl, by rw [gI_k (by decide)]; exact m1, by rw [gI_k (by decide)]; exact m2, by rw [gI_k (by decide)]; exact m3, fun w hw => ?_⟩, EqOn_m hmm hE⟩
    rw [gI_o (by omega)]; exact m4 w hw
theorem c_passYear {N : Nat} (hN : 4000 ≤ N) {σ : Mm} {o m : Nat} {d : Dt} {mo : Mo} (hd : Dok d) (hc : CL N σ o d) (hm : CM σ m d mo) (hmm : m = 56 ∨ m = 58) (hk : Mok d mo) (s : Int32) : Ok (f0_passYear N m s σ) (fun _ τ => CM τ m d (pass d s mo) ∧ EqOn D_C0 σ τ) := by
  obtain ⟨d1, d2, d3, d4, d5, d6, d7, d8⟩ := id hd
  unfold f0_passYear
  refine Ok.lp (fun fu (_ : Unit) i τ => f0_passYear_2 N m s fu i τ) (dW d) (fun i _ τ => CM τ m d (alD d s mo i, ag mo, yr mo) ∧ EqOn D_C0 σ τ) (a := ()) ⟨hm.congr (fun w _ => by show al mo w = alD d s mo 0 w; unfold alD; simp) (fun w _ => rfl) rfl, EqOn.rf⟩ (by omega) ?_ ?_
  · rintro fu i a τ hi ⟨hM, hE⟩ k
    obtain ⟨ho, hl3, hl, hP, hQ, hW, hK, hpl, hme, hgv, hlaw, hv⟩ := hc.eq hE
    show Ok (f0_passYear_2 N m s (fu + 1) (nI i) τ) _
    rw [f0_passYear_2]
    refine Ok.r hl (kd_land ho) (Ok.f (by rw [hW]; exact nI_ngt hi (by omega)) (Ok.l ?_))
    have ea : alD d s mo i i = al mo i := by unfold alD; simp
    have hb : ((gI τ m 1) &&& ((1 : Int32) <<< (nI i &&& 31)) = 0) = (al mo i = false) := by
      have h1 := bs_lt (p := alD d s mo i) (dW d)
      have h2 := two7 hd h1
      rw [b1 (by omega), hM.2.1, bit_and (by exact Nat.lt_of_lt_of_le h2 (by decide)) (by omega)]
      show (Nat.testBit (bs (alD d s mo i) (dW d)) i = false) = _
      rw [bs_bit, ea]
      simp [hi]
    -- the next step, when nothing is written
    have same : ∀ υ, CM υ m d (alD d s mo i, ag mo, yr mo) → EqOn D_C0 σ υ → (al mo i && dead d s mo i) = false → Ok (f0_passYear_72 N (fun x3 σ => f0_passYear_2 N m s fu x3 σ) m s (nI i) υ) (fun _ τ => CM τ m d (pass d s mo) ∧ EqOn D_C0 σ τ) := by
      intro υ hU1 hU2 hf
      rw [f0_passYear_72, z_l_eq, nI_1]
      refine k () _ ⟨hU1.congr (fun w _ => ?_) (fun _ _ => rfl) rfl, hU2⟩
      show alD d s mo i w = alD d s mo (i + 1) w
      unfold alD
      by_cases c2 : w = i
      · subst c2
        rw [decide_eq_false (by omega), decide_eq_true (by omega)]
        cases e1 : al mo w <;> cases e2 : dead d s mo w <;> simp_all
      · rw [lt_ne c2]
    refine Ok.i (fun h => ?_) (fun h => ?_)
    · rw [hb] at h
      exact same τ hM hE (by rw [h]; rfl)
    · rw [hb] at h
      have h' : al mo i = true := by simpa using h
      refine Ok.b (c_deathIn100 hN hd (hc.eq hE) hM hmm hi) ?_
      rintro r υ ⟨rfl, hU⟩
      have ed : die d (alD d s mo i, ag mo, yr mo) i = die d mo i := rfl
      rw [ed]
      have hU0 := hE.tr hU.C0
      have hMU := hM.eq hmm hU
      have hdl := hld_le 100 (dF d 1 (vS d mo 0 0 i))
      have hdl' : die d mo i ≤ 100 := hdl
      obtain ⟨j, hj, ej⟩ := lot_n s (8 * yr mo + nI i)
      refine Ok.i (fun h2 => ?_) (fun h2 => ?_)
      · refine same υ hMU hU0 ?_
        rw [show (0 : Int32) = nI 0 from rfl, nI_leI (by omega) (by decide)] at h2
        unfold dead
        rw [ej, decide_eq_true (nI_le (by omega) (by omega))]
        simp
      · rw [lot_C, z_b_some, hMU.1, show yr (alD d s mo i, ag mo, yr mo) = yr mo from rfl]
        refine Ok.i (fun h3 => ?_) (fun h3 => ?_)
        · refine same υ hMU hU0 ?_
          unfold dead
          rw [decide_eq_true h3]
          simp
        · have hdd : dead d s mo i = true := by unfold dead; rw [decide_eq_false h3]; rfl
          rw [z_l_eq, f0_passYear_72, z_l_eq, nI_1, xor1, b1 (by omega), hMU.2.1, p2_bs hi, diffN (by omega)]
          obtain ⟨m0, m1, m2, m3, m4⟩ := hMU
          refine k () _ ⟨⟨by rw [gI_k (by decide)]; exact m0, ?_, by rw [gI_k (by decide)]; exact m2, by rw [gI_k (by decide)]; exact m3, fun w hw => ?_⟩, EqOn_m hmm hU0⟩
          · rw [gI_e]
            congr 1
            refine bs_congr fun w hw => ?_
            show (alD d s mo i w && !decide (w = i)) = alD d s mo (i + 1) w
            unfold alD
            by_cases c2 : w = i
            · subst c2
              rw [decide_eq_true rfl, decide_eq_true (show w < w + 1 by omega), hdd]
              simp
            · rw [decide_eq_false c2, lt_ne c2]
              simp
          · rw [gI_o (by omega)]; exact m4 w hw
  · rintro fu a τ ⟨hM, hE⟩
    obtain ⟨ho, hl3, hl, hP, hQ, hW, hK, hpl, hme, hgv, hlaw, hv⟩ := hc.eq hE
    show Ok (f0_passYear_2 N m s (fu + 1) (nI (dW d)) τ) _
    rw [f0_passYear_2]
    refine Ok.r hl (kd_land ho) (Ok.t (by rw [hW]; exact nI_rf) ?_)
    rw [f0_passYear_78]
    refine Ok.b (c_passQuietYear hN hd (hc.eq hE) hM hmm (fun w hw => hk w hw)) ?_
    rintro r υ ⟨hM2, hU⟩
    exact Ok.ret ⟨hM2, hE.tr hU⟩
theorem c_passYears {N : Nat} (hN : 4000 ≤ N) {σ : Mm} {o m : Nat} {d : Dt} {mo : Mo} (hd : Dok d) (hc : CL N σ o d) (hm : CM σ m d mo) (hmm : m = 56 ∨ m = 58) (hk : Mok d mo) (s : Int32) {n : Nat} (hn : n ≤ 60) : Ok (f0_passYears N m (nI n) s σ) (fun _ τ => CM τ m d (passN d s mo n) ∧ EqOn D_C0 σ τ) := by
  unfold f0_passYears
  refine Ok.lp (fun fu (_ : Unit) i τ => f0_passYears_3 N m (nI n) s fu i τ) n (fun i _ τ => CM τ m d (passN d s mo i) ∧ EqOn D_C0 σ τ) (a := ()) ⟨hm, EqOn.rf⟩ (by omega) ?_ ?_
  · rintro fu i a τ hi ⟨hM, hE⟩ k
    show Ok (f0_passYears_3 N m (nI n) s (fu + 1) (nI i) τ) _
    rw [f0_passYears_3]
    refine Ok.f (nI_ngt hi (by omega)) (Ok.b (c_passYear hN hd (hc.eq hE) hM hmm (hk.passN i) s) ?_)
    rintro r υ ⟨hM2, hU⟩
    rw [z_l_eq, nI_1]
    exact k () _ ⟨hM2, hE.tr hU⟩
  · rintro fu a τ ⟨hM, hE⟩
    show Ok (f0_passYears_3 N m (nI n) s (fu + 1) (nI n) τ) _
    rw [f0_passYears_3]
    exact Ok.t nI_rf (Ok.ret ⟨hM, hE⟩)
-- the moment ahead
def D_C1 : Wr := (56, 2, none) :: D_C0
theorem EqOn.C10 {σ τ : Mm} (h : EqOn D_C1 σ τ) : EqOn D_C0 σ τ := h.sub fun _ ha => List.mem_cons_of_mem _ ha
theorem EqOn.CC1 {σ τ : Mm} (h : EqOn D_C σ τ) : EqOn D_C1 σ τ := fun id k ⟨a, ha, hb⟩ => by
  rcases List.mem_cons.mp ha with rfl | ha
  · exact h id k (wIn_r 0 rfl (by have := hb.1.1; omega) (Nat.lt_of_lt_of_le (m := 58) hb.1.2 (by decide)))
  · exact h id k ⟨a, List.mem_cons_of_mem _ ha, hb⟩
theorem CM.eq1 {σ τ : Mm} {d : Dt} {mo : Mo} (h : EqOn D_C1 σ τ) (hv : CM σ 56 d mo) : CM τ 56 d mo := by
  obtain ⟨h1, h2, h3, h4, h5⟩ := hv
  have ho : ∀ c k, 56 ≤ c → c < 58 → gI τ c k = gI σ c k := fun c k a b => h.I (wIn_r 0 rfl a b)
  exact ⟨by rw [ho _ _ (by decide) (by decide)]; exact h1, by rw [ho _ _ (by decide) (by decide)]; exact h2, by rw [ho _ _ (by decide) (by decide)]; exact h3, by rw [ho _ _ (by decide) (by decide)]; exact h4, fun w hw => by rw [ho _ _ (by decide) (by decide)]; exact h5 w hw⟩
theorem c_become {N : Nat} {σ : Mm} {d : Dt} {mo : Mo} (hd : Dok d) (hm : CM σ 56 d mo) : Ok (f5_become N 58 56 σ) (fun _ τ => CM τ 58 d mo ∧ EqOn D_C1 σ τ) := by
  obtain ⟨m0, m1, m2, m3, m4⟩ := id hm
  refine ⟨_, _, rfl, ⟨?_, ?_, ?_, ?_, fun w hw => ?_⟩, (fr5_become N (o := 58) (o1 := 56) rfl).on rfl⟩
  · simp [gI_s, gI_r, m0]
  · simp [gI_s, gI_r, m1]
  · simp [gI_s, gI_r, m2]
  · simp [gI_s, gI_r, m3]
  · have h7 := hd.2.2.1
    rw [gI_r, if_pos rfl, pk_cpy_in (Nat.zero_le _) (by omega), Nat.sub_zero, Nat.zero_add]
    exact m4 w hw
theorem c_lookAhead {N : Nat} (hN : 4000 ≤ N) {σ : Mm} {o : Nat} {d : Dt} {mo : Mo} (hd : Dok d) (hc : CL N σ o d) (hm : CM σ 56 d mo) (hk : Mok d mo) (s : Int32) {n : Nat} (hn : n ≤ 60) :
    Ok (f10_lookAhead N (nI n) s σ) (fun _ τ => CM τ 58 d (passN d s mo n) ∧ EqOn D_C1 σ τ) := by
  unfold f10_lookAhead
  refine Ok.b (c_become hd hm) ?_
  rintro u τ ⟨hM, hE⟩
  refine Ok.b (c_passYears hN hd (hc.eq hE.C10) hM (Or.inr rfl) hk s hn).run ?_
  rintro r υ ⟨⟨hM2, hU⟩, er⟩
  exact Ok.ret ⟨hM2, hE.tr ((fr0_passYears N er).on rfl)⟩
