-- THE PAIR round
theorem sA_z {Af : Nat → Nat} {s : Nat} : ∀ {n : Nat}, (∀ i, i < n → s.testBit i = false) → sA Af s n = 0
  | 0, _ => rfl
  | n + 1, h => by rw [sA_f (h n (by omega))]; exact sA_z fun i hi => h i (by omega)
theorem RW.keep {σ : Mm} {d : Dt} {mo : Mo} (h : RW σ d mo) {j : Nat} {x : Int32} : RW (sI σ 205 j x) d mo := ⟨fun p q a b => by rw [gI_o (by decide)]; exact h.1 p q a b, fun p a => by rw [gI_o (by decide)]; exact h.2 p a⟩
theorem ML.k205 {N : Nat} {σ : Mm} {v : Nat} {d : Dt} (h : ML N σ v d) {j : Nat} {x : Int32} : ML N (sI σ 205 j x) v d := h.eq (EqOn_sIa EqOn.rf (by decide))
theorem r_fillsTakes {N : Nat} (hN : 4000 ≤ N) {σ : Mm} {v : Nat} {d : Dt} {mo : Mo} {sd : Int32} (hd : Dok d) (hS : MSt N σ v d mo sd) : Ok (f11_fillsTakes N σ) (fun _ τ => RW τ d mo ∧ Tk τ d mo (2 ^ dQ d) ∧ ML N τ v d) := by
  obtain ⟨d1, d2, d3, d4, d5, d6, d7, d8⟩ := id hd
  have hp7 : 2 ^ dQ d ≤ 2 ^ 7 := Nat.pow_le_pow_right (by decide) d2
  unfold f11_fillsTakes
  refine Ok.b (r_fillsWalks hN hd hS) ?_
  rintro u τ ⟨w1, w2, hcτ⟩
  refine Ok.lp (fun fu (_ : Unit) i ρ => f11_fillsTakes_6 N fu i ρ) (2 ^ dQ d) (fun i _ ρ => RW ρ d mo ∧ Tk ρ d mo i ∧ ML N ρ v d) (a := ()) ⟨⟨w1, w2⟩, fun s hs => absurd hs (Nat.not_lt_zero _), hcτ⟩ (by omega) ?_ ?_
  · rintro fu s a ρ hs ⟨hRW, hTk, hc⟩ kk
    have h7 : s < 2 ^ 7 := by omega
    obtain ⟨hv2, h18, hP, hQ, hW, hK, hpl, hme, hlaw⟩ := id hc
    show Ok (f11_fillsTakes_6 N (fu + 1) (nI s) ρ) _
    rw [f11_fillsTakes_6, h18, ixn (show v < 2 ^ 31 by omega), hQ, b1 (by omega)]
    refine Ok.c (inBn hv2 (by decide)) (Ok.f (nI_ngt hs (by omega)) ?_)
    refine Ok.lp (fun fu2 (_ : Unit) j ρ => f11_fillsTakes_23 N (fun x1 σ => f11_fillsTakes_6 N fu x1 σ) (nI s) fu2 j ρ) (dQ d) (fun j _ ρ2 => RW ρ2 d mo ∧ Tk ρ2 d mo s ∧ (∀ p, p < j → s.testBit p = true → gI ρ2 205 (7 * s + p) = nI (tk (wlk d mo) (askV d mo) s p)) ∧ ML N ρ2 v d) (a := ()) ⟨hRW, hTk, fun p hp => absurd hp (Nat.not_lt_zero _), hc⟩ (by omega) ?_ ?_
    · rintro fu2 j b ρ2 hj ⟨hRW, hTk, h0, hc⟩ kk2
      obtain ⟨hv2, h18, hP, hQ, hW, hK, hpl, hme, hlaw⟩ := id hc
      show Ok (f11_fillsTakes_23 N _ (nI s) (fu2 + 1) (nI j) ρ2) _
      rw [f11_fillsTakes_23, h18, ixn (show v < 2 ^ 31 by omega), hQ, m7, bit_sr (by omega) (by omega)]
      have hTk1 : ∀ x, Tk (sI ρ2 205 (7 * s + j) x) d mo s := fun x t ht p hp => by
        have := b7 (by omega : t < 2 ^ 7) hp
        rw [gI_k (by omega)]; exact hTk t ht p hp
      refine Ok.c (inBn hv2 (by decide)) (Ok.f (nI_ngt hj (by omega)) (Ok.c (inBn (by omega) (by decide)) (Ok.l ?_)))
      rw [ixn (show 7 * s + j < 2 ^ 31 by omega)]
      refine Ok.i (fun c => ?_) (fun c => ?_)
      · have hb : s.testBit j = false := by
          cases e : s.testBit j
          · rfl
          · rw [e] at c; exact absurd c (by decide)
        rw [f11_fillsTakes_123, z_l_eq, nI_1]
        refine kk2 () _ ⟨hRW.keep, hTk1 _, fun p hp hbp => ?_, hc.k205⟩
        by_cases e : p = j
        · rw [e, hb] at hbp; exact Bool.noConfusion hbp
        · rw [gI_k (by omega)]; exact h0 p (by omega) hbp
      · have hb : s.testBit j = true := by
          cases e : s.testBit j
          · rw [e] at c; exact absurd rfl c
          · rfl
        have hl7 := rm_lt7 s j
        have hlt := rm_lt h7 hb
        rw [r_nextOf hN hd hc.k205 hRW.keep hs hb (hTk1 _), z_b_some, rmN h7 (by omega), ixn (show j < 2 ^ 31 by omega), gI_o (show (207 : Nat) ≠ 205 by decide), hRW.2 j hj]
        -- the last step
        have h121 : ∀ x : Nat, askV d mo j + x = tk (wlk d mo) (askV d mo) s j → Ok (f11_fillsTakes_121 N (fun x1 σ => f11_fillsTakes_6 N fu x1 σ) (fun x2 σ => f11_fillsTakes_23 N (fun x1 σ => f11_fillsTakes_6 N fu x1 σ) (nI s) fu2 x2 σ) (nI s) (nI j) (nI (7 * s + j)) (nI (askV d mo j)) (nI x) (sI ρ2 205 (7 * s + j) 99999)) (fun _ τ => RW τ d mo ∧ Tk τ d mo (2 ^ dQ d) ∧ ML N τ v d) := by
          intro x hx
          rw [f11_fillsTakes_121, ixn (by omega), nI_add, hx]
          refine Ok.c (inBn (by omega) (by decide)) (Ok.l ?_)
          rw [f11_fillsTakes_123, z_l_eq, nI_1]
          refine kk2 () _ ⟨hRW.keep.keep, fun t ht p hp => ?_, fun p hp hbp => ?_, hc.k205.k205⟩
          · have := b7 (by omega : t < 2 ^ 7) hp
            rw [gI_k (by omega)]; exact hTk1 _ t ht p hp
          · by_cases e : p = j
            · rw [e, gI_e]
            · rw [gI_k (by omega), gI_k (by omega)]; exact h0 p (by omega) hbp
        have hsum := sA_rm (Af := askV d mo) h7 hb (n := 7) (by omega)
        refine Ok.c (inBn (by omega) (by decide)) ?_
        cases hx : nxt (wlk d mo) (rm s j) j with
        | none =>
          refine Ok.f (show ¬ (0 : Int32) ≤ -1 by decide) (h121 0 ?_)
          unfold tk
          rw [thr_eq hl7, hx, ← hsum, sA_z (bst_none hx)]
          show askV d mo j + 0 = 0 + askV d mo j + 0
          omega
        | some q =>
          have hq := bst_ok hx
          refine Ok.t (show (0 : Int32) ≤ nI q.1 from nI_pos' (by omega)) ?_
          have hqQ : q.1 < dQ d := bQ (d := d) (by omega : rm s j < 2 ^ dQ d) hq.2.2
          rw [show eX (some q) = nI q.1 from rfl, m7, m7, ixn (show 7 * j + q.1 < 2 ^ 31 by omega), ixn (show 7 * rm s j + q.1 < 2 ^ 31 by omega), gI_o (show (206 : Nat) ≠ 205 by decide), hRW.1 j q.1 hj hqQ, hTk1 _ (rm s j) hlt q.1 hq.2.2, nI_add]
          refine Ok.c (inBn (by omega) (by decide)) (Ok.c (inBn (by omega) (by decide)) (h121 _ ?_))
          unfold tk
          rw [thr_eq (p := j) hl7, hx]
          show _ = sA (askV d mo) s 7 + q.2
          rw [hq.2.1]
          show askV d mo j + (wlk d mo j q.1 + (sA (askV d mo) (rm s j) 7 + thr (wlk d mo) (rm (rm s j) q.1) q.1)) = sA (askV d mo) s 7 + (wlk d mo j q.1 + thr (wlk d mo) (rm (rm s j) q.1) q.1)
          omega
    · rintro fu2 b ρ2 ⟨hRW, hTk, h0, hc⟩
      obtain ⟨hv2, h18, hP, hQ, hW, hK, hpl, hme, hlaw⟩ := id hc
      show Ok (f11_fillsTakes_23 N _ (nI s) (fu2 + 1) (nI (dQ d)) ρ2) _
      rw [f11_fillsTakes_23, h18, ixn (show v < 2 ^ 31 by omega), hQ]
      refine Ok.c (inBn hv2 (by decide)) (Ok.t nI_rf ?_)
      rw [f11_fillsTakes_129, z_l_eq, nI_1]
      refine kk () _ ⟨hRW, fun t ht p hp => ?_, hc⟩
      by_cases e : t = s
      · subst e
        exact h0 p (bQ hs hp) hp
      · exact hTk t (by omega) p hp
  · rintro fu a ρ ⟨hRW, hTk, hc⟩
    obtain ⟨hv2, h18, hP, hQ, hW, hK, hpl, hme, hlaw⟩ := id hc
    show Ok (f11_fillsTakes_6 N (fu + 1) (nI (2 ^ dQ d)) ρ) _
    rw [f11_fillsTakes_6, h18, ixn (show v < 2 ^ 31 by omega), hQ, b1 (by omega)]
    exact Ok.c (inBn hv2 (by decide)) (Ok.t nI_rf (Ok.ret ⟨hRW, hTk, hc⟩))
/-- the way of a round: the plot reached, and what is left with it -/
def rs (Wf : Nat → Nat → Nat) (p s : Nat) : Nat → Nat × Nat
  | 0 => (p, s)
  | k + 1 => ((match nxt Wf (rm (rs Wf p s k).2 (rs Wf p s k).1) (rs Wf p s k).1 with | none => 0 | some q => q.1), rm (rs Wf p s k).2 (rs Wf p s k).1)
theorem rs_ok {Wf : Nat → Nat → Nat} {p s : Nat} (hs : s < 2 ^ 7) (hp : s.testBit p = true) : ∀ {k : Nat}, k < cnt s.testBit 7 → (rs Wf p s k).2 < 2 ^ 7 ∧ (rs Wf p s k).2.testBit (rs Wf p s k).1 = true ∧ cnt (rs Wf p s k).2.testBit 7 + k = cnt s.testBit 7 ∧ sub7 (rs Wf p s k).2 s ∧ (rs Wf p s k).2 ≤ s
  | 0, _ => ⟨hs, hp, rfl, fun _ h => h, Nat.le_refl _⟩
  | k + 1, h => by
    obtain ⟨a1, a2, a3, a4, a5⟩ := rs_ok (Wf := Wf) hs hp (k := k) (by omega)
    have hcr := cnt_rm a1 a2
    have hlt := rm_lt a1 a2
    refine ⟨rm_lt7 _ _, ?_, ?_, rm_sub a1 a4, by show rm _ _ ≤ s; omega⟩
    · show (rm (rs Wf p s k).2 (rs Wf p s k).1).testBit (match nxt Wf (rm (rs Wf p s k).2 (rs Wf p s k).1) (rs Wf p s k).1 with | none => 0 | some q => q.1) = true
      cases hx : nxt Wf (rm (rs Wf p s k).2 (rs Wf p s k).1) (rs Wf p s k).1 with
      | none =>
        have := cnt_z (bst_none hx)
        omega
      | some q => exact (bst_ok hx).2.2
    · show cnt (rm (rs Wf p s k).2 (rs Wf p s k).1).testBit 7 + (k + 1) = _
      omega
theorem Th.mono {σ : Mm} {d : Dt} {mo : Mo} {set i j : Nat} (h : Th σ d mo set i) (hij : j ≤ i) : Th σ d mo set j := fun s hs => h s (by omega)
theorem out_c {x : Int32} {c : Nat} (hc : c < 2 ^ 30) (h : ¬ (x = -1 ∨ isN x c)) : x < -1 ∨ nI c ≤ x := by
  rcases isN_not (n := c) (by omega) (fun e => h (Or.inr e)) with a | a
  · left
    have h1 : x ≠ -1 := fun e => h (Or.inl e)
    rw [Int32.lt_iff_toInt_lt] at *
    have e0 : (0 : Int32).toInt = 0 := rfl
    have em : (-1 : Int32).toInt = -1 := rfl
    have : x.toInt ≠ -1 := fun e => h1 (Int32.toInt_inj.mp (by rw [e, em]))
    omega
  · exact Or.inr a
theorem inC_t {N c : Nat} {x : Int32} {σ : Mm} (hc : c < 2 ^ 30) (h : x = -1 ∨ isN x c) : f11_in N x (-1) (nI c - 1) σ = some (1, σ) := by
  unfold f11_in
  rcases h with rfl | ⟨j, hj, rfl⟩
  · have h2 : ¬ (nI c - 1 : Int32) < -1 := by
      rw [m1_lt hc, Int32.le_iff_toInt_le, nI_toInt (by omega), show (-1 : Int32).toInt = -1 from rfl]
      omega
    rw [if_neg (by decide), if_neg h2]
  · have h1 : ¬ nI j < -1 := fun e => nI_pos (n := j) (by omega) (Int32.lt_trans e (by decide))
    have h2 : ¬ (nI c - 1 : Int32) < nI j := by rw [m1_lt hc, nI_leI (by omega) (by omega)]; omega
    rw [if_neg h1, if_neg h2]
theorem inC_f {N c : Nat} {x : Int32} {σ : Mm} (hc : c < 2 ^ 30) (h : ¬ (x = -1 ∨ isN x c)) : f11_in N x (-1) (nI c - 1) σ = some (0, σ) := by
  unfold f11_in
  by_cases c1 : x < -1
  · rw [if_pos c1]
  · rcases out_c hc h with a | a
    · exact absurd a c1
    · rw [if_neg c1, if_pos ((m1_lt hc).mpr a)]
theorem pr_round {N : Nat} (hN : 4000 ≤ N) : ∀ (x1 x2 : Int32) (σ : Mm), Inv N σ → ∃ (r : Int32) (σ1 σ2 : Mm), f10_round N x1 x2 σ = some (r, σ1) ∧ f11_round N x1 x2 σ1 = some (r, σ2) ∧ Inv N σ2 := by
  intro x1 x2 σ hI
  obtain ⟨o, v, d, mo, hB⟩ := bridgeI hI
  obtain ⟨hd, hk, hc, hm, hcM, hn, hsd, hInv⟩ := id hB
  have hL := hInv.2.2.1
  have hNw := hInv.2.2.2.2.1
  obtain ⟨d1, d2, d3, d4, d5, d6, d7, d8⟩ := id hd
  obtain ⟨ho, hl3, hl, hP, hQ, hW, hK, hpl, hme, hgv, hlaw, hv⟩ := id hc
  have hQo : gI σ o 1 = nI (dQ d) := hQ
  have hQv : ∀ τ, EqOn D_all σ τ → gI τ 160 18 = nI v ∧ gI τ 171 v = nI (dQ d) := fun τ hE => ⟨(hB.L hE).2.2.2.2.2.2.2.2.1, (hB.L hE).2.2.2.2.2.2.2.2.2.2.2.2.1⟩
  have hv2 : v < 2 := hL.2.1
  have hp7 : 2 ^ dQ d ≤ 2 ^ 7 := Nat.pow_le_pow_right (by decide) d2
  have hmax : ((1 : Int32) <<< (nI (dQ d) &&& 31)) - 1 = nI (2 ^ dQ d) - 1 := by rw [b1 (by omega)]
  by_cases hs : isN x1 (2 ^ dQ d)
  · obtain ⟨s, hs', rfl⟩ := id hs
    have h7 : s < 2 ^ 7 := by omega
    have hbc : bitC (nI s) = nI (cnt s.testBit 7) := bitC_set h7 (by decide)
    have hc7 := cnt_le (p := s.testBit) 7
    by_cases hx : x2 = -1 ∨ isN x2 (cnt s.testBit 7)
    · have x1' : ¬ x2 < -1 := by
        rcases hx with rfl | ⟨j, hj, rfl⟩
        · decide
        · exact fun e => nI_pos (n := j) (by omega) (Int32.lt_trans e (by decide))
      have x2' : x2 < nI (cnt s.testBit 7) := by
        rcases hx with rfl | ⟨j, hj, rfl⟩
        · rw [Int32.lt_iff_toInt_lt, nI_toInt (by omega), show (-1 : Int32).toInt = -1 from rfl]; omega
        · exact nI_lt hj (by omega)
      -- both, up to their tables
      have cls : ∀ r : Int32, (∀ τ, MW τ d mo s → Th τ d mo s (s + 1) → Ok (if x2 = (-1 : Int32) then z_b (f7_shortest N (nI s) τ) fun r_13 σ_14 => some (r_13, σ_14) else z_b (f7_plotAt N (nI s) x2 τ) fun r_10 σ_11 => some (r_10, σ_11)) (fun r1 _ => r1 = r)) → Ok (f10_round N (nI s) x2 σ) (fun r1 _ => r1 = r) := by
        intro r h
        unfold f10_round
        refine Ok.r hl3 (kd_land ho) ?_
        rw [hQo, hbc]
        refine Ok.t ((set_in d2).mpr hs) (Ok.f x1' (Ok.t x2' (Ok.b (c_measure hN hd hc hm hs') ?_)))
        rintro u τ ⟨k1, k2⟩
        exact h τ k1 k2
      have rfc : ∀ (r : Int32) (τ : Mm) (hE : EqOn D_all σ τ), (s = 0 → r = 0) → (s ≠ 0 → ∀ υ, RW υ d mo → Tk υ d mo (2 ^ dQ d) → ML N υ v d → Ok (f11_round_52 N (nI s) x2 N (-1) 0 υ) (fun r1 _ => r1 = r)) → Ok (f11_round N (nI s) x2 τ) (fun r1 _ => r1 = r) := by
        intro r τ hE h0 h
        obtain ⟨e18, e171⟩ := hQv τ hE
        unfold f11_round
        rw [e18, ixn (by omega), e171, hmax, in_t (by omega) hs]
        refine Ok.c (inBn hv2 (by decide)) ?_
        rw [z_b_some]
        refine Ok.f (by decide) ?_
        rw [r_bits hN (by omega), z_b_some, cnt7 h7, inC_t (by omega) hx, z_b_some]
        refine Ok.f (by decide) (Ok.i (fun c => ?_) (fun c => ?_))
        · have c : nI s = nI 0 := c
          rw [nI_eq (by omega) (by decide)] at c
          exact Ok.ret (h0 c).symm
        · refine Ok.b (r_fillsTakes hN hd (hB.S.eq hE)) ?_
          rintro u υ ⟨k1, k2, k3⟩
          exact h (fun e => c (by rw [e]; rfl)) υ k1 k2 k3
      by_cases hz : s = 0
      · refine pairR hI (fun _ _ e => fr10_round N e) rfl (fun _ _ _ e => fr11_round N e) rfl 0 (cls 0 fun τ k1 k2 => ?_) (fun τ hE => rfc 0 τ hE (fun _ => rfl) (fun e => absurd hz e))
        have e1 : x2 = -1 := by
          rcases hx with e | ⟨j, hj, -⟩
          · exact e
          · rw [hz] at hj
            exact absurd hj (by rw [show cnt (Nat.testBit 0) 7 = 0 from by decide]; omega)
        refine Ok.t e1 ?_
        unfold f7_shortest
        rw [c_firstPlot hN h7 k2, z_b_some, hz, show frs (wlk d mo) 0 = none from (bst_ge (n := 0) (m := 7) (by omega) (fun i _ _ => Nat.zero_testBit i)).trans rfl, if_pos (show eX none = -1 from rfl), z_b_some]
        exact Ok.ret rfl
      · obtain ⟨q, hq⟩ : ∃ q, frs (wlk d mo) s = some q := by
          cases hf : frs (wlk d mo) s with
          | none => exact absurd (Nat.eq_of_testBit_eq fun i => by
              by_cases c : i < 7
              · rw [bst_none hf i c, Nat.zero_testBit]
              · rw [bit7 h7 (by omega), Nat.zero_testBit]) hz
          | some q => exact ⟨q, rfl⟩
        have hqo := bst_ok hq
        have hne1 : ¬ nI q.1 = -1 := fun e => nI_pos (n := q.1) (by omega) (by rw [e]; decide)
        have hqQ : q.1 < dQ d := bQ hs' hqo.2.2
        have hr7 := rm_lt7 s q.1
        -- the reference finds the first
        have r52 : ∀ (r : Int32) (υ : Mm), Tk υ d mo (2 ^ dQ d) → ML N υ v d → Ok (f11_round_115 N (nI s) x2 (nI q.1) υ) (fun r1 _ => r1 = r) → Ok (f11_round_52 N (nI s) x2 N (-1) 0 υ) (fun r1 _ => r1 = r) := by
          intro r υ hTk hcυ hfin
          obtain ⟨hv2, h18, hP, hQ, hW, hK, hpl, hme, hlaw⟩ := id hcυ
          have hidx : bst ltB s.testBit (fun p => sA (askV d mo) s 7 + thr (wlk d mo) (rm s p) p) (dQ d) = some (q.1, sA (askV d mo) s 7 + q.2) := by
            rw [bst_add, ← bst_ge (n := dQ d) (m := 7) (f := fun p => thr (wlk d mo) (rm s p) p) d2 (fun i h1 h2 => by
              cases e : s.testBit i
              · rfl
              · have := bQ hs' e; omega), show bst ltB s.testBit (fun p => thr (wlk d mo) (rm s p) p) 7 = some q from hq]
            rfl
          refine Ok.lp (fun fu (a : Int32) i ρ => f11_round_52 N (nI s) x2 fu a i ρ) (dQ d) (fun i a ρ => a = eX (bst ltB s.testBit (fun p => sA (askV d mo) s 7 + thr (wlk d mo) (rm s p) p) i) ∧ ρ = υ) ⟨rfl, rfl⟩ (by omega) ?_ ?_
          · rintro fu i a ρ hi ⟨rfl, rfl⟩ kk
            show Ok (f11_round_52 N (nI s) x2 (fu + 1) _ (nI i) ρ) _
            rw [f11_round_52, h18, ixn (show v < 2 ^ 31 by omega), hQ, bit_sr (by omega) (by omega), m7]
            refine Ok.c (inBn hv2 (by decide)) (Ok.f (nI_ngt hi (by omega)) (Ok.i (fun c => ?_) (fun c => ?_)))
            · have hb : s.testBit i = true := by
                cases e : s.testBit i
                · rw [e] at c; exact absurd c (by decide)
                · rfl
              have hti := tk_le d mo s i
              unfold tk at hti
              cases hx : bst ltB s.testBit (fun p => sA (askV d mo) s 7 + thr (wlk d mo) (rm s p) p) i with
              | none =>
                refine Ok.t (show (-1 : Int32) < 0 by decide) ?_
                rw [f11_round_106, f11_round_109, z_l_eq, nI_1]
                exact kk _ _ ⟨by rw [mn_n hx hb] <;> rfl, rfl⟩
              | some q' =>
                have hq' := bst_ok hx
                have htq := tk_le d mo s q'.1
                unfold tk at htq
                have E1 : gI ρ 205 (7 * s + i) = nI (sA (askV d mo) s 7 + thr (wlk d mo) (rm s i) i) := hTk s hs' i hb
                have E2 : gI ρ 205 (7 * s + q'.1) = nI (sA (askV d mo) s 7 + thr (wlk d mo) (rm s q'.1) q'.1) := hTk s hs' q'.1 hq'.2.2
                rw [show eX (some q') = nI q'.1 from rfl, m7, ixn (show 7 * s + i < 2 ^ 31 by omega), ixn (show 7 * s + q'.1 < 2 ^ 31 by omega), E1, E2]
                refine Ok.f (nI_pos (by omega)) (Ok.c (inBn (by omega) (by decide)) (Ok.c (inBn (by omega) (by decide)) (Ok.i (fun h2 => ?_) (fun h2 => ?_))))
                · rw [nI_leI (by omega) (by omega)] at h2
                  rw [f11_round_109, z_l_eq, nI_1]
                  exact kk _ _ ⟨by rw [mn_keep hx (by rw [hq'.2.1]; omega), hx] <;> rfl, rfl⟩
                · rw [nI_leI (by omega) (by omega)] at h2
                  rw [f11_round_106, f11_round_109, z_l_eq, nI_1]
                  exact kk _ _ ⟨by rw [mn_set hx hb (by rw [hq'.2.1]; omega)] <;> rfl, rfl⟩
            · have hb : s.testBit i = false := by
                cases e : s.testBit i
                · rfl
                · rw [e] at c; exact absurd rfl c
              rw [f11_round_109, z_l_eq, nI_1]
              exact kk _ _ ⟨by rw [bst_c hb], rfl⟩
          · rintro fu a ρ ⟨rfl, rfl⟩
            show Ok (f11_round_52 N (nI s) x2 (fu + 1) _ (nI (dQ d)) ρ) _
            rw [f11_round_52, h18, ixn (show v < 2 ^ 31 by omega), hQ, hidx]
            exact Ok.c (inBn hv2 (by decide)) (Ok.t nI_rf hfin)
        rcases hx with rfl | ⟨j, hj, rfl⟩
        · refine pairR hI (fun _ _ e => fr10_round N e) rfl (fun _ _ _ e => fr11_round N e) rfl (nI (sA (askV d mo) s 7 + thr (wlk d mo) (rm s q.1) q.1)) (cls _ fun τ k1 k2 => ?_) (fun τ hE => rfc _ τ hE (fun e => absurd e hz) (fun _ υ k1 k2 k3 => r52 _ υ k2 k3 ?_))
          · refine Ok.t rfl ?_
            unfold f7_shortest
            rw [c_firstPlot hN h7 k2, z_b_some, hq, show eX (some q) = nI q.1 from rfl, if_neg hne1, c_askOfAll hN h7 (fun _ h => h) k1, z_b_some, rmN h7 (by omega), m7c, zc_t (inBn (by omega) (by decide)), ixn (by omega), k2 (rm s q.1) (by have := rm_lt h7 hqo.2.2; omega) (rm_sub h7 (fun _ h => h)) q.1 hqo.2.2 (rm_q h7), nI_add, z_b_some]
            exact Ok.ret rfl
          · rw [f11_round_115, m7, ixn (by omega), k2 s hs' q.1 hqo.2.2]
            exact Ok.t rfl (Ok.c (inBn (by omega) (by decide)) (Ok.ret rfl))
        · have hj1 : ¬ nI j = -1 := fun e => nI_pos (n := j) (by omega) (by rw [e]; decide)
          refine pairR hI (fun _ _ e => fr10_round N e) rfl (fun _ _ _ e => fr11_round N e) rfl (nI (rs (wlk d mo) q.1 s j).1) (cls _ fun τ k1 k2 => ?_) (fun τ hE => rfc _ τ hE (fun e => absurd e hz) (fun _ υ k1 k2 k3 => r52 _ υ k2 k3 ?_))
          · refine Ok.f hj1 ?_
            have hA : Ok (f7_plotAt N (nI s) (nI j) τ) (fun r1 _ => r1 = nI (rs (wlk d mo) q.1 s j).1) := by
              unfold f7_plotAt
              rw [c_firstPlot hN h7 k2, z_b_some, hq, show eX (some q) = nI q.1 from rfl]
              refine Ok.lp (fun fu (a : Int32 × Int32) i ρ => f7_plotAt_12 N (nI j) fu a.1 a.2 i ρ) j (fun i a ρ => a = (nI (rs (wlk d mo) q.1 s i).1, nI (rs (wlk d mo) q.1 s i).2) ∧ ρ = τ) (a := (nI q.1, nI s)) ⟨rfl, rfl⟩ (by omega) ?_ ?_
              · rintro fu i a ρ hi ⟨rfl, rfl⟩ kk
                obtain ⟨a1, a2, a3, a4, a5⟩ := rs_ok (Wf := wlk d mo) h7 hqo.2.2 (k := i) (by omega)
                have hlt := rm_lt a1 a2
                have hcr := cnt_rm a1 a2
                have b7' := b7 a1 a2
                show Ok (f7_plotAt_12 N (nI j) (fu + 1) _ _ (nI i) ρ) _
                rw [f7_plotAt_12, rmN a1 b7']
                refine Ok.f (nI_ngt hi (by omega)) (Ok.f (show ¬ nI (rs (wlk d mo) q.1 s i).1 = -1 from fun e => nI_pos (n := (rs (wlk d mo) q.1 s i).1) (by omega) (by rw [e]; decide)) (Ok.l ?_))
                rw [c_nextPlot hN h7 (rm_lt7 _ _) (rm_sub a1 a4) (a4 _ a2) k1 (k2.mono (by omega)), z_b_some, z_l_eq, nI_1]
                refine kk (_, _) _ ⟨?_, rfl⟩
                cases hx : nxt (wlk d mo) (rm (rs (wlk d mo) q.1 s i).2 (rs (wlk d mo) q.1 s i).1) (rs (wlk d mo) q.1 s i).1 with
                | none =>
                  have := cnt_z (bst_none hx)
                  omega
                | some qq =>
                  show (nI qq.1, nI (rm (rs (wlk d mo) q.1 s i).2 (rs (wlk d mo) q.1 s i).1)) = (nI (match nxt (wlk d mo) (rm (rs (wlk d mo) q.1 s i).2 (rs (wlk d mo) q.1 s i).1) (rs (wlk d mo) q.1 s i).1 with | none => 0 | some q => q.1), nI (rm (rs (wlk d mo) q.1 s i).2 (rs (wlk d mo) q.1 s i).1))
                  rw [hx]
              · rintro fu a ρ ⟨rfl, rfl⟩
                show Ok (f7_plotAt_12 N (nI j) (fu + 1) _ _ (nI j) ρ) _
                rw [f7_plotAt_12]
                exact Ok.t nI_rf (Ok.ret rfl)
            refine Ok.b hA ?_
            rintro r ρ rfl
            exact Ok.ret rfl
          · rw [f11_round_115]
            refine Ok.f hj1 ?_
            refine Ok.lp (fun fu (a : Int32 × Int32) i ρ => f11_round_138 N (nI j) fu a.1 a.2 i ρ) j (fun i a ρ => a = (nI (rs (wlk d mo) q.1 s i).1, nI (rs (wlk d mo) q.1 s i).2) ∧ ρ = υ) (a := (nI q.1, nI s)) ⟨rfl, rfl⟩ (by omega) ?_ ?_
            · rintro fu i a ρ hi ⟨rfl, rfl⟩ kk
              obtain ⟨a1, a2, a3, a4, a5⟩ := rs_ok (Wf := wlk d mo) h7 hqo.2.2 (k := i) (by omega)
              have hlt := rm_lt a1 a2
              have hcr := cnt_rm a1 a2
              have b7' := b7 a1 a2
              show Ok (f11_round_138 N (nI j) (fu + 1) _ _ (nI i) ρ) _
              rw [f11_round_138, rmN a1 b7', r_nextOf hN hd k3 k1 (by omega) a2 (fun t ht => k2 t (by omega))]
              refine Ok.f (nI_ngt hi (by omega)) ?_
              rw [z_b_some, z_l_eq, z_l_eq, nI_1]
              refine kk (_, _) _ ⟨?_, rfl⟩
              cases hx : nxt (wlk d mo) (rm (rs (wlk d mo) q.1 s i).2 (rs (wlk d mo) q.1 s i).1) (rs (wlk d mo) q.1 s i).1 with
              | none =>
                have := cnt_z (bst_none hx)
                omega
              | some qq =>
                show (nI qq.1, nI (rm (rs (wlk d mo) q.1 s i).2 (rs (wlk d mo) q.1 s i).1)) = (nI (match nxt (wlk d mo) (rm (rs (wlk d mo) q.1 s i).2 (rs (wlk d mo) q.1 s i).1) (rs (wlk d mo) q.1 s i).1 with | none => 0 | some q => q.1), nI (rm (rs (wlk d mo) q.1 s i).2 (rs (wlk d mo) q.1 s i).1))
                rw [hx]
            · rintro fu a ρ ⟨rfl, rfl⟩
              show Ok (f11_round_138 N (nI j) (fu + 1) _ _ (nI j) ρ) _
              rw [f11_round_138]
              exact Ok.t nI_rf (Ok.ret rfl)
    · refine pairR hI (fun _ _ e => fr10_round N e) rfl (fun _ _ _ e => fr11_round N e) rfl (-1) ?_ (fun τ hE => ?_)
      · unfold f10_round
        refine Ok.r hl3 (kd_land ho) ?_
        rw [hQo, hbc]
        refine Ok.t ((set_in d2).mpr hs) ?_
        by_cases c1 : x2 < -1
        · exact Ok.t c1 (Ok.ret rfl)
        · rcases out_c (by omega) hx with a | a
          · exact absurd a c1
          · exact Ok.f c1 (Ok.f (Int32.not_lt.mpr a) (Ok.ret rfl))
      · obtain ⟨e18, e171⟩ := hQv τ hE
        unfold f11_round
        rw [e18, ixn (by omega), e171, hmax, in_t (by omega) hs]
        refine Ok.c (inBn hv2 (by decide)) ?_
        rw [z_b_some]
        refine Ok.f (by decide) ?_
        rw [r_bits hN (by omega), z_b_some, cnt7 h7, inC_f (by omega) hx, z_b_some]
        exact Ok.t rfl (Ok.ret rfl)
  · refine pairR hI (fun _ _ e => fr10_round N e) rfl (fun _ _ _ e => fr11_round N e) rfl (-1) ?_ (fun τ hE => ?_)
    · unfold f10_round
      refine Ok.r hl3 (kd_land ho) ?_
      rw [hQo]
      exact Ok.f (fun c => hs ((set_in d2).mp c)) (Ok.ret rfl)
    · obtain ⟨e18, e171⟩ := hQv τ hE
      unfold f11_round
      rw [e18, ixn (by omega), e171, hmax, in_f (by omega) hs]
      refine Ok.c (inBn hv2 (by decide)) ?_
      rw [z_b_some]
      exact Ok.t rfl (Ok.ret rfl)
