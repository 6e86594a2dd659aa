-- WRITING PAIRS
theorem pairW {N : Nat} {x : Option (Int32 × Mm)} {y : Mm → Option (Int32 × Mm)} {Q1 : Int32 → Mm → Prop} (h1 : Ok x Q1) {Q2 : Int32 → Mm → Int32 → Mm → Prop} (h2 : ∀ r1 σ1, x = some (r1, σ1) → Q1 r1 σ1 → Ok (y σ1) (Q2 r1 σ1)) (h3 : ∀ r1 σ1 r2 σ2, x = some (r1, σ1) → y σ1 = some (r2, σ2) → Q1 r1 σ1 → Q2 r1 σ1 r2 σ2 → r2 = r1 ∧ Inv N σ2) : ∃ (r : Int32) (σ1 σ2 : Mm), x = some (r, σ1) ∧ y σ1 = some (r, σ2) ∧ Inv N σ2 := by
  obtain ⟨r1, σ1, e1, q1⟩ := h1
  obtain ⟨r2, σ2, e2, q2⟩ := h2 r1 σ1 e1 q1
  obtain ⟨e, h⟩ := h3 r1 σ1 r2 σ2 e1 e2 q1 q2
  subst e
  exact ⟨r2, σ1, σ2, e1, e2, h⟩
/-- nothing is written -/
theorem pairS {N : Nat} {σ : Mm} (hI : Inv N σ) {x : Option (Int32 × Mm)} {y : Mm → Option (Int32 × Mm)} {r : Int32} (h1 : x = some (r, σ)) (h2 : y σ = some (r, σ)) : ∃ (r : Int32) (σ1 σ2 : Mm), x = some (r, σ1) ∧ y σ1 = some (r, σ2) ∧ Inv N σ2 := ⟨r, σ, σ, h1, h2, hI⟩
def D_still : Wr := D_tape ++ (D_place ++ (D_land ++ (D_lawC ++ (D_lawM ++ (D_slot ++ (D_told ++ D_vars))))))
theorem inv_new {N : Nat} {σ τ : Mm} {o v P Q W n n2 : Nat} (h : InvP N σ o v P Q W n) (hE : EqOn D_still σ τ) (hn : V_now τ P Q W n2) (hu : V_undo τ P Q W n2) : Inv N τ := by
  obtain ⟨h1, h2, h3, h4, h5, h6, h7, h8, h9⟩ := h
  exact ⟨o, v, P, Q, W, n2, h1.eq (hE.sub (by decide)), h2.eq (hE.sub (by decide)), h3.eq (hE.sub (by decide)), h4.eq (hE.sub (by decide)) (hE.sub (by decide)), hn, hu, h7.eq (hE.sub (by decide)), h8.eq (hE.sub (by decide)), h9.eq (hE.sub (by decide))⟩
-- bits of any number
def gb (x : Int32) (i : Nat) : Bool := x.toBitVec.getLsbD i
theorem nI_toNat (x : Int32) : x = nI x.toBitVec.toNat := i32_ext (by rw [pk_tn x.toBitVec.isLt])
theorem gb_n {a i : Nat} (h : a < 2 ^ 32) : gb (nI a) i = a.testBit i := by unfold gb; rw [BitVec.getLsbD, pk_tn h]
theorem gb_sr {x : Int32} {i : Nat} (hi : i < 31) : ((x >>> (nI i &&& 31)) &&& 1) = b2 (gb x i) := by
  rw [sh31 (by omega)]
  apply Int32.toBitVec_inj.mp
  refine BitVec.eq_of_getLsbD_eq fun j hj => ?_
  rw [Int32.toBitVec_and, BitVec.getLsbD_and, Int32.toBitVec_shiftRight]
  have e1 : ∀ j, (1 : Int32).toBitVec.getLsbD j = decide (j = 0) := fun j => by
    show (1#32).getLsbD j = _
    rw [BitVec.getLsbD_one]
    simp
  have e2 : ∀ b : Bool, (b2 b).toBitVec.getLsbD j = (decide (j = 0) && b) := fun b => by
    cases b
    · show (0#32).getLsbD j = _
      simp
    · rw [show b2 true = 1 from rfl, e1, Bool.and_true]
  rw [e1, e2]
  by_cases c : j = 0
  · subst c
    rw [BitVec.sshiftRight', BitVec.getLsbD_sshiftRight, smod32 (by omega)]
    unfold gb
    simp [show i < 32 by omega]
  · simp [c]
theorem gb_and0 {x : Int32} {i : Nat} (hi : i < 31) : (x &&& ((1 : Int32) <<< (nI i &&& 31)) = 0) = (gb x i = false) := by
  have h2 := p31 hi
  have hx := x.toBitVec.isLt
  rw [b1 (by omega), nI_toNat x, andN hx (by omega), gb_n hx]
  generalize x.toBitVec.toNat = a at *
  refine propext ⟨fun h => ?_, fun h => ?_⟩
  · have h3 : a &&& 2 ^ i < 2 ^ 31 := Nat.lt_of_le_of_lt Nat.and_le_right h2
    rw [show (0 : Int32) = nI 0 from rfl, nI_eq h3 (by decide)] at h
    have := congrArg (fun z => z.testBit i) h
    simpa [Nat.testBit_and, Nat.testBit_two_pow] using this
  · have : a &&& 2 ^ i = 0 := Nat.eq_of_testBit_eq fun j => by
      rw [Nat.testBit_and, Nat.testBit_two_pow, Nat.zero_testBit]
      by_cases e : i = j
      · subst e; simp [h]
      · simp [e]
    rw [this]; rfl
theorem gb_or {x : Int32} {t i : Nat} (ht : t < 32) : gb (x ||| ((1 : Int32) <<< (nI t &&& 31))) i = (gb x i || decide (i = t)) := by
  rw [b1 ht]
  unfold gb
  rw [Int32.toBitVec_or, BitVec.getLsbD_or]
  congr 1
  show gb (nI (2 ^ t)) i = _
  rw [gb_n (Nat.pow_lt_pow_right (by decide) ht), Nat.testBit_two_pow]
  exact decide_eq_decide.mpr ⟨Eq.symm, Eq.symm⟩
theorem gb_clr {x : Int32} {t i : Nat} (ht : t < 32) (hi : i < 32) : gb (x &&& (((1 : Int32) <<< (nI t &&& 31)) ^^^ (-1 : Int32))) i = (gb x i && !decide (i = t)) := by
  rw [b1 ht, xor1]
  unfold gb
  rw [Int32.toBitVec_and, Int32.toBitVec_not, BitVec.getLsbD_and, BitVec.getLsbD_not, decide_eq_true hi, Bool.true_and]
  congr 2
  show gb (nI (2 ^ t)) i = _
  rw [gb_n (Nat.pow_lt_pow_right (by decide) ht), Nat.testBit_two_pow]
  exact decide_eq_decide.mpr ⟨Eq.symm, Eq.symm⟩
-- tell
theorem pr_tell {N : Nat} (hN : 4000 ≤ N) : ∀ (x1 x2 : Int32) (σ : Mm), Inv N σ → (x2 = 0 ∨ x2 = 1) → ∃ (r : Int32) (σ1 σ2 : Mm), f10_tell N x1 x2 σ = some (r, σ1) ∧ f11_tell N x1 x2 σ1 = some (r, σ2) ∧ Inv N σ2 := by
  intro x1 x2 σ hI hb
  obtain ⟨o, v, P, Q, W, n, h⟩ := id hI
  obtain ⟨h1, h2, h3, h4, h5, h6, h7, ⟨t, t1, t2, t3, t4⟩, h9⟩ := id h
  have hW7 : W ≤ 7 := h3.2.2.2.2.1
  by_cases hp : isN x1 W
  · by_cases ct : t = 20
    · refine pairS hI (r := -1) ?_ ?_
      · unfold f10_tell
        rw [noWitness_t h3 hp, z_b_some, if_pos rfl, t2, ct, if_neg (by decide)]
      · unfold f11_tell
        rw [t3, ct, if_pos (show nI 20 = 20 from rfl)]
    · obtain ⟨w, hw, rfl⟩ := id hp
      have ht : t < 20 := by omega
      refine pairW (Q1 := fun r σ1 => r = nI t ∧ ∃ s1 : Int32, (∀ i, i ≤ t → gb s1 i = if i = t then decide (x2 = 1) else gb (gI σ 0 14) i) ∧ σ1 = sI (sI (sI σ 158 t (nI w)) 0 14 s1) 0 15 (nI (t + 1))) (Q2 := fun _ σ1 r σ2 => r = nI t ∧ σ2 = sI (sI (sI σ1 208 t (nI w)) 209 t (b2 (decide (x2 = 1)))) 160 69 (nI (t + 1))) ?_ ?_ ?_
      · unfold f10_tell
        rw [noWitness_t h3 hp, z_b_some]
        refine Ok.t rfl ?_
        rw [t2]
        refine Ok.t (nI_lt (b := 20) ht (by decide)) (Ok.l (Ok.c (inBn ht (by decide)) (Ok.l ?_)))
        rw [ixn (by omega), gI_o (by decide)]
        refine Ok.i (fun c => ?_) (fun c => ?_)
        · rw [f10_tell_57, z_l_eq, z_l_eq, nI_1]
          refine Ok.ret ⟨rfl, _, fun i hi => ?_, rfl⟩
          rw [gb_clr (by omega) (by omega), c]
          by_cases e : i = t
          · rw [if_pos e, decide_eq_true e]; simp
          · rw [if_neg e, decide_eq_false e]; simp
        · rw [f10_tell_57, z_l_eq, z_l_eq, nI_1]
          refine Ok.ret ⟨rfl, _, fun i hi => ?_, rfl⟩
          rw [gb_or (by omega), hb.resolve_left c]
          by_cases e : i = t
          · rw [if_pos e, decide_eq_true e]; simp
          · rw [if_neg e, decide_eq_false e]; simp
      · rintro r1 σ1 er ⟨rfl, s1, hs, hσ⟩
        have hE1 : EqOn ([(160, 1, some 69)] ++ D_land) σ σ1 := (fr10_tell N er).on rfl
        have h3' := h3.eq (hE1.sub (by decide))
        have e69 : gI σ1 160 69 = nI t := by rw [hE1.I (wIn_s 0 rfl)]; exact t3
        unfold f11_tell
        rw [e69]
        refine Ok.f (by show ¬ nI t = nI 20; rw [nI_eq (by omega) (by decide)]; exact ct) ?_
        rw [isWitness_t h3' hp, z_b_some]
        refine Ok.f (by decide) ?_
        rw [e69, ixn (by omega)]
        refine Ok.c (inBn ht (by decide)) (Ok.l ?_)
        have e69' : ∀ s2 : Int32, gI (sI (sI σ1 208 t (nI w)) 209 t s2) 160 69 = nI t := fun s2 => by rw [gI_o (by decide), gI_o (by decide), e69]
        have k46 : ∀ s2 : Int32, s2 = b2 (decide (x2 = 1)) → Ok (f11_tell_46 N (gI (sI σ1 208 t (nI w)) 160 69) s2 (sI σ1 208 t (nI w))) (fun r σ2 => r = nI t ∧ σ2 = sI (sI (sI σ1 208 t (nI w)) 209 t (b2 (decide (x2 = 1)))) 160 69 (nI (t + 1))) := by
          rintro s2 rfl
          rw [gI_o (by decide), e69, f11_tell_46, ixn (by omega)]
          refine Ok.c (inBn ht (by decide)) ?_
          rw [z_l_eq, z_l_eq, e69', nI_1, gI_e, nI_pred]
          exact Ok.ret ⟨rfl, rfl⟩
        refine Ok.i (fun c => k46 0 ?_) (fun c => k46 1 ?_)
        · rw [c]; decide
        · rw [hb.resolve_left c]; decide
      · rintro r1 σ1 r2 σ2 er er2 ⟨rfl, s1, hs, hσ⟩ ⟨rfl, hσ2⟩
        refine ⟨rfl, ?_⟩
        have hE2 : EqOn (D_tape ++ (D_place ++ (D_land ++ (D_lawC ++ (D_lawM ++ (D_now ++ (D_undo ++ (D_slot ++ D_vars)))))))) σ σ2 := ((fr10_tell N er).on rfl).tr ((fr11_tell N er2).on rfl)
        subst hσ hσ2
        refine ⟨o, v, P, Q, W, n, h1.eq (hE2.sub (by decide)), h2.eq (hE2.sub (by decide)), h3.eq (hE2.sub (by decide)), h4.eq (hE2.sub (by decide)) (hE2.sub (by decide)), h5.eq (hE2.sub (by decide)), h6.eq (hE2.sub (by decide)), h7.eq (hE2.sub (by decide)), ⟨t + 1, by omega, ?_, gI_e, fun i hi => ?_⟩, h9.eq (hE2.sub (by decide))⟩
        · rw [gI_o (by decide), gI_o (by decide), gI_o (by decide), gI_e]
        · rw [gI_o (show (158 : Nat) ≠ 160 by decide), gI_o (show (158 : Nat) ≠ 209 by decide), gI_o (show (158 : Nat) ≠ 208 by decide), gI_o (show (158 : Nat) ≠ 0 by decide), gI_o (show (158 : Nat) ≠ 0 by decide), gI_o (show (208 : Nat) ≠ 160 by decide), gI_o (show (208 : Nat) ≠ 209 by decide), gI_o (show (209 : Nat) ≠ 160 by decide), gI_o (show (0 : Nat) ≠ 160 by decide), gI_o (show (0 : Nat) ≠ 209 by decide), gI_o (show (0 : Nat) ≠ 208 by decide), gI_k (show (14 : Nat) ≠ 15 by decide), gI_e, gb_sr (by omega), hs i (by omega)]
          by_cases c : i = t
          · subst c
            rw [gI_e, gI_e, gI_e, if_pos rfl]
            exact ⟨⟨w, hw, rfl, rfl⟩, rfl, by cases decide (x2 = 1) <;> simp [b2]⟩
          · rw [gI_k c, gI_k c, gI_k c, if_neg c]
            obtain ⟨q1, q2, q3⟩ := t4 i (by omega)
            refine ⟨?_, ?_, ?_⟩
            · rw [gI_o (by decide), gI_o (by decide), gI_o (by decide)]; exact q1
            · rw [← gb_sr (by omega), q2, gI_o (by decide), gI_o (by decide), gI_o (by decide), gI_o (by decide)]
            · rw [gI_o (by decide), gI_o (by decide), gI_o (by decide), gI_o (by decide)]; exact q3
  · refine pairS hI (r := -1) ?_ ?_
    · unfold f10_tell
      rw [noWitness_f h3 hp, z_b_some, if_neg (by decide)]
    · unfold f11_tell
      by_cases c : gI σ 160 69 = 20
      · rw [if_pos c]
      · rw [if_neg c, isWitness_f h3 hp, z_b_some, if_pos rfl]
