-- WRITING PAIRS: feed
theorem gb_ush {x : Int32} {s j : Nat} (hs : s < 32) : gb (ush x (nI s)) j = gb x (s + j) := by
  have h : (ush x (nI s)).toBitVec.toNat = x.toBitVec.toNat / 2 ^ s := pk_ushr x (nI s) s (umod32 hs)
  unfold gb
  rw [BitVec.getLsbD, h, BitVec.getLsbD, Nat.testBit_div_two_pow, Nat.add_comm]
theorem gb_shr {x : Int32} {s j : Nat} (hs : s + j < 32) : gb (x >>> (nI s &&& 31)) j = gb x (s + j) := by
  unfold gb
  rw [sh31 (by omega), Int32.toBitVec_shiftRight, BitVec.sshiftRight', BitVec.getLsbD_sshiftRight, smod32 (by omega)]
  simp [show j < 32 by omega, hs]
theorem byte_eq {x : Int32} {s : Nat} (hs : s ≤ 24) : (ush x (nI s)).toInt8 = (x >>> (nI s &&& 31)).toInt8 := by
  apply Int8.toBitVec_inj.mp
  refine BitVec.eq_of_getLsbD_eq fun j hj => ?_
  rw [Int32.toBitVec_toInt8, Int32.toBitVec_toInt8, BitVec.getLsbD_signExtend, BitVec.getLsbD_signExtend, if_pos (by omega), if_pos (by omega)]
  congr 1
  show gb _ j = gb _ j
  rw [gb_ush (by omega), gb_shr (by omega)]
def bB (x : Int32) (s : Nat) : Int32 := vp_nar .byte ((ush x (nI s)).toInt8.toInt32)
theorem c_t1 {N : Nat} {x : Int32} {fu s n : Nat} {σ : Mm} (hs : s < 32) (h : gI σ 0 1 = nI n) (hn : n < 2000) : f10_tapeFour_3 N x (fu + 1) (nI s) σ = f10_tapeFour_3 N x fu (nI s + (-8)) (sI (sI σ 1 n (bB x s)) 0 1 (nI (n + 1))) := by
  rw [f10_tapeFour_3, if_neg (nI_pos (by omega)), h, if_neg (show ¬ (2000 : Int32) ≤ nI n from nI_ngt (n := 2000) hn (by decide)), zc_t (inBn hn (by decide)), ixn (by omega), z_l_eq, z_l_eq, z_l_eq, gI_o (by decide), h, nI_1]
  rfl
theorem r_t1 {N : Nat} {x : Int32} {fu s n : Nat} {σ : Mm} (hs : s ≤ 24) (h : gI σ 160 2 = nI n) (hn : n < 2000) : f11_put_3 N x (fu + 1) (nI s) σ = f11_put_3 N x fu (nI s + (-8)) (sI (sI σ 161 n (bB x s)) 160 2 (nI (n + 1))) := by
  rw [f11_put_3, if_neg (nI_pos (by omega)), h, zc_t (inBn hn (by decide)), ixn (by omega), z_l_eq, z_l_eq, z_l_eq, gI_o (by decide), h, nI_1, ← byte_eq hs]
  rfl
/-- four bytes from n on -/
def b4 (x : Int32) (n : Nat) (f : Nat → Int32) (j : Nat) : Int32 := if j = n then bB x 24 else if j = n + 1 then bB x 16 else if j = n + 2 then bB x 8 else if j = n + 3 then bB x 0 else f j
theorem c_t4 {N : Nat} (hN : 4000 ≤ N) {x : Int32} {n : Nat} {σ : Mm} (h : gI σ 0 1 = nI n) (hn : n + 4 ≤ 2000) : Ok (f10_tapeFour N x σ) (fun _ τ => gI τ 0 1 = nI (n + 4) ∧ ∀ j, gI τ 1 j = b4 x n (gI σ 1) j) := by
  obtain ⟨fu, rfl⟩ : ∃ fu, N = fu + 5 := ⟨N - 5, by omega⟩
  show Ok (f10_tapeFour_3 (fu + 5) x (fu + 4 + 1) (nI 24) σ) _
  rw [c_t1 (by decide) h (by omega), show nI 24 + (-8 : Int32) = nI 16 from rfl, c_t1 (n := n + 1) (by decide) gI_e (by omega), show nI 16 + (-8 : Int32) = nI 8 from rfl, c_t1 (n := n + 2) (by decide) gI_e (by omega), show nI 8 + (-8 : Int32) = nI 0 from rfl, c_t1 (n := n + 3) (by decide) gI_e (by omega), show nI 0 + (-8 : Int32) = -8 from rfl, f10_tapeFour_3]
  refine Ok.t (by decide) (Ok.ret ⟨gI_e, fun j => ?_⟩)
  unfold b4
  simp only [gI_s, true_and, and_true, show (1 : Nat) ≠ 0 by decide, false_and, ↓reduceIte]
  by_cases c0 : j = n
  · subst c0; simp
  · by_cases c1 : j = n + 1
    · subst c1; simp
    · by_cases c2 : j = n + 2
      · subst c2; simp
      · by_cases c3 : j = n + 3
        · subst c3; simp
        · simp [c0, c1, c2, c3]
theorem r_t4 {N : Nat} (hN : 4000 ≤ N) {x : Int32} {n : Nat} {σ : Mm} (h : gI σ 160 2 = nI n) (hn : n + 4 ≤ 2000) : Ok (f11_put N x σ) (fun _ τ => gI τ 160 2 = nI (n + 4) ∧ ∀ j, gI τ 161 j = b4 x n (gI σ 161) j) := by
  obtain ⟨fu, rfl⟩ : ∃ fu, N = fu + 5 := ⟨N - 5, by omega⟩
  show Ok (f11_put_3 (fu + 5) x (fu + 4 + 1) (nI 24) σ) _
  rw [r_t1 (by decide) h (by omega), show nI 24 + (-8 : Int32) = nI 16 from rfl, r_t1 (n := n + 1) (by decide) gI_e (by omega), show nI 16 + (-8 : Int32) = nI 8 from rfl, r_t1 (n := n + 2) (by decide) gI_e (by omega), show nI 8 + (-8 : Int32) = nI 0 from rfl, r_t1 (n := n + 3) (by decide) gI_e (by omega), show nI 0 + (-8 : Int32) = -8 from rfl, f11_put_3]
  refine Ok.t (by decide) (Ok.ret ⟨gI_e, fun j => ?_⟩)
  unfold b4
  simp only [gI_s, true_and, and_true, show (161 : Nat) ≠ 160 by decide, false_and, ↓reduceIte]
  by_cases c0 : j = n
  · subst c0; simp
  · by_cases c1 : j = n + 1
    · subst c1; simp
    · by_cases c2 : j = n + 2
      · subst c2; simp
      · by_cases c3 : j = n + 3
        · subst c3; simp
        · simp [c0, c1, c2, c3]
theorem b4_eq {x : Int32} {n : Nat} {f g : Nat → Int32} (h : ∀ j, j < n → f j = g j) : ∀ j, j < n + 4 → b4 x n f j = b4 x n g j := by
  intro j hj
  unfold b4
  by_cases c0 : j = n
  · rw [if_pos c0, if_pos c0]
  · by_cases c1 : j = n + 1
    · rw [if_neg c0, if_neg c0, if_pos c1, if_pos c1]
    · by_cases c2 : j = n + 2
      · rw [if_neg c0, if_neg c0, if_neg c1, if_neg c1, if_pos c2, if_pos c2]
      · by_cases c3 : j = n + 3
        · rw [if_neg c0, if_neg c0, if_neg c1, if_neg c1, if_neg c2, if_neg c2, if_pos c3, if_pos c3]
        · rw [if_neg c0, if_neg c0, if_neg c1, if_neg c1, if_neg c2, if_neg c2, if_neg c3, if_neg c3]
          exact h j (by omega)
theorem pr_feed {N : Nat} (hN : 4000 ≤ N) : ∀ (x1 x2 x3 x4 x5 : Int32) (σ : Mm), Inv N σ → ∃ (r : Int32) (σ1 σ2 : Mm), f10_feed N x1 x2 x3 x4 x5 σ = some (r, σ1) ∧ f11_feed N x1 x2 x3 x4 x5 σ1 = some (r, σ2) ∧ Inv N σ2 := by
  intro x1 x2 x3 x4 x5 σ hI
  obtain ⟨o, v, P, Q, W, n, hInv⟩ := id hI
  obtain ⟨⟨m, g1, g2, g3, g4⟩, h2, h3, h4, h5, h6, h7, h8, h9⟩ := id hInv
  by_cases c : m ≤ 1980
  · have G : (∀ f : Nat → Int32, True) := fun _ => trivial
    refine pairW (Q1 := fun r σ1 => r = nI (m + 20) ∧ gI σ1 0 1 = nI (m + 20) ∧ ∀ j, gI σ1 1 j = b4 x5 (m + 16) (b4 x4 (m + 12) (b4 x3 (m + 8) (b4 x2 (m + 4) (b4 x1 m (gI σ 1))))) j) (Q2 := fun _ σ1 r σ2 => r = nI (m + 20) ∧ gI σ2 160 2 = nI (m + 20) ∧ ∀ j, gI σ2 161 j = b4 x5 (m + 16) (b4 x4 (m + 12) (b4 x3 (m + 8) (b4 x2 (m + 4) (b4 x1 m (gI σ1 161))))) j) ?_ ?_ ?_
    · unfold f10_feed
      rw [g2]
      refine Ok.t (nI_le (b := 1980) c (by decide)) (Ok.b (c_t4 hN g2 (by omega)) ?_)
      rintro _ τ1 ⟨a1, b1⟩
      refine Ok.b (c_t4 hN a1 (by omega)) ?_
      rintro _ τ2 ⟨a2, b2⟩
      refine Ok.b (c_t4 hN a2 (by omega)) ?_
      rintro _ τ3 ⟨a3, b3⟩
      refine Ok.b (c_t4 hN a3 (by omega)) ?_
      rintro _ τ4 ⟨a4, b4⟩
      refine Ok.b (c_t4 hN a4 (by omega)) ?_
      rintro _ τ5 ⟨a5, b5⟩
      refine Ok.ret ⟨a5, a5, fun j => ?_⟩
      rw [b5, funext b4, funext b3, funext b2, funext b1]
    · rintro r1 σ1 er ⟨rfl, e1, e2⟩
      have e3 : gI σ1 160 2 = nI m := by rw [((fr10_feed N er).on (D := [(160, 1, some 2)]) rfl).I (wIn_s 0 rfl)]; exact g3
      unfold f11_feed
      rw [e3, show nI m + (20 : Int32) = nI (m + 20) from nI_add m 20]
      refine Ok.t (nI_le (b := 2000) (by omega) (by decide)) (Ok.b (r_t4 hN e3 (by omega)) ?_)
      rintro _ τ1 ⟨a1, b1⟩
      refine Ok.b (r_t4 hN a1 (by omega)) ?_
      rintro _ τ2 ⟨a2, b2⟩
      refine Ok.b (r_t4 hN a2 (by omega)) ?_
      rintro _ τ3 ⟨a3, b3⟩
      refine Ok.b (r_t4 hN a3 (by omega)) ?_
      rintro _ τ4 ⟨a4, b4⟩
      refine Ok.b (r_t4 hN a4 (by omega)) ?_
      rintro _ τ5 ⟨a5, b5⟩
      refine Ok.ret ⟨a5, a5, fun j => ?_⟩
      rw [b5, funext b4, funext b3, funext b2, funext b1]
    · rintro r1 σ1 r2 σ2 er er2 ⟨rfl, e1, e2⟩ ⟨rfl, f1, f2⟩
      refine ⟨rfl, ?_⟩
      have hE2 : EqOn (D_place ++ (D_land ++ (D_lawC ++ (D_lawM ++ (D_now ++ (D_undo ++ (D_slot ++ (D_told ++ D_vars)))))))) σ σ2 := ((fr10_feed N er).on rfl).tr ((fr11_feed N er2).on rfl)
      have hS : EqOn [(0, 1, some 1), (1, 1, none)] σ1 σ2 := (fr11_feed N er2).on rfl
      have hS1 : EqOn [(161, 1, none)] σ σ1 := (fr10_feed N er).on rfl
      refine ⟨o, v, P, Q, W, n, ⟨m + 20, by omega, by rw [hS.I (wIn_s 0 rfl)]; exact e1, f1, fun j hj => ?_⟩, h2.eq (hE2.sub (by decide)), h3.eq (hE2.sub (by decide)), h4.eq (hE2.sub (by decide)) (hE2.sub (by decide)), h5.eq (hE2.sub (by decide)), h6.eq (hE2.sub (by decide)), h7.eq (hE2.sub (by decide)), h8.eq (hE2.sub (by decide)), h9.eq (hE2.sub (by decide))⟩
      rw [hS.I (wIn_r 1 rfl (by decide) (by decide)), e2, f2]
      refine b4_eq (fun j hj => b4_eq (fun j hj => b4_eq (fun j hj => b4_eq (fun j hj => b4_eq (fun j hj => ?_) j hj) j hj) j hj) j hj) j hj
      rw [hS1.I (wIn_r 0 rfl (by decide) (by decide))]
      exact g4 j hj
  · refine pairS hI (r := -1) ?_ ?_
    · unfold f10_feed
      rw [g2, if_neg (show ¬ nI m ≤ (1980 : Int32) from nI_ge (a := 1980) (by omega) (by omega))]
    · unfold f11_feed
      rw [g3, show nI m + (20 : Int32) = nI (m + 20) from nI_add m 20, if_neg (show ¬ nI (m + 20) ≤ (2000 : Int32) from nI_ge (a := 2000) (by omega) (by omega))]
