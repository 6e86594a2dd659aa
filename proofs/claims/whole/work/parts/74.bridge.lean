-- THE BRIDGE: from the invariant to data and a moment
def MN (σ : Mm) (d : Dt) (mo : Mo) : Prop := RowOf (gI σ 198) d mo
def BR (N : Nat) (σ : Mm) (o v : Nat) (d : Dt) (mo : Mo) : Prop := Dok d ∧ Mok d mo ∧ CL N σ o d ∧ CM σ 56 d mo ∧ ML N σ v d ∧ MN σ d mo ∧ gI σ o 5 = gI σ 185 v ∧ InvP N σ o v (dP d) (dQ d) (dW d) (dn d)
theorem ex_n {a b : Int32} {B : Nat} (hB : B ≤ 2 ^ 31) (h : ∃ x : Nat, x < B ∧ a = nI x ∧ b = nI x) : ix a < B ∧ a = nI (ix a) ∧ b = nI (ix a) := by
  obtain ⟨x, h1, rfl, rfl⟩ := h
  rw [ixn (by omega)]
  exact ⟨h1, rfl, rfl⟩
theorem bridge {N : Nat} {σ : Mm} {o v P Q W n : Nat} (h : InvP N σ o v P Q W n) : ∃ (d : Dt) (mo : Mo), BR N σ o v d mo ∧ dP d = P ∧ dQ d = Q ∧ dW d = W ∧ dn d = n := by
  obtain ⟨i1, i2, i3, i4, i5, i6, i7, i8, i9⟩ := id h
  obtain ⟨h1, h2, h3, h4, h5, h6, h7, h8, h9, h10, h11, h12, h13, h14, h15, ⟨K, hK1, hK2, hK3, hK4⟩, h17, h18, h19⟩ := i3
  obtain ⟨s1, s2, s3, s4, s5, ⟨s, a1, a2, a3⟩, s7, s8⟩ := i5
  have hF : ∃ F : Nat → (Nat → Int32) → Int32, ∀ k, k < 4 → (∀ f g : Nat → Int32, (∀ j, j < 9 → f j = g j) → F k f = F k g) ∧ (∀ τ : Mm, EqOn D_lawC σ τ → ∀ vr, kd vr = (13, 9) → ∃ τ1 : Mm, f4_answer N (o + 12) vr (nI k) τ = some (F k (gI τ vr), τ1)) ∧
      (∀ τ : Mm, EqOn D_lawM σ τ → ∃ τ1 : Mm, f11_lawTells N (nI k) (dfl k (gI τ 196)) τ = some (F k (gI τ 196), τ1)) := by
    refine ⟨fun k => if hk : k < 4 then Classical.choose (i4 k hk) else fun _ => 0, fun k hk => ?_⟩
    simp only [hk, ↓reduceDIte]
    exact Classical.choose_spec (i4 k hk)
  obtain ⟨F, hF⟩ := hF
  let d : Dt := ((P, Q, W, K, n), (fun p => ix (gI σ (o + 3) p), fun p => ix (gI σ (o + 1) p), fun p => ix (gI σ (o + 2) p)), (fun g => ix (gI σ 51 g), fun g => ix (gI σ 52 g), fun g => ix (gI σ 53 g), fun g => ix (gI σ 55 g)), (fun w => gI σ (o + 5) w, fun g => gI σ 54 g, gI σ 56 2), F)
  let mo : Mo := (s.testBit, fun w => ix (gI σ 57 w), gI σ 56 0)
  have pl : ∀ p, p < Q → (ix (gI σ (o + 1) p) < 10 ∧ gI σ (o + 1) p = nI (ix (gI σ (o + 1) p)) ∧ gI σ 172 (7 * v + p) = nI (ix (gI σ (o + 1) p))) ∧ (ix (gI σ (o + 2) p) < 10 ∧ gI σ (o + 2) p = nI (ix (gI σ (o + 2) p)) ∧ gI σ 173 (7 * v + p) = nI (ix (gI σ (o + 2) p))) ∧ (ix (gI σ (o + 3) p) < P ∧ gI σ (o + 3) p = nI (ix (gI σ (o + 3) p)) ∧ gI σ 174 (7 * v + p) = nI (ix (gI σ (o + 3) p))) := by
    intro p hp
    obtain ⟨⟨x, q1, q2⟩, ⟨y, q3, q4⟩, q5⟩ := h18 p hp
    exact ⟨ex_n (by decide) ⟨x, by omega, q2⟩, ex_n (by decide) ⟨y, by omega, q4⟩, ex_n (by omega) q5⟩
  have gv : ∀ g, g < n → (ix (gI σ 51 g) < Q ∧ gI σ 51 g = nI (ix (gI σ 51 g)) ∧ gI σ 198 (17 + g) = nI (ix (gI σ 51 g))) ∧ (ix (gI σ 52 g) < P ∧ gI σ 52 g = nI (ix (gI σ 52 g)) ∧ gI σ 198 (37 + g) = nI (ix (gI σ 52 g))) ∧ (ix (gI σ 53 g) < P ∧ gI σ 53 g = nI (ix (gI σ 53 g)) ∧ gI σ 198 (57 + g) = nI (ix (gI σ 53 g))) ∧ gI σ 54 g = gI σ 198 (77 + g) ∧ (ix (gI σ 55 g) < 2 ^ W ∧ gI σ 55 g = nI (ix (gI σ 55 g)) ∧ gI σ 198 (97 + g) = nI (ix (gI σ 55 g))) := by
    intro g hg
    obtain ⟨q1, q2, q3, q4, q5⟩ := s8 g hg
    exact ⟨ex_n (by omega) q1, ex_n (by omega) q2, ex_n (by omega) q3, q4, ex_n (Nat.pow_le_pow_right (by decide) (by omega)) q5⟩
  have ags : ∀ w, w < W → ix (gI σ 57 w) < 1000 ∧ gI σ 57 w = nI (ix (gI σ 57 w)) ∧ gI σ 198 w = nI (ix (gI σ 57 w)) := by
    intro w hw
    obtain ⟨x, q1, q2⟩ := s7 w hw
    exact ex_n (by decide) ⟨x, by omega, q2⟩
  refine ⟨d, mo, ⟨?_, ?_, ?_, ?_, ?_, ?_, h17, h⟩, rfl, rfl, rfl, rfl⟩
  · refine ⟨h3, h4, h5, ⟨hK1, hK2⟩, s1, fun p hp => ⟨(pl p hp).2.2.1, ?_, ?_⟩, fun g hg => ⟨(gv g hg).1.1, (gv g hg).2.1.1, (gv g hg).2.2.1.1, (gv g hg).2.2.2.2.1⟩, fun k hk => (hF k hk).1⟩
    · exact Nat.le_of_lt_succ (pl p hp).1.1
    · exact Nat.le_of_lt_succ (pl p hp).2.1.1
  · exact fun w hw => Nat.le_of_lt_succ (ags w hw).1
  · exact ⟨h1, h6, h8, h10, h12, h14, hK3, fun p hp => ⟨(pl p hp).1.2.1, (pl p hp).2.1.2.1, (pl p hp).2.2.2.1⟩, fun w hw => rfl, fun g hg => ⟨(gv g hg).1.2.1, (gv g hg).2.1.2.1, (gv g hg).2.2.1.2.1, rfl, (gv g hg).2.2.2.2.2.1⟩, fun τ ht k hk => (hF k hk).2.1 τ ht, i9⟩
  · exact ⟨rfl, by rw [a2]; exact congrArg nI (bs_of a1), rfl, s2, fun w hw => (ags w hw).2.1⟩
  · exact ⟨h2, h9, h11, h13, h15, hK4, fun p hp => ⟨(pl p hp).1.2.2, (pl p hp).2.1.2.2, (pl p hp).2.2.2.2⟩, fun w hw => (h19 w hw).symm, fun τ ht k hk => (hF k hk).2.2 τ ht⟩
  · exact ⟨fun w hw => (ags w hw).2.2, fun w hw => a3 w hw, s4, s3, s5, fun g hg => ⟨(gv g hg).1.2.2, (gv g hg).2.1.2.2, (gv g hg).2.2.1.2.2, (gv g hg).2.2.2.1.symm, (gv g hg).2.2.2.2.2.2⟩⟩
theorem bridgeI {N : Nat} {σ : Mm} (h : Inv N σ) : ∃ (o v : Nat) (d : Dt) (mo : Mo), BR N σ o v d mo := by
  obtain ⟨o, v, P, Q, W, n, h⟩ := h
  obtain ⟨d, mo, hb, -⟩ := bridge h
  exact ⟨o, v, d, mo, hb⟩
/-- the reference's side of it, after a reading -/
def MSt (N : Nat) (σ : Mm) (v : Nat) (d : Dt) (mo : Mo) (sd : Int32) : Prop := ML N σ v d ∧ MN σ d mo ∧ gI σ 185 v = sd
theorem MSt.eq {N : Nat} {σ τ : Mm} {v : Nat} {d : Dt} {mo : Mo} {sd : Int32} (h : EqOn D_all σ τ) (hv : MSt N σ v d mo sd) : MSt N τ v d mo sd := by
  obtain ⟨h1, h2, h3⟩ := hv
  refine ⟨h1.eq (h.sub (by decide)), ?_, ?_⟩
  · have e : gI τ 198 = gI σ 198 := gI_row fun k => (h.sub (D' := [(198, 1, none)]) (by decide)).I (wIn_r 0 rfl (by decide) (by decide))
    unfold MN
    rw [e]
    exact h2
  · rw [(h.sub (D' := [(184, 2, none)]) (by decide)).I (wIn_r 0 rfl (by decide) (by decide))]; exact h3
theorem BR.S {N : Nat} {σ : Mm} {o v : Nat} {d : Dt} {mo : Mo} (h : BR N σ o v d mo) : MSt N σ v d mo (gI σ o 5) := by
  obtain ⟨hd, hk, hc, hm, hcM, hn, hsd, hInv⟩ := h
  exact ⟨hcM, hn, hsd.symm⟩
/-- copies(): the row is what is now -/
theorem r_copies {N : Nat} (hN : 4000 ≤ N) {σ : Mm} {v : Nat} {d : Dt} {mo : Mo} {sd : Int32} (hd : Dok d) (hS : MSt N σ v d mo sd) : Ok (f11_copies N σ) (fun _ τ => MR τ d mo ∧ EqOn D_M0 σ τ ∧ gI τ 160 57 = sd ∧ gI τ 160 58 = 0 ∧ gI τ 160 59 = b2 false ∧ MSt N τ v d mo sd) := by
  obtain ⟨hc, hn, hsd⟩ := hS
  obtain ⟨hv2, h18, hP, hQ, hW, hK, hpl, hme, hlaw⟩ := id hc
  have hrun : ∃ τ : Mm, f11_copies N σ = some ((), τ) ∧ (∀ j, j < 117 → gI τ 199 j = gI σ 198 j) ∧ gI τ 160 57 = gI σ 185 v ∧ gI τ 160 58 = 0 ∧ gI τ 160 59 = 0 := by
    unfold f11_copies
    rw [show (0 : Int32) = nI 0 from rfl, copies_loop N 0 σ (by omega) (by omega)]
    unfold f11_copies_26
    have e2 : gI (sIr σ 199 (fun j => if 0 ≤ j ∧ j < 117 then gI σ 198 j else gI σ 199 j)) 160 18 = nI v := by rw [gI_r, if_neg (by decide)]; exact h18
    rw [e2, zc_t (in_i0 hv2 (by decide)), ixn (by omega)]
    refine ⟨_, rfl, ?_, ?_, ?_, ?_⟩
    · intro j hj
      simp [gI_s, gI_r, hj]
    · simp [gI_s, gI_r]
    · simp [gI_s, gI_r]
      rfl
    · simp [gI_s, gI_r]
      rfl
  obtain ⟨τ, e, hrow, e57, e58, e59⟩ := hrun
  have hs := fr11_copies N e
  have hE0 : EqOn D_M0 σ τ := hs.on rfl
  have e198 : gI τ 198 = gI σ 198 := gI_row fun k => (hs.on (D := [(198, 1, none)]) rfl).I (wIn_r 0 rfl (by decide) (by decide))
  refine ⟨(), τ, e, ?_, hE0, by rw [e57, hsd], e58, e59, hc.eq hE0, by unfold MN; rw [e198]; exact hn, ?_⟩
  · obtain ⟨ra, rl, r14, r15, r16, rg⟩ := hn
    have hok1 := hd.2.2.1
    have hok2 := hd.2.2.2.2.1
    · refine ⟨fun w hw => by rw [hrow _ (by omega)]; exact ra w hw, fun w hw => by rw [hrow _ (by omega)]; exact rl w hw, by rw [hrow _ (by decide)]; exact r14, by rw [hrow _ (by decide)]; exact r15, by rw [hrow _ (by decide)]; exact r16, fun g hg => ?_⟩
      rw [hrow _ (by omega), hrow _ (by omega), hrow _ (by omega), hrow _ (by omega), hrow _ (by omega)]
      exact rg g hg
  · rw [hE0.I (wIn_r 3 rfl (by decide) (by decide))]; exact hsd
def D_S : Wr := [(198, 1, none), (184, 2, none)] ++ D_M0
theorem MSt.eq' {N : Nat} {σ τ : Mm} {v : Nat} {d : Dt} {mo : Mo} {sd : Int32} (hv : MSt N σ v d mo sd) (h : EqOn D_S σ τ) : MSt N τ v d mo sd := by
  obtain ⟨h1, h2, h3⟩ := hv
  refine ⟨h1.eq (h.sub fun _ ha => List.mem_append_right _ ha), ?_, ?_⟩
  · have e : gI τ 198 = gI σ 198 := gI_row fun k => h.I (wIn_r 0 rfl (by decide) (by decide))
    unfold MN
    rw [e]
    exact h2
  · rw [h.I (wIn_r 1 rfl (by decide) (by decide))]; exact h3
