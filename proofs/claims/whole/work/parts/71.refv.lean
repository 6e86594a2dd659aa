-- THE REFERENCE'S CELLS
def D_M0 : Wr := [(160, 1, some 18), (170, 6, none), (177, 1, none), (184, 2, none), (186, 9, none)]
/-- with the flags -/
def D_M1 : Wr := [(160, 1, some 57), (160, 1, some 58), (160, 1, some 59)] ++ D_M0
/-- with the row -/
def D_M : Wr := (199, 1, none) :: D_M1
theorem EqOn.M10 {σ τ : Mm} (h : EqOn D_M1 σ τ) : EqOn D_M0 σ τ := h.sub fun _ ha => List.mem_append_right _ ha
theorem EqOn.M1 {σ τ : Mm} (h : EqOn D_M σ τ) : EqOn D_M1 σ τ := h.sub fun _ ha => List.mem_cons_of_mem _ ha
theorem EqOn.M0 {σ τ : Mm} (h : EqOn D_M σ τ) : EqOn D_M0 σ τ := h.M1.M10
def ML (N : Nat) (σ : Mm) (v : Nat) (d : Dt) : Prop := v < 2 ∧ gI σ 160 18 = nI v ∧ gI σ 170 v = nI (dP d) ∧ gI σ 171 v = nI (dQ d) ∧ gI σ 175 v = nI (dW d) ∧ gI σ 184 v = nI (dK d) ∧
  (∀ p, p < dQ d → gI σ 172 (7 * v + p) = nI (dx d p) ∧ gI σ 173 (7 * v + p) = nI (dy d p) ∧ gI σ 174 (7 * v + p) = nI (dfi d p)) ∧ (∀ w, w < dW d → gI σ 177 (7 * v + w) = dme d w) ∧
  (∀ τ : Mm, EqOn D_lawM σ τ → ∀ k, k < 4 → ∃ τ1 : Mm, f11_lawTells N (nI k) (dfl k (gI τ 196)) τ = some (dF d k (gI τ 196), τ1))
theorem ML.eq {N : Nat} {σ τ : Mm} {v : Nat} {d : Dt} (h : EqOn D_M0 σ τ) (hv : ML N σ v d) : ML N τ v d := by
  obtain ⟨h1, h2, h3, h4, h5, h6, h7, h8, h9⟩ := hv
  have hm : ∀ c k, 170 ≤ c → c < 176 → gI τ c k = gI σ c k := fun c k a b => h.I (wIn_r 1 rfl a b)
  refine ⟨h1, by rw [h.I (wIn_s 0 rfl)]; exact h2, by rw [hm _ _ (by decide) (by decide)]; exact h3, by rw [hm _ _ (by decide) (by decide)]; exact h4, by rw [hm _ _ (by decide) (by decide)]; exact h5, by rw [h.I (wIn_r 3 rfl (by decide) (by decide))]; exact h6, fun p hp => ?_, fun w hw => ?_, fun υ hu => h9 υ ((h.sub (by decide)).tr hu)⟩
  · rw [hm _ _ (by decide) (by decide), hm _ _ (by decide) (by decide), hm _ _ (by decide) (by decide)]; exact h7 p hp
  · rw [h.I (wIn_r 2 rfl (by decide) (by decide))]; exact h8 w hw
/-- a row f tells the moment mo -/
def RowOf (f : Nat → Int32) (d : Dt) (mo : Mo) : Prop := (∀ w, w < dW d → f w = nI (ag mo w)) ∧ (∀ w, w < dW d → f (7 + w) = b2 (al mo w)) ∧ f 14 = yr mo ∧ f 15 = nI (dn d) ∧ f 16 = dun d ∧
  ∀ g, g < dn d → f (17 + g) = nI (dgp d g) ∧ f (37 + g) = nI (dgf d g) ∧ f (57 + g) = nI (dgt d g) ∧ f (77 + g) = dgb d g ∧ f (97 + g) = nI (dgw d g)
def MR (σ : Mm) (d : Dt) (mo : Mo) : Prop := RowOf (gI σ 199) d mo
theorem MR.eq {σ τ : Mm} {d : Dt} {mo : Mo} (h : EqOn D_M σ τ) (hv : MR σ d mo) : MR τ d mo := by
  have e : gI τ 199 = gI σ 199 := gI_row fun k => h.I (wIn_r 0 rfl (by decide) (by decide))
  unfold MR
  rw [e]
  exact hv
theorem ad7 {w : Nat} : (7 : Int32) + nI w = nI (7 + w) := nI_add 7 w
theorem ad17 {w : Nat} : (17 : Int32) + nI w = nI (17 + w) := nI_add 17 w
theorem ad37 {w : Nat} : (37 : Int32) + nI w = nI (37 + w) := nI_add 37 w
theorem ad57 {w : Nat} : (57 : Int32) + nI w = nI (57 + w) := nI_add 57 w
theorem ad77 {w : Nat} : (77 : Int32) + nI w = nI (77 + w) := nI_add 77 w
theorem ad97 {w : Nat} : (97 : Int32) + nI w = nI (97 + w) := nI_add 97 w
theorem m7 {v w : Nat} : (7 : Int32) * nI v + nI w = nI (7 * v + w) := by
  rw [show (7 : Int32) = nI 7 from rfl, pk_mul, nI_add]
theorem r_bits {N : Nat} (hN : 4000 ≤ N) {σ : Mm} {s : Nat} (hs : s < 2 ^ 31) : f11_bits N (nI s) σ = some (nI (cnt s.testBit 20), σ) := by
  have h : Ok (f11_bits N (nI s) σ) (fun r τ => r = nI (cnt s.testBit 20) ∧ τ = σ) := by
    unfold f11_bits
    refine Ok.lp (fun fu (a : Int32) i τ => f11_bits_4 N (nI s) fu a i τ) 20 (fun i a τ => a = nI (cnt s.testBit i) ∧ τ = σ) ⟨rfl, rfl⟩ (by omega) ?_ ?_
    · rintro fu i a τ hi ⟨rfl, rfl⟩ k
      show Ok (f11_bits_4 N (nI s) (fu + 1) _ (nI i) τ) _
      rw [f11_bits_4]
      refine Ok.f (nI_ngt (n := 20) hi (by decide)) ?_
      rw [z_l_eq, z_l_eq, nI_1, bit_sr hs (by omega)]
      refine k _ _ ⟨?_, rfl⟩
      cases e : s.testBit i
      · rw [cnt_skip e]; exact Int32.add_zero _
      · rw [cnt_step e]; exact nI_1 _
    · rintro fu a τ ⟨rfl, rfl⟩
      show Ok (f11_bits_4 N (nI s) (fu + 1) _ (nI 20) τ) _
      rw [f11_bits_4]
      exact Ok.t nI_rf (Ok.ret ⟨rfl, rfl⟩)
  obtain ⟨r, τ, e, rfl, rfl⟩ := h
  exact e
theorem cnt_bs {p : Nat → Bool} {n : Nat} (hn : n ≤ 20) : cnt (bs p n).testBit 20 = cnt p n := by
  rw [← cnt_more (p := p) hn]
  exact cnt_congr fun i _ => bs_bit
theorem r_bitsB {N : Nat} (hN : 4000 ≤ N) {σ : Mm} {p : Nat → Bool} {n : Nat} (hn : n ≤ 20) : f11_bits N (nI (bs p n)) σ = some (nI (cnt p n), σ) := by
  rw [r_bits hN (Nat.lt_of_lt_of_le (bs_lt n) (Nat.pow_le_pow_right (by decide) (by omega))), cnt_bs hn]
theorem r_looks {N : Nat} (hN : 4000 ≤ N) {σ : Mm} : Ok (f11_looks N σ) (fun _ τ => (∀ j, j < 9 → gI τ 196 j = if j = 3 then gI σ 199 14 else 0) ∧ EqOn D_M σ τ) := by
  obtain ⟨τ, e, h, hs⟩ := looks_spec (N := N) (σ := σ) (by omega)
  exact ⟨(), τ, e, h, hs.on rfl⟩
theorem r_law {N : Nat} {σ τ : Mm} {v : Nat} {d : Dt} (hd : Dok d) (hc : ML N σ v d) (hE : EqOn D_M0 σ τ) {k : Nat} (hk : k < 4) {f : Nat → Int32} (hf : ∀ j, j < 9 → gI τ 196 j = f j) {pl : Int32} (hp : pl = dfl k f) :
    Ok (f11_lawTells N (nI k) pl τ) (Rd D_M τ (dF d k f)) := by
  obtain ⟨h1, h2, h3, h4, h5, h6, h7, h8, h9⟩ := hc
  have e0 : dfl k (gI τ 196) = pl := by
    rw [hp]
    unfold dfl
    rw [hf 1 (by decide), hf 2 (by decide), hf 6 (by decide)]
  obtain ⟨τ1, e⟩ := h9 τ (hE.sub (by decide)) k hk
  rw [e0] at e
  refine ⟨_, _, e, ?_, (fr11_lawTells N e).on rfl⟩
  exact hd.2.2.2.2.2.2.2 k hk _ _ hf
theorem r_looksAt {N : Nat} (hN : 4000 ≤ N) {σ : Mm} {v : Nat} {d : Dt} {mo : Mo} (hd : Dok d) (hc : ML N σ v d) (hm : MR σ d mo) {w : Nat} (hw : w < dW d) : Ok (f11_looksAt N (nI w) σ) (fun _ τ => (∀ j, j < 9 → gI τ 196 j = vS d mo 0 0 w j) ∧ EqOn D_M σ τ) := by
  obtain ⟨d1, d2, d3, d4, d5, d6, d7, d8⟩ := id hd
  unfold f11_looksAt
  refine Ok.b (r_looks hN) ?_
  rintro u τ ⟨hj, hE⟩
  obtain ⟨hv2, h18, hP, hQ, hW, hK, hpl, hme, hlaw⟩ := hc.eq hE.M0
  obtain ⟨ra, rl, r14, r15, r16, rg⟩ := hm.eq hE
  obtain ⟨ra, rl, r14, r15, r16, rg⟩ := id hm
  rename_i ra' rl' r14' r15' r16' rg'
  refine Ok.c (inBn (by omega) (by decide)) (Ok.c rfl (Ok.l ?_))
  rw [gI_o (by decide), h18, m7]
  repeat (first | (with_reducible refine Ok.l ?_) | ((with_reducible refine Ok.c ?_ ?_); · first | rfl | exact inBn (by omega) (by decide)))
  refine Ok.ret ⟨?_, by repeat (first | exact hE | exact EqOn.rf | refine EqOn_sI ?_ (by decide) | refine EqOn_sIa ?_ (by decide))⟩
  have hq := hj
  refine nine ?_ ?_ ?_ ?_ ?_ ?_ ?_ ?_ ?_
  · simp (disch := omega) [gI_s, ixl, ixn, vS]; exact ra' w hw
  · simp (disch := omega) [gI_s, ixl, ixn, vS]; exact hme w hw
  all_goals simp (disch := omega) [gI_s, ixl, ixn, vS, hj, r14]
