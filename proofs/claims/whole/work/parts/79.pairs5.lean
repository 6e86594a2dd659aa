-- THE BEST OF A ROW
def bst (bt : Nat → Nat → Bool) (c : Nat → Bool) (f : Nat → Nat) : Nat → Option (Nat × Nat)
  | 0 => none
  | i + 1 => match bst bt c f i with
    | none => if c i then some (i, f i) else none
    | some q => if c i && bt (f i) q.2 then some (i, f i) else some q
def e1 (q : Option (Nat × Nat)) : Int32 := match q with | none => -2 | some q => nI q.1
def e2 (m : Int32) (q : Option (Nat × Nat)) : Int32 := match q with | none => m | some q => nI q.2
theorem bst_ok {bt : Nat → Nat → Bool} {c : Nat → Bool} {f : Nat → Nat} : ∀ {i : Nat} {q : Nat × Nat}, bst bt c f i = some q → q.1 < i ∧ q.2 = f q.1 ∧ c q.1 = true
  | 0, q, h => by cases h
  | i + 1, q, h => by
    unfold bst at h
    cases hb : bst bt c f i with
    | none =>
      rw [hb] at h
      by_cases cc : c i = true
      · simp only [cc, ↓reduceIte] at h
        cases h
        exact ⟨Nat.lt_succ_self _, rfl, cc⟩
      · simp only [cc] at h
        cases h
    | some q' =>
      have ih := bst_ok hb
      rw [hb] at h
      by_cases cc : (c i && bt (f i) q'.2) = true
      · simp only [cc, ↓reduceIte] at h
        cases h
        rw [Bool.and_eq_true] at cc
        exact ⟨Nat.lt_succ_self _, rfl, cc.1⟩
      · simp only [cc] at h
        cases h
        exact ⟨by omega, ih.2⟩
theorem bst_n {bt : Nat → Nat → Bool} {c : Nat → Bool} {f : Nat → Nat} {i : Nat} (h : bst bt c f i = none) (hc : c i = true) : bst bt c f (i + 1) = some (i, f i) := by rw [bst, h]; simp [hc]
theorem bst_t {bt : Nat → Nat → Bool} {c : Nat → Bool} {f : Nat → Nat} {i : Nat} {q : Nat × Nat} (h : bst bt c f i = some q) (hc : c i = true) (hb : bt (f i) q.2 = true) : bst bt c f (i + 1) = some (i, f i) := by rw [bst, h]; simp [hc, hb]
theorem bst_f {bt : Nat → Nat → Bool} {c : Nat → Bool} {f : Nat → Nat} {i : Nat} {q : Nat × Nat} (h : bst bt c f i = some q) (hb : bt (f i) q.2 = false) : bst bt c f (i + 1) = bst bt c f i := by rw [bst, h]; simp [hb]
theorem bst_c {bt : Nat → Nat → Bool} {c : Nat → Bool} {f : Nat → Nat} {i : Nat} (hc : c i = false) : bst bt c f (i + 1) = bst bt c f i := by
  rw [bst]
  cases h : bst bt c f i <;> simp [hc]
def gtB (x y : Nat) : Bool := decide (y < x)
def ltB (x y : Nat) : Bool := decide (x < y)
/-- by most: a number not above what is most changes nothing -/
theorem mx_le {c : Nat → Bool} {f : Nat → Nat} {i : Nat} (hf : ∀ j, j ≤ i → f j < 2 ^ 31) (h : nI (f i) ≤ e2 (-2) (bst gtB c f i)) : bst gtB c f (i + 1) = bst gtB c f i := by
  cases hb : bst gtB c f i with
  | none =>
    rw [hb] at h
    exact absurd h (by
      show ¬ nI (f i) ≤ -2
      rw [Int32.le_iff_toInt_le, nI_toInt (hf i (Nat.le_refl _)), show (-2 : Int32).toInt = -2 from rfl]
      omega)
  | some q =>
    have hq := bst_ok hb
    rw [hb] at h
    have h : nI (f i) ≤ nI q.2 := h
    rw [nI_leI (hf i (Nat.le_refl _)) (by rw [hq.2.1]; exact hf _ (by omega))] at h
    rw [bst_f hb (decide_eq_false (by omega)), hb]
theorem mx_gt {c : Nat → Bool} {f : Nat → Nat} {i : Nat} (hf : ∀ j, j ≤ i → f j < 2 ^ 31) (hc : c i = true) (h : ¬ nI (f i) ≤ e2 (-2) (bst gtB c f i)) : bst gtB c f (i + 1) = some (i, f i) := by
  cases hb : bst gtB c f i with
  | none => exact bst_n hb hc
  | some q =>
    have hq := bst_ok hb
    rw [hb] at h
    have h : ¬ nI (f i) ≤ nI q.2 := h
    rw [nI_leI (hf i (Nat.le_refl _)) (by rw [hq.2.1]; exact hf _ (by omega))] at h
    exact bst_t hb hc (decide_eq_true (by omega))
def wt (x : Int32) (q : Option (Nat × Nat)) : Int32 := if x = 0 then e1 q else e2 (-2) q
-- eldest
theorem pr_eldest {N : Nat} (hN : 4000 ≤ N) : ∀ (x1 : Int32) (σ : Mm), Inv N σ → ∃ (r : Int32) (σ1 σ2 : Mm), f10_eldest N x1 σ = some (r, σ1) ∧ f11_eldest N x1 σ1 = some (r, σ2) ∧ Inv N σ2 := by
  intro x1 σ hI
  obtain ⟨o, v, d, mo, hB⟩ := bridgeI hI
  obtain ⟨hd, hk, hc, hm, hcM, hn, hsd, hInv⟩ := id hB
  have hL := hInv.2.2.1
  have hNw := hInv.2.2.2.2.1
  obtain ⟨d1, d2, d3, d4, d5, d6, d7, d8⟩ := id hd
  by_cases hz : x1 = 0 ∨ x1 = 1
  · have hf : ∀ i, i < dW d → ∀ j, j ≤ i → ag mo j < 2 ^ 31 := fun i hi j hj => by have := hk j (by omega); omega
    refine pairR hI (fun _ _ e => fr10_eldest N e) rfl (fun _ _ _ e => fr11_eldest N e) rfl (wt x1 (bst gtB (al mo) (ag mo) (dW d))) ?_ (fun τ hE => ?_)
    · have h11 : Ok (f10_eldest_11 N x1 σ) (fun r _ => r = wt x1 (bst gtB (al mo) (ag mo) (dW d))) := by
        obtain ⟨ho, hl3, hl, hP, hQ, hW, hK, hpl, hme, hgv, hlaw, hv⟩ := id hc
        obtain ⟨m0, m1, m2, m3, m4⟩ := id hm
        refine Ok.lp (fun fu (a : Int32 × Int32) i τ => f10_eldest_20 N x1 fu a.1 a.2 i τ) (dW d) (fun i a τ => a = (e1 (bst gtB (al mo) (ag mo) i), e2 (-2) (bst gtB (al mo) (ag mo) i)) ∧ τ = σ) (a := (-2, -2)) ⟨rfl, rfl⟩ (by omega) ?_ ?_
        · rintro fu i a τ hi ⟨rfl, rfl⟩ k
          show Ok (f10_eldest_20 N x1 (fu + 1) _ _ (nI i) τ) _
          rw [f10_eldest_20, alive_sr hd hm hi, ixn (by omega), m4 i hi]
          refine Ok.r hl3 (kd_land ho) (Ok.f (by rw [hW]; exact nI_ngt hi (by omega)) (Ok.i (fun h => ?_) (fun h => Ok.c (inBn (by omega) (by decide)) (Ok.i (fun h2 => ?_) (fun h2 => ?_)))))
          · rw [b2_0] at h
            rw [f10_eldest_75, z_l_eq, nI_1]
            exact k (_, _) _ ⟨by rw [bst_c h] <;> rfl, rfl⟩
          · rw [f10_eldest_75, z_l_eq, nI_1]
            exact k (_, _) _ ⟨by rw [mx_le (hf i hi) h2] <;> rfl, rfl⟩
          · rw [b2_0] at h
            refine Ok.c (inBn (by omega) (by decide)) (Ok.l ?_)
            rw [f10_eldest_75, z_l_eq, nI_1]
            exact k (_, _) _ ⟨by rw [mx_gt (hf i hi) (by simpa using h) h2] <;> rfl, rfl⟩
        · rintro fu a τ ⟨rfl, rfl⟩
          show Ok (f10_eldest_20 N x1 (fu + 1) _ _ (nI (dW d)) τ) _
          rw [f10_eldest_20]
          refine Ok.r hl3 (kd_land ho) (Ok.t (by rw [hW]; exact nI_rf) (Ok.ii (fun _ => Ok.ret rfl) (fun _ => Ok.ret rfl)))
      rcases hz with h | h
      · exact Ok.t h h11
      · exact Ok.f (by rw [h]; decide) (Ok.t h h11)
    · refine gd1 (in01_t hz) ?_
      obtain ⟨hcM', hn', -⟩ := hB.S.eq hE
      obtain ⟨hv2, h18, hP, hQ, hW, hK, hpl, hme, hlaw⟩ := id hcM'
      obtain ⟨ra, rl, r14, r15, r16, rg⟩ := id hn'
      refine Ok.lp (fun fu (a : Int32 × Int32) i υ => f11_eldest_20 N x1 fu a.1 a.2 i υ) (dW d) (fun i a υ => a = (e1 (bst gtB (al mo) (ag mo) i), e2 (-2) (bst gtB (al mo) (ag mo) i)) ∧ υ = τ) (a := (-2, -2)) ⟨rfl, rfl⟩ (by omega) ?_ ?_
      · rintro fu i a υ hi ⟨rfl, rfl⟩ k
        show Ok (f11_eldest_20 N x1 (fu + 1) _ _ (nI i) υ) _
        rw [f11_eldest_20, ad7, h18, ixn (show v < 2 ^ 31 by omega), hW, ixn (show 7 + i < 2 ^ 31 by omega), rl i hi, ixn (show i < 2 ^ 31 by omega), ra i hi]
        refine Ok.c (inBn hv2 (by decide)) (Ok.f (nI_ngt hi (by omega)) (Ok.c (inBn (by omega) (by decide)) (Ok.i (fun h => ?_) (fun h => Ok.c (inBn (by omega) (by decide)) (Ok.i (fun h2 => ?_) (fun h2 => ?_))))))
        · rw [b2_0] at h
          rw [f11_eldest_72, z_l_eq, nI_1]
          exact k (_, _) _ ⟨by rw [bst_c h] <;> rfl, rfl⟩
        · rw [b2_0] at h
          refine Ok.c (inBn (by omega) (by decide)) (Ok.l ?_)
          rw [f11_eldest_72, z_l_eq, nI_1]
          exact k (_, _) _ ⟨by rw [mx_gt (hf i hi) (by simpa using h) (Int32.not_le.mpr h2)] <;> rfl, rfl⟩
        · rw [f11_eldest_72, z_l_eq, nI_1]
          exact k (_, _) _ ⟨by rw [mx_le (hf i hi) (Int32.not_lt.mp h2)] <;> rfl, rfl⟩
      · rintro fu a υ ⟨rfl, rfl⟩
        show Ok (f11_eldest_20 N x1 (fu + 1) _ _ (nI (dW d)) υ) _
        rw [f11_eldest_20, h18, ixn (by omega), hW]
        exact Ok.c (inBn hv2 (by decide)) (Ok.t nI_rf (Ok.ii (fun _ => Ok.ret rfl) (fun _ => Ok.ret rfl)))
  · exact pairR hI (fun _ _ e => fr10_eldest N e) rfl (fun _ _ _ e => fr11_eldest N e) rfl (-1) (Ok.f (fun c => hz (Or.inl c)) (Ok.f (fun c => hz (Or.inr c)) (Ok.ret rfl))) (fun τ hE => gd0 (in01_f hz) (Ok.ret rfl))
