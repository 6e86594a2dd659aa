-- WITHIN: paths
theorem bst_le {c : Nat → Bool} {f : Nat → Nat} : ∀ {n : Nat} {q : Nat × Nat}, bst ltB c f n = some q → ∀ i, i < n → c i = true → q.2 ≤ f i
  | 0, q, h, i, hi, _ => absurd hi (Nat.not_lt_zero _)
  | n + 1, q, h, i, hi, hc => by
    unfold bst at h
    cases e : bst ltB c f n with
    | none =>
      rw [e] at h
      by_cases ei : i = n
      · subst ei
        simp only [hc, ↓reduceIte] at h
        cases h
        exact Nat.le_refl _
      · have := bst_none e i (by omega)
        rw [hc] at this
        exact Bool.noConfusion this
    | some q' =>
      rw [e] at h
      by_cases cc : (c n && ltB (f n) q'.2) = true
      · simp only [cc, ↓reduceIte] at h
        cases h
        rw [Bool.and_eq_true] at cc
        have hlt : f n < q'.2 := of_decide_eq_true cc.2
        by_cases ei : i = n
        · rw [ei]; exact Nat.le_refl _
        · have := bst_le e i (by omega) hc
          show f n ≤ f i
          omega
      · simp only [cc] at h
        cases h
        by_cases ei : i = n
        · subst ei
          have : ¬ f i < q.2 := fun hl => cc (by rw [hc]; exact decide_eq_true hl)
          omega
        · exact bst_le e i (by omega) hc
def ad (s a : Nat) : Nat := s ||| 2 ^ a
theorem ad_bit {s a i : Nat} : (ad s a).testBit i = (s.testBit i || decide (a = i)) := by unfold ad; rw [Nat.testBit_or, Nat.testBit_two_pow]
theorem ad_lt {s a Q : Nat} (hs : s < 2 ^ Q) (ha : a < Q) : ad s a < 2 ^ Q := Nat.or_lt_two_pow hs (Nat.pow_lt_pow_right (by decide) ha)
theorem rm_ad {t a : Nat} (ht : t < 2 ^ 7) (ha : a < 7) (h : t.testBit a = false) : rm (ad t a) a = t := Nat.eq_of_testBit_eq fun i => by
  rw [rm_bit (ad_lt ht ha), ad_bit]
  by_cases e : a = i
  · subst e; simp [h]
  · simp [e, Ne.symm e]
theorem ad_gt {t a : Nat} (ht : t < 2 ^ 7) (ha : a < 7) (h : t.testBit a = false) : t < ad t a := by
  have := rm_lt (ad_lt ht ha) (q := a) (by rw [ad_bit]; simp)
  rwa [rm_ad ht ha h] at this
theorem cnt_ad {t a : Nat} (ht : t < 2 ^ 7) (ha : a < 7) (h : t.testBit a = false) : cnt (ad t a).testBit 7 = cnt t.testBit 7 + 1 := by
  have := cnt_rm (ad_lt ht ha) (q := a) (by rw [ad_bit]; simp)
  rw [rm_ad ht ha h] at this
  omega
theorem thr_ad {Wf : Nat → Nat → Nat} {t a b : Nat} (ht : t < 2 ^ 7) (ha : a < 7) (h : t.testBit a = false) : thr Wf (ad t a) b ≤ Wf b a + thr Wf t a := by
  have hb : (ad t a).testBit a = true := by rw [ad_bit]; simp
  rw [thr_eq (ad_lt ht ha)]
  cases hx : nxt Wf (ad t a) b with
  | none =>
    have := bst_none hx a ha
    rw [hb] at this
    exact Bool.noConfusion this
  | some q =>
    have := bst_le hx a ha hb
    show q.2 ≤ _
    rw [rm_ad ht ha h] at this
    exact this
theorem sA_ad {Af : Nat → Nat} {t a : Nat} (ht : t < 2 ^ 7) (ha : a < 7) (h : t.testBit a = false) : sA Af (ad t a) 7 = sA Af t 7 + Af a := by
  have := sA_rm (Af := Af) (ad_lt ht ha) (q := a) (by rw [ad_bit]; simp) (n := 7) ha
  rw [rm_ad ht ha h] at this
  omega
/-- a path from p in k steps: over s, to a, that takes c -/
def Pth (Wf : Nat → Nat → Nat) (Af : Nat → Nat) (Q p : Nat) : Nat → Nat → Nat → Nat → Prop
  | 0, s, a, c => a = p ∧ s = 2 ^ p ∧ c = Af p
  | k + 1, s, a, c => ∃ s' b c', Pth Wf Af Q p k s' b c' ∧ s'.testBit a = false ∧ a < Q ∧ s = ad s' a ∧ c = c' + Wf b a + Af a
theorem Pth.ok {Wf : Nat → Nat → Nat} {Af : Nat → Nat} {Q p : Nat} (hQ : Q ≤ 7) (hp : p < Q) (hW : ∀ x y, Wf x y ≤ 99) (hA : ∀ x, Af x ≤ 99) : ∀ {k s a c : Nat}, Pth Wf Af Q p k s a c → s < 2 ^ Q ∧ s.testBit a = true ∧ s.testBit p = true ∧ cnt s.testBit 7 = k + 1 ∧ a < Q ∧ c ≤ 198 * (k + 1)
  | 0, s, a, c, h => by
    obtain ⟨rfl, rfl, rfl⟩ := h
    have h7 : 2 ^ a < 2 ^ Q := Nat.pow_lt_pow_right (by decide) hp
    have e : (2 : Nat) ^ a = ad 0 a := by unfold ad; rw [Nat.zero_or]
    refine ⟨h7, by rw [Nat.testBit_two_pow]; simp, by rw [Nat.testBit_two_pow]; simp, ?_, hp, by have := hA a; omega⟩
    rw [e, cnt_ad (by decide) (by omega) (Nat.zero_testBit _)]
    rw [cnt_z (fun i _ => Nat.zero_testBit i)]
  | k + 1, s, a, c, h => by
    obtain ⟨s', b, c', h1, h2, h3, rfl, rfl⟩ := h
    obtain ⟨a1, a2, a3, a4, a5, a6⟩ := Pth.ok hQ hp hW hA h1
    have s7 : s' < 2 ^ 7 := Nat.lt_of_lt_of_le a1 (Nat.pow_le_pow_right (by decide) hQ)
    refine ⟨ad_lt a1 h3, by rw [ad_bit]; simp, by rw [ad_bit, a3]; rfl, by rw [cnt_ad s7 (by omega) h2, a4], h3, ?_⟩
    have := hW b a
    have := hA a
    omega
theorem Pth.low {Wf : Nat → Nat → Nat} {Af : Nat → Nat} {Q p : Nat} (hQ : Q ≤ 7) (hp : p < Q) (hW : ∀ x y, Wf x y ≤ 99) (hA : ∀ x, Af x ≤ 99) : ∀ {k s a c : Nat}, Pth Wf Af Q p k s a c → ∀ t, t < 2 ^ 7 → (∀ i, t.testBit i = true → s.testBit i = false) → Af p + sA Af (rm (s ||| t) p) 7 + thr Wf (rm (s ||| t) p) p ≤ c + sA Af t 7 + thr Wf t a
  | 0, s, a, c, h, t, ht, hd => by
    obtain ⟨rfl, rfl, rfl⟩ := h
    have htp : t.testBit a = false := by
      cases e : t.testBit a
      · rfl
      · have := hd a e
        rw [Nat.testBit_two_pow] at this
        simp at this
    have e : rm (2 ^ a ||| t) a = t := by
      rw [Nat.or_comm]
      exact rm_ad ht (by omega) htp
    rw [e]
    exact Nat.le_refl _
  | k + 1, s, a, c, h, t, ht, hd => by
    obtain ⟨s', b, c', h1, h2, h3, rfl, rfl⟩ := h
    have hta : t.testBit a = false := by
      cases e : t.testBit a
      · rfl
      · have := hd a e
        rw [ad_bit] at this
        simp at this
    have ih := Pth.low hQ hp hW hA h1 (ad t a) (ad_lt ht (by omega)) (fun i hi => by
      rw [ad_bit] at hi
      by_cases e : a = i
      · subst e; exact h2
      · have h5 : t.testBit i = true := by simpa [e] using hi
        have := hd i h5
        rw [ad_bit] at this
        simpa [e] using this)
    have e : s' ||| ad t a = ad s' a ||| t := by
      unfold ad
      rw [Nat.or_comm t, Nat.or_assoc]
    rw [e] at ih
    have h5 := thr_ad (Wf := Wf) (b := b) ht (by omega) hta
    have h6 := sA_ad (Af := Af) ht (by omega) hta
    omega
theorem Pth.up {Wf : Nat → Nat → Nat} {Af : Nat → Nat} {Q p : Nat} (hQ : Q ≤ 7) : ∀ {m t k s a c : Nat}, Pth Wf Af Q p k s a c → t < 2 ^ Q → cnt t.testBit 7 = m → (∀ i, t.testBit i = true → s.testBit i = false) → ∃ k2 a2, Pth Wf Af Q p k2 (s ||| t) a2 (c + sA Af t 7 + thr Wf t a)
  | 0, t, k, s, a, c, h, ht, hm, hd => by
    have t7 : t < 2 ^ 7 := Nat.lt_of_lt_of_le ht (Nat.pow_le_pow_right (by decide) hQ)
    have hz := cnt_0 hm
    have et : t = 0 := Nat.eq_of_testBit_eq fun i => by
      by_cases c : i < 7
      · rw [hz i c, Nat.zero_testBit]
      · rw [bit7 t7 (by omega), Nat.zero_testBit]
    have e0 : thr Wf 0 a = 0 := by
      rw [thr_eq (by decide), show nxt Wf 0 a = none from (bst_ge (n := 0) (m := 7) (by omega) (fun i _ _ => Nat.zero_testBit i)).trans rfl]
      rfl
    refine ⟨k, a, ?_⟩
    rw [et, Nat.or_zero, sA_z (fun i _ => Nat.zero_testBit i), e0]
    exact h
  | m + 1, t, k, s, a, c, h, ht, hm, hd => by
    have t7 : t < 2 ^ 7 := Nat.lt_of_lt_of_le ht (Nat.pow_le_pow_right (by decide) hQ)
    cases hx : nxt Wf t a with
    | none =>
      have := cnt_z (bst_none hx)
      omega
    | some q =>
      have hq := bst_ok hx
      have hqQ : q.1 < Q := by
        by_cases c : q.1 < Q
        · exact c
        · have := hq.2.2
          rw [Nat.testBit_lt_two_pow (Nat.lt_of_lt_of_le ht (Nat.pow_le_pow_right (by decide) (by omega)))] at this
          exact Bool.noConfusion this
      have hcr := cnt_rm t7 hq.2.2
      have hlt := rm_lt t7 hq.2.2
      have step : Pth Wf Af Q p (k + 1) (ad s q.1) q.1 (c + Wf a q.1 + Af q.1) := ⟨s, a, c, h, hd q.1 hq.2.2, hqQ, rfl, rfl⟩
      obtain ⟨k2, a2, r⟩ := Pth.up hQ (m := m) (t := rm t q.1) step (by omega) (by omega) (fun i hi => by
        rw [rm_bit t7, Bool.and_eq_true] at hi
        rw [ad_bit, hd i hi.1]
        have : ¬ q.1 = i := fun e => by have := hi.2; rw [e] at this; simp at this
        simp [this])
      refine ⟨k2, a2, ?_⟩
      have e1 : ad s q.1 ||| rm t q.1 = s ||| t := Nat.eq_of_testBit_eq fun i => by
        rw [Nat.testBit_or, ad_bit, rm_bit t7, Nat.testBit_or]
        by_cases e : q.1 = i
        · subst e; rw [hq.2.2]; simp
        · simp [e, Ne.symm e]
      have hs := sA_rm (Af := Af) t7 hq.2.2 (n := 7) (by omega)
      have ht2 : thr Wf t a = Wf a q.1 + thr Wf (rm t q.1) q.1 := by rw [thr_eq t7, hx]; exact hq.2.1
      rw [e1, show c + Wf a q.1 + Af q.1 + sA Af (rm t q.1) 7 + thr Wf (rm t q.1) q.1 = c + sA Af t 7 + thr Wf t a by omega] at r
      exact r
-- the class
def wOk (d : Dt) (mo : Mo) (p time t : Nat) : Prop := t < 2 ^ dQ d ∧ t.testBit p = false ∧ askV d mo p + sA (askV d mo) t 7 + thr (wlk d mo) t p ≤ time
def isMx (d : Dt) (mo : Mo) (p time m : Nat) : Prop := (m = 0 ∨ ∃ t, wOk d mo p time t ∧ m = 1 + cnt t.testBit 7) ∧ ∀ t, wOk d mo p time t → 1 + cnt t.testBit 7 ≤ m
theorem c_mostFrom {N : Nat} (hN : 4000 ≤ N) {σ : Mm} {d : Dt} {mo : Mo} (hd : Dok d) {p time : Nat} (hp : p < dQ d) (ht : time ≤ 999) {all : Nat} (hall : all + 1 = 2 ^ dQ d) (hbit : ∀ i, i < dQ d → all.testBit i = true) (hMW : MW σ d mo all) (hTh : Th σ d mo all (all + 1)) : Ok (f7_mostFrom N (nI p) (nI all) (nI time) σ) (fun r _ => ∃ m, isMx d mo p time m ∧ r = nI m ∧ m ≤ 8) := by
  obtain ⟨d1, d2, d3, d4, d5, d6, d7, d8⟩ := id hd
  have hp7 : 2 ^ dQ d ≤ 2 ^ 7 := Nat.pow_le_pow_right (by decide) d2
  unfold f7_mostFrom
  refine Ok.lp (fun fu (a : Int32) i τ => f7_mostFrom_6 N (nI p) (nI all) (nI time) fu a i τ) (all + 1) (fun i a τ => (∃ m, a = nI m ∧ m ≤ 8 ∧ (m = 0 ∨ ∃ t, wOk d mo p time t ∧ m = 1 + cnt t.testBit 7) ∧ ∀ t, t < i → wOk d mo p time t → 1 + cnt t.testBit 7 ≤ m) ∧ τ = σ) ⟨⟨0, rfl, by omega, Or.inl rfl, fun t ht => absurd ht (Nat.not_lt_zero _)⟩, rfl⟩ (by omega) ?_ ?_
  · rintro fu i a τ hi ⟨⟨m, rfl, hm8, hm1, hm2⟩, rfl⟩ kk
    have i7 : i < 2 ^ 7 := by omega
    show Ok (f7_mostFrom_6 N (nI p) (nI all) (nI time) (fu + 1) _ (nI i) τ) _
    rw [f7_mostFrom_6, in7 i7 (by omega), z_b_some]
    have skip : ¬ wOk d mo p time i → Ok (f7_mostFrom_77 N (fun x4 x5 σ => f7_mostFrom_6 N (nI p) (nI all) (nI time) fu x4 x5 σ) (nI p) (nI all) (nI time) (nI m) (nI i) τ) (fun r _ => ∃ m, isMx d mo p time m ∧ r = nI m ∧ m ≤ 8) := by
      intro hno
      rw [f7_mostFrom_77, z_l_eq, nI_1]
      refine kk _ _ ⟨⟨m, rfl, hm8, hm1, fun t ht hw => ?_⟩, rfl⟩
      by_cases e : t = i
      · exact absurd (e ▸ hw) hno
      · exact hm2 t (by omega) hw
    refine Ok.f (nI_nlt (by omega) (by omega)) (Ok.f (nI_ngt (n := 128) (by omega) (by decide)) (Ok.i (fun c => ?_) (fun c => ?_)))
    · rw [b2_0] at c
      have hsub : sub7 i all := fun j hj => hbit j (bQ (d := d) (by omega) hj)
      have hs := sA_le (ask_le d mo) (s := i) 7
      have hth := thr_le (wlk_le d mo) (s := i) (p := p)
      have hap := ask_le d mo p
      refine Ok.c (inBn (by omega) (by decide)) ?_
      rw [c_askOfAll hN i7 hsub hMW, z_b_some, m7c, ixn (by omega), ixn (by omega), hMW.2 p (hbit p hp), hTh i hi hsub p (hbit p hp) c, nI_add, nI_add, bitC_set (n := 7) i7 (by decide)]
      refine Ok.c (inBn (by omega) (by decide)) (Ok.l (Ok.i (fun c2 => ?_) (fun c2 => ?_)))
      · rw [nI_ltI (by omega) (by omega)] at c2
        exact skip (fun h => by have := h.2.2; omega)
      · rw [nI_ltI (by omega) (by omega)] at c2
        have hw : wOk d mo p time i := ⟨by omega, c, by omega⟩
        have hc7 := cnt_le (p := i.testBit) 7
        rw [z_l_eq, f7_mostFrom_77, z_l_eq, nI_1, show (1 : Int32) + nI (cnt i.testBit 7) = nI (1 + cnt i.testBit 7) from nI_add 1 _]
        have ex : mxI (nI m) (nI (1 + cnt i.testBit 7)) = nI (max m (1 + cnt i.testBit 7)) := by
          show (if nI m < nI (1 + cnt i.testBit 7) then _ else _) = _
          by_cases e : m < 1 + cnt i.testBit 7
          · rw [if_pos (nI_lt e (by omega)), Nat.max_eq_right (by omega)]
          · rw [if_neg (nI_nlt (by omega) (by omega)), Nat.max_eq_left (by omega)]
        rw [ex]
        refine kk _ _ ⟨⟨max m (1 + cnt i.testBit 7), rfl, by omega, ?_, fun t ht hw' => ?_⟩, rfl⟩
        · by_cases e : m < 1 + cnt i.testBit 7
          · exact Or.inr ⟨i, hw, Nat.max_eq_right (by omega)⟩
          · rw [Nat.max_eq_left (by omega)]; exact hm1
        · by_cases e : t = i
          · rw [e]; exact Nat.le_max_right _ _
          · have := hm2 t (by omega) hw'
            omega
    · rw [b2_0] at c
      exact skip (fun h => c h.2.1)
  · rintro fu a τ ⟨⟨m, rfl, hm8, hm1, hm2⟩, rfl⟩
    show Ok (f7_mostFrom_6 N (nI p) (nI all) (nI time) (fu + 1) _ (nI (all + 1)) τ) _
    rw [f7_mostFrom_6]
    exact Ok.t (nI_lt (by omega) (by omega)) (Ok.ret ⟨m, ⟨hm1, fun t hw => hm2 t (by have := hw.1; omega) hw⟩, rfl, hm8⟩)
