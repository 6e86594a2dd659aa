-- THE REFERENCE READS
def D_kM : Wr := [(0, 160, none), (160, 1, some 18), (160, 1, some 63), (160, 1, some 69), (167, 1, none), (198, 1, none), (203, 1, none), (208, 4, none)]
theorem r_copy {N : Nat} {B : Nat → Nat} {n : Nat} (hB : TB B n) {Q : Int32 → Mm → Prop} {σ0 : Mm} : ∀ {fu i : Nat} {σ : Mm}, i ≤ n → n - i < fu → gI σ 160 4 = nI n → (∀ j, j < n → gI σ 161 j = sgn (B j)) → (∀ j, j < i → gI σ 162 j = sgn (B j)) → Same [(160, 1, some 4), (162, 1, none)] σ0 σ → (∀ τ, TM τ B n → Same [(160, 1, some 4), (162, 1, none)] σ0 τ → Ok (f11_read_36 N τ) Q) → Ok (f11_read_10 N fu (nI i) σ) Q
  | 0, i, σ, _, h, _, _, _, _, _ => absurd h (Nat.not_lt_zero _)
  | fu + 1, i, σ, hi, hf, h4, h1, h2, hS, hQ => by
    have hn := hB.1
    rw [f11_read_10, h4]
    by_cases c : i = n
    · subst c
      exact Ok.t nI_rf (hQ σ ⟨h4, h2⟩ hS)
    · refine Ok.f (nI_ngt (by omega) (by omega)) (Ok.c (inBn (by omega) (by decide)) (Ok.c (inBn (by omega) (by decide)) ?_))
      rw [ixn (by omega), h1 i (by omega), sg_nar _ (hB.2 i (by omega)), z_l_eq, nI_1, z_l_eq]
      refine r_copy hB (i := i + 1) (by omega) (by omega) (by rw [gI_o (by decide)]; exact h4) (fun j hj => by rw [gI_o (by decide)]; exact h1 j hj) (fun j hj => ?_) (hS.tr fun id k hn => ⟨gI_o (fun e => hn ⟨_, List.mem_cons_of_mem _ List.mem_cons_self, ⟨by subst e; exact Nat.le_refl _, by subst e; exact Nat.lt_succ_self _⟩, Or.inl rfl⟩), rfl, rfl⟩) hQ
      by_cases e : j = i
      · subst e; exact gI_e
      · rw [gI_k e]; exact h2 j (by omega)
theorem r_plain {N : Nat} (hN : 4000 ≤ N) {σ : Mm} {s : Nat} (hs : s < 2) : Ok (f11_plain N (nI s) σ) (fun _ τ => (gI τ 170 s = 0 ∧ gI τ 171 s = 0 ∧ gI τ 175 s = 0 ∧ gI τ 178 s = 0 ∧ gI τ 184 s = 1 ∧ gI τ 185 s = 0) ∧ (∀ k, k < 4 → gI τ 186 (4 * s + k) = 0 ∧ gI τ 187 (4 * s + k) = 0) ∧ (∀ v, v < 2 → v ≠ s → kS v σ τ)) := by
  unfold f11_plain
  rw [ixn (by omega)]
  refine Ok.c (inBn hs (by decide)) ?_
  rw [z_l_eq]
  refine Ok.c (inBn hs (by decide)) ?_
  rw [z_l_eq]
  refine Ok.c (inBn hs (by decide)) ?_
  rw [z_l_eq]
  refine Ok.c (inBn hs (by decide)) ?_
  rw [z_l_eq]
  refine Ok.c (inBn hs (by decide)) ?_
  rw [z_l_eq]
  refine Ok.c (inBn hs (by decide)) ?_
  rw [z_l_eq]
  generalize hτ : sI (sI (sI (sI (sI (sI σ 170 s 0) 171 s 0) 175 s 0) 178 s 0) 184 s 1) 185 s 0 = τ
  have t0 : gI τ 170 s = 0 ∧ gI τ 171 s = 0 ∧ gI τ 175 s = 0 ∧ gI τ 178 s = 0 ∧ gI τ 184 s = 1 ∧ gI τ 185 s = 0 := by
    rw [← hτ]
    exact ⟨by rw [gI_o (by decide), gI_o (by decide), gI_o (by decide), gI_o (by decide), gI_o (by decide), gI_e], by rw [gI_o (by decide), gI_o (by decide), gI_o (by decide), gI_o (by decide), gI_e], by rw [gI_o (by decide), gI_o (by decide), gI_o (by decide), gI_e], by rw [gI_o (by decide), gI_o (by decide), gI_e], by rw [gI_o (by decide), gI_e], gI_e⟩
  have ks : ∀ v, v < 2 → v ≠ s → kS v σ τ := fun v h1 hv => by
    rw [← hτ]
    exact (((((kS_w (by unfold oS; omega)).tr (kS_w (by unfold oS; omega))).tr (kS_w (by unfold oS; omega))).tr (kS_w (by unfold oS; omega))).tr (kS_w (by unfold oS; omega))).tr (kS_w (by unfold oS; omega))
  have key : ∀ (fu i : Nat) (υ : Mm), i ≤ 4 → 4 - i < fu → (∀ c k, c < 186 → gI υ c k = gI τ c k) → (∀ k, k < i → gI υ 186 (4 * s + k) = 0 ∧ gI υ 187 (4 * s + k) = 0) → (∀ v, v < 2 → v ≠ s → kS v σ υ) → Ok (f11_plain_44 N (nI s) fu (nI i) υ) (fun _ ρ => (gI ρ 170 s = 0 ∧ gI ρ 171 s = 0 ∧ gI ρ 175 s = 0 ∧ gI ρ 178 s = 0 ∧ gI ρ 184 s = 1 ∧ gI ρ 185 s = 0) ∧ (∀ k, k < 4 → gI ρ 186 (4 * s + k) = 0 ∧ gI ρ 187 (4 * s + k) = 0) ∧ (∀ v, v < 2 → v ≠ s → kS v σ ρ)) := by
    intro fu
    induction fu with
    | zero => intro i υ _ h; omega
    | succ fu ih =>
      intro i υ hi hf h1 h2 h3
      rw [f11_plain_44]
      by_cases c : i = 4
      · subst c
        refine Ok.t (by decide) (Ok.ret ⟨?_, h2, h3⟩)
        rw [h1 _ _ (by decide), h1 _ _ (by decide), h1 _ _ (by decide), h1 _ _ (by decide), h1 _ _ (by decide), h1 _ _ (by decide)]
        exact t0
      · have hx : (4 : Int32) * nI s + nI i = nI (4 * s + i) := by rw [show (4 : Int32) = nI 4 from rfl, pk_mul, nI_add]
        refine Ok.f (nI_ngt (n := 4) (by omega) (by decide)) ?_
        rw [hx, ixn (by omega)]
        refine Ok.c (inBn (by omega) (by decide)) ?_
        rw [z_l_eq]
        refine Ok.c (inBn (by omega) (by decide)) ?_
        rw [z_l_eq, nI_1, z_l_eq]
        refine ih (i + 1) _ (by omega) (by omega) (fun c k hc => by rw [gI_o (by omega), gI_o (by omega)]; exact h1 c k hc) (fun k hk => ?_) (fun v a b => ((h3 v a b).tr (kS_w (by unfold oS; omega))).tr (kS_w (by unfold oS; omega)))
        by_cases e : k = i
        · subst e; exact ⟨by rw [gI_o (by decide), gI_e], gI_e⟩
        · exact ⟨by rw [gI_o (by decide), gI_k (by omega)]; exact (h2 k (by omega)).1, by rw [gI_k (by omega), gI_o (by decide)]; exact (h2 k (by omega)).2⟩
  exact key N 0 τ (by omega) (by omega) (fun _ _ _ => rfl) (fun k hk => absurd hk (Nat.not_lt_zero _)) ks
/-- what a reading leaves in the reference: before it begins anew -/
def rdM (N : Nat) (σ : Mm) (B : Nat → Nat) (n s : Nat) (r : Int32) (τ : Mm) : Prop := ∃ τ', (EqOn D_kM σ τ' ∧ KS σ s τ' ∧ gI τ' 160 2 = 0) ∧ match gAll (kK B n) (vV B n) 401 0 cn0 lw0 with
  | .inl e => r = nI e.1 ∧ τ = sI τ' 160 17 (nI (bg B n e.2))
  | .inr res => match sAll (kK B n) (vV B n) (wW B n) 401 0 cn0 ld0 with
    | .inl e => r = nI e.1 ∧ τ = sI τ' 160 17 (nI (bg B n e.2))
    | .inr d => f11_read_164 N (-1) τ' = some (r, τ) ∧ (gI τ' 160 13 = 0 ∧ gI τ' 160 15 = 0) ∧ ∃ t', RDL τ' τ' B n s t' res.1 (.inr d) res.2
-- it begins anew
def O9 (σ τ : Mm) : Prop := ∀ c k, c ≠ 199 → gI τ c k = gI σ c k
theorem O9.tr {σ τ υ : Mm} (h : O9 σ τ) (h2 : O9 τ υ) : O9 σ υ := fun c k hc => (h2 c k hc).trans (h c k hc)
theorem O9_w {σ : Mm} {k : Nat} {v : Int32} : O9 σ (sI σ 199 k v) := fun c j hc => gI_o hc
def rwB (σ τ : Mm) (s W G : Nat) : Prop := (∀ w, w < W → gI τ 199 w = gI σ 176 (7 * s + w) ∧ gI τ 199 (7 + w) = 1) ∧ (gI τ 199 14 = 0 ∧ gI τ 199 15 = nI G ∧ gI τ 199 16 = 0) ∧ ∀ g, g < G → gI τ 199 (17 + g) = gI σ 179 (12 * s + g) ∧ gI τ 199 (37 + g) = gI σ 180 (12 * s + g) ∧ gI τ 199 (57 + g) = gI σ 181 (12 * s + g) ∧ gI τ 199 (77 + g) = -(gI σ 182 (12 * s + g)) ∧ gI τ 199 (97 + g) = gI σ 183 (12 * s + g)
theorem r_b90 {N : Nat} {σ0 : Mm} {s W G : Nat} (hs : s < 2) (hW : W ≤ 7) (hG : G ≤ 12) (h18 : gI σ0 160 18 = nI s) (h178 : gI σ0 178 s = nI G) : ∀ {fu g : Nat} {σ : Mm}, g ≤ G → G - g < fu → O9 σ0 σ → (∀ w, w < W → gI σ 199 w = gI σ0 176 (7 * s + w) ∧ gI σ 199 (7 + w) = 1) → (gI σ 199 14 = 0 ∧ gI σ 199 15 = nI G ∧ gI σ 199 16 = 0) → (∀ j, j < g → gI σ 199 (17 + j) = gI σ0 179 (12 * s + j) ∧ gI σ 199 (37 + j) = gI σ0 180 (12 * s + j) ∧ gI σ 199 (57 + j) = gI σ0 181 (12 * s + j) ∧ gI σ 199 (77 + j) = -(gI σ0 182 (12 * s + j)) ∧ gI σ 199 (97 + j) = gI σ0 183 (12 * s + j)) → Ok (f11_begins_90 N fu (nI g) σ) (fun _ τ => rwB σ0 τ s W G ∧ gI τ 160 57 = gI σ0 185 s ∧ gI τ 160 58 = 0 ∧ gI τ 160 59 = 0)
  | 0, g, σ, _, h, _, _, _, _ => absurd h (Nat.not_lt_zero _)
  | fu + 1, g, σ, hg, hf, hO, hA, hB, hC => by
    have e18 : gI σ 160 18 = nI s := by rw [hO _ _ (by decide)]; exact h18
    have e178 : gI σ 178 s = nI G := by rw [hO _ _ (by decide)]; exact h178
    rw [f11_begins_90, e18, ixn (i := s) (by omega), e178]
    refine Ok.c (inBn hs (by decide)) ?_
    by_cases c : g = G
    · subst c
      refine Ok.t nI_rf ?_
      rw [f11_begins_225, e18, ixn (i := s) (by omega)]
      refine Ok.c (inBn hs (by decide)) ?_
      rw [z_l_eq, z_l_eq, z_l_eq]
      have k : ∀ j, gI (sI (sI (sI σ 160 57 (gI σ 185 s)) 160 58 0) 160 59 0) 199 j = gI σ 199 j := fun j => by rw [gI_o (by decide), gI_o (by decide), gI_o (by decide)]
      refine Ok.ret ⟨⟨fun w hw => by rw [k, k]; exact hA w hw, by rw [k, k, k]; exact hB, fun j hj => by rw [k, k, k, k, k]; exact hC j hj⟩, by rw [gI_k (by decide), gI_k (by decide), gI_e, hO _ _ (by decide)], by rw [gI_k (by decide), gI_e], gI_e⟩
    · refine Ok.f (nI_ngt (by omega) (by omega)) ?_
      have hx : (12 : Int32) * nI s + nI g = nI (12 * s + g) := by rw [show (12 : Int32) = nI 12 from rfl, pk_mul, nI_add]
      have x17 : (17 : Int32) + nI g = nI (17 + g) := nI_add 17 g
      have x37 : (37 : Int32) + nI g = nI (37 + g) := nI_add 37 g
      have x57 : (57 : Int32) + nI g = nI (57 + g) := nI_add 57 g
      have x77 : (77 : Int32) + nI g = nI (77 + g) := nI_add 77 g
      have x97 : (97 : Int32) + nI g = nI (97 + g) := nI_add 97 g
      rw [hx, x17, x37, x57, x77, x97, ixn (i := 12 * s + g) (by omega), ixn (i := 17 + g) (by omega), ixn (i := 37 + g) (by omega), ixn (i := 57 + g) (by omega), ixn (i := 77 + g) (by omega), ixn (i := 97 + g) (by omega)]
      refine Ok.c (inBn (by omega) (by decide)) (Ok.c (inBn (by omega) (by decide)) ?_)
      rw [z_l_eq, gI_o (by decide), e18, hx, ixn (i := 12 * s + g) (by omega)]
      refine Ok.c (inBn (by omega) (by decide)) (Ok.c (inBn (by omega) (by decide)) ?_)
      rw [z_l_eq, gI_o (by decide), gI_o (by decide), e18, hx, ixn (i := 12 * s + g) (by omega)]
      refine Ok.c (inBn (by omega) (by decide)) (Ok.c (inBn (by omega) (by decide)) ?_)
      rw [z_l_eq, gI_o (by decide), gI_o (by decide), gI_o (by decide), e18, hx, ixn (i := 12 * s + g) (by omega)]
      refine Ok.c (inBn (by omega) (by decide)) (Ok.c (inBn (by omega) (by decide)) ?_)
      rw [z_l_eq, gI_o (by decide), gI_o (by decide), gI_o (by decide), gI_o (by decide), e18, hx, ixn (i := 12 * s + g) (by omega)]
      refine Ok.c (inBn (by omega) (by decide)) (Ok.c (inBn (by omega) (by decide)) ?_)
      rw [z_l_eq, nI_1, z_l_eq]
      generalize hτ : sI _ 199 (97 + g) _ = τ
      have hk : ∀ j, j ≠ 17 + g → j ≠ 37 + g → j ≠ 57 + g → j ≠ 77 + g → j ≠ 97 + g → gI τ 199 j = gI σ 199 j := fun j a1 a2 a3 a4 a5 => by
        rw [← hτ, gI_k a5, gI_k a4, gI_k a3, gI_k a2, gI_k a1]
      have hO2 : O9 σ τ := by
        rw [← hτ]
        exact (((O9_w.tr O9_w).tr O9_w).tr O9_w).tr O9_w
      have n17 : gI τ 199 (17 + g) = gI σ0 179 (12 * s + g) := by rw [← hτ, gI_k (by omega), gI_k (by omega), gI_k (by omega), gI_k (by omega), gI_e, hO _ _ (by decide)]
      have n37 : gI τ 199 (37 + g) = gI σ0 180 (12 * s + g) := by rw [← hτ, gI_k (by omega), gI_k (by omega), gI_k (by omega), gI_e, gI_o (by decide), hO _ _ (by decide)]
      have n57 : gI τ 199 (57 + g) = gI σ0 181 (12 * s + g) := by rw [← hτ, gI_k (by omega), gI_k (by omega), gI_e, gI_o (by decide), gI_o (by decide), hO _ _ (by decide)]
      have n77 : gI τ 199 (77 + g) = -(gI σ0 182 (12 * s + g)) := by rw [← hτ, gI_k (by omega), gI_e, gI_o (by decide), gI_o (by decide), gI_o (by decide), hO _ _ (by decide)]
      have n97 : gI τ 199 (97 + g) = gI σ0 183 (12 * s + g) := by rw [← hτ, gI_e, gI_o (by decide), gI_o (by decide), gI_o (by decide), gI_o (by decide), hO _ _ (by decide)]
      refine r_b90 hs hW hG h18 h178 (g := g + 1) (by omega) (by omega) (hO.tr hO2) (fun w hw => ?_) ?_ (fun j hj => ?_)
      · rw [hk _ (by omega) (by omega) (by omega) (by omega) (by omega), hk _ (by omega) (by omega) (by omega) (by omega) (by omega)]; exact hA w hw
      · rw [hk _ (by omega) (by omega) (by omega) (by omega) (by omega), hk _ (by omega) (by omega) (by omega) (by omega) (by omega), hk _ (by omega) (by omega) (by omega) (by omega) (by omega)]; exact hB
      · by_cases e : j = g
        · subst e; exact ⟨n17, n37, n57, n77, n97⟩
        · rw [hk (17 + j) (by omega) (by omega) (by omega) (by omega) (by omega), hk (37 + j) (by omega) (by omega) (by omega) (by omega) (by omega), hk (57 + j) (by omega) (by omega) (by omega) (by omega) (by omega), hk (77 + j) (by omega) (by omega) (by omega) (by omega) (by omega), hk (97 + j) (by omega) (by omega) (by omega) (by omega) (by omega)]
          exact hC j (by omega)
theorem r_begins {N : Nat} (hN : 4000 ≤ N) {σ : Mm} {s W G : Nat} (hs : s < 2) (hW : W ≤ 7) (hG : G ≤ 12) (h18 : gI σ 160 18 = nI s) (h175 : gI σ 175 s = nI W) (h178 : gI σ 178 s = nI G) : Ok (f11_begins N σ) (fun _ τ => rwB σ τ s W G ∧ gI τ 160 57 = gI σ 185 s ∧ gI τ 160 58 = 0 ∧ gI τ 160 59 = 0) := by
  unfold f11_begins
  have k23 : ∀ (fu w : Nat) (υ : Mm), w ≤ W → W - w < fu → O9 σ υ → (∀ j, j < w → gI υ 199 j = gI σ 176 (7 * s + j) ∧ gI υ 199 (7 + j) = 1) → (gI υ 199 14 = 0 ∧ gI υ 199 16 = 0) → Ok (f11_begins_23 N fu (nI w) υ) (fun _ τ => rwB σ τ s W G ∧ gI τ 160 57 = gI σ 185 s ∧ gI τ 160 58 = 0 ∧ gI τ 160 59 = 0) := by
    intro fu
    induction fu with
    | zero => intro w υ _ h; omega
    | succ fu ih =>
      intro w υ hw hf hO hA hB
      have e18 : gI υ 160 18 = nI s := by rw [hO _ _ (by decide)]; exact h18
      have e175 : gI υ 175 s = nI W := by rw [hO _ _ (by decide)]; exact h175
      have e178 : gI υ 178 s = nI G := by rw [hO _ _ (by decide)]; exact h178
      rw [f11_begins_23, e18, ixn (i := s) (by omega), e175]
      refine Ok.c (inBn hs (by decide)) ?_
      by_cases c : w = W
      · subst c
        refine Ok.t nI_rf ?_
        rw [f11_begins_72, e18, ixn (i := s) (by omega), e178]
        refine Ok.c (inBn hs (by decide)) (Ok.c (by decide) ?_)
        rw [z_l_eq]
        refine r_b90 hs hW hG h18 h178 (g := 0) (by omega) (by omega) (hO.tr O9_w) (fun j hj => ?_) ⟨?_, gI_e, ?_⟩ (fun j hj => absurd hj (Nat.not_lt_zero _))
        · have e1 : ∀ k, k ≠ 15 → gI (sI υ 199 (ix 15) (nI G)) 199 k = gI υ 199 k := fun k hk => gI_k hk
          rw [e1 _ (by omega), e1 _ (by omega)]; exact hA j hj
        · exact (gI_k (k := 15) (by decide)).trans hB.1
        · exact (gI_k (k := 15) (by decide)).trans hB.2
      · refine Ok.f (nI_ngt (by omega) (by omega)) ?_
        have hx : (7 : Int32) * nI s + nI w = nI (7 * s + w) := by rw [show (7 : Int32) = nI 7 from rfl, pk_mul, nI_add]
        have x7 : (7 : Int32) + nI w = nI (7 + w) := nI_add 7 w
        rw [hx, x7, ixn (i := 7 * s + w) (by omega), ixn (i := w) (by omega), ixn (i := 7 + w) (by omega)]
        refine Ok.c (inBn (by omega) (by decide)) (Ok.c (inBn (by omega) (by decide)) ?_)
        rw [z_l_eq]
        refine Ok.c (inBn (by omega) (by decide)) ?_
        rw [z_l_eq, nI_1, z_l_eq]
        refine ih (w + 1) _ (by omega) (by omega) ((hO.tr O9_w).tr O9_w) (fun j hj => ?_) ⟨?_, ?_⟩
        · by_cases e : j = w
          · subst e; exact ⟨by rw [gI_k (by omega), gI_e, hO _ _ (by decide)], gI_e⟩
          · rw [gI_k (by omega), gI_k (by omega), gI_k (by omega), gI_k (by omega)]; exact hA j (by omega)
        · rw [gI_k (by omega), gI_k (by omega)]; exact hB.1
        · rw [gI_k (by omega), gI_k (by omega)]; exact hB.2
  have k2 : ∀ (fu i : Nat) (υ : Mm), i ≤ 117 → 117 - i < fu → O9 σ υ → (∀ j, j < i → gI υ 199 j = 0) → Ok (f11_begins_2 N fu (nI i) υ) (fun _ τ => rwB σ τ s W G ∧ gI τ 160 57 = gI σ 185 s ∧ gI τ 160 58 = 0 ∧ gI τ 160 59 = 0) := by
    intro fu
    induction fu with
    | zero => intro i υ _ h; omega
    | succ fu ih =>
      intro i υ hi hf hO hA
      rw [f11_begins_2]
      by_cases c : i = 117
      · subst c
        refine Ok.t (by decide) ?_
        rw [f11_begins_21]
        exact k23 N 0 υ (by omega) (by omega) hO (fun j hj => absurd hj (Nat.not_lt_zero _)) ⟨hA 14 (by decide), hA 16 (by decide)⟩
      · refine Ok.f (nI_ngt (n := 117) (by omega) (by decide)) (Ok.c (inBn (by omega) (by decide)) ?_)
        rw [z_l_eq, nI_1, z_l_eq, ixn (by omega)]
        refine ih (i + 1) _ (by omega) (by omega) (hO.tr O9_w) (fun j hj => ?_)
        by_cases e : j = i
        · subst e; exact gI_e
        · rw [gI_k e]; exact hA j (by omega)
  exact k2 N 0 σ (by omega) (by omega) (fun _ _ _ => rfl) (fun j hj => absurd hj (Nat.not_lt_zero _))
theorem r_keepsRow2 {N : Nat} (hN : 4000 ≤ N) {σ : Mm} : Ok (f11_keepsRow N σ) (fun _ τ => ∀ k, k < 117 → gI τ 198 k = gI σ 199 k) := by
  unfold f11_keepsRow
  have key : ∀ (fu i : Nat) (υ : Mm), i ≤ 117 → 117 - i < fu → (∀ k, gI υ 199 k = gI σ 199 k) → (∀ j, j < i → gI υ 198 j = gI σ 199 j) → Ok (f11_keepsRow_2 N fu (nI i) υ) (fun _ τ => ∀ k, k < 117 → gI τ 198 k = gI σ 199 k) := by
    intro fu
    induction fu with
    | zero => intro i υ _ h; omega
    | succ fu ih =>
      intro i υ hi hf hO hA
      rw [f11_keepsRow_2]
      by_cases c : i = 117
      · subst c
        exact Ok.t (by decide) (Ok.ret hA)
      · refine Ok.f (nI_ngt (n := 117) (by omega) (by decide)) (Ok.c (inBn (by omega) (by decide)) (Ok.c (inBn (by omega) (by decide)) ?_))
        rw [z_l_eq, nI_1, z_l_eq, ixn (by omega), hO]
        refine ih (i + 1) _ (by omega) (by omega) (fun k => by rw [gI_o (by decide)]; exact hO k) (fun j hj => ?_)
        by_cases e : j = i
        · subst e; exact gI_e
        · rw [gI_k e]; exact hA j (by omega)
  exact key N 0 σ (by omega) (by omega) (fun _ => rfl) (fun j hj => absurd hj (Nat.not_lt_zero _))
