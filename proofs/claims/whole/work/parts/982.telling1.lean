-- THE CLASS'S TELLING: names and numbers
def TS (σ : Mm) (B : Nat → Nat) (n o t : Nat) : Prop := (o = 7 ∨ o = 27) ∧ TB B n ∧ TxC σ B n ∧ vr B n t ∧ t ≤ 400 ∧ gR σ 49 1 = some o ∧ gI σ 49 2 = nI t ∧ gI σ 2 4 = 0 ∧ gI σ 2 5 = -1
def TFs (σ : Mm) (B : Nat → Nat) (n o : Nat) : PR Nat → Prop
  | .inl e => FC σ B n e ∧ 3 ≤ e.1 ∧ e.1 ≤ 5 ∧ gR σ 49 1 = some o ∧ (o = 7 ∨ o = 27)
  | .inr t => TS σ B n o t
/-- all but the text's fault and the telling's place -/
def kp (σ τ : Mm) : Prop := ∀ c k, c ≠ 2 → c ≠ 49 → gI τ c k = gI σ c k ∧ gL τ c k = gL σ c k ∧ gR τ c k = gR σ c k
theorem kp.rf {σ : Mm} : kp σ σ := fun _ _ _ _ => ⟨rfl, rfl, rfl⟩
theorem kp.tr {σ τ υ : Mm} (h : kp σ τ) (h2 : kp τ υ) : kp σ υ := fun c k a b => by
  obtain ⟨e1, e2, e3⟩ := h c k a b
  obtain ⟨f1, f2, f3⟩ := h2 c k a b
  exact ⟨f1.trans e1, f2.trans e2, f3.trans e3⟩
theorem kp.I {σ τ : Mm} (h : kp σ τ) {c k : Nat} (a : c ≠ 2) (b : c ≠ 49) : gI τ c k = gI σ c k := (h c k a b).1
theorem kp_sI {σ : Mm} {a k : Nat} {v : Int32} (h : a = 2 ∨ a = 49) : kp σ (sI σ a k v) := fun c j h1 h2 => ⟨gI_o (by omega), rfl, rfl⟩
theorem TS.row {σ : Mm} {B : Nat → Nat} {n o t : Nat} (h : TS σ B n o t) : gI σ 3 t = nI (kK B n t) ∧ gI σ 4 t = nI (bg B n t) ∧ (kK B n t = 2 → gL σ 5 t = lN (rf 32 (wW B n t))) ∧ (kK B n t = 3 → gL σ 5 t = lN (vV B n t)) := by
  obtain ⟨h1, h2, h3, h4, h5, -⟩ := h
  obtain ⟨r1, r2, r3, r4⟩ := h3 t h5 h4
  exact ⟨r1, r2, fun hk => r3 (tk_name h2 hk).1 (tk_name h2 hk).2.1 (by have : tkK B n (bg B n t) = 2 := hk; omega), r4⟩
theorem t_refuse {N : Nat} {σ : Mm} {B : Nat → Nat} {n o t j : Nat} (h : TS σ B n o t) (hj : j ≤ t) {k : Nat} : f9_refuse N (nI k) (nI j) σ = some (0, sI (sI σ 2 4 (nI k)) 2 5 (nI (bg B n j))) := by
  obtain ⟨h1, h2, h3, h4, h5, -⟩ := h
  have hr := (h3 j (by omega) (fun q hq => h4 q (by omega))).2.1
  unfold f9_refuse
  rw [z_l_eq, if_neg (nI_pos (by omega)), if_neg (show ¬ (401 : Int32) ≤ nI j from nI_ngt (n := 401) (by omega) (by decide)), zc_t (inBn (by omega) (by decide)), f9_refuse_29, z_l_eq, ixn (by omega), gI_o (by decide), hr]
theorem TS.next {σ : Mm} {B : Nat → Nat} {n o t : Nat} (h : TS σ B n o t) (ht : t < 400) (hk : 2 ≤ kK B n t) : TS (sI σ 49 2 (nI (t + 1))) B n o (t + 1) := by
  obtain ⟨h1, h2, h3, h4, h5, h6, h7, h8⟩ := h
  refine ⟨h1, h2, h3.congr (fun j => gI_o (by decide)) (fun j => gI_o (by decide)) (fun j => rfl), fun r hr => ?_, by omega, h6, gI_e, by rw [gI_o (by decide)]; exact h8.1, by rw [gI_o (by decide)]; exact h8.2⟩
  by_cases e : r = t
  · rw [e]
    have : kK B n t = tkK B n (bg B n t) := rfl
    omega
  · exact h4 r (by omega)
theorem lg_c {a b : Nat} (ha : a < 2 ^ 63) (hb : b < 2 ^ 63) : (lg_cmp (lN a) (lN b) < 0) = (a < b) ∧ (lg_cmp (lN a) (lN b) ≤ 0) = (a ≤ b) := by
  unfold lg_cmp
  by_cases c : b < a
  · rw [if_pos (show lN b < lN a by rw [pk_lLT hb ha]; exact c)]
    exact ⟨propext ⟨fun h => absurd h (by decide), fun h => by omega⟩, propext ⟨fun h => absurd h (by decide), fun h => by omega⟩⟩
  · rw [if_neg (show ¬ lN b < lN a by rw [pk_lLT hb ha]; exact c)]
    by_cases e : a = b
    · rw [if_pos (by rw [e])]
      exact ⟨propext ⟨fun h => absurd h (by decide), fun h => by omega⟩, propext ⟨fun h => by omega, fun h => by decide⟩⟩
    · rw [if_neg (by rw [pk_lEQ ha hb]; exact e)]
      exact ⟨propext ⟨fun h => by omega, fun h => by decide⟩, propext ⟨fun h => by omega, fun h => by decide⟩⟩
theorem c_num {N : Nat} {σ : Mm} {B : Nat → Nat} {n o lo hi : Nat} {s : PR Nat} (h : TFs σ B n o s) (hs : ∀ t, s = .inr t → t < 400 ∧ kK B n t = 3) (hlo : lo < 10000) (hhi : hi < 10000) : Ok (f8_takeNumber N (nI lo) (nI hi) σ) (fun r τ => TFs τ B n o (bP s fun t => bP (rng (vV B n t) lo hi t) fun _ => .inr (t + 1)) ∧ (∀ t v, s = .inr t → rng (vV B n t) lo hi t = .inr v → r = nI v) ∧ kp σ τ) := by
  cases s with
  | inl e =>
    obtain ⟨⟨h1, h1b⟩, h2, h3, h4⟩ := id h
    unfold f8_takeNumber
    rw [h1]
    refine Ok.f (fun e0 => ?_) (Ok.ret ⟨h, fun t v ht => (by cases ht), kp.rf⟩)
    have e0 : nI e.1 = nI 0 := e0
    rw [nI_eq (by omega) (by decide)] at e0
    omega
  | inr t =>
    have h : TS σ B n o t := h
    obtain ⟨ht, hk⟩ := hs t rfl
    obtain ⟨r1, r2, r3, r4⟩ := h.row
    have hB := h.2.1
    have hv := vV_lt hB hk
    have h49 : gI σ 49 2 = nI t := h.2.2.2.2.2.2.1
    have bad : ¬ (lo ≤ vV B n t ∧ vV B n t ≤ hi) → Ok (f8_takeNumber_48 N (nI lo) σ) (fun r τ => TFs τ B n o (bP (.inr t) fun t => bP (rng (vV B n t) lo hi t) fun _ => .inr (t + 1)) ∧ (∀ t' v, (.inr t : PR Nat) = .inr t' → rng (vV B n t') lo hi t' = .inr v → r = nI v) ∧ kp σ τ) := by
      intro hb
      rw [f8_takeNumber_48, h49, show (5 : Int32) = nI 5 from rfl, t_refuse h (Nat.le_refl _), z_b_some]
      refine Ok.ret ⟨?_, fun t' v e1 e2 => ?_, (kp_sI (Or.inl rfl)).tr (kp_sI (Or.inl rfl))⟩
      · show TFs _ B n o (bP (rng (vV B n t) lo hi t) fun _ => .inr (t + 1))
        unfold rng
        rw [if_neg hb]
        exact ⟨FC_ref, (show 3 ≤ 5 by decide), (show 5 ≤ 5 by decide), h.2.2.2.2.2.1, h.1⟩
      · cases e1
        unfold rng at e2
        rw [if_neg hb] at e2
        cases e2
    unfold f8_takeNumber
    rw [h.2.2.2.2.2.2.2.1, h49, c_vA (by omega), z_b_some, r4 hk, h49, nI_l (by omega), nI_l (by omega)]
    refine Ok.t rfl (Ok.t (nI_lt (b := 400) ht (by decide)) (Ok.i (fun c => ?_) (fun c => Ok.i (fun c2 => ?_) (fun c2 => ?_))))
    · rw [(lg_c (by omega) (by omega)).1] at c
      exact bad (by omega)
    · rw [(lg_c (by omega) (by omega)).1] at c
      rw [(lg_c (by omega) (by omega)).2] at c2
      rw [z_l_eq, nI_1, lN_i]
      refine Ok.ret ⟨?_, fun t' v e1 e2 => ?_, kp_sI (Or.inr rfl)⟩
      · show TFs _ B n o (bP (rng (vV B n t) lo hi t) fun _ => .inr (t + 1))
        unfold rng
        rw [if_pos ⟨by omega, c2⟩]
        exact h.next ht (by omega)
      · cases e1
        unfold rng at e2
        rw [if_pos ⟨by omega, c2⟩] at e2
        cases e2
        rfl
    · rw [(lg_c (by omega) (by omega)).2] at c2
      exact bad (by omega)
def NC (σ : Mm) (o : Nat) (l : Nms) : Prop := NmC σ o l ∧ gI σ o 16 = nI l.length ∧ l.length ≤ 20 ∧ okN l ∧ ndN l ∧ ∀ a ∈ l, a.2.1 ≤ 15 ∧ a.2.2 < 20
theorem NC.eq {σ τ : Mm} {o : Nat} {l : Nms} (ho : o = 7 ∨ o = 27) (h : NC σ o l) (e : ∀ c k, o ≤ c → c < o + 20 → ¬ (c < o + 16 ∧ k ≠ 16) → gI τ c k = gI σ c k ∧ gL τ c k = gL σ c k) : NC τ o l := by
  obtain ⟨h1, h2, h3⟩ := h
  exact ⟨h1.congr fun j hj => ⟨(e _ _ (by omega) (by omega) (by omega)).2, (e _ _ (by omega) (by omega) (by omega)).1, (e _ _ (by omega) (by omega) (by omega)).1⟩, by rw [(e _ _ (by omega) (by omega) (by omega)).1]; exact h2, h3⟩
theorem NC.kp {σ τ : Mm} {o : Nat} {l : Nms} (ho : o = 7 ∨ o = 27) (h : NC σ o l) (hk : kp σ τ) : NC τ o l := h.eq ho fun c k h1 h2 _ => by
  obtain ⟨a, b, -⟩ := hk c k (by omega) (by omega)
  exact ⟨a, b⟩
theorem c_known {N : Nat} (hN : 4000 ≤ N) {σ : Mm} {B : Nat → Nat} {n o : Nat} {l : Nms} {k : Nat} {s : PR Nat} (h : TFs σ B n o s) (hn : NC σ o l) (hs : ∀ t, s = .inr t → t < 400 ∧ kK B n t = 2) (hk : k < 16) : Ok (f8_takeKnown N (nI k) σ) (fun r τ => TFs τ B n o (bP s fun t => bP (knw l (wW B n t) k t) fun _ => .inr (t + 1)) ∧ (∀ t v, s = .inr t → knw l (wW B n t) k t = .inr v → r = nI v) ∧ kp σ τ) := by
  cases s with
  | inl e =>
    obtain ⟨⟨h1, h1b⟩, h2, h3, h4⟩ := id h
    unfold f8_takeKnown
    rw [h1]
    refine Ok.f (fun e0 => ?_) (Ok.ret ⟨h, fun t v ht => (by cases ht), kp.rf⟩)
    have e0 : nI e.1 = nI 0 := e0
    rw [nI_eq (by omega) (by decide)] at e0
    omega
  | inr t =>
    have h : TS σ B n o t := h
    obtain ⟨ht, hk2⟩ := hs t rfl
    obtain ⟨r1, r2, r3, r4⟩ := h.row
    have hB := h.2.1
    have h49 : gI σ 49 2 = nI t := h.2.2.2.2.2.2.1
    obtain ⟨n1, n2, n3, n4, n5, n6⟩ := hn
    have hnum := c_number hN n1 n2 n3 n4 n5 (fun a ha => by have := (n6 a ha).1; omega) (wW_ok hB hk2) (s := k) (t := t) (by omega)
    unfold f8_takeKnown
    rw [h.2.2.2.2.2.2.2.1, h49]
    refine Ok.t rfl (Ok.t (nI_lt (b := 400) ht (by decide)) (Ok.r h.2.2.2.2.2.1 (kd_land h.1) ?_))
    rw [c_vA (by omega), z_b_some, r3 hk2, hnum, z_b_some]
    cases hkn : knw l (wW B n t) k t with
    | inl e =>
      have he : e = (4, t) := by
        unfold knw at hkn
        split at hkn
        · split at hkn
          · cases hkn
          · cases hkn; rfl
        · cases hkn; rfl
      subst he
      refine Ok.t rfl ?_
      rw [h49, show (4 : Int32) = nI 4 from rfl, t_refuse h (Nat.le_refl _), z_b_some]
      refine Ok.ret ⟨?_, fun t' v e1 e2 => ?_, (kp_sI (Or.inl rfl)).tr (kp_sI (Or.inl rfl))⟩
      · show TFs _ B n o (bP (knw l (wW B n t) k t) fun _ => .inr (t + 1))
        rw [hkn]
        exact ⟨FC_ref, (show 3 ≤ 4 by decide), (show 4 ≤ 5 by decide), h.2.2.2.2.2.1, h.1⟩
      · cases e1
        rw [hkn] at e2
        cases e2
    | inr i =>
      have hi : i < 20 := by
        unfold knw at hkn
        cases hf : fnd l (wW B n t) with
        | none => rw [hf] at hkn; cases hkn
        | some a =>
          rw [hf] at hkn
          dsimp only at hkn
          split at hkn
          · cases hkn
            have : ∀ {l : Nms}, (∀ a ∈ l, a.2.1 ≤ 15 ∧ a.2.2 < 20) → fnd l (wW B n t) = some a → a.2 < 20 := by
              intro l
              induction l with
              | nil => intro _ h; cases h
              | cons b r ih =>
                intro hb h
                unfold fnd at h
                split at h
                · cases h; exact (hb b List.mem_cons_self).2
                · exact ih (fun a ha => hb a (List.mem_cons_of_mem _ ha)) h
            exact this n6 hf
          · cases hkn
      refine Ok.f (nI_ne1 (by omega)) ?_
      rw [h49, z_l_eq, nI_1]
      refine Ok.ret ⟨?_, fun t' v e1 e2 => ?_, kp_sI (Or.inr rfl)⟩
      · show TFs _ B n o (bP (knw l (wW B n t) k t) fun _ => .inr (t + 1))
        rw [hkn]
        exact h.next ht (by omega)
      · cases e1
        rw [hkn] at e2
        cases e2
        rfl
/-- a new name -/
theorem c_newN {N : Nat} (hN : 4000 ≤ N) {σ : Mm} {B : Nat → Nat} {n o t : Nat} {l : Nms} {s i : Nat} (h : TS σ B n o t) (hn : NC σ o l) (hl : l.length < 20) (ht : t < 400) (hk2 : kK B n t = 2) (hs : s ≤ 15) (hi : i < 20) : Ok (f8_takeNewName N (nI s) (nI i) σ) (fun r τ => (∀ c k, c ≠ 2 → c ≠ 49 → c ≠ o + 17 → c ≠ o + 18 → c ≠ o + 19 → ¬ (c = o ∧ k = 16) → gI τ c k = gI σ c k ∧ gL τ c k = gL σ c k ∧ gR τ c k = gR σ c k) ∧ match newN l (wW B n t) s i t with
    | .inl e => r = 0 ∧ FC τ B n e
    | .inr l' => r = 1 ∧ TS τ B n o (t + 1) ∧ NC τ o l') := by
  obtain ⟨r1, r2, r3, r4⟩ := h.row
  have hB := h.2.1
  have ho := h.1
  have h49 : gI σ 49 2 = nI t := h.2.2.2.2.2.2.1
  obtain ⟨n1, n2, n3, n4, n5, n6⟩ := id hn
  have hw := wW_ok hB hk2
  obtain ⟨r, e, hc⟩ := c_row hN n1 n2 n3 n4 hw
  unfold f8_takeNewName
  rw [h49]
  refine Ok.t (nI_lt (b := 400) ht (by decide)) (Ok.r h.2.2.2.2.2.1 (kd_land h.1) ?_)
  rw [c_vA (by omega), z_b_some, r3 hk2, e, z_b_some]
  rcases hc with ⟨rfl, hno⟩ | ⟨x, a, y, rfl, rfl, ha⟩
  · refine Ok.t rfl (Ok.r h.2.2.2.2.2.1 (kd_land h.1) ?_)
    rw [h49, c_vA (by omega), z_b_some, r3 hk2]
    have hadd : f3_addName N o (lN (rf 32 (wW B n t))) (nI s) (nI i) σ = some ((), sI (sI (sI (sL σ (o + 17) l.length (lN (rf 32 (wW B n t)))) (o + 18) l.length (nI s)) (o + 19) l.length (nI i)) o 16 (nI (l.length + 1))) := by
      unfold f3_addName
      rw [n2, if_neg (show ¬ (20 : Int32) ≤ nI l.length from nI_ngt (n := 20) hl (by decide)), zc_t (inBn hl (by decide)), z_l_eq, ixn (by omega)]
      have e1 : ∀ v, gI (sL σ (o + 17) l.length v) o 16 = nI l.length := fun v => n2
      rw [e1, zc_t (inBn hl (by decide)), z_l_eq, ixn (by omega), gI_o (show o ≠ o + 18 by omega), e1, zc_t (inBn hl (by decide)), z_l_eq, ixn (by omega), gI_o (show o ≠ o + 19 by omega), gI_o (show o ≠ o + 18 by omega), e1, z_l_eq, nI_1]
    rw [hadd, z_b_some]
    have hfn : newN l (wW B n t) s i t = .inr ((wW B n t, s, i) :: l) := by
      unfold newN
      rw [fnd_none hno]
    rw [hfn]
    have k49 : ∀ (τ : Mm), τ = sI (sI (sI (sL σ (o + 17) l.length (lN (rf 32 (wW B n t)))) (o + 18) l.length (nI s)) (o + 19) l.length (nI i)) o 16 (nI (l.length + 1)) → gI τ 49 2 = nI t := fun τ e => by
      rw [e, gI_o (by omega), gI_o (by omega), gI_o (by omega)]
      exact h49
    rw [k49 _ rfl, z_l_eq, nI_1]
    have keep : ∀ c k, c ≠ 2 → c ≠ 49 → c ≠ o + 17 → c ≠ o + 18 → c ≠ o + 19 → ¬ (c = o ∧ k = 16) → gI (sI (sI (sI (sL σ (o + 17) l.length (lN (rf 32 (wW B n t)))) (o + 18) l.length (nI s)) (o + 19) l.length (nI i)) o 16 (nI (l.length + 1))) c k = gI σ c k := fun c k _ _ _ h4 h5 h6 => by
      by_cases e : c = o
      · subst e
        rw [gI_k (by omega), gI_o (by omega), gI_o (by omega)]
        rfl
      · rw [gI_o e, gI_o h5, gI_o h4]
        rfl
    have keepL : ∀ c k, c ≠ o + 17 → gL (sI (sI (sI (sL σ (o + 17) l.length (lN (rf 32 (wW B n t)))) (o + 18) l.length (nI s)) (o + 19) l.length (nI i)) o 16 (nI (l.length + 1))) c k = gL σ c k := fun c k h1 => by
      show gL (sL σ (o + 17) l.length (lN (rf 32 (wW B n t)))) c k = gL σ c k
      unfold gL sL
      simp [h1]
    refine Ok.ret ⟨fun c k h1 h2 h3 h4 h5 h6 => ⟨by rw [gI_o h2]; exact keep c k h1 h2 h3 h4 h5 h6, keepL c k h3, rfl⟩, rfl, ?_, ?_⟩
    · have hT : TS (sI (sI (sI (sL σ (o + 17) l.length (lN (rf 32 (wW B n t)))) (o + 18) l.length (nI s)) (o + 19) l.length (nI i)) o 16 (nI (l.length + 1))) B n o t := by
        obtain ⟨h1, h2, h3, h4, h5, h6, h7, h8⟩ := h
        refine ⟨h1, h2, h3.congr (fun j => keep _ _ (by decide) (by decide) (by omega) (by omega) (by omega) (by omega)) (fun j => keep _ _ (by decide) (by decide) (by omega) (by omega) (by omega) (by omega)) (fun j => keepL _ _ (by omega)), h4, h5, h6, k49 _ rfl, ?_, ?_⟩
        · rw [gI_o (by omega), gI_o (by omega), gI_o (by omega)]
          exact h8.1
        · rw [gI_o (by omega), gI_o (by omega), gI_o (by omega)]
          exact h8.2
      exact hT.next ht (by omega)
    · refine ⟨⟨⟨?_, ?_, ?_⟩, n1.congr fun j hj => ⟨?_, ?_, ?_⟩⟩, ?_, ?_, ?_, ⟨fnd_none hno, n5⟩, ?_⟩
      · show gL (sL σ (o + 17) l.length _) (o + 17) l.length = _
        exact gL_e
      · rw [gI_o (by omega), gI_o (by omega), gI_o (by omega), gI_e]
      · rw [gI_o (by omega), gI_o (by omega), gI_e]
      · show gL (sL σ (o + 17) l.length _) (o + 17) j = _
        exact gL_k (by omega)
      · rw [gI_o (by omega), gI_o (by omega), gI_o (by omega), gI_k (by omega)]; rfl
      · rw [gI_o (by omega), gI_o (by omega), gI_k (by omega), gI_o (by omega)]; rfl
      · rw [gI_o (by omega), gI_e]; rfl
      · simp only [List.length_cons]; omega
      · intro a ha
        rcases List.mem_cons.mp ha with rfl | ha
        · exact hw
        · exact n4 a ha
      · intro a ha
        rcases List.mem_cons.mp ha with rfl | ha
        · exact ⟨hs, hi⟩
        · exact n6 a ha
  · have hlen : y.length < 20 := by simp at hl; omega
    have hfn : newN (x ++ a :: y) (wW B n t) s i t = .inl (3, t) := by
      unfold newN
      rw [fnd_mid ha n5]
    rw [hfn]
    refine Ok.f (nI_ne1 (by omega)) ?_
    rw [h49, show (3 : Int32) = nI 3 from rfl, t_refuse h (Nat.le_refl _), z_b_some, zc_t isZ_0]
    exact Ok.ret ⟨fun c k h1 h2 _ _ _ _ => ⟨by rw [gI_o h1, gI_o h1], rfl, rfl⟩, rfl, FC_ref⟩
