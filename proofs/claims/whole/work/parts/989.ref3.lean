-- THE REFERENCE'S TELLS: what is held; persons
def pM (σ : Mm) (s j : Nat) (a : Nat × Nat × Nat) : Prop := gI σ 172 (7 * s + j) = nI a.1 ∧ gI σ 173 (7 * s + j) = nI a.2.1 ∧ gI σ 174 (7 * s + j) = nI a.2.2
def wM (σ : Mm) (s j : Nat) (a : Nat × Nat) : Prop := gI σ 176 (7 * s + j) = nI a.1 ∧ gI σ 177 (7 * s + j) = nI a.2
def gM (σ : Mm) (s j : Nat) (a : Nat × Nat × Nat × Nat × Nat) : Prop := gI σ 179 (12 * s + j) = nI a.1 ∧ gI σ 180 (12 * s + j) = nI a.2.1 ∧ gI σ 181 (12 * s + j) = nI a.2.2.1 ∧ gI σ 182 (12 * s + j) = nI a.2.2.2.1 ∧ gI σ 183 (12 * s + j) = nI a.2.2.2.2
def LM (σ : Mm) (s : Nat) (d : LD) : Prop := (gI σ 184 s = nI d.2.1.2.1 ∧ gI σ 185 s = nI d.2.1.2.2) ∧ At (pM σ s) d.2.2.1 ∧ At (wM σ s) d.2.2.2.1 ∧ At (gM σ s) d.2.2.2.2 ∧ At (nF σ) d.1 ∧ okN d.1 ∧ ndN d.1
def RC (σ : Mm) (s : Nat) (c : Cn) : Prop := s < 2 ∧ gI σ 160 19 = nI s ∧ (gI σ 170 s = nI c.1 ∧ gI σ 171 s = nI c.2.1 ∧ gI σ 175 s = nI c.2.2.1 ∧ gI σ 178 s = nI c.2.2.2) ∧ gI σ 160 20 = nI (c.1 + c.2.1 + c.2.2.1) ∧ gI σ 160 12 = 0
def RD (σ : Mm) (B : Nat → Nat) (n s t : Nat) (c : Cn) (dd : PR LD) : Prop := RT σ B n t ∧ WSt σ B n t dd ∧ RC σ s c ∧ Cb c ∧ ∀ d, dd = .inr d → LM σ s d ∧ mt c d ∧ okD d
/-- the cells of a side -/
def oS (v c k : Nat) : Prop := ((c = 170 ∨ c = 171 ∨ c = 175 ∨ c = 178 ∨ c = 184 ∨ c = 185) ∧ k = v) ∨ ((c = 172 ∨ c = 173 ∨ c = 174 ∨ c = 176 ∨ c = 177) ∧ 7 * v ≤ k ∧ k < 7 * v + 7) ∨ ((179 ≤ c ∧ c ≤ 183) ∧ 12 * v ≤ k ∧ k < 12 * v + 12) ∨ ((c = 186 ∨ c = 187) ∧ 4 * v ≤ k ∧ k < 4 * v + 4) ∨ ((188 ≤ c ∧ c ≤ 192) ∧ 130 * v ≤ k ∧ k < 130 * v + 130) ∨ ((c = 193 ∨ c = 194) ∧ 420 * v ≤ k ∧ k < 420 * v + 420)
def kS (v : Nat) (σ τ : Mm) : Prop := ∀ c k, oS v c k → gI τ c k = gI σ c k
theorem kS.rf {v : Nat} {σ : Mm} : kS v σ σ := fun _ _ _ => rfl
theorem kS.tr {v : Nat} {σ τ υ : Mm} (h : kS v σ τ) (h2 : kS v τ υ) : kS v σ υ := fun c k ho => (h2 c k ho).trans (h c k ho)
theorem kS_same {v : Nat} {L : Wr} {σ τ : Mm} (h : Same L σ τ) (hd : offL L [(170, 25, none)] = true) : kS v σ τ := fun c k ho => (h.on hd).I (wIn_r 0 rfl (by unfold oS at ho; omega) (by unfold oS at ho; omega))
theorem kS_w {v : Nat} {σ : Mm} {c k : Nat} {x : Int32} (h : ¬ oS v c k) : kS v σ (sI σ c k x) := fun c' k' ho => by
  by_cases e : c' = c
  · subst e
    exact gI_k (fun e => h (by rw [← e]; exact ho))
  · exact gI_o e
def er {α : Type} : PR α → Option (Nat × Nat)
  | .inl e => some e
  | .inr _ => none
theorem WSt.cv {α β : Type} {σ : Mm} {B : Nat → Nat} {n b : Nat} {w : PR α} {w' : PR β} (h : WSt σ B n b w) (e : er w = er w') : WSt σ B n b w' := by
  cases w with
  | inl a =>
    cases w' with
    | inl a' => cases e; exact h
    | inr u => cases e
  | inr u =>
    cases w' with
    | inl a' => cases e
    | inr u' => exact h
def uu {α : Type} (m : PR α) : PR Unit := bP m fun _ => .inr ()
theorem er_uu {α : Type} {m : PR α} : er m = er (uu m) := by cases m <;> rfl
def nmOf : PR LD → Nms
  | .inl _ => []
  | .inr d => d.1
theorem RD.nm {σ : Mm} {B : Nat → Nat} {n s t : Nat} {c : Cn} {dd : PR LD} (h : RD σ B n s t c dd) : NM σ (uu dd) (c.1 + c.2.1 + c.2.2.1) (nmOf dd) := by
  obtain ⟨h1, h2, h3, h4, h5⟩ := h
  obtain ⟨b1, b2, b3, b4⟩ := h4
  refine ⟨h3.2.2.2.1, by omega, fun u hu => ?_⟩
  cases dd with
  | inl e => cases hu
  | inr d =>
    obtain ⟨l1, l2, l3⟩ := h5 d rfl
    refine ⟨l2.2.2.2.2.symm, l1.2.2.2.2.1, l1.2.2.2.2.2.1, l1.2.2.2.2.2.2, fun a ha => ?_⟩
    obtain ⟨m1, m2, m3, -, -⟩ := l2
    rcases l3.1 a ha with e | e | e
    · exact ⟨by omega, by omega, by omega⟩
    · exact ⟨by omega, by omega, by omega⟩
    · exact ⟨by omega, by omega, by omega⟩
theorem rmF_c {c most t : Nat} {u : Unit} (h : rmF c most t = .inr u) : c ≤ most := rm_ok h
theorem r_room {N : Nat} {σ : Mm} {B : Nat → Nat} {n t c most : Nat} (h : RT σ B n t) (hk : 2 ≤ kK B n t) (hc : c ≤ most) (hm : most < 100) : Ok (f11_roomFor N (nI c) (nI most) σ) (fun _ τ => RX τ B n (bP (rmF (c + 1) most t) fun _ => tk1 (kK B n) (kK B n t) t) ∧ Same wr11_roomFor σ τ) := by
  refine Ok.fr ?_ fun r τ e => fr11_roomFor N e
  unfold f11_roomFor rmF
  refine Ok.i (fun e => ?_) (fun e => ?_)
  · rw [nI_eq (by omega) (by omega)] at e
    rw [if_neg (by omega)]
    refine Ok.b (show Ok (f11_fail N 2 σ) _ from r_failN (k := 2) h (Or.inr rfl)) ?_
    rintro - τ hτ
    rw [f11_roomFor_10]
    exact Ok.f hτ.n0.1 (Ok.ret hτ)
  · rw [nI_eq (by omega) (by omega)] at e
    rw [if_pos (by omega), f11_roomFor_10]
    refine Ok.t h.2.2.2.2.2 (Ok.b (r_goN h hk) ?_)
    rintro - τ hτ
    exact Ok.ret hτ
/-- what stays while a tell is looked at -/
def D_RC : Wr := [(160, 1, some 19), (160, 1, some 12), (170, 25, none)]
def D_lw : Wr := [(186, 9, none), (160, 1, some 41), (160, 1, some 47)]
/-- what a tell that is no law leaves -/
def tM (σ : Mm) (B : Nat → Nat) (n s : Nat) (m : PR (Nat × Cn × Option (Nat × Lw))) (dd : PR LD) (τ : Mm) : Prop := (∀ v, v < 2 → v ≠ s → kS v σ τ) ∧ EqOn D_lw σ τ ∧ match m with
  | .inl e => FM τ B n e
  | .inr w => RD τ B n s w.1 w.2.1 dd
theorem er_new {dd : PR LD} {W : List Nat} {s i t : Nat} : er (bP (uu dd) fun _ => bP (newN (nmOf dd) W 0 0 t) fun _ => (.inr () : PR Unit)) = er (bP dd fun d => bP (newN d.1 W s i t) fun _ => (.inr () : PR Unit)) := by
  cases dd with
  | inl e => rfl
  | inr d =>
    show er (bP (newN d.1 W 0 0 t) fun _ => (.inr () : PR Unit)) = er (bP (newN d.1 W s i t) fun _ => (.inr () : PR Unit))
    unfold newN
    cases fnd d.1 W <;> rfl
theorem bP_assoc {α β γ : Type} {m : PR α} {f : α → PR β} {g : β → PR γ} : bP (bP m f) g = bP m fun a => bP (f a) g := by cases m <;> rfl
def D_RD : Wr := [(160, 1, some 15), (160, 1, some 16), (160, 1, some 20), (160, 1, some 19), (160, 1, some 12), (168, 2, none), (170, 16, none)]
theorem At_eq {α : Type} {F G : Nat → α → Prop} {l : List α} (h : At F l) (e : ∀ j a, F j a → G j a) : At G l := h.imp fun j a _ => e j a
theorem LM.eq {σ τ : Mm} {s : Nat} {d : LD} (h : LM σ s d) (e : ∀ c k, 170 ≤ c → c < 186 → gI τ c k = gI σ c k) (hn : At (nF τ) d.1) : LM τ s d := by
  obtain ⟨⟨q1, q2⟩, q3, q4, q5, -, q7⟩ := h
  refine ⟨⟨by rw [e _ _ (by decide) (by decide)]; exact q1, by rw [e _ _ (by decide) (by decide)]; exact q2⟩, At_eq q3 fun j a ha => ?_, At_eq q4 fun j a ha => ?_, At_eq q5 fun j a ha => ?_, hn, q7⟩
  · unfold pM at *
    rw [e _ _ (by decide) (by decide), e _ _ (by decide) (by decide), e _ _ (by decide) (by decide)]; exact ha
  · unfold wM at *
    rw [e _ _ (by decide) (by decide), e _ _ (by decide) (by decide)]; exact ha
  · unfold gM at *
    rw [e _ _ (by decide) (by decide), e _ _ (by decide) (by decide), e _ _ (by decide) (by decide), e _ _ (by decide) (by decide), e _ _ (by decide) (by decide)]; exact ha
theorem nF_eq {σ τ : Mm} {l : Nms} (h : At (nF σ) l) (e : EqOn [(168, 2, none)] σ τ) : At (nF τ) l := At_eq h fun j a ha => by
  unfold nF at *
  rw [(e 168 j (wIn_r 0 rfl (by decide) (by decide))).2.1, e.I (id := 169) (wIn_r 0 rfl (by decide) (by decide))]
  exact ha
theorem RC.eq {σ τ : Mm} {s : Nat} {c : Cn} (h : RC σ s c) (e : EqOn D_RD σ τ) : RC τ s c := by
  obtain ⟨s2, s19, ⟨sc1, sc2, sc3, sc4⟩, s20, s12⟩ := h
  have w : ∀ c k, 170 ≤ c → c < 186 → gI τ c k = gI σ c k := fun c k h1 h2 => e.I (wIn_r 6 rfl h1 h2)
  exact ⟨s2, by rw [e.I (wIn_s 3 rfl)]; exact s19, ⟨by rw [w _ _ (by decide) (by decide)]; exact sc1, by rw [w _ _ (by decide) (by decide)]; exact sc2, by rw [w _ _ (by decide) (by decide)]; exact sc3, by rw [w _ _ (by decide) (by decide)]; exact sc4⟩, by rw [e.I (wIn_s 2 rfl)]; exact s20, by rw [e.I (wIn_s 4 rfl)]; exact s12⟩
theorem RD.step {σ τ : Mm} {B : Nat → Nat} {n s t t' : Nat} {c : Cn} {dd : PR LD} (h : RD σ B n s t c dd) (e : EqOn D_RD σ τ) (hR : RT τ B n t') (ht : t ≤ t') : RD τ B n s t' c dd := by
  obtain ⟨-, hW, hC, hcb, hD⟩ := h
  have w : ∀ c k, 170 ≤ c → c < 186 → gI τ c k = gI σ c k := fun c k h1 h2 => e.I (wIn_r 6 rfl h1 h2)
  refine ⟨hR, hW.eq ht (e.sub (by decide)), hC.eq e, hcb, fun d hd => ?_⟩
  obtain ⟨a, b, c⟩ := hD d hd
  exact ⟨a.eq w (nF_eq a.2.2.2.2.1 (e.sub (by decide))), b, c⟩
theorem RD.rw {σ : Mm} {B : Nat → Nat} {n s t : Nat} {c : Cn} {dd : PR LD} (h : RD σ B n s t c dd) : RWt σ B n (.inr t) (uu dd) := ⟨h.1, fun t' ht' => by cases ht'; exact h.2.1.cv er_uu⟩
theorem tM.pre {σ τ υ : Mm} {B : Nat → Nat} {n s : Nat} {m : PR (Nat × Cn × Option (Nat × Lw))} {dd : PR LD} {L : Wr} (hS : Same L σ τ) (h1 : offL L [(170, 25, none)] = true) (h2 : offL L D_lw = true) (h : tM τ B n s m dd υ) : tM σ B n s m dd υ := ⟨fun v a b => (kS_same hS h1).tr (h.1 v a b), (hS.on h2).tr h.2.1, h.2.2⟩
/-- the names that stand while a name is looked for -/
theorem NM.w {σ : Mm} {w w' : PR Unit} {cnt : Nat} {l : Nms} (h : NM σ w cnt l) (e : ∀ u, w' = .inr u → w = .inr ()) : NM σ w' cnt l := ⟨h.1, h.2.1, fun u hu => h.2.2 () (e u hu)⟩
theorem RWt.eq {σ τ : Mm} {B : Nat → Nat} {n : Nat} {s : PR Nat} {w : PR Unit} (h : RWt σ B n s w) (e : EqOn (D_X ++ D_WS) σ τ) : RWt τ B n s w := ⟨h.1.eq (e.sub (by decide)), fun t ht => (h.2 t ht).eq (Nat.le_refl _) (e.sub (by decide))⟩
theorem r_bPerson {N : Nat} (hN : 4000 ≤ N) {σ : Mm} {B : Nat → Nat} {n s t : Nat} {c : Cn} {dd : PR LD} (h : RD σ B n s (t + 1) c dd) (hk : kK B n t = 13) (ht : tk1 (kK B n) 13 t = .inr (t + 1)) (hm0 : rmF (c.1 + 1) 6 t = .inr ()) : Ok (z_b (f11_named N σ) fun r_7 σ_8 => z_c (inB (gI σ_8 160 19) 2) (z_b (f11_ends N r_7 (gI σ_8 170 (ix (gI σ_8 160 19))) σ_8) fun _ σ_12 => if gI σ_12 160 13 = 0 then z_c (inB (gI σ_12 160 19) 2) (z_c (inB (gI σ_12 160 19) 2) (z_l (sI σ_12 170 (ix (gI σ_12 160 19)) (gI σ_12 170 (ix (gI σ_12 160 19)) + 1)) fun σ_17 => some ((), σ_17))) else some ((), σ_12))) (fun _ τ => tM σ B n s (gP13 (kK B n) c t) (bP dd fun d => sP13 (wW B n) d t) τ) := by
  have hnm := h.nm
  obtain ⟨hR, hW, hC, hcb, hD⟩ := id h
  obtain ⟨s2, s19, ⟨sc1, sc2, sc3, sc4⟩, s20, s12⟩ := id hC
  obtain ⟨b1, b2, b3, b4⟩ := id hcb
  have hcc : c.1 < 6 := by have := rmF_c hm0; omega
  have w170 : ∀ c k, 170 ≤ c → c < 195 → wIn D_RC c k := fun c k h1 h2 => wIn_r 2 rfl h1 h2
  refine Ok.b (r_named hN h.rw (t := t + 1) (fun t' e => by cases e; rfl) hnm) ?_
  rintro r2 τ2 ⟨hW2, hr2, hS2⟩
  have hC2 : EqOn D_RC σ τ2 := hS2.on (by decide)
  generalize hw2 : (bP (uu dd) fun _ => bP (newN (nmOf dd) (wW B n (t + 1)) 0 0 (t + 1)) fun _ => (.inr () : PR Unit)) = w2 at hW2
  have hn2 : NM τ2 w2 (c.1 + c.2.1 + c.2.2.1) (nmOf dd) := (hnm.eq (hS2.on (by decide))).w fun u hu => by
    rw [hu] at hw2
    obtain ⟨u', hu', -⟩ := bP_inr hw2
    exact hu'
  have e19 : gI τ2 160 19 = nI s := by rw [hC2.I (wIn_s 0 rfl)]; exact s19
  have e170 : gI τ2 170 s = nI c.1 := by rw [hC2.I (w170 _ _ (by decide) (by decide))]; exact sc1
  rw [e19, ixn (by omega), e170, show nI c.1 = nI (10 * (13 - 13) + c.1) by simp]
  refine Ok.c (inBn s2 (by decide)) ?_
  have st2 : ∀ t', bP (.inr (t + 1) : PR Nat) (tk1 (kK B n) 2) = .inr t' → t' = t + 2 ∧ kK B n (t + 1) = 2 := fun t' e => by
    obtain ⟨-, a, b, -⟩ := tk1_st (t := t + 1) (fun t' e => by cases e; rfl) e
    exact ⟨a, b⟩
  refine Ok.b (r_ends (srt := 13) (num := c.1) hW2 (t := t + 2) (j := t + 1) (fun t' e => ⟨(st2 t' e).1, hr2 rfl, (st2 t' e).2⟩) (by omega) hn2 (by omega)) ?_
  rintro - τ3 ⟨hW3, hN3, hS3⟩
  have hC3 := hC2.tr (hS3.on (D := D_RC) (by decide))
  have kS3 : ∀ v, kS v σ τ3 := fun v => (kS_same hS2 (by decide)).tr (kS_same hS3 (by decide))
  have kl3 : EqOn D_lw σ τ3 := (hS2.on (by decide)).tr (hS3.on (by decide))
  have hgp : gP13 (kK B n) c t = bP (bP (bP (.inr (t + 1)) (tk1 (kK B n) 2)) (tk1 (kK B n) 4)) fun t3 => .inr (t3, (c.1 + 1, c.2), none) := by
    unfold gP13
    rw [hm0, bP_assoc, bP_assoc]
    show bP (tk1 (kK B n) 13 t) _ = _
    rw [ht]
  have hfin := fun t3 (e : bP (bP (.inr (t + 1) : PR Nat) (tk1 (kK B n) 2)) (tk1 (kK B n) 4) = .inr t3) => tk1_st (t := t + 2) (fun t' e => (st2 t' e).1) e
  generalize hS : bP (bP (.inr (t + 1) : PR Nat) (tk1 (kK B n) 2)) (tk1 (kK B n) 4) = S3 at hW3 hN3 hgp hfin
  rw [hgp]
  cases S3 with
  | inl e =>
    have hF : FM τ3 B n e := hW3.1
    exact Ok.f hF.n0.1 (Ok.ret ⟨fun v _ _ => kS3 v, kl3, hF⟩)
  | inr t3 =>
    obtain ⟨f1, rfl, f3, f4⟩ := hfin t3 rfl
    have hkk2 := (st2 _ f1).2
    obtain ⟨h20, hnn⟩ := hN3 _ rfl
    have hR3 : RT τ3 B n (t + 2 + 1) := hW3.1
    have hW3' := hW3.2 _ rfl
    have f19 : gI τ3 160 19 = nI s := by rw [hC3.I (wIn_s 0 rfl)]; exact s19
    have f170 : gI τ3 170 s = nI c.1 := by rw [hC3.I (w170 _ _ (by decide) (by decide))]; exact sc1
    have hc := fun c k h1 h2 => hC3.I (w170 c k h1 h2)
    refine Ok.t hR3.2.2.2.2.2 ?_
    rw [f19, ixn (by omega), f170, nI_1]
    refine Ok.c (inBn s2 (by decide)) (Ok.c (inBn s2 (by decide)) ?_)
    rw [z_l_eq]
    have hE : er w2 = er (bP dd fun d => sP13 (wW B n) d t) := by
      rw [← hw2, er_new (s := 13) (i := 0)]
      cases dd with
      | inl e => rfl
      | inr d =>
        show er (bP (newN d.1 (wW B n (t + 1)) 13 0 (t + 1)) fun _ => (.inr () : PR Unit)) = er (bP (newN d.1 (wW B n (t + 1)) 13 d.2.1.1 (t + 1)) fun nm => _)
        unfold newN
        cases fnd d.1 (wW B n (t + 1)) <;> rfl
    refine Ok.ret ⟨fun v _ hv => (kS3 v).tr (kS_w (by unfold oS; omega)), kl3.tr (EqOn_sIa EqOn.rf (by decide)), ?_, ?_, ?_, ?_, ?_⟩
    · exact RX.eq (s := .inr (t + 2 + 1)) hR3 (EqOn_sIa EqOn.rf (by decide))
    · exact (hW3'.cv hE).eq (Nat.le_refl _) (EqOn_sIa EqOn.rf (by decide))
    · refine ⟨s2, by rw [gI_o (by decide)]; exact f19, ⟨gI_e, by rw [gI_o (by decide), hc _ _ (by decide) (by decide)]; exact sc2, by rw [gI_o (by decide), hc _ _ (by decide) (by decide)]; exact sc3, by rw [gI_o (by decide), hc _ _ (by decide) (by decide)]; exact sc4⟩, ?_, by rw [gI_o (by decide), hC3.I (wIn_s 1 rfl)]; exact s12⟩
      rw [gI_o (by decide), h20]
      show nI (c.1 + c.2.1 + c.2.2.1 + 1) = nI (c.1 + 1 + c.2.1 + c.2.2.1)
      congr 1
      omega
    · exact ⟨hcc, b2, b3, b4⟩
    · intro d' hd'
      obtain ⟨d, hd, hs⟩ := bP_inr hd'
      obtain ⟨l', hl', hs2⟩ := bP_inr hs
      obtain ⟨hf, rfl⟩ := newN_ok hl'
      obtain ⟨⟨⟨q1, q2⟩, q3, q4, q5, q6, q7, q8⟩, q9, q10⟩ := hD d hd
      have hg : gTell (kK B n) (vV B n) c t = .inr (t + 2 + 1, (c.1 + 1, c.2), none) := by
        unfold gTell
        rw [if_pos hk, hgp]
        rfl
      have hst : sTell (kK B n) (vV B n) (wW B n) d t = .inr d' := by
        unfold sTell
        rw [if_pos hk]
        exact hs
      obtain ⟨z1, z2⟩ := sTell_ok q9 q10 hg hst
      refine ⟨?_, z1, z2⟩
      cases hs2
      have hwu : w2 = .inr () := by
        rw [← hw2]
        subst hd
        show (bP (newN d.1 (wW B n (t + 1)) 0 0 (t + 1)) fun _ => (.inr () : PR Unit)) = .inr ()
        unfold newN
        rw [hf]
        rfl
      have hnn := hnn () hwu
      rw [show nmOf dd = d.1 by rw [hd]; rfl] at hnn
      refine ⟨⟨by rw [gI_o (by decide), hc _ _ (by decide) (by decide)]; exact q1, by rw [gI_o (by decide), hc _ _ (by decide) (by decide)]; exact q2⟩, q3.imp fun j a _ ha => ?_, q4.imp fun j a _ ha => ?_, q5.imp fun j a _ ha => ?_, ?_, ?_, ⟨hf, q8⟩⟩
      · unfold pM at *
        rw [gI_o (by decide), gI_o (by decide), gI_o (by decide), hc _ _ (by decide) (by decide), hc _ _ (by decide) (by decide), hc _ _ (by decide) (by decide)]; exact ha
      · unfold wM at *
        rw [gI_o (by decide), gI_o (by decide), hc _ _ (by decide) (by decide), hc _ _ (by decide) (by decide)]; exact ha
      · unfold gM at *
        rw [gI_o (by decide), gI_o (by decide), gI_o (by decide), gI_o (by decide), gI_o (by decide), hc _ _ (by decide) (by decide), hc _ _ (by decide) (by decide), hc _ _ (by decide) (by decide), hc _ _ (by decide) (by decide), hc _ _ (by decide) (by decide)]; exact ha
      · rw [q9.1]
        exact hnn.imp fun j a _ ha => ⟨ha.1, by rw [gI_o (by decide)]; exact ha.2⟩
      · intro a ha
        rcases List.mem_cons.mp ha with rfl | ha
        · exact wW_ok hR.1 hkk2
        · exact q7 a ha
