-- THE GRAMMAR: one tell, and all of them, as the class looks at them
abbrev Cn : Type := Nat × Nat × Nat × Nat
abbrev LwT : Type := Nat → Option Lw
def rmF (c most t : Nat) : PR Unit := if c ≤ most then .inr () else .inl (2, t)
def nms (K : Nat → Nat) : Nat → Nat → PR Nat
  | 0, t => .inr t
  | f + 1, t => if K t = 2 then bP (tk1 K 2 t) (nms K f) else .inr t
def gP13 (K : Nat → Nat) (c : Cn) (t : Nat) : PR (Nat × Cn × Option (Nat × Lw)) := bP (rmF (c.1 + 1) 6 t) fun _ => bP (tk1 K 13 t) fun t1 => bP (tk1 K 2 t1) fun t2 => bP (tk1 K 4 t2) fun t3 => .inr (t3, (c.1 + 1, c.2), none)
def gP14 (K : Nat → Nat) (c : Cn) (t : Nat) : PR (Nat × Cn × Option (Nat × Lw)) := bP (rmF (c.2.1 + 1) 7 t) fun _ => bP (tk1 K 14 t) fun t1 => bP (tk1 K 2 t1) fun t2 => bP (tk1 K 3 t2) fun t3 => bP (tk1 K 3 t3) fun t4 => bP (tk1 K 2 t4) fun t5 => bP (tk1 K 4 t5) fun t6 => .inr (t6, (c.1, c.2.1 + 1, c.2.2), none)
def gP15 (K : Nat → Nat) (c : Cn) (t : Nat) : PR (Nat × Cn × Option (Nat × Lw)) := bP (rmF (c.2.2.1 + 1) 7 t) fun _ => bP (tk1 K 15 t) fun t1 => bP (tk1 K 2 t1) fun t2 => bP (tk1 K 3 t2) fun t3 => bP (tk1 K 3 t3) fun t4 => bP (tk1 K 4 t4) fun t5 => .inr (t5, (c.1, c.2.1, c.2.2.1 + 1, c.2.2.2), none)
def gP16 (K : Nat → Nat) (c : Cn) (t : Nat) : PR (Nat × Cn × Option (Nat × Lw)) := bP (rmF (c.2.2.2 + 1) 12 t) fun _ => bP (tk1 K 16 t) fun t1 => bP (tk1 K 2 t1) fun t2 => bP (tk1 K 2 t2) fun t3 => bP (tk1 K 2 t3) fun t4 => bP (tk1 K 3 t4) fun t5 => bP (nms K 401 t5) fun t6 => bP (tk1 K 4 t6) fun t7 => .inr (t7, (c.1, c.2.1, c.2.2.1, c.2.2.2 + 1), none)
def gPi (K : Nat → Nat) (c : Cn) (k t : Nat) : PR (Nat × Cn × Option (Nat × Lw)) := bP (tk1 K k t) fun t1 => bP (tk1 K 3 t1) fun t2 => bP (tk1 K 4 t2) fun t3 => .inr (t3, c, none)
def gPl (K V : Nat → Nat) (c : Cn) (k t : Nat) : PR (Nat × Cn × Option (Nat × Lw)) := bP (lawG K V k t) fun w => .inr (w.1, c, some (k - 17, w.2))
def gTell (K V : Nat → Nat) (c : Cn) (t : Nat) : PR (Nat × Cn × Option (Nat × Lw)) :=
  if K t = 13 then gP13 K c t else if K t = 14 then gP14 K c t else if K t = 15 then gP15 K c t else if K t = 16 then gP16 K c t else if 17 ≤ K t ∧ K t ≤ 20 then gPl K V c (K t) t else if K t = 21 ∨ K t = 22 then gPi K c (K t) t else .inl (1, t)
def upL (lw : LwT) : Option (Nat × Lw) → LwT
  | none => lw
  | some (k, w) => fun j => if j = k then some w else lw j
def gAll (K V : Nat → Nat) : Nat → Nat → Cn → LwT → PR (Cn × LwT)
  | 0, _, c, lw => .inr (c, lw)
  | f + 1, t, c, lw => if K t = 0 then .inr (c, lw) else bP (gTell K V c t) fun w => gAll K V f w.1 w.2.1 (upL lw w.2.2)
def D_47 : Wr := [(47, 1, some 3), (47, 1, some 4), (47, 1, some 5), (47, 1, some 6)]
def D_cn : Wr := [(22, 1, none), (42, 1, none)] ++ D_47
def Cnt (σ : Mm) (c : Cn) : Prop := gI σ 47 3 = nI c.1 ∧ gI σ 47 4 = nI c.2.1 ∧ gI σ 47 5 = nI c.2.2.1 ∧ gI σ 47 6 = nI c.2.2.2
theorem Cnt.eq {σ τ : Mm} {c : Cn} (h : EqOn D_47 σ τ) (hc : Cnt σ c) : Cnt τ c := by
  obtain ⟨h1, h2, h3, h4⟩ := hc
  exact ⟨by rw [h.I (wIn_s 0 rfl)]; exact h1, by rw [h.I (wIn_s 1 rfl)]; exact h2, by rw [h.I (wIn_s 2 rfl)]; exact h3, by rw [h.I (wIn_s 3 rfl)]; exact h4⟩
theorem Ok.frP {α : Type} {D D2 L : Wr} {σ : Mm} {B : Nat → Nat} {n : Nat} {m : PR α} {P : α → Mm → Prop} {x : Option (Int32 × Mm)} (h : Ok x (PO D σ B n m P)) (hf : ∀ r τ, x = some (r, τ) → Same L σ τ) (hd : offL L D2 = true) : Ok x (PO D σ B n m (fun a τ => P a τ ∧ EqOn D2 σ τ)) := by
  refine h.run.mono ?_
  rintro r τ ⟨⟨hE, hm⟩, he⟩
  refine ⟨hE, ?_⟩
  cases m with
  | inl e => exact hm
  | inr a => exact ⟨hm.1, hm.2, (hf r τ he).on hd⟩
theorem c_takeC {N : Nat} {σ0 σ : Mm} {B : Nat → Nat} {n q t : Nat} {l : Cd} {stk : List Nat} {dp : Nat} (h : GS σ B n q t l stk dp) (hE : EqOn D_cn σ0 σ) {k : Nat} (hk : k < 2 ^ 31) (hk2 : 2 ≤ k) {D : Wr} (hD : keptG D q) : Ok (f2_take N (nI k) σ) (PO D σ B n (tk1 (kK B n) k t) (fun t' τ => GS τ B n q t' l stk dp ∧ t' = t + 1 ∧ EqOn D_cn σ0 τ)) := by
  refine ((c_takeP h hk hk2 hD).frP (D2 := D_cn) (fun r τ e => fr2_take N e) rfl).mono fun r τ hp => hp.mono ?_
  rintro a - - ⟨⟨h1, h2, -⟩, h3⟩
  exact ⟨h1, h2, hE.tr h3⟩
theorem c_names {N : Nat} (hN : 4000 ≤ N) {σ0 : Mm} {B : Nat → Nat} {n q : Nat} {l : Cd} {stk : List Nat} {dp : Nat} {D : Wr} (hD : keptG D q) : ∀ {f t x fu : Nat} {σ : Mm}, 401 ≤ t + f → x + f = 401 → f < fu → GS σ B n q t l stk dp → EqOn D_cn σ0 σ → Ok (f2_takeNames_2 N fu (nI x) σ) (PO D σ B n (nms (kK B n) f t) (fun t' τ => GS τ B n q t' l stk dp ∧ t ≤ t' ∧ EqOn D_cn σ0 τ))
  | 0, t, x, fu, σ, hf, _, _, h, _ => absurd h.2.2.2.2.1 (by omega)
  | f + 1, t, x, 0, σ, _, _, h, _, _ => absurd h (Nat.not_lt_zero _)
  | f + 1, t, x, fu + 1, σ, hf, hx, hfu, h, hE => by
    have ht := h.2.2.2.2.1
    have hkl := tkK_lt (B := B) (n := n) (b := bg B n t)
    have hkk : kK B n t = tkK B n (bg B n t) := rfl
    have g7 : gI σ 47 2 = nI t := h.2.2.2.2.2.2.1
    rw [f2_takeNames_2, g7, c_kA (by omega), z_b_some, h.k.1, nms]
    refine Ok.f (nI_nlt (a := 400) (by omega) (by decide)) (Ok.i (fun c => ?_) (fun c => ?_))
    · have c : nI (kK B n t) = nI 2 := c
      rw [nI_eq (by omega) (by decide)] at c
      rw [if_pos c]
      refine Ok.pr (c_takeC h hE (k := 2) (by decide) (by decide) hD) ?_
      rintro t1 τ ⟨a1, a2, a3⟩ -
      rw [z_l_eq, nI_1]
      refine (c_names hN hD (f := f) (t := t1) (x := x + 1) (fu := fu) (by omega) (by omega) (by omega) a1 a3).mono fun r υ hp => hp.mono ?_
      rintro a - - ⟨b1, b2, b3⟩
      exact ⟨b1, by omega, b3⟩
    · have c : ¬ nI (kK B n t) = nI 2 := c
      rw [nI_eq (by omega) (by decide)] at c
      rw [if_neg c]
      exact Ok.ret ⟨EqOn.rf, rfl, h, Nat.le_refl _, hE⟩
theorem GS.w47 {σ : Mm} {B : Nat → Nat} {n q t : Nat} {l : Cd} {stk : List Nat} {dp : Nat} (h : GS σ B n q t l stk dp) {D : Wr} (hD : keptG D q) {j : Nat} (h2 : 2 ≠ j) (h8 : 8 ≠ j) (h9 : 9 ≠ j) (v : Int32) : GS (sI σ 47 j v) B n q t l stk dp ∧ EqOn D σ (sI σ 47 j v) := by
  obtain ⟨g1, g2, g3, g4, g5, g6, g7, g8, g9, g10, g11, g12⟩ := id h
  exact ⟨⟨g1, g2, g3.congr (fun j => gI_o (by decide)) (fun j => gI_o (by decide)) (fun j => rfl), g4, g5, g6, by rw [gI_k h2]; exact g7, by rw [gI_o (by omega)]; exact g8, g9.congr fun j hj => ⟨gI_o (by omega), gI_o (by omega)⟩, by rw [gI_k h8]; exact g10, g11.congr fun j hj => gI_o (by decide), by rw [gI_k h9]; exact g12.1, by rw [gI_o (by decide)]; exact g12.2.1, by rw [gI_o (by decide)]; exact g12.2.2⟩, EqOn_sIa EqOn.rf (off1 hD (by simp))⟩
theorem c_room {N : Nat} {σ : Mm} {B : Nat → Nat} {n q t : Nat} {l : Cd} {stk : List Nat} {dp : Nat} (h : GS σ B n q t l stk dp) {D : Wr} (hD : keptG D q) {c most : Nat} (hc : c < 2 ^ 31) (hm : most < 2 ^ 31) : Ok (f2_hasRoom N (nI c) (nI most) σ) (PO D σ B n (rmF c most t) (fun _ τ => τ = σ)) := by
  unfold f2_hasRoom rmF
  by_cases c1 : c ≤ most
  · rw [if_pos c1, if_pos (nI_le c1 hm)]
    exact Ok.ret ⟨EqOn.rf, rfl, rfl⟩
  · rw [if_neg c1, if_neg (nI_ge (by omega) hc), h.2.2.2.2.2.2.1, show (2 : Int32) = nI 2 from rfl, c_refuse h, z_b_some]
    exact Ok.t rfl (Ok.ret ⟨EqOn_sI (EqOn_sI EqOn.rf (off1 hD (by simp))) (off1 hD (by simp)), rfl, FC_ref⟩)
/-- what a tell that is no law leaves -/
def tP (σ : Mm) (B : Nat → Nat) (n q t : Nat) (l : Cd) (stk : List Nat) (dp : Nat) (w : Nat × Cn × Option (Nat × Lw)) (τ : Mm) : Prop := GS τ B n q w.1 l stk dp ∧ Cnt τ w.2.1 ∧ EqOn [(22, 1, none), (42, 1, none)] σ τ ∧ t < w.1 ∧ w.2.2 = none
theorem D_cn1 {σ τ : Mm} (h : EqOn D_cn σ τ) : EqOn D_47 σ τ ∧ EqOn [(22, 1, none), (42, 1, none)] σ τ := ⟨h.sub (by decide), h.sub (by decide)⟩
theorem c_t13 {N : Nat} (hN : 4000 ≤ N) {σ : Mm} {B : Nat → Nat} {n q t : Nat} {l : Cd} {stk : List Nat} {dp : Nat} (h : GS σ B n q t l stk dp) {D : Wr} (hD : keptG D q) {c : Cn} (hc : Cnt σ c) (hb : c.1 ≤ 400) : Ok (f2_keepsTell N (nI 13) σ) (PO D σ B n (gP13 (kK B n) c t) (tP σ B n q t l stk dp)) := by
  obtain ⟨w1, w2⟩ := h.w47 hD (j := 3) (by decide) (by decide) (by decide) (nI (c.1 + 1))
  have hk : EqOn [(22, 1, none), (42, 1, none)] σ (sI σ 47 3 (nI (c.1 + 1))) := EqOn_sI EqOn.rf (by decide)
  have hcn : Cnt (sI σ 47 3 (nI (c.1 + 1))) (c.1 + 1, c.2) := ⟨gI_e, by rw [gI_k (by decide)]; exact hc.2.1, by rw [gI_k (by decide)]; exact hc.2.2.1, by rw [gI_k (by decide)]; exact hc.2.2.2⟩
  unfold f2_keepsTell gP13
  refine Ok.t rfl ?_
  rw [hc.1, nI_1, z_l_eq, gI_e]
  refine Ok.mono ?_ fun r υ hp => PO.tr w2 hp
  refine Ok.pr (c_room w1 hD (most := 6) (by omega) (by decide)) ?_
  rintro - _ rfl -
  refine Ok.pr (c_takeC w1 EqOn.rf (k := 13) (by decide) (by decide) hD) ?_
  rintro t1 τ1 ⟨a1, b1, e1⟩ -
  refine Ok.pr (c_takeC a1 e1 (k := 2) (by decide) (by decide) hD) ?_
  rintro t2 τ2 ⟨a2, b2, e2⟩ -
  refine Ok.pr (c_takeC a2 e2 (k := 4) (by decide) (by decide) hD) ?_
  rintro t3 τ3 ⟨a3, b3, e3⟩ -
  exact Ok.ret ⟨EqOn.rf, rfl, a3, hcn.eq (D_cn1 e3).1, hk.tr (D_cn1 e3).2, by show t < t3; omega, rfl⟩
theorem c_t14 {N : Nat} (hN : 4000 ≤ N) {σ : Mm} {B : Nat → Nat} {n q t : Nat} {l : Cd} {stk : List Nat} {dp : Nat} (h : GS σ B n q t l stk dp) {D : Wr} (hD : keptG D q) {c : Cn} (hc : Cnt σ c) (hb : c.2.1 ≤ 400) : Ok (f2_keepsTell N (nI 14) σ) (PO D σ B n (gP14 (kK B n) c t) (tP σ B n q t l stk dp)) := by
  obtain ⟨w1, w2⟩ := h.w47 hD (j := 4) (by decide) (by decide) (by decide) (nI (c.2.1 + 1))
  have hk : EqOn [(22, 1, none), (42, 1, none)] σ (sI σ 47 4 (nI (c.2.1 + 1))) := EqOn_sI EqOn.rf (by decide)
  have hcn : Cnt (sI σ 47 4 (nI (c.2.1 + 1))) (c.1, c.2.1 + 1, c.2.2) := ⟨by rw [gI_k (by decide)]; exact hc.1, gI_e, by rw [gI_k (by decide)]; exact hc.2.2.1, by rw [gI_k (by decide)]; exact hc.2.2.2⟩
  unfold f2_keepsTell gP14
  refine Ok.f (by decide) (Ok.t rfl ?_)
  rw [hc.2.1, nI_1, z_l_eq, gI_e]
  refine Ok.mono ?_ fun r υ hp => PO.tr w2 hp
  refine Ok.pr (c_room w1 hD (most := 7) (by omega) (by decide)) ?_
  rintro - _ rfl -
  refine Ok.pr (c_takeC w1 EqOn.rf (k := 14) (by decide) (by decide) hD) ?_
  rintro t1 τ1 ⟨a1, b1, e1⟩ -
  refine Ok.pr (c_takeC a1 e1 (k := 2) (by decide) (by decide) hD) ?_
  rintro t2 τ2 ⟨a2, b2, e2⟩ -
  refine Ok.pr (c_takeC a2 e2 (k := 3) (by decide) (by decide) hD) ?_
  rintro t3 τ3 ⟨a3, b3, e3⟩ -
  refine Ok.pr (c_takeC a3 e3 (k := 3) (by decide) (by decide) hD) ?_
  rintro t4 τ4 ⟨a4, b4, e4⟩ -
  refine Ok.pr (c_takeC a4 e4 (k := 2) (by decide) (by decide) hD) ?_
  rintro t5 τ5 ⟨a5, b5, e5⟩ -
  refine Ok.pr (c_takeC a5 e5 (k := 4) (by decide) (by decide) hD) ?_
  rintro t6 τ6 ⟨a6, b6, e6⟩ -
  exact Ok.ret ⟨EqOn.rf, rfl, a6, hcn.eq (D_cn1 e6).1, hk.tr (D_cn1 e6).2, by show t < t6; omega, rfl⟩
theorem c_t15 {N : Nat} (hN : 4000 ≤ N) {σ : Mm} {B : Nat → Nat} {n q t : Nat} {l : Cd} {stk : List Nat} {dp : Nat} (h : GS σ B n q t l stk dp) {D : Wr} (hD : keptG D q) {c : Cn} (hc : Cnt σ c) (hb : c.2.2.1 ≤ 400) : Ok (f2_keepsTell N (nI 15) σ) (PO D σ B n (gP15 (kK B n) c t) (tP σ B n q t l stk dp)) := by
  obtain ⟨w1, w2⟩ := h.w47 hD (j := 5) (by decide) (by decide) (by decide) (nI (c.2.2.1 + 1))
  have hk : EqOn [(22, 1, none), (42, 1, none)] σ (sI σ 47 5 (nI (c.2.2.1 + 1))) := EqOn_sI EqOn.rf (by decide)
  have hcn : Cnt (sI σ 47 5 (nI (c.2.2.1 + 1))) (c.1, c.2.1, c.2.2.1 + 1, c.2.2.2) := ⟨by rw [gI_k (by decide)]; exact hc.1, by rw [gI_k (by decide)]; exact hc.2.1, gI_e, by rw [gI_k (by decide)]; exact hc.2.2.2⟩
  unfold f2_keepsTell gP15
  refine Ok.f (by decide) (Ok.f (by decide) (Ok.t rfl ?_))
  rw [hc.2.2.1, nI_1, z_l_eq, gI_e]
  refine Ok.mono ?_ fun r υ hp => PO.tr w2 hp
  refine Ok.pr (c_room w1 hD (most := 7) (by omega) (by decide)) ?_
  rintro - _ rfl -
  refine Ok.pr (c_takeC w1 EqOn.rf (k := 15) (by decide) (by decide) hD) ?_
  rintro t1 τ1 ⟨a1, b1, e1⟩ -
  refine Ok.pr (c_takeC a1 e1 (k := 2) (by decide) (by decide) hD) ?_
  rintro t2 τ2 ⟨a2, b2, e2⟩ -
  refine Ok.pr (c_takeC a2 e2 (k := 3) (by decide) (by decide) hD) ?_
  rintro t3 τ3 ⟨a3, b3, e3⟩ -
  refine Ok.pr (c_takeC a3 e3 (k := 3) (by decide) (by decide) hD) ?_
  rintro t4 τ4 ⟨a4, b4, e4⟩ -
  refine Ok.pr (c_takeC a4 e4 (k := 4) (by decide) (by decide) hD) ?_
  rintro t5 τ5 ⟨a5, b5, e5⟩ -
  exact Ok.ret ⟨EqOn.rf, rfl, a5, hcn.eq (D_cn1 e5).1, hk.tr (D_cn1 e5).2, by show t < t5; omega, rfl⟩
theorem c_t16 {N : Nat} (hN : 4000 ≤ N) {σ : Mm} {B : Nat → Nat} {n q t : Nat} {l : Cd} {stk : List Nat} {dp : Nat} (h : GS σ B n q t l stk dp) {D : Wr} (hD : keptG D q) {c : Cn} (hc : Cnt σ c) (hb : c.2.2.2 ≤ 400) : Ok (f2_keepsTell N (nI 16) σ) (PO D σ B n (gP16 (kK B n) c t) (tP σ B n q t l stk dp)) := by
  obtain ⟨w1, w2⟩ := h.w47 hD (j := 6) (by decide) (by decide) (by decide) (nI (c.2.2.2 + 1))
  have hk : EqOn [(22, 1, none), (42, 1, none)] σ (sI σ 47 6 (nI (c.2.2.2 + 1))) := EqOn_sI EqOn.rf (by decide)
  have hcn : Cnt (sI σ 47 6 (nI (c.2.2.2 + 1))) (c.1, c.2.1, c.2.2.1, c.2.2.2 + 1) := ⟨by rw [gI_k (by decide)]; exact hc.1, by rw [gI_k (by decide)]; exact hc.2.1, by rw [gI_k (by decide)]; exact hc.2.2.1, gI_e⟩
  unfold f2_keepsTell gP16
  refine Ok.f (by decide) (Ok.f (by decide) (Ok.f (by decide) (Ok.t rfl ?_)))
  rw [hc.2.2.2, nI_1, z_l_eq, gI_e]
  refine Ok.mono ?_ fun r υ hp => PO.tr w2 hp
  refine Ok.pr (c_room w1 hD (most := 12) (by omega) (by decide)) ?_
  rintro - _ rfl -
  refine Ok.pr (c_takeC w1 EqOn.rf (k := 16) (by decide) (by decide) hD) ?_
  rintro t1 τ1 ⟨a1, b1, e1⟩ -
  refine Ok.pr (c_takeC a1 e1 (k := 2) (by decide) (by decide) hD) ?_
  rintro t2 τ2 ⟨a2, b2, e2⟩ -
  refine Ok.pr (c_takeC a2 e2 (k := 2) (by decide) (by decide) hD) ?_
  rintro t3 τ3 ⟨a3, b3, e3⟩ -
  refine Ok.pr (c_takeC a3 e3 (k := 2) (by decide) (by decide) hD) ?_
  rintro t4 τ4 ⟨a4, b4, e4⟩ -
  refine Ok.pr (c_takeC a4 e4 (k := 3) (by decide) (by decide) hD) ?_
  rintro t5 τ5 ⟨a5, b5, e5⟩ -
  refine Ok.pr (show Ok (f2_takeNames N τ5) _ from c_names hN hD (f := 401) (t := t5) (x := 0) (fu := N) (by omega) (by omega) (by omega) a5 e5) ?_
  rintro t6 τ6 ⟨a6, b6, e6⟩ -
  refine Ok.pr (c_takeC a6 e6 (k := 4) (by decide) (by decide) hD) ?_
  rintro t7 τ7 ⟨a7, b7, e7⟩ -
  exact Ok.ret ⟨EqOn.rf, rfl, a7, hcn.eq (D_cn1 e7).1, hk.tr (D_cn1 e7).2, by show t < t7; omega, rfl⟩
theorem c_ti {N : Nat} (hN : 4000 ≤ N) {σ : Mm} {B : Nat → Nat} {n q t : Nat} {l : Cd} {stk : List Nat} {dp : Nat} (h : GS σ B n q t l stk dp) {D : Wr} (hD : keptG D q) {c : Cn} (hc : Cnt σ c) {k : Nat} (hk : k = 21 ∨ k = 22) : Ok (f2_keepsTell N (nI k) σ) (PO D σ B n (gPi (kK B n) c k t) (tP σ B n q t l stk dp)) := by
  unfold f2_keepsTell gPi
  rcases hk with rfl | rfl
  · refine Ok.f (by decide) (Ok.f (by decide) (Ok.f (by decide) (Ok.f (by decide) (Ok.f (by decide) (Ok.f (by decide) (Ok.f (by decide) (Ok.f (by decide) (Ok.t rfl ?_))))))))
    refine Ok.pr (c_takeC h EqOn.rf (k := 21) (by decide) (by decide) hD) ?_
    rintro t1 τ1 ⟨a1, b1, e1⟩ -
    refine Ok.pr (c_takeC a1 e1 (k := 3) (by decide) (by decide) hD) ?_
    rintro t2 τ2 ⟨a2, b2, e2⟩ -
    refine Ok.pr (c_takeC a2 e2 (k := 4) (by decide) (by decide) hD) ?_
    rintro t3 τ3 ⟨a3, b3, e3⟩ -
    exact Ok.ret ⟨EqOn.rf, rfl, a3, hc.eq (D_cn1 e3).1, (D_cn1 e3).2, by show t < t3; omega, rfl⟩
  · refine Ok.f (by decide) (Ok.f (by decide) (Ok.f (by decide) (Ok.f (by decide) (Ok.f (by decide) (Ok.f (by decide) (Ok.f (by decide) (Ok.f (by decide) (Ok.f (by decide) (Ok.t rfl ?_)))))))))
    refine Ok.pr (c_takeC h EqOn.rf (k := 22) (by decide) (by decide) hD) ?_
    rintro t1 τ1 ⟨a1, b1, e1⟩ -
    refine Ok.pr (c_takeC a1 e1 (k := 3) (by decide) (by decide) hD) ?_
    rintro t2 τ2 ⟨a2, b2, e2⟩ -
    refine Ok.pr (c_takeC a2 e2 (k := 4) (by decide) (by decide) hD) ?_
    rintro t3 τ3 ⟨a3, b3, e3⟩ -
    exact Ok.ret ⟨EqOn.rf, rfl, a3, hc.eq (D_cn1 e3).1, (D_cn1 e3).2, by show t < t3; omega, rfl⟩
theorem c_tbad {N : Nat} {σ : Mm} {B : Nat → Nat} {n q t : Nat} {l : Cd} {stk : List Nat} {dp : Nat} (h : GS σ B n q t l stk dp) {D : Wr} (hD : keptG D q) {k : Nat} (hk : k < 35) (h1 : k ≠ 13) (h2 : k ≠ 14) (h3 : k ≠ 15) (h4 : k ≠ 16) (h5 : k ≠ 21) (h6 : k ≠ 22) {α : Type} {P : α → Mm → Prop} : Ok (f2_keepsTell N (nI k) σ) (PO D σ B n (.inl (1, t)) P) := by
  have bad : Ok (f2_keepsTell_369 N σ) (PO D σ B n (.inl (1, t)) P) := by
    rw [f2_keepsTell_369, h.2.2.2.2.2.2.1, show (1 : Int32) = nI 1 from rfl, c_refuse h, z_b_some, zc_t isZ_0]
    exact Ok.ret ⟨EqOn_sI (EqOn_sI EqOn.rf (off1 hD (by simp))) (off1 hD (by simp)), rfl, FC_ref⟩
  have ne : ∀ j : Nat, j < 35 → k ≠ j → ¬ nI k = nI j := fun j hj hne e => hne ((nI_eq (by omega) (by omega)).mp e)
  unfold f2_keepsTell
  exact Ok.f (ne 13 (by decide) h1) (Ok.f (ne 14 (by decide) h2) (Ok.f (ne 15 (by decide) h3) (Ok.f (ne 16 (by decide) h4) (Ok.i (fun _ => bad) fun _ => Ok.i (fun _ => bad) fun _ => Ok.i (fun _ => bad) fun _ => Ok.i (fun _ => bad) fun _ => Ok.f (ne 21 (by decide) h5) (Ok.f (ne 22 (by decide) h6) bad)))))
