-- THE GRAMMAR: a law, as the class takes it down
def bP {α β : Type} (m : PR α) (k : α → PR β) : PR β := match m with
  | .inl e => .inl e
  | .inr a => k a
/-- what a step of the class's look leaves -/
def PO {α : Type} (D : Wr) (σ : Mm) (B : Nat → Nat) (n : Nat) (m : PR α) (P : α → Mm → Prop) : Int32 → Mm → Prop := fun r τ => EqOn D σ τ ∧ match m with
  | .inl e => r = 0 ∧ FC τ B n e
  | .inr a => r = 1 ∧ P a τ
theorem PO.tr {α : Type} {D : Wr} {σ τ υ : Mm} {B : Nat → Nat} {n : Nat} {m : PR α} {P : α → Mm → Prop} {r : Int32} (h : EqOn D σ τ) (hp : PO D τ B n m P r υ) : PO D σ B n m P r υ := ⟨h.tr hp.1, hp.2⟩
theorem PO.mono {α : Type} {D : Wr} {σ τ : Mm} {B : Nat → Nat} {n : Nat} {m : PR α} {P Q : α → Mm → Prop} {r : Int32} (h : ∀ a, m = .inr a → EqOn D σ τ → P a τ → Q a τ) (hp : PO D σ B n m P r τ) : PO D σ B n m Q r τ := by
  obtain ⟨h1, h2⟩ := hp
  refine ⟨h1, ?_⟩
  cases m with
  | inl e => exact h2
  | inr a => exact ⟨h2.1, h a rfl h1 h2.2⟩
theorem EqOn_c1 {d : Nat × Nat × Option Nat} {D : Wr} {σ τ : Mm} (h : EqOn (d :: D) σ τ) : EqOn D σ τ ∧ EqOn [d] σ τ := ⟨h.sub fun a ha => List.mem_cons_of_mem _ ha, h.sub fun a ha => by
  rcases List.mem_cons.mp ha with rfl | ha
  · exact List.mem_cons_self
  · cases ha⟩
theorem PO.more {α : Type} {d : Nat × Nat × Option Nat} {D : Wr} {σ τ : Mm} {B : Nat → Nat} {n : Nat} {m : PR α} {P : α → Mm → Prop} {r : Int32} (hp : PO (d :: D) σ B n m P r τ) : PO D σ B n m (fun a τ => P a τ ∧ EqOn [d] σ τ) r τ := by
  obtain ⟨h1, h2⟩ := hp
  refine ⟨(EqOn_c1 h1).1, ?_⟩
  cases m with
  | inl e => exact h2
  | inr a => exact ⟨h2.1, h2.2, (EqOn_c1 h1).2⟩
theorem Ok.pr {α β : Type} {D : Wr} {σ : Mm} {B : Nat → Nat} {n : Nat} {m : PR α} {g : α → PR β} {P : α → Mm → Prop} {Q : β → Mm → Prop} {x : Option (Int32 × Mm)} {k : Int32 → Mm → Option (Int32 × Mm)} (h : Ok x (PO D σ B n m P)) (hk : ∀ a τ, P a τ → EqOn D σ τ → Ok (k 1 τ) (PO D τ B n (g a) Q)) : Ok (z_b x (fun r τ => if r = 0 then some (0, τ) else k r τ)) (PO D σ B n (bP m g) Q) := by
  refine Ok.b h ?_
  rintro r τ ⟨hE, hm⟩
  cases m with
  | inl e => exact Ok.t hm.1 (Ok.ret ⟨hE, rfl, hm.2⟩)
  | inr a =>
    obtain ⟨rfl, hp⟩ := hm
    exact Ok.f (by decide) ((hk a τ hp hE).mono fun r2 τ2 h2 => h2.tr hE)
theorem Ok.prT {α β : Type} {D : Wr} {σ : Mm} {B : Nat → Nat} {n : Nat} {m : PR α} {f : α → β} {P : α → Mm → Prop} {Q : β → Mm → Prop} {x : Option (Int32 × Mm)} (h : Ok x (PO D σ B n m P)) (hk : ∀ a τ, P a τ → EqOn D σ τ → Q (f a) τ) : Ok (z_b x (fun r τ => z_c (isZ r) (some (r, τ)))) (PO D σ B n (bP m fun a => .inr (f a)) Q) := by
  refine Ok.b h ?_
  rintro r τ ⟨hE, hm⟩
  cases m with
  | inl e =>
    obtain ⟨rfl, hm⟩ := hm
    exact Ok.c isZ_0 (Ok.ret ⟨hE, rfl, hm⟩)
  | inr a =>
    obtain ⟨rfl, hp⟩ := hm
    exact Ok.c isZ_1 (Ok.ret ⟨hE, rfl, hk a τ hp hE⟩)
theorem c_takeP {N : Nat} {σ : Mm} {B : Nat → Nat} {n q t : Nat} {l : Cd} {stk : List Nat} {dp : Nat} (h : GS σ B n q t l stk dp) {k : Nat} (hk : k < 2 ^ 31) (hk2 : 2 ≤ k) {D : Wr} (hD : keptG D q) : Ok (f2_take N (nI k) σ) (PO D σ B n (tk1 (kK B n) k t) (fun t' τ => GS τ B n q t' l stk dp ∧ t' = t + 1 ∧ kK B n t = k)) := by
  refine (c_take h hk hk2 hD).mono ?_
  rintro r τ ⟨hE, hm⟩
  refine ⟨hE, ?_⟩
  cases htk : tk1 (kK B n) k t with
  | inl e => rw [htk] at hm; exact hm
  | inr t' => rw [htk] at hm; exact ⟨hm.1, hm.2, (tk1_ok htk).1, (tk1_ok htk).2.1⟩
theorem c_sumP {N : Nat} (hN : 4000 ≤ N) {B : Nat → Nat} {n q C : Nat} (hC : C ≤ 12) {D : Wr} (hD : keptG D q) {t : Nat} {l : Cd} {stk : List Nat} {dp : Nat} {σ : Mm} (h : GS σ B n q t l stk dp) (hw : l.length ≤ t + C) : Ok (f2_keepsSum N σ) (PO D σ B n (sumF (kK B n) (vV B n) 401 t [] []) (fun w τ => GS τ B n q w.1 (w.2 ++ l) [] 0 ∧ t < w.1 ∧ (w.2 ++ l).length ≤ w.1 + C)) := by
  refine (c_sum hN hC hD h hw).mono ?_
  rintro r τ ⟨hE, hm⟩
  refine ⟨hE, ?_⟩
  cases hs : sumF (kK B n) (vV B n) 401 t [] [] with
  | inl e => rw [hs] at hm; exact hm
  | inr w => rw [hs] at hm; exact hm
-- what is meant by a law
abbrev Lw : Type := List (Cd × Cd × Cd) × Cd
def lwE (K V : Nat → Nat) (t : Nat) : PR (Nat × Lw) := bP (sumF K V 401 t [] []) fun w => bP (tk1 K 4 w.1) fun t2 => .inr (t2, [], w.2)
def lawF (K V : Nat → Nat) : Nat → Nat → PR (Nat × Lw)
  | 0, t => if K t = 23 then .inl (2, t) else lwE K V t
  | f + 1, t => if K t = 23 then bP (tk1 K 23 t) fun t1 => bP (sumF K V 401 t1 [] []) fun w2 => bP (tk1 K 10 w2.1) fun t3 => bP (sumF K V 401 t3 [] []) fun w4 => bP (tk1 K 24 w4.1) fun t5 => bP (sumF K V 401 t5 [] []) fun w6 => bP (tk1 K 25 w6.1) fun t7 => bP (lawF K V f t7) fun w8 => .inr (w8.1, (w2.2, w4.2, w6.2) :: w8.2.1, w8.2.2) else lwE K V t
def lawG (K V : Nat → Nat) (k t : Nat) : PR (Nat × Lw) := bP (tk1 K k t) fun t1 => bP (tk1 K 5 t1) fun t2 => lawF K V 4 t2
/-- a law as the class's steps, the last one first, behind l -/
def cLw : Cd → List (Cd × Cd × Cd) → Cd → Cd
  | l, [], e => (3, 0) :: (e ++ l)
  | l, w :: r, e => cLw (((3, 0) :: w.2.2) ++ (2, (((3, 0) :: w.2.2) ++ (2, 0) :: (w.2.1 ++ (w.1 ++ l))).length) :: (w.2.1 ++ (w.1 ++ l))) r e
theorem cLw_app : ∀ {l : Cd} {r : List (Cd × Cd × Cd)} {e : Cd}, ∃ x, cLw l r e = x ++ l
  | l, [], e => ⟨(3, 0) :: e, rfl⟩
  | l, w :: r, e => by
    obtain ⟨x, hx⟩ := cLw_app (l := ((3, 0) :: w.2.2) ++ (2, (((3, 0) :: w.2.2) ++ (2, 0) :: (w.2.1 ++ (w.1 ++ l))).length) :: (w.2.1 ++ (w.1 ++ l))) (r := r) (e := e)
    refine ⟨x ++ (((3, 0) :: w.2.2) ++ (2, (((3, 0) :: w.2.2) ++ (2, 0) :: (w.2.1 ++ (w.1 ++ l))).length) :: (w.2.1 ++ w.1)), ?_⟩
    show cLw _ r e = _
    rw [hx]
    simp
theorem LawAt.patch {σ : Mm} {q v : Nat} {r : Cd} : ∀ {x : Cd}, LawAt σ q (x ++ (2, 0) :: r) → LawAt (sI σ (q + 2) r.length (nI v)) q (x ++ (2, v) :: r)
  | [], h => ⟨by rw [gI_o (by omega)]; exact h.1, gI_e, h.2.2.congr fun j hj => ⟨gI_o (by omega), gI_k (by omega)⟩⟩
  | a :: x, h => by
    have hl : (x ++ (2, v) :: r).length = (x ++ (2, 0) :: r).length := by simp
    have hlt : r.length < (x ++ (2, 0) :: r).length := by simp; omega
    refine ⟨?_, ?_, LawAt.patch h.2.2⟩
    · show gI _ (q + 1) (x ++ (2, v) :: r).length = _
      rw [hl, gI_o (by omega)]; exact h.1
    · show gI _ (q + 2) (x ++ (2, v) :: r).length = _
      rw [hl, gI_k (by omega)]; exact h.2.1
theorem c_leap {N : Nat} {σ : Mm} {B : Nat → Nat} {n q t : Nat} {x r : Cd} {stk : List Nat} {dp : Nat} (h : GS σ B n q t (x ++ (2, 0) :: r) stk dp) (hl : r.length < 416) {D : Wr} (hD : keptG D q) : ∃ τ, f4_leapToHere N q (nI r.length) σ = some ((), τ) ∧ GS τ B n q t (x ++ (2, (x ++ (2, 0) :: r).length) :: r) stk dp ∧ EqOn D σ τ := by
  obtain ⟨g1, g2, g3, g4, g5, g6, g7, g8, g9, g10, g11, g12⟩ := id h
  have hoff := off1 hD (a := (q, 3, none)) (by simp)
  have hlen : (x ++ (2, (x ++ (2, 0) :: r).length) :: r).length = (x ++ (2, 0) :: r).length := by simp
  refine ⟨sI σ (q + 2) r.length (nI (x ++ (2, 0) :: r).length), ?_, ?_, ?_⟩
  · unfold f4_leapToHere
    rw [if_neg (nI_pos (by omega)), if_neg (show ¬ (416 : Int32) ≤ nI r.length from nI_ngt (n := 416) hl (by decide)), zc_t (inBn hl (by decide)), z_l_eq, ixn (by omega), g8]
  · have e : ∀ c j, c ≠ q + 2 → gI (sI σ (q + 2) r.length (nI (x ++ (2, 0) :: r).length)) c j = gI σ c j := fun c j h1 => gI_o h1
    refine ⟨g1, g2, g3.congr (fun j => e 3 j (by omega)) (fun j => e 4 j (by omega)) (fun j => rfl), g4, g5, g6, by rw [e 47 _ (by omega)]; exact g7, by rw [e q _ (by omega), hlen]; exact g8, g9.patch, by rw [e 47 _ (by omega)]; exact g10, g11.congr fun j _ => e 48 j (by omega), by rw [e 47 _ (by omega)]; exact g12.1, by rw [e 2 _ (by omega)]; exact g12.2.1, by rw [e 2 _ (by omega)]; exact g12.2.2⟩
  · exact Same.on (L := [(q, 3, none)]) (fun id j hn => ⟨gI_o (fun e => hn ⟨_, List.mem_cons_self, ⟨by subst e; show q ≤ q + 2; omega, by subst e; show q + 2 < q + 3; omega⟩, Or.inl rfl⟩), rfl, rfl⟩) hoff
def lwP (B : Nat → Nat) (n q C t : Nat) (l : Cd) (w : Nat × Lw) (τ : Mm) : Prop := GS τ B n q w.1 (cLw l w.2.1 w.2.2) [] 0 ∧ t < w.1 ∧ (cLw l w.2.1 w.2.2).length ≤ w.1 + C
theorem c_lawE {N : Nat} (hN : 4000 ≤ N) {B : Nat → Nat} {n q C : Nat} (hC : C ≤ 12) {D : Wr} (hD : keptG D q) {t : Nat} {l : Cd} {stk : List Nat} {dp : Nat} {σ : Mm} (h : GS σ B n q t l stk dp) (hw : l.length ≤ t + C) : Ok (f2_keepsLaw_165 N σ) (PO D σ B n (lwE (kK B n) (vV B n) t) (lwP B n q C t l)) := by
  unfold f2_keepsLaw_165 lwE
  refine Ok.pr (c_sumP hN hC hD h hw) ?_
  rintro ⟨t1, e⟩ τ ⟨h1, h2, h3⟩ -
  dsimp only at h1 h2 h3 ⊢
  have ht : t1 ≤ 400 := h1.2.2.2.2.1
  refine Ok.r h1.2.2.2.2.2.1 (kd_q h1.1) ?_
  obtain ⟨τ2, e1, e2, e3⟩ := c_put (N := N) h1 (show (e ++ l).length < 416 from by omega) 3 0 hD
  show Ok (z_b (f4_put N q (nI 3) (nI 0) τ) _) _
  rw [e1, z_b_some]
  refine (Ok.prT (f := fun t2 => (t2, [], e)) (c_takeP e2 (k := 4) (by decide) (by decide) hD) ?_).mono fun r υ hp => hp.tr e3
  rintro t2 υ ⟨a1, a2, a3⟩ -
  refine ⟨a1, by show t < t2; omega, ?_⟩
  show ((3, 0) :: (e ++ l)).length ≤ t2 + C
  simp only [List.length_cons]
  omega
theorem c_lawF {N : Nat} (hN : 4000 ≤ N) {B : Nat → Nat} {n q C : Nat} (hC : C ≤ 12) {D : Wr} (hD : keptG D q) : ∀ {f t x fu : Nat} {l : Cd} {stk : List Nat} {dp : Nat} {σ : Mm}, x + f = 4 → f < fu → GS σ B n q t l stk dp → l.length ≤ t + C → Ok (f2_keepsLaw_31 N fu (nI x) σ) (PO D σ B n (lawF (kK B n) (vV B n) f t) (lwP B n q C t l))
  | f, t, x, 0, l, stk, dp, σ, _, hfu, _, _ => absurd hfu (Nat.not_lt_zero _)
  | 0, t, x, fu + 1, l, stk, dp, σ, hx, hfu, h, hw => by
    have hx4 : x = 4 := by omega
    subst hx4
    have ht := h.2.2.2.2.1
    have hkl := tkK_lt (B := B) (n := n) (b := bg B n t)
    have hkk : kK B n t = tkK B n (bg B n t) := rfl
    have g7 : gI σ 47 2 = nI t := h.2.2.2.2.2.2.1
    rw [f2_keepsLaw_31, g7, c_kA (by omega), z_b_some, h.k.1, lawF]
    refine Ok.f (by decide) (Ok.i (fun c => ?_) (fun c => ?_))
    · have c : nI (kK B n t) = nI 23 := c
      rw [nI_eq (by omega) (by decide)] at c
      refine Ok.t rfl ?_
      rw [if_pos c, f2_keepsLaw_57, g7, show (2 : Int32) = nI 2 from rfl, c_refuse h, z_b_some, zc_t isZ_0]
      exact Ok.ret ⟨EqOn_sI (EqOn_sI EqOn.rf (off1 hD (by simp))) (off1 hD (by simp)), rfl, FC_ref⟩
    · have c : ¬ nI (kK B n t) = nI 23 := c
      rw [nI_eq (by omega) (by decide)] at c
      rw [if_neg c]
      exact c_lawE hN hC hD h hw
  | f + 1, t, x, fu + 1, l, stk, dp, σ, hx, hfu, h, hw => by
    have ht := h.2.2.2.2.1
    have hkl := tkK_lt (B := B) (n := n) (b := bg B n t)
    have hkk : kK B n t = tkK B n (bg B n t) := rfl
    have g7 : gI σ 47 2 = nI t := h.2.2.2.2.2.2.1
    rw [f2_keepsLaw_31, g7, c_kA (by omega), z_b_some, h.k.1, lawF]
    refine Ok.f (nI_nlt (a := 4) (by omega) (by decide)) (Ok.i (fun c => ?_) (fun c => ?_))
    · have c : nI (kK B n t) = nI 23 := c
      rw [nI_eq (by omega) (by decide)] at c
      refine Ok.f (fun e => absurd ((nI_eq (b := 4) (by omega) (by decide)).mp e) (by omega)) ?_
      rw [if_pos c]
      refine Ok.pr (c_takeP h (k := 23) (by decide) (by decide) hD) ?_
      rintro t1 τ1 ⟨a1, a2, a3⟩ -
      refine Ok.pr (c_sumP hN hC hD a1 (by omega)) ?_
      rintro ⟨t2, ca⟩ τ2 ⟨b1, b2, b3⟩ -
      dsimp only at b1 b2 b3 ⊢
      refine Ok.pr (c_takeP b1 (k := 10) (by decide) (by decide) hD) ?_
      rintro t3 τ3 ⟨c1, c2, c3⟩ -
      refine Ok.pr (c_sumP hN hC hD c1 (by omega)) ?_
      rintro ⟨t4, cb⟩ τ4 ⟨d1, d2, d3⟩ -
      dsimp only at d1 d2 d3 ⊢
      refine Ok.pr (c_takeP d1 (k := 24) (by decide) (by decide) hD) ?_
      rintro t5 τ5 ⟨e1, e2, e3⟩ -
      have ht5 : t5 ≤ 400 := e1.2.2.2.2.1
      refine Ok.r e1.2.2.2.2.2.1 (kd_q e1.1) ?_
      obtain ⟨τ6, p1, p2, p3⟩ := c_put (N := N) e1 (show (cb ++ (ca ++ l)).length < 416 from by omega) 2 0 hD
      show Ok (z_b (f4_put N q (nI 2) (nI 0) τ5) _) _
      rw [p1, z_b_some]
      refine Ok.mono ?_ fun r υ hp => PO.tr p3 hp
      refine Ok.pr (c_sumP hN hC hD p2 (by simp only [List.length_cons]; omega)) ?_
      rintro ⟨t6, cc⟩ τ7 ⟨q1, q2, q3⟩ -
      dsimp only at q1 q2 q3 ⊢
      refine Ok.pr (c_takeP q1 (k := 25) (by decide) (by decide) hD) ?_
      rintro t7 τ8 ⟨r1, r2, r3⟩ -
      have ht7 : t7 ≤ 400 := r1.2.2.2.2.1
      refine Ok.r r1.2.2.2.2.2.1 (kd_q r1.1) ?_
      obtain ⟨τ9, s1, s2, s3⟩ := c_put (N := N) r1 (show (cc ++ (2, 0) :: (cb ++ (ca ++ l))).length < 416 from by omega) 3 0 hD
      show Ok (z_b (f4_put N q (nI 3) (nI 0) τ8) _) _
      rw [s1, z_b_some]
      refine Ok.r s2.2.2.2.2.2.1 (kd_q s2.1) ?_
      obtain ⟨τ10, u1, u2, u3⟩ := c_leap (N := N) (x := (3, 0) :: cc) (r := cb ++ (ca ++ l)) s2 (by omega) hD
      rw [u1, z_b_some, z_l_eq, nI_1]
      refine Ok.mono ?_ fun r υ hp => PO.tr (s3.tr u3) hp
      have hlen : (((3, 0) :: cc) ++ (2, (((3, 0) :: cc) ++ (2, 0) :: (cb ++ (ca ++ l))).length) :: (cb ++ (ca ++ l))).length = (cc ++ (2, 0) :: (cb ++ (ca ++ l))).length + 1 := by simp
      have ih := c_lawF hN hC hD (f := f) (t := t7) (x := x + 1) (fu := fu) (by omega) (by omega) u2 (by omega)
      refine ih.mono ?_
      rintro r υ ⟨hE, hm⟩
      refine ⟨hE, ?_⟩
      cases hl : lawF (kK B n) (vV B n) f t7 with
      | inl e => rw [hl] at hm; exact hm
      | inr w =>
        rw [hl] at hm
        obtain ⟨m1, m2, m3, m4⟩ := hm
        exact ⟨m1, m2, by show t < w.1; omega, m4⟩
    · have c : ¬ nI (kK B n t) = nI 23 := c
      rw [nI_eq (by omega) (by decide)] at c
      rw [if_neg c]
      exact c_lawE hN hC hD h hw
theorem keptG_s {D : Wr} {q : Nat} (hq : q = 19 ∨ q = 39) (h : keptG D q) : keptG ((q + 3, 1, none) :: D) q := by
  unfold keptG offL at *
  rw [List.all_eq_true] at *
  intro a ha
  rw [List.all_cons, Bool.and_eq_true]
  refine ⟨?_, h a ha⟩
  rcases hq with rfl | rfl
  · exact (by decide : ∀ a ∈ ([(2, 1, some 4), (2, 1, some 5), (47, 1, none), (48, 1, none), (19, 3, none)] : Wr), disj a (19 + 3, 1, none) = true) a ha
  · exact (by decide : ∀ a ∈ ([(2, 1, some 4), (2, 1, some 5), (47, 1, none), (48, 1, none), (39, 3, none)] : Wr), disj a (39 + 3, 1, none) = true) a ha
theorem c_lawG {N : Nat} (hN : 4000 ≤ N) {B : Nat → Nat} {n q C : Nat} (hC : C ≤ 12) {D : Wr} (hD : keptG D q) (hD2 : offL [(q + 3, 1, none)] D = true) {t k : Nat} (hk1 : 17 ≤ k) (hk2 : k ≤ 20) {l : Cd} {stk : List Nat} {dp : Nat} {σ : Mm} (h : GS σ B n q t l stk dp) (hw : l.length ≤ t + C) : Ok (f2_keepsLaw N (nI k) σ) (PO D σ B n (lawG (kK B n) (vV B n) k t) (fun w τ => lwP B n q C t l w τ ∧ gI τ (q + 3) (k - 17) = nI l.length ∧ ∀ j, j ≠ k - 17 → gI τ (q + 3) j = gI σ (q + 3) j)) := by
  have hq := h.1
  have hD' := keptG_s hq hD
  unfold f2_keepsLaw lawG
  refine Ok.pr ((c_takeP h (k := k) (by omega) (by omega) hD').mono fun r τ hp => PO.more hp) ?_
  rintro t1 τ1 ⟨⟨a1, a2, a3⟩, a4⟩ -
  refine Ok.pr ((c_takeP a1 (k := 5) (by decide) (by decide) hD').mono fun r τ hp => PO.more hp) ?_
  rintro t2 τ2 ⟨⟨b1, b2, b3⟩, b4⟩ -
  have ht2 : t2 ≤ 400 := b1.2.2.2.2.1
  refine Ok.r b1.2.2.2.2.2.1 (kd_q b1.1) ?_
  have hbg : f4_begin N q (nI k - 17) τ2 = some ((), sI τ2 (q + 3) (k - 17) (nI l.length)) := by
    rw [show nI k - (17 : Int32) = nI (k - 17) from pk_sub (b := 17) (by omega)]
    unfold f4_begin
    rw [if_neg (nI_pos (by omega)), if_neg (show ¬ (4 : Int32) ≤ nI (k - 17) from nI_ngt (n := 4) (by omega) (by decide)), zc_t (inBn (by omega) (by decide)), z_l_eq, ixn (by omega), b1.2.2.2.2.2.2.2.1]
  rw [hbg, z_b_some]
  have hG : GS (sI τ2 (q + 3) (k - 17) (nI l.length)) B n q t2 l stk dp := by
    obtain ⟨g1, g2, g3, g4, g5, g6, g7, g8, g9, g10, g11, g12⟩ := id b1
    have e : ∀ c j, c ≠ q + 3 → gI (sI τ2 (q + 3) (k - 17) (nI l.length)) c j = gI τ2 c j := fun c j h1 => gI_o h1
    exact ⟨g1, g2, g3.congr (fun j => e 3 j (by omega)) (fun j => e 4 j (by omega)) (fun j => rfl), g4, g5, g6, by rw [e 47 _ (by omega)]; exact g7, by rw [e q _ (by omega)]; exact g8, g9.congr fun j hj => ⟨e _ _ (by omega), e _ _ (by omega)⟩, by rw [e 47 _ (by omega)]; exact g10, g11.congr fun j _ => e 48 j (by omega), by rw [e 47 _ (by omega)]; exact g12.1, by rw [e 2 _ (by omega)]; exact g12.2.1, by rw [e 2 _ (by omega)]; exact g12.2.2⟩
  refine Ok.mono ((c_lawF hN hC hD' (f := 4) (t := t2) (x := 0) (fu := N) (by omega) (by omega) hG (by omega)).mono fun r τ hp => PO.more hp) ?_
  intro r υ hp
  refine PO.tr (EqOn_sIa EqOn.rf hD2) (hp.mono ?_)
  rintro w - - ⟨⟨w1, w2, w3⟩, w4⟩
  have hin : ∀ j, wIn [(q + 3, 1, none)] (q + 3) j := fun j => wIn_r 0 rfl (by omega) (by omega)
  refine ⟨⟨w1, by omega, w3⟩, ?_, fun j hj => ?_⟩
  · rw [w4.I (hin _), gI_e]
  · rw [w4.I (hin _), gI_k hj, b4.I (hin _), a4.I (hin _)]
