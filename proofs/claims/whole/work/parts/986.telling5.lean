-- THE CLASS'S TELLING: tell by tell
theorem gR_e {σ : Mm} {a k : Nat} {v : Option Nat} : gR (sR σ a k v) a k = v := by
  unfold gR sR
  simp [upd, va_up]
def mt (c : Cn) (d : LD) : Prop := d.2.1.1 = c.1 ∧ d.2.2.1.length = c.2.1 ∧ d.2.2.2.1.length = c.2.2.1 ∧ d.2.2.2.2.length = c.2.2.2 ∧ d.1.length = c.1 + c.2.1 + c.2.2.1
def nmB (P Q W : Nat) (a : List Nat × Nat × Nat) : Prop := (a.2.1 = 13 ∧ a.2.2 < P) ∨ (a.2.1 = 14 ∧ a.2.2 < Q) ∨ (a.2.1 = 15 ∧ a.2.2 < W)
def okD (d : LD) : Prop := (∀ a ∈ d.1, nmB d.2.1.1 d.2.2.1.length d.2.2.2.1.length a) ∧ ((1 ≤ d.2.1.2.1 ∧ d.2.1.2.1 ≤ 4) ∧ d.2.1.2.2 ≤ 9999) ∧ (∀ a ∈ d.2.2.1, a.1 ≤ 9 ∧ a.2.1 ≤ 9 ∧ a.2.2 < d.2.1.1) ∧ (∀ a ∈ d.2.2.2.1, a.1 ≤ 99 ∧ a.2 ≤ 99) ∧ (∀ a ∈ d.2.2.2.2, a.1 < d.2.2.1.length ∧ a.2.1 < d.2.1.1 ∧ a.2.2.1 < d.2.1.1 ∧ a.2.2.2.1 ≤ 99 ∧ a.2.2.2.2 < 2 ^ d.2.2.2.1.length)
theorem knw_b {l : Nms} {P Q W : Nat} (hl : ∀ a ∈ l, nmB P Q W a) {w : List Nat} {s t i : Nat} (h : knw l w s t = .inr i) : nmB P Q W ([], s, i) := by
  obtain ⟨b, hb, e⟩ := knw_mem h
  have := hl b hb
  unfold nmB at *
  rw [e] at this
  exact this
theorem wset_lt {K : Nat → Nat} {W : Nat → List Nat} {l : Nms} {P Q Wn : Nat} (hl : ∀ a ∈ l, nmB P Q Wn a) : ∀ {f t s s' : Nat}, s < 2 ^ Wn → wset K W l f t s = .inr s' → s' < 2 ^ Wn
  | 0, t, s, s', hs, h => by cases h; exact hs
  | f + 1, t, s, s', hs, h => by
    unfold wset at h
    split at h
    · obtain ⟨i, h1, h⟩ := bP_inr h
      split at h
      · cases h
      · refine wset_lt hl (Nat.or_lt_two_pow hs (Nat.pow_lt_pow_right (by decide) ?_)) h
        rcases knw_b hl h1 with e | e | e
        · exact absurd e.1 (by simp)
        · exact absurd e.1 (by simp)
        · exact e.2
    · cases h; exact hs
theorem sTell_ok {K V : Nat → Nat} {W : Nat → List Nat} {c : Cn} {d d' : LD} {t : Nat} {w : Nat × Cn × Option (Nat × Lw)} (hm : mt c d) (hd : okD d) (hg : gTell K V c t = .inr w) (hs : sTell K V W d t = .inr d') : mt w.2.1 d' ∧ okD d' := by
  obtain ⟨m1, m2, m3, m4, m5⟩ := hm
  obtain ⟨o1, o2, o3, o4, o5⟩ := hd
  unfold gTell at hg
  unfold sTell at hs
  by_cases c13 : K t = 13
  · rw [if_pos c13] at hg hs
    obtain ⟨-, -, -, -, -, rfl⟩ := gP13_ok hg
    obtain ⟨l', h1, h2⟩ := bP_inr hs
    obtain ⟨-, rfl⟩ := newN_ok h1
    cases h2
    refine ⟨⟨by show _ + 1 = _ + 1; omega, m2, m3, m4, by show _ + 1 = _; simp only []; omega⟩, fun a ha => ?_, o2, fun a ha => ?_, o4, fun a ha => ?_⟩
    · rcases List.mem_cons.mp ha with rfl | ha
      · exact Or.inl ⟨rfl, Nat.lt_succ_self _⟩
      · rcases o1 a ha with e | e | e
        · exact Or.inl ⟨e.1, Nat.lt_succ_of_lt e.2⟩
        · exact Or.inr (Or.inl e)
        · exact Or.inr (Or.inr e)
    · have := o3 a ha
      exact ⟨this.1, this.2.1, Nat.lt_succ_of_lt this.2.2⟩
    · have := o5 a ha
      exact ⟨this.1, Nat.lt_succ_of_lt this.2.1, Nat.lt_succ_of_lt this.2.2.1, this.2.2.2⟩
  rw [if_neg c13] at hg hs
  by_cases c14 : K t = 14
  · rw [if_pos c14] at hg hs
    obtain ⟨-, -, -, -, rfl⟩ := gP14_ok hg
    obtain ⟨l', h1, hs⟩ := bP_inr hs
    obtain ⟨x, h2, hs⟩ := bP_inr hs
    obtain ⟨y, h3, hs⟩ := bP_inr hs
    obtain ⟨a, h4, hs⟩ := bP_inr hs
    obtain ⟨-, rfl⟩ := newN_ok h1
    have hx := rng_ok h2
    have hy := rng_ok h3
    have ha : a < d.2.1.1 := by
      rcases knw_b o1 h4 with e | e | e
      · exact e.2
      · exact absurd e.1 (by simp)
      · exact absurd e.1 (by simp)
    cases hs
    refine ⟨⟨m1, by show _ + 1 = _ + 1; omega, m3, m4, by show _ + 1 = _; simp only []; omega⟩, fun a ha => ?_, o2, fun b hb => ?_, o4, fun a ha => ?_⟩
    · rcases List.mem_cons.mp ha with rfl | ha
      · exact Or.inr (Or.inl ⟨rfl, Nat.lt_succ_self _⟩)
      · rcases o1 a ha with e | e | e
        · exact Or.inl e
        · exact Or.inr (Or.inl ⟨e.1, Nat.lt_succ_of_lt e.2⟩)
        · exact Or.inr (Or.inr e)
    · rcases List.mem_cons.mp hb with rfl | hb
      · exact ⟨by show x ≤ 9; omega, by show y ≤ 9; omega, ha⟩
      · exact o3 b hb
    · have := o5 a ha
      exact ⟨Nat.lt_succ_of_lt this.1, this.2⟩
  rw [if_neg c14] at hg hs
  by_cases c15 : K t = 15
  · rw [if_pos c15] at hg hs
    obtain ⟨-, -, -, -, rfl⟩ := gP15_ok hg
    obtain ⟨l', h1, hs⟩ := bP_inr hs
    obtain ⟨x, h2, hs⟩ := bP_inr hs
    obtain ⟨y, h3, hs⟩ := bP_inr hs
    obtain ⟨-, rfl⟩ := newN_ok h1
    have hx := rng_ok h2
    have hy := rng_ok h3
    cases hs
    refine ⟨⟨m1, m2, by show _ + 1 = _ + 1; omega, m4, by show _ + 1 = _; simp only []; omega⟩, fun a ha => ?_, o2, o3, fun b hb => ?_, fun a ha => ?_⟩
    · rcases List.mem_cons.mp ha with rfl | ha
      · exact Or.inr (Or.inr ⟨rfl, Nat.lt_succ_self _⟩)
      · rcases o1 a ha with e | e | e
        · exact Or.inl e
        · exact Or.inr (Or.inl e)
        · exact Or.inr (Or.inr ⟨e.1, Nat.lt_succ_of_lt e.2⟩)
    · rcases List.mem_cons.mp hb with rfl | hb
      · exact ⟨by show x ≤ 99; omega, by show y ≤ 99; omega⟩
      · exact o4 b hb
    · obtain ⟨i1, i2, i3, i4, i5⟩ := o5 a ha
      exact ⟨i1, i2, i3, i4, Nat.lt_of_lt_of_le i5 (Nat.pow_le_pow_right (by decide) (Nat.le_succ _))⟩
  rw [if_neg c15] at hg hs
  by_cases c16 : K t = 16
  · rw [if_pos c16] at hg hs
    obtain ⟨-, -, -, t6, -, -, -, -, rfl⟩ := gP16_ok hg
    obtain ⟨p, h1, hs⟩ := bP_inr hs
    obtain ⟨a, h2, hs⟩ := bP_inr hs
    obtain ⟨b, h3, hs⟩ := bP_inr hs
    split at hs
    · cases hs
    obtain ⟨g, h4, hs⟩ := bP_inr hs
    obtain ⟨s, h5, hs⟩ := bP_inr hs
    have hg := rng_ok h4
    have hsl := wset_lt o1 (Nat.two_pow_pos _) h5
    have hp : p < d.2.2.1.length := by
      rcases knw_b o1 h1 with e | e | e
      · exact absurd e.1 (by simp)
      · exact e.2
      · exact absurd e.1 (by simp)
    have ha : a < d.2.1.1 := by
      rcases knw_b o1 h2 with e | e | e
      · exact e.2
      · exact absurd e.1 (by simp)
      · exact absurd e.1 (by simp)
    have hb : b < d.2.1.1 := by
      rcases knw_b o1 h3 with e | e | e
      · exact e.2
      · exact absurd e.1 (by simp)
      · exact absurd e.1 (by simp)
    cases hs
    refine ⟨⟨m1, m2, m3, by show _ + 1 = _ + 1; omega, m5⟩, o1, o2, o3, o4, fun e he => ?_⟩
    rcases List.mem_cons.mp he with rfl | he
    · exact ⟨hp, ha, hb, by show g ≤ 99; omega, hsl⟩
    · exact o5 e he
  rw [if_neg c16] at hg hs
  by_cases cl : 17 ≤ K t ∧ K t ≤ 20
  · rw [if_pos cl] at hg
    rw [if_neg (by omega), if_neg (by omega)] at hs
    obtain ⟨w2, -, hg⟩ := bP_inr hg
    cases hg
    cases hs
    exact ⟨⟨m1, m2, m3, m4, m5⟩, o1, o2, o3, o4, o5⟩
  rw [if_neg cl] at hg
  by_cases ci : K t = 21 ∨ K t = 22
  · rw [if_pos ci] at hg
    obtain ⟨-, -, -, -, rfl⟩ := gPi_ok hg
    by_cases c21 : K t = 21
    · rw [if_pos c21] at hs
      obtain ⟨x, h1, hs⟩ := bP_inr hs
      have hx := rng_ok h1
      cases hs
      exact ⟨⟨m1, m2, m3, m4, m5⟩, o1, ⟨⟨by show 1 ≤ x; omega, by show x ≤ 4; omega⟩, o2.2⟩, o3, o4, o5⟩
    · rw [if_neg c21, if_pos (by omega)] at hs
      obtain ⟨x, h1, hs⟩ := bP_inr hs
      have hx := rng_ok h1
      cases hs
      exact ⟨⟨m1, m2, m3, m4, m5⟩, o1, ⟨o2.1, by show x ≤ 9999; omega⟩, o3, o4, o5⟩
  · rw [if_neg ci] at hg
    cases hg
theorem TO_z {σ : Mm} {B : Nat → Nat} {n o je : Nat} {m : PR LD} {x : Option (Int32 × Mm)} (h : Ok x (TO σ B n o m je)) : Ok (z_b x (fun r τ => z_c (isZ r) (some (r, τ)))) (TO σ B n o m je) := by
  refine Ok.b h ?_
  rintro r τ ⟨hE, hm⟩
  cases m with
  | inl e =>
    obtain ⟨rfl, hm⟩ := hm
    exact Ok.c isZ_0 (Ok.ret ⟨hE, rfl, hm⟩)
  | inr a =>
    obtain ⟨rfl, hp⟩ := hm
    exact Ok.c isZ_1 (Ok.ret ⟨hE, rfl, hp⟩)
theorem c_fOne {N : Nat} (hN : 4000 ≤ N) {σ : Mm} {B : Nat → Nat} {n o t : Nat} {c : Cn} {d : LD} {w : Nat × Cn × Option (Nat × Lw)} (h : TS σ B n o (t + 1)) (hd : LC σ o d) (hm : mt c d) (hcb : Cb c) (hg : gTell (kK B n) (vV B n) c t = .inr w) : ∃ je, Ok (f8_fillsOne N (nI (kK B n t)) σ) (TO σ B n o (sTell (kK B n) (vV B n) (wW B n) d t) je) ∧ t + 1 ≤ je ∧ je + 1 ≤ w.1 ∧ w.1 ≤ 400 ∧ kK B n (w.1 - 1) = 4 ∧ G4 (kK B n) je (w.1 - 1) := by
  obtain ⟨m1, m2, m3, m4, m5⟩ := hm
  obtain ⟨b1, b2, b3, b4⟩ := hcb
  have ho := h.1
  have hkl := tkK_lt (B := B) (n := n) (b := bg B n t)
  have hkk : kK B n t = tkK B n (bg B n t) := rfl
  have ne : ∀ j : Nat, j < 35 → kK B n t ≠ j → ¬ nI (kK B n t) = nI j := fun j hj hne e => hne ((nI_eq (by omega) (by omega)).mp e)
  unfold gTell at hg
  unfold sTell f8_fillsOne
  by_cases c13 : kK B n t = 13
  · rw [if_pos c13] at hg ⊢
    obtain ⟨q1, -, q2, q3, q4, rfl⟩ := gP13_ok hg
    refine ⟨t + 2, ?_, by omega, by show t + 3 ≤ t + 3; omega, by show t + 3 ≤ 400; omega, q3, fun j j1 j2 => absurd j2 (by show ¬ j < t + 2; omega)⟩
    rw [c13]
    exact Ok.t rfl (TO_z (c_fPerson hN h hd (by omega) (by omega) (by omega) q2))
  rw [if_neg c13] at hg ⊢
  by_cases c14 : kK B n t = 14
  · rw [if_pos c14] at hg ⊢
    obtain ⟨q1, -, ⟨q2, q3, q5, q6, q7⟩, q4, rfl⟩ := gP14_ok hg
    refine ⟨t + 5, ?_, by omega, by show t + 6 ≤ t + 6; omega, by show t + 6 ≤ 400; omega, q7, fun j j1 j2 => absurd j2 (by show ¬ j < t + 5; omega)⟩
    rw [c14]
    exact Ok.f (by decide) (Ok.t rfl (TO_z (c_fPlot hN h hd (by omega) (by omega) (by omega) ⟨q2, q3, q5, q6⟩)))
  rw [if_neg c14] at hg ⊢
  by_cases c15 : kK B n t = 15
  · rw [if_pos c15] at hg ⊢
    obtain ⟨q1, -, ⟨q2, q3, q5, q6⟩, q4, rfl⟩ := gP15_ok hg
    refine ⟨t + 4, ?_, by omega, by show t + 5 ≤ t + 5; omega, by show t + 5 ≤ 400; omega, q6, fun j j1 j2 => absurd j2 (by show ¬ j < t + 4; omega)⟩
    rw [c15]
    exact Ok.f (by decide) (Ok.f (by decide) (Ok.t rfl (TO_z (c_fWitness hN h hd (by omega) (by omega) (by omega) ⟨q2, q3, q5⟩))))
  rw [if_neg c15] at hg ⊢
  by_cases c16 : kK B n t = 16
  · rw [if_pos c16] at hg ⊢
    obtain ⟨q1, -, ⟨q2, q3, q5, q6⟩, t6, q7, q8, q9, q10, rfl⟩ := gP16_ok hg
    refine ⟨t6, ?_, by omega, by show t6 + 1 ≤ t6 + 1; omega, by show t6 + 1 ≤ 400; omega, q10, fun j j1 j2 => absurd j2 (by show ¬ j < t6; omega)⟩
    rw [c16]
    exact Ok.f (by decide) (Ok.f (by decide) (Ok.f (by decide) (Ok.t rfl (TO_z (c_fGiving hN h hd (by omega) q8 q7 ⟨q2, q3, q5, q6⟩ q9 q10)))))
  rw [if_neg c16] at hg ⊢
  by_cases cl : 17 ≤ kK B n t ∧ kK B n t ≤ 20
  · rw [if_pos cl] at hg
    rw [if_neg (show ¬ kK B n t = 21 by omega), if_neg (show ¬ kK B n t = 22 by omega)]
    obtain ⟨w2, hw2, hg⟩ := bP_inr hg
    obtain ⟨q1, q2, q3, q4, q5, -, -⟩ := lawG_ok hw2
    cases hg
    refine ⟨t + 1, ?_, Nat.le_refl _, by show t + 1 + 1 ≤ w2.1; omega, q3, q4, q5⟩
    have fin : Ok (some ((1 : Int32), σ)) (TO σ B n o (.inr d) (t + 1)) := Ok.ret ⟨kL.rf, rfl, h, hd⟩
    exact Ok.f (ne 13 (by decide) c13) (Ok.f (ne 14 (by decide) c14) (Ok.f (ne 15 (by decide) c15) (Ok.f (ne 16 (by decide) c16) (Ok.i (fun _ => fin) fun _ => Ok.i (fun _ => fin) fun _ => Ok.i (fun _ => fin) fun _ => Ok.i (fun _ => fin) fun _ => Ok.f (ne 21 (by decide) (by omega)) (Ok.f (ne 22 (by decide) (by omega)) fin)))))
  rw [if_neg cl] at hg
  by_cases ci : kK B n t = 21 ∨ kK B n t = 22
  · rw [if_pos ci] at hg
    obtain ⟨-, q1, q2, q3, rfl⟩ := gPi_ok hg
    refine ⟨t + 2, ?_, by omega, by show t + 3 ≤ t + 3; omega, by show t + 3 ≤ 400; omega, q2, fun j j1 j2 => absurd j2 (by show ¬ j < t + 2; omega)⟩
    by_cases c21 : kK B n t = 21
    · rw [if_pos c21, c21]
      refine Ok.f (by decide) (Ok.f (by decide) (Ok.f (by decide) (Ok.f (by decide) (Ok.f (by decide) (Ok.f (by decide) (Ok.f (by decide) (Ok.f (by decide) (Ok.t rfl ?_))))))))
      exact c_fInt (lo := 1) (hi := 4) (k := 4) (d2 := fun _ => d) (d := fun x => (d.1, (d.2.1.1, x, d.2.1.2.2), d.2.2)) h (by omega) q1 (by decide) (by decide) fun τ x hk => (LC_set ho hd hk x).1
    · have c22 : kK B n t = 22 := by omega
      rw [if_neg c21, if_pos c22, c22]
      refine Ok.f (by decide) (Ok.f (by decide) (Ok.f (by decide) (Ok.f (by decide) (Ok.f (by decide) (Ok.f (by decide) (Ok.f (by decide) (Ok.f (by decide) (Ok.f (by decide) (Ok.t rfl ?_)))))))))
      exact c_fInt (lo := 0) (hi := 9999) (k := 5) (d2 := fun _ => d) (d := fun x => (d.1, (d.2.1.1, d.2.1.2.1, x), d.2.2)) h (by omega) q1 (by decide) (by decide) fun τ x hk => (LC_set ho hd hk x).2
  · rw [if_neg ci] at hg
    cases hg
theorem c_pass {N : Nat} {B : Nat → Nat} {n o te : Nat} (hte : te < 400) (hk : kK B n te = 4) : ∀ {m j x fu : Nat} {σ : Mm}, j + m = te → x + m ≤ 400 → m < fu → G4 (kK B n) j te → TS σ B n o j → Ok (f8_passSemicolon_2 N fu (nI x) σ) (fun _ τ => kp σ τ ∧ TS τ B n o (te + 1))
  | m, j, x, 0, σ, _, _, h, _, _ => absurd h (Nat.not_lt_zero _)
  | 0, j, x, fu + 1, σ, hj, hx, hfu, hG, h => by
    have hj : j = te := by omega
    subst hj
    have h49 : gI σ 49 2 = nI j := h.2.2.2.2.2.2.1
    rw [f8_passSemicolon_2, h49, c_kA (by omega), z_b_some, h.row.1, hk]
    refine Ok.f (nI_nlt (a := 400) (by omega) (by decide)) (Ok.f (nI_ngt (n := 400) hte (by decide)) (Ok.t rfl ?_))
    rw [f8_passSemicolon_50, h49, nI_1]
    have e : mnI (nI (j + 1)) 400 = nI (j + 1) := by
      show (if 400 < nI (j + 1) then 400 else nI (j + 1)) = nI (j + 1)
      rw [if_neg (show ¬ 400 < nI (j + 1) from nI_nlt (a := 400) (by omega) (by decide))]
    rw [e, z_l_eq]
    exact Ok.ret ⟨kp_sI (Or.inr rfl), h.next hte (by omega)⟩
  | m + 1, j, x, fu + 1, σ, hj, hx, hfu, hG, h => by
    obtain ⟨g1, g2⟩ := hG j (Nat.le_refl _) (by omega)
    have hkl := tkK_lt (B := B) (n := n) (b := bg B n j)
    have hkk : kK B n j = tkK B n (bg B n j) := rfl
    have h49 : gI σ 49 2 = nI j := h.2.2.2.2.2.2.1
    rw [f8_passSemicolon_2, h49, c_kA (by omega), z_b_some, h.row.1, h49]
    refine Ok.f (nI_nlt (a := 400) (by omega) (by decide)) (Ok.f (nI_ngt (n := 400) (by omega) (by decide)) (Ok.f (fun e => g2 ((nI_eq (b := 4) (by omega) (by decide)).mp e)) ?_))
    rw [nI_1, nI_1, z_l_eq, z_l_eq]
    refine (c_pass hte hk (m := m) (j := j + 1) (x := x + 1) (fu := fu) (by omega) (by omega) (by omega) (fun i i1 i2 => hG i (by omega) i2) (h.next (by omega) g1)).mono ?_
    rintro r τ ⟨a, b⟩
    exact ⟨(kp_sI (Or.inr rfl)).tr a, b⟩
def sAll (K V : Nat → Nat) (W : Nat → List Nat) : Nat → Nat → Cn → LD → PR LD
  | 0, _, _, d => .inr d
  | f + 1, t, c, d => if K t = 0 then .inr d else match gTell K V c t with
    | .inl _ => .inr d
    | .inr w => bP (sTell K V W d t) fun d' => sAll K V W f w.1 w.2.1 d'
theorem c_fills12 {N : Nat} (hN : 4000 ≤ N) {B : Nat → Nat} {n o o1 : Nat} : ∀ {f t x fu : Nat} {c : Cn} {d : LD} {lw : LwT} {res : Cn × LwT} {σ : Mm}, 401 ≤ t + f → x + f = 401 → f < fu → gAll (kK B n) (vV B n) f t c lw = .inr res → Cb c → mt c d → okD d → TS σ B n o t → LC σ o d → Ok (f8_fills_12 N o1 fu (nI x) σ) (fun r τ => kL o σ τ ∧ match sAll (kK B n) (vV B n) (wW B n) f t c d with
    | .inl e => r = 0 ∧ FC τ B n e
    | .inr d' => r = 1 ∧ (gI τ 2 4 = 0 ∧ gI τ 2 5 = -1) ∧ LC τ o d' ∧ okD d' ∧ mt res.1 d')
  | 0, t, x, fu, c, d, lw, res, σ, hf, _, _, _, _, _, _, h, _ => absurd h.2.2.2.2.1 (by omega)
  | f + 1, t, x, 0, c, d, lw, res, σ, _, _, h, _, _, _, _, _, _ => absurd h (Nat.not_lt_zero _)
  | f + 1, t, x, fu + 1, c, d, lw, res, σ, hf, hx, hfu, hg, hcb, hm, hod, h, hd => by
    have ht := h.2.2.2.2.1
    have hkl := tkK_lt (B := B) (n := n) (b := bg B n t)
    have hkk : kK B n t = tkK B n (bg B n t) := rfl
    have h49 : gI σ 49 2 = nI t := h.2.2.2.2.2.2.1
    rw [gAll] at hg
    rw [f8_fills_12, h49, c_kA (by omega), z_b_some, h49, c_kA (by omega), z_b_some, h.row.1, h49, sAll]
    have fin : (hr : c = res.1) → Ok (some ((1 : Int32), σ)) (fun r τ => kL o σ τ ∧ match (.inr d : PR LD) with
        | .inl e => r = 0 ∧ FC τ B n e
        | .inr d' => r = 1 ∧ (gI τ 2 4 = 0 ∧ gI τ 2 5 = -1) ∧ LC τ o d' ∧ okD d' ∧ mt res.1 d') := fun hr => Ok.ret ⟨kL.rf, rfl, h.2.2.2.2.2.2.2, hd, hod, by rw [← hr]; exact hm⟩
    by_cases c0 : kK B n t = 0
    · rw [if_pos c0] at hg ⊢
      cases hg
      rw [c0]
      exact Ok.f (nI_nlt (a := 400) (by omega) (by decide)) (Ok.i (fun _ => fin rfl) fun _ => Ok.t rfl (fin rfl))
    · rw [if_neg c0] at hg ⊢
      obtain ⟨w, hw, hg⟩ := bP_inr hg
      rw [hw]
      dsimp only
      have hv2 : 2 ≤ kK B n t ∧ t < 400 := by
        unfold gTell at hw
        split at hw
        · obtain ⟨-, q, -, -, q2, -⟩ := gP13_ok hw; omega
        · split at hw
          · obtain ⟨-, q, -, q2, -⟩ := gP14_ok hw; omega
          · split at hw
            · obtain ⟨-, q, -, q2, -⟩ := gP15_ok hw; omega
            · split at hw
              · obtain ⟨-, q, -, t6, q2, q3, -⟩ := gP16_ok hw; omega
              · split at hw
                · obtain ⟨w2, hw2, -⟩ := bP_inr hw
                  obtain ⟨q1, q2, q3, -⟩ := lawG_ok hw2
                  omega
                · split at hw
                  · obtain ⟨-, -, -, q2, -⟩ := gPi_ok hw; omega
                  · cases hw
      have h1 : TS (sI σ 49 2 (nI (t + 1))) B n o (t + 1) := h.next hv2.2 hv2.1
      have hd1 : LC (sI σ 49 2 (nI (t + 1))) o d := hd.kp h.1 (kp_sI (Or.inr rfl))
      obtain ⟨je, hO, j1, j2, j3, j4, j5⟩ := c_fOne hN h1 hd1 hm hcb hw
      refine Ok.f (nI_nlt (a := 400) (by omega) (by decide)) (Ok.f (nI_ngt (n := 400) hv2.2 (by decide)) (Ok.f (fun e => c0 ((nI_eq (b := 0) (by omega) (by decide)).mp e)) ?_))
      rw [nI_1, z_l_eq]
      refine Ok.b hO ?_
      rintro r τ ⟨hkL, hm2⟩
      have hkL := (kp_sI (σ := σ) (a := 49) (k := 2) (v := nI (t + 1)) (Or.inr rfl)).kL.tr hkL
      cases hs : sTell (kK B n) (vV B n) (wW B n) d t with
      | inl e =>
        rw [hs] at hm2
        exact Ok.t hm2.1 (Ok.ret ⟨hkL, rfl, hm2.2⟩)
      | inr d' =>
        rw [hs] at hm2
        obtain ⟨rfl, hT, hL⟩ := hm2
        refine Ok.f (by decide) ?_
        have hp := c_pass (N := N) (o := o) (te := w.1 - 1) (by omega) j4 (m := w.1 - 1 - je) (j := je) (x := 0) (fu := N) (by omega) (by omega) (by omega) j5 hT
        refine Ok.b (show Ok (f8_passSemicolon N τ) _ from hp) ?_
        rintro u υ ⟨p1, p2⟩
        rw [show w.1 - 1 + 1 = w.1 by omega] at p2
        rw [z_l_eq, nI_1]
        obtain ⟨k1, k2⟩ := sTell_ok hm hod hw hs
        refine (c_fills12 hN (f := f) (t := w.1) (x := x + 1) (fu := fu) (by omega) (by omega) (by omega) hg (gTell_cb hw hcb) k1 k2 p2 (hL.kp h.1 p1)).mono ?_
        rintro r2 ρ ⟨r1, r3⟩
        exact ⟨(hkL.tr p1.kL).tr r1, r3⟩
