-- THE TELLING: what is meant by it
abbrev Nms : Type := List (List Nat × Nat × Nat)
abbrev LD : Type := Nms × (Nat × Nat × Nat) × List (Nat × Nat × Nat) × List (Nat × Nat) × List (Nat × Nat × Nat × Nat × Nat)
def fnd : Nms → List Nat → Option (Nat × Nat)
  | [], _ => none
  | a :: r, w => if a.1 = w then some a.2 else fnd r w
def newN (l : Nms) (w : List Nat) (s i t : Nat) : PR Nms := match fnd l w with
  | some _ => .inl (3, t)
  | none => .inr ((w, s, i) :: l)
def knw (l : Nms) (w : List Nat) (s t : Nat) : PR Nat := match fnd l w with
  | some a => if a.1 = s then .inr a.2 else .inl (4, t)
  | none => .inl (4, t)
def rng (v lo hi t : Nat) : PR Nat := if lo ≤ v ∧ v ≤ hi then .inr v else .inl (5, t)
def wset (K : Nat → Nat) (W : Nat → List Nat) (l : Nms) : Nat → Nat → Nat → PR Nat
  | 0, _, s => .inr s
  | f + 1, t, s => if K t = 2 then bP (knw l (W t) 15 t) fun i => if s.testBit i then .inl (3, t) else wset K W l f (t + 1) (s ||| 2 ^ i) else .inr s
def sP13 (W : Nat → List Nat) (d : LD) (t : Nat) : PR LD := bP (newN d.1 (W (t + 1)) 13 d.2.1.1 (t + 1)) fun nm => .inr (nm, (d.2.1.1 + 1, d.2.1.2), d.2.2)
def sP14 (V : Nat → Nat) (W : Nat → List Nat) (d : LD) (t : Nat) : PR LD := bP (newN d.1 (W (t + 1)) 14 d.2.2.1.length (t + 1)) fun nm => bP (rng (V (t + 2)) 0 9 (t + 2)) fun x => bP (rng (V (t + 3)) 0 9 (t + 3)) fun y => bP (knw d.1 (W (t + 4)) 13 (t + 4)) fun a => .inr (nm, d.2.1, (x, y, a) :: d.2.2.1, d.2.2.2)
def sP15 (V : Nat → Nat) (W : Nat → List Nat) (d : LD) (t : Nat) : PR LD := bP (newN d.1 (W (t + 1)) 15 d.2.2.2.1.length (t + 1)) fun nm => bP (rng (V (t + 2)) 0 99 (t + 2)) fun x => bP (rng (V (t + 3)) 0 99 (t + 3)) fun y => .inr (nm, d.2.1, d.2.2.1, (x, y) :: d.2.2.2.1, d.2.2.2.2)
def sP16 (K V : Nat → Nat) (W : Nat → List Nat) (d : LD) (t : Nat) : PR LD := bP (knw d.1 (W (t + 1)) 14 (t + 1)) fun p => bP (knw d.1 (W (t + 2)) 13 (t + 2)) fun a => bP (knw d.1 (W (t + 3)) 13 (t + 3)) fun b => if a = b then .inl (3, t + 3) else bP (rng (V (t + 4)) 0 99 (t + 4)) fun g => bP (wset K W d.1 401 (t + 5) 0) fun s => .inr (d.1, d.2.1, d.2.2.1, d.2.2.2.1, (p, a, b, g, s) :: d.2.2.2.2)
def sTell (K V : Nat → Nat) (W : Nat → List Nat) (d : LD) (t : Nat) : PR LD :=
  if K t = 13 then sP13 W d t else if K t = 14 then sP14 V W d t else if K t = 15 then sP15 V W d t else if K t = 16 then sP16 K V W d t else if K t = 21 then bP (rng (V (t + 1)) 1 4 (t + 1)) fun x => .inr (d.1, (d.2.1.1, x, d.2.1.2.2), d.2.2) else if K t = 22 then bP (rng (V (t + 1)) 0 9999 (t + 1)) fun x => .inr (d.1, (d.2.1.1, d.2.1.2.1, x), d.2.2) else .inr d
-- names: all unlike, of letters
def ndN : Nms → Prop
  | [] => True
  | a :: r => fnd r a.1 = none ∧ ndN r
def okW (w : List Nat) : Prop := (∀ d ∈ w, 1 ≤ d ∧ d < 27) ∧ w.length ≤ 8
def okN (l : Nms) : Prop := ∀ a ∈ l, okW a.1
theorem fnd_none {w : List Nat} : ∀ {l : Nms}, (∀ a ∈ l, a.1 ≠ w) → fnd l w = none
  | [], _ => rfl
  | a :: r, h => by
    unfold fnd
    rw [if_neg (h a List.mem_cons_self)]
    exact fnd_none fun b hb => h b (List.mem_cons_of_mem _ hb)
theorem fnd_ne {w : List Nat} : ∀ {l : Nms}, fnd l w = none → ∀ a ∈ l, a.1 ≠ w
  | [], _, a, ha => by cases ha
  | b :: r, h, a, ha => by
    unfold fnd at h
    split at h
    · cases h
    · rename_i hb
      rcases List.mem_cons.mp ha with rfl | ha
      · exact hb
      · exact fnd_ne h a ha
theorem fnd_mid {w : List Nat} {a : List Nat × Nat × Nat} {y : Nms} (ha : a.1 = w) : ∀ {x : Nms}, ndN (x ++ a :: y) → fnd (x ++ a :: y) w = some a.2
  | [], _ => by
    show fnd (a :: y) w = _
    unfold fnd
    rw [if_pos ha]
  | b :: x, h => by
    have h1 : fnd (x ++ a :: y) b.1 = none := h.1
    have h2 := fnd_ne h1 a (by simp)
    show fnd (b :: (x ++ a :: y)) w = _
    unfold fnd
    rw [if_neg (fun e => h2 (by rw [ha, e]))]
    exact fnd_mid ha h.2
theorem rf_eqW {b : Nat} {w u : List Nat} (hb1 : 27 ≤ b) (hb2 : b ≤ 32) (hw : okW w) (hu : okW u) : (lg_cmp (lN (rf b w)) (lN (rf b u)) = 0) = (w = u) := by
  rw [lg_0 (rf63 hb2 (fun d hd => by have := (hw.1 d hd).2; omega) hw.2) (rf63 hb2 (fun d hd => by have := (hu.1 d hd).2; omega) hu.2)]
  exact propext ⟨fun h => rf_inj (fun d hd => ⟨(hw.1 d hd).1, by have := (hw.1 d hd).2; omega⟩) (fun d hd => ⟨(hu.1 d hd).1, by have := (hu.1 d hd).2; omega⟩) h, fun h => by rw [h]⟩
def wW (B : Nat → Nat) (n r : Nat) : List Nat := rl B (bg B n r) (rn isL B n (bg B n r) - bg B n r)
/-- of a name -/
theorem tk_name {B : Nat → Nat} {n b : Nat} (hB : TB B n) (h : tkK B n b = 2) : b < n ∧ isL (B b) = true ∧ okW (rl B b (rn isL B n b - b)) := by
  unfold tkK at h
  by_cases c : n ≤ b
  · rw [if_pos c] at h; cases h
  rw [if_neg c] at h
  by_cases cL : isL (B b) = true
  · rw [if_pos cL] at h
    by_cases c8 : 8 < rn isL B n b - b
    · rw [if_pos c8] at h; cases h
    · obtain ⟨a1, a2, a3, a4⟩ := rn_ok (P := isL) (B := B) (n := n) (i := b) hB.1
      refine ⟨by omega, cL, rl_ok fun j h1 h2 => (a3 j h1 (by omega)).2, ?_⟩
      rw [rl_len]
      omega
  · rw [if_neg cL] at h
    split at h
    · split at h <;> cases h
    · split at h
      · rename_i h9
        exfalso
        omega
      · cases h
theorem wW_ok {B : Nat → Nat} {n r : Nat} (hB : TB B n) (h : kK B n r = 2) : okW (wW B n r) := (tk_name hB h).2.2
theorem tk_int {B : Nat → Nat} {n b : Nat} (hB : TB B n) (h : tkK B n b = 3) : b < n ∧ nv B b (rn isD B n b - b) < 10000 := by
  unfold tkK at h
  by_cases c : n ≤ b
  · rw [if_pos c] at h; cases h
  rw [if_neg c] at h
  split at h
  · split at h
    · cases h
    · split at h
      · rename_i h22
        exfalso
        omega
      · cases h
  · split at h
    · split at h
      · cases h
      · rename_i h4
        obtain ⟨a1, a2, a3, a4⟩ := rn_ok (P := isD) (B := B) (n := n) (i := b) hB.1
        refine ⟨by omega, Nat.lt_of_lt_of_le (nv_lt fun j h1 h2 => (a3 j h1 (by omega)).2) (show 10 ^ (rn isD B n b - b) ≤ 10 ^ 4 from Nat.pow_le_pow_right (by decide) (by omega))⟩
    · split at h
      · rename_i h9
        exfalso
        omega
      · cases h
theorem vV_lt {B : Nat → Nat} {n r : Nat} (hB : TB B n) (h : kK B n r = 3) : vV B n r < 10000 := (tk_int hB h).2
-- THE CLASS'S NAMES
def NmC (σ : Mm) (o : Nat) : Nms → Prop
  | [] => True
  | a :: r => (gL σ (o + 17) r.length = lN (rf 32 a.1) ∧ gI σ (o + 18) r.length = nI a.2.1 ∧ gI σ (o + 19) r.length = nI a.2.2) ∧ NmC σ o r
theorem NmC.mid {σ : Mm} {o : Nat} {a : List Nat × Nat × Nat} {y : Nms} : ∀ {x : Nms}, NmC σ o (x ++ a :: y) → gL σ (o + 17) y.length = lN (rf 32 a.1) ∧ gI σ (o + 18) y.length = nI a.2.1 ∧ gI σ (o + 19) y.length = nI a.2.2
  | [], h => h.1
  | _ :: _, h => NmC.mid h.2
theorem NmC.congr {σ τ : Mm} {o : Nat} : ∀ {l : Nms}, NmC σ o l → (∀ j, j < l.length → gL τ (o + 17) j = gL σ (o + 17) j ∧ gI τ (o + 18) j = gI σ (o + 18) j ∧ gI τ (o + 19) j = gI σ (o + 19) j) → NmC τ o l
  | [], _, _ => trivial
  | a :: r, h, he => by
    obtain ⟨e1, e2, e3⟩ := he r.length (Nat.lt_succ_self _)
    exact ⟨⟨by rw [e1]; exact h.1.1, by rw [e2]; exact h.1.2.1, by rw [e3]; exact h.1.2.2⟩, h.2.congr fun j hj => he j (Nat.lt_succ_of_lt hj)⟩
theorem c_row {N : Nat} (hN : 4000 ≤ N) {σ : Mm} {o : Nat} {l : Nms} (h : NmC σ o l) (h16 : gI σ o 16 = nI l.length) (h20 : l.length ≤ 20) (hok : okN l) {w : List Nat} (hw : okW w) : ∃ r, f3_rowOfName N o (lN (rf 32 w)) σ = some (r, σ) ∧ ((r = -1 ∧ ∀ a ∈ l, a.1 ≠ w) ∨ ∃ x a y, r = nI y.length ∧ l = x ++ a :: y ∧ a.1 = w) := by
  have key : ∀ (xr y : Nms) (fu : Nat), l = xr.reverse ++ y → xr.length < fu → (∀ a ∈ y, a.1 ≠ w) → ∃ r, f3_rowOfName_2 N o (lN (rf 32 w)) fu (nI y.length) σ = some (r, σ) ∧ ((r = -1 ∧ ∀ a ∈ l, a.1 ≠ w) ∨ ∃ x a y, r = nI y.length ∧ l = x ++ a :: y ∧ a.1 = w) := by
    intro xr
    induction xr with
    | nil =>
      intro y fu hl hfu hy
      obtain ⟨fu, rfl⟩ : ∃ g, fu = g + 1 := ⟨fu - 1, by omega⟩
      have hly : l = y := hl
      rw [f3_rowOfName_2, h16, if_pos (by rw [hly]; exact nI_rf)]
      exact ⟨-1, rfl, Or.inl ⟨rfl, by rw [hly]; exact hy⟩⟩
    | cons a xr ih =>
      intro y fu hl hfu hy
      obtain ⟨fu, rfl⟩ : ∃ g, fu = g + 1 := ⟨fu - 1, by omega⟩
      have hl2 : l = xr.reverse ++ a :: y := by rw [hl]; simp
      have hlen : y.length < l.length := by rw [hl2]; simp; omega
      have hm := (show NmC σ o (xr.reverse ++ a :: y) by rw [← hl2]; exact h).mid
      have ha : okW a.1 := hok a (by rw [hl2]; simp)
      rw [f3_rowOfName_2, h16, if_neg (nI_ge hlen (by omega)), zc_t (inBn (by omega) (by decide)), ixn (by omega), hm.1]
      by_cases c : a.1 = w
      · rw [if_pos (by rw [rf_eqW (by decide) (by decide) ha hw]; exact c)]
        exact ⟨_, rfl, Or.inr ⟨xr.reverse, a, y, rfl, hl2, c⟩⟩
      · rw [if_neg (by rw [rf_eqW (by decide) (by decide) ha hw]; exact c), z_l_eq, nI_1]
        simp only [List.length_cons] at hfu
        exact ih (a :: y) fu hl2 (by omega) fun b hb => by
          rcases List.mem_cons.mp hb with rfl | hb
          · exact c
          · exact hy b hb
  have hr : l.length < N := by omega
  exact key l.reverse [] N (by simp) (by simpa using hr) (fun a ha => by cases ha)
theorem nI_ne1 {i : Nat} (h : i < 2 ^ 31) : ¬ nI i = (-1 : Int32) := fun e => by
  have h1 := nI_toInt h
  rw [e] at h1
  have : (-1 : Int32).toInt = -1 := rfl
  omega
/-- the number of a name -/
theorem c_number {N : Nat} (hN : 4000 ≤ N) {σ : Mm} {o : Nat} {l : Nms} (h : NmC σ o l) (h16 : gI σ o 16 = nI l.length) (h20 : l.length ≤ 20) (hok : okN l) (hnd : ndN l) (hs : ∀ a ∈ l, a.2.1 < 2 ^ 31) {w : List Nat} (hw : okW w) {s t : Nat} (hs2 : s < 2 ^ 31) : f3_numberOfName N o (lN (rf 32 w)) (nI s) σ = some (match knw l w s t with
    | .inl _ => -1
    | .inr i => nI i, σ) := by
  obtain ⟨r, e, hc⟩ := c_row hN h h16 h20 hok hw
  unfold f3_numberOfName
  rw [e, z_b_some]
  rcases hc with ⟨rfl, hn⟩ | ⟨x, a, y, rfl, rfl, ha⟩
  · rw [if_pos rfl]
    unfold knw
    rw [fnd_none hn]
  · have hm := h.mid
    have hlen : y.length < 20 := by simp at h20; omega
    rw [if_neg (nI_ne1 (by omega)), zc_t (inBn hlen (by decide)), ixn (by omega), hm.2.1, hm.2.2]
    unfold knw
    rw [fnd_mid ha hnd]
    by_cases c : a.2.1 = s
    · rw [if_pos (by rw [c]), zc_t (inBn hlen (by decide))]
      dsimp only
      rw [if_pos c]
    · rw [if_neg (fun e => c ((nI_eq (hs a (by simp)) hs2).mp e))]
      dsimp only
      rw [if_neg c]
