-- WHAT A LAW TELLS
def ru (vars : Nat → Int32) : List (Nat × Nat) → List Int32 → Option (List Int32)
  | [], s => some s
  | a :: r, s => if a.1 = 0 then ru vars r (nI a.2 :: s) else if a.1 = 1 then ru vars r (vars a.2 :: s) else match s with
    | b :: x :: s' => if a.1 = 6 then ru vars r ((x + b) :: s') else if a.1 = 7 then ru vars r ((x - b) :: s') else if a.1 = 8 then ru vars r ((x * b) :: s') else if b = 0 then none else ru vars r ((x / b) :: s')
    | _ => none
def wfc : Nat → List (Nat × Nat) → Option Nat
  | h, [] => some h
  | h, a :: r => if a.1 = 0 ∨ (a.1 = 1 ∧ a.2 < 9) then (if h ≤ 14 then wfc (h + 1) r else none) else if 6 ≤ a.1 ∧ a.1 ≤ 9 ∧ 2 ≤ h then wfc (h - 1) r else none
theorem wfc_app : ∀ {h : Nat} {x y : List (Nat × Nat)}, wfc h (x ++ y) = (wfc h x).bind fun h' => wfc h' y
  | h, [], y => rfl
  | h, a :: x, y => by
    show wfc h (a :: (x ++ y)) = (wfc h (a :: x)).bind fun h' => wfc h' y
    rw [wfc, wfc]
    by_cases c : a.1 = 0 ∨ (a.1 = 1 ∧ a.2 < 9)
    · rw [if_pos c, if_pos c]
      by_cases c2 : h ≤ 14
      · rw [if_pos c2, if_pos c2]
        exact wfc_app
      · rw [if_neg c2, if_neg c2]
        rfl
    · rw [if_neg c, if_neg c]
      by_cases c2 : 6 ≤ a.1 ∧ a.1 ≤ 9 ∧ 2 ≤ h
      · rw [if_pos c2, if_pos c2]
        exact wfc_app
      · rw [if_neg c2, if_neg c2]
        rfl
theorem wfc_push {h : Nat} {l : Cd} {a : Nat × Nat} (hl : wfc 0 l.reverse = some h) (h14 : h ≤ 14) (ha : a.1 = 0 ∨ (a.1 = 1 ∧ a.2 < 9)) : wfc 0 (a :: l).reverse = some (h + 1) := by
  rw [List.reverse_cons, wfc_app, hl]
  show wfc h [a] = _
  unfold wfc
  rw [if_pos ha, if_pos h14]
  rfl
theorem wfc_op {h s : Nat} {l : Cd} (hl : wfc 0 l.reverse = some (h + 1)) (h1 : 1 ≤ h) (hs : 6 ≤ s ∧ s ≤ 9) : wfc 0 ((s, 0) :: l).reverse = some h := by
  rw [List.reverse_cons, wfc_app, hl]
  show wfc (h + 1) [(s, 0)] = _
  unfold wfc
  rw [if_neg (by show ¬ (s = 0 ∨ (s = 1 ∧ 0 < 9)); omega), if_pos (by show 6 ≤ s ∧ s ≤ 9 ∧ 2 ≤ h + 1; omega)]
  rfl
theorem ns_cons {s : Nat} {r : List Nat} (h : s ≠ 11) : (s :: r).length - dpt (s :: r) = r.length - dpt r + 1 := by
  have hd : dpt (s :: r) = dpt r := by unfold dpt; rw [List.count_cons_of_ne h]
  have hl : dpt r ≤ r.length := List.count_le_length
  rw [hd]
  simp only [List.length_cons]
  omega
theorem stl_wf {least : Nat} (h1 : 1 ≤ least) : ∀ {stk : List Nat} {l : Cd}, sw stk → wfc 0 l.reverse = some (stk.length - dpt stk + 1) → wfc 0 (stl least stk l).2.reverse = some ((stl least stk l).1.length - dpt (stl least stk l).1 + 1)
  | [], l, _, h => h
  | s :: r, l, hsw, h => by
    unfold stl
    by_cases c : least ≤ rnk s
    · rw [if_pos c]
      have hs : s ≠ 11 := fun e => by rw [e, rnk_11] at c; omega
      have hk : 6 ≤ s ∧ s ≤ 9 := by
        rcases rnk_k (k := s) with e | e | e <;> omega
      rw [ns_cons hs] at h
      exact stl_wf h1 hsw.1 (wfc_op h (by omega) hk)
    · rw [if_neg c]
      exact h
theorem cls_wf {K : Nat → Nat} : ∀ {f t t' : Nat} {stk stk' : List Nat} {l l' : Cd}, cls K f t stk l = .inr (t', stk', l') → sw stk → wfc 0 l.reverse = some (stk.length - dpt stk + 1) → wfc 0 l'.reverse = some (stk'.length - dpt stk' + 1)
  | 0, t, t', stk, stk', l, l', h, _, hw => by cases h; exact hw
  | f + 1, t, t', stk, stk', l, l', h, h1, hw => by
    simp only [cls] at h
    split at h
    · rename_i hc
      cases htk : tk1 K 12 t with
      | inl e => rw [htk] at h; cases h
      | inr t1 =>
        rw [htk] at h
        obtain ⟨r, r1, r2, r3, r4, r5⟩ := stl_11 (l := l) h1 hc.1
        have hs := stl_wf (least := 1) (Nat.le_refl _) h1 hw
        dsimp only at h
        rw [r1, List.tail_cons] at h
        refine cls_wf h r2 ?_
        rw [hs, r1]
        have hl : dpt r ≤ r.length := List.count_le_length
        rw [dpt_11]
        simp only [List.length_cons]
        congr 1
        omega
    · cases h; exact hw
theorem sumF_wf {K V : Nat → Nat} : ∀ {f t t' : Nat} {stk : List Nat} {l l' : Cd}, sumF K V f t stk l = .inr (t', l') → sw stk → dpt stk ≤ 6 → l.length + stk.length ≤ t + dpt stk → wfc 0 l.reverse = some (stk.length - dpt stk) → wfc 0 l'.reverse = some 1
  | 0, t, t', stk, l, l', h, _, _, _, _ => by cases h
  | f + 1, t, t', stk, l, l', h, hsw, hd6, hw, hwf => by
    simp only [sumF] at h
    cases ho : opn K 7 t stk with
    | inl e => rw [ho] at h; cases h
    | inr w1 =>
      obtain ⟨t1, stk1⟩ := w1
      rw [ho] at h
      dsimp only at h
      have hle := opn_le ho
      obtain ⟨o1, o2, o3, o4⟩ := opn_pure ho hsw hd6
      have hl1 := sw_len o1
      cases hu : unt K V t1 l with
      | inl e => rw [hu] at h; cases h
      | inr w2 =>
        obtain ⟨t2, l2⟩ := w2
        rw [hu] at h
        dsimp only at h
        obtain ⟨u1, -⟩ := unt_ok hu
        obtain ⟨u2, a, rfl, ha⟩ := unt_len hu
        have hd0 : dpt stk ≤ stk.length := List.count_le_length
        have hd1 : dpt stk1 ≤ stk1.length := List.count_le_length
        have hw2 : wfc 0 (a :: l).reverse = some (stk1.length - dpt stk1 + 1) := by
          rw [show stk1.length - dpt stk1 = stk.length - dpt stk by omega]
          exact wfc_push hwf (by omega) ha
        cases hc : cls K 7 t2 stk1 (a :: l) with
        | inl e => rw [hc] at h; cases h
        | inr w3 =>
          obtain ⟨t3, stk3, l3⟩ := w3
          rw [hc] at h
          dsimp only at h
          obtain ⟨c1, c2, c3, c4, c5⟩ := cls_pure hc o1 o4 (by omega) (by omega)
          have hw3 := cls_wf hc o1 hw2
          obtain ⟨n1, n2, n3⟩ := stl_ns (least := 1) (Nat.le_refl _) (stk := stk3) (o := l3)
          obtain ⟨y1, y2, -⟩ := stl_sw (least := 1) (stk := stk3) (o := l3) c1
          split at h
          · split at h
            · rename_i hd0
              have hs := stl_wf (least := 1) (Nat.le_refl _) c1 hw3
              rw [top_nil (y2 rfl) hd0] at hs
              cases h
              exact hs
            · cases h
          · rename_i er
            cases htk : tk1 K (K t3) t3 with
            | inl e => rw [htk] at h; cases h
            | inr t4 =>
              rw [htk] at h
              dsimp only at h
              obtain ⟨m1, m2, m3⟩ := stl_ns (least := rnk (K t3)) (by omega) (stk := stk3) (o := l3)
              obtain ⟨x1, x2, x3⟩ := stl_sw (least := rnk (K t3)) (stk := stk3) (o := l3) c1
              have hk10 := rnk_lt (s := K t3) (by omega)
              obtain ⟨rfl, -, -⟩ := tk1_ok htk
              have hdn : dpt (K t3 :: (stl (rnk (K t3)) stk3 l3).1) = dpt stk3 := by
                rw [← m1]
                unfold dpt
                rw [List.count_cons_of_ne hk10.2]
              have hswn : sw (K t3 :: (stl (rnk (K t3)) stk3 l3).1) := by
                refine ⟨x1, Or.inr ?_⟩
                rcases rnk_k (k := K t3) with e | e | e
                · exact absurd e.1 er
                · exact Or.inl ⟨e.1, x2 e.1⟩
                · exact Or.inr ⟨e.1, x3 e.1⟩
              refine sumF_wf h hswn (by omega) (by simp only [List.length_cons]; omega) ?_
              rw [ns_cons hk10.2]
              exact stl_wf (by omega) c1 hw3
