-- WHAT A LAW TELLS
def ru (vars : Nat → Int32) : List (Nat × Nat) → List Int32 → Option (List Int32)
  | [], s => some s
  | a :: r, s => if a.1 = 0 then ru vars r (nI a.2 :: s) else if a.1 = 1 then ru vars r (vars a.2 :: s) else match s with
    | b :: x :: s' => if a.1 = 6 then ru vars r ((x + b) :: s') else if a.1 = 7 then ru vars r ((x - b) :: s') else if a.1 = 8 then ru vars r ((x * b) :: s') else if b = 0 then none else ru vars r ((x / b) :: s')
    | _ => none
def wfc : Nat → List (Nat × Nat) → Option Nat
  | h, [] => some h
  | h, a :: r => if a.1 = 0 ∨ (a.1 = 1 ∧ a.2 < 9) then (if h ≤ 14 then wfc (h + 1) r else none) else if 6 ≤ a.1 ∧ a.1 ≤ 9 ∧ 2 ≤ h then wfc (h - 1) r else none
theorem wfc_app : ∀ {h : Nat} {x y : List (Nat × Nat)}, wfc h (x ++ y) = (wfc h x).bind fun h' => wfc h' y
  | h, [], y => rfl
  | h, a :: x, y => by
    show wfc h (a :: (x ++ y)) = _
    unfold wfc
    split
    · split
      · exact wfc_app
      · rfl
    · split
      · exact wfc_app
      · rfl
theorem wfc_push {h : Nat} {l : Cd} {a : Nat × Nat} (hl : wfc 0 l.reverse = some h) (h14 : h ≤ 14) (ha : a.1 = 0 ∨ (a.1 = 1 ∧ a.2 < 9)) : wfc 0 (a :: l).reverse = some (h + 1) := by
  rw [List.reverse_cons, wfc_app, hl]
  show wfc h [a] = _
  unfold wfc
  rw [if_pos ha, if_pos h14]
  rfl
theorem wfc_op {h s : Nat} {l : Cd} (hl : wfc 0 l.reverse = some (h + 1)) (h1 : 1 ≤ h) (hs : 6 ≤ s ∧ s ≤ 9) : wfc 0 ((s, 0) :: l).reverse = some h := by
  rw [List.reverse_cons, wfc_app, hl]
  show wfc (h + 1) [(s, 0)] = _
  unfold wfc
  rw [if_neg (by show ¬ (s = 0 ∨ (s = 1 ∧ 0 < 9)); omega), if_pos (by show 6 ≤ s ∧ s ≤ 9 ∧ 2 ≤ h + 1; omega)]
  rfl
theorem ns_cons {s : Nat} {r : List Nat} (h : s ≠ 11) : (s :: r).length - dpt (s :: r) = r.length - dpt r + 1 := by
  have hd : dpt (s :: r) = dpt r := by unfold dpt; rw [List.count_cons_of_ne h]
  have hl : dpt r ≤ r.length := List.count_le_length
  rw [hd]
  simp only [List.length_cons]
  omega
theorem stl_wf {least : Nat} (h1 : 1 ≤ least) : ∀ {stk : List Nat} {l : Cd}, sw stk → wfc 0 l.reverse = some (stk.length - dpt stk + 1) → wfc 0 (stl least stk l).2.reverse = some ((stl least stk l).1.length - dpt (stl least stk l).1 + 1)
  | [], l, _, h => h
  | s :: r, l, hsw, h => by
    unfold stl
    by_cases c : least ≤ rnk s
    · rw [if_pos c]
      have hs : s ≠ 11 := fun e => by rw [e, rnk_11] at c; omega
      have hk : 6 ≤ s ∧ s ≤ 9 := by
        rcases rnk_k (k := s) with e | e | e <;> omega
      rw [ns_cons hs] at h
      exact stl_wf h1 hsw.1 (wfc_op h (by omega) hk)
    · rw [if_neg c]
      exact h
theorem cls_wf {K : Nat → Nat} : ∀ {f t t' : Nat} {stk stk' : List Nat} {l l' : Cd}, cls K f t stk l = .inr (t', stk', l') → sw stk → wfc 0 l.reverse = some (stk.length - dpt stk + 1) → wfc 0 l'.reverse = some (stk'.length - dpt stk' + 1)
  | 0, t, t', stk, stk', l, l', h, _, hw => by cases h; exact hw
  | f + 1, t, t', stk, stk', l, l', h, h1, hw => by
    simp only [cls] at h
    split at h
    · rename_i hc
      cases htk : tk1 K 12 t with
      | inl e => rw [htk] at h; cases h
      | inr t1 =>
        rw [htk] at h
        obtain ⟨r, r1, r2, r3, r4, r5⟩ := stl_11 (l := l) h1 hc.1
        have hs := stl_wf (least := 1) (Nat.le_refl _) h1 hw
        dsimp only at h
        rw [r1, List.tail_cons] at h
        refine cls_wf h r2 ?_
        rw [hs, r1]
        have hl : dpt r ≤ r.length := List.count_le_length
        rw [dpt_11]
        simp only [List.length_cons]
        congr 1
        omega
    · cases h; exact hw
theorem sumF_wf {K V : Nat → Nat} : ∀ {f t t' : Nat} {stk : List Nat} {l l' : Cd}, sumF K V f t stk l = .inr (t', l') → sw stk → dpt stk ≤ 6 → l.length + stk.length ≤ t + dpt stk → wfc 0 l.reverse = some (stk.length - dpt stk) → wfc 0 l'.reverse = some 1
  | 0, t, t', stk, l, l', h, _, _, _, _ => by cases h
  | f + 1, t, t', stk, l, l', h, hsw, hd6, hw, hwf => by
    simp only [sumF] at h
    cases ho : opn K 7 t stk with
    | inl e => rw [ho] at h; cases h
    | inr w1 =>
      obtain ⟨t1, stk1⟩ := w1
      rw [ho] at h
      dsimp only at h
      have hle := opn_le ho
      obtain ⟨o1, o2, o3, o4⟩ := opn_pure ho hsw hd6
      have hl1 := sw_len o1
      cases hu : unt K V t1 l with
      | inl e => rw [hu] at h; cases h
      | inr w2 =>
        obtain ⟨t2, l2⟩ := w2
        rw [hu] at h
        dsimp only at h
        obtain ⟨u1, -⟩ := unt_ok hu
        obtain ⟨u2, a, rfl, ha⟩ := unt_len hu
        have hd0 : dpt stk ≤ stk.length := List.count_le_length
        have hd1 : dpt stk1 ≤ stk1.length := List.count_le_length
        have hw2 : wfc 0 (a :: l).reverse = some (stk1.length - dpt stk1 + 1) := by
          rw [show stk1.length - dpt stk1 = stk.length - dpt stk by omega]
          exact wfc_push hwf (by omega) ha
        cases hc : cls K 7 t2 stk1 (a :: l) with
        | inl e => rw [hc] at h; cases h
        | inr w3 =>
          obtain ⟨t3, stk3, l3⟩ := w3
          rw [hc] at h
          dsimp only at h
          obtain ⟨c1, c2, c3, c4, c5⟩ := cls_pure hc o1 o4 (by omega) (by omega)
          have hw3 := cls_wf hc o1 hw2
          obtain ⟨n1, n2, n3⟩ := stl_ns (least := 1) (Nat.le_refl _) (stk := stk3) (o := l3)
          obtain ⟨y1, y2, -⟩ := stl_sw (least := 1) (stk := stk3) (o := l3) c1
          split at h
          · split at h
            · rename_i hd0
              have hs := stl_wf (least := 1) (Nat.le_refl _) c1 hw3
              rw [top_nil (y2 rfl) hd0] at hs
              cases h
              exact hs
            · cases h
          · rename_i er
            cases htk : tk1 K (K t3) t3 with
            | inl e => rw [htk] at h; cases h
            | inr t4 =>
              rw [htk] at h
              dsimp only at h
              obtain ⟨m1, m2, m3⟩ := stl_ns (least := rnk (K t3)) (by omega) (stk := stk3) (o := l3)
              obtain ⟨x1, x2, x3⟩ := stl_sw (least := rnk (K t3)) (stk := stk3) (o := l3) c1
              have hk10 := rnk_lt (s := K t3) (by omega)
              obtain ⟨rfl, -, -⟩ := tk1_ok htk
              have hdn : dpt (K t3 :: (stl (rnk (K t3)) stk3 l3).1) = dpt stk3 := by
                rw [← m1]
                unfold dpt
                rw [List.count_cons_of_ne hk10.2]
              have hswn : sw (K t3 :: (stl (rnk (K t3)) stk3 l3).1) := by
                refine ⟨x1, Or.inr ?_⟩
                rcases rnk_k (k := K t3) with e | e | e
                · exact absurd e.1 er
                · exact Or.inl ⟨e.1, x2 e.1⟩
                · exact Or.inr ⟨e.1, x3 e.1⟩
              refine sumF_wf h hswn (by omega) (by simp only [List.length_cons]; omega) ?_
              rw [ns_cons hk10.2]
              exact stl_wf (by omega) c1 hw3
/-- an E that is told -/
def wfE (e : Cd) : Prop := wfc 0 e.reverse = some 1
theorem sum_wf {K V : Nat → Nat} {t : Nat} {w : Nat × Cd} (h : sumF K V 401 t [] [] = .inr w) : wfE w.2 := sumF_wf (t' := w.1) (l' := w.2) h trivial (by decide) (by show 0 + 0 ≤ t + 0; omega) rfl
def wfL (w : Lw) : Prop := (∀ x ∈ w.1, wfE x.1 ∧ wfE x.2.1 ∧ wfE x.2.2) ∧ wfE w.2
theorem lwE_wf {K V : Nat → Nat} {t : Nat} {w : Nat × Lw} (h : lwE K V t = .inr w) : wfL w.2 := by
  obtain ⟨v, h1, h⟩ := bP_inr h
  obtain ⟨t2, h2, h⟩ := bP_inr h
  cases h
  exact ⟨fun x hx => by cases hx, sum_wf h1⟩
theorem lawF_wf {K V : Nat → Nat} : ∀ {f t : Nat} {w : Nat × Lw}, lawF K V f t = .inr w → wfL w.2
  | 0, t, w, h => by
    unfold lawF at h
    split at h
    · cases h
    · exact lwE_wf h
  | f + 1, t, w, h => by
    unfold lawF at h
    split at h
    · obtain ⟨t1, h1, h⟩ := bP_inr h
      obtain ⟨v2, h2, h⟩ := bP_inr h
      obtain ⟨t3, h3, h⟩ := bP_inr h
      obtain ⟨v4, h4, h⟩ := bP_inr h
      obtain ⟨t5, h5, h⟩ := bP_inr h
      obtain ⟨v6, h6, h⟩ := bP_inr h
      obtain ⟨t7, h7, h⟩ := bP_inr h
      obtain ⟨w8, h8, hz⟩ := bP_inr h
      have ih := lawF_wf h8
      cases hz
      refine ⟨fun x hx => ?_, ih.2⟩
      rcases List.mem_cons.mp hx with rfl | hx
      · exact ⟨sum_wf h2, sum_wf h4, sum_wf h6⟩
      · exact ih.1 x hx
    · exact lwE_wf h
theorem gTell_wf {K V : Nat → Nat} {c : Cn} {t : Nat} {w : Nat × Cn × Option (Nat × Lw)} (h : gTell K V c t = .inr w) : ∀ k u, w.2.2 = some (k, u) → wfL u := by
  intro k u hu
  by_cases hl : 17 ≤ K t ∧ K t ≤ 20
  · unfold gTell at h
    rw [if_neg (by omega), if_neg (by omega), if_neg (by omega), if_neg (by omega), if_pos hl] at h
    obtain ⟨w2, hw2, h⟩ := bP_inr h
    cases h
    cases hu
    obtain ⟨t1, h1, hw2⟩ := bP_inr hw2
    obtain ⟨t2, h2, hw2⟩ := bP_inr hw2
    exact lawF_wf hw2
  · rw [gTell_none h hl] at hu
    cases hu
def wfT (lw : LwT) : Prop := ∀ k w, lw k = some w → wfL w
theorem gAll_wf {K V : Nat → Nat} : ∀ {f t : Nat} {c : Cn} {lw : LwT} {res : Cn × LwT}, gAll K V f t c lw = .inr res → wfT lw → wfT res.2
  | 0, t, c, lw, res, h, hw => by cases h; exact hw
  | f + 1, t, c, lw, res, h, hw => by
    unfold gAll at h
    split at h
    · cases h; exact hw
    · obtain ⟨w, h1, h⟩ := bP_inr h
      refine gAll_wf h ?_
      intro k u hu
      cases hx : w.2.2 with
      | none => rw [hx] at hu; exact hw k u hu
      | some y =>
        obtain ⟨j, v⟩ := y
        rw [hx] at hu
        have hu : (if k = j then some v else lw k) = some u := hu
        by_cases e : k = j
        · rw [if_pos e] at hu
          cases hu
          exact gTell_wf h1 j v hx
        · rw [if_neg e] at hu
          exact hw k u hu
-- runs that end
theorem ru_len {vars : Nat → Int32} : ∀ {c : List (Nat × Nat)} {h h' : Nat} {s : List Int32}, wfc h c = some h' → s.length = h → ru vars c s = none ∨ ∃ s', ru vars c s = some s' ∧ s'.length = h'
  | [], h, h', s, hw, hs => by cases hw; exact Or.inr ⟨s, rfl, hs⟩
  | a :: r, h, h', s, hw, hs => by
    unfold wfc at hw
    unfold ru
    split at hw
    · rename_i ha
      split at hw
      · rcases ha with e | ⟨e, -⟩
        · rw [if_pos e]
          exact ru_len hw (by simp only [List.length_cons]; omega)
        · rw [if_neg (by omega), if_pos e]
          exact ru_len hw (by simp only [List.length_cons]; omega)
      · cases hw
    · split at hw
      · rename_i ha hb
        rw [if_neg (by omega), if_neg (by omega)]
        match s, hs with
        | [], hs => simp at hs; omega
        | [_], hs => simp at hs; omega
        | b :: x :: s', hs =>
          simp only [List.length_cons] at hs
          dsimp only
          split
          · exact ru_len hw (by simp only [List.length_cons]; omega)
          · split
            · exact ru_len hw (by simp only [List.length_cons]; omega)
            · split
              · exact ru_len hw (by simp only [List.length_cons]; omega)
              · split
                · exact Or.inl rfl
                · exact ru_len hw (by simp only [List.length_cons]; omega)
      · cases hw
def ev (vars : Nat → Int32) (e : Cd) : Option Int32 := (ru vars e.reverse []).bind fun s => s.head?
theorem ev_run {vars : Nat → Int32} {e : Cd} (h : wfE e) : (ru vars e.reverse [] = none ∧ ev vars e = none) ∨ ∃ v, ru vars e.reverse [] = some [v] ∧ ev vars e = some v := by
  rcases ru_len (vars := vars) (s := []) h rfl with e1 | ⟨s', e1, e2⟩
  · exact Or.inl ⟨e1, by unfold ev; rw [e1]; rfl⟩
  · match s', e2 with
    | [v], _ => exact Or.inr ⟨v, e1, by unfold ev; rw [e1]; rfl⟩
def lawE (vars : Nat → Int32) : List (Cd × Cd × Cd) → Cd → Int32
  | [], e => (ev vars e).getD 0
  | w :: r, e => match ev vars w.1 with
    | none => 0
    | some u => match ev vars w.2.1 with
      | none => 0
      | some v => if u < v then (ev vars w.2.2).getD 0 else lawE vars r e
theorem ru_congr {f g : Nat → Int32} (hfg : ∀ j, j < 9 → f j = g j) : ∀ {c : List (Nat × Nat)} {h h' : Nat} {s : List Int32}, wfc h c = some h' → ru f c s = ru g c s
  | [], h, h', s, _ => rfl
  | a :: r, h, h', s, hw => by
    unfold wfc at hw
    unfold ru
    split at hw
    · rename_i ha
      split at hw
      · rcases ha with e | ⟨e, e9⟩
        · rw [if_pos e, if_pos e]
          exact ru_congr hfg hw
        · rw [if_neg (by omega), if_pos e, if_neg (by omega), if_pos e, hfg _ e9]
          exact ru_congr hfg hw
      · cases hw
    · split at hw
      · rename_i ha hb
        rw [if_neg (by omega), if_neg (by omega), if_neg (by omega), if_neg (by omega)]
        match s with
        | [] => rfl
        | [_] => rfl
        | b :: x :: s' =>
          dsimp only
          rw [ru_congr hfg hw (s := (x + b) :: s'), ru_congr hfg hw (s := (x - b) :: s'), ru_congr hfg hw (s := (x * b) :: s'), ru_congr hfg hw (s := (x / b) :: s')]
      · cases hw
theorem ev_congr {f g : Nat → Int32} (hfg : ∀ j, j < 9 → f j = g j) {e : Cd} (h : wfE e) : ev f e = ev g e := by
  unfold ev
  rw [ru_congr hfg h]
theorem lawE_congr {f g : Nat → Int32} (hfg : ∀ j, j < 9 → f j = g j) : ∀ {r : List (Cd × Cd × Cd)} {e : Cd}, (∀ x ∈ r, wfE x.1 ∧ wfE x.2.1 ∧ wfE x.2.2) → wfE e → lawE f r e = lawE g r e
  | [], e, _, he => by unfold lawE; rw [ev_congr hfg he]
  | w :: r, e, h, he => by
    obtain ⟨a, b, c⟩ := h w List.mem_cons_self
    unfold lawE
    rw [ev_congr hfg a, ev_congr hfg b, ev_congr hfg c, lawE_congr hfg (fun x hx => h x (List.mem_cons_of_mem _ hx)) he]
