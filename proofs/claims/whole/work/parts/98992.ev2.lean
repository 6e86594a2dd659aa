-- WHAT A LAW TELLS: runs that end
/-- an E that is told -/
def wfE (e : Cd) : Prop := wfc 0 e.reverse = some 1
theorem sum_wf {K V : Nat → Nat} {t : Nat} {w : Nat × Cd} (h : sumF K V 401 t [] [] = .inr w) : wfE w.2 := by
  obtain ⟨t', e⟩ := w
  have h0 : dpt ([] : List Nat) ≤ 6 := by decide
  have h1 : ([] : Cd).length + ([] : List Nat).length ≤ t + dpt [] := Nat.zero_le _
  exact sumF_wf (f := 401) (t := t) (stk := []) (l := []) h trivial h0 h1 rfl
def wfL (w : Lw) : Prop := (∀ x ∈ w.1, wfE x.1 ∧ wfE x.2.1 ∧ wfE x.2.2) ∧ wfE w.2
theorem lwE_wf {K V : Nat → Nat} {t : Nat} {w : Nat × Lw} (h : lwE K V t = .inr w) : wfL w.2 := by
  obtain ⟨v, h1, h⟩ := bP_inr h
  obtain ⟨t2, h2, h⟩ := bP_inr h
  cases h
  exact ⟨fun x hx => (by cases hx), sum_wf h1⟩
theorem lawF_wf {K V : Nat → Nat} : ∀ {f t : Nat} {w : Nat × Lw}, lawF K V f t = .inr w → wfL w.2
  | 0, t, w, h => by
    unfold lawF at h
    split at h
    · cases h
    · exact lwE_wf h
  | f + 1, t, w, h => by
    unfold lawF at h
    split at h
    · obtain ⟨t1, h1, h⟩ := bP_inr h
      obtain ⟨v2, h2, h⟩ := bP_inr h
      obtain ⟨t3, h3, h⟩ := bP_inr h
      obtain ⟨v4, h4, h⟩ := bP_inr h
      obtain ⟨t5, h5, h⟩ := bP_inr h
      obtain ⟨v6, h6, h⟩ := bP_inr h
      obtain ⟨t7, h7, h⟩ := bP_inr h
      obtain ⟨w8, h8, hz⟩ := bP_inr h
      have ih := lawF_wf h8
      cases hz
      refine ⟨fun x hx => ?_, ih.2⟩
      rcases List.mem_cons.mp hx with rfl | hx
      · exact ⟨sum_wf h2, sum_wf h4, sum_wf h6⟩
      · exact ih.1 x hx
    · exact lwE_wf h
theorem gTell_wf {K V : Nat → Nat} {c : Cn} {t : Nat} {w : Nat × Cn × Option (Nat × Lw)} (h : gTell K V c t = .inr w) : ∀ k u, w.2.2 = some (k, u) → wfL u := by
  intro k u hu
  by_cases hl : 17 ≤ K t ∧ K t ≤ 20
  · unfold gTell at h
    rw [if_neg (by omega), if_neg (by omega), if_neg (by omega), if_neg (by omega), if_pos hl] at h
    obtain ⟨w2, hw2, h⟩ := bP_inr h
    cases h
    cases hu
    obtain ⟨t1, h1, hw2⟩ := bP_inr hw2
    obtain ⟨t2, h2, hw2⟩ := bP_inr hw2
    exact lawF_wf hw2
  · rw [gTell_none h hl] at hu
    cases hu
def wfT (lw : LwT) : Prop := ∀ k w, lw k = some w → wfL w
theorem gAll_wf {K V : Nat → Nat} : ∀ {f t : Nat} {c : Cn} {lw : LwT} {res : Cn × LwT}, gAll K V f t c lw = .inr res → wfT lw → wfT res.2
  | 0, t, c, lw, res, h, hw => by cases h; exact hw
  | f + 1, t, c, lw, res, h, hw => by
    unfold gAll at h
    split at h
    · cases h; exact hw
    · obtain ⟨w, h1, h⟩ := bP_inr h
      refine gAll_wf h ?_
      intro k u hu
      cases hx : w.2.2 with
      | none => rw [hx] at hu; exact hw k u hu
      | some y =>
        obtain ⟨j, v⟩ := y
        rw [hx] at hu
        have hu : (if k = j then some v else lw k) = some u := hu
        by_cases e : k = j
        · rw [if_pos e] at hu
          have hvu : v = u := by injection hu
          rw [← hvu]
          exact gTell_wf h1 j v hx
        · rw [if_neg e] at hu
          exact hw k u hu
-- runs that end
theorem ru_len {vars : Nat → Int32} : ∀ {c : List (Nat × Nat)} {h h' : Nat} {s : List Int32}, wfc h c = some h' → s.length = h → ru vars c s = none ∨ ∃ s', ru vars c s = some s' ∧ s'.length = h'
  | [], h, h', s, hw, hs => by cases hw; exact Or.inr ⟨s, rfl, hs⟩
  | a :: r, h, h', s, hw, hs => by
    unfold wfc at hw
    unfold ru
    split at hw
    · rename_i ha
      split at hw
      · rcases ha with e | ⟨e, -⟩
        · rw [if_pos e]
          exact ru_len hw (by simp only [List.length_cons]; omega)
        · rw [if_neg (by omega), if_pos e]
          exact ru_len hw (by simp only [List.length_cons]; omega)
      · cases hw
    · split at hw
      · rename_i ha hb
        rw [if_neg (by omega), if_neg (by omega)]
        match s, hs with
        | [], hs => simp at hs; omega
        | [_], hs => simp at hs; omega
        | b :: x :: s', hs =>
          simp only [List.length_cons] at hs
          dsimp only
          split
          · exact ru_len hw (by simp only [List.length_cons]; omega)
          · split
            · exact ru_len hw (by simp only [List.length_cons]; omega)
            · split
              · exact ru_len hw (by simp only [List.length_cons]; omega)
              · split
                · exact Or.inl rfl
                · exact ru_len hw (by simp only [List.length_cons]; omega)
      · cases hw
def ev (vars : Nat → Int32) (e : Cd) : Option Int32 := (ru vars e.reverse []).bind fun s => s.head?
theorem ev_run {vars : Nat → Int32} {e : Cd} (h : wfE e) : (ru vars e.reverse [] = none ∧ ev vars e = none) ∨ ∃ v, ru vars e.reverse [] = some [v] ∧ ev vars e = some v := by
  rcases ru_len (vars := vars) (s := []) h rfl with e1 | ⟨s', e1, e2⟩
  · exact Or.inl ⟨e1, by unfold ev; rw [e1]; rfl⟩
  · match s', e2 with
    | [v], _ => exact Or.inr ⟨v, e1, by unfold ev; rw [e1]; rfl⟩
def lawE (vars : Nat → Int32) : List (Cd × Cd × Cd) → Cd → Int32
  | [], e => (ev vars e).getD 0
  | w :: r, e => match ev vars w.1 with
    | none => 0
    | some u => match ev vars w.2.1 with
      | none => 0
      | some v => if u < v then (ev vars w.2.2).getD 0 else lawE vars r e
theorem ru_congr {f g : Nat → Int32} (hfg : ∀ j, j < 9 → f j = g j) : ∀ {c : List (Nat × Nat)} {h h' : Nat} {s : List Int32}, wfc h c = some h' → ru f c s = ru g c s
  | [], h, h', s, _ => rfl
  | a :: r, h, h', s, hw => by
    unfold wfc at hw
    unfold ru
    split at hw
    · rename_i ha
      split at hw
      · rcases ha with e | ⟨e, e9⟩
        · rw [if_pos e, if_pos e]
          exact ru_congr hfg hw
        · rw [if_neg (by omega), if_pos e, if_neg (by omega), if_pos e, hfg _ e9]
          exact ru_congr hfg hw
      · cases hw
    · split at hw
      · rename_i ha hb
        rw [if_neg (by omega), if_neg (by omega), if_neg (by omega), if_neg (by omega)]
        match s with
        | [] => rfl
        | [_] => rfl
        | b :: x :: s' =>
          dsimp only
          rw [ru_congr hfg hw (s := (x + b) :: s'), ru_congr hfg hw (s := (x - b) :: s'), ru_congr hfg hw (s := (x * b) :: s'), ru_congr hfg hw (s := (x / b) :: s')]
      · cases hw
theorem ev_congr {f g : Nat → Int32} (hfg : ∀ j, j < 9 → f j = g j) {e : Cd} (h : wfE e) : ev f e = ev g e := by
  unfold ev
  rw [ru_congr hfg h]
theorem lawE_congr {f g : Nat → Int32} (hfg : ∀ j, j < 9 → f j = g j) : ∀ {r : List (Cd × Cd × Cd)} {e : Cd}, (∀ x ∈ r, wfE x.1 ∧ wfE x.2.1 ∧ wfE x.2.2) → wfE e → lawE f r e = lawE g r e
  | [], e, _, he => by unfold lawE; rw [ev_congr hfg he]
  | w :: r, e, h, he => by
    obtain ⟨a, b, c⟩ := h w List.mem_cons_self
    unfold lawE
    rw [ev_congr hfg a, ev_congr hfg b, ev_congr hfg c, lawE_congr hfg (fun x hx => h x (List.mem_cons_of_mem _ hx)) he]
