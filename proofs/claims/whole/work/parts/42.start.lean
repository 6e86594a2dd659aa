theorem lc_7 : Cond.classLink RL 7 (clC 10) ∈ lw_g := in_g (List.mem_of_getElem? (i := 126) (by decide +kernel)) rfl
theorem lc_10 : Cond.classLink RL 10 (clC 11) ∈ lw_g := in_g (List.mem_of_getElem? (i := 1231) (by decide +kernel)) rfl
theorem ins_10 : Cond.instantiable (clC 10) 17 ∈ lw_g := in_g (List.mem_of_getElem? (i := 127) (by decide +kernel)) rfl
theorem ini_10 : Cond.initialized (clC 10) ∈ lw_g := in_g (List.mem_of_getElem? (i := 105) (by decide +kernel)) rfl
theorem ins_11 : Cond.instantiable (clC 11) 74 ∈ lw_g := in_g (List.mem_of_getElem? (i := 1232) (by decide +kernel)) rfl
theorem ini_11 : Cond.initialized (clC 11) ∈ lw_g := in_g (List.mem_of_getElem? (i := 120) (by decide +kernel)) rfl
set_option maxRecDepth 100000 in
theorem li_9 : MI RL 9 yX10_init cX10_init 1 0 := ⟨Or.inl (in_g (List.mem_of_getElem? (i := 128) (by decide +kernel)) rfl), in_g (List.mem_of_getElem? (i := 129) (by decide +kernel)) rfl, in_g (List.mem_of_getElem? (i := 105) (by decide +kernel)) rfl, in_g (List.mem_of_getElem? (i := 130) (by decide +kernel)) rfl, rfl, by decide +kernel, by decide +kernel, by decide +kernel⟩
set_option maxRecDepth 100000 in
theorem li_12 : MI RL 12 yX11_init cX11_init 1 0 := ⟨Or.inl (in_g (List.mem_of_getElem? (i := 1233) (by decide +kernel)) rfl), in_g (List.mem_of_getElem? (i := 1234) (by decide +kernel)) rfl, in_g (List.mem_of_getElem? (i := 120) (by decide +kernel)) rfl, in_g (List.mem_of_getElem? (i := 1235) rfl) rfl, rfl, by decide +kernel, by decide +kernel, by decide +kernel⟩
theorem nest_in : ∀ q ∈ nestL, Cond.methodLinkNest q.1 q.2.1 q.2.2 "TurfGiving" ∈ lw_tbl := by
  intro q hq
  simp only [nestL, List.mem_cons, List.not_mem_nil, or_false] at hq
  rcases hq with rfl | rfl | rfl | rfl | rfl | rfl | rfl
  · exact List.mem_of_getElem? (i := 218) (by decide +kernel)
  · exact List.mem_of_getElem? (i := 250) (by decide +kernel)
  · exact List.mem_of_getElem? (i := 422) (by decide +kernel)
  · exact List.mem_of_getElem? (i := 425) (by decide +kernel)
  · exact List.mem_of_getElem? (i := 487) (by decide +kernel)
  · exact List.mem_of_getElem? (i := 511) (by decide +kernel)
  · exact List.mem_of_getElem? (i := 512) (by decide +kernel)
/-- no cell yet -/
def σz : Mm := (fun _ _ => 0, fun _ _ => 0, fun _ _ => none)
/-- the law, as a pure function -/
def fL_start (N L : Nat) (xs : Nat → Int32) : Option (Int32 × Mm) :=
  z_l (clr σz 0) fun σ1 => z_b (f10_init N σ1) fun _ σ2 => z_l (clr σ2 160) fun σ3 => z_b (f11_init N σ3) fun _ σ4 => fL_18 N L xs N (0 : Int32) σ4
theorem arr_known {s : State} {args : Array Value} {ty : FieldType} (h : (Cond.arrayClass ty).before args s = true) : ∃ cA : ClassId, ArrOfT s cA ty ∧ s.vm.findClass ("[" ++ ty.toString) = some cA := by
  obtain ⟨c, k, comp, h1, h2, h3⟩ := Cond.arrayClass_spec h
  exact ⟨c, fun n z => ⟨fun k h => (by cases h), k, h2, comp, h3⟩, h1⟩
theorem arrq_known {s : State} {args : Array Value} {C : String} (h : (Cond.arrayOver (.object C)).before args s = true) : ∃ cA : ClassId, ArrOfT s cA (.object C) ∧ va_RA s cA (.object C) := by
  obtain ⟨comp, c, k, h1, h2, h3, h4, h5⟩ := Cond.arrayOver_spec h
  exact ⟨c, fun n z => ⟨fun k h => (by cases h), k, h3, comp, h4⟩, k, comp, h3, h4, h1, h5⟩
def sTm (i : Nat) : Term := if i = 0 then .string "TurfGiving$Text" 70 else .string "TurfGiving$Text" 32
def gnT : List Cond := flatC (Jvm.Cond.and given_1 narrow_1)
def sElT (i j : Nat) : Cond := Cond.eq (.elem (.field (sTm i) "java/lang/String" "value" "[B") (.int (Int32.ofNat j))) (.int ((sBy.getD i []).getD j 0))
set_option maxRecDepth 100000 in
theorem sx_e0 : (gnT.drop 217).take 9 = (List.range 9).map (sElT 0) := by rfl
set_option maxRecDepth 100000 in
theorem sx_e1 : (gnT.drop 37).take 176 = (List.range 176).map (sElT 1) := by rfl
theorem sx_el {i j : Nat} (hi : i < 2) (hj : j < sLen.getD i 0) : sElT i j ∈ gnT := by
  rcases (show i = 0 ∨ i = 1 by omega) with rfl | rfl
  · have h : sElT 0 j ∈ (gnT.drop 217).take 9 := by rw [sx_e0]; exact List.mem_map.mpr ⟨j, List.mem_range.mpr hj, rfl⟩
    exact List.mem_of_mem_drop (List.mem_of_mem_take h)
  · have h : sElT 1 j ∈ (gnT.drop 37).take 176 := by rw [sx_e1]; exact List.mem_map.mpr ⟨j, List.mem_range.mpr hj, rfl⟩
    exact List.mem_of_mem_drop (List.mem_of_mem_take h)
theorem sx_a {i : Nat} (hi : i < 2) : (Cond.exactly (sTm i) "java/lang/String") ∈ gnT := by
  rcases (show i = 0 ∨ i = 1 by omega) with rfl | rfl
  · exact List.mem_of_getElem? (i := 213) (by decide +kernel)
  · exact List.mem_of_getElem? (i := 33) (by decide +kernel)
theorem sx_b {i : Nat} (hi : i < 2) : (Cond.eq (.field (sTm i) "java/lang/String" "coder" "B") (.int 0)) ∈ gnT := by
  rcases (show i = 0 ∨ i = 1 by omega) with rfl | rfl
  · exact List.mem_of_getElem? (i := 214) (by decide +kernel)
  · exact List.mem_of_getElem? (i := 34) (by decide +kernel)
theorem sx_c {i : Nat} (hi : i < 2) : (Cond.arrayOf (.field (sTm i) "java/lang/String" "value" "[B") .byte) ∈ gnT := by
  rcases (show i = 0 ∨ i = 1 by omega) with rfl | rfl
  · exact List.mem_of_getElem? (i := 215) (by decide +kernel)
  · exact List.mem_of_getElem? (i := 35) (by decide +kernel)
theorem sx_d {i : Nat} (hi : i < 2) : (Cond.eq (.length (.field (sTm i) "java/lang/String" "value" "[B")) (.int (Int32.ofNat (sLen.getD i 0)))) ∈ gnT := by
  rcases (show i = 0 ∨ i = 1 by omega) with rfl | rfl
  · exact List.mem_of_getElem? (i := 216) (by decide +kernel)
  · exact List.mem_of_getElem? (i := 36) (by decide +kernel)
theorem sx_n : (Cond.not (Cond.eq (sTm 1) (sTm 0))) ∈ gnT := List.mem_of_getElem? (i := 226) (by decide +kernel)
theorem sx_cs : (Cond.eq (.static "java/lang/String" "COMPACT_STRINGS" "Z") (.int 1)) ∈ gnT := List.mem_of_getElem? (i := 4) (by decide +kernel)
theorem sx_fm : (Cond.isRef (.static "jdk/internal/util/Preconditions" "SIOOBE_FORMATTER" "Ljava/util/function/BiFunction;")) ∈ gnT := List.mem_of_getElem? (i := 5) (by decide +kernel)
set_option maxHeartbeats 8000000 in
set_option maxRecDepth 100000 in
theorem whole_open {p : Program} {e : Env} {s : State} {m : MethodId} {below : List Frame} {meth : Method} {c : Code} (l : Launch) {b L : Nat} {xs : Nat → Int32} (hp : ∃ (N : Nat) (σ0 : Mm), fL_start N L xs = some (1, σ0)) (C0 : lw_At p s m meth c b L xs) : W p l e room_1 s m #[Value.ref b] below meth c s.heap [] 0 0 (lw_Z below #[Value.ref b] s) (entryFrame m ([Value.ref b] : List Value).toArray 4) := by
  obtain ⟨hx, hb, hr, hml, hown, hts, hX, hbl, hlocks, hgv⟩ := id C0
  obtain ⟨N, σ0, hf⟩ := hp
  have hs := flat_of_before _ hgv
  have hA0 : ∀ a : Nat, a < s.heap.size → ¬ (fun q : Nat => s.heap.size ≤ q) a := fun a h => Nat.not_le.mpr h
  -- classes
  obtain ⟨dC, dI, hKc⟩ : ∃ (dC : Nat → ClassId) (dI : Nat → Nat → Nat), ∀ (k : Nat) (q : vw_C), vwCl[k]? = some q → u_Kn s q.1 q.2.1 q.2.2 (dC k) (dI k) := by
    have h : ∀ k : Nat, ∃ q : ClassId × (Nat → Nat), k < 12 → u_Kn s (clC k) (clT k) (clN k) q.1 q.2 := by
      intro k
      by_cases hk : k < 12
      · have hi : (Cond.instantiable (clC k) (clN k)).before #[Value.ref b] s = true := hts _ (by
          refine cl12 (P := fun k => Cond.instantiable (clC k) (clN k) ∈ lw_tbl) ?_ ?_ ?_ ?_ ?_ ?_ ?_ ?_ ?_ ?_ ?_ ?_ hk
          · exact List.mem_of_getElem? (i := 456) (by decide +kernel)
          · exact List.mem_of_getElem? (i := 217) (by decide +kernel)
          · exact List.mem_of_getElem? (i := 369) (by decide +kernel)
          · exact List.mem_of_getElem? (i := 211) (by decide +kernel)
          · exact List.mem_of_getElem? (i := 249) (by decide +kernel)
          · exact List.mem_of_getElem? (i := 424) (by decide +kernel)
          · exact List.mem_of_getElem? (i := 502) (by decide +kernel)
          · exact List.mem_of_getElem? (i := 486) (by decide +kernel)
          · exact List.mem_of_getElem? (i := 406) (by decide +kernel)
          · exact List.mem_of_getElem? (i := 135) (by decide +kernel)
          · exact List.mem_of_getElem? (i := 127) (by decide +kernel)
          · exact List.mem_of_getElem? (i := 1232) (by decide +kernel))
        obtain ⟨cC, iS, h⟩ := u_known (C := clC k) (T := clT k) (N := clN k) hts (fun w hw => (List.mem_filter.mp (cl_in hk w hw)).1) hi
        exact ⟨(cC, iS), fun _ => h⟩
      · exact ⟨(0, fun _ => 0), fun h => absurd h hk⟩
    refine ⟨fun k => (Classical.choose (h k)).1, fun k => (Classical.choose (h k)).2, fun k q hq => ?_⟩
    have hk : k < 12 := (List.getElem?_eq_some_iff.mp hq).1
    rw [vw_at hk] at hq
    cases hq
    exact Classical.choose_spec (h k) hk
  -- arrays
  obtain ⟨cB, hB1, hB2⟩ := arr_known (hts _ (List.mem_filter.mp ja_byte).1)
  obtain ⟨cI, hI1, hI2⟩ := arr_known (hts _ (List.mem_filter.mp ja_int).1)
  obtain ⟨cJ, hJ1, hJ2⟩ := arr_known (hts _ (List.mem_filter.mp ja_long).1)
  obtain ⟨cZ, hZ1, hZ2⟩ := arr_known (hts _ (List.mem_filter.mp ja_boolean).1)
  have hoG : (Cond.arrayOver (.object RX1)).before #[Value.ref b] s = true := hts _ (List.mem_of_getElem? (i := 510) (by decide +kernel))
  have hoM : (Cond.arrayOver (.object RX5)).before #[Value.ref b] s = true := hts _ (List.mem_of_getElem? (i := 508) (by decide +kernel))
  obtain ⟨cG, hG1, hG2⟩ := arrq_known hoG
  obtain ⟨cM, hM1, hM2⟩ := arrq_known hoM
  -- strings
  obtain ⟨aK, aV, hS1, hS2⟩ := vk_Sof (args := #[Value.ref b]) (s := s) (N := 2) (tm := sTm) (len := sLen) (byt := sBy) (A := fun q : Nat => s.heap.size ≤ q) (by decide) (fun i hi => hs _ (sx_a hi)) (fun i hi => hs _ (sx_b hi)) (fun i hi => hs _ (sx_c hi)) (fun i hi => hs _ (sx_d hi)) (fun i hi j hj => hs _ (sx_el hi hj)) (fun i j hi hj hne => by
      rcases (show (i = 0 ∧ j = 1) ∨ (i = 1 ∧ j = 0) by omega) with ⟨rfl, rfl⟩ | ⟨rfl, rfl⟩
      · exact Or.inr (hs _ sx_n)
      · exact Or.inl (hs _ sx_n)) hA0
  obtain ⟨G, hGe⟩ : ∃ G : Gp, G = ((dC, dI), (fun k => if k = 0 then cB else if k = 1 then cI else if k = 2 then cJ else if k = 3 then cZ else if k = 4 then cG else if k = 5 then cM else if k = 10 then aK 0 else if k = 11 then aK 1 else if k = 12 then aV 0 else aV 1), s.heap.size) := ⟨_, rfl⟩
  have hG : G.2.2 = s.heap.size := by rw [hGe]
  have hK : va_K G.1 vwCl (tyl G) s := by
    subst hGe
    refine ⟨hKc, fun k q hk => ?_⟩
    match k, hk with
    | 0, hk => cases hk; exact ⟨hB1, hB2⟩
    | 1, hk => cases hk; exact ⟨hI1, hI2⟩
    | 2, hk => cases hk; exact ⟨hJ1, hJ2⟩
    | 3, hk => cases hk; exact ⟨hZ1, hZ2⟩
    | 4, hk => cases hk; exact ⟨hG1, hG2⟩
    | 5, hk => cases hk; exact ⟨hM1, hM2⟩
    | k + 6, hk => simp [tyl] at hk
  have hFr : Fr G = fun q : Nat => s.heap.size ≤ q := by unfold Fr; rw [hG]
  have hE : Ex G s := by
    unfold Ex
    rw [hFr]
    refine ⟨va_Zof (hts _ (List.mem_of_getElem? (i := 150) (by decide +kernel))) (hts _ (List.mem_of_getElem? (i := 107) (by decide +kernel))) (va_eqt (hs _ sx_cs)) hA0, va_Zqof (hts _ (List.mem_of_getElem? (i := 158) (by decide +kernel))) (hts _ (List.mem_of_getElem? (i := 109) (by decide +kernel))) (hs _ sx_fm) hA0, ?_, ?_, ?_, ?_, va_AO.of hoG, va_AO.of hoM⟩
    · refine vk_R.of (hts _ (List.mem_of_getElem? (i := 635) (by decide +kernel))) ?_
      have := hS2 0 (by decide)
      subst hGe
      exact this
    · refine vk_R.of (hts _ (List.mem_of_getElem? (i := 140) (by decide +kernel))) ?_
      have := hS2 1 (by decide)
      subst hGe
      exact this
    · subst hGe
      refine ⟨fun i hi => ?_, fun i j hi hj h => ?_⟩
      · rcases (show i = 0 ∨ i = 1 by omega) with rfl | rfl
        · exact hS1.1 0 (by decide)
        · exact hS1.1 1 (by decide)
      · rcases (show i = 0 ∨ i = 1 by omega) with rfl | rfl <;> rcases (show j = 0 ∨ j = 1 by omega) with rfl | rfl
        · rfl
        · exact hS1.2 0 1 (by decide) (by decide) h
        · exact hS1.2 1 0 (by decide) (by decide) h
        · rfl
    · intro q hq
      exact va_Nw.of rfl (hts _ (nest_in q hq))
  have hbA : ¬ Fr G b := by rw [hFr]; exact Nat.not_le.mpr hbl
  have X : Cx p s m #[Value.ref b] c cL_law 4 RL G := ⟨hx, hb, hml, hown, fun w hw => hts w (List.mem_filter.mp hw).1, hK, hE⟩
  have hR : Rp G 0 ff σz s s.heap [] := ⟨fun k q h => by simp [wld] at h, fun _ => by rw [hG]; rfl, va_S.rf, fun _ _ _ h _ => by cases h⟩
  have hl := lv_entry ([.ref b]) (n := 4) (Nat.le_of_ble_eq_true rfl)
  rw [lg_entry_eq]
  generalize (lg_sl ([.ref b]) ++ List.replicate (4 - (lg_sl ([.ref b])).length) Slot.unset).toArray = ls at hl ⊢
  have hl : lv_has ls 4 [(0, .ref b)] := hl
  unfold fL_start at hf
  refine q_new (N := 17) X hR (by decide) rfl kh_0 (by decide) rfl lc_7 ins_10 ini_10 (Nat.le_of_ble_eq_true rfl) (Nat.le_of_ble_eq_true rfl) dL_law_0 (fun H σ_1 e_1 hR => ?_)
  replace hf := z_l_e e_1 hf
  have hR : Rp G 1 ff σ_1 s H [] := hR
  refine W.widen (k := 1) (n := 17) (Nat.le_of_ble_eq_true rfl) (Nat.le_of_ble_eq_true rfl) ?_
  refine lv_dup hx hb dL_law_3 rfl ?_
  obtain ⟨u2, σ_2, hc2, hf⟩ := z_b_e hf
  refine go_m hR (mi_run (As := []) (rest := [.ref (G.2.2 + 0)]) X hR li_9 (c10_init l G N hc2) ⟨rfl, rfl, Nat.le_of_ble_eq_true rfl, Nat.le_of_ble_eq_true rfl⟩ rfl hl.1 rfl (Nat.le_of_ble_eq_true rfl) dL_law_4 ⟨Nat.le_of_ble_eq_true rfl, Nat.le_of_ble_eq_true rfl⟩) (fun H locs hR => ?_)
  refine W.widen (k := 160) (n := 7421) (Nat.le_of_ble_eq_true rfl) (Nat.le_of_ble_eq_true rfl) ?_
  refine lv_astore_n (lv' := [(1, .ref (G.2.2 + 0)), (0, .ref b)]) hx hb dL_law_7 rfl hl (by decide) rfl (fun ls hl => ?_)
  refine q_new (N := 74) X hR (by decide) rfl kh_160 (by decide) rfl lc_10 ins_11 ini_11 (Nat.le_of_ble_eq_true rfl) (Nat.le_of_ble_eq_true rfl) dL_law_8 (fun H σ_3 e_3 hR => ?_)
  replace hf := z_l_e e_3 hf
  have hR : Rp G 161 ff σ_3 s H locs := hR
  refine W.widen (k := 161) (n := 7495) (Nat.le_of_ble_eq_true rfl) (Nat.le_of_ble_eq_true rfl) ?_
  refine lv_dup hx hb dL_law_11 rfl ?_
  obtain ⟨u4, σ_4, hc4, hf⟩ := z_b_e hf
  refine go_m hR (mi_run (As := []) (rest := [.ref (G.2.2 + 160)]) X hR li_12 (c11_init l G N hc4) ⟨rfl, rfl, Nat.le_of_ble_eq_true rfl, Nat.le_of_ble_eq_true rfl⟩ rfl hl.1 rfl (Nat.le_of_ble_eq_true rfl) dL_law_12 ⟨Nat.le_of_ble_eq_true rfl, Nat.le_of_ble_eq_true rfl⟩) (fun H locs hR => ?_)
  refine W.widen (k := 212) (n := 21984) (Nat.le_of_ble_eq_true rfl) (Nat.le_of_ble_eq_true rfl) ?_
  refine lv_astore_n (lv' := [(2, .ref (G.2.2 + 160)), (1, .ref (G.2.2 + 0)), (0, .ref b)]) hx hb dL_law_15 rfl hl (by decide) rfl (fun ls hl => ?_)
  refine lv_iconst (v := 0) hx hb dL_law_16 (by decide) ?_
  refine lv_istore_n (lv' := [(3, .int 0), (2, .ref (G.2.2 + 160)), (1, .ref (G.2.2 + 0)), (0, .ref b)]) hx hb dL_law_17 rfl hl (by decide) rfl (fun ls hl => ?_)
  exact wL_18 X hr hlocks hX hbl hbA hG rfl N N 0 σ_4 _ _ _ hf hR (lv_sub hl [3, 2, 1, 0] rfl)
