section GEN
variable {p : Program} {l : Launch} {e : Env} {s : State} {m : MethodId} {args : Array Value} {below : List Frame} {meth : Method} {c : Code} {G : Gp} {r0 : Int32} {l0 : Int64} {u0 : Unit} {σ0 : Mm}

abbrev rm11_diesNow : Room := { frames := 2, cells := 0, slots := 0, locals := 53 }
def f11_diesNow (N : Nat) (x1 : Int32) (σ : Mm) : Option (Int32 × Mm) :=
  z_b (f11_looksAt N x1 σ) fun _ σ_2 =>
  z_b (f11_lawTells N (1 : Int32) (0 : Int32) σ_2) fun r_4 σ_5 =>
  z_b (f11_held N r_4 (0 : Int32) (100 : Int32) σ_5) fun r_7 σ_8 =>
  some (r_7, σ_8)
set_option maxHeartbeats 4000000 in
set_option maxRecDepth 100000 in
theorem c11_diesNow (l : Launch) (G : Gp) (N : Nat) {x1 : Int32} {σ σ0 : Mm} {r0 : Int32} (hf : f11_diesNow N x1 σ = some (r0, σ0)) : Met l yX11_diesNow (WS yX11_diesNow cX11_diesNow 2 (some .int)) rm11_diesNow (va_Pc [.ref (G.2.2 + 160), .int x1] (Pd G 212 tt σ)) (P_i G 212 tt r0 σ0) 0 0 (Fr G) := by
  refine ct [(0, .ref (G.2.2 + 160)), (1, .int x1)] rfl (by decide) (Nat.le_of_ble_eq_true rfl) ?_
  intro p e s m below meth c ls X hr hlk hR hl
  have X : Cx p s m _ c cX11_diesNow 2 RX11 G := X
  have hx := X.1
  have hb := X.2.1
  unfold f11_diesNow at hf
  refine lv_aload_n hx hb dX11_diesNow_0 rfl (lv_at hl 0 rfl) ?_
  refine lv_iload_n hx hb dX11_diesNow_1 rfl (lv_at hl 1 rfl) ?_
  obtain ⟨r_1, σ_2, hc_3, hf⟩ := z_b_e hf
  refine go_v hR (mv_run (As := [.int x1]) (rest := []) X hR mv_11_363 kh_160 (kd_lt kh_160 (by decide)) (c11_looksAt l G N hc_3) ⟨rfl, rfl, Nat.le_of_ble_eq_true rfl, Nat.le_of_ble_eq_true rfl⟩ rfl hl.1 rfl (Nat.le_of_ble_eq_true rfl) dX11_diesNow_2 ⟨Nat.zero_le _, Nat.zero_le _⟩) (fun H locs hR => ?_)
  refine lv_aload_n hx hb dX11_diesNow_5 rfl (lv_at hl 0 rfl) ?_
  refine lv_iconst (v := (1 : Int32)) hx hb dX11_diesNow_6 (by decide) ?_
  refine lv_iconst (v := (0 : Int32)) hx hb dX11_diesNow_7 (by decide) ?_
  obtain ⟨r_4, σ_5, hc_6, hf⟩ := z_b_e hf
  refine go_i hR (mv_run (As := [.int (1 : Int32), .int (0 : Int32)]) (rest := []) X hR mv_11_369 kh_160 (kd_lt kh_160 (by decide)) (c11_lawTells l G N hc_6) ⟨rfl, rfl, Nat.le_of_ble_eq_true rfl, Nat.le_of_ble_eq_true rfl⟩ rfl hl.1 rfl (Nat.le_of_ble_eq_true rfl) dX11_diesNow_8 ⟨Nat.zero_le _, Nat.zero_le _⟩) (fun H locs hR => ?_)
  refine lv_iconst (v := (0 : Int32)) hx hb dX11_diesNow_11 (by decide) ?_
  refine lv_bipush (v := (100 : Int32)) hx hb dX11_diesNow_12 (by decide) ?_
  obtain ⟨r_7, σ_8, hc_9, hf⟩ := z_b_e hf
  refine go_i hR (ms_run (As := [.int r_4, .int (0 : Int32), .int (100 : Int32)]) (rest := []) X hR ms_11_372 (c11_held l G N hc_9) ⟨rfl, rfl, Nat.le_of_ble_eq_true rfl, Nat.le_of_ble_eq_true rfl⟩ rfl hl.1 rfl (Nat.le_of_ble_eq_true rfl) dX11_diesNow_14 ⟨Nat.zero_le _, Nat.zero_le _⟩) (fun H locs hR => ?_)
  exact e_i X hR hr hlk hf dX11_diesNow_17
abbrev rm11_off : Room := { frames := 0, cells := 0, slots := 0, locals := 0 }
def f11_off (N : Nat) (x0 : Int32) (x1 : Int32) (σ : Mm) : Option (Int32 × Mm) :=
  if x1 ≤ x0 then (
  some ((x0 - x1), σ)) else (
  some ((x1 - x0), σ))
set_option maxHeartbeats 4000000 in
set_option maxRecDepth 100000 in
theorem c11_off (l : Launch) (G : Gp) (N : Nat) {x0 : Int32} {x1 : Int32} {σ σ0 : Mm} {r0 : Int32} (hf : f11_off N x0 x1 σ = some (r0, σ0)) : Met l yX11_off (WS yX11_off cX11_off 2 (some .int)) rm11_off (va_Pc [.int x0, .int x1] (Pd G 212 tt σ)) (P_i G 212 tt r0 σ0) 0 0 (Fr G) := by
  refine ct [(0, .int x0), (1, .int x1)] rfl (by decide) (Nat.le_of_ble_eq_true rfl) ?_
  intro p e s m below meth c ls X hr hlk hR hl
  have X : Cx p s m _ c cX11_off 2 RX11 G := X
  have hx := X.1
  have hb := X.2.1
  unfold f11_off at hf
  refine lv_iload_n hx hb dX11_off_0 rfl (lv_at hl 0 rfl) ?_
  refine lv_iload_n hx hb dX11_off_1 rfl (lv_at hl 1 rfl) ?_
  refine lv_icmp_ge (tgt := 11) hx hb dX11_off_2 (by decide) (fun c_1 => ?_) (fun c_1 => ?_)
  · replace hf := z_t c_1 hf
    refine lv_iload_n hx hb dX11_off_11 rfl (lv_at hl 0 rfl) ?_
    refine lv_iload_n hx hb dX11_off_12 rfl (lv_at hl 1 rfl) ?_
    refine lv_isub hx hb dX11_off_13 ?_
    exact e_i X hR hr hlk hf dX11_off_14
  · replace hf := z_f c_1 hf
    refine lv_iload_n hx hb dX11_off_5 rfl (lv_at hl 1 rfl) ?_
    refine lv_iload_n hx hb dX11_off_6 rfl (lv_at hl 0 rfl) ?_
    refine lv_isub hx hb dX11_off_7 ?_
    refine lv_goto (tgt := 14) hx hb dX11_off_8 (by decide) ?_
    exact e_i X hR hr hlk hf dX11_off_14
abbrev rm11_walksTo : Room := { frames := 2, cells := 0, slots := 0, locals := 53 }
def f11_walksTo (N : Nat) (x1 : Int32) (x2 : Int32) (σ : Mm) : Option (Int32 × Mm) :=
  z_l (((7 : Int32) * (gI σ 160 18))) fun x3_1 =>
  z_b (f11_looks N σ) fun _ σ_3 =>
  z_c (inB (x3_1 + x1) 14) (
  z_c (inB (x3_1 + x2) 14) (
  z_b (f11_off N (gI σ_3 172 (ix (x3_1 + x1))) (gI σ_3 172 (ix (x3_1 + x2))) σ_3) fun r_7 σ_8 =>
  z_c (inB (x3_1 + x1) 14) (
  z_c (inB (x3_1 + x2) 14) (
  z_b (f11_off N (gI σ_8 173 (ix (x3_1 + x1))) (gI σ_8 173 (ix (x3_1 + x2))) σ_8) fun r_12 σ_13 =>
  z_c (inB (6 : Int32) 9) (z_l (sI σ_13 196 (ix (6 : Int32)) (r_7 + r_12)) fun σ_16 =>
  z_c (inB (x3_1 + x2) 14) (
  z_c (inB (7 : Int32) 9) (z_l (sI σ_16 196 (ix (7 : Int32)) (gI σ_16 172 (ix (x3_1 + x2)))) fun σ_19 =>
  z_c (inB (x3_1 + x2) 14) (
  z_c (inB (8 : Int32) 9) (z_l (sI σ_19 196 (ix (8 : Int32)) (gI σ_19 173 (ix (x3_1 + x2)))) fun σ_22 =>
  z_c (inB (6 : Int32) 9) (
  z_b (f11_lawTells N (2 : Int32) (gI σ_22 196 (ix (6 : Int32))) σ_22) fun r_24 σ_25 =>
  z_b (f11_held N r_24 (0 : Int32) (99 : Int32) σ_25) fun r_27 σ_28 =>
  some (r_27, σ_28)))))))))))
set_option maxHeartbeats 4000000 in
set_option maxRecDepth 100000 in
theorem c11_walksTo (l : Launch) (G : Gp) (N : Nat) {x1 : Int32} {x2 : Int32} {σ σ0 : Mm} {r0 : Int32} (hf : f11_walksTo N x1 x2 σ = some (r0, σ0)) : Met l yX11_walksTo (WS yX11_walksTo cX11_walksTo 4 (some .int)) rm11_walksTo (va_Pc [.ref (G.2.2 + 160), .int x1, .int x2] (Pd G 212 tt σ)) (P_i G 212 tt r0 σ0) 0 0 (Fr G) := by
  refine ct [(0, .ref (G.2.2 + 160)), (1, .int x1), (2, .int x2)] rfl (by decide) (Nat.le_of_ble_eq_true rfl) ?_
  intro p e s m below meth c ls X hr hlk hR hl
  have X : Cx p s m _ c cX11_walksTo 4 RX11 G := X
  have hx := X.1
  have hb := X.2.1
  unfold f11_walksTo at hf
  refine lv_bipush (v := (7 : Int32)) hx hb dX11_walksTo_0 (by decide) ?_
  refine lv_aload_n hx hb dX11_walksTo_2 rfl (lv_at hl 0 rfl) ?_
  refine r_gi X hR fi_11_254 kh_160 dX11_walksTo_3 ?_
  refine lv_imul hx hb dX11_walksTo_6 ?_
  refine lv_topi (fun x3_1 ex3_1 => ?_)
  replace hf := z_l_e ex3_1 hf
  refine lv_istore_n (lv' := [(3, .int x3_1), (0, .ref (G.2.2 + 160)), (1, .int x1), (2, .int x2)]) hx hb dX11_walksTo_7 rfl hl (by decide) rfl (fun ls hl => ?_)
  refine lv_aload_n hx hb dX11_walksTo_8 rfl (lv_at hl 1 rfl) ?_
  obtain ⟨r_2, σ_3, hc_4, hf⟩ := z_b_e hf
  refine go_v hR (mv_run (As := []) (rest := []) X hR mv_11_360 kh_160 (kd_lt kh_160 (by decide)) (c11_looks l G N hc_4) ⟨rfl, rfl, Nat.le_of_ble_eq_true rfl, Nat.le_of_ble_eq_true rfl⟩ rfl hl.1 rfl (Nat.le_of_ble_eq_true rfl) dX11_walksTo_9 ⟨Nat.zero_le _, Nat.zero_le _⟩) (fun H locs hR => ?_)
  refine lv_aload_n hx hb dX11_walksTo_12 rfl (lv_at hl 1 rfl) ?_
  refine r_gs (t := 196) X hR fr_11_125 kh_160 (sx_11_52 kh_160) dX11_walksTo_13 ?_
  refine lv_bipush (v := (6 : Int32)) hx hb dX11_walksTo_16 (by decide) ?_
  refine lv_aload_n hx hb dX11_walksTo_18 rfl (lv_at hl 1 rfl) ?_
  refine r_gs (t := 172) X hR fr_11_52 kh_160 (sx_11_25 kh_160) dX11_walksTo_19 ?_
  refine lv_iload_n hx hb dX11_walksTo_22 rfl (lv_at hl 0 rfl) ?_
  refine lv_iload_n hx hb dX11_walksTo_23 rfl (lv_at hl 2 rfl) ?_
  refine lv_iadd hx hb dX11_walksTo_24 ?_
  obtain ⟨hi_5, hf⟩ := z_c_e hf
  refine r_ial X hR ka_172 hi_5 dX11_walksTo_25 ?_
  refine lv_aload_n hx hb dX11_walksTo_26 rfl (lv_at hl 1 rfl) ?_
  refine r_gs (t := 172) X hR fr_11_52 kh_160 (sx_11_25 kh_160) dX11_walksTo_27 ?_
  refine lv_iload_n hx hb dX11_walksTo_30 rfl (lv_at hl 0 rfl) ?_
  refine lv_iload_n hx hb dX11_walksTo_31 rfl (lv_at hl 3 rfl) ?_
  refine lv_iadd hx hb dX11_walksTo_32 ?_
  obtain ⟨hi_6, hf⟩ := z_c_e hf
  refine r_ial X hR ka_172 hi_6 dX11_walksTo_33 ?_
  obtain ⟨r_7, σ_8, hc_9, hf⟩ := z_b_e hf
  refine go_i hR (ms_run (As := [.int (gI σ_3 172 (ix (x3_1 + x1))), .int (gI σ_3 172 (ix (x3_1 + x2)))]) (rest := [.int (6 : Int32), .ref (G.2.2 + 196)]) X hR ms_11_375 (c11_off l G N hc_9) ⟨rfl, rfl, Nat.le_of_ble_eq_true rfl, Nat.le_of_ble_eq_true rfl⟩ rfl hl.1 rfl (Nat.le_of_ble_eq_true rfl) dX11_walksTo_34 ⟨Nat.zero_le _, Nat.zero_le _⟩) (fun H locs hR => ?_)
  refine lv_aload_n hx hb dX11_walksTo_37 rfl (lv_at hl 1 rfl) ?_
  refine r_gs (t := 173) X hR fr_11_55 kh_160 (sx_11_26 kh_160) dX11_walksTo_38 ?_
  refine lv_iload_n hx hb dX11_walksTo_41 rfl (lv_at hl 0 rfl) ?_
  refine lv_iload_n hx hb dX11_walksTo_42 rfl (lv_at hl 2 rfl) ?_
  refine lv_iadd hx hb dX11_walksTo_43 ?_
  obtain ⟨hi_10, hf⟩ := z_c_e hf
  refine r_ial X hR ka_173 hi_10 dX11_walksTo_44 ?_
  refine lv_aload_n hx hb dX11_walksTo_45 rfl (lv_at hl 1 rfl) ?_
  refine r_gs (t := 173) X hR fr_11_55 kh_160 (sx_11_26 kh_160) dX11_walksTo_46 ?_
  refine lv_iload_n hx hb dX11_walksTo_49 rfl (lv_at hl 0 rfl) ?_
  refine lv_iload_n hx hb dX11_walksTo_50 rfl (lv_at hl 3 rfl) ?_
  refine lv_iadd hx hb dX11_walksTo_51 ?_
  obtain ⟨hi_11, hf⟩ := z_c_e hf
  refine r_ial X hR ka_173 hi_11 dX11_walksTo_52 ?_
  obtain ⟨r_12, σ_13, hc_14, hf⟩ := z_b_e hf
  refine go_i hR (ms_run (As := [.int (gI σ_8 173 (ix (x3_1 + x1))), .int (gI σ_8 173 (ix (x3_1 + x2)))]) (rest := [.int r_7, .int (6 : Int32), .ref (G.2.2 + 196)]) X hR ms_11_375 (c11_off l G N hc_14) ⟨rfl, rfl, Nat.le_of_ble_eq_true rfl, Nat.le_of_ble_eq_true rfl⟩ rfl hl.1 rfl (Nat.le_of_ble_eq_true rfl) dX11_walksTo_53 ⟨Nat.zero_le _, Nat.zero_le _⟩) (fun H locs hR => ?_)
  refine lv_iadd hx hb dX11_walksTo_56 ?_
  obtain ⟨hi_15, hf⟩ := z_c_e hf
  refine r_ias X hR ka_196 hi_15 dX11_walksTo_57 (fun H locs σ_16 eσ_16 hR => ?_)
  replace hf := z_l_e eσ_16 hf
  refine lv_aload_n hx hb dX11_walksTo_58 rfl (lv_at hl 1 rfl) ?_
  refine r_gs (t := 196) X hR fr_11_125 kh_160 (sx_11_52 kh_160) dX11_walksTo_59 ?_
  refine lv_bipush (v := (7 : Int32)) hx hb dX11_walksTo_62 (by decide) ?_
  refine lv_aload_n hx hb dX11_walksTo_64 rfl (lv_at hl 1 rfl) ?_
  refine r_gs (t := 172) X hR fr_11_52 kh_160 (sx_11_25 kh_160) dX11_walksTo_65 ?_
  refine lv_iload_n hx hb dX11_walksTo_68 rfl (lv_at hl 0 rfl) ?_
  refine lv_iload_n hx hb dX11_walksTo_69 rfl (lv_at hl 3 rfl) ?_
  refine lv_iadd hx hb dX11_walksTo_70 ?_
  obtain ⟨hi_17, hf⟩ := z_c_e hf
  refine r_ial X hR ka_172 hi_17 dX11_walksTo_71 ?_
  obtain ⟨hi_18, hf⟩ := z_c_e hf
  refine r_ias X hR ka_196 hi_18 dX11_walksTo_72 (fun H locs σ_19 eσ_19 hR => ?_)
  replace hf := z_l_e eσ_19 hf
  refine lv_aload_n hx hb dX11_walksTo_73 rfl (lv_at hl 1 rfl) ?_
  refine r_gs (t := 196) X hR fr_11_125 kh_160 (sx_11_52 kh_160) dX11_walksTo_74 ?_
  refine lv_bipush (v := (8 : Int32)) hx hb dX11_walksTo_77 (by decide) ?_
  refine lv_aload_n hx hb dX11_walksTo_79 rfl (lv_at hl 1 rfl) ?_
  refine r_gs (t := 173) X hR fr_11_55 kh_160 (sx_11_26 kh_160) dX11_walksTo_80 ?_
  refine lv_iload_n hx hb dX11_walksTo_83 rfl (lv_at hl 0 rfl) ?_
  refine lv_iload_n hx hb dX11_walksTo_84 rfl (lv_at hl 3 rfl) ?_
  refine lv_iadd hx hb dX11_walksTo_85 ?_
  obtain ⟨hi_20, hf⟩ := z_c_e hf
  refine r_ial X hR ka_173 hi_20 dX11_walksTo_86 ?_
  obtain ⟨hi_21, hf⟩ := z_c_e hf
  refine r_ias X hR ka_196 hi_21 dX11_walksTo_87 (fun H locs σ_22 eσ_22 hR => ?_)
  replace hf := z_l_e eσ_22 hf
  refine lv_aload_n hx hb dX11_walksTo_88 rfl (lv_at hl 1 rfl) ?_
  refine lv_iconst (v := (2 : Int32)) hx hb dX11_walksTo_89 (by decide) ?_
  refine lv_aload_n hx hb dX11_walksTo_90 rfl (lv_at hl 1 rfl) ?_
  refine r_gs (t := 196) X hR fr_11_125 kh_160 (sx_11_52 kh_160) dX11_walksTo_91 ?_
  refine lv_bipush (v := (6 : Int32)) hx hb dX11_walksTo_94 (by decide) ?_
  obtain ⟨hi_23, hf⟩ := z_c_e hf
  refine r_ial X hR ka_196 hi_23 dX11_walksTo_96 ?_
  obtain ⟨r_24, σ_25, hc_26, hf⟩ := z_b_e hf
  refine go_i hR (mv_run (As := [.int (2 : Int32), .int (gI σ_22 196 (ix (6 : Int32)))]) (rest := []) X hR mv_11_369 kh_160 (kd_lt kh_160 (by decide)) (c11_lawTells l G N hc_26) ⟨rfl, rfl, Nat.le_of_ble_eq_true rfl, Nat.le_of_ble_eq_true rfl⟩ rfl hl.1 rfl (Nat.le_of_ble_eq_true rfl) dX11_walksTo_97 ⟨Nat.zero_le _, Nat.zero_le _⟩) (fun H locs hR => ?_)
  refine lv_iconst (v := (0 : Int32)) hx hb dX11_walksTo_100 (by decide) ?_
  refine lv_bipush (v := (99 : Int32)) hx hb dX11_walksTo_101 (by decide) ?_
  obtain ⟨r_27, σ_28, hc_29, hf⟩ := z_b_e hf
  refine go_i hR (ms_run (As := [.int r_24, .int (0 : Int32), .int (99 : Int32)]) (rest := []) X hR ms_11_372 (c11_held l G N hc_29) ⟨rfl, rfl, Nat.le_of_ble_eq_true rfl, Nat.le_of_ble_eq_true rfl⟩ rfl hl.1 rfl (Nat.le_of_ble_eq_true rfl) dX11_walksTo_103 ⟨Nat.zero_le _, Nat.zero_le _⟩) (fun H locs hR => ?_)
  exact e_i X hR hr hlk hf dX11_walksTo_106
abbrev rm11_asksAt : Room := { frames := 2, cells := 0, slots := 0, locals := 53 }
def f11_asksAt (N : Nat) (x1 : Int32) (σ : Mm) : Option (Int32 × Mm) :=
  z_b (f11_looks N σ) fun _ σ_2 =>
  z_c (inB (((7 : Int32) * (gI σ_2 160 18)) + x1) 14) (
  z_c (inB (7 : Int32) 9) (z_l (sI σ_2 196 (ix (7 : Int32)) (gI σ_2 172 (ix (((7 : Int32) * (gI σ_2 160 18)) + x1)))) fun σ_6 =>
  z_c (inB (((7 : Int32) * (gI σ_6 160 18)) + x1) 14) (
  z_c (inB (8 : Int32) 9) (z_l (sI σ_6 196 (ix (8 : Int32)) (gI σ_6 173 (ix (((7 : Int32) * (gI σ_6 160 18)) + x1)))) fun σ_9 =>
  z_b (f11_lawTells N (3 : Int32) (1 : Int32) σ_9) fun r_10 σ_11 =>
  z_b (f11_held N r_10 (0 : Int32) (99 : Int32) σ_11) fun r_13 σ_14 =>
  some (r_13, σ_14)))))
set_option maxHeartbeats 4000000 in
set_option maxRecDepth 100000 in
theorem c11_asksAt (l : Launch) (G : Gp) (N : Nat) {x1 : Int32} {σ σ0 : Mm} {r0 : Int32} (hf : f11_asksAt N x1 σ = some (r0, σ0)) : Met l yX11_asksAt (WS yX11_asksAt cX11_asksAt 2 (some .int)) rm11_asksAt (va_Pc [.ref (G.2.2 + 160), .int x1] (Pd G 212 tt σ)) (P_i G 212 tt r0 σ0) 0 0 (Fr G) := by
  refine ct [(0, .ref (G.2.2 + 160)), (1, .int x1)] rfl (by decide) (Nat.le_of_ble_eq_true rfl) ?_
  intro p e s m below meth c ls X hr hlk hR hl
  have X : Cx p s m _ c cX11_asksAt 2 RX11 G := X
  have hx := X.1
  have hb := X.2.1
  unfold f11_asksAt at hf
  refine lv_aload_n hx hb dX11_asksAt_0 rfl (lv_at hl 0 rfl) ?_
  obtain ⟨r_1, σ_2, hc_3, hf⟩ := z_b_e hf
  refine go_v hR (mv_run (As := []) (rest := []) X hR mv_11_360 kh_160 (kd_lt kh_160 (by decide)) (c11_looks l G N hc_3) ⟨rfl, rfl, Nat.le_of_ble_eq_true rfl, Nat.le_of_ble_eq_true rfl⟩ rfl hl.1 rfl (Nat.le_of_ble_eq_true rfl) dX11_asksAt_1 ⟨Nat.zero_le _, Nat.zero_le _⟩) (fun H locs hR => ?_)
  refine lv_aload_n hx hb dX11_asksAt_4 rfl (lv_at hl 0 rfl) ?_
  refine r_gs (t := 196) X hR fr_11_125 kh_160 (sx_11_52 kh_160) dX11_asksAt_5 ?_
  refine lv_bipush (v := (7 : Int32)) hx hb dX11_asksAt_8 (by decide) ?_
  refine lv_aload_n hx hb dX11_asksAt_10 rfl (lv_at hl 0 rfl) ?_
  refine r_gs (t := 172) X hR fr_11_52 kh_160 (sx_11_25 kh_160) dX11_asksAt_11 ?_
  refine lv_bipush (v := (7 : Int32)) hx hb dX11_asksAt_14 (by decide) ?_
  refine lv_aload_n hx hb dX11_asksAt_16 rfl (lv_at hl 0 rfl) ?_
  refine r_gi X hR fi_11_254 kh_160 dX11_asksAt_17 ?_
  refine lv_imul hx hb dX11_asksAt_20 ?_
  refine lv_iload_n hx hb dX11_asksAt_21 rfl (lv_at hl 1 rfl) ?_
  refine lv_iadd hx hb dX11_asksAt_22 ?_
  obtain ⟨hi_4, hf⟩ := z_c_e hf
  refine r_ial X hR ka_172 hi_4 dX11_asksAt_23 ?_
  obtain ⟨hi_5, hf⟩ := z_c_e hf
  refine r_ias X hR ka_196 hi_5 dX11_asksAt_24 (fun H locs σ_6 eσ_6 hR => ?_)
  replace hf := z_l_e eσ_6 hf
  refine lv_aload_n hx hb dX11_asksAt_25 rfl (lv_at hl 0 rfl) ?_
  refine r_gs (t := 196) X hR fr_11_125 kh_160 (sx_11_52 kh_160) dX11_asksAt_26 ?_
  refine lv_bipush (v := (8 : Int32)) hx hb dX11_asksAt_29 (by decide) ?_
  refine lv_aload_n hx hb dX11_asksAt_31 rfl (lv_at hl 0 rfl) ?_
  refine r_gs (t := 173) X hR fr_11_55 kh_160 (sx_11_26 kh_160) dX11_asksAt_32 ?_
  refine lv_bipush (v := (7 : Int32)) hx hb dX11_asksAt_35 (by decide) ?_
  refine lv_aload_n hx hb dX11_asksAt_37 rfl (lv_at hl 0 rfl) ?_
  refine r_gi X hR fi_11_254 kh_160 dX11_asksAt_38 ?_
  refine lv_imul hx hb dX11_asksAt_41 ?_
  refine lv_iload_n hx hb dX11_asksAt_42 rfl (lv_at hl 1 rfl) ?_
  refine lv_iadd hx hb dX11_asksAt_43 ?_
  obtain ⟨hi_7, hf⟩ := z_c_e hf
  refine r_ial X hR ka_173 hi_7 dX11_asksAt_44 ?_
  obtain ⟨hi_8, hf⟩ := z_c_e hf
  refine r_ias X hR ka_196 hi_8 dX11_asksAt_45 (fun H locs σ_9 eσ_9 hR => ?_)
  replace hf := z_l_e eσ_9 hf
  refine lv_aload_n hx hb dX11_asksAt_46 rfl (lv_at hl 0 rfl) ?_
  refine lv_iconst (v := (3 : Int32)) hx hb dX11_asksAt_47 (by decide) ?_
  refine lv_iconst (v := (1 : Int32)) hx hb dX11_asksAt_48 (by decide) ?_
  obtain ⟨r_10, σ_11, hc_12, hf⟩ := z_b_e hf
  refine go_i hR (mv_run (As := [.int (3 : Int32), .int (1 : Int32)]) (rest := []) X hR mv_11_369 kh_160 (kd_lt kh_160 (by decide)) (c11_lawTells l G N hc_12) ⟨rfl, rfl, Nat.le_of_ble_eq_true rfl, Nat.le_of_ble_eq_true rfl⟩ rfl hl.1 rfl (Nat.le_of_ble_eq_true rfl) dX11_asksAt_49 ⟨Nat.zero_le _, Nat.zero_le _⟩) (fun H locs hR => ?_)
  refine lv_iconst (v := (0 : Int32)) hx hb dX11_asksAt_52 (by decide) ?_
  refine lv_bipush (v := (99 : Int32)) hx hb dX11_asksAt_53 (by decide) ?_
  obtain ⟨r_13, σ_14, hc_15, hf⟩ := z_b_e hf
  refine go_i hR (ms_run (As := [.int r_10, .int (0 : Int32), .int (99 : Int32)]) (rest := []) X hR ms_11_372 (c11_held l G N hc_15) ⟨rfl, rfl, Nat.le_of_ble_eq_true rfl, Nat.le_of_ble_eq_true rfl⟩ rfl hl.1 rfl (Nat.le_of_ble_eq_true rfl) dX11_asksAt_55 ⟨Nat.zero_le _, Nat.zero_le _⟩) (fun H locs hR => ?_)
  exact e_i X hR hr hlk hf dX11_asksAt_58
abbrev rm11_swearBits : Room := { frames := 3, cells := 0, slots := 0, locals := 75 }
def f11_swearBits_32 (N : Nat) (k4 : Int32 → Int32 → Mm → Option (Int32 × Mm)) (x1 : Int32) (x2 : Int32) (x3 : Int32) (σ : Mm) : Option (Int32 × Mm) :=
  z_l (x3 + (1 : Int32)) fun x3_7 =>
  k4 x2 x3_7 σ
def f11_swearBits_4 (N : Nat) (x1 : Int32) : Nat → Int32 → Int32 → Mm → Option (Int32 × Mm)
  | 0, _, _, _ => none
  | fu + 1, x2, x3, σ => z_c (inB (gI σ 160 18) 2) (
  if (gI σ 175 (ix (gI σ 160 18))) ≤ x3 then (
  some (x2, σ)) else (
  z_b (f11_doesSwear N x3 x1 σ) fun r_3 σ_4 =>
  if r_3 = 0 then (
  f11_swearBits_32 N (fun x2 x3 σ => f11_swearBits_4 N x1 fu x2 x3 σ) x1 x2 x3 σ_4) else (
  z_l ((x2 ||| ((1 : Int32) <<< (x3 &&& 31)))) fun x2_8 =>
  f11_swearBits_32 N (fun x2 x3 σ => f11_swearBits_4 N x1 fu x2 x3 σ) x1 x2_8 x3 σ_4)))
def f11_swearBits (N : Nat) (x1 : Int32) (σ : Mm) : Option (Int32 × Mm) :=
  f11_swearBits_4 N x1 N (0 : Int32) (0 : Int32) σ
set_option maxHeartbeats 4000000 in
set_option maxRecDepth 100000 in
theorem w11_swearBits_32 (X : Cx p s m args c cX11_swearBits 4 RX11 G) (hr : meth.sig.returnType = some .int) (hlk : meth.locks = false) (N : Nat) {x1 : Int32} {k4 : Int32 → Int32 → Mm → Option (Int32 × Mm)} (hk4 : ∀ (x2 : Int32) (x3 : Int32) (σ : Mm) (H : Heap) (locs : List Loc) (ls : Array Slot), k4 x2 x3 σ = some (r0, σ0) → Rp G 212 tt σ s H locs → lv_has ls 4 [(0, .ref (G.2.2 + 160)), (1, .int x1), (2, .int x2), (3, .int x3)] → W p l e rm11_swearBits s m args below meth c H locs 0 0 (MQ below (P_i G 212 tt r0 σ0) args s 0 0 (Fr G)) (F0 m 4 ls [])) :
    ∀ (x2 : Int32) (x3 : Int32) (σ : Mm) (H : Heap) (locs : List Loc) (ls : Array Slot), f11_swearBits_32 N k4 x1 x2 x3 σ = some (r0, σ0) → Rp G 212 tt σ s H locs → lv_has ls 4 [(0, .ref (G.2.2 + 160)), (1, .int x1), (2, .int x2), (3, .int x3)] → W p l e rm11_swearBits s m args below meth c H locs 0 0 (MQ below (P_i G 212 tt r0 σ0) args s 0 0 (Fr G)) (F0 m 32 ls []) := by
  have hx := X.1
  have hb := X.2.1
  intro x2 x3 σ H locs ls hf hR hl
  unfold f11_swearBits_32 at hf
  obtain ⟨x3_7, ex3_7⟩ : ∃ z : Int32, z = x3 + (1 : Int32) := ⟨_, rfl⟩
  replace hf := z_l_e ex3_7 hf
  refine lv_iinc (v := x3_7) (lv' := [(3, .int x3_7), (0, .ref (G.2.2 + 160)), (1, .int x1), (2, .int x2)]) hx hb dX11_swearBits_32 hl (k := 3) rfl (by rw [ex3_7]; rfl) (by decide) rfl (fun ls hl => ?_)
  refine lv_goto (tgt := 4) hx hb dX11_swearBits_35 (by decide) ?_
  exact hk4 x2 x3_7 σ _ _ _ hf hR (lv_sub hl [1, 2, 3, 0] rfl)
set_option maxHeartbeats 4000000 in
set_option maxRecDepth 100000 in
theorem w11_swearBits_4 (X : Cx p s m args c cX11_swearBits 4 RX11 G) (hr : meth.sig.returnType = some .int) (hlk : meth.locks = false) (N : Nat) {x1 : Int32} :
    ∀ (fu : Nat) (x2 : Int32) (x3 : Int32) (σ : Mm) (H : Heap) (locs : List Loc) (ls : Array Slot), f11_swearBits_4 N x1 fu x2 x3 σ = some (r0, σ0) → Rp G 212 tt σ s H locs → lv_has ls 4 [(0, .ref (G.2.2 + 160)), (1, .int x1), (2, .int x2), (3, .int x3)] → W p l e rm11_swearBits s m args below meth c H locs 0 0 (MQ below (P_i G 212 tt r0 σ0) args s 0 0 (Fr G)) (F0 m 4 ls []) := by
  have hx := X.1
  have hb := X.2.1
  intro fu
  induction fu with
  | zero =>
    intro x2 x3 σ H locs ls hf hR hl
    rw [f11_swearBits_4] at hf
    cases hf
  | succ fu ih =>
    intro x2 x3 σ H locs ls hf hR hl
    rw [f11_swearBits_4] at hf
    refine lv_iload_n hx hb dX11_swearBits_4 rfl (lv_at hl 3 rfl) ?_
    refine lv_aload_n hx hb dX11_swearBits_5 rfl (lv_at hl 0 rfl) ?_
    refine r_gs (t := 175) X hR fr_11_61 kh_160 (sx_11_28 kh_160) dX11_swearBits_6 ?_
    refine lv_aload_n hx hb dX11_swearBits_9 rfl (lv_at hl 0 rfl) ?_
    refine r_gi X hR fi_11_254 kh_160 dX11_swearBits_10 ?_
    obtain ⟨hi_1, hf⟩ := z_c_e hf
    refine r_ial X hR ka_175 hi_1 dX11_swearBits_13 ?_
    refine lv_icmp_ge (tgt := 38) hx hb dX11_swearBits_14 (by decide) (fun c_2 => ?_) (fun c_2 => ?_)
    · replace hf := z_t c_2 hf
      refine lv_iload_n hx hb dX11_swearBits_38 rfl (lv_at hl 2 rfl) ?_
      exact e_i X hR hr hlk hf dX11_swearBits_39
    · replace hf := z_f c_2 hf
      refine lv_aload_n hx hb dX11_swearBits_17 rfl (lv_at hl 0 rfl) ?_
      refine lv_iload_n hx hb dX11_swearBits_18 rfl (lv_at hl 3 rfl) ?_
      refine lv_iload_n hx hb dX11_swearBits_19 rfl (lv_at hl 1 rfl) ?_
      obtain ⟨r_3, σ_4, hc_5, hf⟩ := z_b_e hf
      refine go_i hR (mv_run (As := [.int x3, .int x1]) (rest := []) X hR mv_11_378 kh_160 (kd_lt kh_160 (by decide)) (c11_doesSwear l G N hc_5) ⟨rfl, rfl, Nat.le_of_ble_eq_true rfl, Nat.le_of_ble_eq_true rfl⟩ rfl hl.1 rfl (Nat.le_of_ble_eq_true rfl) dX11_swearBits_20 ⟨Nat.zero_le _, Nat.zero_le _⟩) (fun H locs hR => ?_)
      refine lv_if_eq (tgt := 32) hx hb dX11_swearBits_23 (by decide) (fun c_6 => ?_) (fun c_6 => ?_)
      · replace hf := z_t c_6 hf
        exact w11_swearBits_32 X hr hlk N ih x2 x3 σ_4 _ _ _ hf hR (lv_sub hl [0, 1, 2, 3] rfl)
      · replace hf := z_f c_6 hf
        refine lv_iload_n hx hb dX11_swearBits_26 rfl (lv_at hl 2 rfl) ?_
        refine lv_iconst (v := (1 : Int32)) hx hb dX11_swearBits_27 (by decide) ?_
        refine lv_iload_n hx hb dX11_swearBits_28 rfl (lv_at hl 3 rfl) ?_
        refine lv_ishl hx hb dX11_swearBits_29 ?_
        refine lv_ior hx hb dX11_swearBits_30 ?_
        refine lv_topi (fun x2_8 ex2_8 => ?_)
        replace hf := z_l_e ex2_8 hf
        refine lv_istore_n (lv' := [(2, .int x2_8), (0, .ref (G.2.2 + 160)), (1, .int x1), (3, .int x3)]) hx hb dX11_swearBits_31 rfl hl (by decide) rfl (fun ls hl => ?_)
        exact w11_swearBits_32 X hr hlk N ih x2_8 x3 σ_4 _ _ _ hf hR (lv_sub hl [1, 2, 0, 3] rfl)
set_option maxHeartbeats 4000000 in
set_option maxRecDepth 100000 in
theorem c11_swearBits (l : Launch) (G : Gp) (N : Nat) {x1 : Int32} {σ σ0 : Mm} {r0 : Int32} (hf : f11_swearBits N x1 σ = some (r0, σ0)) : Met l yX11_swearBits (WS yX11_swearBits cX11_swearBits 4 (some .int)) rm11_swearBits (va_Pc [.ref (G.2.2 + 160), .int x1] (Pd G 212 tt σ)) (P_i G 212 tt r0 σ0) 0 0 (Fr G) := by
  refine ct [(0, .ref (G.2.2 + 160)), (1, .int x1)] rfl (by decide) (Nat.le_of_ble_eq_true rfl) ?_
  intro p e s m below meth c ls X hr hlk hR hl
  have X : Cx p s m _ c cX11_swearBits 4 RX11 G := X
  have hx := X.1
  have hb := X.2.1
  unfold f11_swearBits at hf
  refine lv_iconst (v := (0 : Int32)) hx hb dX11_swearBits_0 (by decide) ?_
  refine lv_istore_n (lv' := [(2, .int (0 : Int32)), (0, .ref (G.2.2 + 160)), (1, .int x1)]) hx hb dX11_swearBits_1 rfl hl (by decide) rfl (fun ls hl => ?_)
  refine lv_iconst (v := (0 : Int32)) hx hb dX11_swearBits_2 (by decide) ?_
  refine lv_istore_n (lv' := [(3, .int (0 : Int32)), (2, .int (0 : Int32)), (0, .ref (G.2.2 + 160)), (1, .int x1)]) hx hb dX11_swearBits_3 rfl hl (by decide) rfl (fun ls hl => ?_)
  exact w11_swearBits_4 X hr hlk N  N (0 : Int32) (0 : Int32) σ _ _ _ hf hR (lv_sub hl [2, 3, 1, 0] rfl)
abbrev rm11_doesStand : Room := { frames := 4, cells := 0, slots := 0, locals := 98 }
def f11_doesStand (N : Nat) (x1 : Int32) (σ : Mm) : Option (Int32 × Mm) :=
  z_c (inB (16 : Int32) 117) (
  if (((gI σ 199 (ix (16 : Int32))) >>> (x1 &&& 31)) &&& (1 : Int32)) = (1 : Int32) then (
  some ((0 : Int32), σ)) else (
  if (gI σ 160 59) = 0 then (
  z_b (f11_swearBits N x1 σ) fun r_4 σ_5 =>
  z_b (f11_bits N r_4 σ_5) fun r_7 σ_8 =>
  z_c (inB (gI σ_8 160 18) 2) (
  if r_7 < (gI σ_8 184 (ix (gI σ_8 160 18))) then (
  some ((0 : Int32), σ_8)) else (
  some ((1 : Int32), σ_8)))) else (
  some ((1 : Int32), σ))))
set_option maxHeartbeats 4000000 in
set_option maxRecDepth 100000 in
theorem c11_doesStand (l : Launch) (G : Gp) (N : Nat) {x1 : Int32} {σ σ0 : Mm} {r0 : Int32} (hf : f11_doesStand N x1 σ = some (r0, σ0)) : Met l yX11_doesStand (WS yX11_doesStand cX11_doesStand 2 (some .boolean)) rm11_doesStand (va_Pc [.ref (G.2.2 + 160), .int x1] (Pd G 212 tt σ)) (P_i G 212 tt r0 σ0) 0 0 (Fr G) := by
  refine ct [(0, .ref (G.2.2 + 160)), (1, .int x1)] rfl (by decide) (Nat.le_of_ble_eq_true rfl) ?_
  intro p e s m below meth c ls X hr hlk hR hl
  have X : Cx p s m _ c cX11_doesStand 2 RX11 G := X
  have hx := X.1
  have hb := X.2.1
  unfold f11_doesStand at hf
  refine lv_aload_n hx hb dX11_doesStand_0 rfl (lv_at hl 0 rfl) ?_
  refine r_gs (t := 199) X hR fr_11_134 kh_160 (sx_11_56 kh_160) dX11_doesStand_1 ?_
  refine lv_bipush (v := (16 : Int32)) hx hb dX11_doesStand_4 (by decide) ?_
  obtain ⟨hi_1, hf⟩ := z_c_e hf
  refine r_ial X hR ka_199 hi_1 dX11_doesStand_6 ?_
  refine lv_iload_n hx hb dX11_doesStand_7 rfl (lv_at hl 1 rfl) ?_
  refine lv_ishr hx hb dX11_doesStand_8 ?_
  refine lv_iconst (v := (1 : Int32)) hx hb dX11_doesStand_9 (by decide) ?_
  refine lv_iand hx hb dX11_doesStand_10 ?_
  refine lv_iconst (v := (1 : Int32)) hx hb dX11_doesStand_11 (by decide) ?_
  refine lv_icmp_ne (tgt := 17) hx hb dX11_doesStand_12 (by decide) (fun c_2 => ?_) (fun c_2 => ?_)
  · replace hf := z_f c_2 hf
    refine lv_aload_n hx hb dX11_doesStand_17 rfl (lv_at hl 0 rfl) ?_
    refine r_gi X hR fi_11_350 kh_160 dX11_doesStand_18 ?_
    refine lv_if_ne (tgt := 44) hx hb dX11_doesStand_21 (by decide) (fun c_3 => ?_) (fun c_3 => ?_)
    · replace hf := z_f c_3 hf
      refine lv_iconst (v := (1 : Int32)) hx hb dX11_doesStand_44 (by decide) ?_
      refine lv_goto (tgt := 49) hx hb dX11_doesStand_45 (by decide) ?_
      exact e_z X hR hr hlk rfl hf dX11_doesStand_49
    · replace hf := z_t c_3 hf
      refine lv_aload_n hx hb dX11_doesStand_24 rfl (lv_at hl 0 rfl) ?_
      refine lv_iload_n hx hb dX11_doesStand_25 rfl (lv_at hl 1 rfl) ?_
      obtain ⟨r_4, σ_5, hc_6, hf⟩ := z_b_e hf
      refine go_i hR (mv_run (As := [.int x1]) (rest := []) X hR mv_11_382 kh_160 (kd_lt kh_160 (by decide)) (c11_swearBits l G N hc_6) ⟨rfl, rfl, Nat.le_of_ble_eq_true rfl, Nat.le_of_ble_eq_true rfl⟩ rfl hl.1 rfl (Nat.le_of_ble_eq_true rfl) dX11_doesStand_26 ⟨Nat.zero_le _, Nat.zero_le _⟩) (fun H locs hR => ?_)
      obtain ⟨r_7, σ_8, hc_9, hf⟩ := z_b_e hf
      refine go_i hR (ms_run (As := [.int r_4]) (rest := []) X hR ms_11_366 (c11_bits l G N hc_9) ⟨rfl, rfl, Nat.le_of_ble_eq_true rfl, Nat.le_of_ble_eq_true rfl⟩ rfl hl.1 rfl (Nat.le_of_ble_eq_true rfl) dX11_doesStand_29 ⟨Nat.zero_le _, Nat.zero_le _⟩) (fun H locs hR => ?_)
      refine lv_aload_n hx hb dX11_doesStand_32 rfl (lv_at hl 0 rfl) ?_
      refine r_gs (t := 184) X hR fr_11_88 kh_160 (sx_11_37 kh_160) dX11_doesStand_33 ?_
      refine lv_aload_n hx hb dX11_doesStand_36 rfl (lv_at hl 0 rfl) ?_
      refine r_gi X hR fi_11_254 kh_160 dX11_doesStand_37 ?_
      obtain ⟨hi_10, hf⟩ := z_c_e hf
      refine r_ial X hR ka_184 hi_10 dX11_doesStand_40 ?_
      refine lv_icmp_lt (tgt := 48) hx hb dX11_doesStand_41 (by decide) (fun c_11 => ?_) (fun c_11 => ?_)
      · replace hf := z_t c_11 hf
        refine lv_iconst (v := (0 : Int32)) hx hb dX11_doesStand_48 (by decide) ?_
        exact e_z X hR hr hlk rfl hf dX11_doesStand_49
      · replace hf := z_f c_11 hf
        refine lv_iconst (v := (1 : Int32)) hx hb dX11_doesStand_44 (by decide) ?_
        refine lv_goto (tgt := 49) hx hb dX11_doesStand_45 (by decide) ?_
        exact e_z X hR hr hlk rfl hf dX11_doesStand_49
  · replace hf := z_t c_2 hf
    refine lv_iconst (v := (0 : Int32)) hx hb dX11_doesStand_15 (by decide) ?_
    exact e_z X hR hr hlk rfl hf dX11_doesStand_16
abbrev rm11_fillsWhose : Room := { frames := 5, cells := 0, slots := 0, locals := 119 }
def f11_fillsWhose_137 (N : Nat) (k43 : Int32 → Mm → Option (Unit × Mm)) (x1 : Int32) (σ : Mm) : Option (Unit × Mm) :=
  z_l (x1 + (1 : Int32)) fun x1_18 =>
  k43 x1_18 σ
def f11_fillsWhose_112 (N : Nat) (k43 : Int32 → Mm → Option (Unit × Mm)) (x1 : Int32) (x2 : Int32) (s1 : Int32) (s2 : Int32) (σ : Mm) : Option (Unit × Mm) :=
  z_c (inB s1 20) (z_l (sI σ 202 (ix s1) (vp_nar .boolean s2)) fun σ_15 =>
  z_c (inB x1 20) (
  if (gI σ_15 202 (ix x1)) = 0 then (
  f11_fillsWhose_137 N k43 x1 σ_15) else (
  z_c (inB ((57 : Int32) + x1) 117) (
  z_c (inB x2 7) (z_l (sI σ_15 200 (ix x2) (gI σ_15 199 (ix ((57 : Int32) + x1)))) fun σ_21 =>
  f11_fillsWhose_137 N k43 x1 σ_21)))))
def f11_fillsWhose_111 (N : Nat) (k43 : Int32 → Mm → Option (Unit × Mm)) (x1 : Int32) (x2 : Int32) (s1 : Int32) (σ : Mm) : Option (Unit × Mm) :=
  f11_fillsWhose_112 N k43 x1 x2 s1 (0 : Int32) σ
def f11_fillsWhose_43 (N : Nat) : Nat → Int32 → Mm → Option (Unit × Mm)
  | 0, _, _ => none
  | fu + 1, x1, σ => z_c (inB (15 : Int32) 117) (
  if (gI σ 199 (ix (15 : Int32))) ≤ x1 then (
  some ((), σ)) else (
  z_c (inB ((17 : Int32) + x1) 117) (
  z_l ((gI σ 199 (ix ((17 : Int32) + x1)))) fun x2_6 =>
  z_b (f11_doesStand N x1 σ) fun r_7 σ_8 =>
  z_c (inB x1 20) (z_l (sI σ_8 201 (ix x1) (vp_nar .boolean r_7)) fun σ_11 =>
  z_c (inB x1 20) (
  if (gI σ_11 201 (ix x1)) = 0 then (
  f11_fillsWhose_111 N (fun x1 σ => f11_fillsWhose_43 N fu x1 σ) x1 x2_6 x1 σ_11) else (
  z_c (inB x2_6 7) (
  z_c (inB ((37 : Int32) + x1) 117) (
  if (gI σ_11 200 (ix x2_6)) = (gI σ_11 199 (ix ((37 : Int32) + x1))) then (
  f11_fillsWhose_112 N (fun x1 σ => f11_fillsWhose_43 N fu x1 σ) x1 x2_6 x1 (1 : Int32) σ_11) else (
  f11_fillsWhose_111 N (fun x1 σ => f11_fillsWhose_43 N fu x1 σ) x1 x2_6 x1 σ_11)))))))))
def f11_fillsWhose_41 (N : Nat) (σ : Mm) : Option (Unit × Mm) :=
  f11_fillsWhose_43 N N (0 : Int32) σ
def f11_fillsWhose_2 (N : Nat) : Nat → Int32 → Mm → Option (Unit × Mm)
  | 0, _, _ => none
  | fu + 1, x1, σ => z_c (inB (gI σ 160 18) 2) (
  if (gI σ 171 (ix (gI σ 160 18))) ≤ x1 then (
  f11_fillsWhose_41 N σ) else (
  z_c (inB (((7 : Int32) * (gI σ 160 18)) + x1) 14) (
  z_c (inB x1 7) (z_l (sI σ 200 (ix x1) (gI σ 174 (ix (((7 : Int32) * (gI σ 160 18)) + x1)))) fun σ_27 =>
  z_l (x1 + (1 : Int32)) fun x1_28 =>
  f11_fillsWhose_2 N fu x1_28 σ_27))))
def f11_fillsWhose (N : Nat) (σ : Mm) : Option (Unit × Mm) :=
  f11_fillsWhose_2 N N (0 : Int32) σ
set_option maxHeartbeats 4000000 in
set_option maxRecDepth 100000 in
theorem w11_fillsWhose_137 (X : Cx p s m args c cX11_fillsWhose 3 RX11 G) (hr : meth.sig.returnType = none) (hlk : meth.locks = false) (N : Nat) {k43 : Int32 → Mm → Option (Unit × Mm)} (hk43 : ∀ (x1 : Int32) (σ : Mm) (H : Heap) (locs : List Loc) (ls : Array Slot), k43 x1 σ = some (u0, σ0) → Rp G 212 tt σ s H locs → lv_has ls 3 [(0, .ref (G.2.2 + 160)), (1, .int x1)] → W p l e rm11_fillsWhose s m args below meth c H locs 0 0 (MQ below (P_v G 212 tt u0 σ0) args s 0 0 (Fr G)) (F0 m 43 ls [])) :
    ∀ (x1 : Int32) (σ : Mm) (H : Heap) (locs : List Loc) (ls : Array Slot), f11_fillsWhose_137 N k43 x1 σ = some (u0, σ0) → Rp G 212 tt σ s H locs → lv_has ls 3 [(0, .ref (G.2.2 + 160)), (1, .int x1)] → W p l e rm11_fillsWhose s m args below meth c H locs 0 0 (MQ below (P_v G 212 tt u0 σ0) args s 0 0 (Fr G)) (F0 m 137 ls []) := by
  have hx := X.1
  have hb := X.2.1
  intro x1 σ H locs ls hf hR hl
  unfold f11_fillsWhose_137 at hf
  obtain ⟨x1_18, ex1_18⟩ : ∃ z : Int32, z = x1 + (1 : Int32) := ⟨_, rfl⟩
  replace hf := z_l_e ex1_18 hf
  refine lv_iinc (v := x1_18) (lv' := [(1, .int x1_18), (0, .ref (G.2.2 + 160))]) hx hb dX11_fillsWhose_137 hl (k := 1) rfl (by rw [ex1_18]; rfl) (by decide) rfl (fun ls hl => ?_)
  refine lv_goto (tgt := 43) hx hb dX11_fillsWhose_140 (by decide) ?_
  exact hk43 x1_18 σ _ _ _ hf hR (lv_sub hl [1, 0] rfl)
set_option maxHeartbeats 4000000 in
set_option maxRecDepth 100000 in
theorem w11_fillsWhose_112 (X : Cx p s m args c cX11_fillsWhose 3 RX11 G) (hr : meth.sig.returnType = none) (hlk : meth.locks = false) (N : Nat) {k43 : Int32 → Mm → Option (Unit × Mm)} (hk43 : ∀ (x1 : Int32) (σ : Mm) (H : Heap) (locs : List Loc) (ls : Array Slot), k43 x1 σ = some (u0, σ0) → Rp G 212 tt σ s H locs → lv_has ls 3 [(0, .ref (G.2.2 + 160)), (1, .int x1)] → W p l e rm11_fillsWhose s m args below meth c H locs 0 0 (MQ below (P_v G 212 tt u0 σ0) args s 0 0 (Fr G)) (F0 m 43 ls [])) :
    ∀ (x1 : Int32) (x2 : Int32) (s1 : Int32) (s2 : Int32) (σ : Mm) (H : Heap) (locs : List Loc) (ls : Array Slot), f11_fillsWhose_112 N k43 x1 x2 s1 s2 σ = some (u0, σ0) → Rp G 212 tt σ s H locs → lv_has ls 3 [(0, .ref (G.2.2 + 160)), (1, .int x1), (2, .int x2)] → W p l e rm11_fillsWhose s m args below meth c H locs 0 0 (MQ below (P_v G 212 tt u0 σ0) args s 0 0 (Fr G)) (F0 m 112 ls [.int s2, .int s1, .ref (G.2.2 + 202)]) := by
  have hx := X.1
  have hb := X.2.1
  intro x1 x2 s1 s2 σ H locs ls hf hR hl
  unfold f11_fillsWhose_112 at hf
  obtain ⟨hi_14, hf⟩ := z_c_e hf
  refine r_zas X hR ka_202 hi_14 dX11_fillsWhose_112 (fun H locs σ_15 eσ_15 hR => ?_)
  replace hf := z_l_e eσ_15 hf
  refine lv_aload_n hx hb dX11_fillsWhose_113 rfl (lv_at hl 0 rfl) ?_
  refine r_gs (t := 202) X hR fr_11_143 kh_160 (sx_11_62 kh_160) dX11_fillsWhose_114 ?_
  refine lv_iload_n hx hb dX11_fillsWhose_117 rfl (lv_at hl 1 rfl) ?_
  obtain ⟨hi_16, hf⟩ := z_c_e hf
  refine r_zal X hR ka_202 hi_16 dX11_fillsWhose_118 ?_
  refine lv_if_eq (tgt := 137) hx hb dX11_fillsWhose_119 (by decide) (fun c_17 => ?_) (fun c_17 => ?_)
  · replace hf := z_t c_17 hf
    exact w11_fillsWhose_137 X hr hlk N hk43 x1 σ_15 _ _ _ hf hR (lv_sub hl [0, 1] rfl)
  · replace hf := z_f c_17 hf
    refine lv_aload_n hx hb dX11_fillsWhose_122 rfl (lv_at hl 0 rfl) ?_
    refine r_gs (t := 200) X hR fr_11_137 kh_160 (sx_11_60 kh_160) dX11_fillsWhose_123 ?_
    refine lv_iload_n hx hb dX11_fillsWhose_126 rfl (lv_at hl 2 rfl) ?_
    refine lv_aload_n hx hb dX11_fillsWhose_127 rfl (lv_at hl 0 rfl) ?_
    refine r_gs (t := 199) X hR fr_11_134 kh_160 (sx_11_56 kh_160) dX11_fillsWhose_128 ?_
    refine lv_bipush (v := (57 : Int32)) hx hb dX11_fillsWhose_131 (by decide) ?_
    refine lv_iload_n hx hb dX11_fillsWhose_133 rfl (lv_at hl 1 rfl) ?_
    refine lv_iadd hx hb dX11_fillsWhose_134 ?_
    obtain ⟨hi_19, hf⟩ := z_c_e hf
    refine r_ial X hR ka_199 hi_19 dX11_fillsWhose_135 ?_
    obtain ⟨hi_20, hf⟩ := z_c_e hf
    refine r_ias X hR ka_200 hi_20 dX11_fillsWhose_136 (fun H locs σ_21 eσ_21 hR => ?_)
    replace hf := z_l_e eσ_21 hf
    exact w11_fillsWhose_137 X hr hlk N hk43 x1 σ_21 _ _ _ hf hR (lv_sub hl [0, 1] rfl)
set_option maxHeartbeats 4000000 in
set_option maxRecDepth 100000 in
theorem w11_fillsWhose_111 (X : Cx p s m args c cX11_fillsWhose 3 RX11 G) (hr : meth.sig.returnType = none) (hlk : meth.locks = false) (N : Nat) {k43 : Int32 → Mm → Option (Unit × Mm)} (hk43 : ∀ (x1 : Int32) (σ : Mm) (H : Heap) (locs : List Loc) (ls : Array Slot), k43 x1 σ = some (u0, σ0) → Rp G 212 tt σ s H locs → lv_has ls 3 [(0, .ref (G.2.2 + 160)), (1, .int x1)] → W p l e rm11_fillsWhose s m args below meth c H locs 0 0 (MQ below (P_v G 212 tt u0 σ0) args s 0 0 (Fr G)) (F0 m 43 ls [])) :
    ∀ (x1 : Int32) (x2 : Int32) (s1 : Int32) (σ : Mm) (H : Heap) (locs : List Loc) (ls : Array Slot), f11_fillsWhose_111 N k43 x1 x2 s1 σ = some (u0, σ0) → Rp G 212 tt σ s H locs → lv_has ls 3 [(0, .ref (G.2.2 + 160)), (1, .int x1), (2, .int x2)] → W p l e rm11_fillsWhose s m args below meth c H locs 0 0 (MQ below (P_v G 212 tt u0 σ0) args s 0 0 (Fr G)) (F0 m 111 ls [.int s1, .ref (G.2.2 + 202)]) := by
  have hx := X.1
  have hb := X.2.1
  intro x1 x2 s1 σ H locs ls hf hR hl
  unfold f11_fillsWhose_111 at hf
  refine lv_iconst (v := (0 : Int32)) hx hb dX11_fillsWhose_111 (by decide) ?_
  exact w11_fillsWhose_112 X hr hlk N hk43 x1 x2 s1 (0 : Int32) σ _ _ _ hf hR (lv_sub hl [0, 1, 2] rfl)
set_option maxHeartbeats 4000000 in
set_option maxRecDepth 100000 in
theorem w11_fillsWhose_43 (X : Cx p s m args c cX11_fillsWhose 3 RX11 G) (hr : meth.sig.returnType = none) (hlk : meth.locks = false) (N : Nat) :
    ∀ (fu : Nat) (x1 : Int32) (σ : Mm) (H : Heap) (locs : List Loc) (ls : Array Slot), f11_fillsWhose_43 N fu x1 σ = some (u0, σ0) → Rp G 212 tt σ s H locs → lv_has ls 3 [(0, .ref (G.2.2 + 160)), (1, .int x1)] → W p l e rm11_fillsWhose s m args below meth c H locs 0 0 (MQ below (P_v G 212 tt u0 σ0) args s 0 0 (Fr G)) (F0 m 43 ls []) := by
  have hx := X.1
  have hb := X.2.1
  intro fu
  induction fu with
  | zero =>
    intro x1 σ H locs ls hf hR hl
    rw [f11_fillsWhose_43] at hf
    cases hf
  | succ fu ih =>
    intro x1 σ H locs ls hf hR hl
    rw [f11_fillsWhose_43] at hf
    refine lv_iload_n hx hb dX11_fillsWhose_43 rfl (lv_at hl 1 rfl) ?_
    refine lv_aload_n hx hb dX11_fillsWhose_44 rfl (lv_at hl 0 rfl) ?_
    refine r_gs (t := 199) X hR fr_11_134 kh_160 (sx_11_56 kh_160) dX11_fillsWhose_45 ?_
    refine lv_bipush (v := (15 : Int32)) hx hb dX11_fillsWhose_48 (by decide) ?_
    obtain ⟨hi_3, hf⟩ := z_c_e hf
    refine r_ial X hR ka_199 hi_3 dX11_fillsWhose_50 ?_
    refine lv_icmp_ge (tgt := 143) hx hb dX11_fillsWhose_51 (by decide) (fun c_4 => ?_) (fun c_4 => ?_)
    · replace hf := z_t c_4 hf
      exact e_v X hR hr hlk hf dX11_fillsWhose_143
    · replace hf := z_f c_4 hf
      refine lv_aload_n hx hb dX11_fillsWhose_54 rfl (lv_at hl 0 rfl) ?_
      refine r_gs (t := 199) X hR fr_11_134 kh_160 (sx_11_56 kh_160) dX11_fillsWhose_55 ?_
      refine lv_bipush (v := (17 : Int32)) hx hb dX11_fillsWhose_58 (by decide) ?_
      refine lv_iload_n hx hb dX11_fillsWhose_60 rfl (lv_at hl 1 rfl) ?_
      refine lv_iadd hx hb dX11_fillsWhose_61 ?_
      obtain ⟨hi_5, hf⟩ := z_c_e hf
      refine r_ial X hR ka_199 hi_5 dX11_fillsWhose_62 ?_
      refine lv_topi (fun x2_6 ex2_6 => ?_)
      replace hf := z_l_e ex2_6 hf
      refine lv_istore_n (lv' := [(2, .int x2_6), (0, .ref (G.2.2 + 160)), (1, .int x1)]) hx hb dX11_fillsWhose_63 rfl hl (by decide) rfl (fun ls hl => ?_)
      refine lv_aload_n hx hb dX11_fillsWhose_64 rfl (lv_at hl 1 rfl) ?_
      refine r_gs (t := 201) X hR fr_11_140 kh_160 (sx_11_61 kh_160) dX11_fillsWhose_65 ?_
      refine lv_iload_n hx hb dX11_fillsWhose_68 rfl (lv_at hl 2 rfl) ?_
      refine lv_aload_n hx hb dX11_fillsWhose_69 rfl (lv_at hl 1 rfl) ?_
      refine lv_iload_n hx hb dX11_fillsWhose_70 rfl (lv_at hl 2 rfl) ?_
      obtain ⟨r_7, σ_8, hc_9, hf⟩ := z_b_e hf
      refine go_i hR (mv_run (As := [.int x1]) (rest := [.int x1, .ref (G.2.2 + 201)]) X hR mv_11_385 kh_160 (kd_lt kh_160 (by decide)) (c11_doesStand l G N hc_9) ⟨rfl, rfl, Nat.le_of_ble_eq_true rfl, Nat.le_of_ble_eq_true rfl⟩ rfl hl.1 rfl (Nat.le_of_ble_eq_true rfl) dX11_fillsWhose_71 ⟨Nat.zero_le _, Nat.zero_le _⟩) (fun H locs hR => ?_)
      obtain ⟨hi_10, hf⟩ := z_c_e hf
      refine r_zas X hR ka_201 hi_10 dX11_fillsWhose_74 (fun H locs σ_11 eσ_11 hR => ?_)
      replace hf := z_l_e eσ_11 hf
      refine lv_aload_n hx hb dX11_fillsWhose_75 rfl (lv_at hl 1 rfl) ?_
      refine r_gs (t := 202) X hR fr_11_143 kh_160 (sx_11_62 kh_160) dX11_fillsWhose_76 ?_
      refine lv_iload_n hx hb dX11_fillsWhose_79 rfl (lv_at hl 2 rfl) ?_
      refine lv_aload_n hx hb dX11_fillsWhose_80 rfl (lv_at hl 1 rfl) ?_
      refine r_gs (t := 201) X hR fr_11_140 kh_160 (sx_11_61 kh_160) dX11_fillsWhose_81 ?_
      refine lv_iload_n hx hb dX11_fillsWhose_84 rfl (lv_at hl 2 rfl) ?_
      obtain ⟨hi_12, hf⟩ := z_c_e hf
      refine r_zal X hR ka_201 hi_12 dX11_fillsWhose_85 ?_
      refine lv_if_eq (tgt := 111) hx hb dX11_fillsWhose_86 (by decide) (fun c_13 => ?_) (fun c_13 => ?_)
      · replace hf := z_t c_13 hf
        exact w11_fillsWhose_111 X hr hlk N ih x1 x2_6 x1 σ_11 _ _ _ hf hR (lv_sub hl [1, 2, 0] rfl)
      · replace hf := z_f c_13 hf
        refine lv_aload_n hx hb dX11_fillsWhose_89 rfl (lv_at hl 1 rfl) ?_
        refine r_gs (t := 200) X hR fr_11_137 kh_160 (sx_11_60 kh_160) dX11_fillsWhose_90 ?_
        refine lv_iload_n hx hb dX11_fillsWhose_93 rfl (lv_at hl 0 rfl) ?_
        obtain ⟨hi_22, hf⟩ := z_c_e hf
        refine r_ial X hR ka_200 hi_22 dX11_fillsWhose_94 ?_
        refine lv_aload_n hx hb dX11_fillsWhose_95 rfl (lv_at hl 1 rfl) ?_
        refine r_gs (t := 199) X hR fr_11_134 kh_160 (sx_11_56 kh_160) dX11_fillsWhose_96 ?_
        refine lv_bipush (v := (37 : Int32)) hx hb dX11_fillsWhose_99 (by decide) ?_
        refine lv_iload_n hx hb dX11_fillsWhose_101 rfl (lv_at hl 2 rfl) ?_
        refine lv_iadd hx hb dX11_fillsWhose_102 ?_
        obtain ⟨hi_23, hf⟩ := z_c_e hf
        refine r_ial X hR ka_199 hi_23 dX11_fillsWhose_103 ?_
        refine lv_icmp_ne (tgt := 111) hx hb dX11_fillsWhose_104 (by decide) (fun c_24 => ?_) (fun c_24 => ?_)
        · replace hf := z_f c_24 hf
          exact w11_fillsWhose_111 X hr hlk N ih x1 x2_6 x1 σ_11 _ _ _ hf hR (lv_sub hl [1, 2, 0] rfl)
        · replace hf := z_t c_24 hf
          refine lv_iconst (v := (1 : Int32)) hx hb dX11_fillsWhose_107 (by decide) ?_
          refine lv_goto (tgt := 112) hx hb dX11_fillsWhose_108 (by decide) ?_
          exact w11_fillsWhose_112 X hr hlk N ih x1 x2_6 x1 (1 : Int32) σ_11 _ _ _ hf hR (lv_sub hl [1, 2, 0] rfl)
set_option maxHeartbeats 4000000 in
set_option maxRecDepth 100000 in
theorem w11_fillsWhose_41 (X : Cx p s m args c cX11_fillsWhose 3 RX11 G) (hr : meth.sig.returnType = none) (hlk : meth.locks = false) (N : Nat) :
    ∀ (σ : Mm) (H : Heap) (locs : List Loc) (ls : Array Slot), f11_fillsWhose_41 N σ = some (u0, σ0) → Rp G 212 tt σ s H locs → lv_has ls 3 [(0, .ref (G.2.2 + 160))] → W p l e rm11_fillsWhose s m args below meth c H locs 0 0 (MQ below (P_v G 212 tt u0 σ0) args s 0 0 (Fr G)) (F0 m 41 ls []) := by
  have hx := X.1
  have hb := X.2.1
  intro σ H locs ls hf hR hl
  unfold f11_fillsWhose_41 at hf
  refine lv_iconst (v := (0 : Int32)) hx hb dX11_fillsWhose_41 (by decide) ?_
  refine lv_istore_n (lv' := [(1, .int (0 : Int32)), (0, .ref (G.2.2 + 160))]) hx hb dX11_fillsWhose_42 rfl hl (by decide) rfl (fun ls hl => ?_)
  exact w11_fillsWhose_43 X hr hlk N  N (0 : Int32) σ _ _ _ hf hR (lv_sub hl [1, 0] rfl)
set_option maxHeartbeats 4000000 in
set_option maxRecDepth 100000 in
theorem w11_fillsWhose_2 (X : Cx p s m args c cX11_fillsWhose 3 RX11 G) (hr : meth.sig.returnType = none) (hlk : meth.locks = false) (N : Nat) :
    ∀ (fu : Nat) (x1 : Int32) (σ : Mm) (H : Heap) (locs : List Loc) (ls : Array Slot), f11_fillsWhose_2 N fu x1 σ = some (u0, σ0) → Rp G 212 tt σ s H locs → lv_has ls 3 [(0, .ref (G.2.2 + 160)), (1, .int x1)] → W p l e rm11_fillsWhose s m args below meth c H locs 0 0 (MQ below (P_v G 212 tt u0 σ0) args s 0 0 (Fr G)) (F0 m 2 ls []) := by
  have hx := X.1
  have hb := X.2.1
  intro fu
  induction fu with
  | zero =>
    intro x1 σ H locs ls hf hR hl
    rw [f11_fillsWhose_2] at hf
    cases hf
  | succ fu ih =>
    intro x1 σ H locs ls hf hR hl
    rw [f11_fillsWhose_2] at hf
    refine lv_iload_n hx hb dX11_fillsWhose_2 rfl (lv_at hl 1 rfl) ?_
    refine lv_aload_n hx hb dX11_fillsWhose_3 rfl (lv_at hl 0 rfl) ?_
    refine r_gs (t := 171) X hR fr_11_49 kh_160 (sx_11_24 kh_160) dX11_fillsWhose_4 ?_
    refine lv_aload_n hx hb dX11_fillsWhose_7 rfl (lv_at hl 0 rfl) ?_
    refine r_gi X hR fi_11_254 kh_160 dX11_fillsWhose_8 ?_
    obtain ⟨hi_1, hf⟩ := z_c_e hf
    refine r_ial X hR ka_171 hi_1 dX11_fillsWhose_11 ?_
    refine lv_icmp_ge (tgt := 41) hx hb dX11_fillsWhose_12 (by decide) (fun c_2 => ?_) (fun c_2 => ?_)
    · replace hf := z_t c_2 hf
      exact w11_fillsWhose_41 X hr hlk N   σ _ _ _ hf hR (lv_sub hl [0] rfl)
    · replace hf := z_f c_2 hf
      refine lv_aload_n hx hb dX11_fillsWhose_15 rfl (lv_at hl 0 rfl) ?_
      refine r_gs (t := 200) X hR fr_11_137 kh_160 (sx_11_60 kh_160) dX11_fillsWhose_16 ?_
      refine lv_iload_n hx hb dX11_fillsWhose_19 rfl (lv_at hl 1 rfl) ?_
      refine lv_aload_n hx hb dX11_fillsWhose_20 rfl (lv_at hl 0 rfl) ?_
      refine r_gs (t := 174) X hR fr_11_58 kh_160 (sx_11_27 kh_160) dX11_fillsWhose_21 ?_
      refine lv_bipush (v := (7 : Int32)) hx hb dX11_fillsWhose_24 (by decide) ?_
      refine lv_aload_n hx hb dX11_fillsWhose_26 rfl (lv_at hl 0 rfl) ?_
      refine r_gi X hR fi_11_254 kh_160 dX11_fillsWhose_27 ?_
      refine lv_imul hx hb dX11_fillsWhose_30 ?_
      refine lv_iload_n hx hb dX11_fillsWhose_31 rfl (lv_at hl 1 rfl) ?_
      refine lv_iadd hx hb dX11_fillsWhose_32 ?_
      obtain ⟨hi_25, hf⟩ := z_c_e hf
      refine r_ial X hR ka_174 hi_25 dX11_fillsWhose_33 ?_
      obtain ⟨hi_26, hf⟩ := z_c_e hf
      refine r_ias X hR ka_200 hi_26 dX11_fillsWhose_34 (fun H locs σ_27 eσ_27 hR => ?_)
      replace hf := z_l_e eσ_27 hf
      obtain ⟨x1_28, ex1_28⟩ : ∃ z : Int32, z = x1 + (1 : Int32) := ⟨_, rfl⟩
      replace hf := z_l_e ex1_28 hf
      refine lv_iinc (v := x1_28) (lv' := [(1, .int x1_28), (0, .ref (G.2.2 + 160))]) hx hb dX11_fillsWhose_35 hl (k := 1) rfl (by rw [ex1_28]; rfl) (by decide) rfl (fun ls hl => ?_)
      refine lv_goto (tgt := 2) hx hb dX11_fillsWhose_38 (by decide) ?_
      exact ih x1_28 σ_27 _ _ _ hf hR (lv_sub hl [1, 0] rfl)
set_option maxHeartbeats 4000000 in
set_option maxRecDepth 100000 in
theorem c11_fillsWhose (l : Launch) (G : Gp) (N : Nat) {σ σ0 : Mm} {u0 : Unit} (hf : f11_fillsWhose N σ = some (u0, σ0)) : Met l yX11_fillsWhose (WS yX11_fillsWhose cX11_fillsWhose 3 (none)) rm11_fillsWhose (va_Pc [.ref (G.2.2 + 160)] (Pd G 212 tt σ)) (P_v G 212 tt u0 σ0) 0 0 (Fr G) := by
  refine ct [(0, .ref (G.2.2 + 160))] rfl (by decide) (Nat.le_of_ble_eq_true rfl) ?_
  intro p e s m below meth c ls X hr hlk hR hl
  have X : Cx p s m _ c cX11_fillsWhose 3 RX11 G := X
  have hx := X.1
  have hb := X.2.1
  unfold f11_fillsWhose at hf
  refine lv_iconst (v := (0 : Int32)) hx hb dX11_fillsWhose_0 (by decide) ?_
  refine lv_istore_n (lv' := [(1, .int (0 : Int32)), (0, .ref (G.2.2 + 160))]) hx hb dX11_fillsWhose_1 rfl hl (by decide) rfl (fun ls hl => ?_)
  exact w11_fillsWhose_2 X hr hlk N  N (0 : Int32) σ _ _ _ hf hR (lv_sub hl [1, 0] rfl)
abbrev rm11_yearGoes : Room := { frames := 3, cells := 0, slots := 0, locals := 74 }
def f11_yearGoes_101 (N : Nat) (σ : Mm) : Option (Unit × Mm) :=
  z_c (inB (14 : Int32) 117) (
  z_c (inB (14 : Int32) 117) (z_l (sI σ 199 (ix (14 : Int32)) ((gI σ 199 (ix (14 : Int32))) + (1 : Int32))) fun σ_5 =>
  some ((), σ_5)))
def f11_yearGoes_95 (N : Nat) (k2 : Int32 → Mm → Option (Unit × Mm)) (x1 : Int32) (σ : Mm) : Option (Unit × Mm) :=
  z_l (x1 + (1 : Int32)) fun x1_15 =>
  k2 x1_15 σ
def f11_yearGoes_74 (N : Nat) (k2 : Int32 → Mm → Option (Unit × Mm)) (x1 : Int32) (σ : Mm) : Option (Unit × Mm) :=
  z_c (inB x1 117) (
  z_b (f11_held N ((gI σ 199 (ix x1)) + (1 : Int32)) (0 : Int32) (999 : Int32) σ) fun r_10 σ_11 =>
  z_c (inB x1 117) (z_l (sI σ_11 199 (ix x1) r_10) fun σ_14 =>
  f11_yearGoes_95 N k2 x1 σ_14))
def f11_yearGoes_2 (N : Nat) : Nat → Int32 → Mm → Option (Unit × Mm)
  | 0, _, _ => none
  | fu + 1, x1, σ => z_c (inB (gI σ 160 18) 2) (
  if (gI σ 175 (ix (gI σ 160 18))) ≤ x1 then (
  f11_yearGoes_101 N σ) else (
  z_c (inB ((7 : Int32) + x1) 117) (
  if (gI σ 199 (ix ((7 : Int32) + x1))) = 0 then (
  f11_yearGoes_95 N (fun x1 σ => f11_yearGoes_2 N fu x1 σ) x1 σ) else (
  if (gI σ 160 58) = 0 then (
  z_c (inB (14 : Int32) 117) (
  z_b (f11_lotOf N (((8 : Int32) * (gI σ 199 (ix (14 : Int32)))) + x1) σ) fun r_17 σ_18 =>
  z_b (f11_diesNow N x1 σ_18) fun r_20 σ_21 =>
  if r_20 ≤ r_17 then (
  f11_yearGoes_74 N (fun x1 σ => f11_yearGoes_2 N fu x1 σ) x1 σ_21) else (
  z_c (inB ((7 : Int32) + x1) 117) (z_l (sI σ_21 199 (ix ((7 : Int32) + x1)) (0 : Int32)) fun σ_25 =>
  f11_yearGoes_95 N (fun x1 σ => f11_yearGoes_2 N fu x1 σ) x1 σ_25)))) else (
  f11_yearGoes_74 N (fun x1 σ => f11_yearGoes_2 N fu x1 σ) x1 σ)))))
def f11_yearGoes (N : Nat) (σ : Mm) : Option (Unit × Mm) :=
  f11_yearGoes_2 N N (0 : Int32) σ
set_option maxHeartbeats 4000000 in
set_option maxRecDepth 100000 in
theorem w11_yearGoes_101 (X : Cx p s m args c cX11_yearGoes 2 RX11 G) (hr : meth.sig.returnType = none) (hlk : meth.locks = false) (N : Nat) :
    ∀ (σ : Mm) (H : Heap) (locs : List Loc) (ls : Array Slot), f11_yearGoes_101 N σ = some (u0, σ0) → Rp G 212 tt σ s H locs → lv_has ls 2 [(0, .ref (G.2.2 + 160))] → W p l e rm11_yearGoes s m args below meth c H locs 0 0 (MQ below (P_v G 212 tt u0 σ0) args s 0 0 (Fr G)) (F0 m 101 ls []) := by
  have hx := X.1
  have hb := X.2.1
  intro σ H locs ls hf hR hl
  unfold f11_yearGoes_101 at hf
  refine lv_aload_n hx hb dX11_yearGoes_101 rfl (lv_at hl 0 rfl) ?_
  refine r_gs (t := 199) X hR fr_11_134 kh_160 (sx_11_56 kh_160) dX11_yearGoes_102 ?_
  refine lv_bipush (v := (14 : Int32)) hx hb dX11_yearGoes_105 (by decide) ?_
  refine lv_dup2_11 hx hb dX11_yearGoes_107 rfl rfl ?_
  obtain ⟨hi_3, hf⟩ := z_c_e hf
  refine r_ial X hR ka_199 hi_3 dX11_yearGoes_108 ?_
  refine lv_iconst (v := (1 : Int32)) hx hb dX11_yearGoes_109 (by decide) ?_
  refine lv_iadd hx hb dX11_yearGoes_110 ?_
  obtain ⟨hi_4, hf⟩ := z_c_e hf
  refine r_ias X hR ka_199 hi_4 dX11_yearGoes_111 (fun H locs σ_5 eσ_5 hR => ?_)
  replace hf := z_l_e eσ_5 hf
  exact e_v X hR hr hlk hf dX11_yearGoes_112
set_option maxHeartbeats 4000000 in
set_option maxRecDepth 100000 in
theorem w11_yearGoes_95 (X : Cx p s m args c cX11_yearGoes 2 RX11 G) (hr : meth.sig.returnType = none) (hlk : meth.locks = false) (N : Nat) {k2 : Int32 → Mm → Option (Unit × Mm)} (hk2 : ∀ (x1 : Int32) (σ : Mm) (H : Heap) (locs : List Loc) (ls : Array Slot), k2 x1 σ = some (u0, σ0) → Rp G 212 tt σ s H locs → lv_has ls 2 [(0, .ref (G.2.2 + 160)), (1, .int x1)] → W p l e rm11_yearGoes s m args below meth c H locs 0 0 (MQ below (P_v G 212 tt u0 σ0) args s 0 0 (Fr G)) (F0 m 2 ls [])) :
    ∀ (x1 : Int32) (σ : Mm) (H : Heap) (locs : List Loc) (ls : Array Slot), f11_yearGoes_95 N k2 x1 σ = some (u0, σ0) → Rp G 212 tt σ s H locs → lv_has ls 2 [(0, .ref (G.2.2 + 160)), (1, .int x1)] → W p l e rm11_yearGoes s m args below meth c H locs 0 0 (MQ below (P_v G 212 tt u0 σ0) args s 0 0 (Fr G)) (F0 m 95 ls []) := by
  have hx := X.1
  have hb := X.2.1
  intro x1 σ H locs ls hf hR hl
  unfold f11_yearGoes_95 at hf
  obtain ⟨x1_15, ex1_15⟩ : ∃ z : Int32, z = x1 + (1 : Int32) := ⟨_, rfl⟩
  replace hf := z_l_e ex1_15 hf
  refine lv_iinc (v := x1_15) (lv' := [(1, .int x1_15), (0, .ref (G.2.2 + 160))]) hx hb dX11_yearGoes_95 hl (k := 1) rfl (by rw [ex1_15]; rfl) (by decide) rfl (fun ls hl => ?_)
  refine lv_goto (tgt := 2) hx hb dX11_yearGoes_98 (by decide) ?_
  exact hk2 x1_15 σ _ _ _ hf hR (lv_sub hl [1, 0] rfl)
set_option maxHeartbeats 4000000 in
set_option maxRecDepth 100000 in
theorem w11_yearGoes_74 (X : Cx p s m args c cX11_yearGoes 2 RX11 G) (hr : meth.sig.returnType = none) (hlk : meth.locks = false) (N : Nat) {k2 : Int32 → Mm → Option (Unit × Mm)} (hk2 : ∀ (x1 : Int32) (σ : Mm) (H : Heap) (locs : List Loc) (ls : Array Slot), k2 x1 σ = some (u0, σ0) → Rp G 212 tt σ s H locs → lv_has ls 2 [(0, .ref (G.2.2 + 160)), (1, .int x1)] → W p l e rm11_yearGoes s m args below meth c H locs 0 0 (MQ below (P_v G 212 tt u0 σ0) args s 0 0 (Fr G)) (F0 m 2 ls [])) :
    ∀ (x1 : Int32) (σ : Mm) (H : Heap) (locs : List Loc) (ls : Array Slot), f11_yearGoes_74 N k2 x1 σ = some (u0, σ0) → Rp G 212 tt σ s H locs → lv_has ls 2 [(0, .ref (G.2.2 + 160)), (1, .int x1)] → W p l e rm11_yearGoes s m args below meth c H locs 0 0 (MQ below (P_v G 212 tt u0 σ0) args s 0 0 (Fr G)) (F0 m 74 ls []) := by
  have hx := X.1
  have hb := X.2.1
  intro x1 σ H locs ls hf hR hl
  unfold f11_yearGoes_74 at hf
  refine lv_aload_n hx hb dX11_yearGoes_74 rfl (lv_at hl 0 rfl) ?_
  refine r_gs (t := 199) X hR fr_11_134 kh_160 (sx_11_56 kh_160) dX11_yearGoes_75 ?_
  refine lv_iload_n hx hb dX11_yearGoes_78 rfl (lv_at hl 1 rfl) ?_
  refine lv_aload_n hx hb dX11_yearGoes_79 rfl (lv_at hl 0 rfl) ?_
  refine r_gs (t := 199) X hR fr_11_134 kh_160 (sx_11_56 kh_160) dX11_yearGoes_80 ?_
  refine lv_iload_n hx hb dX11_yearGoes_83 rfl (lv_at hl 1 rfl) ?_
  obtain ⟨hi_9, hf⟩ := z_c_e hf
  refine r_ial X hR ka_199 hi_9 dX11_yearGoes_84 ?_
  refine lv_iconst (v := (1 : Int32)) hx hb dX11_yearGoes_85 (by decide) ?_
  refine lv_iadd hx hb dX11_yearGoes_86 ?_
  refine lv_iconst (v := (0 : Int32)) hx hb dX11_yearGoes_87 (by decide) ?_
  refine lv_sipush (v := (999 : Int32)) hx hb dX11_yearGoes_88 (by decide) ?_
  obtain ⟨r_10, σ_11, hc_12, hf⟩ := z_b_e hf
  refine go_i hR (ms_run (As := [.int ((gI σ 199 (ix x1)) + (1 : Int32)), .int (0 : Int32), .int (999 : Int32)]) (rest := [.int x1, .ref (G.2.2 + 199)]) X hR ms_11_372 (c11_held l G N hc_12) ⟨rfl, rfl, Nat.le_of_ble_eq_true rfl, Nat.le_of_ble_eq_true rfl⟩ rfl hl.1 rfl (Nat.le_of_ble_eq_true rfl) dX11_yearGoes_91 ⟨Nat.zero_le _, Nat.zero_le _⟩) (fun H locs hR => ?_)
  obtain ⟨hi_13, hf⟩ := z_c_e hf
  refine r_ias X hR ka_199 hi_13 dX11_yearGoes_94 (fun H locs σ_14 eσ_14 hR => ?_)
  replace hf := z_l_e eσ_14 hf
  exact w11_yearGoes_95 X hr hlk N hk2 x1 σ_14 _ _ _ hf hR (lv_sub hl [0, 1] rfl)
set_option maxHeartbeats 4000000 in
set_option maxRecDepth 100000 in
theorem w11_yearGoes_2 (X : Cx p s m args c cX11_yearGoes 2 RX11 G) (hr : meth.sig.returnType = none) (hlk : meth.locks = false) (N : Nat) :
    ∀ (fu : Nat) (x1 : Int32) (σ : Mm) (H : Heap) (locs : List Loc) (ls : Array Slot), f11_yearGoes_2 N fu x1 σ = some (u0, σ0) → Rp G 212 tt σ s H locs → lv_has ls 2 [(0, .ref (G.2.2 + 160)), (1, .int x1)] → W p l e rm11_yearGoes s m args below meth c H locs 0 0 (MQ below (P_v G 212 tt u0 σ0) args s 0 0 (Fr G)) (F0 m 2 ls []) := by
  have hx := X.1
  have hb := X.2.1
  intro fu
  induction fu with
  | zero =>
    intro x1 σ H locs ls hf hR hl
    rw [f11_yearGoes_2] at hf
    cases hf
  | succ fu ih =>
    intro x1 σ H locs ls hf hR hl
    rw [f11_yearGoes_2] at hf
    refine lv_iload_n hx hb dX11_yearGoes_2 rfl (lv_at hl 1 rfl) ?_
    refine lv_aload_n hx hb dX11_yearGoes_3 rfl (lv_at hl 0 rfl) ?_
    refine r_gs (t := 175) X hR fr_11_61 kh_160 (sx_11_28 kh_160) dX11_yearGoes_4 ?_
    refine lv_aload_n hx hb dX11_yearGoes_7 rfl (lv_at hl 0 rfl) ?_
    refine r_gi X hR fi_11_254 kh_160 dX11_yearGoes_8 ?_
    obtain ⟨hi_1, hf⟩ := z_c_e hf
    refine r_ial X hR ka_175 hi_1 dX11_yearGoes_11 ?_
    refine lv_icmp_ge (tgt := 101) hx hb dX11_yearGoes_12 (by decide) (fun c_2 => ?_) (fun c_2 => ?_)
    · replace hf := z_t c_2 hf
      exact w11_yearGoes_101 X hr hlk N   σ _ _ _ hf hR (lv_sub hl [0] rfl)
    · replace hf := z_f c_2 hf
      refine lv_aload_n hx hb dX11_yearGoes_15 rfl (lv_at hl 0 rfl) ?_
      refine r_gs (t := 199) X hR fr_11_134 kh_160 (sx_11_56 kh_160) dX11_yearGoes_16 ?_
      refine lv_bipush (v := (7 : Int32)) hx hb dX11_yearGoes_19 (by decide) ?_
      refine lv_iload_n hx hb dX11_yearGoes_21 rfl (lv_at hl 1 rfl) ?_
      refine lv_iadd hx hb dX11_yearGoes_22 ?_
      obtain ⟨hi_6, hf⟩ := z_c_e hf
      refine r_ial X hR ka_199 hi_6 dX11_yearGoes_23 ?_
      refine lv_if_ne (tgt := 30) hx hb dX11_yearGoes_24 (by decide) (fun c_7 => ?_) (fun c_7 => ?_)
      · replace hf := z_f c_7 hf
        refine lv_aload_n hx hb dX11_yearGoes_30 rfl (lv_at hl 0 rfl) ?_
        refine r_gi X hR fi_11_347 kh_160 dX11_yearGoes_31 ?_
        refine lv_if_ne (tgt := 74) hx hb dX11_yearGoes_34 (by decide) (fun c_8 => ?_) (fun c_8 => ?_)
        · replace hf := z_f c_8 hf
          exact w11_yearGoes_74 X hr hlk N ih x1 σ _ _ _ hf hR (lv_sub hl [0, 1] rfl)
        · replace hf := z_t c_8 hf
          refine lv_aload_n hx hb dX11_yearGoes_37 rfl (lv_at hl 0 rfl) ?_
          refine lv_bipush (v := (8 : Int32)) hx hb dX11_yearGoes_38 (by decide) ?_
          refine lv_aload_n hx hb dX11_yearGoes_40 rfl (lv_at hl 0 rfl) ?_
          refine r_gs (t := 199) X hR fr_11_134 kh_160 (sx_11_56 kh_160) dX11_yearGoes_41 ?_
          refine lv_bipush (v := (14 : Int32)) hx hb dX11_yearGoes_44 (by decide) ?_
          obtain ⟨hi_16, hf⟩ := z_c_e hf
          refine r_ial X hR ka_199 hi_16 dX11_yearGoes_46 ?_
          refine lv_imul hx hb dX11_yearGoes_47 ?_
          refine lv_iload_n hx hb dX11_yearGoes_48 rfl (lv_at hl 1 rfl) ?_
          refine lv_iadd hx hb dX11_yearGoes_49 ?_
          obtain ⟨r_17, σ_18, hc_19, hf⟩ := z_b_e hf
          refine go_i hR (mv_run (As := [.int (((8 : Int32) * (gI σ 199 (ix (14 : Int32)))) + x1)]) (rest := []) X hR mv_11_388 kh_160 (kd_lt kh_160 (by decide)) (c11_lotOf l G N hc_19) ⟨rfl, rfl, Nat.le_of_ble_eq_true rfl, Nat.le_of_ble_eq_true rfl⟩ rfl hl.1 rfl (Nat.le_of_ble_eq_true rfl) dX11_yearGoes_50 ⟨Nat.zero_le _, Nat.zero_le _⟩) (fun H locs hR => ?_)
          refine lv_aload_n hx hb dX11_yearGoes_53 rfl (lv_at hl 0 rfl) ?_
          refine lv_iload_n hx hb dX11_yearGoes_54 rfl (lv_at hl 1 rfl) ?_
          obtain ⟨r_20, σ_21, hc_22, hf⟩ := z_b_e hf
          refine go_i hR (mv_run (As := [.int x1]) (rest := [.int r_17]) X hR mv_11_391 kh_160 (kd_lt kh_160 (by decide)) (c11_diesNow l G N hc_22) ⟨rfl, rfl, Nat.le_of_ble_eq_true rfl, Nat.le_of_ble_eq_true rfl⟩ rfl hl.1 rfl (Nat.le_of_ble_eq_true rfl) dX11_yearGoes_55 ⟨Nat.zero_le _, Nat.zero_le _⟩) (fun H locs hR => ?_)
          refine lv_icmp_ge (tgt := 74) hx hb dX11_yearGoes_58 (by decide) (fun c_23 => ?_) (fun c_23 => ?_)
          · replace hf := z_t c_23 hf
            exact w11_yearGoes_74 X hr hlk N ih x1 σ_21 _ _ _ hf hR (lv_sub hl [0, 1] rfl)
          · replace hf := z_f c_23 hf
            refine lv_aload_n hx hb dX11_yearGoes_61 rfl (lv_at hl 0 rfl) ?_
            refine r_gs (t := 199) X hR fr_11_134 kh_160 (sx_11_56 kh_160) dX11_yearGoes_62 ?_
            refine lv_bipush (v := (7 : Int32)) hx hb dX11_yearGoes_65 (by decide) ?_
            refine lv_iload_n hx hb dX11_yearGoes_67 rfl (lv_at hl 1 rfl) ?_
            refine lv_iadd hx hb dX11_yearGoes_68 ?_
            refine lv_iconst (v := (0 : Int32)) hx hb dX11_yearGoes_69 (by decide) ?_
            obtain ⟨hi_24, hf⟩ := z_c_e hf
            refine r_ias X hR ka_199 hi_24 dX11_yearGoes_70 (fun H locs σ_25 eσ_25 hR => ?_)
            replace hf := z_l_e eσ_25 hf
            refine lv_goto (tgt := 95) hx hb dX11_yearGoes_71 (by decide) ?_
            exact w11_yearGoes_95 X hr hlk N ih x1 σ_25 _ _ _ hf hR (lv_sub hl [0, 1] rfl)
      · replace hf := z_t c_7 hf
        refine lv_goto (tgt := 95) hx hb dX11_yearGoes_27 (by decide) ?_
        exact w11_yearGoes_95 X hr hlk N ih x1 σ _ _ _ hf hR (lv_sub hl [0, 1] rfl)
set_option maxHeartbeats 4000000 in
set_option maxRecDepth 100000 in
theorem c11_yearGoes (l : Launch) (G : Gp) (N : Nat) {σ σ0 : Mm} {u0 : Unit} (hf : f11_yearGoes N σ = some (u0, σ0)) : Met l yX11_yearGoes (WS yX11_yearGoes cX11_yearGoes 2 (none)) rm11_yearGoes (va_Pc [.ref (G.2.2 + 160)] (Pd G 212 tt σ)) (P_v G 212 tt u0 σ0) 0 0 (Fr G) := by
  refine ct [(0, .ref (G.2.2 + 160))] rfl (by decide) (Nat.le_of_ble_eq_true rfl) ?_
  intro p e s m below meth c ls X hr hlk hR hl
  have X : Cx p s m _ c cX11_yearGoes 2 RX11 G := X
  have hx := X.1
  have hb := X.2.1
  unfold f11_yearGoes at hf
  refine lv_iconst (v := (0 : Int32)) hx hb dX11_yearGoes_0 (by decide) ?_
  refine lv_istore_n (lv' := [(1, .int (0 : Int32)), (0, .ref (G.2.2 + 160))]) hx hb dX11_yearGoes_1 rfl hl (by decide) rfl (fun ls hl => ?_)
  exact w11_yearGoes_2 X hr hlk N  N (0 : Int32) σ _ _ _ hf hR (lv_sub hl [1, 0] rfl)
abbrev rm11_goes : Room := { frames := 4, cells := 0, slots := 0, locals := 95 }
def f11_goes_2 (N : Nat) (x1 : Int32) : Nat → Int32 → Mm → Option (Unit × Mm)
  | 0, _, _ => none
  | fu + 1, x2, σ => if x1 ≤ x2 then (
  some ((), σ)) else (
  z_b (f11_yearGoes N σ) fun _ σ_3 =>
  z_l (x2 + (1 : Int32)) fun x2_5 =>
  f11_goes_2 N x1 fu x2_5 σ_3)
def f11_goes (N : Nat) (x1 : Int32) (σ : Mm) : Option (Unit × Mm) :=
  f11_goes_2 N x1 N (0 : Int32) σ
set_option maxHeartbeats 4000000 in
set_option maxRecDepth 100000 in
theorem w11_goes_2 (X : Cx p s m args c cX11_goes 3 RX11 G) (hr : meth.sig.returnType = none) (hlk : meth.locks = false) (N : Nat) {x1 : Int32} :
    ∀ (fu : Nat) (x2 : Int32) (σ : Mm) (H : Heap) (locs : List Loc) (ls : Array Slot), f11_goes_2 N x1 fu x2 σ = some (u0, σ0) → Rp G 212 tt σ s H locs → lv_has ls 3 [(0, .ref (G.2.2 + 160)), (1, .int x1), (2, .int x2)] → W p l e rm11_goes s m args below meth c H locs 0 0 (MQ below (P_v G 212 tt u0 σ0) args s 0 0 (Fr G)) (F0 m 2 ls []) := by
  have hx := X.1
  have hb := X.2.1
  intro fu
  induction fu with
  | zero =>
    intro x2 σ H locs ls hf hR hl
    rw [f11_goes_2] at hf
    cases hf
  | succ fu ih =>
    intro x2 σ H locs ls hf hR hl
    rw [f11_goes_2] at hf
    refine lv_iload_n hx hb dX11_goes_2 rfl (lv_at hl 2 rfl) ?_
    refine lv_iload_n hx hb dX11_goes_3 rfl (lv_at hl 1 rfl) ?_
    refine lv_icmp_ge (tgt := 17) hx hb dX11_goes_4 (by decide) (fun c_1 => ?_) (fun c_1 => ?_)
    · replace hf := z_t c_1 hf
      exact e_v X hR hr hlk hf dX11_goes_17
    · replace hf := z_f c_1 hf
      refine lv_aload_n hx hb dX11_goes_7 rfl (lv_at hl 0 rfl) ?_
      obtain ⟨r_2, σ_3, hc_4, hf⟩ := z_b_e hf
      refine go_v hR (mv_run (As := []) (rest := []) X hR mv_11_394 kh_160 (kd_lt kh_160 (by decide)) (c11_yearGoes l G N hc_4) ⟨rfl, rfl, Nat.le_of_ble_eq_true rfl, Nat.le_of_ble_eq_true rfl⟩ rfl hl.1 rfl (Nat.le_of_ble_eq_true rfl) dX11_goes_8 ⟨Nat.zero_le _, Nat.zero_le _⟩) (fun H locs hR => ?_)
      obtain ⟨x2_5, ex2_5⟩ : ∃ z : Int32, z = x2 + (1 : Int32) := ⟨_, rfl⟩
      replace hf := z_l_e ex2_5 hf
      refine lv_iinc (v := x2_5) (lv' := [(2, .int x2_5), (0, .ref (G.2.2 + 160)), (1, .int x1)]) hx hb dX11_goes_11 hl (k := 2) rfl (by rw [ex2_5]; rfl) (by decide) rfl (fun ls hl => ?_)
      refine lv_goto (tgt := 2) hx hb dX11_goes_14 (by decide) ?_
      exact ih x2_5 σ_3 _ _ _ hf hR (lv_sub hl [1, 2, 0] rfl)
set_option maxHeartbeats 4000000 in
set_option maxRecDepth 100000 in
theorem c11_goes (l : Launch) (G : Gp) (N : Nat) {x1 : Int32} {σ σ0 : Mm} {u0 : Unit} (hf : f11_goes N x1 σ = some (u0, σ0)) : Met l yX11_goes (WS yX11_goes cX11_goes 3 (none)) rm11_goes (va_Pc [.ref (G.2.2 + 160), .int x1] (Pd G 212 tt σ)) (P_v G 212 tt u0 σ0) 0 0 (Fr G) := by
  refine ct [(0, .ref (G.2.2 + 160)), (1, .int x1)] rfl (by decide) (Nat.le_of_ble_eq_true rfl) ?_
  intro p e s m below meth c ls X hr hlk hR hl
  have X : Cx p s m _ c cX11_goes 3 RX11 G := X
  have hx := X.1
  have hb := X.2.1
  unfold f11_goes at hf
  refine lv_iconst (v := (0 : Int32)) hx hb dX11_goes_0 (by decide) ?_
  refine lv_istore_n (lv' := [(2, .int (0 : Int32)), (0, .ref (G.2.2 + 160)), (1, .int x1)]) hx hb dX11_goes_1 rfl hl (by decide) rfl (fun ls hl => ?_)
  exact w11_goes_2 X hr hlk N  N (0 : Int32) σ _ _ _ hf hR (lv_sub hl [1, 2, 0] rfl)
abbrev rm11_countsOf : Room := { frames := 0, cells := 0, slots := 0, locals := 0 }
def f11_countsOf_40 (N : Nat) (k4 : Int32 → Int32 → Mm → Option (Int32 × Mm)) (x1 : Int32) (x2 : Int32) (x3 : Int32) (σ : Mm) : Option (Int32 × Mm) :=
  z_l (x3 + (1 : Int32)) fun x3_5 =>
  k4 x2 x3_5 σ
def f11_countsOf_4 (N : Nat) (x1 : Int32) : Nat → Int32 → Int32 → Mm → Option (Int32 × Mm)
  | 0, _, _, _ => none
  | fu + 1, x2, x3, σ => z_c (inB (15 : Int32) 117) (
  if (gI σ 199 (ix (15 : Int32))) ≤ x3 then (
  some (x2, σ)) else (
  z_c (inB ((17 : Int32) + x3) 117) (
  if (gI σ 199 (ix ((17 : Int32) + x3))) = x1 then (
  z_c (inB x3 20) (
  if (gI σ 202 (ix x3)) = 0 then (
  f11_countsOf_40 N (fun x2 x3 σ => f11_countsOf_4 N x1 fu x2 x3 σ) x1 x2 x3 σ) else (
  z_l (x2 + (1 : Int32)) fun x2_8 =>
  f11_countsOf_40 N (fun x2 x3 σ => f11_countsOf_4 N x1 fu x2 x3 σ) x1 x2_8 x3 σ))) else (
  f11_countsOf_40 N (fun x2 x3 σ => f11_countsOf_4 N x1 fu x2 x3 σ) x1 x2 x3 σ))))
def f11_countsOf (N : Nat) (x1 : Int32) (σ : Mm) : Option (Int32 × Mm) :=
  f11_countsOf_4 N x1 N (0 : Int32) (0 : Int32) σ
set_option maxHeartbeats 4000000 in
set_option maxRecDepth 100000 in
theorem w11_countsOf_40 (X : Cx p s m args c cX11_countsOf 4 RX11 G) (hr : meth.sig.returnType = some .int) (hlk : meth.locks = false) (N : Nat) {x1 : Int32} {k4 : Int32 → Int32 → Mm → Option (Int32 × Mm)} (hk4 : ∀ (x2 : Int32) (x3 : Int32) (σ : Mm) (H : Heap) (locs : List Loc) (ls : Array Slot), k4 x2 x3 σ = some (r0, σ0) → Rp G 212 tt σ s H locs → lv_has ls 4 [(0, .ref (G.2.2 + 160)), (1, .int x1), (2, .int x2), (3, .int x3)] → W p l e rm11_countsOf s m args below meth c H locs 0 0 (MQ below (P_i G 212 tt r0 σ0) args s 0 0 (Fr G)) (F0 m 4 ls [])) :
    ∀ (x2 : Int32) (x3 : Int32) (σ : Mm) (H : Heap) (locs : List Loc) (ls : Array Slot), f11_countsOf_40 N k4 x1 x2 x3 σ = some (r0, σ0) → Rp G 212 tt σ s H locs → lv_has ls 4 [(0, .ref (G.2.2 + 160)), (1, .int x1), (2, .int x2), (3, .int x3)] → W p l e rm11_countsOf s m args below meth c H locs 0 0 (MQ below (P_i G 212 tt r0 σ0) args s 0 0 (Fr G)) (F0 m 40 ls []) := by
  have hx := X.1
  have hb := X.2.1
  intro x2 x3 σ H locs ls hf hR hl
  unfold f11_countsOf_40 at hf
  obtain ⟨x3_5, ex3_5⟩ : ∃ z : Int32, z = x3 + (1 : Int32) := ⟨_, rfl⟩
  replace hf := z_l_e ex3_5 hf
  refine lv_iinc (v := x3_5) (lv' := [(3, .int x3_5), (0, .ref (G.2.2 + 160)), (1, .int x1), (2, .int x2)]) hx hb dX11_countsOf_40 hl (k := 3) rfl (by rw [ex3_5]; rfl) (by decide) rfl (fun ls hl => ?_)
  refine lv_goto (tgt := 4) hx hb dX11_countsOf_43 (by decide) ?_
  exact hk4 x2 x3_5 σ _ _ _ hf hR (lv_sub hl [1, 2, 3, 0] rfl)
set_option maxHeartbeats 4000000 in
set_option maxRecDepth 100000 in
theorem w11_countsOf_4 (X : Cx p s m args c cX11_countsOf 4 RX11 G) (hr : meth.sig.returnType = some .int) (hlk : meth.locks = false) (N : Nat) {x1 : Int32} :
    ∀ (fu : Nat) (x2 : Int32) (x3 : Int32) (σ : Mm) (H : Heap) (locs : List Loc) (ls : Array Slot), f11_countsOf_4 N x1 fu x2 x3 σ = some (r0, σ0) → Rp G 212 tt σ s H locs → lv_has ls 4 [(0, .ref (G.2.2 + 160)), (1, .int x1), (2, .int x2), (3, .int x3)] → W p l e rm11_countsOf s m args below meth c H locs 0 0 (MQ below (P_i G 212 tt r0 σ0) args s 0 0 (Fr G)) (F0 m 4 ls []) := by
  have hx := X.1
  have hb := X.2.1
  intro fu
  induction fu with
  | zero =>
    intro x2 x3 σ H locs ls hf hR hl
    rw [f11_countsOf_4] at hf
    cases hf
  | succ fu ih =>
    intro x2 x3 σ H locs ls hf hR hl
    rw [f11_countsOf_4] at hf
    refine lv_iload_n hx hb dX11_countsOf_4 rfl (lv_at hl 3 rfl) ?_
    refine lv_aload_n hx hb dX11_countsOf_5 rfl (lv_at hl 0 rfl) ?_
    refine r_gs (t := 199) X hR fr_11_134 kh_160 (sx_11_56 kh_160) dX11_countsOf_6 ?_
    refine lv_bipush (v := (15 : Int32)) hx hb dX11_countsOf_9 (by decide) ?_
    obtain ⟨hi_1, hf⟩ := z_c_e hf
    refine r_ial X hR ka_199 hi_1 dX11_countsOf_11 ?_
    refine lv_icmp_ge (tgt := 46) hx hb dX11_countsOf_12 (by decide) (fun c_2 => ?_) (fun c_2 => ?_)
    · replace hf := z_t c_2 hf
      refine lv_iload_n hx hb dX11_countsOf_46 rfl (lv_at hl 2 rfl) ?_
      exact e_i X hR hr hlk hf dX11_countsOf_47
    · replace hf := z_f c_2 hf
      refine lv_aload_n hx hb dX11_countsOf_15 rfl (lv_at hl 0 rfl) ?_
      refine r_gs (t := 199) X hR fr_11_134 kh_160 (sx_11_56 kh_160) dX11_countsOf_16 ?_
      refine lv_bipush (v := (17 : Int32)) hx hb dX11_countsOf_19 (by decide) ?_
      refine lv_iload_n hx hb dX11_countsOf_21 rfl (lv_at hl 3 rfl) ?_
      refine lv_iadd hx hb dX11_countsOf_22 ?_
      obtain ⟨hi_3, hf⟩ := z_c_e hf
      refine r_ial X hR ka_199 hi_3 dX11_countsOf_23 ?_
      refine lv_iload_n hx hb dX11_countsOf_24 rfl (lv_at hl 1 rfl) ?_
      refine lv_icmp_ne (tgt := 40) hx hb dX11_countsOf_25 (by decide) (fun c_4 => ?_) (fun c_4 => ?_)
      · replace hf := z_f c_4 hf
        exact w11_countsOf_40 X hr hlk N ih x2 x3 σ _ _ _ hf hR (lv_sub hl [0, 1, 2, 3] rfl)
      · replace hf := z_t c_4 hf
        refine lv_aload_n hx hb dX11_countsOf_28 rfl (lv_at hl 0 rfl) ?_
        refine r_gs (t := 202) X hR fr_11_143 kh_160 (sx_11_62 kh_160) dX11_countsOf_29 ?_
        refine lv_iload_n hx hb dX11_countsOf_32 rfl (lv_at hl 3 rfl) ?_
        obtain ⟨hi_6, hf⟩ := z_c_e hf
        refine r_zal X hR ka_202 hi_6 dX11_countsOf_33 ?_
        refine lv_if_eq (tgt := 40) hx hb dX11_countsOf_34 (by decide) (fun c_7 => ?_) (fun c_7 => ?_)
        · replace hf := z_t c_7 hf
          exact w11_countsOf_40 X hr hlk N ih x2 x3 σ _ _ _ hf hR (lv_sub hl [0, 1, 2, 3] rfl)
        · replace hf := z_f c_7 hf
          obtain ⟨x2_8, ex2_8⟩ : ∃ z : Int32, z = x2 + (1 : Int32) := ⟨_, rfl⟩
          replace hf := z_l_e ex2_8 hf
          refine lv_iinc (v := x2_8) (lv' := [(2, .int x2_8), (0, .ref (G.2.2 + 160)), (1, .int x1), (3, .int x3)]) hx hb dX11_countsOf_37 hl (k := 2) rfl (by rw [ex2_8]; rfl) (by decide) rfl (fun ls hl => ?_)
          exact w11_countsOf_40 X hr hlk N ih x2_8 x3 σ _ _ _ hf hR (lv_sub hl [1, 2, 0, 3] rfl)
set_option maxHeartbeats 4000000 in
set_option maxRecDepth 100000 in
theorem c11_countsOf (l : Launch) (G : Gp) (N : Nat) {x1 : Int32} {σ σ0 : Mm} {r0 : Int32} (hf : f11_countsOf N x1 σ = some (r0, σ0)) : Met l yX11_countsOf (WS yX11_countsOf cX11_countsOf 4 (some .int)) rm11_countsOf (va_Pc [.ref (G.2.2 + 160), .int x1] (Pd G 212 tt σ)) (P_i G 212 tt r0 σ0) 0 0 (Fr G) := by
  refine ct [(0, .ref (G.2.2 + 160)), (1, .int x1)] rfl (by decide) (Nat.le_of_ble_eq_true rfl) ?_
  intro p e s m below meth c ls X hr hlk hR hl
  have X : Cx p s m _ c cX11_countsOf 4 RX11 G := X
  have hx := X.1
  have hb := X.2.1
  unfold f11_countsOf at hf
  refine lv_iconst (v := (0 : Int32)) hx hb dX11_countsOf_0 (by decide) ?_
  refine lv_istore_n (lv' := [(2, .int (0 : Int32)), (0, .ref (G.2.2 + 160)), (1, .int x1)]) hx hb dX11_countsOf_1 rfl hl (by decide) rfl (fun ls hl => ?_)
  refine lv_iconst (v := (0 : Int32)) hx hb dX11_countsOf_2 (by decide) ?_
  refine lv_istore_n (lv' := [(3, .int (0 : Int32)), (2, .int (0 : Int32)), (0, .ref (G.2.2 + 160)), (1, .int x1)]) hx hb dX11_countsOf_3 rfl hl (by decide) rfl (fun ls hl => ?_)
  exact w11_countsOf_4 X hr hlk N  N (0 : Int32) (0 : Int32) σ _ _ _ hf hR (lv_sub hl [2, 3, 1, 0] rfl)
abbrev rm11_plot : Room := { frames := 6, cells := 0, slots := 0, locals := 141 }
def f11_plot (N : Nat) (x1 : Int32) (x2 : Int32) (σ : Mm) : Option (Int32 × Mm) :=
  z_b (f11_isPlot N x1 σ) fun r_1 σ_2 =>
  if r_1 = 0 then (
  some ((-1 : Int32), σ_2)) else (
  z_b (f11_copies N σ_2) fun _ σ_6 =>
  z_b (f11_fillsWhose N σ_6) fun _ σ_9 =>
  if x2 = (0 : Int32) then (
  z_c (inB (((7 : Int32) * (gI σ_9 160 18)) + x1) 14) (
  some ((gI σ_9 172 (ix (((7 : Int32) * (gI σ_9 160 18)) + x1))), σ_9))) else (
  if x2 = (1 : Int32) then (
  z_c (inB (((7 : Int32) * (gI σ_9 160 18)) + x1) 14) (
  some ((gI σ_9 173 (ix (((7 : Int32) * (gI σ_9 160 18)) + x1))), σ_9))) else (
  if x2 = (2 : Int32) then (
  z_c (inB (((7 : Int32) * (gI σ_9 160 18)) + x1) 14) (
  some ((gI σ_9 174 (ix (((7 : Int32) * (gI σ_9 160 18)) + x1))), σ_9))) else (
  if x2 = (3 : Int32) then (
  z_c (inB x1 7) (
  some ((gI σ_9 200 (ix x1)), σ_9))) else (
  if x2 = (4 : Int32) then (
  z_b (f11_countsOf N x1 σ_9) fun r_19 σ_20 =>
  some (r_19, σ_20)) else (
  some ((-1 : Int32), σ_9)))))))
set_option maxHeartbeats 4000000 in
set_option maxRecDepth 100000 in
theorem c11_plot (l : Launch) (G : Gp) (N : Nat) {x1 : Int32} {x2 : Int32} {σ σ0 : Mm} {r0 : Int32} (hf : f11_plot N x1 x2 σ = some (r0, σ0)) : Met l yX11_plot (WS yX11_plot cX11_plot 3 (some .int)) rm11_plot (va_Pc [.ref (G.2.2 + 160), .int x1, .int x2] (Pd G 212 tt σ)) (P_i G 212 tt r0 σ0) 0 0 (Fr G) := by
  refine ct [(0, .ref (G.2.2 + 160)), (1, .int x1), (2, .int x2)] rfl (by decide) (Nat.le_of_ble_eq_true rfl) ?_
  intro p e s m below meth c ls X hr hlk hR hl
  have X : Cx p s m _ c cX11_plot 3 RX11 G := X
  have hx := X.1
  have hb := X.2.1
  unfold f11_plot at hf
  refine lv_aload_n hx hb dX11_plot_0 rfl (lv_at hl 0 rfl) ?_
  refine lv_iload_n hx hb dX11_plot_1 rfl (lv_at hl 1 rfl) ?_
  obtain ⟨r_1, σ_2, hc_3, hf⟩ := z_b_e hf
  refine go_i hR (mv_run (As := [.int x1]) (rest := []) X hR mv_11_397 kh_160 (kd_lt kh_160 (by decide)) (c11_isPlot l G N hc_3) ⟨rfl, rfl, Nat.le_of_ble_eq_true rfl, Nat.le_of_ble_eq_true rfl⟩ rfl hl.1 rfl (Nat.le_of_ble_eq_true rfl) dX11_plot_2 ⟨Nat.zero_le _, Nat.zero_le _⟩) (fun H locs hR => ?_)
  refine lv_if_ne (tgt := 10) hx hb dX11_plot_5 (by decide) (fun c_4 => ?_) (fun c_4 => ?_)
  · replace hf := z_f c_4 hf
    refine lv_aload_n hx hb dX11_plot_10 rfl (lv_at hl 0 rfl) ?_
    obtain ⟨r_5, σ_6, hc_7, hf⟩ := z_b_e hf
    refine go_v hR (mv_run (As := []) (rest := []) X hR mv_11_400 kh_160 (kd_lt kh_160 (by decide)) (c11_copies l G N hc_7) ⟨rfl, rfl, Nat.le_of_ble_eq_true rfl, Nat.le_of_ble_eq_true rfl⟩ rfl hl.1 rfl (Nat.le_of_ble_eq_true rfl) dX11_plot_11 ⟨Nat.zero_le _, Nat.zero_le _⟩) (fun H locs hR => ?_)
    refine lv_aload_n hx hb dX11_plot_14 rfl (lv_at hl 0 rfl) ?_
    obtain ⟨r_8, σ_9, hc_10, hf⟩ := z_b_e hf
    refine go_v hR (mv_run (As := []) (rest := []) X hR mv_11_403 kh_160 (kd_lt kh_160 (by decide)) (c11_fillsWhose l G N hc_10) ⟨rfl, rfl, Nat.le_of_ble_eq_true rfl, Nat.le_of_ble_eq_true rfl⟩ rfl hl.1 rfl (Nat.le_of_ble_eq_true rfl) dX11_plot_15 ⟨Nat.zero_le _, Nat.zero_le _⟩) (fun H locs hR => ?_)
    refine lv_iload_n hx hb dX11_plot_18 rfl (lv_at hl 2 rfl) ?_
    by_cases c_12 : x2 = (0 : Int32)
    · replace hf := z_t c_12 hf
      refine lv_tableIn (off := 33) (tgt := 52) hx hb dX11_plot_19 (by rw [c_12]; decide) (by rw [c_12]; decide) (by rw [c_12]; rfl) (by decide) ?_
      refine lv_aload_n hx hb dX11_plot_52 rfl (lv_at hl 0 rfl) ?_
      refine r_gs (t := 172) X hR fr_11_52 kh_160 (sx_11_25 kh_160) dX11_plot_53 ?_
      refine lv_bipush (v := (7 : Int32)) hx hb dX11_plot_56 (by decide) ?_
      refine lv_aload_n hx hb dX11_plot_58 rfl (lv_at hl 0 rfl) ?_
      refine r_gi X hR fi_11_254 kh_160 dX11_plot_59 ?_
      refine lv_imul hx hb dX11_plot_62 ?_
      refine lv_iload_n hx hb dX11_plot_63 rfl (lv_at hl 1 rfl) ?_
      refine lv_iadd hx hb dX11_plot_64 ?_
      obtain ⟨hi_11, hf⟩ := z_c_e hf
      refine r_ial X hR ka_172 hi_11 dX11_plot_65 ?_
      exact e_i X hR hr hlk hf dX11_plot_66
    replace hf := z_f c_12 hf
    by_cases c_14 : x2 = (1 : Int32)
    · replace hf := z_t c_14 hf
      refine lv_tableIn (off := 48) (tgt := 67) hx hb dX11_plot_19 (by rw [c_14]; decide) (by rw [c_14]; decide) (by rw [c_14]; rfl) (by decide) ?_
      refine lv_aload_n hx hb dX11_plot_67 rfl (lv_at hl 0 rfl) ?_
      refine r_gs (t := 173) X hR fr_11_55 kh_160 (sx_11_26 kh_160) dX11_plot_68 ?_
      refine lv_bipush (v := (7 : Int32)) hx hb dX11_plot_71 (by decide) ?_
      refine lv_aload_n hx hb dX11_plot_73 rfl (lv_at hl 0 rfl) ?_
      refine r_gi X hR fi_11_254 kh_160 dX11_plot_74 ?_
      refine lv_imul hx hb dX11_plot_77 ?_
      refine lv_iload_n hx hb dX11_plot_78 rfl (lv_at hl 1 rfl) ?_
      refine lv_iadd hx hb dX11_plot_79 ?_
      obtain ⟨hi_13, hf⟩ := z_c_e hf
      refine r_ial X hR ka_173 hi_13 dX11_plot_80 ?_
      exact e_i X hR hr hlk hf dX11_plot_81
    replace hf := z_f c_14 hf
    by_cases c_16 : x2 = (2 : Int32)
    · replace hf := z_t c_16 hf
      refine lv_tableIn (off := 63) (tgt := 82) hx hb dX11_plot_19 (by rw [c_16]; decide) (by rw [c_16]; decide) (by rw [c_16]; rfl) (by decide) ?_
      refine lv_aload_n hx hb dX11_plot_82 rfl (lv_at hl 0 rfl) ?_
      refine r_gs (t := 174) X hR fr_11_58 kh_160 (sx_11_27 kh_160) dX11_plot_83 ?_
      refine lv_bipush (v := (7 : Int32)) hx hb dX11_plot_86 (by decide) ?_
      refine lv_aload_n hx hb dX11_plot_88 rfl (lv_at hl 0 rfl) ?_
      refine r_gi X hR fi_11_254 kh_160 dX11_plot_89 ?_
      refine lv_imul hx hb dX11_plot_92 ?_
      refine lv_iload_n hx hb dX11_plot_93 rfl (lv_at hl 1 rfl) ?_
      refine lv_iadd hx hb dX11_plot_94 ?_
      obtain ⟨hi_15, hf⟩ := z_c_e hf
      refine r_ial X hR ka_174 hi_15 dX11_plot_95 ?_
      exact e_i X hR hr hlk hf dX11_plot_96
    replace hf := z_f c_16 hf
    by_cases c_18 : x2 = (3 : Int32)
    · replace hf := z_t c_18 hf
      refine lv_tableIn (off := 78) (tgt := 97) hx hb dX11_plot_19 (by rw [c_18]; decide) (by rw [c_18]; decide) (by rw [c_18]; rfl) (by decide) ?_
      refine lv_aload_n hx hb dX11_plot_97 rfl (lv_at hl 0 rfl) ?_
      refine r_gs (t := 200) X hR fr_11_137 kh_160 (sx_11_60 kh_160) dX11_plot_98 ?_
      refine lv_iload_n hx hb dX11_plot_101 rfl (lv_at hl 1 rfl) ?_
      obtain ⟨hi_17, hf⟩ := z_c_e hf
      refine r_ial X hR ka_200 hi_17 dX11_plot_102 ?_
      exact e_i X hR hr hlk hf dX11_plot_103
    replace hf := z_f c_18 hf
    by_cases c_22 : x2 = (4 : Int32)
    · replace hf := z_t c_22 hf
      refine lv_tableIn (off := 85) (tgt := 104) hx hb dX11_plot_19 (by rw [c_22]; decide) (by rw [c_22]; decide) (by rw [c_22]; rfl) (by decide) ?_
      refine lv_aload_n hx hb dX11_plot_104 rfl (lv_at hl 0 rfl) ?_
      refine lv_iload_n hx hb dX11_plot_105 rfl (lv_at hl 1 rfl) ?_
      obtain ⟨r_19, σ_20, hc_21, hf⟩ := z_b_e hf
      refine go_i hR (mv_run (As := [.int x1]) (rest := []) X hR mv_11_406 kh_160 (kd_lt kh_160 (by decide)) (c11_countsOf l G N hc_21) ⟨rfl, rfl, Nat.le_of_ble_eq_true rfl, Nat.le_of_ble_eq_true rfl⟩ rfl hl.1 rfl (Nat.le_of_ble_eq_true rfl) dX11_plot_106 ⟨Nat.zero_le _, Nat.zero_le _⟩) (fun H locs hR => ?_)
      exact e_i X hR hr hlk hf dX11_plot_109
    replace hf := z_f c_22 hf
    refine lv_tableOut (tgt := 110) hx hb dX11_plot_19 (sw_out x2 0 5 (by decide) (by decide) (fun j hj => ?_)) (by decide) ?_
    · rcases (show j = 0 ∨ j = 1 ∨ j = 2 ∨ j = 3 ∨ j = 4 by omega) with rfl | rfl | rfl | rfl | rfl
      · exact fun h => c_12 (h.trans (by decide))
      · exact fun h => c_14 (h.trans (by decide))
      · exact fun h => c_16 (h.trans (by decide))
      · exact fun h => c_18 (h.trans (by decide))
      · exact fun h => c_22 (h.trans (by decide))
    · refine lv_iconst (v := (-1 : Int32)) hx hb dX11_plot_110 (by decide) ?_
      exact e_i X hR hr hlk hf dX11_plot_111
  · replace hf := z_t c_4 hf
    refine lv_iconst (v := (-1 : Int32)) hx hb dX11_plot_8 (by decide) ?_
    exact e_i X hR hr hlk hf dX11_plot_9
abbrev rm11_witness : Room := { frames := 3, cells := 0, slots := 0, locals := 75 }
def f11_witness_110 (N : Nat) (k85 : Int32 → Int32 → Mm → Option (Int32 × Mm)) (x1 : Int32) (x3 : Int32) (x4 : Int32) (σ : Mm) : Option (Int32 × Mm) :=
  z_l (x4 + (1 : Int32)) fun x4_20 =>
  k85 x3 x4_20 σ
def f11_witness_85 (N : Nat) (x1 : Int32) : Nat → Int32 → Int32 → Mm → Option (Int32 × Mm)
  | 0, _, _, _ => none
  | fu + 1, x3, x4, σ => z_c (inB (15 : Int32) 117) (
  if (gI σ 199 (ix (15 : Int32))) ≤ x4 then (
  some (x3, σ)) else (
  z_b (f11_doesSwear N x1 x4 σ) fun r_16 σ_17 =>
  if r_16 = 0 then (
  f11_witness_110 N (fun x3 x4 σ => f11_witness_85 N x1 fu x3 x4 σ) x1 x3 x4 σ_17) else (
  z_l (x3 + (1 : Int32)) fun x3_21 =>
  f11_witness_110 N (fun x3 x4 σ => f11_witness_85 N x1 fu x3 x4 σ) x1 x3_21 x4 σ_17)))
def f11_witness (N : Nat) (x1 : Int32) (x2 : Int32) (σ : Mm) : Option (Int32 × Mm) :=
  z_b (f11_isWitness N x1 σ) fun r_1 σ_2 =>
  if r_1 = 0 then (
  some ((-1 : Int32), σ_2)) else (
  z_b (f11_copies N σ_2) fun _ σ_6 =>
  if x2 = (0 : Int32) then (
  z_c (inB x1 117) (
  some ((gI σ_6 199 (ix x1)), σ_6))) else (
  if x2 = (1 : Int32) then (
  z_c (inB (((7 : Int32) * (gI σ_6 160 18)) + x1) 14) (
  some ((gI σ_6 177 (ix (((7 : Int32) * (gI σ_6 160 18)) + x1))), σ_6))) else (
  if x2 = (2 : Int32) then (
  z_c (inB ((7 : Int32) + x1) 117) (
  some ((gI σ_6 199 (ix ((7 : Int32) + x1))), σ_6))) else (
  if x2 = (3 : Int32) then (
  f11_witness_85 N x1 N (0 : Int32) (0 : Int32) σ_6) else (
  if x2 = (4 : Int32) then (
  z_b (f11_diesNow N x1 σ_6) fun r_23 σ_24 =>
  some (r_23, σ_24)) else (
  some ((-1 : Int32), σ_6)))))))
set_option maxHeartbeats 4000000 in
set_option maxRecDepth 100000 in
theorem w11_witness_110 (X : Cx p s m args c cX11_witness 5 RX11 G) (hr : meth.sig.returnType = some .int) (hlk : meth.locks = false) (N : Nat) {x1 : Int32} {k85 : Int32 → Int32 → Mm → Option (Int32 × Mm)} (hk85 : ∀ (x3 : Int32) (x4 : Int32) (σ : Mm) (H : Heap) (locs : List Loc) (ls : Array Slot), k85 x3 x4 σ = some (r0, σ0) → Rp G 212 tt σ s H locs → lv_has ls 5 [(0, .ref (G.2.2 + 160)), (1, .int x1), (3, .int x3), (4, .int x4)] → W p l e rm11_witness s m args below meth c H locs 0 0 (MQ below (P_i G 212 tt r0 σ0) args s 0 0 (Fr G)) (F0 m 85 ls [])) :
    ∀ (x3 : Int32) (x4 : Int32) (σ : Mm) (H : Heap) (locs : List Loc) (ls : Array Slot), f11_witness_110 N k85 x1 x3 x4 σ = some (r0, σ0) → Rp G 212 tt σ s H locs → lv_has ls 5 [(0, .ref (G.2.2 + 160)), (1, .int x1), (3, .int x3), (4, .int x4)] → W p l e rm11_witness s m args below meth c H locs 0 0 (MQ below (P_i G 212 tt r0 σ0) args s 0 0 (Fr G)) (F0 m 110 ls []) := by
  have hx := X.1
  have hb := X.2.1
  intro x3 x4 σ H locs ls hf hR hl
  unfold f11_witness_110 at hf
  obtain ⟨x4_20, ex4_20⟩ : ∃ z : Int32, z = x4 + (1 : Int32) := ⟨_, rfl⟩
  replace hf := z_l_e ex4_20 hf
  refine lv_iinc (v := x4_20) (lv' := [(4, .int x4_20), (0, .ref (G.2.2 + 160)), (1, .int x1), (3, .int x3)]) hx hb dX11_witness_110 hl (k := 3) rfl (by rw [ex4_20]; rfl) (by decide) rfl (fun ls hl => ?_)
  refine lv_goto (tgt := 85) hx hb dX11_witness_113 (by decide) ?_
  exact hk85 x3 x4_20 σ _ _ _ hf hR (lv_sub hl [1, 2, 3, 0] rfl)
set_option maxHeartbeats 4000000 in
set_option maxRecDepth 100000 in
theorem w11_witness_85 (X : Cx p s m args c cX11_witness 5 RX11 G) (hr : meth.sig.returnType = some .int) (hlk : meth.locks = false) (N : Nat) {x1 : Int32} :
    ∀ (fu : Nat) (x3 : Int32) (x4 : Int32) (σ : Mm) (H : Heap) (locs : List Loc) (ls : Array Slot), f11_witness_85 N x1 fu x3 x4 σ = some (r0, σ0) → Rp G 212 tt σ s H locs → lv_has ls 5 [(0, .ref (G.2.2 + 160)), (1, .int x1), (3, .int x3), (4, .int x4)] → W p l e rm11_witness s m args below meth c H locs 0 0 (MQ below (P_i G 212 tt r0 σ0) args s 0 0 (Fr G)) (F0 m 85 ls []) := by
  have hx := X.1
  have hb := X.2.1
  intro fu
  induction fu with
  | zero =>
    intro x3 x4 σ H locs ls hf hR hl
    rw [f11_witness_85] at hf
    cases hf
  | succ fu ih =>
    intro x3 x4 σ H locs ls hf hR hl
    rw [f11_witness_85] at hf
    refine lv_iload hx hb dX11_witness_85 (lv_at hl 3 rfl) ?_
    refine lv_aload_n hx hb dX11_witness_87 rfl (lv_at hl 0 rfl) ?_
    refine r_gs (t := 199) X hR fr_11_134 kh_160 (sx_11_56 kh_160) dX11_witness_88 ?_
    refine lv_bipush (v := (15 : Int32)) hx hb dX11_witness_91 (by decide) ?_
    obtain ⟨hi_14, hf⟩ := z_c_e hf
    refine r_ial X hR ka_199 hi_14 dX11_witness_93 ?_
    refine lv_icmp_ge (tgt := 116) hx hb dX11_witness_94 (by decide) (fun c_15 => ?_) (fun c_15 => ?_)
    · replace hf := z_t c_15 hf
      refine lv_iload_n hx hb dX11_witness_116 rfl (lv_at hl 2 rfl) ?_
      exact e_i X hR hr hlk hf dX11_witness_117
    · replace hf := z_f c_15 hf
      refine lv_aload_n hx hb dX11_witness_97 rfl (lv_at hl 0 rfl) ?_
      refine lv_iload_n hx hb dX11_witness_98 rfl (lv_at hl 1 rfl) ?_
      refine lv_iload hx hb dX11_witness_99 (lv_at hl 3 rfl) ?_
      obtain ⟨r_16, σ_17, hc_18, hf⟩ := z_b_e hf
      refine go_i hR (mv_run (As := [.int x1, .int x4]) (rest := []) X hR mv_11_378 kh_160 (kd_lt kh_160 (by decide)) (c11_doesSwear l G N hc_18) ⟨rfl, rfl, Nat.le_of_ble_eq_true rfl, Nat.le_of_ble_eq_true rfl⟩ rfl hl.1 rfl (Nat.le_of_ble_eq_true rfl) dX11_witness_101 ⟨Nat.zero_le _, Nat.zero_le _⟩) (fun H locs hR => ?_)
      refine lv_if_eq (tgt := 110) hx hb dX11_witness_104 (by decide) (fun c_19 => ?_) (fun c_19 => ?_)
      · replace hf := z_t c_19 hf
        exact w11_witness_110 X hr hlk N ih x3 x4 σ_17 _ _ _ hf hR (lv_sub hl [0, 1, 2, 3] rfl)
      · replace hf := z_f c_19 hf
        obtain ⟨x3_21, ex3_21⟩ : ∃ z : Int32, z = x3 + (1 : Int32) := ⟨_, rfl⟩
        replace hf := z_l_e ex3_21 hf
        refine lv_iinc (v := x3_21) (lv' := [(3, .int x3_21), (0, .ref (G.2.2 + 160)), (1, .int x1), (4, .int x4)]) hx hb dX11_witness_107 hl (k := 2) rfl (by rw [ex3_21]; rfl) (by decide) rfl (fun ls hl => ?_)
        exact w11_witness_110 X hr hlk N ih x3_21 x4 σ_17 _ _ _ hf hR (lv_sub hl [1, 2, 0, 3] rfl)
set_option maxHeartbeats 4000000 in
set_option maxRecDepth 100000 in
theorem c11_witness (l : Launch) (G : Gp) (N : Nat) {x1 : Int32} {x2 : Int32} {σ σ0 : Mm} {r0 : Int32} (hf : f11_witness N x1 x2 σ = some (r0, σ0)) : Met l yX11_witness (WS yX11_witness cX11_witness 5 (some .int)) rm11_witness (va_Pc [.ref (G.2.2 + 160), .int x1, .int x2] (Pd G 212 tt σ)) (P_i G 212 tt r0 σ0) 0 0 (Fr G) := by
  refine ct [(0, .ref (G.2.2 + 160)), (1, .int x1), (2, .int x2)] rfl (by decide) (Nat.le_of_ble_eq_true rfl) ?_
  intro p e s m below meth c ls X hr hlk hR hl
  have X : Cx p s m _ c cX11_witness 5 RX11 G := X
  have hx := X.1
  have hb := X.2.1
  unfold f11_witness at hf
  refine lv_aload_n hx hb dX11_witness_0 rfl (lv_at hl 0 rfl) ?_
  refine lv_iload_n hx hb dX11_witness_1 rfl (lv_at hl 1 rfl) ?_
  obtain ⟨r_1, σ_2, hc_3, hf⟩ := z_b_e hf
  refine go_i hR (mv_run (As := [.int x1]) (rest := []) X hR mv_11_409 kh_160 (kd_lt kh_160 (by decide)) (c11_isWitness l G N hc_3) ⟨rfl, rfl, Nat.le_of_ble_eq_true rfl, Nat.le_of_ble_eq_true rfl⟩ rfl hl.1 rfl (Nat.le_of_ble_eq_true rfl) dX11_witness_2 ⟨Nat.zero_le _, Nat.zero_le _⟩) (fun H locs hR => ?_)
  refine lv_if_ne (tgt := 10) hx hb dX11_witness_5 (by decide) (fun c_4 => ?_) (fun c_4 => ?_)
  · replace hf := z_f c_4 hf
    refine lv_aload_n hx hb dX11_witness_10 rfl (lv_at hl 0 rfl) ?_
    obtain ⟨r_5, σ_6, hc_7, hf⟩ := z_b_e hf
    refine go_v hR (mv_run (As := []) (rest := []) X hR mv_11_400 kh_160 (kd_lt kh_160 (by decide)) (c11_copies l G N hc_7) ⟨rfl, rfl, Nat.le_of_ble_eq_true rfl, Nat.le_of_ble_eq_true rfl⟩ rfl hl.1 rfl (Nat.le_of_ble_eq_true rfl) dX11_witness_11 ⟨Nat.zero_le _, Nat.zero_le _⟩) (fun H locs hR => ?_)
    refine lv_iload_n hx hb dX11_witness_14 rfl (lv_at hl 2 rfl) ?_
    by_cases c_9 : x2 = (0 : Int32)
    · replace hf := z_t c_9 hf
      refine lv_tableIn (off := 33) (tgt := 48) hx hb dX11_witness_15 (by rw [c_9]; decide) (by rw [c_9]; decide) (by rw [c_9]; rfl) (by decide) ?_
      refine lv_aload_n hx hb dX11_witness_48 rfl (lv_at hl 0 rfl) ?_
      refine r_gs (t := 199) X hR fr_11_134 kh_160 (sx_11_56 kh_160) dX11_witness_49 ?_
      refine lv_iload_n hx hb dX11_witness_52 rfl (lv_at hl 1 rfl) ?_
      obtain ⟨hi_8, hf⟩ := z_c_e hf
      refine r_ial X hR ka_199 hi_8 dX11_witness_53 ?_
      exact e_i X hR hr hlk hf dX11_witness_54
    replace hf := z_f c_9 hf
    by_cases c_11 : x2 = (1 : Int32)
    · replace hf := z_t c_11 hf
      refine lv_tableIn (off := 40) (tgt := 55) hx hb dX11_witness_15 (by rw [c_11]; decide) (by rw [c_11]; decide) (by rw [c_11]; rfl) (by decide) ?_
      refine lv_aload_n hx hb dX11_witness_55 rfl (lv_at hl 0 rfl) ?_
      refine r_gs (t := 177) X hR fr_11_67 kh_160 (sx_11_30 kh_160) dX11_witness_56 ?_
      refine lv_bipush (v := (7 : Int32)) hx hb dX11_witness_59 (by decide) ?_
      refine lv_aload_n hx hb dX11_witness_61 rfl (lv_at hl 0 rfl) ?_
      refine r_gi X hR fi_11_254 kh_160 dX11_witness_62 ?_
      refine lv_imul hx hb dX11_witness_65 ?_
      refine lv_iload_n hx hb dX11_witness_66 rfl (lv_at hl 1 rfl) ?_
      refine lv_iadd hx hb dX11_witness_67 ?_
      obtain ⟨hi_10, hf⟩ := z_c_e hf
      refine r_ial X hR ka_177 hi_10 dX11_witness_68 ?_
      exact e_i X hR hr hlk hf dX11_witness_69
    replace hf := z_f c_11 hf
    by_cases c_13 : x2 = (2 : Int32)
    · replace hf := z_t c_13 hf
      refine lv_tableIn (off := 55) (tgt := 70) hx hb dX11_witness_15 (by rw [c_13]; decide) (by rw [c_13]; decide) (by rw [c_13]; rfl) (by decide) ?_
      refine lv_aload_n hx hb dX11_witness_70 rfl (lv_at hl 0 rfl) ?_
      refine r_gs (t := 199) X hR fr_11_134 kh_160 (sx_11_56 kh_160) dX11_witness_71 ?_
      refine lv_bipush (v := (7 : Int32)) hx hb dX11_witness_74 (by decide) ?_
      refine lv_iload_n hx hb dX11_witness_76 rfl (lv_at hl 1 rfl) ?_
      refine lv_iadd hx hb dX11_witness_77 ?_
      obtain ⟨hi_12, hf⟩ := z_c_e hf
      refine r_ial X hR ka_199 hi_12 dX11_witness_78 ?_
      exact e_i X hR hr hlk hf dX11_witness_79
    replace hf := z_f c_13 hf
    by_cases c_22 : x2 = (3 : Int32)
    · replace hf := z_t c_22 hf
      refine lv_tableIn (off := 65) (tgt := 80) hx hb dX11_witness_15 (by rw [c_22]; decide) (by rw [c_22]; decide) (by rw [c_22]; rfl) (by decide) ?_
      refine lv_iconst (v := (0 : Int32)) hx hb dX11_witness_80 (by decide) ?_
      refine lv_istore_n (lv' := [(3, .int (0 : Int32)), (0, .ref (G.2.2 + 160)), (1, .int x1), (2, .int x2)]) hx hb dX11_witness_81 rfl hl (by decide) rfl (fun ls hl => ?_)
      refine lv_iconst (v := (0 : Int32)) hx hb dX11_witness_82 (by decide) ?_
      refine lv_istore (lv' := [(4, .int (0 : Int32)), (3, .int (0 : Int32)), (0, .ref (G.2.2 + 160)), (1, .int x1), (2, .int x2)]) hx hb dX11_witness_83 hl (by decide) rfl (fun ls hl => ?_)
      exact w11_witness_85 X hr hlk N  N (0 : Int32) (0 : Int32) σ_6 _ _ _ hf hR (lv_sub hl [2, 3, 1, 0] rfl)
    replace hf := z_f c_22 hf
    by_cases c_26 : x2 = (4 : Int32)
    · replace hf := z_t c_26 hf
      refine lv_tableIn (off := 103) (tgt := 118) hx hb dX11_witness_15 (by rw [c_26]; decide) (by rw [c_26]; decide) (by rw [c_26]; rfl) (by decide) ?_
      refine lv_aload_n hx hb dX11_witness_118 rfl (lv_at hl 0 rfl) ?_
      refine lv_iload_n hx hb dX11_witness_119 rfl (lv_at hl 1 rfl) ?_
      obtain ⟨r_23, σ_24, hc_25, hf⟩ := z_b_e hf
      refine go_i hR (mv_run (As := [.int x1]) (rest := []) X hR mv_11_391 kh_160 (kd_lt kh_160 (by decide)) (c11_diesNow l G N hc_25) ⟨rfl, rfl, Nat.le_of_ble_eq_true rfl, Nat.le_of_ble_eq_true rfl⟩ rfl hl.1 rfl (Nat.le_of_ble_eq_true rfl) dX11_witness_120 ⟨Nat.zero_le _, Nat.zero_le _⟩) (fun H locs hR => ?_)
      exact e_i X hR hr hlk hf dX11_witness_123
    replace hf := z_f c_26 hf
    refine lv_tableOut (tgt := 124) hx hb dX11_witness_15 (sw_out x2 0 5 (by decide) (by decide) (fun j hj => ?_)) (by decide) ?_
    · rcases (show j = 0 ∨ j = 1 ∨ j = 2 ∨ j = 3 ∨ j = 4 by omega) with rfl | rfl | rfl | rfl | rfl
      · exact fun h => c_9 (h.trans (by decide))
      · exact fun h => c_11 (h.trans (by decide))
      · exact fun h => c_13 (h.trans (by decide))
      · exact fun h => c_22 (h.trans (by decide))
      · exact fun h => c_26 (h.trans (by decide))
    · refine lv_iconst (v := (-1 : Int32)) hx hb dX11_witness_124 (by decide) ?_
      exact e_i X hR hr hlk hf dX11_witness_125
  · replace hf := z_t c_4 hf
    refine lv_iconst (v := (-1 : Int32)) hx hb dX11_witness_8 (by decide) ?_
    exact e_i X hR hr hlk hf dX11_witness_9
abbrev rm11_giving : Room := { frames := 6, cells := 0, slots := 0, locals := 141 }
def f11_giving (N : Nat) (x1 : Int32) (x2 : Int32) (σ : Mm) : Option (Int32 × Mm) :=
  z_b (f11_isGiving N x1 σ) fun r_1 σ_2 =>
  if r_1 = 0 then (
  some ((-1 : Int32), σ_2)) else (
  z_b (f11_copies N σ_2) fun _ σ_6 =>
  z_b (f11_fillsWhose N σ_6) fun _ σ_9 =>
  if x2 = (0 : Int32) then (
  z_c (inB (((17 : Int32) + ((20 : Int32) * x2)) + x1) 117) (
  some ((gI σ_9 199 (ix (((17 : Int32) + ((20 : Int32) * x2)) + x1))), σ_9))) else (
  if x2 = (1 : Int32) then (
  z_c (inB (((17 : Int32) + ((20 : Int32) * x2)) + x1) 117) (
  some ((gI σ_9 199 (ix (((17 : Int32) + ((20 : Int32) * x2)) + x1))), σ_9))) else (
  if x2 = (2 : Int32) then (
  z_c (inB (((17 : Int32) + ((20 : Int32) * x2)) + x1) 117) (
  some ((gI σ_9 199 (ix (((17 : Int32) + ((20 : Int32) * x2)) + x1))), σ_9))) else (
  if x2 = (3 : Int32) then (
  z_c (inB (14 : Int32) 117) (
  z_c (inB ((77 : Int32) + x1) 117) (
  some (((gI σ_9 199 (ix (14 : Int32))) - (gI σ_9 199 (ix ((77 : Int32) + x1)))), σ_9)))) else (
  if x2 = (4 : Int32) then (
  z_c (inB ((97 : Int32) + x1) 117) (
  some ((gI σ_9 199 (ix ((97 : Int32) + x1))), σ_9))) else (
  if x2 = (5 : Int32) then (
  z_b (f11_swearBits N x1 σ_9) fun r_22 σ_23 =>
  some (r_22, σ_23)) else (
  if x2 = (6 : Int32) then (
  z_c (inB x1 20) (
  if (gI σ_9 201 (ix x1)) = 0 then (
  some ((0 : Int32), σ_9)) else (
  some ((1 : Int32), σ_9)))) else (
  if x2 = (7 : Int32) then (
  z_c (inB x1 20) (
  if (gI σ_9 202 (ix x1)) = 0 then (
  some ((0 : Int32), σ_9)) else (
  some ((1 : Int32), σ_9)))) else (
  if x2 = (8 : Int32) then (
  z_c (inB (16 : Int32) 117) (
  some ((((gI σ_9 199 (ix (16 : Int32))) >>> (x1 &&& 31)) &&& (1 : Int32)), σ_9))) else (
  some ((-1 : Int32), σ_9)))))))))))
set_option maxHeartbeats 4000000 in
set_option maxRecDepth 100000 in
theorem c11_giving (l : Launch) (G : Gp) (N : Nat) {x1 : Int32} {x2 : Int32} {σ σ0 : Mm} {r0 : Int32} (hf : f11_giving N x1 x2 σ = some (r0, σ0)) : Met l yX11_giving (WS yX11_giving cX11_giving 3 (some .int)) rm11_giving (va_Pc [.ref (G.2.2 + 160), .int x1, .int x2] (Pd G 212 tt σ)) (P_i G 212 tt r0 σ0) 0 0 (Fr G) := by
  refine ct [(0, .ref (G.2.2 + 160)), (1, .int x1), (2, .int x2)] rfl (by decide) (Nat.le_of_ble_eq_true rfl) ?_
  intro p e s m below meth c ls X hr hlk hR hl
  have X : Cx p s m _ c cX11_giving 3 RX11 G := X
  have hx := X.1
  have hb := X.2.1
  unfold f11_giving at hf
  refine lv_aload_n hx hb dX11_giving_0 rfl (lv_at hl 0 rfl) ?_
  refine lv_iload_n hx hb dX11_giving_1 rfl (lv_at hl 1 rfl) ?_
  obtain ⟨r_1, σ_2, hc_3, hf⟩ := z_b_e hf
  refine go_i hR (mv_run (As := [.int x1]) (rest := []) X hR mv_11_412 kh_160 (kd_lt kh_160 (by decide)) (c11_isGiving l G N hc_3) ⟨rfl, rfl, Nat.le_of_ble_eq_true rfl, Nat.le_of_ble_eq_true rfl⟩ rfl hl.1 rfl (Nat.le_of_ble_eq_true rfl) dX11_giving_2 ⟨Nat.zero_le _, Nat.zero_le _⟩) (fun H locs hR => ?_)
  refine lv_if_ne (tgt := 10) hx hb dX11_giving_5 (by decide) (fun c_4 => ?_) (fun c_4 => ?_)
  · replace hf := z_f c_4 hf
    refine lv_aload_n hx hb dX11_giving_10 rfl (lv_at hl 0 rfl) ?_
    obtain ⟨r_5, σ_6, hc_7, hf⟩ := z_b_e hf
    refine go_v hR (mv_run (As := []) (rest := []) X hR mv_11_400 kh_160 (kd_lt kh_160 (by decide)) (c11_copies l G N hc_7) ⟨rfl, rfl, Nat.le_of_ble_eq_true rfl, Nat.le_of_ble_eq_true rfl⟩ rfl hl.1 rfl (Nat.le_of_ble_eq_true rfl) dX11_giving_11 ⟨Nat.zero_le _, Nat.zero_le _⟩) (fun H locs hR => ?_)
    refine lv_aload_n hx hb dX11_giving_14 rfl (lv_at hl 0 rfl) ?_
    obtain ⟨r_8, σ_9, hc_10, hf⟩ := z_b_e hf
    refine go_v hR (mv_run (As := []) (rest := []) X hR mv_11_403 kh_160 (kd_lt kh_160 (by decide)) (c11_fillsWhose l G N hc_10) ⟨rfl, rfl, Nat.le_of_ble_eq_true rfl, Nat.le_of_ble_eq_true rfl⟩ rfl hl.1 rfl (Nat.le_of_ble_eq_true rfl) dX11_giving_15 ⟨Nat.zero_le _, Nat.zero_le _⟩) (fun H locs hR => ?_)
    refine lv_iload_n hx hb dX11_giving_18 rfl (lv_at hl 2 rfl) ?_
    by_cases c_12 : x2 = (0 : Int32)
    · replace hf := z_t c_12 hf
      refine lv_tableIn (off := 49) (tgt := 68) hx hb dX11_giving_19 (by rw [c_12]; decide) (by rw [c_12]; decide) (by rw [c_12]; rfl) (by decide) ?_
      refine lv_aload_n hx hb dX11_giving_68 rfl (lv_at hl 0 rfl) ?_
      refine r_gs (t := 199) X hR fr_11_134 kh_160 (sx_11_56 kh_160) dX11_giving_69 ?_
      refine lv_bipush (v := (17 : Int32)) hx hb dX11_giving_72 (by decide) ?_
      refine lv_bipush (v := (20 : Int32)) hx hb dX11_giving_74 (by decide) ?_
      refine lv_iload_n hx hb dX11_giving_76 rfl (lv_at hl 2 rfl) ?_
      refine lv_imul hx hb dX11_giving_77 ?_
      refine lv_iadd hx hb dX11_giving_78 ?_
      refine lv_iload_n hx hb dX11_giving_79 rfl (lv_at hl 1 rfl) ?_
      refine lv_iadd hx hb dX11_giving_80 ?_
      obtain ⟨hi_11, hf⟩ := z_c_e hf
      refine r_ial X hR ka_199 hi_11 dX11_giving_81 ?_
      exact e_i X hR hr hlk hf dX11_giving_82
    replace hf := z_f c_12 hf
    by_cases c_14 : x2 = (1 : Int32)
    · replace hf := z_t c_14 hf
      refine lv_tableIn (off := 49) (tgt := 68) hx hb dX11_giving_19 (by rw [c_14]; decide) (by rw [c_14]; decide) (by rw [c_14]; rfl) (by decide) ?_
      refine lv_aload_n hx hb dX11_giving_68 rfl (lv_at hl 0 rfl) ?_
      refine r_gs (t := 199) X hR fr_11_134 kh_160 (sx_11_56 kh_160) dX11_giving_69 ?_
      refine lv_bipush (v := (17 : Int32)) hx hb dX11_giving_72 (by decide) ?_
      refine lv_bipush (v := (20 : Int32)) hx hb dX11_giving_74 (by decide) ?_
      refine lv_iload_n hx hb dX11_giving_76 rfl (lv_at hl 2 rfl) ?_
      refine lv_imul hx hb dX11_giving_77 ?_
      refine lv_iadd hx hb dX11_giving_78 ?_
      refine lv_iload_n hx hb dX11_giving_79 rfl (lv_at hl 1 rfl) ?_
      refine lv_iadd hx hb dX11_giving_80 ?_
      obtain ⟨hi_13, hf⟩ := z_c_e hf
      refine r_ial X hR ka_199 hi_13 dX11_giving_81 ?_
      exact e_i X hR hr hlk hf dX11_giving_82
    replace hf := z_f c_14 hf
    by_cases c_16 : x2 = (2 : Int32)
    · replace hf := z_t c_16 hf
      refine lv_tableIn (off := 49) (tgt := 68) hx hb dX11_giving_19 (by rw [c_16]; decide) (by rw [c_16]; decide) (by rw [c_16]; rfl) (by decide) ?_
      refine lv_aload_n hx hb dX11_giving_68 rfl (lv_at hl 0 rfl) ?_
      refine r_gs (t := 199) X hR fr_11_134 kh_160 (sx_11_56 kh_160) dX11_giving_69 ?_
      refine lv_bipush (v := (17 : Int32)) hx hb dX11_giving_72 (by decide) ?_
      refine lv_bipush (v := (20 : Int32)) hx hb dX11_giving_74 (by decide) ?_
      refine lv_iload_n hx hb dX11_giving_76 rfl (lv_at hl 2 rfl) ?_
      refine lv_imul hx hb dX11_giving_77 ?_
      refine lv_iadd hx hb dX11_giving_78 ?_
      refine lv_iload_n hx hb dX11_giving_79 rfl (lv_at hl 1 rfl) ?_
      refine lv_iadd hx hb dX11_giving_80 ?_
      obtain ⟨hi_15, hf⟩ := z_c_e hf
      refine r_ial X hR ka_199 hi_15 dX11_giving_81 ?_
      exact e_i X hR hr hlk hf dX11_giving_82
    replace hf := z_f c_16 hf
    by_cases c_19 : x2 = (3 : Int32)
    · replace hf := z_t c_19 hf
      refine lv_tableIn (off := 64) (tgt := 83) hx hb dX11_giving_19 (by rw [c_19]; decide) (by rw [c_19]; decide) (by rw [c_19]; rfl) (by decide) ?_
      refine lv_aload_n hx hb dX11_giving_83 rfl (lv_at hl 0 rfl) ?_
      refine r_gs (t := 199) X hR fr_11_134 kh_160 (sx_11_56 kh_160) dX11_giving_84 ?_
      refine lv_bipush (v := (14 : Int32)) hx hb dX11_giving_87 (by decide) ?_
      obtain ⟨hi_17, hf⟩ := z_c_e hf
      refine r_ial X hR ka_199 hi_17 dX11_giving_89 ?_
      refine lv_aload_n hx hb dX11_giving_90 rfl (lv_at hl 0 rfl) ?_
      refine r_gs (t := 199) X hR fr_11_134 kh_160 (sx_11_56 kh_160) dX11_giving_91 ?_
      refine lv_bipush (v := (77 : Int32)) hx hb dX11_giving_94 (by decide) ?_
      refine lv_iload_n hx hb dX11_giving_96 rfl (lv_at hl 1 rfl) ?_
      refine lv_iadd hx hb dX11_giving_97 ?_
      obtain ⟨hi_18, hf⟩ := z_c_e hf
      refine r_ial X hR ka_199 hi_18 dX11_giving_98 ?_
      refine lv_isub hx hb dX11_giving_99 ?_
      exact e_i X hR hr hlk hf dX11_giving_100
    replace hf := z_f c_19 hf
    by_cases c_21 : x2 = (4 : Int32)
    · replace hf := z_t c_21 hf
      refine lv_tableIn (off := 82) (tgt := 101) hx hb dX11_giving_19 (by rw [c_21]; decide) (by rw [c_21]; decide) (by rw [c_21]; rfl) (by decide) ?_
      refine lv_aload_n hx hb dX11_giving_101 rfl (lv_at hl 0 rfl) ?_
      refine r_gs (t := 199) X hR fr_11_134 kh_160 (sx_11_56 kh_160) dX11_giving_102 ?_
      refine lv_bipush (v := (97 : Int32)) hx hb dX11_giving_105 (by decide) ?_
      refine lv_iload_n hx hb dX11_giving_107 rfl (lv_at hl 1 rfl) ?_
      refine lv_iadd hx hb dX11_giving_108 ?_
      obtain ⟨hi_20, hf⟩ := z_c_e hf
      refine r_ial X hR ka_199 hi_20 dX11_giving_109 ?_
      exact e_i X hR hr hlk hf dX11_giving_110
    replace hf := z_f c_21 hf
    by_cases c_25 : x2 = (5 : Int32)
    · replace hf := z_t c_25 hf
      refine lv_tableIn (off := 92) (tgt := 111) hx hb dX11_giving_19 (by rw [c_25]; decide) (by rw [c_25]; decide) (by rw [c_25]; rfl) (by decide) ?_
      refine lv_aload_n hx hb dX11_giving_111 rfl (lv_at hl 0 rfl) ?_
      refine lv_iload_n hx hb dX11_giving_112 rfl (lv_at hl 1 rfl) ?_
      obtain ⟨r_22, σ_23, hc_24, hf⟩ := z_b_e hf
      refine go_i hR (mv_run (As := [.int x1]) (rest := []) X hR mv_11_382 kh_160 (kd_lt kh_160 (by decide)) (c11_swearBits l G N hc_24) ⟨rfl, rfl, Nat.le_of_ble_eq_true rfl, Nat.le_of_ble_eq_true rfl⟩ rfl hl.1 rfl (Nat.le_of_ble_eq_true rfl) dX11_giving_113 ⟨Nat.zero_le _, Nat.zero_le _⟩) (fun H locs hR => ?_)
      exact e_i X hR hr hlk hf dX11_giving_116
    replace hf := z_f c_25 hf
    by_cases c_28 : x2 = (6 : Int32)
    · replace hf := z_t c_28 hf
      refine lv_tableIn (off := 98) (tgt := 117) hx hb dX11_giving_19 (by rw [c_28]; decide) (by rw [c_28]; decide) (by rw [c_28]; rfl) (by decide) ?_
      refine lv_aload_n hx hb dX11_giving_117 rfl (lv_at hl 0 rfl) ?_
      refine r_gs (t := 201) X hR fr_11_140 kh_160 (sx_11_61 kh_160) dX11_giving_118 ?_
      refine lv_iload_n hx hb dX11_giving_121 rfl (lv_at hl 1 rfl) ?_
      obtain ⟨hi_26, hf⟩ := z_c_e hf
      refine r_zal X hR ka_201 hi_26 dX11_giving_122 ?_
      refine lv_if_eq (tgt := 130) hx hb dX11_giving_123 (by decide) (fun c_27 => ?_) (fun c_27 => ?_)
      · replace hf := z_t c_27 hf
        refine lv_iconst (v := (0 : Int32)) hx hb dX11_giving_130 (by decide) ?_
        exact e_i X hR hr hlk hf dX11_giving_131
      · replace hf := z_f c_27 hf
        refine lv_iconst (v := (1 : Int32)) hx hb dX11_giving_126 (by decide) ?_
        refine lv_goto (tgt := 131) hx hb dX11_giving_127 (by decide) ?_
        exact e_i X hR hr hlk hf dX11_giving_131
    replace hf := z_f c_28 hf
    by_cases c_31 : x2 = (7 : Int32)
    · replace hf := z_t c_31 hf
      refine lv_tableIn (off := 113) (tgt := 132) hx hb dX11_giving_19 (by rw [c_31]; decide) (by rw [c_31]; decide) (by rw [c_31]; rfl) (by decide) ?_
      refine lv_aload_n hx hb dX11_giving_132 rfl (lv_at hl 0 rfl) ?_
      refine r_gs (t := 202) X hR fr_11_143 kh_160 (sx_11_62 kh_160) dX11_giving_133 ?_
      refine lv_iload_n hx hb dX11_giving_136 rfl (lv_at hl 1 rfl) ?_
      obtain ⟨hi_29, hf⟩ := z_c_e hf
      refine r_zal X hR ka_202 hi_29 dX11_giving_137 ?_
      refine lv_if_eq (tgt := 145) hx hb dX11_giving_138 (by decide) (fun c_30 => ?_) (fun c_30 => ?_)
      · replace hf := z_t c_30 hf
        refine lv_iconst (v := (0 : Int32)) hx hb dX11_giving_145 (by decide) ?_
        exact e_i X hR hr hlk hf dX11_giving_146
      · replace hf := z_f c_30 hf
        refine lv_iconst (v := (1 : Int32)) hx hb dX11_giving_141 (by decide) ?_
        refine lv_goto (tgt := 146) hx hb dX11_giving_142 (by decide) ?_
        exact e_i X hR hr hlk hf dX11_giving_146
    replace hf := z_f c_31 hf
    by_cases c_33 : x2 = (8 : Int32)
    · replace hf := z_t c_33 hf
      refine lv_tableIn (off := 128) (tgt := 147) hx hb dX11_giving_19 (by rw [c_33]; decide) (by rw [c_33]; decide) (by rw [c_33]; rfl) (by decide) ?_
      refine lv_aload_n hx hb dX11_giving_147 rfl (lv_at hl 0 rfl) ?_
      refine r_gs (t := 199) X hR fr_11_134 kh_160 (sx_11_56 kh_160) dX11_giving_148 ?_
      refine lv_bipush (v := (16 : Int32)) hx hb dX11_giving_151 (by decide) ?_
      obtain ⟨hi_32, hf⟩ := z_c_e hf
      refine r_ial X hR ka_199 hi_32 dX11_giving_153 ?_
      refine lv_iload_n hx hb dX11_giving_154 rfl (lv_at hl 1 rfl) ?_
      refine lv_ishr hx hb dX11_giving_155 ?_
      refine lv_iconst (v := (1 : Int32)) hx hb dX11_giving_156 (by decide) ?_
      refine lv_iand hx hb dX11_giving_157 ?_
      exact e_i X hR hr hlk hf dX11_giving_158
    replace hf := z_f c_33 hf
    refine lv_tableOut (tgt := 159) hx hb dX11_giving_19 (sw_out x2 0 9 (by decide) (by decide) (fun j hj => ?_)) (by decide) ?_
    · rcases (show j = 0 ∨ j = 1 ∨ j = 2 ∨ j = 3 ∨ j = 4 ∨ j = 5 ∨ j = 6 ∨ j = 7 ∨ j = 8 by omega) with rfl | rfl | rfl | rfl | rfl | rfl | rfl | rfl | rfl
      · exact fun h => c_12 (h.trans (by decide))
      · exact fun h => c_14 (h.trans (by decide))
      · exact fun h => c_16 (h.trans (by decide))
      · exact fun h => c_19 (h.trans (by decide))
      · exact fun h => c_21 (h.trans (by decide))
      · exact fun h => c_25 (h.trans (by decide))
      · exact fun h => c_28 (h.trans (by decide))
      · exact fun h => c_31 (h.trans (by decide))
      · exact fun h => c_33 (h.trans (by decide))
    · refine lv_iconst (v := (-1 : Int32)) hx hb dX11_giving_159 (by decide) ?_
      exact e_i X hR hr hlk hf dX11_giving_160
  · replace hf := z_t c_4 hf
    refine lv_iconst (v := (-1 : Int32)) hx hb dX11_giving_8 (by decide) ?_
    exact e_i X hR hr hlk hf dX11_giving_9
abbrev rm11_records : Room := { frames := 1, cells := 0, slots := 0, locals := 21 }
def f11_records_83 (N : Nat) (σ : Mm) : Option (Unit × Mm) :=
  z_l (sI σ 160 63 ((gI σ 160 63) + (1 : Int32))) fun σ_3 =>
  z_b (f11_keepsRow N σ_3) fun _ σ_5 =>
  some ((), σ_5)
def f11_records_51 (N : Nat) : Nat → Int32 → Mm → Option (Unit × Mm)
  | 0, _, _ => none
  | fu + 1, x1, σ => if (117 : Int32) ≤ x1 then (
  f11_records_83 N σ) else (
  z_c (inB x1 117) (
  z_c (inB (((117 : Int32) * (gI σ 160 63)) + x1) 3510) (z_l (sI σ 203 (ix (((117 : Int32) * (gI σ 160 63)) + x1)) (gI σ 198 (ix x1))) fun σ_9 =>
  z_l (x1 + (1 : Int32)) fun x1_10 =>
  f11_records_51 N fu x1_10 σ_9)))
def f11_records_49 (N : Nat) (σ : Mm) : Option (Unit × Mm) :=
  f11_records_51 N N (0 : Int32) σ
def f11_records_39 (N : Nat) (σ : Mm) : Option (Unit × Mm) :=
  z_l (sI σ 160 63 ((gI σ 160 63) - (1 : Int32))) fun σ_12 =>
  f11_records_49 N σ_12
def f11_records_11 (N : Nat) : Nat → Int32 → Mm → Option (Unit × Mm)
  | 0, _, _ => none
  | fu + 1, x1, σ => if (3393 : Int32) ≤ x1 then (
  f11_records_39 N σ) else (
  z_c (inB (x1 + (117 : Int32)) 3510) (
  z_c (inB x1 3510) (z_l (sI σ 203 (ix x1) (gI σ 203 (ix (x1 + (117 : Int32))))) fun σ_15 =>
  z_l (x1 + (1 : Int32)) fun x1_16 =>
  f11_records_11 N fu x1_16 σ_15)))
def f11_records (N : Nat) (σ : Mm) : Option (Unit × Mm) :=
  if (gI σ 160 63) = (30 : Int32) then (
  f11_records_11 N N (0 : Int32) σ) else (
  f11_records_49 N σ)
set_option maxHeartbeats 4000000 in
set_option maxRecDepth 100000 in
theorem w11_records_83 (X : Cx p s m args c cX11_records 2 RX11 G) (hr : meth.sig.returnType = none) (hlk : meth.locks = false) (N : Nat) :
    ∀ (σ : Mm) (H : Heap) (locs : List Loc) (ls : Array Slot), f11_records_83 N σ = some (u0, σ0) → Rp G 212 tt σ s H locs → lv_has ls 2 [(0, .ref (G.2.2 + 160))] → W p l e rm11_records s m args below meth c H locs 0 0 (MQ below (P_v G 212 tt u0 σ0) args s 0 0 (Fr G)) (F0 m 83 ls []) := by
  have hx := X.1
  have hb := X.2.1
  intro σ H locs ls hf hR hl
  unfold f11_records_83 at hf
  refine lv_aload_n hx hb dX11_records_83 rfl (lv_at hl 0 rfl) ?_
  refine lv_dup hx hb dX11_records_84 rfl ?_
  refine r_gi X hR fi_11_272 kh_160 dX11_records_85 ?_
  refine lv_iconst (v := (1 : Int32)) hx hb dX11_records_88 (by decide) ?_
  refine lv_iadd hx hb dX11_records_89 ?_
  refine r_pi X hR pi_11_272 kh_160 dX11_records_90 (fun H locs σ_3 eσ_3 hR => ?_)
  replace hf := z_l_e eσ_3 hf
  refine lv_aload_n hx hb dX11_records_93 rfl (lv_at hl 0 rfl) ?_
  obtain ⟨r_4, σ_5, hc_6, hf⟩ := z_b_e hf
  refine go_v hR (mv_run (As := []) (rest := []) X hR mv_11_184 kh_160 (kd_lt kh_160 (by decide)) (c11_keepsRow l G N hc_6) ⟨rfl, rfl, Nat.le_of_ble_eq_true rfl, Nat.le_of_ble_eq_true rfl⟩ rfl hl.1 rfl (Nat.le_of_ble_eq_true rfl) dX11_records_94 ⟨Nat.zero_le _, Nat.zero_le _⟩) (fun H locs hR => ?_)
  exact e_v X hR hr hlk hf dX11_records_97
set_option maxHeartbeats 4000000 in
set_option maxRecDepth 100000 in
theorem w11_records_51 (X : Cx p s m args c cX11_records 2 RX11 G) (hr : meth.sig.returnType = none) (hlk : meth.locks = false) (N : Nat) :
    ∀ (fu : Nat) (x1 : Int32) (σ : Mm) (H : Heap) (locs : List Loc) (ls : Array Slot), f11_records_51 N fu x1 σ = some (u0, σ0) → Rp G 212 tt σ s H locs → lv_has ls 2 [(0, .ref (G.2.2 + 160)), (1, .int x1)] → W p l e rm11_records s m args below meth c H locs 0 0 (MQ below (P_v G 212 tt u0 σ0) args s 0 0 (Fr G)) (F0 m 51 ls []) := by
  have hx := X.1
  have hb := X.2.1
  intro fu
  induction fu with
  | zero =>
    intro x1 σ H locs ls hf hR hl
    rw [f11_records_51] at hf
    cases hf
  | succ fu ih =>
    intro x1 σ H locs ls hf hR hl
    rw [f11_records_51] at hf
    refine lv_iload_n hx hb dX11_records_51 rfl (lv_at hl 1 rfl) ?_
    refine lv_bipush (v := (117 : Int32)) hx hb dX11_records_52 (by decide) ?_
    refine lv_icmp_ge (tgt := 83) hx hb dX11_records_54 (by decide) (fun c_2 => ?_) (fun c_2 => ?_)
    · replace hf := z_t c_2 hf
      exact w11_records_83 X hr hlk N   σ _ _ _ hf hR (lv_sub hl [0] rfl)
    · replace hf := z_f c_2 hf
      refine lv_aload_n hx hb dX11_records_57 rfl (lv_at hl 0 rfl) ?_
      refine r_gs (t := 203) X hR fr_11_146 kh_160 (sx_11_64 kh_160) dX11_records_58 ?_
      refine lv_bipush (v := (117 : Int32)) hx hb dX11_records_61 (by decide) ?_
      refine lv_aload_n hx hb dX11_records_63 rfl (lv_at hl 0 rfl) ?_
      refine r_gi X hR fi_11_272 kh_160 dX11_records_64 ?_
      refine lv_imul hx hb dX11_records_67 ?_
      refine lv_iload_n hx hb dX11_records_68 rfl (lv_at hl 1 rfl) ?_
      refine lv_iadd hx hb dX11_records_69 ?_
      refine lv_aload_n hx hb dX11_records_70 rfl (lv_at hl 0 rfl) ?_
      refine r_gs (t := 198) X hR fr_11_131 kh_160 (sx_11_55 kh_160) dX11_records_71 ?_
      refine lv_iload_n hx hb dX11_records_74 rfl (lv_at hl 1 rfl) ?_
      obtain ⟨hi_7, hf⟩ := z_c_e hf
      refine r_ial X hR ka_198 hi_7 dX11_records_75 ?_
      obtain ⟨hi_8, hf⟩ := z_c_e hf
      refine r_ias X hR ka_203 hi_8 dX11_records_76 (fun H locs σ_9 eσ_9 hR => ?_)
      replace hf := z_l_e eσ_9 hf
      obtain ⟨x1_10, ex1_10⟩ : ∃ z : Int32, z = x1 + (1 : Int32) := ⟨_, rfl⟩
      replace hf := z_l_e ex1_10 hf
      refine lv_iinc (v := x1_10) (lv' := [(1, .int x1_10), (0, .ref (G.2.2 + 160))]) hx hb dX11_records_77 hl (k := 1) rfl (by rw [ex1_10]; rfl) (by decide) rfl (fun ls hl => ?_)
      refine lv_goto (tgt := 51) hx hb dX11_records_80 (by decide) ?_
      exact ih x1_10 σ_9 _ _ _ hf hR (lv_sub hl [1, 0] rfl)
set_option maxHeartbeats 4000000 in
set_option maxRecDepth 100000 in
theorem w11_records_49 (X : Cx p s m args c cX11_records 2 RX11 G) (hr : meth.sig.returnType = none) (hlk : meth.locks = false) (N : Nat) :
    ∀ (σ : Mm) (H : Heap) (locs : List Loc) (ls : Array Slot), f11_records_49 N σ = some (u0, σ0) → Rp G 212 tt σ s H locs → lv_has ls 2 [(0, .ref (G.2.2 + 160))] → W p l e rm11_records s m args below meth c H locs 0 0 (MQ below (P_v G 212 tt u0 σ0) args s 0 0 (Fr G)) (F0 m 49 ls []) := by
  have hx := X.1
  have hb := X.2.1
  intro σ H locs ls hf hR hl
  unfold f11_records_49 at hf
  refine lv_iconst (v := (0 : Int32)) hx hb dX11_records_49 (by decide) ?_
  refine lv_istore_n (lv' := [(1, .int (0 : Int32)), (0, .ref (G.2.2 + 160))]) hx hb dX11_records_50 rfl hl (by decide) rfl (fun ls hl => ?_)
  exact w11_records_51 X hr hlk N  N (0 : Int32) σ _ _ _ hf hR (lv_sub hl [1, 0] rfl)
set_option maxHeartbeats 4000000 in
set_option maxRecDepth 100000 in
theorem w11_records_39 (X : Cx p s m args c cX11_records 2 RX11 G) (hr : meth.sig.returnType = none) (hlk : meth.locks = false) (N : Nat) :
    ∀ (σ : Mm) (H : Heap) (locs : List Loc) (ls : Array Slot), f11_records_39 N σ = some (u0, σ0) → Rp G 212 tt σ s H locs → lv_has ls 2 [(0, .ref (G.2.2 + 160))] → W p l e rm11_records s m args below meth c H locs 0 0 (MQ below (P_v G 212 tt u0 σ0) args s 0 0 (Fr G)) (F0 m 39 ls []) := by
  have hx := X.1
  have hb := X.2.1
  intro σ H locs ls hf hR hl
  unfold f11_records_39 at hf
  refine lv_aload_n hx hb dX11_records_39 rfl (lv_at hl 0 rfl) ?_
  refine lv_dup hx hb dX11_records_40 rfl ?_
  refine r_gi X hR fi_11_272 kh_160 dX11_records_41 ?_
  refine lv_iconst (v := (1 : Int32)) hx hb dX11_records_44 (by decide) ?_
  refine lv_isub hx hb dX11_records_45 ?_
  refine r_pi X hR pi_11_272 kh_160 dX11_records_46 (fun H locs σ_12 eσ_12 hR => ?_)
  replace hf := z_l_e eσ_12 hf
  exact w11_records_49 X hr hlk N   σ_12 _ _ _ hf hR (lv_sub hl [0] rfl)
set_option maxHeartbeats 4000000 in
set_option maxRecDepth 100000 in
theorem w11_records_11 (X : Cx p s m args c cX11_records 2 RX11 G) (hr : meth.sig.returnType = none) (hlk : meth.locks = false) (N : Nat) :
    ∀ (fu : Nat) (x1 : Int32) (σ : Mm) (H : Heap) (locs : List Loc) (ls : Array Slot), f11_records_11 N fu x1 σ = some (u0, σ0) → Rp G 212 tt σ s H locs → lv_has ls 2 [(0, .ref (G.2.2 + 160)), (1, .int x1)] → W p l e rm11_records s m args below meth c H locs 0 0 (MQ below (P_v G 212 tt u0 σ0) args s 0 0 (Fr G)) (F0 m 11 ls []) := by
  have hx := X.1
  have hb := X.2.1
  intro fu
  induction fu with
  | zero =>
    intro x1 σ H locs ls hf hR hl
    rw [f11_records_11] at hf
    cases hf
  | succ fu ih =>
    intro x1 σ H locs ls hf hR hl
    rw [f11_records_11] at hf
    refine lv_iload_n hx hb dX11_records_11 rfl (lv_at hl 1 rfl) ?_
    refine lv_sipush (v := (3393 : Int32)) hx hb dX11_records_12 (by decide) ?_
    refine lv_icmp_ge (tgt := 39) hx hb dX11_records_15 (by decide) (fun c_11 => ?_) (fun c_11 => ?_)
    · replace hf := z_t c_11 hf
      exact w11_records_39 X hr hlk N   σ _ _ _ hf hR (lv_sub hl [0] rfl)
    · replace hf := z_f c_11 hf
      refine lv_aload_n hx hb dX11_records_18 rfl (lv_at hl 0 rfl) ?_
      refine r_gs (t := 203) X hR fr_11_146 kh_160 (sx_11_64 kh_160) dX11_records_19 ?_
      refine lv_iload_n hx hb dX11_records_22 rfl (lv_at hl 1 rfl) ?_
      refine lv_aload_n hx hb dX11_records_23 rfl (lv_at hl 0 rfl) ?_
      refine r_gs (t := 203) X hR fr_11_146 kh_160 (sx_11_64 kh_160) dX11_records_24 ?_
      refine lv_iload_n hx hb dX11_records_27 rfl (lv_at hl 1 rfl) ?_
      refine lv_bipush (v := (117 : Int32)) hx hb dX11_records_28 (by decide) ?_
      refine lv_iadd hx hb dX11_records_30 ?_
      obtain ⟨hi_13, hf⟩ := z_c_e hf
      refine r_ial X hR ka_203 hi_13 dX11_records_31 ?_
      obtain ⟨hi_14, hf⟩ := z_c_e hf
      refine r_ias X hR ka_203 hi_14 dX11_records_32 (fun H locs σ_15 eσ_15 hR => ?_)
      replace hf := z_l_e eσ_15 hf
      obtain ⟨x1_16, ex1_16⟩ : ∃ z : Int32, z = x1 + (1 : Int32) := ⟨_, rfl⟩
      replace hf := z_l_e ex1_16 hf
      refine lv_iinc (v := x1_16) (lv' := [(1, .int x1_16), (0, .ref (G.2.2 + 160))]) hx hb dX11_records_33 hl (k := 1) rfl (by rw [ex1_16]; rfl) (by decide) rfl (fun ls hl => ?_)
      refine lv_goto (tgt := 11) hx hb dX11_records_36 (by decide) ?_
      exact ih x1_16 σ_15 _ _ _ hf hR (lv_sub hl [1, 0] rfl)
set_option maxHeartbeats 4000000 in
set_option maxRecDepth 100000 in
theorem c11_records (l : Launch) (G : Gp) (N : Nat) {σ σ0 : Mm} {u0 : Unit} (hf : f11_records N σ = some (u0, σ0)) : Met l yX11_records (WS yX11_records cX11_records 2 (none)) rm11_records (va_Pc [.ref (G.2.2 + 160)] (Pd G 212 tt σ)) (P_v G 212 tt u0 σ0) 0 0 (Fr G) := by
  refine ct [(0, .ref (G.2.2 + 160))] rfl (by decide) (Nat.le_of_ble_eq_true rfl) ?_
  intro p e s m below meth c ls X hr hlk hR hl
  have X : Cx p s m _ c cX11_records 2 RX11 G := X
  have hx := X.1
  have hb := X.2.1
  unfold f11_records at hf
  refine lv_aload_n hx hb dX11_records_0 rfl (lv_at hl 0 rfl) ?_
  refine r_gi X hR fi_11_272 kh_160 dX11_records_1 ?_
  refine lv_bipush (v := (30 : Int32)) hx hb dX11_records_4 (by decide) ?_
  refine lv_icmp_ne (tgt := 49) hx hb dX11_records_6 (by decide) (fun c_1 => ?_) (fun c_1 => ?_)
  · replace hf := z_f c_1 hf
    exact w11_records_49 X hr hlk N   σ _ _ _ hf hR (lv_sub hl [0] rfl)
  · replace hf := z_t c_1 hf
    refine lv_iconst (v := (0 : Int32)) hx hb dX11_records_9 (by decide) ?_
    refine lv_istore_n (lv' := [(1, .int (0 : Int32)), (0, .ref (G.2.2 + 160))]) hx hb dX11_records_10 rfl hl (by decide) rfl (fun ls hl => ?_)
    exact w11_records_11 X hr hlk N  N (0 : Int32) σ _ _ _ hf hR (lv_sub hl [1, 0] rfl)
abbrev rm11_areAlive : Room := { frames := 0, cells := 0, slots := 0, locals := 0 }
def f11_areAlive_31 (N : Nat) (k2 : Int32 → Mm → Option (Int32 × Mm)) (x1 : Int32) (x2 : Int32) (σ : Mm) : Option (Int32 × Mm) :=
  z_l (x2 + (1 : Int32)) fun x2_3 =>
  k2 x2_3 σ
def f11_areAlive_2 (N : Nat) (x1 : Int32) : Nat → Int32 → Mm → Option (Int32 × Mm)
  | 0, _, _ => none
  | fu + 1, x2, σ => if (7 : Int32) ≤ x2 then (
  some ((1 : Int32), σ)) else (
  if ((x1 >>> (x2 &&& 31)) &&& (1 : Int32)) = (1 : Int32) then (
  z_c (inB ((7 : Int32) + x2) 117) (
  if (gI σ 198 (ix ((7 : Int32) + x2))) = 0 then (
  some ((0 : Int32), σ)) else (
  f11_areAlive_31 N (fun x2 σ => f11_areAlive_2 N x1 fu x2 σ) x1 x2 σ))) else (
  f11_areAlive_31 N (fun x2 σ => f11_areAlive_2 N x1 fu x2 σ) x1 x2 σ))
def f11_areAlive (N : Nat) (x1 : Int32) (σ : Mm) : Option (Int32 × Mm) :=
  f11_areAlive_2 N x1 N (0 : Int32) σ
set_option maxHeartbeats 4000000 in
set_option maxRecDepth 100000 in
theorem w11_areAlive_31 (X : Cx p s m args c cX11_areAlive 3 RX11 G) (hr : meth.sig.returnType = some .boolean) (hlk : meth.locks = false) (N : Nat) {x1 : Int32} {k2 : Int32 → Mm → Option (Int32 × Mm)} (hk2 : ∀ (x2 : Int32) (σ : Mm) (H : Heap) (locs : List Loc) (ls : Array Slot), k2 x2 σ = some (r0, σ0) → Rp G 212 tt σ s H locs → lv_has ls 3 [(0, .ref (G.2.2 + 160)), (1, .int x1), (2, .int x2)] → W p l e rm11_areAlive s m args below meth c H locs 0 0 (MQ below (P_i G 212 tt r0 σ0) args s 0 0 (Fr G)) (F0 m 2 ls [])) :
    ∀ (x2 : Int32) (σ : Mm) (H : Heap) (locs : List Loc) (ls : Array Slot), f11_areAlive_31 N k2 x1 x2 σ = some (r0, σ0) → Rp G 212 tt σ s H locs → lv_has ls 3 [(0, .ref (G.2.2 + 160)), (1, .int x1), (2, .int x2)] → W p l e rm11_areAlive s m args below meth c H locs 0 0 (MQ below (P_i G 212 tt r0 σ0) args s 0 0 (Fr G)) (F0 m 31 ls []) := by
  have hx := X.1
  have hb := X.2.1
  intro x2 σ H locs ls hf hR hl
  unfold f11_areAlive_31 at hf
  obtain ⟨x2_3, ex2_3⟩ : ∃ z : Int32, z = x2 + (1 : Int32) := ⟨_, rfl⟩
  replace hf := z_l_e ex2_3 hf
  refine lv_iinc (v := x2_3) (lv' := [(2, .int x2_3), (0, .ref (G.2.2 + 160)), (1, .int x1)]) hx hb dX11_areAlive_31 hl (k := 2) rfl (by rw [ex2_3]; rfl) (by decide) rfl (fun ls hl => ?_)
  refine lv_goto (tgt := 2) hx hb dX11_areAlive_34 (by decide) ?_
  exact hk2 x2_3 σ _ _ _ hf hR (lv_sub hl [1, 2, 0] rfl)
set_option maxHeartbeats 4000000 in
set_option maxRecDepth 100000 in
theorem w11_areAlive_2 (X : Cx p s m args c cX11_areAlive 3 RX11 G) (hr : meth.sig.returnType = some .boolean) (hlk : meth.locks = false) (N : Nat) {x1 : Int32} :
    ∀ (fu : Nat) (x2 : Int32) (σ : Mm) (H : Heap) (locs : List Loc) (ls : Array Slot), f11_areAlive_2 N x1 fu x2 σ = some (r0, σ0) → Rp G 212 tt σ s H locs → lv_has ls 3 [(0, .ref (G.2.2 + 160)), (1, .int x1), (2, .int x2)] → W p l e rm11_areAlive s m args below meth c H locs 0 0 (MQ below (P_i G 212 tt r0 σ0) args s 0 0 (Fr G)) (F0 m 2 ls []) := by
  have hx := X.1
  have hb := X.2.1
  intro fu
  induction fu with
  | zero =>
    intro x2 σ H locs ls hf hR hl
    rw [f11_areAlive_2] at hf
    cases hf
  | succ fu ih =>
    intro x2 σ H locs ls hf hR hl
    rw [f11_areAlive_2] at hf
    refine lv_iload_n hx hb dX11_areAlive_2 rfl (lv_at hl 2 rfl) ?_
    refine lv_bipush (v := (7 : Int32)) hx hb dX11_areAlive_3 (by decide) ?_
    refine lv_icmp_ge (tgt := 37) hx hb dX11_areAlive_5 (by decide) (fun c_1 => ?_) (fun c_1 => ?_)
    · replace hf := z_t c_1 hf
      refine lv_iconst (v := (1 : Int32)) hx hb dX11_areAlive_37 (by decide) ?_
      exact e_z X hR hr hlk rfl hf dX11_areAlive_38
    · replace hf := z_f c_1 hf
      refine lv_iload_n hx hb dX11_areAlive_8 rfl (lv_at hl 1 rfl) ?_
      refine lv_iload_n hx hb dX11_areAlive_9 rfl (lv_at hl 2 rfl) ?_
      refine lv_ishr hx hb dX11_areAlive_10 ?_
      refine lv_iconst (v := (1 : Int32)) hx hb dX11_areAlive_11 (by decide) ?_
      refine lv_iand hx hb dX11_areAlive_12 ?_
      refine lv_iconst (v := (1 : Int32)) hx hb dX11_areAlive_13 (by decide) ?_
      refine lv_icmp_ne (tgt := 31) hx hb dX11_areAlive_14 (by decide) (fun c_2 => ?_) (fun c_2 => ?_)
      · replace hf := z_f c_2 hf
        exact w11_areAlive_31 X hr hlk N ih x2 σ _ _ _ hf hR (lv_sub hl [0, 1, 2] rfl)
      · replace hf := z_t c_2 hf
        refine lv_aload_n hx hb dX11_areAlive_17 rfl (lv_at hl 0 rfl) ?_
        refine r_gs (t := 198) X hR fr_11_131 kh_160 (sx_11_55 kh_160) dX11_areAlive_18 ?_
        refine lv_bipush (v := (7 : Int32)) hx hb dX11_areAlive_21 (by decide) ?_
        refine lv_iload_n hx hb dX11_areAlive_23 rfl (lv_at hl 2 rfl) ?_
        refine lv_iadd hx hb dX11_areAlive_24 ?_
        obtain ⟨hi_4, hf⟩ := z_c_e hf
        refine r_ial X hR ka_198 hi_4 dX11_areAlive_25 ?_
        refine lv_if_ne (tgt := 31) hx hb dX11_areAlive_26 (by decide) (fun c_5 => ?_) (fun c_5 => ?_)
        · replace hf := z_f c_5 hf
          exact w11_areAlive_31 X hr hlk N ih x2 σ _ _ _ hf hR (lv_sub hl [0, 1, 2] rfl)
        · replace hf := z_t c_5 hf
          refine lv_iconst (v := (0 : Int32)) hx hb dX11_areAlive_29 (by decide) ?_
          exact e_z X hR hr hlk rfl hf dX11_areAlive_30
set_option maxHeartbeats 4000000 in
set_option maxRecDepth 100000 in
theorem c11_areAlive (l : Launch) (G : Gp) (N : Nat) {x1 : Int32} {σ σ0 : Mm} {r0 : Int32} (hf : f11_areAlive N x1 σ = some (r0, σ0)) : Met l yX11_areAlive (WS yX11_areAlive cX11_areAlive 3 (some .boolean)) rm11_areAlive (va_Pc [.ref (G.2.2 + 160), .int x1] (Pd G 212 tt σ)) (P_i G 212 tt r0 σ0) 0 0 (Fr G) := by
  refine ct [(0, .ref (G.2.2 + 160)), (1, .int x1)] rfl (by decide) (Nat.le_of_ble_eq_true rfl) ?_
  intro p e s m below meth c ls X hr hlk hR hl
  have X : Cx p s m _ c cX11_areAlive 3 RX11 G := X
  have hx := X.1
  have hb := X.2.1
  unfold f11_areAlive at hf
  refine lv_iconst (v := (0 : Int32)) hx hb dX11_areAlive_0 (by decide) ?_
  refine lv_istore_n (lv' := [(2, .int (0 : Int32)), (0, .ref (G.2.2 + 160)), (1, .int x1)]) hx hb dX11_areAlive_1 rfl hl (by decide) rfl (fun ls hl => ?_)
  exact w11_areAlive_2 X hr hlk N  N (0 : Int32) σ _ _ _ hf hR (lv_sub hl [1, 2, 0] rfl)
abbrev rm11_give : Room := { frames := 2, cells := 0, slots := 0, locals := 43 }
def f11_give (N : Nat) (x1 : Int32) (x2 : Int32) (x3 : Int32) (x4 : Int32) (σ : Mm) : Option (Int32 × Mm) :=
  z_b (f11_isPlot N x1 σ) fun r_1 σ_2 =>
  if r_1 = 0 then (
  some ((-1 : Int32), σ_2)) else (
  z_b (f11_isPerson N x2 σ_2) fun r_5 σ_6 =>
  if r_5 = 0 then (
  some ((-1 : Int32), σ_6)) else (
  z_b (f11_isPerson N x3 σ_6) fun r_9 σ_10 =>
  if r_9 = 0 then (
  some ((-1 : Int32), σ_10)) else (
  if x2 = x3 then (
  some ((-1 : Int32), σ_10)) else (
  z_c (inB (gI σ_10 160 18) 2) (
  z_b (f11_in N x4 (0 : Int32) (((1 : Int32) <<< ((gI σ_10 175 (ix (gI σ_10 160 18))) &&& 31)) - (1 : Int32)) σ_10) fun r_15 σ_16 =>
  if r_15 = 0 then (
  some ((-1 : Int32), σ_16)) else (
  z_c (inB (15 : Int32) 117) (
  if (gI σ_16 198 (ix (15 : Int32))) = (20 : Int32) then (
  some ((-2 : Int32), σ_16)) else (
  z_b (f11_areAlive N x4 σ_16) fun r_21 σ_22 =>
  if r_21 = 0 then (
  some ((-2 : Int32), σ_22)) else (
  z_b (f11_copies N σ_22) fun _ σ_26 =>
  z_c (inB (15 : Int32) 117) (
  z_l ((gI σ_26 199 (ix (15 : Int32)))) fun x5_29 =>
  z_c (inB (15 : Int32) 117) (
  z_c (inB (15 : Int32) 117) (z_l (sI σ_26 199 (ix (15 : Int32)) ((gI σ_26 199 (ix (15 : Int32))) + (1 : Int32))) fun σ_32 =>
  z_c (inB ((17 : Int32) + x5_29) 117) (z_l (sI σ_32 199 (ix ((17 : Int32) + x5_29)) x1) fun σ_34 =>
  z_c (inB ((37 : Int32) + x5_29) 117) (z_l (sI σ_34 199 (ix ((37 : Int32) + x5_29)) x2) fun σ_36 =>
  z_c (inB ((57 : Int32) + x5_29) 117) (z_l (sI σ_36 199 (ix ((57 : Int32) + x5_29)) x3) fun σ_38 =>
  z_c (inB (14 : Int32) 117) (
  z_c (inB ((77 : Int32) + x5_29) 117) (z_l (sI σ_38 199 (ix ((77 : Int32) + x5_29)) (gI σ_38 199 (ix (14 : Int32)))) fun σ_41 =>
  z_c (inB ((97 : Int32) + x5_29) 117) (z_l (sI σ_41 199 (ix ((97 : Int32) + x5_29)) x4) fun σ_43 =>
  z_b (f11_records N σ_43) fun _ σ_45 =>
  some (x5_29, σ_45)))))))))))))))))))
set_option maxHeartbeats 4000000 in
set_option maxRecDepth 100000 in
theorem c11_give (l : Launch) (G : Gp) (N : Nat) {x1 : Int32} {x2 : Int32} {x3 : Int32} {x4 : Int32} {σ σ0 : Mm} {r0 : Int32} (hf : f11_give N x1 x2 x3 x4 σ = some (r0, σ0)) : Met l yX11_give (WS yX11_give cX11_give 6 (some .int)) rm11_give (va_Pc [.ref (G.2.2 + 160), .int x1, .int x2, .int x3, .int x4] (Pd G 212 tt σ)) (P_i G 212 tt r0 σ0) 0 0 (Fr G) := by
  refine ct [(0, .ref (G.2.2 + 160)), (1, .int x1), (2, .int x2), (3, .int x3), (4, .int x4)] rfl (by decide) (Nat.le_of_ble_eq_true rfl) ?_
  intro p e s m below meth c ls X hr hlk hR hl
  have X : Cx p s m _ c cX11_give 6 RX11 G := X
  have hx := X.1
  have hb := X.2.1
  unfold f11_give at hf
  refine lv_aload_n hx hb dX11_give_0 rfl (lv_at hl 0 rfl) ?_
  refine lv_iload_n hx hb dX11_give_1 rfl (lv_at hl 1 rfl) ?_
  obtain ⟨r_1, σ_2, hc_3, hf⟩ := z_b_e hf
  refine go_i hR (mv_run (As := [.int x1]) (rest := []) X hR mv_11_397 kh_160 (kd_lt kh_160 (by decide)) (c11_isPlot l G N hc_3) ⟨rfl, rfl, Nat.le_of_ble_eq_true rfl, Nat.le_of_ble_eq_true rfl⟩ rfl hl.1 rfl (Nat.le_of_ble_eq_true rfl) dX11_give_2 ⟨Nat.zero_le _, Nat.zero_le _⟩) (fun H locs hR => ?_)
  refine lv_if_eq (tgt := 51) hx hb dX11_give_5 (by decide) (fun c_4 => ?_) (fun c_4 => ?_)
  · replace hf := z_t c_4 hf
    refine lv_iconst (v := (-1 : Int32)) hx hb dX11_give_51 (by decide) ?_
    exact e_i X hR hr hlk hf dX11_give_52
  · replace hf := z_f c_4 hf
    refine lv_aload_n hx hb dX11_give_8 rfl (lv_at hl 0 rfl) ?_
    refine lv_iload_n hx hb dX11_give_9 rfl (lv_at hl 2 rfl) ?_
    obtain ⟨r_5, σ_6, hc_7, hf⟩ := z_b_e hf
    refine go_i hR (mv_run (As := [.int x2]) (rest := []) X hR mv_11_415 kh_160 (kd_lt kh_160 (by decide)) (c11_isPerson l G N hc_7) ⟨rfl, rfl, Nat.le_of_ble_eq_true rfl, Nat.le_of_ble_eq_true rfl⟩ rfl hl.1 rfl (Nat.le_of_ble_eq_true rfl) dX11_give_10 ⟨Nat.zero_le _, Nat.zero_le _⟩) (fun H locs hR => ?_)
    refine lv_if_eq (tgt := 51) hx hb dX11_give_13 (by decide) (fun c_8 => ?_) (fun c_8 => ?_)
    · replace hf := z_t c_8 hf
      refine lv_iconst (v := (-1 : Int32)) hx hb dX11_give_51 (by decide) ?_
      exact e_i X hR hr hlk hf dX11_give_52
    · replace hf := z_f c_8 hf
      refine lv_aload_n hx hb dX11_give_16 rfl (lv_at hl 0 rfl) ?_
      refine lv_iload_n hx hb dX11_give_17 rfl (lv_at hl 3 rfl) ?_
      obtain ⟨r_9, σ_10, hc_11, hf⟩ := z_b_e hf
      refine go_i hR (mv_run (As := [.int x3]) (rest := []) X hR mv_11_415 kh_160 (kd_lt kh_160 (by decide)) (c11_isPerson l G N hc_11) ⟨rfl, rfl, Nat.le_of_ble_eq_true rfl, Nat.le_of_ble_eq_true rfl⟩ rfl hl.1 rfl (Nat.le_of_ble_eq_true rfl) dX11_give_18 ⟨Nat.zero_le _, Nat.zero_le _⟩) (fun H locs hR => ?_)
      refine lv_if_eq (tgt := 51) hx hb dX11_give_21 (by decide) (fun c_12 => ?_) (fun c_12 => ?_)
      · replace hf := z_t c_12 hf
        refine lv_iconst (v := (-1 : Int32)) hx hb dX11_give_51 (by decide) ?_
        exact e_i X hR hr hlk hf dX11_give_52
      · replace hf := z_f c_12 hf
        refine lv_iload_n hx hb dX11_give_24 rfl (lv_at hl 2 rfl) ?_
        refine lv_iload_n hx hb dX11_give_25 rfl (lv_at hl 3 rfl) ?_
        refine lv_icmp_eq (tgt := 51) hx hb dX11_give_26 (by decide) (fun c_13 => ?_) (fun c_13 => ?_)
        · replace hf := z_t c_13 hf
          refine lv_iconst (v := (-1 : Int32)) hx hb dX11_give_51 (by decide) ?_
          exact e_i X hR hr hlk hf dX11_give_52
        · replace hf := z_f c_13 hf
          refine lv_iload hx hb dX11_give_29 (lv_at hl 4 rfl) ?_
          refine lv_iconst (v := (0 : Int32)) hx hb dX11_give_31 (by decide) ?_
          refine lv_iconst (v := (1 : Int32)) hx hb dX11_give_32 (by decide) ?_
          refine lv_aload_n hx hb dX11_give_33 rfl (lv_at hl 0 rfl) ?_
          refine r_gs (t := 175) X hR fr_11_61 kh_160 (sx_11_28 kh_160) dX11_give_34 ?_
          refine lv_aload_n hx hb dX11_give_37 rfl (lv_at hl 0 rfl) ?_
          refine r_gi X hR fi_11_254 kh_160 dX11_give_38 ?_
          obtain ⟨hi_14, hf⟩ := z_c_e hf
          refine r_ial X hR ka_175 hi_14 dX11_give_41 ?_
          refine lv_ishl hx hb dX11_give_42 ?_
          refine lv_iconst (v := (1 : Int32)) hx hb dX11_give_43 (by decide) ?_
          refine lv_isub hx hb dX11_give_44 ?_
          obtain ⟨r_15, σ_16, hc_17, hf⟩ := z_b_e hf
          refine go_i hR (ms_run (As := [.int x4, .int (0 : Int32), .int (((1 : Int32) <<< ((gI σ_10 175 (ix (gI σ_10 160 18))) &&& 31)) - (1 : Int32))]) (rest := []) X hR ms_11_340 (c11_in l G N hc_17) ⟨rfl, rfl, Nat.le_of_ble_eq_true rfl, Nat.le_of_ble_eq_true rfl⟩ rfl hl.1 rfl (Nat.le_of_ble_eq_true rfl) dX11_give_45 ⟨Nat.zero_le _, Nat.zero_le _⟩) (fun H locs hR => ?_)
          refine lv_if_ne (tgt := 53) hx hb dX11_give_48 (by decide) (fun c_18 => ?_) (fun c_18 => ?_)
          · replace hf := z_f c_18 hf
            refine lv_aload_n hx hb dX11_give_53 rfl (lv_at hl 0 rfl) ?_
            refine r_gs (t := 198) X hR fr_11_131 kh_160 (sx_11_55 kh_160) dX11_give_54 ?_
            refine lv_bipush (v := (15 : Int32)) hx hb dX11_give_57 (by decide) ?_
            obtain ⟨hi_19, hf⟩ := z_c_e hf
            refine r_ial X hR ka_198 hi_19 dX11_give_59 ?_
            refine lv_bipush (v := (20 : Int32)) hx hb dX11_give_60 (by decide) ?_
            refine lv_icmp_eq (tgt := 74) hx hb dX11_give_62 (by decide) (fun c_20 => ?_) (fun c_20 => ?_)
            · replace hf := z_t c_20 hf
              refine lv_bipush (v := (-2 : Int32)) hx hb dX11_give_74 (by decide) ?_
              exact e_i X hR hr hlk hf dX11_give_76
            · replace hf := z_f c_20 hf
              refine lv_aload_n hx hb dX11_give_65 rfl (lv_at hl 0 rfl) ?_
              refine lv_iload hx hb dX11_give_66 (lv_at hl 4 rfl) ?_
              obtain ⟨r_21, σ_22, hc_23, hf⟩ := z_b_e hf
              refine go_i hR (mv_run (As := [.int x4]) (rest := []) X hR mv_11_418 kh_160 (kd_lt kh_160 (by decide)) (c11_areAlive l G N hc_23) ⟨rfl, rfl, Nat.le_of_ble_eq_true rfl, Nat.le_of_ble_eq_true rfl⟩ rfl hl.1 rfl (Nat.le_of_ble_eq_true rfl) dX11_give_68 ⟨Nat.zero_le _, Nat.zero_le _⟩) (fun H locs hR => ?_)
              refine lv_if_ne (tgt := 77) hx hb dX11_give_71 (by decide) (fun c_24 => ?_) (fun c_24 => ?_)
              · replace hf := z_f c_24 hf
                refine lv_aload_n hx hb dX11_give_77 rfl (lv_at hl 0 rfl) ?_
                obtain ⟨r_25, σ_26, hc_27, hf⟩ := z_b_e hf
                refine go_v hR (mv_run (As := []) (rest := []) X hR mv_11_400 kh_160 (kd_lt kh_160 (by decide)) (c11_copies l G N hc_27) ⟨rfl, rfl, Nat.le_of_ble_eq_true rfl, Nat.le_of_ble_eq_true rfl⟩ rfl hl.1 rfl (Nat.le_of_ble_eq_true rfl) dX11_give_78 ⟨Nat.zero_le _, Nat.zero_le _⟩) (fun H locs hR => ?_)
                refine lv_aload_n hx hb dX11_give_81 rfl (lv_at hl 0 rfl) ?_
                refine r_gs (t := 199) X hR fr_11_134 kh_160 (sx_11_56 kh_160) dX11_give_82 ?_
                refine lv_bipush (v := (15 : Int32)) hx hb dX11_give_85 (by decide) ?_
                obtain ⟨hi_28, hf⟩ := z_c_e hf
                refine r_ial X hR ka_199 hi_28 dX11_give_87 ?_
                refine lv_topi (fun x5_29 ex5_29 => ?_)
                replace hf := z_l_e ex5_29 hf
                refine lv_istore (lv' := [(5, .int x5_29), (0, .ref (G.2.2 + 160)), (1, .int x1), (2, .int x2), (3, .int x3), (4, .int x4)]) hx hb dX11_give_88 hl (by decide) rfl (fun ls hl => ?_)
                refine lv_aload_n hx hb dX11_give_90 rfl (lv_at hl 1 rfl) ?_
                refine r_gs (t := 199) X hR fr_11_134 kh_160 (sx_11_56 kh_160) dX11_give_91 ?_
                refine lv_bipush (v := (15 : Int32)) hx hb dX11_give_94 (by decide) ?_
                refine lv_dup2_11 hx hb dX11_give_96 rfl rfl ?_
                obtain ⟨hi_30, hf⟩ := z_c_e hf
                refine r_ial X hR ka_199 hi_30 dX11_give_97 ?_
                refine lv_iconst (v := (1 : Int32)) hx hb dX11_give_98 (by decide) ?_
                refine lv_iadd hx hb dX11_give_99 ?_
                obtain ⟨hi_31, hf⟩ := z_c_e hf
                refine r_ias X hR ka_199 hi_31 dX11_give_100 (fun H locs σ_32 eσ_32 hR => ?_)
                replace hf := z_l_e eσ_32 hf
                refine lv_aload_n hx hb dX11_give_101 rfl (lv_at hl 1 rfl) ?_
                refine r_gs (t := 199) X hR fr_11_134 kh_160 (sx_11_56 kh_160) dX11_give_102 ?_
                refine lv_bipush (v := (17 : Int32)) hx hb dX11_give_105 (by decide) ?_
                refine lv_iload hx hb dX11_give_107 (lv_at hl 0 rfl) ?_
                refine lv_iadd hx hb dX11_give_109 ?_
                refine lv_iload_n hx hb dX11_give_110 rfl (lv_at hl 2 rfl) ?_
                obtain ⟨hi_33, hf⟩ := z_c_e hf
                refine r_ias X hR ka_199 hi_33 dX11_give_111 (fun H locs σ_34 eσ_34 hR => ?_)
                replace hf := z_l_e eσ_34 hf
                refine lv_aload_n hx hb dX11_give_112 rfl (lv_at hl 1 rfl) ?_
                refine r_gs (t := 199) X hR fr_11_134 kh_160 (sx_11_56 kh_160) dX11_give_113 ?_
                refine lv_bipush (v := (37 : Int32)) hx hb dX11_give_116 (by decide) ?_
                refine lv_iload hx hb dX11_give_118 (lv_at hl 0 rfl) ?_
                refine lv_iadd hx hb dX11_give_120 ?_
                refine lv_iload_n hx hb dX11_give_121 rfl (lv_at hl 3 rfl) ?_
                obtain ⟨hi_35, hf⟩ := z_c_e hf
                refine r_ias X hR ka_199 hi_35 dX11_give_122 (fun H locs σ_36 eσ_36 hR => ?_)
                replace hf := z_l_e eσ_36 hf
                refine lv_aload_n hx hb dX11_give_123 rfl (lv_at hl 1 rfl) ?_
                refine r_gs (t := 199) X hR fr_11_134 kh_160 (sx_11_56 kh_160) dX11_give_124 ?_
                refine lv_bipush (v := (57 : Int32)) hx hb dX11_give_127 (by decide) ?_
                refine lv_iload hx hb dX11_give_129 (lv_at hl 0 rfl) ?_
                refine lv_iadd hx hb dX11_give_131 ?_
                refine lv_iload_n hx hb dX11_give_132 rfl (lv_at hl 4 rfl) ?_
                obtain ⟨hi_37, hf⟩ := z_c_e hf
                refine r_ias X hR ka_199 hi_37 dX11_give_133 (fun H locs σ_38 eσ_38 hR => ?_)
                replace hf := z_l_e eσ_38 hf
                refine lv_aload_n hx hb dX11_give_134 rfl (lv_at hl 1 rfl) ?_
                refine r_gs (t := 199) X hR fr_11_134 kh_160 (sx_11_56 kh_160) dX11_give_135 ?_
                refine lv_bipush (v := (77 : Int32)) hx hb dX11_give_138 (by decide) ?_
                refine lv_iload hx hb dX11_give_140 (lv_at hl 0 rfl) ?_
                refine lv_iadd hx hb dX11_give_142 ?_
                refine lv_aload_n hx hb dX11_give_143 rfl (lv_at hl 1 rfl) ?_
                refine r_gs (t := 199) X hR fr_11_134 kh_160 (sx_11_56 kh_160) dX11_give_144 ?_
                refine lv_bipush (v := (14 : Int32)) hx hb dX11_give_147 (by decide) ?_
                obtain ⟨hi_39, hf⟩ := z_c_e hf
                refine r_ial X hR ka_199 hi_39 dX11_give_149 ?_
                obtain ⟨hi_40, hf⟩ := z_c_e hf
                refine r_ias X hR ka_199 hi_40 dX11_give_150 (fun H locs σ_41 eσ_41 hR => ?_)
                replace hf := z_l_e eσ_41 hf
                refine lv_aload_n hx hb dX11_give_151 rfl (lv_at hl 1 rfl) ?_
                refine r_gs (t := 199) X hR fr_11_134 kh_160 (sx_11_56 kh_160) dX11_give_152 ?_
                refine lv_bipush (v := (97 : Int32)) hx hb dX11_give_155 (by decide) ?_
                refine lv_iload hx hb dX11_give_157 (lv_at hl 0 rfl) ?_
                refine lv_iadd hx hb dX11_give_159 ?_
                refine lv_iload hx hb dX11_give_160 (lv_at hl 5 rfl) ?_
                obtain ⟨hi_42, hf⟩ := z_c_e hf
                refine r_ias X hR ka_199 hi_42 dX11_give_162 (fun H locs σ_43 eσ_43 hR => ?_)
                replace hf := z_l_e eσ_43 hf
                refine lv_aload_n hx hb dX11_give_163 rfl (lv_at hl 1 rfl) ?_
                obtain ⟨r_44, σ_45, hc_46, hf⟩ := z_b_e hf
                refine go_v hR (mv_run (As := []) (rest := []) X hR mv_11_421 kh_160 (kd_lt kh_160 (by decide)) (c11_records l G N hc_46) ⟨rfl, rfl, Nat.le_of_ble_eq_true rfl, Nat.le_of_ble_eq_true rfl⟩ rfl hl.1 rfl (Nat.le_of_ble_eq_true rfl) dX11_give_164 ⟨Nat.zero_le _, Nat.zero_le _⟩) (fun H locs hR => ?_)
                refine lv_iload hx hb dX11_give_167 (lv_at hl 0 rfl) ?_
                exact e_i X hR hr hlk hf dX11_give_169
              · replace hf := z_t c_24 hf
                refine lv_bipush (v := (-2 : Int32)) hx hb dX11_give_74 (by decide) ?_
                exact e_i X hR hr hlk hf dX11_give_76
          · replace hf := z_t c_18 hf
            refine lv_iconst (v := (-1 : Int32)) hx hb dX11_give_51 (by decide) ?_
            exact e_i X hR hr hlk hf dX11_give_52
end GEN
