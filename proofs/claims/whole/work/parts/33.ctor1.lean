set_option maxHeartbeats 4000000 in
set_option maxRecDepth 100000 in
theorem c4_begin_g (l : Launch) (G : Gp) (N : Nat) {n : Nat} {F : Nat → Bool} {o : Nat} (hF : F o = true) (hn : o + 4 < n) (ho : (kd o).1 = 4) {x1 : Int32} {σ σ0 : Mm} {u0 : Unit} (hf : f4_begin N o x1 σ = some (u0, σ0)) : Met l yX4_begin (WS yX4_begin cX4_begin 2 (none)) rm4_begin (va_Pc [.ref (G.2.2 + o), .int x1] (Pd G n F σ)) (P_v G n F u0 σ0) 0 0 (Fr G) := by
  refine ct [(0, .ref (G.2.2 + o)), (1, .int x1)] rfl (by decide) (Nat.le_of_ble_eq_true rfl) ?_
  intro p e s m below meth c ls X hr hlk hR hl
  have X : Cx p s m _ c cX4_begin 2 RX4 G := X
  have hx := X.1
  have hb := X.2.1
  unfold f4_begin at hf
  refine lv_iload_n hx hb dX4_begin_0 rfl (lv_at hl 1 rfl) ?_
  refine lv_if_lt (tgt := 23) hx hb dX4_begin_1 (by decide) (fun c_1 => ?_) (fun c_1 => ?_)
  · replace hf := z_t c_1 hf
    exact e_v X hR hr hlk hf dX4_begin_23
  · replace hf := z_f c_1 hf
    refine lv_iload_n hx hb dX4_begin_4 rfl (lv_at hl 1 rfl) ?_
    refine lv_aload_n hx hb dX4_begin_5 rfl (lv_at hl 0 rfl) ?_
    refine q_gr (t := (o + 3)) X hR fr_4_22.1 fr_4_22.2 ho (by omega) (hR.2.2.2 _ _ _ hF (sx_4_3 ho)) dX4_begin_6 ?_
    refine q_len (v := (4 : Int32)) X hR (kx_4_3 ho) (by decide) (by omega) rfl dX4_begin_9 ?_
    refine lv_icmp_ge (tgt := 23) hx hb dX4_begin_10 (by decide) (fun c_2 => ?_) (fun c_2 => ?_)
    · replace hf := z_t c_2 hf
      exact e_v X hR hr hlk hf dX4_begin_23
    · replace hf := z_f c_2 hf
      refine lv_aload_n hx hb dX4_begin_13 rfl (lv_at hl 0 rfl) ?_
      refine q_gr (t := (o + 3)) X hR fr_4_22.1 fr_4_22.2 ho (by omega) (hR.2.2.2 _ _ _ hF (sx_4_3 ho)) dX4_begin_14 ?_
      refine lv_iload_n hx hb dX4_begin_17 rfl (lv_at hl 1 rfl) ?_
      refine lv_aload_n hx hb dX4_begin_18 rfl (lv_at hl 0 rfl) ?_
      refine q_gi X hR fi_4_18.1 fi_4_18.2 ho (by omega) dX4_begin_19 ?_
      obtain ⟨hi_3, hf⟩ := z_c_e hf
      refine q_ias X hR (kx_4_3 ho) (by omega) (inB_in hi_3) dX4_begin_22 (fun H locs σ_4 eσ_4 hR => ?_)
      replace hf := z_l_e eσ_4 hf
      exact e_v X hR hr hlk hf dX4_begin_23
set_option maxHeartbeats 4000000 in
set_option maxRecDepth 100000 in
theorem c4_put_g (l : Launch) (G : Gp) (N : Nat) {n : Nat} {F : Nat → Bool} {o : Nat} (hF : F o = true) (hn : o + 4 < n) (ho : (kd o).1 = 4) {x1 : Int32} {x2 : Int32} {σ σ0 : Mm} {r0 : Int32} (hf : f4_put N o x1 x2 σ = some (r0, σ0)) : Met l yX4_put (WS yX4_put cX4_put 4 (some .int)) rm4_put (va_Pc [.ref (G.2.2 + o), .int x1, .int x2] (Pd G n F σ)) (P_i G n F r0 σ0) 0 0 (Fr G) := by
  refine ct [(0, .ref (G.2.2 + o)), (1, .int x1), (2, .int x2)] rfl (by decide) (Nat.le_of_ble_eq_true rfl) ?_
  intro p e s m below meth c ls X hr hlk hR hl
  have X : Cx p s m _ c cX4_put 4 RX4 G := X
  have hx := X.1
  have hb := X.2.1
  unfold f4_put at hf
  refine lv_aload_n hx hb dX4_put_0 rfl (lv_at hl 0 rfl) ?_
  refine q_gi X hR fi_4_18.1 fi_4_18.2 ho (by omega) dX4_put_1 ?_
  refine lv_topi (fun x3_1 ex3_1 => ?_)
  replace hf := z_l_e ex3_1 hf
  refine lv_istore_n (lv' := [(3, .int x3_1), (0, .ref (G.2.2 + o)), (1, .int x1), (2, .int x2)]) hx hb dX4_put_4 rfl hl (by decide) rfl (fun ls hl => ?_)
  refine lv_iload_n hx hb dX4_put_5 rfl (lv_at hl 0 rfl) ?_
  refine lv_aload_n hx hb dX4_put_6 rfl (lv_at hl 1 rfl) ?_
  refine q_gr (t := (o + 1)) X hR fr_4_9.1 fr_4_9.2 ho (by omega) (hR.2.2.2 _ _ _ hF (sx_4_0 ho)) dX4_put_7 ?_
  refine q_len (v := (416 : Int32)) X hR (kx_4_0 ho) (by decide) (by omega) rfl dX4_put_10 ?_
  refine lv_icmp_ge (tgt := 38) hx hb dX4_put_11 (by decide) (fun c_2 => ?_) (fun c_2 => ?_)
  · replace hf := z_t c_2 hf
    refine lv_iload_n hx hb dX4_put_38 rfl (lv_at hl 0 rfl) ?_
    exact e_i X hR hr hlk hf dX4_put_39
  · replace hf := z_f c_2 hf
    refine lv_aload_n hx hb dX4_put_14 rfl (lv_at hl 1 rfl) ?_
    refine q_gr (t := (o + 1)) X hR fr_4_9.1 fr_4_9.2 ho (by omega) (hR.2.2.2 _ _ _ hF (sx_4_0 ho)) dX4_put_15 ?_
    refine lv_iload_n hx hb dX4_put_18 rfl (lv_at hl 0 rfl) ?_
    refine lv_iload_n hx hb dX4_put_19 rfl (lv_at hl 2 rfl) ?_
    obtain ⟨hi_3, hf⟩ := z_c_e hf
    refine q_ias X hR (kx_4_0 ho) (by omega) (inB_in hi_3) dX4_put_20 (fun H locs σ_4 eσ_4 hR => ?_)
    replace hf := z_l_e eσ_4 hf
    refine lv_aload_n hx hb dX4_put_21 rfl (lv_at hl 1 rfl) ?_
    refine q_gr (t := (o + 2)) X hR fr_4_15.1 fr_4_15.2 ho (by omega) (hR.2.2.2 _ _ _ hF (sx_4_1 ho)) dX4_put_22 ?_
    refine lv_iload_n hx hb dX4_put_25 rfl (lv_at hl 0 rfl) ?_
    refine lv_iload_n hx hb dX4_put_26 rfl (lv_at hl 3 rfl) ?_
    obtain ⟨hi_5, hf⟩ := z_c_e hf
    refine q_ias X hR (kx_4_1 ho) (by omega) (inB_in hi_5) dX4_put_27 (fun H locs σ_6 eσ_6 hR => ?_)
    replace hf := z_l_e eσ_6 hf
    refine lv_aload_n hx hb dX4_put_28 rfl (lv_at hl 1 rfl) ?_
    refine lv_dup hx hb dX4_put_29 rfl ?_
    refine q_gi X hR fi_4_18.1 fi_4_18.2 ho (by omega) dX4_put_30 ?_
    refine lv_iconst (v := (1 : Int32)) hx hb dX4_put_33 (by decide) ?_
    refine lv_iadd hx hb dX4_put_34 ?_
    refine q_pi X hR pi_4_18.1 pi_4_18.2 ho (by omega) dX4_put_35 (fun H locs σ_7 eσ_7 hR => ?_)
    replace hf := z_l_e eσ_7 hf
    refine lv_iload_n hx hb dX4_put_38 rfl (lv_at hl 0 rfl) ?_
    exact e_i X hR hr hlk hf dX4_put_39
set_option maxHeartbeats 4000000 in
set_option maxRecDepth 100000 in
theorem c4_clear_g (l : Launch) (G : Gp) (N : Nat) {n : Nat} {F : Nat → Bool} {o : Nat} (hF : F o = true) (hn : o + 4 < n) (ho : (kd o).1 = 4) {σ σ0 : Mm} {u0 : Unit} (hf : f4_clear N o σ = some (u0, σ0)) : Met l yX4_clear (WS yX4_clear cX4_clear 1 (none)) rm4_clear (va_Pc [.ref (G.2.2 + o)] (Pd G n F σ)) (P_v G n F u0 σ0) 0 0 (Fr G) := by
  refine ct [(0, .ref (G.2.2 + o))] rfl (by decide) (Nat.le_of_ble_eq_true rfl) ?_
  intro p e s m below meth c ls X hr hlk hR hl
  have X : Cx p s m _ c cX4_clear 1 RX4 G := X
  have hx := X.1
  have hb := X.2.1
  unfold f4_clear at hf
  refine lv_aload_n hx hb dX4_clear_0 rfl (lv_at hl 0 rfl) ?_
  refine lv_iconst (v := (0 : Int32)) hx hb dX4_clear_1 (by decide) ?_
  refine q_pi X hR pi_4_18.1 pi_4_18.2 ho (by omega) dX4_clear_2 (fun H locs σ_1 eσ_1 hR => ?_)
  replace hf := z_l_e eσ_1 hf
  refine lv_aload_n hx hb dX4_clear_5 rfl (lv_at hl 0 rfl) ?_
  refine lv_iconst (v := (0 : Int32)) hx hb dX4_clear_6 (by decide) ?_
  obtain ⟨r_2, σ_3, hc_4, hf⟩ := z_b_e hf
  refine go_v hR (mv_run (As := [.int (0 : Int32)]) (rest := []) X hR mv_4_28 ho (by omega) (c4_begin_g l G N hF hn ho hc_4) ⟨rfl, rfl, Nat.le_of_ble_eq_true rfl, Nat.le_of_ble_eq_true rfl⟩ rfl hl.1 rfl (Nat.le_of_ble_eq_true rfl) dX4_clear_7 ⟨Nat.zero_le _, Nat.zero_le _⟩) (fun H locs hR => ?_)
  refine lv_aload_n hx hb dX4_clear_10 rfl (lv_at hl 0 rfl) ?_
  refine lv_iconst (v := (1 : Int32)) hx hb dX4_clear_11 (by decide) ?_
  refine lv_iconst (v := (1 : Int32)) hx hb dX4_clear_12 (by decide) ?_
  obtain ⟨r_5, σ_6, hc_7, hf⟩ := z_b_e hf
  refine go_i hR (mv_run (As := [.int (1 : Int32), .int (1 : Int32)]) (rest := []) X hR mv_4_32 ho (by omega) (c4_put_g l G N hF hn ho hc_7) ⟨rfl, rfl, Nat.le_of_ble_eq_true rfl, Nat.le_of_ble_eq_true rfl⟩ rfl hl.1 rfl (Nat.le_of_ble_eq_true rfl) dX4_clear_13 ⟨Nat.zero_le _, Nat.zero_le _⟩) (fun H locs hR => ?_)
  refine lv_pop hx hb dX4_clear_16 rfl ?_
  refine lv_aload_n hx hb dX4_clear_17 rfl (lv_at hl 0 rfl) ?_
  refine lv_iconst (v := (1 : Int32)) hx hb dX4_clear_18 (by decide) ?_
  refine lv_iconst (v := (2 : Int32)) hx hb dX4_clear_19 (by decide) ?_
  obtain ⟨r_8, σ_9, hc_10, hf⟩ := z_b_e hf
  refine go_i hR (mv_run (As := [.int (1 : Int32), .int (2 : Int32)]) (rest := []) X hR mv_4_32 ho (by omega) (c4_put_g l G N hF hn ho hc_10) ⟨rfl, rfl, Nat.le_of_ble_eq_true rfl, Nat.le_of_ble_eq_true rfl⟩ rfl hl.1 rfl (Nat.le_of_ble_eq_true rfl) dX4_clear_20 ⟨Nat.zero_le _, Nat.zero_le _⟩) (fun H locs hR => ?_)
  refine lv_pop hx hb dX4_clear_23 rfl ?_
  refine lv_aload_n hx hb dX4_clear_24 rfl (lv_at hl 0 rfl) ?_
  refine lv_bipush (v := (7 : Int32)) hx hb dX4_clear_25 (by decide) ?_
  refine lv_iconst (v := (0 : Int32)) hx hb dX4_clear_27 (by decide) ?_
  obtain ⟨r_11, σ_12, hc_13, hf⟩ := z_b_e hf
  refine go_i hR (mv_run (As := [.int (7 : Int32), .int (0 : Int32)]) (rest := []) X hR mv_4_32 ho (by omega) (c4_put_g l G N hF hn ho hc_13) ⟨rfl, rfl, Nat.le_of_ble_eq_true rfl, Nat.le_of_ble_eq_true rfl⟩ rfl hl.1 rfl (Nat.le_of_ble_eq_true rfl) dX4_clear_28 ⟨Nat.zero_le _, Nat.zero_le _⟩) (fun H locs hR => ?_)
  refine lv_pop hx hb dX4_clear_31 rfl ?_
  refine lv_aload_n hx hb dX4_clear_32 rfl (lv_at hl 0 rfl) ?_
  refine lv_iconst (v := (3 : Int32)) hx hb dX4_clear_33 (by decide) ?_
  refine lv_iconst (v := (0 : Int32)) hx hb dX4_clear_34 (by decide) ?_
  obtain ⟨r_14, σ_15, hc_16, hf⟩ := z_b_e hf
  refine go_i hR (mv_run (As := [.int (3 : Int32), .int (0 : Int32)]) (rest := []) X hR mv_4_32 ho (by omega) (c4_put_g l G N hF hn ho hc_16) ⟨rfl, rfl, Nat.le_of_ble_eq_true rfl, Nat.le_of_ble_eq_true rfl⟩ rfl hl.1 rfl (Nat.le_of_ble_eq_true rfl) dX4_clear_35 ⟨Nat.zero_le _, Nat.zero_le _⟩) (fun H locs hR => ?_)
  refine lv_pop hx hb dX4_clear_38 rfl ?_
  refine lv_aload_n hx hb dX4_clear_39 rfl (lv_at hl 0 rfl) ?_
  refine lv_iconst (v := (1 : Int32)) hx hb dX4_clear_40 (by decide) ?_
  obtain ⟨r_17, σ_18, hc_19, hf⟩ := z_b_e hf
  refine go_v hR (mv_run (As := [.int (1 : Int32)]) (rest := []) X hR mv_4_28 ho (by omega) (c4_begin_g l G N hF hn ho hc_19) ⟨rfl, rfl, Nat.le_of_ble_eq_true rfl, Nat.le_of_ble_eq_true rfl⟩ rfl hl.1 rfl (Nat.le_of_ble_eq_true rfl) dX4_clear_41 ⟨Nat.zero_le _, Nat.zero_le _⟩) (fun H locs hR => ?_)
  refine lv_aload_n hx hb dX4_clear_44 rfl (lv_at hl 0 rfl) ?_
  refine lv_iconst (v := (0 : Int32)) hx hb dX4_clear_45 (by decide) ?_
  refine lv_iconst (v := (0 : Int32)) hx hb dX4_clear_46 (by decide) ?_
  obtain ⟨r_20, σ_21, hc_22, hf⟩ := z_b_e hf
  refine go_i hR (mv_run (As := [.int (0 : Int32), .int (0 : Int32)]) (rest := []) X hR mv_4_32 ho (by omega) (c4_put_g l G N hF hn ho hc_22) ⟨rfl, rfl, Nat.le_of_ble_eq_true rfl, Nat.le_of_ble_eq_true rfl⟩ rfl hl.1 rfl (Nat.le_of_ble_eq_true rfl) dX4_clear_47 ⟨Nat.zero_le _, Nat.zero_le _⟩) (fun H locs hR => ?_)
  refine lv_pop hx hb dX4_clear_50 rfl ?_
  refine lv_aload_n hx hb dX4_clear_51 rfl (lv_at hl 0 rfl) ?_
  refine lv_iconst (v := (3 : Int32)) hx hb dX4_clear_52 (by decide) ?_
  refine lv_iconst (v := (0 : Int32)) hx hb dX4_clear_53 (by decide) ?_
  obtain ⟨r_23, σ_24, hc_25, hf⟩ := z_b_e hf
  refine go_i hR (mv_run (As := [.int (3 : Int32), .int (0 : Int32)]) (rest := []) X hR mv_4_32 ho (by omega) (c4_put_g l G N hF hn ho hc_25) ⟨rfl, rfl, Nat.le_of_ble_eq_true rfl, Nat.le_of_ble_eq_true rfl⟩ rfl hl.1 rfl (Nat.le_of_ble_eq_true rfl) dX4_clear_54 ⟨Nat.zero_le _, Nat.zero_le _⟩) (fun H locs hR => ?_)
  refine lv_pop hx hb dX4_clear_57 rfl ?_
  refine lv_aload_n hx hb dX4_clear_58 rfl (lv_at hl 0 rfl) ?_
  refine lv_iconst (v := (2 : Int32)) hx hb dX4_clear_59 (by decide) ?_
  obtain ⟨r_26, σ_27, hc_28, hf⟩ := z_b_e hf
  refine go_v hR (mv_run (As := [.int (2 : Int32)]) (rest := []) X hR mv_4_28 ho (by omega) (c4_begin_g l G N hF hn ho hc_28) ⟨rfl, rfl, Nat.le_of_ble_eq_true rfl, Nat.le_of_ble_eq_true rfl⟩ rfl hl.1 rfl (Nat.le_of_ble_eq_true rfl) dX4_clear_60 ⟨Nat.zero_le _, Nat.zero_le _⟩) (fun H locs hR => ?_)
  refine lv_aload_n hx hb dX4_clear_63 rfl (lv_at hl 0 rfl) ?_
  refine lv_iconst (v := (1 : Int32)) hx hb dX4_clear_64 (by decide) ?_
  refine lv_bipush (v := (6 : Int32)) hx hb dX4_clear_65 (by decide) ?_
  obtain ⟨r_29, σ_30, hc_31, hf⟩ := z_b_e hf
  refine go_i hR (mv_run (As := [.int (1 : Int32), .int (6 : Int32)]) (rest := []) X hR mv_4_32 ho (by omega) (c4_put_g l G N hF hn ho hc_31) ⟨rfl, rfl, Nat.le_of_ble_eq_true rfl, Nat.le_of_ble_eq_true rfl⟩ rfl hl.1 rfl (Nat.le_of_ble_eq_true rfl) dX4_clear_67 ⟨Nat.zero_le _, Nat.zero_le _⟩) (fun H locs hR => ?_)
  refine lv_pop hx hb dX4_clear_70 rfl ?_
  refine lv_aload_n hx hb dX4_clear_71 rfl (lv_at hl 0 rfl) ?_
  refine lv_iconst (v := (3 : Int32)) hx hb dX4_clear_72 (by decide) ?_
  refine lv_iconst (v := (0 : Int32)) hx hb dX4_clear_73 (by decide) ?_
  obtain ⟨r_32, σ_33, hc_34, hf⟩ := z_b_e hf
  refine go_i hR (mv_run (As := [.int (3 : Int32), .int (0 : Int32)]) (rest := []) X hR mv_4_32 ho (by omega) (c4_put_g l G N hF hn ho hc_34) ⟨rfl, rfl, Nat.le_of_ble_eq_true rfl, Nat.le_of_ble_eq_true rfl⟩ rfl hl.1 rfl (Nat.le_of_ble_eq_true rfl) dX4_clear_74 ⟨Nat.zero_le _, Nat.zero_le _⟩) (fun H locs hR => ?_)
  refine lv_pop hx hb dX4_clear_77 rfl ?_
  refine lv_aload_n hx hb dX4_clear_78 rfl (lv_at hl 0 rfl) ?_
  refine lv_iconst (v := (3 : Int32)) hx hb dX4_clear_79 (by decide) ?_
  obtain ⟨r_35, σ_36, hc_37, hf⟩ := z_b_e hf
  refine go_v hR (mv_run (As := [.int (3 : Int32)]) (rest := []) X hR mv_4_28 ho (by omega) (c4_begin_g l G N hF hn ho hc_37) ⟨rfl, rfl, Nat.le_of_ble_eq_true rfl, Nat.le_of_ble_eq_true rfl⟩ rfl hl.1 rfl (Nat.le_of_ble_eq_true rfl) dX4_clear_80 ⟨Nat.zero_le _, Nat.zero_le _⟩) (fun H locs hR => ?_)
  refine lv_aload_n hx hb dX4_clear_83 rfl (lv_at hl 0 rfl) ?_
  refine lv_iconst (v := (0 : Int32)) hx hb dX4_clear_84 (by decide) ?_
  refine lv_iconst (v := (1 : Int32)) hx hb dX4_clear_85 (by decide) ?_
  obtain ⟨r_38, σ_39, hc_40, hf⟩ := z_b_e hf
  refine go_i hR (mv_run (As := [.int (0 : Int32), .int (1 : Int32)]) (rest := []) X hR mv_4_32 ho (by omega) (c4_put_g l G N hF hn ho hc_40) ⟨rfl, rfl, Nat.le_of_ble_eq_true rfl, Nat.le_of_ble_eq_true rfl⟩ rfl hl.1 rfl (Nat.le_of_ble_eq_true rfl) dX4_clear_86 ⟨Nat.zero_le _, Nat.zero_le _⟩) (fun H locs hR => ?_)
  refine lv_pop hx hb dX4_clear_89 rfl ?_
  refine lv_aload_n hx hb dX4_clear_90 rfl (lv_at hl 0 rfl) ?_
  refine lv_iconst (v := (3 : Int32)) hx hb dX4_clear_91 (by decide) ?_
  refine lv_iconst (v := (0 : Int32)) hx hb dX4_clear_92 (by decide) ?_
  obtain ⟨r_41, σ_42, hc_43, hf⟩ := z_b_e hf
  refine go_i hR (mv_run (As := [.int (3 : Int32), .int (0 : Int32)]) (rest := []) X hR mv_4_32 ho (by omega) (c4_put_g l G N hF hn ho hc_43) ⟨rfl, rfl, Nat.le_of_ble_eq_true rfl, Nat.le_of_ble_eq_true rfl⟩ rfl hl.1 rfl (Nat.le_of_ble_eq_true rfl) dX4_clear_93 ⟨Nat.zero_le _, Nat.zero_le _⟩) (fun H locs hR => ?_)
  refine lv_pop hx hb dX4_clear_96 rfl ?_
  exact e_v X hR hr hlk hf dX4_clear_97
set_option maxHeartbeats 4000000 in
set_option maxRecDepth 100000 in
theorem c9_withLetter_g (l : Launch) (G : Gp) (N : Nat) {n : Nat} {F : Nat → Bool} {x0 : Int64} {x2 : Int32} {σ σ0 : Mm} {l0 : Int64} (hf : f9_withLetter N x0 x2 σ = some (l0, σ0)) : Met l yX9_withLetter (WS yX9_withLetter cX9_withLetter 3 (some .long)) rm9_withLetter (va_Pc [.long x0, .int x2] (Pd G n F σ)) (P_l G n F l0 σ0) 0 0 (Fr G) := by
  refine ct [(0, .long x0), (2, .int x2)] rfl (by decide) (Nat.le_of_ble_eq_true rfl) ?_
  intro p e s m below meth c ls X hr hlk hR hl
  have X : Cx p s m _ c cX9_withLetter 3 RX9 G := X
  have hx := X.1
  have hb := X.2.1
  unfold f9_withLetter at hf
  refine lv_lload_n hx hb dX9_withLetter_0 rfl (lv_at hl 0 rfl) ?_
  refine lv_ldc2 hx hb X.2.2.2.1 (X.2.2.2.2.1 _ col_9_44) dX9_withLetter_1 ?_
  refine lv_lmul hx hb dX9_withLetter_4 ?_
  refine lv_iload_n hx hb dX9_withLetter_5 rfl (lv_at hl 1 rfl) ?_
  refine lv_bipush (v := (97 : Int32)) hx hb dX9_withLetter_6 (by decide) ?_
  refine lv_isub hx hb dX9_withLetter_8 ?_
  refine lv_iconst (v := (1 : Int32)) hx hb dX9_withLetter_9 (by decide) ?_
  refine lv_iadd hx hb dX9_withLetter_10 ?_
  refine lv_i2l (v := ((((x2 - (97 : Int32)) + (1 : Int32))).toInt64)) hx hb dX9_withLetter_11 rfl ?_
  refine lv_ladd hx hb dX9_withLetter_12 ?_
  exact e_l X hR hr hlk hf dX9_withLetter_13
abbrev rm1_init : Room := { frames := 1, cells := 5, slots := 100, locals := 20 }
def f1_init (N : Nat) (o : Nat) (σ : Mm) : Option (Unit × Mm) :=
  z_l (clr σ (o + 1)) fun σ_1 =>
  z_l (sR σ_1 o 0 (some (o + 1))) fun σ_2 =>
  z_l (clr σ_2 (o + 2)) fun σ_3 =>
  z_l (sR σ_3 o 1 (some (o + 2))) fun σ_4 =>
  z_l (clr σ_4 (o + 3)) fun σ_5 =>
  z_l (sR σ_5 o 2 (some (o + 3))) fun σ_6 =>
  z_l (clr σ_6 (o + 4)) fun σ_7 =>
  z_l (sR σ_7 o 3 (some (o + 4))) fun σ_8 =>
  z_l (clr σ_8 (o + 5)) fun σ_9 =>
  z_l (sR σ_9 o 4 (some (o + 5))) fun σ_10 =>
  some ((), σ_10)
set_option maxHeartbeats 8000000 in
set_option maxRecDepth 100000 in
theorem c1_init (l : Launch) (G : Gp) (N : Nat) {o : Nat} (ho : (kd o).1 = 1) {σ σ0 : Mm} {u0 : Unit} (hf : f1_init N o σ = some (u0, σ0)) : Met l yX1_init (WS yX1_init cX1_init 1 none) rm1_init (va_Pc [.ref (G.2.2 + o)] (Pd G (o + 1) ff σ)) (P_v G (o + 6) ff u0 σ0) 5 100 (Fr G) := by
  refine ct2 [(0, .ref (G.2.2 + o))] rfl (by decide) (Nat.le_of_ble_eq_true rfl) ?_
  intro p e s m below meth c ls X hr hlk hin hR hl
  have X : Cx p s m _ c cX1_init 1 RX1 G := X
  have hx := X.1
  have hb := X.2.1
  have hin : meth.name = "<init>" := hin
  unfold f1_init at hf
  refine lv_aload_n hx hb dX1_init_0 rfl (lv_at hl 0 rfl) ?_
  refine W.objInit hx hb X.2.2.2.1 (X.2.2.2.2.1 _ ol_1) (X.2.2.2.2.1 _ oi_inst) (X.2.2.2.2.1 _ oi_code) rfl (hl.1.trans X.2.2.1.symm) rfl dX1_init_1 (Nat.le_of_ble_eq_true rfl) (Nat.le_of_ble_eq_true rfl) ?_
  refine W.eq (g2 := F0 m 4 ls []) rfl ?_
  refine lv_aload_n hx hb dX1_init_4 rfl (lv_at hl 0 rfl) ?_
  refine lv_bipush (v := (20 : Int32)) hx hb dX1_init_5 (by decide) ?_
  refine q_newi X hR (kd_ltA (kx_1_0 ho) (by decide)) rfl (kx_1_0 ho) (by decide) (by decide) (by decide) (Nat.le_of_ble_eq_true rfl) (Nat.le_of_ble_eq_true rfl) dX1_init_7 (fun H σ_1 eσ_1 hR => ?_)
  replace hf := z_l_e eσ_1 hf
  have hR : Rp G (o + 2) ff σ_1 s H _ := hR
  refine W.widen (k := 1) (n := 20) (Nat.le_of_ble_eq_true rfl) (Nat.le_of_ble_eq_true rfl) ?_
  refine q_pf X hR hin cf_1_9 ho (by omega) rfl rfl rfl dX1_init_9 (fun H locs σ_2 eσ_2 hR => ?_)
  replace hf := z_l_e eσ_2 hf
  refine lv_aload_n hx hb dX1_init_12 rfl (lv_at hl 0 rfl) ?_
  refine lv_bipush (v := (20 : Int32)) hx hb dX1_init_13 (by decide) ?_
  refine q_newi X hR (kd_ltA (kx_1_1 ho) (by decide)) rfl (kx_1_1 ho) (by decide) (by decide) (by decide) (Nat.le_of_ble_eq_true rfl) (Nat.le_of_ble_eq_true rfl) dX1_init_15 (fun H σ_3 eσ_3 hR => ?_)
  replace hf := z_l_e eσ_3 hf
  have hR : Rp G (o + 3) ff σ_3 s H _ := hR
  refine W.widen (k := 2) (n := 40) (Nat.le_of_ble_eq_true rfl) (Nat.le_of_ble_eq_true rfl) ?_
  refine q_pf X hR hin cf_1_15 ho (by omega) rfl rfl rfl dX1_init_17 (fun H locs σ_4 eσ_4 hR => ?_)
  replace hf := z_l_e eσ_4 hf
  refine lv_aload_n hx hb dX1_init_20 rfl (lv_at hl 0 rfl) ?_
  refine lv_bipush (v := (20 : Int32)) hx hb dX1_init_21 (by decide) ?_
  refine q_newi X hR (kd_ltA (kx_1_2 ho) (by decide)) rfl (kx_1_2 ho) (by decide) (by decide) (by decide) (Nat.le_of_ble_eq_true rfl) (Nat.le_of_ble_eq_true rfl) dX1_init_23 (fun H σ_5 eσ_5 hR => ?_)
  replace hf := z_l_e eσ_5 hf
  have hR : Rp G (o + 4) ff σ_5 s H _ := hR
  refine W.widen (k := 3) (n := 60) (Nat.le_of_ble_eq_true rfl) (Nat.le_of_ble_eq_true rfl) ?_
  refine q_pf X hR hin cf_1_18 ho (by omega) rfl rfl rfl dX1_init_25 (fun H locs σ_6 eσ_6 hR => ?_)
  replace hf := z_l_e eσ_6 hf
  refine lv_aload_n hx hb dX1_init_28 rfl (lv_at hl 0 rfl) ?_
  refine lv_bipush (v := (20 : Int32)) hx hb dX1_init_29 (by decide) ?_
  refine q_newi X hR (kd_ltA (kx_1_3 ho) (by decide)) rfl (kx_1_3 ho) (by decide) (by decide) (by decide) (Nat.le_of_ble_eq_true rfl) (Nat.le_of_ble_eq_true rfl) dX1_init_31 (fun H σ_7 eσ_7 hR => ?_)
  replace hf := z_l_e eσ_7 hf
  have hR : Rp G (o + 5) ff σ_7 s H _ := hR
  refine W.widen (k := 4) (n := 80) (Nat.le_of_ble_eq_true rfl) (Nat.le_of_ble_eq_true rfl) ?_
  refine q_pf X hR hin cf_1_21 ho (by omega) rfl rfl rfl dX1_init_33 (fun H locs σ_8 eσ_8 hR => ?_)
  replace hf := z_l_e eσ_8 hf
  refine lv_aload_n hx hb dX1_init_36 rfl (lv_at hl 0 rfl) ?_
  refine lv_bipush (v := (20 : Int32)) hx hb dX1_init_37 (by decide) ?_
  refine q_newi X hR (kd_ltA (kx_1_4 ho) (by decide)) rfl (kx_1_4 ho) (by decide) (by decide) (by decide) (Nat.le_of_ble_eq_true rfl) (Nat.le_of_ble_eq_true rfl) dX1_init_39 (fun H σ_9 eσ_9 hR => ?_)
  replace hf := z_l_e eσ_9 hf
  have hR : Rp G (o + 6) ff σ_9 s H _ := hR
  refine W.widen (k := 5) (n := 100) (Nat.le_of_ble_eq_true rfl) (Nat.le_of_ble_eq_true rfl) ?_
  refine q_pf X hR hin cf_1_24 ho (by omega) rfl rfl rfl dX1_init_41 (fun H locs σ_10 eσ_10 hR => ?_)
  replace hf := z_l_e eσ_10 hf
  exact e_v X hR hr hlk hf dX1_init_44
abbrev rm4_init : Room := { frames := 1, cells := 4, slots := 864, locals := 20 }
def f4_init (N : Nat) (o : Nat) (σ : Mm) : Option (Unit × Mm) :=
  z_l (clr σ (o + 1)) fun σ_1 =>
  z_l (sR σ_1 o 0 (some (o + 1))) fun σ_2 =>
  z_l (clr σ_2 (o + 2)) fun σ_3 =>
  z_l (sR σ_3 o 1 (some (o + 2))) fun σ_4 =>
  z_l (sI σ_4 o 2 (0 : Int32)) fun σ_5 =>
  z_l (clr σ_5 (o + 3)) fun σ_6 =>
  z_l (sR σ_6 o 3 (some (o + 3))) fun σ_7 =>
  z_l (clr σ_7 (o + 4)) fun σ_8 =>
  z_l (sR σ_8 o 4 (some (o + 4))) fun σ_9 =>
  some ((), σ_9)
set_option maxHeartbeats 8000000 in
set_option maxRecDepth 100000 in
theorem c4_init (l : Launch) (G : Gp) (N : Nat) {o : Nat} (ho : (kd o).1 = 4) {σ σ0 : Mm} {u0 : Unit} (hf : f4_init N o σ = some (u0, σ0)) : Met l yX4_init (WS yX4_init cX4_init 1 none) rm4_init (va_Pc [.ref (G.2.2 + o)] (Pd G (o + 1) ff σ)) (P_v G (o + 5) ff u0 σ0) 4 864 (Fr G) := by
  refine ct2 [(0, .ref (G.2.2 + o))] rfl (by decide) (Nat.le_of_ble_eq_true rfl) ?_
  intro p e s m below meth c ls X hr hlk hin hR hl
  have X : Cx p s m _ c cX4_init 1 RX4 G := X
  have hx := X.1
  have hb := X.2.1
  have hin : meth.name = "<init>" := hin
  unfold f4_init at hf
  refine lv_aload_n hx hb dX4_init_0 rfl (lv_at hl 0 rfl) ?_
  refine W.objInit hx hb X.2.2.2.1 (X.2.2.2.2.1 _ ol_4) (X.2.2.2.2.1 _ oi_inst) (X.2.2.2.2.1 _ oi_code) rfl (hl.1.trans X.2.2.1.symm) rfl dX4_init_1 (Nat.le_of_ble_eq_true rfl) (Nat.le_of_ble_eq_true rfl) ?_
  refine W.eq (g2 := F0 m 4 ls []) rfl ?_
  refine lv_aload_n hx hb dX4_init_4 rfl (lv_at hl 0 rfl) ?_
  refine lv_sipush (v := (416 : Int32)) hx hb dX4_init_5 (by decide) ?_
  refine q_newi X hR (kd_ltA (kx_4_0 ho) (by decide)) rfl (kx_4_0 ho) (by decide) (by decide) (by decide) (Nat.le_of_ble_eq_true rfl) (Nat.le_of_ble_eq_true rfl) dX4_init_8 (fun H σ_1 eσ_1 hR => ?_)
  replace hf := z_l_e eσ_1 hf
  have hR : Rp G (o + 2) ff σ_1 s H _ := hR
  refine W.widen (k := 1) (n := 416) (Nat.le_of_ble_eq_true rfl) (Nat.le_of_ble_eq_true rfl) ?_
  refine q_pf X hR hin cf_4_9 ho (by omega) rfl rfl rfl dX4_init_10 (fun H locs σ_2 eσ_2 hR => ?_)
  replace hf := z_l_e eσ_2 hf
  refine lv_aload_n hx hb dX4_init_13 rfl (lv_at hl 0 rfl) ?_
  refine lv_sipush (v := (416 : Int32)) hx hb dX4_init_14 (by decide) ?_
  refine q_newi X hR (kd_ltA (kx_4_1 ho) (by decide)) rfl (kx_4_1 ho) (by decide) (by decide) (by decide) (Nat.le_of_ble_eq_true rfl) (Nat.le_of_ble_eq_true rfl) dX4_init_17 (fun H σ_3 eσ_3 hR => ?_)
  replace hf := z_l_e eσ_3 hf
  have hR : Rp G (o + 3) ff σ_3 s H _ := hR
  refine W.widen (k := 2) (n := 832) (Nat.le_of_ble_eq_true rfl) (Nat.le_of_ble_eq_true rfl) ?_
  refine q_pf X hR hin cf_4_15 ho (by omega) rfl rfl rfl dX4_init_19 (fun H locs σ_4 eσ_4 hR => ?_)
  replace hf := z_l_e eσ_4 hf
  refine lv_aload_n hx hb dX4_init_22 rfl (lv_at hl 0 rfl) ?_
  refine lv_iconst (v := (0 : Int32)) hx hb dX4_init_23 (by decide) ?_
  refine q_pi X hR ci_4_18.1 ci_4_18.2 ho (by omega) dX4_init_24 (fun H locs σ_5 eσ_5 hR => ?_)
  replace hf := z_l_e eσ_5 hf
  refine lv_aload_n hx hb dX4_init_27 rfl (lv_at hl 0 rfl) ?_
  refine lv_iconst (v := (4 : Int32)) hx hb dX4_init_28 (by decide) ?_
  refine q_newi X hR (kd_ltA (kx_4_3 ho) (by decide)) rfl (kx_4_3 ho) (by decide) (by decide) (by decide) (Nat.le_of_ble_eq_true rfl) (Nat.le_of_ble_eq_true rfl) dX4_init_29 (fun H σ_6 eσ_6 hR => ?_)
  replace hf := z_l_e eσ_6 hf
  have hR : Rp G (o + 4) ff σ_6 s H _ := hR
  refine W.widen (k := 3) (n := 836) (Nat.le_of_ble_eq_true rfl) (Nat.le_of_ble_eq_true rfl) ?_
  refine q_pf X hR hin cf_4_22 ho (by omega) rfl rfl rfl dX4_init_31 (fun H locs σ_7 eσ_7 hR => ?_)
  replace hf := z_l_e eσ_7 hf
  refine lv_aload_n hx hb dX4_init_34 rfl (lv_at hl 0 rfl) ?_
  refine lv_bipush (v := (28 : Int32)) hx hb dX4_init_35 (by decide) ?_
  refine q_newi X hR (kd_ltA (kx_4_4 ho) (by decide)) rfl (kx_4_4 ho) (by decide) (by decide) (by decide) (Nat.le_of_ble_eq_true rfl) (Nat.le_of_ble_eq_true rfl) dX4_init_37 (fun H σ_8 eσ_8 hR => ?_)
  replace hf := z_l_e eσ_8 hf
  have hR : Rp G (o + 5) ff σ_8 s H _ := hR
  refine W.widen (k := 4) (n := 864) (Nat.le_of_ble_eq_true rfl) (Nat.le_of_ble_eq_true rfl) ?_
  refine q_pf X hR hin cf_4_25 ho (by omega) rfl rfl rfl dX4_init_39 (fun H locs σ_9 eσ_9 hR => ?_)
  replace hf := z_l_e eσ_9 hf
  exact e_v X hR hr hlk hf dX4_init_42
abbrev rm5_init : Room := { frames := 1, cells := 1, slots := 7, locals := 20 }
def f5_init (N : Nat) (o : Nat) (σ : Mm) : Option (Unit × Mm) :=
  z_l (sI σ o 0 (0 : Int32)) fun σ_1 =>
  z_l (sI σ_1 o 1 (0 : Int32)) fun σ_2 =>
  z_l (sI σ_2 o 2 (0 : Int32)) fun σ_3 =>
  z_l (sI σ_3 o 3 (0 : Int32)) fun σ_4 =>
  z_l (clr σ_4 (o + 1)) fun σ_5 =>
  z_l (sR σ_5 o 4 (some (o + 1))) fun σ_6 =>
  some ((), σ_6)
set_option maxHeartbeats 8000000 in
set_option maxRecDepth 100000 in
theorem c5_init (l : Launch) (G : Gp) (N : Nat) {o : Nat} (ho : (kd o).1 = 5) {σ σ0 : Mm} {u0 : Unit} (hf : f5_init N o σ = some (u0, σ0)) : Met l yX5_init (WS yX5_init cX5_init 1 none) rm5_init (va_Pc [.ref (G.2.2 + o)] (Pd G (o + 1) ff σ)) (P_v G (o + 2) ff u0 σ0) 1 7 (Fr G) := by
  refine ct2 [(0, .ref (G.2.2 + o))] rfl (by decide) (Nat.le_of_ble_eq_true rfl) ?_
  intro p e s m below meth c ls X hr hlk hin hR hl
  have X : Cx p s m _ c cX5_init 1 RX5 G := X
  have hx := X.1
  have hb := X.2.1
  have hin : meth.name = "<init>" := hin
  unfold f5_init at hf
  refine lv_aload_n hx hb dX5_init_0 rfl (lv_at hl 0 rfl) ?_
  refine W.objInit hx hb X.2.2.2.1 (X.2.2.2.2.1 _ ol_5) (X.2.2.2.2.1 _ oi_inst) (X.2.2.2.2.1 _ oi_code) rfl (hl.1.trans X.2.2.1.symm) rfl dX5_init_1 (Nat.le_of_ble_eq_true rfl) (Nat.le_of_ble_eq_true rfl) ?_
  refine W.eq (g2 := F0 m 4 ls []) rfl ?_
  refine lv_aload_n hx hb dX5_init_4 rfl (lv_at hl 0 rfl) ?_
  refine lv_iconst (v := (0 : Int32)) hx hb dX5_init_5 (by decide) ?_
  refine q_pi X hR ci_5_9.1 ci_5_9.2 ho (by omega) dX5_init_6 (fun H locs σ_1 eσ_1 hR => ?_)
  replace hf := z_l_e eσ_1 hf
  refine lv_aload_n hx hb dX5_init_9 rfl (lv_at hl 0 rfl) ?_
  refine lv_iconst (v := (0 : Int32)) hx hb dX5_init_10 (by decide) ?_
  refine q_pi X hR ci_5_15.1 ci_5_15.2 ho (by omega) dX5_init_11 (fun H locs σ_2 eσ_2 hR => ?_)
  replace hf := z_l_e eσ_2 hf
  refine lv_aload_n hx hb dX5_init_14 rfl (lv_at hl 0 rfl) ?_
  refine lv_iconst (v := (0 : Int32)) hx hb dX5_init_15 (by decide) ?_
  refine q_pi X hR ci_5_18.1 ci_5_18.2 ho (by omega) dX5_init_16 (fun H locs σ_3 eσ_3 hR => ?_)
  replace hf := z_l_e eσ_3 hf
  refine lv_aload_n hx hb dX5_init_19 rfl (lv_at hl 0 rfl) ?_
  refine lv_iconst (v := (0 : Int32)) hx hb dX5_init_20 (by decide) ?_
  refine q_pi X hR ci_5_21.1 ci_5_21.2 ho (by omega) dX5_init_21 (fun H locs σ_4 eσ_4 hR => ?_)
  replace hf := z_l_e eσ_4 hf
  refine lv_aload_n hx hb dX5_init_24 rfl (lv_at hl 0 rfl) ?_
  refine lv_bipush (v := (7 : Int32)) hx hb dX5_init_25 (by decide) ?_
  refine q_newi X hR (kd_ltA (kx_5_4 ho) (by decide)) rfl (kx_5_4 ho) (by decide) (by decide) (by decide) (Nat.le_of_ble_eq_true rfl) (Nat.le_of_ble_eq_true rfl) dX5_init_27 (fun H σ_5 eσ_5 hR => ?_)
  replace hf := z_l_e eσ_5 hf
  have hR : Rp G (o + 2) ff σ_5 s H _ := hR
  refine W.widen (k := 1) (n := 7) (Nat.le_of_ble_eq_true rfl) (Nat.le_of_ble_eq_true rfl) ?_
  refine q_pf X hR hin cf_5_24 ho (by omega) rfl rfl rfl dX5_init_29 (fun H locs σ_6 eσ_6 hR => ?_)
  replace hf := z_l_e eσ_6 hf
  exact e_v X hR hr hlk hf dX5_init_32
abbrev rm3_init : Room := { frames := 2, cells := 19, slots := 1069, locals := 43 }
def f3_init (N : Nat) (o : Nat) (σ : Mm) : Option (Unit × Mm) :=
  z_l (sI σ o 0 (0 : Int32)) fun σ_1 =>
  z_l (sI σ_1 o 1 (0 : Int32)) fun σ_2 =>
  z_l (sI σ_2 o 2 (0 : Int32)) fun σ_3 =>
  z_l (sI σ_3 o 3 (0 : Int32)) fun σ_4 =>
  z_l (sI σ_4 o 4 (1 : Int32)) fun σ_5 =>
  z_l (sI σ_5 o 5 (0 : Int32)) fun σ_6 =>
  z_l (clr σ_6 (o + 1)) fun σ_7 =>
  z_l (sR σ_7 o 6 (some (o + 1))) fun σ_8 =>
  z_l (clr σ_8 (o + 2)) fun σ_9 =>
  z_l (sR σ_9 o 7 (some (o + 2))) fun σ_10 =>
  z_l (clr σ_10 (o + 3)) fun σ_11 =>
  z_l (sR σ_11 o 8 (some (o + 3))) fun σ_12 =>
  z_l (clr σ_12 (o + 4)) fun σ_13 =>
  z_l (sR σ_13 o 9 (some (o + 4))) fun σ_14 =>
  z_l (clr σ_14 (o + 5)) fun σ_15 =>
  z_l (sR σ_15 o 10 (some (o + 5))) fun σ_16 =>
  z_l (clr σ_16 (o + 6)) fun σ_17 =>
  z_b (f1_init N (o + 6) σ_17) fun _ σ_19 =>
  z_l (sR σ_19 o 11 (some (o + 6))) fun σ_21 =>
  z_l (clr σ_21 (o + 12)) fun σ_22 =>
  z_b (f4_init N (o + 12) σ_22) fun _ σ_24 =>
  z_l (sR σ_24 o 12 (some (o + 12))) fun σ_26 =>
  z_l (clr σ_26 (o + 17)) fun σ_27 =>
  z_l (sR σ_27 o 13 (some (o + 17))) fun σ_28 =>
  z_l (clr σ_28 (o + 18)) fun σ_29 =>
  z_l (sR σ_29 o 14 (some (o + 18))) fun σ_30 =>
  z_l (clr σ_30 (o + 19)) fun σ_31 =>
  z_l (sR σ_31 o 15 (some (o + 19))) fun σ_32 =>
  z_l (sI σ_32 o 16 (0 : Int32)) fun σ_33 =>
  z_k (gR σ_33 o 12) (4, 0) (o + 20) fun t_34 =>
  z_c (rfO σ_33 t_34 && decide (t_34 + 4 < (o + 20))) (z_b (f4_clear N t_34 σ_33) fun _ σ_37 =>
  some ((), σ_37))
set_option maxHeartbeats 8000000 in
set_option maxRecDepth 100000 in
theorem c3_init (l : Launch) (G : Gp) (N : Nat) {o : Nat} (ho : (kd o).1 = 3) {σ σ0 : Mm} {u0 : Unit} (hf : f3_init N o σ = some (u0, σ0)) : Met l yX3_init (WS yX3_init cX3_init 1 none) rm3_init (va_Pc [.ref (G.2.2 + o)] (Pd G (o + 1) ff σ)) (P_v G (o + 20) ff u0 σ0) 19 1069 (Fr G) := by
  refine ct2 [(0, .ref (G.2.2 + o))] rfl (by decide) (Nat.le_of_ble_eq_true rfl) ?_
  intro p e s m below meth c ls X hr hlk hin hR hl
  have X : Cx p s m _ c cX3_init 1 RX3 G := X
  have hx := X.1
  have hb := X.2.1
  have hin : meth.name = "<init>" := hin
  unfold f3_init at hf
  refine lv_aload_n hx hb dX3_init_0 rfl (lv_at hl 0 rfl) ?_
  refine W.objInit hx hb X.2.2.2.1 (X.2.2.2.2.1 _ ol_3) (X.2.2.2.2.1 _ oi_inst) (X.2.2.2.2.1 _ oi_code) rfl (hl.1.trans X.2.2.1.symm) rfl dX3_init_1 (Nat.le_of_ble_eq_true rfl) (Nat.le_of_ble_eq_true rfl) ?_
  refine W.eq (g2 := F0 m 4 ls []) rfl ?_
  refine lv_aload_n hx hb dX3_init_4 rfl (lv_at hl 0 rfl) ?_
  refine lv_iconst (v := (0 : Int32)) hx hb dX3_init_5 (by decide) ?_
  refine q_pi X hR ci_3_9.1 ci_3_9.2 ho (by omega) dX3_init_6 (fun H locs σ_1 eσ_1 hR => ?_)
  replace hf := z_l_e eσ_1 hf
  refine lv_aload_n hx hb dX3_init_9 rfl (lv_at hl 0 rfl) ?_
  refine lv_iconst (v := (0 : Int32)) hx hb dX3_init_10 (by decide) ?_
  refine q_pi X hR ci_3_15.1 ci_3_15.2 ho (by omega) dX3_init_11 (fun H locs σ_2 eσ_2 hR => ?_)
  replace hf := z_l_e eσ_2 hf
  refine lv_aload_n hx hb dX3_init_14 rfl (lv_at hl 0 rfl) ?_
  refine lv_iconst (v := (0 : Int32)) hx hb dX3_init_15 (by decide) ?_
  refine q_pi X hR ci_3_18.1 ci_3_18.2 ho (by omega) dX3_init_16 (fun H locs σ_3 eσ_3 hR => ?_)
  replace hf := z_l_e eσ_3 hf
  refine lv_aload_n hx hb dX3_init_19 rfl (lv_at hl 0 rfl) ?_
  refine lv_iconst (v := (0 : Int32)) hx hb dX3_init_20 (by decide) ?_
  refine q_pi X hR ci_3_21.1 ci_3_21.2 ho (by omega) dX3_init_21 (fun H locs σ_4 eσ_4 hR => ?_)
  replace hf := z_l_e eσ_4 hf
  refine lv_aload_n hx hb dX3_init_24 rfl (lv_at hl 0 rfl) ?_
  refine lv_iconst (v := (1 : Int32)) hx hb dX3_init_25 (by decide) ?_
  refine q_pi X hR ci_3_24.1 ci_3_24.2 ho (by omega) dX3_init_26 (fun H locs σ_5 eσ_5 hR => ?_)
  replace hf := z_l_e eσ_5 hf
  refine lv_aload_n hx hb dX3_init_29 rfl (lv_at hl 0 rfl) ?_
  refine lv_iconst (v := (0 : Int32)) hx hb dX3_init_30 (by decide) ?_
  refine q_pi X hR ci_3_27.1 ci_3_27.2 ho (by omega) dX3_init_31 (fun H locs σ_6 eσ_6 hR => ?_)
  replace hf := z_l_e eσ_6 hf
  refine lv_aload_n hx hb dX3_init_34 rfl (lv_at hl 0 rfl) ?_
  refine lv_bipush (v := (7 : Int32)) hx hb dX3_init_35 (by decide) ?_
  refine q_newi X hR (kd_ltA (kx_3_6 ho) (by decide)) rfl (kx_3_6 ho) (by decide) (by decide) (by decide) (Nat.le_of_ble_eq_true rfl) (Nat.le_of_ble_eq_true rfl) dX3_init_37 (fun H σ_7 eσ_7 hR => ?_)
  replace hf := z_l_e eσ_7 hf
  have hR : Rp G (o + 2) ff σ_7 s H _ := hR
  refine W.widen (k := 1) (n := 7) (Nat.le_of_ble_eq_true rfl) (Nat.le_of_ble_eq_true rfl) ?_
  refine q_pf X hR hin cf_3_30 ho (by omega) rfl rfl rfl dX3_init_39 (fun H locs σ_8 eσ_8 hR => ?_)
  replace hf := z_l_e eσ_8 hf
  refine lv_aload_n hx hb dX3_init_42 rfl (lv_at hl 0 rfl) ?_
  refine lv_bipush (v := (7 : Int32)) hx hb dX3_init_43 (by decide) ?_
  refine q_newi X hR (kd_ltA (kx_3_7 ho) (by decide)) rfl (kx_3_7 ho) (by decide) (by decide) (by decide) (Nat.le_of_ble_eq_true rfl) (Nat.le_of_ble_eq_true rfl) dX3_init_45 (fun H σ_9 eσ_9 hR => ?_)
  replace hf := z_l_e eσ_9 hf
  have hR : Rp G (o + 3) ff σ_9 s H _ := hR
  refine W.widen (k := 2) (n := 14) (Nat.le_of_ble_eq_true rfl) (Nat.le_of_ble_eq_true rfl) ?_
  refine q_pf X hR hin cf_3_34 ho (by omega) rfl rfl rfl dX3_init_47 (fun H locs σ_10 eσ_10 hR => ?_)
  replace hf := z_l_e eσ_10 hf
  refine lv_aload_n hx hb dX3_init_50 rfl (lv_at hl 0 rfl) ?_
  refine lv_bipush (v := (7 : Int32)) hx hb dX3_init_51 (by decide) ?_
  refine q_newi X hR (kd_ltA (kx_3_8 ho) (by decide)) rfl (kx_3_8 ho) (by decide) (by decide) (by decide) (Nat.le_of_ble_eq_true rfl) (Nat.le_of_ble_eq_true rfl) dX3_init_53 (fun H σ_11 eσ_11 hR => ?_)
  replace hf := z_l_e eσ_11 hf
  have hR : Rp G (o + 4) ff σ_11 s H _ := hR
  refine W.widen (k := 3) (n := 21) (Nat.le_of_ble_eq_true rfl) (Nat.le_of_ble_eq_true rfl) ?_
  refine q_pf X hR hin cf_3_37 ho (by omega) rfl rfl rfl dX3_init_55 (fun H locs σ_12 eσ_12 hR => ?_)
  replace hf := z_l_e eσ_12 hf
  refine lv_aload_n hx hb dX3_init_58 rfl (lv_at hl 0 rfl) ?_
  refine lv_bipush (v := (7 : Int32)) hx hb dX3_init_59 (by decide) ?_
  refine q_newi X hR (kd_ltA (kx_3_9 ho) (by decide)) rfl (kx_3_9 ho) (by decide) (by decide) (by decide) (Nat.le_of_ble_eq_true rfl) (Nat.le_of_ble_eq_true rfl) dX3_init_61 (fun H σ_13 eσ_13 hR => ?_)
  replace hf := z_l_e eσ_13 hf
  have hR : Rp G (o + 5) ff σ_13 s H _ := hR
  refine W.widen (k := 4) (n := 28) (Nat.le_of_ble_eq_true rfl) (Nat.le_of_ble_eq_true rfl) ?_
  refine q_pf X hR hin cf_3_40 ho (by omega) rfl rfl rfl dX3_init_63 (fun H locs σ_14 eσ_14 hR => ?_)
  replace hf := z_l_e eσ_14 hf
  refine lv_aload_n hx hb dX3_init_66 rfl (lv_at hl 0 rfl) ?_
  refine lv_bipush (v := (7 : Int32)) hx hb dX3_init_67 (by decide) ?_
  refine q_newi X hR (kd_ltA (kx_3_10 ho) (by decide)) rfl (kx_3_10 ho) (by decide) (by decide) (by decide) (Nat.le_of_ble_eq_true rfl) (Nat.le_of_ble_eq_true rfl) dX3_init_69 (fun H σ_15 eσ_15 hR => ?_)
  replace hf := z_l_e eσ_15 hf
  have hR : Rp G (o + 6) ff σ_15 s H _ := hR
  refine W.widen (k := 5) (n := 35) (Nat.le_of_ble_eq_true rfl) (Nat.le_of_ble_eq_true rfl) ?_
  refine q_pf X hR hin cf_3_43 ho (by omega) rfl rfl rfl dX3_init_71 (fun H locs σ_16 eσ_16 hR => ?_)
  replace hf := z_l_e eσ_16 hf
  refine lv_aload_n hx hb dX3_init_74 rfl (lv_at hl 0 rfl) ?_
  refine q_new (N := 5) X hR (kd_lt (kx_3_11 ho) (by decide)) rfl (kx_3_11 ho) (by decide) rfl cl_3_46 ins_1 ini_1 (Nat.le_of_ble_eq_true rfl) (Nat.le_of_ble_eq_true rfl) dX3_init_75 (fun H σ_17 eσ_17 hR => ?_)
  replace hf := z_l_e eσ_17 hf
  have hR : Rp G (o + 7) ff σ_17 s H _ := hR
  refine W.widen (k := 6) (n := 40) (Nat.le_of_ble_eq_true rfl) (Nat.le_of_ble_eq_true rfl) ?_
  refine lv_dup hx hb dX3_init_78 rfl ?_
  obtain ⟨r_18, σ_19, hc_20, hf⟩ := z_b_e hf
  refine go_m hR (mi_run (As := []) (rest := [.ref (G.2.2 + (o + 6)), .ref (G.2.2 + o)]) X hR mi_3_48 (c1_init l G N (kx_3_11 ho) hc_20) ⟨rfl, rfl, Nat.le_of_ble_eq_true rfl, Nat.le_of_ble_eq_true rfl⟩ rfl hl.1 rfl (Nat.le_of_ble_eq_true rfl) dX3_init_79 ⟨Nat.le_of_ble_eq_true rfl, Nat.le_of_ble_eq_true rfl⟩) (fun H locs hR => ?_)
  have hR : Rp G (o + 12) ff σ_19 s H _ := hR
  refine W.widen (k := 11) (n := 140) (Nat.le_of_ble_eq_true rfl) (Nat.le_of_ble_eq_true rfl) ?_
  refine q_pf X hR hin cf_3_49 ho (by omega) rfl rfl rfl dX3_init_82 (fun H locs σ_21 eσ_21 hR => ?_)
  replace hf := z_l_e eσ_21 hf
  refine lv_aload_n hx hb dX3_init_85 rfl (lv_at hl 0 rfl) ?_
  refine q_new (N := 5) X hR (kd_lt (kx_3_12 ho) (by decide)) rfl (kx_3_12 ho) (by decide) rfl cl_3_53 ins_4 ini_4 (Nat.le_of_ble_eq_true rfl) (Nat.le_of_ble_eq_true rfl) dX3_init_86 (fun H σ_22 eσ_22 hR => ?_)
  replace hf := z_l_e eσ_22 hf
  have hR : Rp G (o + 13) ff σ_22 s H _ := hR
  refine W.widen (k := 12) (n := 145) (Nat.le_of_ble_eq_true rfl) (Nat.le_of_ble_eq_true rfl) ?_
  refine lv_dup hx hb dX3_init_89 rfl ?_
  obtain ⟨r_23, σ_24, hc_25, hf⟩ := z_b_e hf
  refine go_m hR (mi_run (As := []) (rest := [.ref (G.2.2 + (o + 12)), .ref (G.2.2 + o)]) X hR mi_3_55 (c4_init l G N (kx_3_12 ho) hc_25) ⟨rfl, rfl, Nat.le_of_ble_eq_true rfl, Nat.le_of_ble_eq_true rfl⟩ rfl hl.1 rfl (Nat.le_of_ble_eq_true rfl) dX3_init_90 ⟨Nat.le_of_ble_eq_true rfl, Nat.le_of_ble_eq_true rfl⟩) (fun H locs hR => ?_)
  have hR : Rp G (o + 17) ff σ_24 s H _ := hR
  refine W.widen (k := 16) (n := 1009) (Nat.le_of_ble_eq_true rfl) (Nat.le_of_ble_eq_true rfl) ?_
  refine q_pf X hR hin cf_3_56 ho (by omega) rfl rfl rfl dX3_init_93 (fun H locs σ_26 eσ_26 hR => ?_)
  replace hf := z_l_e eσ_26 hf
  refine lv_aload_n hx hb dX3_init_96 rfl (lv_at hl 0 rfl) ?_
  refine lv_bipush (v := (20 : Int32)) hx hb dX3_init_97 (by decide) ?_
  refine q_newl X hR (kd_ltA (kx_3_13 ho) (by decide)) rfl (kx_3_13 ho) (by decide) (by decide) (by decide) (Nat.le_of_ble_eq_true rfl) (Nat.le_of_ble_eq_true rfl) dX3_init_99 (fun H σ_27 eσ_27 hR => ?_)
  replace hf := z_l_e eσ_27 hf
  have hR : Rp G (o + 18) ff σ_27 s H _ := hR
  refine W.widen (k := 17) (n := 1029) (Nat.le_of_ble_eq_true rfl) (Nat.le_of_ble_eq_true rfl) ?_
  refine q_pf X hR hin cf_3_60 ho (by omega) rfl rfl rfl dX3_init_101 (fun H locs σ_28 eσ_28 hR => ?_)
  replace hf := z_l_e eσ_28 hf
  refine lv_aload_n hx hb dX3_init_104 rfl (lv_at hl 0 rfl) ?_
  refine lv_bipush (v := (20 : Int32)) hx hb dX3_init_105 (by decide) ?_
  refine q_newi X hR (kd_ltA (kx_3_14 ho) (by decide)) rfl (kx_3_14 ho) (by decide) (by decide) (by decide) (Nat.le_of_ble_eq_true rfl) (Nat.le_of_ble_eq_true rfl) dX3_init_107 (fun H σ_29 eσ_29 hR => ?_)
  replace hf := z_l_e eσ_29 hf
  have hR : Rp G (o + 19) ff σ_29 s H _ := hR
  refine W.widen (k := 18) (n := 1049) (Nat.le_of_ble_eq_true rfl) (Nat.le_of_ble_eq_true rfl) ?_
  refine q_pf X hR hin cf_3_64 ho (by omega) rfl rfl rfl dX3_init_109 (fun H locs σ_30 eσ_30 hR => ?_)
  replace hf := z_l_e eσ_30 hf
  refine lv_aload_n hx hb dX3_init_112 rfl (lv_at hl 0 rfl) ?_
  refine lv_bipush (v := (20 : Int32)) hx hb dX3_init_113 (by decide) ?_
  refine q_newi X hR (kd_ltA (kx_3_15 ho) (by decide)) rfl (kx_3_15 ho) (by decide) (by decide) (by decide) (Nat.le_of_ble_eq_true rfl) (Nat.le_of_ble_eq_true rfl) dX3_init_115 (fun H σ_31 eσ_31 hR => ?_)
  replace hf := z_l_e eσ_31 hf
  have hR : Rp G (o + 20) ff σ_31 s H _ := hR
  refine W.widen (k := 19) (n := 1069) (Nat.le_of_ble_eq_true rfl) (Nat.le_of_ble_eq_true rfl) ?_
  refine q_pf X hR hin cf_3_67 ho (by omega) rfl rfl rfl dX3_init_117 (fun H locs σ_32 eσ_32 hR => ?_)
  replace hf := z_l_e eσ_32 hf
  refine lv_aload_n hx hb dX3_init_120 rfl (lv_at hl 0 rfl) ?_
  refine lv_iconst (v := (0 : Int32)) hx hb dX3_init_121 (by decide) ?_
  refine q_pi X hR ci_3_70.1 ci_3_70.2 ho (by omega) dX3_init_122 (fun H locs σ_33 eσ_33 hR => ?_)
  replace hf := z_l_e eσ_33 hf
  refine lv_aload_n hx hb dX3_init_125 rfl (lv_at hl 0 rfl) ?_
  obtain ⟨t_34, gg_35, kgg_35, lgg_35, hf⟩ := z_k_e hf
  refine q_gr X hR cg_3_56.1 cg_3_56.2 ho (by omega) gg_35 dX3_init_126 ?_
  obtain ⟨ha_39, hf⟩ := z_c_e hf
  obtain ⟨r_36, σ_37, hc_38, hf⟩ := z_b_e hf
  have hR := Rp_F hR (rfO_e (Bool.and_eq_true_iff.mp ha_39).1)
  refine go_v hR (mv_run (As := []) (rest := []) X hR cv_3_73 (congrArg Prod.fst kgg_35) lgg_35 (c4_clear_g l G N (eqF_self t_34) (of_decide_eq_true (Bool.and_eq_true_iff.mp ha_39).2) (congrArg Prod.fst kgg_35) hc_38) ⟨rfl, rfl, Nat.le_of_ble_eq_true rfl, Nat.le_of_ble_eq_true rfl⟩ rfl hl.1 rfl (Nat.le_of_ble_eq_true rfl) dX3_init_129 ⟨Nat.le_of_ble_eq_true rfl, Nat.le_of_ble_eq_true rfl⟩) (fun H locs hR => ?_)
  have hR := Rp_ff hR
  exact e_v X hR hr hlk hf dX3_init_132
abbrev rm9_init : Room := { frames := 4, cells := 4, slots := 1225, locals := 88 }
section GEN
variable {p : Program} {l : Launch} {e : Env} {s : State} {m : MethodId} {args : Array Value} {below : List Frame} {meth : Method} {c : Code} {G : Gp} {r0 : Int32} {l0 : Int64} {u0 : Unit} {σ0 : Mm}

def f9_init_105 (N : Nat) (k51 : Int32 → Mm → Option (Unit × Mm)) (x1 : Int32) (σ : Mm) : Option (Unit × Mm) :=
  z_l (x1 + (1 : Int32)) fun x1_3 =>
  k51 x1_3 σ
def f9_init_99 (N : Nat) (k51 : Int32 → Mm → Option (Unit × Mm)) (k59 : Int32 → Mm → Option (Unit × Mm)) (x1 : Int32) (x2 : Int32) (σ : Mm) : Option (Unit × Mm) :=
  z_l (x2 + (1 : Int32)) fun x2_7 =>
  k59 x2_7 σ
def f9_init_59 (N : Nat) (k51 : Int32 → Mm → Option (Unit × Mm)) (x1 : Int32) : Nat → Int32 → Mm → Option (Unit × Mm)
  | 0, _, _ => none
  | fu + 1, x2, σ => if (8 : Int32) ≤ x2 then (
  f9_init_105 N k51 x1 σ) else (
  z_c (inB ((x1 * (8 : Int32)) + x2) 176) (
  z_l ((sCh ((x1 * (8 : Int32)) + x2))) fun x3_5 =>
  if x3_5 = (32 : Int32) then (
  f9_init_99 N k51 (fun x2 σ => f9_init_59 N k51 x1 fu x2 σ) x1 x2 σ) else (
  z_c (inB x1 22) (
  z_b (f9_withLetter N (gL σ 6 (ix x1)) x3_5 σ) fun r_9 σ_10 =>
  z_c (inB x1 22) (z_l (sL σ_10 6 (ix x1) r_9) fun σ_13 =>
  f9_init_99 N k51 (fun x2 σ => f9_init_59 N k51 x1 fu x2 σ) x1 x2 σ_13)))))
def f9_init_51 (N : Nat) : Nat → Int32 → Mm → Option (Unit × Mm)
  | 0, _, _ => none
  | fu + 1, x1, σ => if (22 : Int32) ≤ x1 then (
  some ((), σ)) else (
  f9_init_59 N (fun x1 σ => f9_init_51 N fu x1 σ) x1 N (0 : Int32) σ)
def f9_init_49 (N : Nat) (σ : Mm) : Option (Unit × Mm) :=
  f9_init_51 N N (0 : Int32) σ
set_option maxHeartbeats 4000000 in
set_option maxRecDepth 100000 in
theorem w9_init_105 (X : Cx p s m args c cX9_init 4 RX9 G) (hr : meth.sig.returnType = none) (hlk : meth.locks = false) (N : Nat) {k51 : Int32 → Mm → Option (Unit × Mm)} (hk51 : ∀ (x1 : Int32) (σ : Mm) (H : Heap) (locs : List Loc) (ls : Array Slot), k51 x1 σ = some (u0, σ0) → Rp G 7 (eqF 2) σ s H locs → lv_has ls 4 [(0, .ref (G.2.2 + 2)), (1, .int x1)] → W p l e rm9_init s m args below meth c H locs 4 1225 (MQ below (P_v G 7 ff u0 σ0) args s 4 1225 (Fr G)) (F0 m 51 ls [])) :
    ∀ (x1 : Int32) (σ : Mm) (H : Heap) (locs : List Loc) (ls : Array Slot), f9_init_105 N k51 x1 σ = some (u0, σ0) → Rp G 7 (eqF 2) σ s H locs → lv_has ls 4 [(0, .ref (G.2.2 + 2)), (1, .int x1)] → W p l e rm9_init s m args below meth c H locs 4 1225 (MQ below (P_v G 7 ff u0 σ0) args s 4 1225 (Fr G)) (F0 m 105 ls []) := by
  have hx := X.1
  have hb := X.2.1
  have hF := eqF_self 2
  intro x1 σ H locs ls hf hR hl
  unfold f9_init_105 at hf
  obtain ⟨x1_3, ex1_3⟩ : ∃ z : Int32, z = x1 + (1 : Int32) := ⟨_, rfl⟩
  replace hf := z_l_e ex1_3 hf
  refine lv_iinc (v := x1_3) (lv' := [(1, .int x1_3), (0, .ref (G.2.2 + 2))]) hx hb dX9_init_105 hl (k := 1) rfl (by rw [ex1_3]; rfl) (by decide) rfl (fun ls hl => ?_)
  refine lv_goto (tgt := 51) hx hb dX9_init_108 (by decide) ?_
  exact hk51 x1_3 σ _ _ _ hf hR (lv_sub hl [1, 0] rfl)
set_option maxHeartbeats 4000000 in
set_option maxRecDepth 100000 in
theorem w9_init_99 (X : Cx p s m args c cX9_init 4 RX9 G) (hr : meth.sig.returnType = none) (hlk : meth.locks = false) (N : Nat) {x1 : Int32} {k51 : Int32 → Mm → Option (Unit × Mm)} (hk51 : ∀ (x1 : Int32) (σ : Mm) (H : Heap) (locs : List Loc) (ls : Array Slot), k51 x1 σ = some (u0, σ0) → Rp G 7 (eqF 2) σ s H locs → lv_has ls 4 [(0, .ref (G.2.2 + 2)), (1, .int x1)] → W p l e rm9_init s m args below meth c H locs 4 1225 (MQ below (P_v G 7 ff u0 σ0) args s 4 1225 (Fr G)) (F0 m 51 ls [])) {k59 : Int32 → Mm → Option (Unit × Mm)} (hk59 : ∀ (x2 : Int32) (σ : Mm) (H : Heap) (locs : List Loc) (ls : Array Slot), k59 x2 σ = some (u0, σ0) → Rp G 7 (eqF 2) σ s H locs → lv_has ls 4 [(0, .ref (G.2.2 + 2)), (1, .int x1), (2, .int x2)] → W p l e rm9_init s m args below meth c H locs 4 1225 (MQ below (P_v G 7 ff u0 σ0) args s 4 1225 (Fr G)) (F0 m 59 ls [])) :
    ∀ (x2 : Int32) (σ : Mm) (H : Heap) (locs : List Loc) (ls : Array Slot), f9_init_99 N k51 k59 x1 x2 σ = some (u0, σ0) → Rp G 7 (eqF 2) σ s H locs → lv_has ls 4 [(0, .ref (G.2.2 + 2)), (1, .int x1), (2, .int x2)] → W p l e rm9_init s m args below meth c H locs 4 1225 (MQ below (P_v G 7 ff u0 σ0) args s 4 1225 (Fr G)) (F0 m 99 ls []) := by
  have hx := X.1
  have hb := X.2.1
  have hF := eqF_self 2
  intro x2 σ H locs ls hf hR hl
  unfold f9_init_99 at hf
  obtain ⟨x2_7, ex2_7⟩ : ∃ z : Int32, z = x2 + (1 : Int32) := ⟨_, rfl⟩
  replace hf := z_l_e ex2_7 hf
  refine lv_iinc (v := x2_7) (lv' := [(2, .int x2_7), (0, .ref (G.2.2 + 2)), (1, .int x1)]) hx hb dX9_init_99 hl (k := 2) rfl (by rw [ex2_7]; rfl) (by decide) rfl (fun ls hl => ?_)
  refine lv_goto (tgt := 59) hx hb dX9_init_102 (by decide) ?_
  exact hk59 x2_7 σ _ _ _ hf hR (lv_sub hl [1, 2, 0] rfl)
set_option maxHeartbeats 4000000 in
set_option maxRecDepth 100000 in
theorem w9_init_59 (X : Cx p s m args c cX9_init 4 RX9 G) (hr : meth.sig.returnType = none) (hlk : meth.locks = false) (N : Nat) {x1 : Int32} {k51 : Int32 → Mm → Option (Unit × Mm)} (hk51 : ∀ (x1 : Int32) (σ : Mm) (H : Heap) (locs : List Loc) (ls : Array Slot), k51 x1 σ = some (u0, σ0) → Rp G 7 (eqF 2) σ s H locs → lv_has ls 4 [(0, .ref (G.2.2 + 2)), (1, .int x1)] → W p l e rm9_init s m args below meth c H locs 4 1225 (MQ below (P_v G 7 ff u0 σ0) args s 4 1225 (Fr G)) (F0 m 51 ls [])) :
    ∀ (fu : Nat) (x2 : Int32) (σ : Mm) (H : Heap) (locs : List Loc) (ls : Array Slot), f9_init_59 N k51 x1 fu x2 σ = some (u0, σ0) → Rp G 7 (eqF 2) σ s H locs → lv_has ls 4 [(0, .ref (G.2.2 + 2)), (1, .int x1), (2, .int x2)] → W p l e rm9_init s m args below meth c H locs 4 1225 (MQ below (P_v G 7 ff u0 σ0) args s 4 1225 (Fr G)) (F0 m 59 ls []) := by
  have hx := X.1
  have hb := X.2.1
  have hF := eqF_self 2
  intro fu
  induction fu with
  | zero =>
    intro x2 σ H locs ls hf hR hl
    rw [f9_init_59] at hf
    cases hf
  | succ fu ih =>
    intro x2 σ H locs ls hf hR hl
    rw [f9_init_59] at hf
    refine lv_iload_n hx hb dX9_init_59 rfl (lv_at hl 2 rfl) ?_
    refine lv_bipush (v := (8 : Int32)) hx hb dX9_init_60 (by decide) ?_
    refine lv_icmp_ge (tgt := 105) hx hb dX9_init_62 (by decide) (fun c_2 => ?_) (fun c_2 => ?_)
    · replace hf := z_t c_2 hf
      exact w9_init_105 X hr hlk N hk51 x1 σ _ _ _ hf hR (lv_sub hl [0, 1] rfl)
    · replace hf := z_f c_2 hf
      refine va_ldcS hx hb X.2.2.2.1 X.2.2.2.2.2.2.2.2.2.1 dX9_init_65 ?_
      refine lv_iload_n hx hb dX9_init_67 rfl (lv_at hl 1 rfl) ?_
      refine lv_bipush (v := (8 : Int32)) hx hb dX9_init_68 (by decide) ?_
      refine lv_imul hx hb dX9_init_70 ?_
      refine lv_iload_n hx hb dX9_init_71 rfl (lv_at hl 2 rfl) ?_
      refine lv_iadd hx hb dX9_init_72 ?_
      obtain ⟨hi_4, hf⟩ := z_c_e hf
      refine go_i hR (sv_run (As := [.int ((x1 * (8 : Int32)) + x2)]) (rest := []) X hR js_ca (i := 1) (by decide) (cS_charAt l G hi_4) ⟨rfl, rfl, Nat.le_of_ble_eq_true rfl, Nat.le_of_ble_eq_true rfl⟩ rfl hl.1 rfl (Nat.le_of_ble_eq_true rfl) dX9_init_73 ⟨Nat.le_of_ble_eq_true rfl, Nat.le_of_ble_eq_true rfl⟩) (fun H locs hR => ?_)
      refine lv_topi (fun x3_5 ex3_5 => ?_)
      replace hf := z_l_e ex3_5 hf
      refine lv_istore_n (lv' := [(3, .int x3_5), (0, .ref (G.2.2 + 2)), (1, .int x1), (2, .int x2)]) hx hb dX9_init_76 rfl hl (by decide) rfl (fun ls hl => ?_)
      refine lv_iload_n hx hb dX9_init_77 rfl (lv_at hl 0 rfl) ?_
      refine lv_bipush (v := (32 : Int32)) hx hb dX9_init_78 (by decide) ?_
      refine lv_icmp_eq (tgt := 99) hx hb dX9_init_80 (by decide) (fun c_6 => ?_) (fun c_6 => ?_)
      · replace hf := z_t c_6 hf
        exact w9_init_99 X hr hlk N hk51 ih x2 σ _ _ _ hf hR (lv_sub hl [1, 2, 3] rfl)
      · replace hf := z_f c_6 hf
        refine lv_aload_n hx hb dX9_init_83 rfl (lv_at hl 1 rfl) ?_
        refine q_gr (t := 6) X hR fr_9_22.1 fr_9_22.2 kh_2 (by omega) (hR.2.2.2 _ _ _ hF (sx_9_3 kh_2)) dX9_init_84 ?_
        refine lv_iload_n hx hb dX9_init_87 rfl (lv_at hl 2 rfl) ?_
        refine lv_aload_n hx hb dX9_init_88 rfl (lv_at hl 1 rfl) ?_
        refine q_gr (t := 6) X hR fr_9_22.1 fr_9_22.2 kh_2 (by omega) (hR.2.2.2 _ _ _ hF (sx_9_3 kh_2)) dX9_init_89 ?_
        refine lv_iload_n hx hb dX9_init_92 rfl (lv_at hl 2 rfl) ?_
        obtain ⟨hi_8, hf⟩ := z_c_e hf
        refine q_lal X hR ka_6 (by omega) (inB_in hi_8) dX9_init_93 ?_
        refine lv_iload_n hx hb dX9_init_94 rfl (lv_at hl 0 rfl) ?_
        obtain ⟨r_9, σ_10, hc_11, hf⟩ := z_b_e hf
        refine go_l hR (ms_run (As := [.long (gL σ 6 (ix x1)), .int x3_5]) (rest := [.int x1, .ref (G.2.2 + 6)]) X hR ms_9_40 (c9_withLetter_g l G N hc_11) ⟨rfl, rfl, Nat.le_of_ble_eq_true rfl, Nat.le_of_ble_eq_true rfl⟩ rfl hl.1 rfl (Nat.le_of_ble_eq_true rfl) dX9_init_95 ⟨Nat.le_of_ble_eq_true rfl, Nat.le_of_ble_eq_true rfl⟩) (fun H locs hR => ?_)
        obtain ⟨hi_12, hf⟩ := z_c_e hf
        refine q_las X hR ka_6 (by omega) (inB_in hi_12) dX9_init_98 (fun H locs σ_13 eσ_13 hR => ?_)
        replace hf := z_l_e eσ_13 hf
        exact w9_init_99 X hr hlk N hk51 ih x2 σ_13 _ _ _ hf hR (lv_sub hl [1, 2, 3] rfl)
set_option maxHeartbeats 4000000 in
set_option maxRecDepth 100000 in
theorem w9_init_51 (X : Cx p s m args c cX9_init 4 RX9 G) (hr : meth.sig.returnType = none) (hlk : meth.locks = false) (N : Nat) :
    ∀ (fu : Nat) (x1 : Int32) (σ : Mm) (H : Heap) (locs : List Loc) (ls : Array Slot), f9_init_51 N fu x1 σ = some (u0, σ0) → Rp G 7 (eqF 2) σ s H locs → lv_has ls 4 [(0, .ref (G.2.2 + 2)), (1, .int x1)] → W p l e rm9_init s m args below meth c H locs 4 1225 (MQ below (P_v G 7 ff u0 σ0) args s 4 1225 (Fr G)) (F0 m 51 ls []) := by
  have hx := X.1
  have hb := X.2.1
  have hF := eqF_self 2
  intro fu
  induction fu with
  | zero =>
    intro x1 σ H locs ls hf hR hl
    rw [f9_init_51] at hf
    cases hf
  | succ fu ih =>
    intro x1 σ H locs ls hf hR hl
    rw [f9_init_51] at hf
    refine lv_iload_n hx hb dX9_init_51 rfl (lv_at hl 1 rfl) ?_
    refine lv_bipush (v := (22 : Int32)) hx hb dX9_init_52 (by decide) ?_
    refine lv_icmp_ge (tgt := 111) hx hb dX9_init_54 (by decide) (fun c_1 => ?_) (fun c_1 => ?_)
    · replace hf := z_t c_1 hf
      exact e_v X (Rp_ff hR) hr hlk hf dX9_init_111
    · replace hf := z_f c_1 hf
      refine lv_iconst (v := (0 : Int32)) hx hb dX9_init_57 (by decide) ?_
      refine lv_istore_n (lv' := [(2, .int (0 : Int32)), (0, .ref (G.2.2 + 2)), (1, .int x1)]) hx hb dX9_init_58 rfl hl (by decide) rfl (fun ls hl => ?_)
      exact w9_init_59 X hr hlk N ih N (0 : Int32) σ _ _ _ hf hR (lv_sub hl [1, 2, 0] rfl)
set_option maxHeartbeats 4000000 in
set_option maxRecDepth 100000 in
theorem w9_init_49 (X : Cx p s m args c cX9_init 4 RX9 G) (hr : meth.sig.returnType = none) (hlk : meth.locks = false) (N : Nat) :
    ∀ (σ : Mm) (H : Heap) (locs : List Loc) (ls : Array Slot), f9_init_49 N σ = some (u0, σ0) → Rp G 7 (eqF 2) σ s H locs → lv_has ls 4 [(0, .ref (G.2.2 + 2))] → W p l e rm9_init s m args below meth c H locs 4 1225 (MQ below (P_v G 7 ff u0 σ0) args s 4 1225 (Fr G)) (F0 m 49 ls []) := by
  have hx := X.1
  have hb := X.2.1
  have hF := eqF_self 2
  intro σ H locs ls hf hR hl
  unfold f9_init_49 at hf
  refine lv_iconst (v := (0 : Int32)) hx hb dX9_init_49 (by decide) ?_
  refine lv_istore_n (lv' := [(1, .int (0 : Int32)), (0, .ref (G.2.2 + 2))]) hx hb dX9_init_50 rfl hl (by decide) rfl (fun ls hl => ?_)
  exact w9_init_51 X hr hlk N  N (0 : Int32) σ _ _ _ hf hR (lv_sub hl [1, 0] rfl)
end GEN
def f9_init (N : Nat) (σ : Mm) : Option (Unit × Mm) :=
  z_l (clr σ 3) fun σ_1 =>
  z_l (sR σ_1 2 0 (some 3)) fun σ_2 =>
  z_l (clr σ_2 4) fun σ_3 =>
  z_l (sR σ_3 2 1 (some 4)) fun σ_4 =>
  z_l (clr σ_4 5) fun σ_5 =>
  z_l (sR σ_5 2 2 (some 5)) fun σ_6 =>
  z_l (clr σ_6 6) fun σ_7 =>
  z_l (sR σ_7 2 3 (some 6)) fun σ_8 =>
  z_l (sI σ_8 2 4 (0 : Int32)) fun σ_9 =>
  z_l (sI σ_9 2 5 (-1 : Int32)) fun σ_10 =>
  z_c (rfO σ_10 2) (f9_init_49 N σ_10)
set_option maxHeartbeats 8000000 in
set_option maxRecDepth 100000 in
theorem c9_init (l : Launch) (G : Gp) (N : Nat) {σ σ0 : Mm} {u0 : Unit} (hf : f9_init N σ = some (u0, σ0)) : Met l yX9_init (WS yX9_init cX9_init 4 none) rm9_init (va_Pc [.ref (G.2.2 + 2)] (Pd G 3 ff σ)) (P_v G 7 ff u0 σ0) 4 1225 (Fr G) := by
  refine ct2 [(0, .ref (G.2.2 + 2))] rfl (by decide) (Nat.le_of_ble_eq_true rfl) ?_
  intro p e s m below meth c ls X hr hlk hin hR hl
  have X : Cx p s m _ c cX9_init 4 RX9 G := X
  have hx := X.1
  have hb := X.2.1
  have hin : meth.name = "<init>" := hin
  unfold f9_init at hf
  refine lv_aload_n hx hb dX9_init_0 rfl (lv_at hl 0 rfl) ?_
  refine W.objInit hx hb X.2.2.2.1 (X.2.2.2.2.1 _ ol_9) (X.2.2.2.2.1 _ oi_inst) (X.2.2.2.2.1 _ oi_code) rfl (hl.1.trans X.2.2.1.symm) rfl dX9_init_1 (Nat.le_of_ble_eq_true rfl) (Nat.le_of_ble_eq_true rfl) ?_
  refine W.eq (g2 := F0 m 4 ls []) rfl ?_
  refine lv_aload_n hx hb dX9_init_4 rfl (lv_at hl 0 rfl) ?_
  refine lv_sipush (v := (401 : Int32)) hx hb dX9_init_5 (by decide) ?_
  refine q_newi X hR (kd_ltA ka_3 (by decide)) rfl ka_3 (by decide) (by decide) (by decide) (Nat.le_of_ble_eq_true rfl) (Nat.le_of_ble_eq_true rfl) dX9_init_8 (fun H σ_1 eσ_1 hR => ?_)
  replace hf := z_l_e eσ_1 hf
  have hR : Rp G 4 ff σ_1 s H _ := hR
  refine W.widen (k := 1) (n := 401) (Nat.le_of_ble_eq_true rfl) (Nat.le_of_ble_eq_true rfl) ?_
  refine q_pf X hR hin cf_9_9 kh_2 (by decide) rfl rfl rfl dX9_init_10 (fun H locs σ_2 eσ_2 hR => ?_)
  replace hf := z_l_e eσ_2 hf
  refine lv_aload_n hx hb dX9_init_13 rfl (lv_at hl 0 rfl) ?_
  refine lv_sipush (v := (401 : Int32)) hx hb dX9_init_14 (by decide) ?_
  refine q_newi X hR (kd_ltA ka_4 (by decide)) rfl ka_4 (by decide) (by decide) (by decide) (Nat.le_of_ble_eq_true rfl) (Nat.le_of_ble_eq_true rfl) dX9_init_17 (fun H σ_3 eσ_3 hR => ?_)
  replace hf := z_l_e eσ_3 hf
  have hR : Rp G 5 ff σ_3 s H _ := hR
  refine W.widen (k := 2) (n := 802) (Nat.le_of_ble_eq_true rfl) (Nat.le_of_ble_eq_true rfl) ?_
  refine q_pf X hR hin cf_9_15 kh_2 (by decide) rfl rfl rfl dX9_init_19 (fun H locs σ_4 eσ_4 hR => ?_)
  replace hf := z_l_e eσ_4 hf
  refine lv_aload_n hx hb dX9_init_22 rfl (lv_at hl 0 rfl) ?_
  refine lv_sipush (v := (401 : Int32)) hx hb dX9_init_23 (by decide) ?_
  refine q_newl X hR (kd_ltA ka_5 (by decide)) rfl ka_5 (by decide) (by decide) (by decide) (Nat.le_of_ble_eq_true rfl) (Nat.le_of_ble_eq_true rfl) dX9_init_26 (fun H σ_5 eσ_5 hR => ?_)
  replace hf := z_l_e eσ_5 hf
  have hR : Rp G 6 ff σ_5 s H _ := hR
  refine W.widen (k := 3) (n := 1203) (Nat.le_of_ble_eq_true rfl) (Nat.le_of_ble_eq_true rfl) ?_
  refine q_pf X hR hin cf_9_18 kh_2 (by decide) rfl rfl rfl dX9_init_28 (fun H locs σ_6 eσ_6 hR => ?_)
  replace hf := z_l_e eσ_6 hf
  refine lv_aload_n hx hb dX9_init_31 rfl (lv_at hl 0 rfl) ?_
  refine lv_bipush (v := (22 : Int32)) hx hb dX9_init_32 (by decide) ?_
  refine q_newl X hR (kd_ltA ka_6 (by decide)) rfl ka_6 (by decide) (by decide) (by decide) (Nat.le_of_ble_eq_true rfl) (Nat.le_of_ble_eq_true rfl) dX9_init_34 (fun H σ_7 eσ_7 hR => ?_)
  replace hf := z_l_e eσ_7 hf
  have hR : Rp G 7 ff σ_7 s H _ := hR
  refine W.widen (k := 4) (n := 1225) (Nat.le_of_ble_eq_true rfl) (Nat.le_of_ble_eq_true rfl) ?_
  refine q_pf X hR hin cf_9_22 kh_2 (by decide) rfl rfl rfl dX9_init_36 (fun H locs σ_8 eσ_8 hR => ?_)
  replace hf := z_l_e eσ_8 hf
  refine lv_aload_n hx hb dX9_init_39 rfl (lv_at hl 0 rfl) ?_
  refine lv_iconst (v := (0 : Int32)) hx hb dX9_init_40 (by decide) ?_
  refine q_pi X hR ci_9_25.1 ci_9_25.2 kh_2 (by decide) dX9_init_41 (fun H locs σ_9 eσ_9 hR => ?_)
  replace hf := z_l_e eσ_9 hf
  refine lv_aload_n hx hb dX9_init_44 rfl (lv_at hl 0 rfl) ?_
  refine lv_iconst (v := (-1 : Int32)) hx hb dX9_init_45 (by decide) ?_
  refine q_pi X hR ci_9_29.1 ci_9_29.2 kh_2 (by decide) dX9_init_46 (fun H locs σ_10 eσ_10 hR => ?_)
  replace hf := z_l_e eσ_10 hf
  obtain ⟨ha, hf⟩ := z_c_e hf
  exact w9_init_49 X hr hlk N σ_10 _ _ _ hf (Rp_F hR (rfO_e ha)) hl
abbrev rm2_init : Room := { frames := 1, cells := 1, slots := 21, locals := 20 }
def f2_init (N : Nat) (σ : Mm) : Option (Unit × Mm) :=
  z_l (sI σ 47 2 (0 : Int32)) fun σ_1 =>
  z_l (sI σ_1 47 3 (0 : Int32)) fun σ_2 =>
  z_l (sI σ_2 47 4 (0 : Int32)) fun σ_3 =>
  z_l (sI σ_3 47 5 (0 : Int32)) fun σ_4 =>
  z_l (sI σ_4 47 6 (0 : Int32)) fun σ_5 =>
  z_l (clr σ_5 48) fun σ_6 =>
  z_l (sR σ_6 47 7 (some 48)) fun σ_7 =>
  z_l (sI σ_7 47 8 (0 : Int32)) fun σ_8 =>
  z_l (sI σ_8 47 9 (0 : Int32)) fun σ_9 =>
  z_l (sR σ_9 47 0 (some 2)) fun σ_10 =>
  z_e (gR σ_10 27 12) 39 (
  z_l (sR σ_10 47 1 (some 39)) fun σ_12 =>
  some ((), σ_12))
set_option maxHeartbeats 8000000 in
set_option maxRecDepth 100000 in
theorem c2_init (l : Launch) (G : Gp) (N : Nat) {σ σ0 : Mm} {u0 : Unit} (hf : f2_init N σ = some (u0, σ0)) : Met l yX2_init (WS yX2_init cX2_init 3 none) rm2_init (va_Pc [.ref (G.2.2 + 47), .ref (G.2.2 + 2), .ref (G.2.2 + 27)] (Pd G 48 ff σ)) (P_v G 49 ff u0 σ0) 1 21 (Fr G) := by
  refine ct2 [(0, .ref (G.2.2 + 47)), (1, .ref (G.2.2 + 2)), (2, .ref (G.2.2 + 27))] rfl (by decide) (Nat.le_of_ble_eq_true rfl) ?_
  intro p e s m below meth c ls X hr hlk hin hR hl
  have X : Cx p s m _ c cX2_init 3 RX2 G := X
  have hx := X.1
  have hb := X.2.1
  have hin : meth.name = "<init>" := hin
  unfold f2_init at hf
  refine lv_aload_n hx hb dX2_init_0 rfl (lv_at hl 0 rfl) ?_
  refine W.objInit hx hb X.2.2.2.1 (X.2.2.2.2.1 _ ol_2) (X.2.2.2.2.1 _ oi_inst) (X.2.2.2.2.1 _ oi_code) rfl (hl.1.trans X.2.2.1.symm) rfl dX2_init_1 (Nat.le_of_ble_eq_true rfl) (Nat.le_of_ble_eq_true rfl) ?_
  refine W.eq (g2 := F0 m 4 ls []) rfl ?_
  refine lv_aload_n hx hb dX2_init_4 rfl (lv_at hl 0 rfl) ?_
  refine lv_iconst (v := (0 : Int32)) hx hb dX2_init_5 (by decide) ?_
  refine q_pi X hR ci_2_9.1 ci_2_9.2 kh_47 (by decide) dX2_init_6 (fun H locs σ_1 eσ_1 hR => ?_)
  replace hf := z_l_e eσ_1 hf
  refine lv_aload_n hx hb dX2_init_9 rfl (lv_at hl 0 rfl) ?_
  refine lv_iconst (v := (0 : Int32)) hx hb dX2_init_10 (by decide) ?_
  refine q_pi X hR ci_2_15.1 ci_2_15.2 kh_47 (by decide) dX2_init_11 (fun H locs σ_2 eσ_2 hR => ?_)
  replace hf := z_l_e eσ_2 hf
  refine lv_aload_n hx hb dX2_init_14 rfl (lv_at hl 0 rfl) ?_
  refine lv_iconst (v := (0 : Int32)) hx hb dX2_init_15 (by decide) ?_
  refine q_pi X hR ci_2_18.1 ci_2_18.2 kh_47 (by decide) dX2_init_16 (fun H locs σ_3 eσ_3 hR => ?_)
  replace hf := z_l_e eσ_3 hf
  refine lv_aload_n hx hb dX2_init_19 rfl (lv_at hl 0 rfl) ?_
  refine lv_iconst (v := (0 : Int32)) hx hb dX2_init_20 (by decide) ?_
  refine q_pi X hR ci_2_21.1 ci_2_21.2 kh_47 (by decide) dX2_init_21 (fun H locs σ_4 eσ_4 hR => ?_)
  replace hf := z_l_e eσ_4 hf
  refine lv_aload_n hx hb dX2_init_24 rfl (lv_at hl 0 rfl) ?_
  refine lv_iconst (v := (0 : Int32)) hx hb dX2_init_25 (by decide) ?_
  refine q_pi X hR ci_2_24.1 ci_2_24.2 kh_47 (by decide) dX2_init_26 (fun H locs σ_5 eσ_5 hR => ?_)
  replace hf := z_l_e eσ_5 hf
  refine lv_aload_n hx hb dX2_init_29 rfl (lv_at hl 0 rfl) ?_
  refine lv_bipush (v := (21 : Int32)) hx hb dX2_init_30 (by decide) ?_
  refine q_newi X hR (kd_ltA ka_48 (by decide)) rfl ka_48 (by decide) (by decide) (by decide) (Nat.le_of_ble_eq_true rfl) (Nat.le_of_ble_eq_true rfl) dX2_init_32 (fun H σ_6 eσ_6 hR => ?_)
  replace hf := z_l_e eσ_6 hf
  have hR : Rp G 49 ff σ_6 s H _ := hR
  refine W.widen (k := 1) (n := 21) (Nat.le_of_ble_eq_true rfl) (Nat.le_of_ble_eq_true rfl) ?_
  refine q_pf X hR hin cf_2_27 kh_47 (by decide) rfl rfl rfl dX2_init_34 (fun H locs σ_7 eσ_7 hR => ?_)
  replace hf := z_l_e eσ_7 hf
  refine lv_aload_n hx hb dX2_init_37 rfl (lv_at hl 0 rfl) ?_
  refine lv_iconst (v := (0 : Int32)) hx hb dX2_init_38 (by decide) ?_
  refine q_pi X hR ci_2_31.1 ci_2_31.2 kh_47 (by decide) dX2_init_39 (fun H locs σ_8 eσ_8 hR => ?_)
  replace hf := z_l_e eσ_8 hf
  refine lv_aload_n hx hb dX2_init_42 rfl (lv_at hl 0 rfl) ?_
  refine lv_iconst (v := (0 : Int32)) hx hb dX2_init_43 (by decide) ?_
  refine q_pi X hR ci_2_34.1 ci_2_34.2 kh_47 (by decide) dX2_init_44 (fun H locs σ_9 eσ_9 hR => ?_)
  replace hf := z_l_e eσ_9 hf
  refine lv_aload_n hx hb dX2_init_47 rfl (lv_at hl 0 rfl) ?_
  refine lv_aload_n hx hb dX2_init_48 rfl (lv_at hl 1 rfl) ?_
  refine q_pf X hR hin cf_2_37 kh_47 (by decide) rfl rfl rfl dX2_init_49 (fun H locs σ_10 eσ_10 hR => ?_)
  replace hf := z_l_e eσ_10 hf
  refine lv_aload_n hx hb dX2_init_52 rfl (lv_at hl 0 rfl) ?_
  refine lv_aload_n hx hb dX2_init_53 rfl (lv_at hl 2 rfl) ?_
  obtain ⟨gg_11, hf⟩ := z_e_e hf
  refine q_gr X hR cg_2_41.1 cg_2_41.2 kh_27 (by decide) gg_11 dX2_init_54 ?_
  refine q_pr X hR cr_2_47.1 cr_2_47.2 kh_47 (by decide) (sn_2_1 kh_47) dX2_init_57 (fun H locs σ_12 eσ_12 hR => ?_)
  replace hf := z_l_e eσ_12 hf
  exact e_v X hR hr hlk hf dX2_init_60
abbrev rm8_init : Room := { frames := 1, cells := 0, slots := 0, locals := 20 }
def f8_init (N : Nat) (σ : Mm) : Option (Unit × Mm) :=
  z_l (sI σ 49 2 (0 : Int32)) fun σ_1 =>
  z_l (sR σ_1 49 0 (some 2)) fun σ_2 =>
  z_l (sR σ_2 49 1 (some 27)) fun σ_3 =>
  some ((), σ_3)
set_option maxHeartbeats 8000000 in
set_option maxRecDepth 100000 in
theorem c8_init (l : Launch) (G : Gp) (N : Nat) {σ σ0 : Mm} {u0 : Unit} (hf : f8_init N σ = some (u0, σ0)) : Met l yX8_init (WS yX8_init cX8_init 3 none) rm8_init (va_Pc [.ref (G.2.2 + 49), .ref (G.2.2 + 2), .ref (G.2.2 + 27)] (Pd G 50 ff σ)) (P_v G 50 ff u0 σ0) 0 0 (Fr G) := by
  refine ct2 [(0, .ref (G.2.2 + 49)), (1, .ref (G.2.2 + 2)), (2, .ref (G.2.2 + 27))] rfl (by decide) (Nat.le_of_ble_eq_true rfl) ?_
  intro p e s m below meth c ls X hr hlk hin hR hl
  have X : Cx p s m _ c cX8_init 3 RX8 G := X
  have hx := X.1
  have hb := X.2.1
  have hin : meth.name = "<init>" := hin
  unfold f8_init at hf
  refine lv_aload_n hx hb dX8_init_0 rfl (lv_at hl 0 rfl) ?_
  refine W.objInit hx hb X.2.2.2.1 (X.2.2.2.2.1 _ ol_8) (X.2.2.2.2.1 _ oi_inst) (X.2.2.2.2.1 _ oi_code) rfl (hl.1.trans X.2.2.1.symm) rfl dX8_init_1 (Nat.le_of_ble_eq_true rfl) (Nat.le_of_ble_eq_true rfl) ?_
  refine W.eq (g2 := F0 m 4 ls []) rfl ?_
  refine lv_aload_n hx hb dX8_init_4 rfl (lv_at hl 0 rfl) ?_
  refine lv_iconst (v := (0 : Int32)) hx hb dX8_init_5 (by decide) ?_
  refine q_pi X hR ci_8_9.1 ci_8_9.2 kh_49 (by decide) dX8_init_6 (fun H locs σ_1 eσ_1 hR => ?_)
  replace hf := z_l_e eσ_1 hf
  refine lv_aload_n hx hb dX8_init_9 rfl (lv_at hl 0 rfl) ?_
  refine lv_aload_n hx hb dX8_init_10 rfl (lv_at hl 1 rfl) ?_
  refine q_pf X hR hin cf_8_15 kh_49 (by decide) rfl rfl rfl dX8_init_11 (fun H locs σ_2 eσ_2 hR => ?_)
  replace hf := z_l_e eσ_2 hf
  refine lv_aload_n hx hb dX8_init_14 rfl (lv_at hl 0 rfl) ?_
  refine lv_aload_n hx hb dX8_init_15 rfl (lv_at hl 2 rfl) ?_
  refine q_pr X hR cr_8_19.1 cr_8_19.2 kh_49 (by decide) (sn_8_1 kh_49) dX8_init_16 (fun H locs σ_3 eσ_3 hR => ?_)
  replace hf := z_l_e eσ_3 hf
  exact e_v X hR hr hlk hf dX8_init_19
abbrev rm0_init : Room := { frames := 1, cells := 5, slots := 42, locals := 20 }
def f0_init (N : Nat) (σ : Mm) : Option (Unit × Mm) :=
  z_l (clr σ 61) fun σ_1 =>
  z_l (sR σ_1 60 2 (some 61)) fun σ_2 =>
  z_l (clr σ_2 62) fun σ_3 =>
  z_l (sR σ_3 60 3 (some 62)) fun σ_4 =>
  z_l (clr σ_4 63) fun σ_5 =>
  z_l (sR σ_5 60 4 (some 63)) fun σ_6 =>
  z_l (clr σ_6 64) fun σ_7 =>
  z_l (sR σ_7 60 5 (some 64)) fun σ_8 =>
  z_l (clr σ_8 65) fun σ_9 =>
  z_l (sR σ_9 60 6 (some 65)) fun σ_10 =>
  z_l (sR σ_10 60 0 (some 50)) fun σ_11 =>
  z_l (sR σ_11 60 1 (some 7)) fun σ_12 =>
  some ((), σ_12)
set_option maxHeartbeats 8000000 in
set_option maxRecDepth 100000 in
theorem c0_init (l : Launch) (G : Gp) (N : Nat) {σ σ0 : Mm} {u0 : Unit} (hf : f0_init N σ = some (u0, σ0)) : Met l yX0_init (WS yX0_init cX0_init 3 none) rm0_init (va_Pc [.ref (G.2.2 + 60), .ref (G.2.2 + 50), .ref (G.2.2 + 7)] (Pd G 61 ff σ)) (P_v G 66 ff u0 σ0) 5 42 (Fr G) := by
  refine ct2 [(0, .ref (G.2.2 + 60)), (1, .ref (G.2.2 + 50)), (2, .ref (G.2.2 + 7))] rfl (by decide) (Nat.le_of_ble_eq_true rfl) ?_
  intro p e s m below meth c ls X hr hlk hin hR hl
  have X : Cx p s m _ c cX0_init 3 RX0 G := X
  have hx := X.1
  have hb := X.2.1
  have hin : meth.name = "<init>" := hin
  unfold f0_init at hf
  refine lv_aload_n hx hb dX0_init_0 rfl (lv_at hl 0 rfl) ?_
  refine W.objInit hx hb X.2.2.2.1 (X.2.2.2.2.1 _ ol_0) (X.2.2.2.2.1 _ oi_inst) (X.2.2.2.2.1 _ oi_code) rfl (hl.1.trans X.2.2.1.symm) rfl dX0_init_1 (Nat.le_of_ble_eq_true rfl) (Nat.le_of_ble_eq_true rfl) ?_
  refine W.eq (g2 := F0 m 4 ls []) rfl ?_
  refine lv_aload_n hx hb dX0_init_4 rfl (lv_at hl 0 rfl) ?_
  refine lv_bipush (v := (9 : Int32)) hx hb dX0_init_5 (by decide) ?_
  refine q_newi X hR (kd_ltA ka_61 (by decide)) rfl ka_61 (by decide) (by decide) (by decide) (Nat.le_of_ble_eq_true rfl) (Nat.le_of_ble_eq_true rfl) dX0_init_7 (fun H σ_1 eσ_1 hR => ?_)
  replace hf := z_l_e eσ_1 hf
  have hR : Rp G 62 ff σ_1 s H _ := hR
  refine W.widen (k := 1) (n := 9) (Nat.le_of_ble_eq_true rfl) (Nat.le_of_ble_eq_true rfl) ?_
  refine q_pf X hR hin cf_0_9 kh_60 (by decide) rfl rfl rfl dX0_init_9 (fun H locs σ_2 eσ_2 hR => ?_)
  replace hf := z_l_e eσ_2 hf
  refine lv_aload_n hx hb dX0_init_12 rfl (lv_at hl 0 rfl) ?_
  refine lv_bipush (v := (9 : Int32)) hx hb dX0_init_13 (by decide) ?_
  refine q_newi X hR (kd_ltA ka_62 (by decide)) rfl ka_62 (by decide) (by decide) (by decide) (Nat.le_of_ble_eq_true rfl) (Nat.le_of_ble_eq_true rfl) dX0_init_15 (fun H σ_3 eσ_3 hR => ?_)
  replace hf := z_l_e eσ_3 hf
  have hR : Rp G 63 ff σ_3 s H _ := hR
  refine W.widen (k := 2) (n := 18) (Nat.le_of_ble_eq_true rfl) (Nat.le_of_ble_eq_true rfl) ?_
  refine q_pf X hR hin cf_0_15 kh_60 (by decide) rfl rfl rfl dX0_init_17 (fun H locs σ_4 eσ_4 hR => ?_)
  replace hf := z_l_e eσ_4 hf
  refine lv_aload_n hx hb dX0_init_20 rfl (lv_at hl 0 rfl) ?_
  refine lv_bipush (v := (9 : Int32)) hx hb dX0_init_21 (by decide) ?_
  refine q_newi X hR (kd_ltA ka_63 (by decide)) rfl ka_63 (by decide) (by decide) (by decide) (Nat.le_of_ble_eq_true rfl) (Nat.le_of_ble_eq_true rfl) dX0_init_23 (fun H σ_5 eσ_5 hR => ?_)
  replace hf := z_l_e eσ_5 hf
  have hR : Rp G 64 ff σ_5 s H _ := hR
  refine W.widen (k := 3) (n := 27) (Nat.le_of_ble_eq_true rfl) (Nat.le_of_ble_eq_true rfl) ?_
  refine q_pf X hR hin cf_0_18 kh_60 (by decide) rfl rfl rfl dX0_init_25 (fun H locs σ_6 eσ_6 hR => ?_)
  replace hf := z_l_e eσ_6 hf
  refine lv_aload_n hx hb dX0_init_28 rfl (lv_at hl 0 rfl) ?_
  refine lv_bipush (v := (9 : Int32)) hx hb dX0_init_29 (by decide) ?_
  refine q_newi X hR (kd_ltA ka_64 (by decide)) rfl ka_64 (by decide) (by decide) (by decide) (Nat.le_of_ble_eq_true rfl) (Nat.le_of_ble_eq_true rfl) dX0_init_31 (fun H σ_7 eσ_7 hR => ?_)
  replace hf := z_l_e eσ_7 hf
  have hR : Rp G 65 ff σ_7 s H _ := hR
  refine W.widen (k := 4) (n := 36) (Nat.le_of_ble_eq_true rfl) (Nat.le_of_ble_eq_true rfl) ?_
  refine q_pf X hR hin cf_0_21 kh_60 (by decide) rfl rfl rfl dX0_init_33 (fun H locs σ_8 eσ_8 hR => ?_)
  replace hf := z_l_e eσ_8 hf
  refine lv_aload_n hx hb dX0_init_36 rfl (lv_at hl 0 rfl) ?_
  refine lv_bipush (v := (6 : Int32)) hx hb dX0_init_37 (by decide) ?_
  refine q_newi X hR (kd_ltA ka_65 (by decide)) rfl ka_65 (by decide) (by decide) (by decide) (Nat.le_of_ble_eq_true rfl) (Nat.le_of_ble_eq_true rfl) dX0_init_39 (fun H σ_9 eσ_9 hR => ?_)
  replace hf := z_l_e eσ_9 hf
  have hR : Rp G 66 ff σ_9 s H _ := hR
  refine W.widen (k := 5) (n := 42) (Nat.le_of_ble_eq_true rfl) (Nat.le_of_ble_eq_true rfl) ?_
  refine q_pf X hR hin cf_0_24 kh_60 (by decide) rfl rfl rfl dX0_init_41 (fun H locs σ_10 eσ_10 hR => ?_)
  replace hf := z_l_e eσ_10 hf
  refine lv_aload_n hx hb dX0_init_44 rfl (lv_at hl 0 rfl) ?_
  refine lv_aload_n hx hb dX0_init_45 rfl (lv_at hl 1 rfl) ?_
  refine q_pf X hR hin cf_0_27 kh_60 (by decide) rfl rfl rfl dX0_init_46 (fun H locs σ_11 eσ_11 hR => ?_)
  replace hf := z_l_e eσ_11 hf
  refine lv_aload_n hx hb dX0_init_49 rfl (lv_at hl 0 rfl) ?_
  refine lv_aload_n hx hb dX0_init_50 rfl (lv_at hl 2 rfl) ?_
  refine q_pr X hR cr_0_31.1 cr_0_31.2 kh_60 (by decide) (sn_0_1 kh_60) dX0_init_51 (fun H locs σ_12 eσ_12 hR => ?_)
  replace hf := z_l_e eσ_12 hf
  exact e_v X hR hr hlk hf dX0_init_54
abbrev rm7_init : Room := { frames := 1, cells := 3, slots := 952, locals := 20 }
def f7_init (N : Nat) (σ : Mm) : Option (Unit × Mm) :=
  z_l (clr σ 67) fun σ_1 =>
  z_l (sR σ_1 66 0 (some 67)) fun σ_2 =>
  z_l (clr σ_2 68) fun σ_3 =>
  z_l (sR σ_3 66 1 (some 68)) fun σ_4 =>
  z_l (clr σ_4 69) fun σ_5 =>
  z_l (sR σ_5 66 2 (some 69)) fun σ_6 =>
  some ((), σ_6)
set_option maxHeartbeats 8000000 in
set_option maxRecDepth 100000 in
theorem c7_init (l : Launch) (G : Gp) (N : Nat) {σ σ0 : Mm} {u0 : Unit} (hf : f7_init N σ = some (u0, σ0)) : Met l yX7_init (WS yX7_init cX7_init 1 none) rm7_init (va_Pc [.ref (G.2.2 + 66)] (Pd G 67 ff σ)) (P_v G 70 ff u0 σ0) 3 952 (Fr G) := by
  refine ct2 [(0, .ref (G.2.2 + 66))] rfl (by decide) (Nat.le_of_ble_eq_true rfl) ?_
  intro p e s m below meth c ls X hr hlk hin hR hl
  have X : Cx p s m _ c cX7_init 1 RX7 G := X
  have hx := X.1
  have hb := X.2.1
  have hin : meth.name = "<init>" := hin
  unfold f7_init at hf
  refine lv_aload_n hx hb dX7_init_0 rfl (lv_at hl 0 rfl) ?_
  refine W.objInit hx hb X.2.2.2.1 (X.2.2.2.2.1 _ ol_7) (X.2.2.2.2.1 _ oi_inst) (X.2.2.2.2.1 _ oi_code) rfl (hl.1.trans X.2.2.1.symm) rfl dX7_init_1 (Nat.le_of_ble_eq_true rfl) (Nat.le_of_ble_eq_true rfl) ?_
  refine W.eq (g2 := F0 m 4 ls []) rfl ?_
  refine lv_aload_n hx hb dX7_init_4 rfl (lv_at hl 0 rfl) ?_
  refine lv_bipush (v := (49 : Int32)) hx hb dX7_init_5 (by decide) ?_
  refine q_newi X hR (kd_ltA ka_67 (by decide)) rfl ka_67 (by decide) (by decide) (by decide) (Nat.le_of_ble_eq_true rfl) (Nat.le_of_ble_eq_true rfl) dX7_init_7 (fun H σ_1 eσ_1 hR => ?_)
  replace hf := z_l_e eσ_1 hf
  have hR : Rp G 68 ff σ_1 s H _ := hR
  refine W.widen (k := 1) (n := 49) (Nat.le_of_ble_eq_true rfl) (Nat.le_of_ble_eq_true rfl) ?_
  refine q_pf X hR hin cf_7_9 kh_66 (by decide) rfl rfl rfl dX7_init_9 (fun H locs σ_2 eσ_2 hR => ?_)
  replace hf := z_l_e eσ_2 hf
  refine lv_aload_n hx hb dX7_init_12 rfl (lv_at hl 0 rfl) ?_
  refine lv_bipush (v := (7 : Int32)) hx hb dX7_init_13 (by decide) ?_
  refine q_newi X hR (kd_ltA ka_68 (by decide)) rfl ka_68 (by decide) (by decide) (by decide) (Nat.le_of_ble_eq_true rfl) (Nat.le_of_ble_eq_true rfl) dX7_init_15 (fun H σ_3 eσ_3 hR => ?_)
  replace hf := z_l_e eσ_3 hf
  have hR : Rp G 69 ff σ_3 s H _ := hR
  refine W.widen (k := 2) (n := 56) (Nat.le_of_ble_eq_true rfl) (Nat.le_of_ble_eq_true rfl) ?_
  refine q_pf X hR hin cf_7_15 kh_66 (by decide) rfl rfl rfl dX7_init_17 (fun H locs σ_4 eσ_4 hR => ?_)
  replace hf := z_l_e eσ_4 hf
  refine lv_aload_n hx hb dX7_init_20 rfl (lv_at hl 0 rfl) ?_
  refine lv_sipush (v := (896 : Int32)) hx hb dX7_init_21 (by decide) ?_
  refine q_newi X hR (kd_ltA ka_69 (by decide)) rfl ka_69 (by decide) (by decide) (by decide) (Nat.le_of_ble_eq_true rfl) (Nat.le_of_ble_eq_true rfl) dX7_init_24 (fun H σ_5 eσ_5 hR => ?_)
  replace hf := z_l_e eσ_5 hf
  have hR : Rp G 70 ff σ_5 s H _ := hR
  refine W.widen (k := 3) (n := 952) (Nat.le_of_ble_eq_true rfl) (Nat.le_of_ble_eq_true rfl) ?_
  refine q_pf X hR hin cf_7_18 kh_66 (by decide) rfl rfl rfl dX7_init_26 (fun H locs σ_6 eσ_6 hR => ?_)
  replace hf := z_l_e eσ_6 hf
  exact e_v X hR hr hlk hf dX7_init_29
