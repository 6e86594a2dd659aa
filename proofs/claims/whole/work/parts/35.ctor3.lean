abbrev rm10_init : Room := { frames := 5, cells := 159, slots := 7404, locals := 111 }
def f10_init (N : Nat) (σ : Mm) : Option (Unit × Mm) :=
  z_l (clr σ 1) fun σ_1 =>
  z_l (sR σ_1 0 0 (some 1)) fun σ_2 =>
  z_l (sI σ_2 0 1 (0 : Int32)) fun σ_3 =>
  z_l (clr σ_3 2) fun σ_4 =>
  z_b (f9_init N σ_4) fun _ σ_6 =>
  z_l (sR σ_6 0 2 (some 2)) fun σ_8 =>
  z_l (clr σ_8 7) fun σ_9 =>
  z_b (f3_init N 7 σ_9) fun _ σ_11 =>
  z_l (sR σ_11 0 3 (some 7)) fun σ_13 =>
  z_l (clr σ_13 27) fun σ_14 =>
  z_b (f3_init N 27 σ_14) fun _ σ_16 =>
  z_l (sR σ_16 0 4 (some 27)) fun σ_18 =>
  z_l (clr σ_18 47) fun σ_19 =>
  z_e (gR σ_19 0 2) 2 (
  z_e (gR σ_19 0 4) 27 (
  z_b (f2_init N σ_19) fun _ σ_23 =>
  z_l (sR σ_23 0 5 (some 47)) fun σ_25 =>
  z_l (clr σ_25 49) fun σ_26 =>
  z_e (gR σ_26 0 2) 2 (
  z_e (gR σ_26 0 4) 27 (
  z_b (f8_init N σ_26) fun _ σ_30 =>
  z_l (sR σ_30 0 6 (some 49)) fun σ_32 =>
  z_l (clr σ_32 50) fun σ_33 =>
  z_b (f1_init N 50 σ_33) fun _ σ_35 =>
  z_l (sR σ_35 0 7 (some 50)) fun σ_37 =>
  z_l (clr σ_37 56) fun σ_38 =>
  z_b (f5_init N 56 σ_38) fun _ σ_40 =>
  z_l (sR σ_40 0 8 (some 56)) fun σ_42 =>
  z_l (clr σ_42 58) fun σ_43 =>
  z_b (f5_init N 58 σ_43) fun _ σ_45 =>
  z_l (sR σ_45 0 9 (some 58)) fun σ_47 =>
  z_l (clr σ_47 60) fun σ_48 =>
  z_e (gR σ_48 0 7) 50 (
  z_e (gR σ_48 0 3) 7 (
  z_b (f0_init N σ_48) fun _ σ_52 =>
  z_l (sR σ_52 0 10 (some 60)) fun σ_54 =>
  z_l (clr σ_54 66) fun σ_55 =>
  z_b (f7_init N σ_55) fun _ σ_57 =>
  z_l (sR σ_57 0 11 (some 66)) fun σ_59 =>
  z_l (clr σ_59 70) fun σ_60 =>
  z_b (f6_init N σ_60) fun _ σ_62 =>
  z_l (sR σ_62 0 12 (some 70)) fun σ_64 =>
  z_l (clr σ_64 158) fun σ_65 =>
  z_l (sR σ_65 0 13 (some 158)) fun σ_66 =>
  z_l (sI σ_66 0 14 (0 : Int32)) fun σ_67 =>
  z_l (sI σ_67 0 15 (0 : Int32)) fun σ_68 =>
  z_l (clr σ_68 159) fun σ_69 =>
  z_l (sR σ_69 0 16 (some 159)) fun σ_70 =>
  some ((), σ_70)))))))
set_option maxHeartbeats 8000000 in
set_option maxRecDepth 100000 in
theorem c10_init (l : Launch) (G : Gp) (N : Nat) {σ σ0 : Mm} {u0 : Unit} (hf : f10_init N σ = some (u0, σ0)) : Met l yX10_init (WS yX10_init cX10_init 1 none) rm10_init (va_Pc [.ref (G.2.2 + 0)] (Pd G 1 ff σ)) (P_v G 160 ff u0 σ0) 159 7404 (Fr G) := by
  refine ct2 [(0, .ref (G.2.2 + 0))] rfl (by decide) (Nat.le_of_ble_eq_true rfl) ?_
  intro p e s m below meth c ls X hr hlk hin hR hl
  have X : Cx p s m _ c cX10_init 1 RX10 G := X
  have hx := X.1
  have hb := X.2.1
  have hin : meth.name = "<init>" := hin
  unfold f10_init at hf
  refine lv_aload_n hx hb dX10_init_0 rfl (lv_at hl 0 rfl) ?_
  refine W.objInit hx hb X.2.2.2.1 (X.2.2.2.2.1 _ ol_10) (X.2.2.2.2.1 _ oi_inst) (X.2.2.2.2.1 _ oi_code) rfl (hl.1.trans X.2.2.1.symm) rfl dX10_init_1 (Nat.le_of_ble_eq_true rfl) (Nat.le_of_ble_eq_true rfl) ?_
  refine W.eq (g2 := F0 m 4 ls []) rfl ?_
  refine lv_aload_n hx hb dX10_init_4 rfl (lv_at hl 0 rfl) ?_
  refine lv_sipush (v := (2000 : Int32)) hx hb dX10_init_5 (by decide) ?_
  refine q_newb X hR (kd_ltA ka_1 (by decide)) rfl ka_1 (by decide) (by decide) (by decide) (Nat.le_of_ble_eq_true rfl) (Nat.le_of_ble_eq_true rfl) dX10_init_8 (fun H σ_1 eσ_1 hR => ?_)
  replace hf := z_l_e eσ_1 hf
  have hR : Rp G 2 ff σ_1 s H _ := hR
  refine W.widen (k := 1) (n := 2000) (Nat.le_of_ble_eq_true rfl) (Nat.le_of_ble_eq_true rfl) ?_
  refine q_pf X hR hin cf_10_9 kh_0 (by decide) rfl rfl rfl dX10_init_10 (fun H locs σ_2 eσ_2 hR => ?_)
  replace hf := z_l_e eσ_2 hf
  refine lv_aload_n hx hb dX10_init_13 rfl (lv_at hl 0 rfl) ?_
  refine lv_iconst (v := (0 : Int32)) hx hb dX10_init_14 (by decide) ?_
  refine q_pi X hR ci_10_13.1 ci_10_13.2 kh_0 (by decide) dX10_init_15 (fun H locs σ_3 eσ_3 hR => ?_)
  replace hf := z_l_e eσ_3 hf
  refine lv_aload_n hx hb dX10_init_18 rfl (lv_at hl 0 rfl) ?_
  refine q_new (N := 6) X hR (kd_lt kh_2 (by decide)) rfl kh_2 (by decide) rfl cl_10_17 ins_9 ini_9 (Nat.le_of_ble_eq_true rfl) (Nat.le_of_ble_eq_true rfl) dX10_init_19 (fun H σ_4 eσ_4 hR => ?_)
  replace hf := z_l_e eσ_4 hf
  have hR : Rp G 3 ff σ_4 s H _ := hR
  refine W.widen (k := 2) (n := 2006) (Nat.le_of_ble_eq_true rfl) (Nat.le_of_ble_eq_true rfl) ?_
  refine lv_dup hx hb dX10_init_22 rfl ?_
  obtain ⟨r_5, σ_6, hc_7, hf⟩ := z_b_e hf
  refine go_m hR (mi_run (As := []) (rest := [.ref (G.2.2 + 2), .ref (G.2.2 + 0)]) X hR mi_10_19 (c9_init l G N hc_7) ⟨rfl, rfl, Nat.le_of_ble_eq_true rfl, Nat.le_of_ble_eq_true rfl⟩ rfl hl.1 rfl (Nat.le_of_ble_eq_true rfl) dX10_init_23 ⟨Nat.le_of_ble_eq_true rfl, Nat.le_of_ble_eq_true rfl⟩) (fun H locs hR => ?_)
  have hR : Rp G 7 ff σ_6 s H _ := hR
  refine W.widen (k := 6) (n := 3231) (Nat.le_of_ble_eq_true rfl) (Nat.le_of_ble_eq_true rfl) ?_
  refine q_pf X hR hin cf_10_20 kh_0 (by decide) rfl rfl rfl dX10_init_26 (fun H locs σ_8 eσ_8 hR => ?_)
  replace hf := z_l_e eσ_8 hf
  refine lv_aload_n hx hb dX10_init_29 rfl (lv_at hl 0 rfl) ?_
  refine q_new (N := 17) X hR (kd_lt kh_7 (by decide)) rfl kh_7 (by decide) rfl cl_10_24 ins_3 ini_3 (Nat.le_of_ble_eq_true rfl) (Nat.le_of_ble_eq_true rfl) dX10_init_30 (fun H σ_9 eσ_9 hR => ?_)
  replace hf := z_l_e eσ_9 hf
  have hR : Rp G 8 ff σ_9 s H _ := hR
  refine W.widen (k := 7) (n := 3248) (Nat.le_of_ble_eq_true rfl) (Nat.le_of_ble_eq_true rfl) ?_
  refine lv_dup hx hb dX10_init_33 rfl ?_
  obtain ⟨r_10, σ_11, hc_12, hf⟩ := z_b_e hf
  refine go_m hR (mi_run (As := []) (rest := [.ref (G.2.2 + 7), .ref (G.2.2 + 0)]) X hR mi_10_26 (c3_init l G N kh_7 hc_12) ⟨rfl, rfl, Nat.le_of_ble_eq_true rfl, Nat.le_of_ble_eq_true rfl⟩ rfl hl.1 rfl (Nat.le_of_ble_eq_true rfl) dX10_init_34 ⟨Nat.le_of_ble_eq_true rfl, Nat.le_of_ble_eq_true rfl⟩) (fun H locs hR => ?_)
  have hR : Rp G 27 ff σ_11 s H _ := hR
  refine W.widen (k := 26) (n := 4317) (Nat.le_of_ble_eq_true rfl) (Nat.le_of_ble_eq_true rfl) ?_
  refine q_pr X hR cr_10_27.1 cr_10_27.2 kh_0 (by decide) (sn_10_3 kh_0) dX10_init_37 (fun H locs σ_13 eσ_13 hR => ?_)
  replace hf := z_l_e eσ_13 hf
  refine lv_aload_n hx hb dX10_init_40 rfl (lv_at hl 0 rfl) ?_
  refine q_new (N := 17) X hR (kd_lt kh_27 (by decide)) rfl kh_27 (by decide) rfl cl_10_24 ins_3 ini_3 (Nat.le_of_ble_eq_true rfl) (Nat.le_of_ble_eq_true rfl) dX10_init_41 (fun H σ_14 eσ_14 hR => ?_)
  replace hf := z_l_e eσ_14 hf
  have hR : Rp G 28 ff σ_14 s H _ := hR
  refine W.widen (k := 27) (n := 4334) (Nat.le_of_ble_eq_true rfl) (Nat.le_of_ble_eq_true rfl) ?_
  refine lv_dup hx hb dX10_init_44 rfl ?_
  obtain ⟨r_15, σ_16, hc_17, hf⟩ := z_b_e hf
  refine go_m hR (mi_run (As := []) (rest := [.ref (G.2.2 + 27), .ref (G.2.2 + 0)]) X hR mi_10_26 (c3_init l G N kh_27 hc_17) ⟨rfl, rfl, Nat.le_of_ble_eq_true rfl, Nat.le_of_ble_eq_true rfl⟩ rfl hl.1 rfl (Nat.le_of_ble_eq_true rfl) dX10_init_45 ⟨Nat.le_of_ble_eq_true rfl, Nat.le_of_ble_eq_true rfl⟩) (fun H locs hR => ?_)
  have hR : Rp G 47 ff σ_16 s H _ := hR
  refine W.widen (k := 46) (n := 5403) (Nat.le_of_ble_eq_true rfl) (Nat.le_of_ble_eq_true rfl) ?_
  refine q_pr X hR cr_10_31.1 cr_10_31.2 kh_0 (by decide) (sn_10_4 kh_0) dX10_init_48 (fun H locs σ_18 eσ_18 hR => ?_)
  replace hf := z_l_e eσ_18 hf
  refine lv_aload_n hx hb dX10_init_51 rfl (lv_at hl 0 rfl) ?_
  refine q_new (N := 10) X hR (kd_lt kh_47 (by decide)) rfl kh_47 (by decide) rfl cl_10_34 ins_2 ini_2 (Nat.le_of_ble_eq_true rfl) (Nat.le_of_ble_eq_true rfl) dX10_init_52 (fun H σ_19 eσ_19 hR => ?_)
  replace hf := z_l_e eσ_19 hf
  have hR : Rp G 48 ff σ_19 s H _ := hR
  refine W.widen (k := 47) (n := 5413) (Nat.le_of_ble_eq_true rfl) (Nat.le_of_ble_eq_true rfl) ?_
  refine lv_dup hx hb dX10_init_55 rfl ?_
  refine lv_aload_n hx hb dX10_init_56 rfl (lv_at hl 0 rfl) ?_
  obtain ⟨gg_20, hf⟩ := z_e_e hf
  refine q_gr X hR cg_10_20.1 cg_10_20.2 kh_0 (by decide) gg_20 dX10_init_57 ?_
  refine lv_aload_n hx hb dX10_init_60 rfl (lv_at hl 0 rfl) ?_
  obtain ⟨gg_21, hf⟩ := z_e_e hf
  refine q_gr X hR cg_10_31.1 cg_10_31.2 kh_0 (by decide) gg_21 dX10_init_61 ?_
  obtain ⟨r_22, σ_23, hc_24, hf⟩ := z_b_e hf
  refine go_m hR (mi_run (As := [.ref (G.2.2 + 2), .ref (G.2.2 + 27)]) (rest := [.ref (G.2.2 + 47), .ref (G.2.2 + 0)]) X hR mi_10_36 (c2_init l G N hc_24) ⟨rfl, rfl, Nat.le_of_ble_eq_true rfl, Nat.le_of_ble_eq_true rfl⟩ rfl hl.1 rfl (Nat.le_of_ble_eq_true rfl) dX10_init_64 ⟨Nat.le_of_ble_eq_true rfl, Nat.le_of_ble_eq_true rfl⟩) (fun H locs hR => ?_)
  have hR : Rp G 49 ff σ_23 s H _ := hR
  refine W.widen (k := 48) (n := 5434) (Nat.le_of_ble_eq_true rfl) (Nat.le_of_ble_eq_true rfl) ?_
  refine q_pf X hR hin cf_10_39 kh_0 (by decide) rfl rfl rfl dX10_init_67 (fun H locs σ_25 eσ_25 hR => ?_)
  replace hf := z_l_e eσ_25 hf
  refine lv_aload_n hx hb dX10_init_70 rfl (lv_at hl 0 rfl) ?_
  refine q_new (N := 3) X hR (kd_lt kh_49 (by decide)) rfl kh_49 (by decide) rfl cl_10_43 ins_8 ini_8 (Nat.le_of_ble_eq_true rfl) (Nat.le_of_ble_eq_true rfl) dX10_init_71 (fun H σ_26 eσ_26 hR => ?_)
  replace hf := z_l_e eσ_26 hf
  have hR : Rp G 50 ff σ_26 s H _ := hR
  refine W.widen (k := 49) (n := 5437) (Nat.le_of_ble_eq_true rfl) (Nat.le_of_ble_eq_true rfl) ?_
  refine lv_dup hx hb dX10_init_74 rfl ?_
  refine lv_aload_n hx hb dX10_init_75 rfl (lv_at hl 0 rfl) ?_
  obtain ⟨gg_27, hf⟩ := z_e_e hf
  refine q_gr X hR cg_10_20.1 cg_10_20.2 kh_0 (by decide) gg_27 dX10_init_76 ?_
  refine lv_aload_n hx hb dX10_init_79 rfl (lv_at hl 0 rfl) ?_
  obtain ⟨gg_28, hf⟩ := z_e_e hf
  refine q_gr X hR cg_10_31.1 cg_10_31.2 kh_0 (by decide) gg_28 dX10_init_80 ?_
  obtain ⟨r_29, σ_30, hc_31, hf⟩ := z_b_e hf
  refine go_m hR (mi_run (As := [.ref (G.2.2 + 2), .ref (G.2.2 + 27)]) (rest := [.ref (G.2.2 + 49), .ref (G.2.2 + 0)]) X hR mi_10_45 (c8_init l G N hc_31) ⟨rfl, rfl, Nat.le_of_ble_eq_true rfl, Nat.le_of_ble_eq_true rfl⟩ rfl hl.1 rfl (Nat.le_of_ble_eq_true rfl) dX10_init_83 ⟨Nat.le_of_ble_eq_true rfl, Nat.le_of_ble_eq_true rfl⟩) (fun H locs hR => ?_)
  have hR : Rp G 50 ff σ_30 s H _ := hR
  refine W.widen (k := 49) (n := 5437) (Nat.le_of_ble_eq_true rfl) (Nat.le_of_ble_eq_true rfl) ?_
  refine q_pf X hR hin cf_10_46 kh_0 (by decide) rfl rfl rfl dX10_init_86 (fun H locs σ_32 eσ_32 hR => ?_)
  replace hf := z_l_e eσ_32 hf
  refine lv_aload_n hx hb dX10_init_89 rfl (lv_at hl 0 rfl) ?_
  refine q_new (N := 5) X hR (kd_lt kh_50 (by decide)) rfl kh_50 (by decide) rfl cl_10_50 ins_1 ini_1 (Nat.le_of_ble_eq_true rfl) (Nat.le_of_ble_eq_true rfl) dX10_init_90 (fun H σ_33 eσ_33 hR => ?_)
  replace hf := z_l_e eσ_33 hf
  have hR : Rp G 51 ff σ_33 s H _ := hR
  refine W.widen (k := 50) (n := 5442) (Nat.le_of_ble_eq_true rfl) (Nat.le_of_ble_eq_true rfl) ?_
  refine lv_dup hx hb dX10_init_93 rfl ?_
  obtain ⟨r_34, σ_35, hc_36, hf⟩ := z_b_e hf
  refine go_m hR (mi_run (As := []) (rest := [.ref (G.2.2 + 50), .ref (G.2.2 + 0)]) X hR mi_10_52 (c1_init l G N kh_50 hc_36) ⟨rfl, rfl, Nat.le_of_ble_eq_true rfl, Nat.le_of_ble_eq_true rfl⟩ rfl hl.1 rfl (Nat.le_of_ble_eq_true rfl) dX10_init_94 ⟨Nat.le_of_ble_eq_true rfl, Nat.le_of_ble_eq_true rfl⟩) (fun H locs hR => ?_)
  have hR : Rp G 56 ff σ_35 s H _ := hR
  refine W.widen (k := 55) (n := 5542) (Nat.le_of_ble_eq_true rfl) (Nat.le_of_ble_eq_true rfl) ?_
  refine q_pf X hR hin cf_10_53 kh_0 (by decide) rfl rfl rfl dX10_init_97 (fun H locs σ_37 eσ_37 hR => ?_)
  replace hf := z_l_e eσ_37 hf
  refine lv_aload_n hx hb dX10_init_100 rfl (lv_at hl 0 rfl) ?_
  refine q_new (N := 5) X hR (kd_lt kh_56 (by decide)) rfl kh_56 (by decide) rfl cl_10_57 ins_5 ini_5 (Nat.le_of_ble_eq_true rfl) (Nat.le_of_ble_eq_true rfl) dX10_init_101 (fun H σ_38 eσ_38 hR => ?_)
  replace hf := z_l_e eσ_38 hf
  have hR : Rp G 57 ff σ_38 s H _ := hR
  refine W.widen (k := 56) (n := 5547) (Nat.le_of_ble_eq_true rfl) (Nat.le_of_ble_eq_true rfl) ?_
  refine lv_dup hx hb dX10_init_104 rfl ?_
  obtain ⟨r_39, σ_40, hc_41, hf⟩ := z_b_e hf
  refine go_m hR (mi_run (As := []) (rest := [.ref (G.2.2 + 56), .ref (G.2.2 + 0)]) X hR mi_10_59 (c5_init l G N kh_56 hc_41) ⟨rfl, rfl, Nat.le_of_ble_eq_true rfl, Nat.le_of_ble_eq_true rfl⟩ rfl hl.1 rfl (Nat.le_of_ble_eq_true rfl) dX10_init_105 ⟨Nat.le_of_ble_eq_true rfl, Nat.le_of_ble_eq_true rfl⟩) (fun H locs hR => ?_)
  have hR : Rp G 58 ff σ_40 s H _ := hR
  refine W.widen (k := 57) (n := 5554) (Nat.le_of_ble_eq_true rfl) (Nat.le_of_ble_eq_true rfl) ?_
  refine q_pf X hR hin cf_10_60 kh_0 (by decide) rfl rfl rfl dX10_init_108 (fun H locs σ_42 eσ_42 hR => ?_)
  replace hf := z_l_e eσ_42 hf
  refine lv_aload_n hx hb dX10_init_111 rfl (lv_at hl 0 rfl) ?_
  refine q_new (N := 5) X hR (kd_lt kh_58 (by decide)) rfl kh_58 (by decide) rfl cl_10_57 ins_5 ini_5 (Nat.le_of_ble_eq_true rfl) (Nat.le_of_ble_eq_true rfl) dX10_init_112 (fun H σ_43 eσ_43 hR => ?_)
  replace hf := z_l_e eσ_43 hf
  have hR : Rp G 59 ff σ_43 s H _ := hR
  refine W.widen (k := 58) (n := 5559) (Nat.le_of_ble_eq_true rfl) (Nat.le_of_ble_eq_true rfl) ?_
  refine lv_dup hx hb dX10_init_115 rfl ?_
  obtain ⟨r_44, σ_45, hc_46, hf⟩ := z_b_e hf
  refine go_m hR (mi_run (As := []) (rest := [.ref (G.2.2 + 58), .ref (G.2.2 + 0)]) X hR mi_10_59 (c5_init l G N kh_58 hc_46) ⟨rfl, rfl, Nat.le_of_ble_eq_true rfl, Nat.le_of_ble_eq_true rfl⟩ rfl hl.1 rfl (Nat.le_of_ble_eq_true rfl) dX10_init_116 ⟨Nat.le_of_ble_eq_true rfl, Nat.le_of_ble_eq_true rfl⟩) (fun H locs hR => ?_)
  have hR : Rp G 60 ff σ_45 s H _ := hR
  refine W.widen (k := 59) (n := 5566) (Nat.le_of_ble_eq_true rfl) (Nat.le_of_ble_eq_true rfl) ?_
  refine q_pf X hR hin cf_10_64 kh_0 (by decide) rfl rfl rfl dX10_init_119 (fun H locs σ_47 eσ_47 hR => ?_)
  replace hf := z_l_e eσ_47 hf
  refine lv_aload_n hx hb dX10_init_122 rfl (lv_at hl 0 rfl) ?_
  refine q_new (N := 7) X hR (kd_lt kh_60 (by decide)) rfl kh_60 (by decide) rfl cl_10_67 ins_0 ini_0 (Nat.le_of_ble_eq_true rfl) (Nat.le_of_ble_eq_true rfl) dX10_init_123 (fun H σ_48 eσ_48 hR => ?_)
  replace hf := z_l_e eσ_48 hf
  have hR : Rp G 61 ff σ_48 s H _ := hR
  refine W.widen (k := 60) (n := 5573) (Nat.le_of_ble_eq_true rfl) (Nat.le_of_ble_eq_true rfl) ?_
  refine lv_dup hx hb dX10_init_126 rfl ?_
  refine lv_aload_n hx hb dX10_init_127 rfl (lv_at hl 0 rfl) ?_
  obtain ⟨gg_49, hf⟩ := z_e_e hf
  refine q_gr X hR cg_10_53.1 cg_10_53.2 kh_0 (by decide) gg_49 dX10_init_128 ?_
  refine lv_aload_n hx hb dX10_init_131 rfl (lv_at hl 0 rfl) ?_
  obtain ⟨gg_50, hf⟩ := z_e_e hf
  refine q_gr X hR cg_10_27.1 cg_10_27.2 kh_0 (by decide) gg_50 dX10_init_132 ?_
  obtain ⟨r_51, σ_52, hc_53, hf⟩ := z_b_e hf
  refine go_m hR (mi_run (As := [.ref (G.2.2 + 50), .ref (G.2.2 + 7)]) (rest := [.ref (G.2.2 + 60), .ref (G.2.2 + 0)]) X hR mi_10_69 (c0_init l G N hc_53) ⟨rfl, rfl, Nat.le_of_ble_eq_true rfl, Nat.le_of_ble_eq_true rfl⟩ rfl hl.1 rfl (Nat.le_of_ble_eq_true rfl) dX10_init_135 ⟨Nat.le_of_ble_eq_true rfl, Nat.le_of_ble_eq_true rfl⟩) (fun H locs hR => ?_)
  have hR : Rp G 66 ff σ_52 s H _ := hR
  refine W.widen (k := 65) (n := 5615) (Nat.le_of_ble_eq_true rfl) (Nat.le_of_ble_eq_true rfl) ?_
  refine q_pf X hR hin cf_10_72 kh_0 (by decide) rfl rfl rfl dX10_init_138 (fun H locs σ_54 eσ_54 hR => ?_)
  replace hf := z_l_e eσ_54 hf
  refine lv_aload_n hx hb dX10_init_141 rfl (lv_at hl 0 rfl) ?_
  refine q_new (N := 3) X hR (kd_lt kh_66 (by decide)) rfl kh_66 (by decide) rfl cl_10_76 ins_7 ini_7 (Nat.le_of_ble_eq_true rfl) (Nat.le_of_ble_eq_true rfl) dX10_init_142 (fun H σ_55 eσ_55 hR => ?_)
  replace hf := z_l_e eσ_55 hf
  have hR : Rp G 67 ff σ_55 s H _ := hR
  refine W.widen (k := 66) (n := 5618) (Nat.le_of_ble_eq_true rfl) (Nat.le_of_ble_eq_true rfl) ?_
  refine lv_dup hx hb dX10_init_145 rfl ?_
  obtain ⟨r_56, σ_57, hc_58, hf⟩ := z_b_e hf
  refine go_m hR (mi_run (As := []) (rest := [.ref (G.2.2 + 66), .ref (G.2.2 + 0)]) X hR mi_10_78 (c7_init l G N hc_58) ⟨rfl, rfl, Nat.le_of_ble_eq_true rfl, Nat.le_of_ble_eq_true rfl⟩ rfl hl.1 rfl (Nat.le_of_ble_eq_true rfl) dX10_init_146 ⟨Nat.le_of_ble_eq_true rfl, Nat.le_of_ble_eq_true rfl⟩) (fun H locs hR => ?_)
  have hR : Rp G 70 ff σ_57 s H _ := hR
  refine W.widen (k := 69) (n := 6570) (Nat.le_of_ble_eq_true rfl) (Nat.le_of_ble_eq_true rfl) ?_
  refine q_pf X hR hin cf_10_79 kh_0 (by decide) rfl rfl rfl dX10_init_149 (fun H locs σ_59 eσ_59 hR => ?_)
  replace hf := z_l_e eσ_59 hf
  refine lv_aload_n hx hb dX10_init_152 rfl (lv_at hl 0 rfl) ?_
  refine q_new (N := 6) X hR (kd_lt kh_70 (by decide)) rfl kh_70 (by decide) rfl cl_10_83 ins_6 ini_6 (Nat.le_of_ble_eq_true rfl) (Nat.le_of_ble_eq_true rfl) dX10_init_153 (fun H σ_60 eσ_60 hR => ?_)
  replace hf := z_l_e eσ_60 hf
  have hR : Rp G 71 ff σ_60 s H _ := hR
  refine W.widen (k := 70) (n := 6576) (Nat.le_of_ble_eq_true rfl) (Nat.le_of_ble_eq_true rfl) ?_
  refine lv_dup hx hb dX10_init_156 rfl ?_
  obtain ⟨r_61, σ_62, hc_63, hf⟩ := z_b_e hf
  refine go_m hR (mi_run (As := []) (rest := [.ref (G.2.2 + 70), .ref (G.2.2 + 0)]) X hR mi_10_85 (c6_init l G N hc_63) ⟨rfl, rfl, Nat.le_of_ble_eq_true rfl, Nat.le_of_ble_eq_true rfl⟩ rfl hl.1 rfl (Nat.le_of_ble_eq_true rfl) dX10_init_157 ⟨Nat.le_of_ble_eq_true rfl, Nat.le_of_ble_eq_true rfl⟩) (fun H locs hR => ?_)
  have hR : Rp G 158 ff σ_62 s H _ := hR
  refine W.widen (k := 157) (n := 7323) (Nat.le_of_ble_eq_true rfl) (Nat.le_of_ble_eq_true rfl) ?_
  refine q_pf X hR hin cf_10_86 kh_0 (by decide) rfl rfl rfl dX10_init_160 (fun H locs σ_64 eσ_64 hR => ?_)
  replace hf := z_l_e eσ_64 hf
  refine lv_aload_n hx hb dX10_init_163 rfl (lv_at hl 0 rfl) ?_
  refine lv_bipush (v := (20 : Int32)) hx hb dX10_init_164 (by decide) ?_
  refine q_newi X hR (kd_ltA ka_158 (by decide)) rfl ka_158 (by decide) (by decide) (by decide) (Nat.le_of_ble_eq_true rfl) (Nat.le_of_ble_eq_true rfl) dX10_init_166 (fun H σ_65 eσ_65 hR => ?_)
  replace hf := z_l_e eσ_65 hf
  have hR : Rp G 159 ff σ_65 s H _ := hR
  refine W.widen (k := 158) (n := 7343) (Nat.le_of_ble_eq_true rfl) (Nat.le_of_ble_eq_true rfl) ?_
  refine q_pf X hR hin cf_10_90 kh_0 (by decide) rfl rfl rfl dX10_init_168 (fun H locs σ_66 eσ_66 hR => ?_)
  replace hf := z_l_e eσ_66 hf
  refine lv_aload_n hx hb dX10_init_171 rfl (lv_at hl 0 rfl) ?_
  refine lv_iconst (v := (0 : Int32)) hx hb dX10_init_172 (by decide) ?_
  refine q_pi X hR ci_10_94.1 ci_10_94.2 kh_0 (by decide) dX10_init_173 (fun H locs σ_67 eσ_67 hR => ?_)
  replace hf := z_l_e eσ_67 hf
  refine lv_aload_n hx hb dX10_init_176 rfl (lv_at hl 0 rfl) ?_
  refine lv_iconst (v := (0 : Int32)) hx hb dX10_init_177 (by decide) ?_
  refine q_pi X hR ci_10_97.1 ci_10_97.2 kh_0 (by decide) dX10_init_178 (fun H locs σ_68 eσ_68 hR => ?_)
  replace hf := z_l_e eσ_68 hf
  refine lv_aload_n hx hb dX10_init_181 rfl (lv_at hl 0 rfl) ?_
  refine lv_bipush (v := (61 : Int32)) hx hb dX10_init_182 (by decide) ?_
  refine q_newi X hR (kd_ltA ka_159 (by decide)) rfl ka_159 (by decide) (by decide) (by decide) (Nat.le_of_ble_eq_true rfl) (Nat.le_of_ble_eq_true rfl) dX10_init_184 (fun H σ_69 eσ_69 hR => ?_)
  replace hf := z_l_e eσ_69 hf
  have hR : Rp G 160 ff σ_69 s H _ := hR
  refine W.widen (k := 159) (n := 7404) (Nat.le_of_ble_eq_true rfl) (Nat.le_of_ble_eq_true rfl) ?_
  refine q_pf X hR hin cf_10_100 kh_0 (by decide) rfl rfl rfl dX10_init_186 (fun H locs σ_70 eσ_70 hR => ?_)
  replace hf := z_l_e eσ_70 hf
  exact e_v X hR hr hlk hf dX10_init_189
