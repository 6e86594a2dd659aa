abbrev rm6_init : Room := { frames := 2, cells := 87, slots := 747, locals := 40 }
def f6_init (N : Nat) (σ : Mm) : Option (Unit × Mm) :=
  z_l (clr σ 71) fun σ_1 =>
  z_l (sR σ_1 70 0 (some 71)) fun σ_2 =>
  z_l (sI σ_2 70 1 (0 : Int32)) fun σ_3 =>
  z_l (sI σ_3 70 2 (0 : Int32)) fun σ_4 =>
  z_l (clr σ_4 72) fun σ_5 =>
  z_l (sR σ_5 70 3 (some 72)) fun σ_6 =>
  z_l (clr σ_6 73) fun σ_7 =>
  z_l (sR σ_7 70 4 (some 73)) fun σ_8 =>
  z_l (sI σ_8 70 5 (0 : Int32)) fun σ_9 =>
  z_e (gR σ_9 70 0) 71 (
  z_l (clr σ_9 74) fun σ_12 =>
  z_b (f5_init N 74 σ_12) fun _ σ_14 =>
  z_l (sR σ_14 71 (ix (0 : Int32)) (some 74)) fun σ_16 =>
  z_e (gR σ_16 70 0) 71 (
  z_l (clr σ_16 76) fun σ_19 =>
  z_b (f5_init N 76 σ_19) fun _ σ_21 =>
  z_l (sR σ_21 71 (ix (1 : Int32)) (some 76)) fun σ_23 =>
  z_e (gR σ_23 70 0) 71 (
  z_l (clr σ_23 78) fun σ_26 =>
  z_b (f5_init N 78 σ_26) fun _ σ_28 =>
  z_l (sR σ_28 71 (ix (2 : Int32)) (some 78)) fun σ_30 =>
  z_e (gR σ_30 70 0) 71 (
  z_l (clr σ_30 80) fun σ_33 =>
  z_b (f5_init N 80 σ_33) fun _ σ_35 =>
  z_l (sR σ_35 71 (ix (3 : Int32)) (some 80)) fun σ_37 =>
  z_e (gR σ_37 70 0) 71 (
  z_l (clr σ_37 82) fun σ_40 =>
  z_b (f5_init N 82 σ_40) fun _ σ_42 =>
  z_l (sR σ_42 71 (ix (4 : Int32)) (some 82)) fun σ_44 =>
  z_e (gR σ_44 70 0) 71 (
  z_l (clr σ_44 84) fun σ_47 =>
  z_b (f5_init N 84 σ_47) fun _ σ_49 =>
  z_l (sR σ_49 71 (ix (5 : Int32)) (some 84)) fun σ_51 =>
  z_e (gR σ_51 70 0) 71 (
  z_l (clr σ_51 86) fun σ_54 =>
  z_b (f5_init N 86 σ_54) fun _ σ_56 =>
  z_l (sR σ_56 71 (ix (6 : Int32)) (some 86)) fun σ_58 =>
  z_e (gR σ_58 70 0) 71 (
  z_l (clr σ_58 88) fun σ_61 =>
  z_b (f5_init N 88 σ_61) fun _ σ_63 =>
  z_l (sR σ_63 71 (ix (7 : Int32)) (some 88)) fun σ_65 =>
  z_e (gR σ_65 70 0) 71 (
  z_l (clr σ_65 90) fun σ_68 =>
  z_b (f5_init N 90 σ_68) fun _ σ_70 =>
  z_l (sR σ_70 71 (ix (8 : Int32)) (some 90)) fun σ_72 =>
  z_e (gR σ_72 70 0) 71 (
  z_l (clr σ_72 92) fun σ_75 =>
  z_b (f5_init N 92 σ_75) fun _ σ_77 =>
  z_l (sR σ_77 71 (ix (9 : Int32)) (some 92)) fun σ_79 =>
  z_e (gR σ_79 70 0) 71 (
  z_l (clr σ_79 94) fun σ_82 =>
  z_b (f5_init N 94 σ_82) fun _ σ_84 =>
  z_l (sR σ_84 71 (ix (10 : Int32)) (some 94)) fun σ_86 =>
  z_e (gR σ_86 70 0) 71 (
  z_l (clr σ_86 96) fun σ_89 =>
  z_b (f5_init N 96 σ_89) fun _ σ_91 =>
  z_l (sR σ_91 71 (ix (11 : Int32)) (some 96)) fun σ_93 =>
  z_e (gR σ_93 70 0) 71 (
  z_l (clr σ_93 98) fun σ_96 =>
  z_b (f5_init N 98 σ_96) fun _ σ_98 =>
  z_l (sR σ_98 71 (ix (12 : Int32)) (some 98)) fun σ_100 =>
  z_e (gR σ_100 70 0) 71 (
  z_l (clr σ_100 100) fun σ_103 =>
  z_b (f5_init N 100 σ_103) fun _ σ_105 =>
  z_l (sR σ_105 71 (ix (13 : Int32)) (some 100)) fun σ_107 =>
  z_e (gR σ_107 70 0) 71 (
  z_l (clr σ_107 102) fun σ_110 =>
  z_b (f5_init N 102 σ_110) fun _ σ_112 =>
  z_l (sR σ_112 71 (ix (14 : Int32)) (some 102)) fun σ_114 =>
  z_e (gR σ_114 70 0) 71 (
  z_l (clr σ_114 104) fun σ_117 =>
  z_b (f5_init N 104 σ_117) fun _ σ_119 =>
  z_l (sR σ_119 71 (ix (15 : Int32)) (some 104)) fun σ_121 =>
  z_e (gR σ_121 70 0) 71 (
  z_l (clr σ_121 106) fun σ_124 =>
  z_b (f5_init N 106 σ_124) fun _ σ_126 =>
  z_l (sR σ_126 71 (ix (16 : Int32)) (some 106)) fun σ_128 =>
  z_e (gR σ_128 70 0) 71 (
  z_l (clr σ_128 108) fun σ_131 =>
  z_b (f5_init N 108 σ_131) fun _ σ_133 =>
  z_l (sR σ_133 71 (ix (17 : Int32)) (some 108)) fun σ_135 =>
  z_e (gR σ_135 70 0) 71 (
  z_l (clr σ_135 110) fun σ_138 =>
  z_b (f5_init N 110 σ_138) fun _ σ_140 =>
  z_l (sR σ_140 71 (ix (18 : Int32)) (some 110)) fun σ_142 =>
  z_e (gR σ_142 70 0) 71 (
  z_l (clr σ_142 112) fun σ_145 =>
  z_b (f5_init N 112 σ_145) fun _ σ_147 =>
  z_l (sR σ_147 71 (ix (19 : Int32)) (some 112)) fun σ_149 =>
  z_e (gR σ_149 70 0) 71 (
  z_l (clr σ_149 114) fun σ_152 =>
  z_b (f5_init N 114 σ_152) fun _ σ_154 =>
  z_l (sR σ_154 71 (ix (20 : Int32)) (some 114)) fun σ_156 =>
  z_e (gR σ_156 70 0) 71 (
  z_l (clr σ_156 116) fun σ_159 =>
  z_b (f5_init N 116 σ_159) fun _ σ_161 =>
  z_l (sR σ_161 71 (ix (21 : Int32)) (some 116)) fun σ_163 =>
  z_e (gR σ_163 70 0) 71 (
  z_l (clr σ_163 118) fun σ_166 =>
  z_b (f5_init N 118 σ_166) fun _ σ_168 =>
  z_l (sR σ_168 71 (ix (22 : Int32)) (some 118)) fun σ_170 =>
  z_e (gR σ_170 70 0) 71 (
  z_l (clr σ_170 120) fun σ_173 =>
  z_b (f5_init N 120 σ_173) fun _ σ_175 =>
  z_l (sR σ_175 71 (ix (23 : Int32)) (some 120)) fun σ_177 =>
  z_e (gR σ_177 70 0) 71 (
  z_l (clr σ_177 122) fun σ_180 =>
  z_b (f5_init N 122 σ_180) fun _ σ_182 =>
  z_l (sR σ_182 71 (ix (24 : Int32)) (some 122)) fun σ_184 =>
  z_e (gR σ_184 70 0) 71 (
  z_l (clr σ_184 124) fun σ_187 =>
  z_b (f5_init N 124 σ_187) fun _ σ_189 =>
  z_l (sR σ_189 71 (ix (25 : Int32)) (some 124)) fun σ_191 =>
  z_e (gR σ_191 70 0) 71 (
  z_l (clr σ_191 126) fun σ_194 =>
  z_b (f5_init N 126 σ_194) fun _ σ_196 =>
  z_l (sR σ_196 71 (ix (26 : Int32)) (some 126)) fun σ_198 =>
  z_e (gR σ_198 70 0) 71 (
  z_l (clr σ_198 128) fun σ_201 =>
  z_b (f5_init N 128 σ_201) fun _ σ_203 =>
  z_l (sR σ_203 71 (ix (27 : Int32)) (some 128)) fun σ_205 =>
  z_e (gR σ_205 70 0) 71 (
  z_l (clr σ_205 130) fun σ_208 =>
  z_b (f5_init N 130 σ_208) fun _ σ_210 =>
  z_l (sR σ_210 71 (ix (28 : Int32)) (some 130)) fun σ_212 =>
  z_e (gR σ_212 70 0) 71 (
  z_l (clr σ_212 132) fun σ_215 =>
  z_b (f5_init N 132 σ_215) fun _ σ_217 =>
  z_l (sR σ_217 71 (ix (29 : Int32)) (some 132)) fun σ_219 =>
  z_e (gR σ_219 70 3) 72 (
  z_l (clr σ_219 134) fun σ_223 =>
  z_b (f5_init N 134 σ_223) fun _ σ_225 =>
  z_l (sR σ_225 72 (ix (0 : Int32)) (some 134)) fun σ_227 =>
  z_e (gR σ_227 70 4) 73 (
  z_l (clr σ_227 136) fun σ_229 =>
  z_b (f1_init N 136 σ_229) fun _ σ_231 =>
  z_l (sR σ_231 73 (ix (0 : Int32)) (some 136)) fun σ_233 =>
  z_e (gR σ_233 70 3) 72 (
  z_l (clr σ_233 142) fun σ_236 =>
  z_b (f5_init N 142 σ_236) fun _ σ_238 =>
  z_l (sR σ_238 72 (ix (1 : Int32)) (some 142)) fun σ_240 =>
  z_e (gR σ_240 70 4) 73 (
  z_l (clr σ_240 144) fun σ_242 =>
  z_b (f1_init N 144 σ_242) fun _ σ_244 =>
  z_l (sR σ_244 73 (ix (1 : Int32)) (some 144)) fun σ_246 =>
  z_e (gR σ_246 70 3) 72 (
  z_l (clr σ_246 150) fun σ_249 =>
  z_b (f5_init N 150 σ_249) fun _ σ_251 =>
  z_l (sR σ_251 72 (ix (2 : Int32)) (some 150)) fun σ_253 =>
  z_e (gR σ_253 70 4) 73 (
  z_l (clr σ_253 152) fun σ_255 =>
  z_b (f1_init N 152 σ_255) fun _ σ_257 =>
  z_l (sR σ_257 73 (ix (2 : Int32)) (some 152)) fun σ_259 =>
  some ((), σ_259)))))))))))))))))))))))))))))))))))))
set_option maxHeartbeats 8000000 in
set_option maxRecDepth 100000 in
theorem c6_init (l : Launch) (G : Gp) (N : Nat) {σ σ0 : Mm} {u0 : Unit} (hf : f6_init N σ = some (u0, σ0)) : Met l yX6_init (WS yX6_init cX6_init 2 none) rm6_init (va_Pc [.ref (G.2.2 + 70)] (Pd G 71 ff σ)) (P_v G 158 ff u0 σ0) 87 747 (Fr G) := by
  refine ct2 [(0, .ref (G.2.2 + 70))] rfl (by decide) (Nat.le_of_ble_eq_true rfl) ?_
  intro p e s m below meth c ls X hr hlk hin hR hl
  have X : Cx p s m _ c cX6_init 2 RX6 G := X
  have hx := X.1
  have hb := X.2.1
  have hin : meth.name = "<init>" := hin
  unfold f6_init at hf
  refine lv_aload_n hx hb dX6_init_0 rfl (lv_at hl 0 rfl) ?_
  refine W.objInit hx hb X.2.2.2.1 (X.2.2.2.2.1 _ ol_6) (X.2.2.2.2.1 _ oi_inst) (X.2.2.2.2.1 _ oi_code) rfl (hl.1.trans X.2.2.1.symm) rfl dX6_init_1 (Nat.le_of_ble_eq_true rfl) (Nat.le_of_ble_eq_true rfl) ?_
  refine W.eq (g2 := F0 m 4 ls []) rfl ?_
  refine lv_aload_n hx hb dX6_init_4 rfl (lv_at hl 0 rfl) ?_
  refine lv_bipush (v := (30 : Int32)) hx hb dX6_init_5 (by decide) ?_
  refine q_newq (ti := 5) (len := 30) X hR (kd_ltA ka_71 (by decide)) rfl cq_6_9 X.2.2.2.2.2.2.2.2.2.2.2.2.2 rfl (by rw [cellE_refM ka_71]; simp [gR, clr]) (by decide) (by decide) (by decide) (Nat.le_of_ble_eq_true rfl) (Nat.le_of_ble_eq_true rfl) dX6_init_7 (fun H σ_1 eσ_1 hR => ?_)
  replace hf := z_l_e eσ_1 hf
  have hR : Rp G 72 ff σ_1 s H _ := hR
  refine W.widen (k := 1) (n := 30) (Nat.le_of_ble_eq_true rfl) (Nat.le_of_ble_eq_true rfl) ?_
  refine q_pf X hR hin cf_6_11 kh_70 (by decide) rfl rfl rfl dX6_init_10 (fun H locs σ_2 eσ_2 hR => ?_)
  replace hf := z_l_e eσ_2 hf
  refine lv_aload_n hx hb dX6_init_13 rfl (lv_at hl 0 rfl) ?_
  refine lv_iconst (v := (0 : Int32)) hx hb dX6_init_14 (by decide) ?_
  refine q_pi X hR ci_6_17.1 ci_6_17.2 kh_70 (by decide) dX6_init_15 (fun H locs σ_3 eσ_3 hR => ?_)
  replace hf := z_l_e eσ_3 hf
  refine lv_aload_n hx hb dX6_init_18 rfl (lv_at hl 0 rfl) ?_
  refine lv_iconst (v := (0 : Int32)) hx hb dX6_init_19 (by decide) ?_
  refine q_pi X hR ci_6_21.1 ci_6_21.2 kh_70 (by decide) dX6_init_20 (fun H locs σ_4 eσ_4 hR => ?_)
  replace hf := z_l_e eσ_4 hf
  refine lv_aload_n hx hb dX6_init_23 rfl (lv_at hl 0 rfl) ?_
  refine lv_iconst (v := (3 : Int32)) hx hb dX6_init_24 (by decide) ?_
  refine q_newq (ti := 5) (len := 3) X hR (kd_ltA ka_72 (by decide)) rfl cq_6_9 X.2.2.2.2.2.2.2.2.2.2.2.2.2 rfl (by rw [cellE_refM ka_72]; simp [gR, clr]) (by decide) (by decide) (by decide) (Nat.le_of_ble_eq_true rfl) (Nat.le_of_ble_eq_true rfl) dX6_init_25 (fun H σ_5 eσ_5 hR => ?_)
  replace hf := z_l_e eσ_5 hf
  have hR : Rp G 73 ff σ_5 s H _ := hR
  refine W.widen (k := 2) (n := 33) (Nat.le_of_ble_eq_true rfl) (Nat.le_of_ble_eq_true rfl) ?_
  refine q_pf X hR hin cf_6_24 kh_70 (by decide) rfl rfl rfl dX6_init_28 (fun H locs σ_6 eσ_6 hR => ?_)
  replace hf := z_l_e eσ_6 hf
  refine lv_aload_n hx hb dX6_init_31 rfl (lv_at hl 0 rfl) ?_
  refine lv_iconst (v := (3 : Int32)) hx hb dX6_init_32 (by decide) ?_
  refine q_newq (ti := 4) (len := 3) X hR (kd_ltA ka_73 (by decide)) rfl cq_6_27 X.2.2.2.2.2.2.2.2.2.2.2.2.1 rfl (by rw [cellE_refG ka_73]; simp [gR, clr]) (by decide) (by decide) (by decide) (Nat.le_of_ble_eq_true rfl) (Nat.le_of_ble_eq_true rfl) dX6_init_33 (fun H σ_7 eσ_7 hR => ?_)
  replace hf := z_l_e eσ_7 hf
  have hR : Rp G 74 ff σ_7 s H _ := hR
  refine W.widen (k := 3) (n := 36) (Nat.le_of_ble_eq_true rfl) (Nat.le_of_ble_eq_true rfl) ?_
  refine q_pf X hR hin cf_6_29 kh_70 (by decide) rfl rfl rfl dX6_init_36 (fun H locs σ_8 eσ_8 hR => ?_)
  replace hf := z_l_e eσ_8 hf
  refine lv_aload_n hx hb dX6_init_39 rfl (lv_at hl 0 rfl) ?_
  refine lv_iconst (v := (0 : Int32)) hx hb dX6_init_40 (by decide) ?_
  refine q_pi X hR ci_6_33.1 ci_6_33.2 kh_70 (by decide) dX6_init_41 (fun H locs σ_9 eσ_9 hR => ?_)
  replace hf := z_l_e eσ_9 hf
  refine lv_iconst (v := (0 : Int32)) hx hb dX6_init_44 (by decide) ?_
  refine lv_istore_n (lv' := [(1, .int (0 : Int32)), (0, .ref (G.2.2 + 70))]) hx hb dX6_init_45 rfl hl (by decide) rfl (fun ls hl => ?_)
  refine lv_iload_n hx hb dX6_init_46 rfl (lv_at hl 0 rfl) ?_
  refine lv_bipush (v := (30 : Int32)) hx hb dX6_init_47 (by decide) ?_
  refine lv_icmp_ge (tgt := 71) hx hb dX6_init_49 (by decide) (fun c_10 => absurd c_10 (by decide)) (fun c_10 => ?_)
  refine lv_aload_n hx hb dX6_init_52 rfl (lv_at hl 1 rfl) ?_
  obtain ⟨gg_11, hf⟩ := z_e_e hf
  refine q_gr X hR cg_6_11.1 cg_6_11.2 kh_70 (by decide) gg_11 dX6_init_53 ?_
  refine lv_iload_n hx hb dX6_init_56 rfl (lv_at hl 0 rfl) ?_
  refine q_new (N := 5) X hR (kd_lt kh_74 (by decide)) rfl kh_74 (by decide) rfl cl_6_9 ins_5 ini_5 (Nat.le_of_ble_eq_true rfl) (Nat.le_of_ble_eq_true rfl) dX6_init_57 (fun H σ_12 eσ_12 hR => ?_)
  replace hf := z_l_e eσ_12 hf
  have hR : Rp G 75 ff σ_12 s H _ := hR
  refine W.widen (k := 4) (n := 41) (Nat.le_of_ble_eq_true rfl) (Nat.le_of_ble_eq_true rfl) ?_
  refine lv_dup hx hb dX6_init_60 rfl ?_
  obtain ⟨r_13, σ_14, hc_15, hf⟩ := z_b_e hf
  refine go_m hR (mi_run (As := []) (rest := [.ref (G.2.2 + 74), .int (0 : Int32), .ref (G.2.2 + 71)]) X hR mi_6_36 (c5_init l G N kh_74 hc_15) ⟨rfl, rfl, Nat.le_of_ble_eq_true rfl, Nat.le_of_ble_eq_true rfl⟩ rfl hl.1 rfl (Nat.le_of_ble_eq_true rfl) dX6_init_61 ⟨Nat.le_of_ble_eq_true rfl, Nat.le_of_ble_eq_true rfl⟩) (fun H locs hR => ?_)
  have hR : Rp G 76 ff σ_14 s H _ := hR
  refine W.widen (k := 5) (n := 48) (Nat.le_of_ble_eq_true rfl) (Nat.le_of_ble_eq_true rfl) ?_
  refine q_aas (ti := 5) (ci := 5) X hR ka_71 (Or.inl ⟨rfl, rfl, rfl⟩) (by omega) kh_74 (by decide) rfl (inB_in rfl) dX6_init_64 (fun H locs σ_16 eσ_16 hR => ?_)
  replace hf := z_l_e eσ_16 hf
  refine lv_iinc (v := (1 : Int32)) (lv' := [(1, .int (1 : Int32)), (0, .ref (G.2.2 + 70))]) hx hb dX6_init_65 hl (k := 0) rfl (by decide) (by decide) rfl (fun ls hl => ?_)
  refine lv_goto (tgt := 46) hx hb dX6_init_68 (by decide) ?_
  refine lv_iload_n hx hb dX6_init_46 rfl (lv_at hl 0 rfl) ?_
  refine lv_bipush (v := (30 : Int32)) hx hb dX6_init_47 (by decide) ?_
  refine lv_icmp_ge (tgt := 71) hx hb dX6_init_49 (by decide) (fun c_17 => absurd c_17 (by decide)) (fun c_17 => ?_)
  refine lv_aload_n hx hb dX6_init_52 rfl (lv_at hl 1 rfl) ?_
  obtain ⟨gg_18, hf⟩ := z_e_e hf
  refine q_gr X hR cg_6_11.1 cg_6_11.2 kh_70 (by decide) gg_18 dX6_init_53 ?_
  refine lv_iload_n hx hb dX6_init_56 rfl (lv_at hl 0 rfl) ?_
  refine q_new (N := 5) X hR (kd_lt kh_76 (by decide)) rfl kh_76 (by decide) rfl cl_6_9 ins_5 ini_5 (Nat.le_of_ble_eq_true rfl) (Nat.le_of_ble_eq_true rfl) dX6_init_57 (fun H σ_19 eσ_19 hR => ?_)
  replace hf := z_l_e eσ_19 hf
  have hR : Rp G 77 ff σ_19 s H _ := hR
  refine W.widen (k := 6) (n := 53) (Nat.le_of_ble_eq_true rfl) (Nat.le_of_ble_eq_true rfl) ?_
  refine lv_dup hx hb dX6_init_60 rfl ?_
  obtain ⟨r_20, σ_21, hc_22, hf⟩ := z_b_e hf
  refine go_m hR (mi_run (As := []) (rest := [.ref (G.2.2 + 76), .int (1 : Int32), .ref (G.2.2 + 71)]) X hR mi_6_36 (c5_init l G N kh_76 hc_22) ⟨rfl, rfl, Nat.le_of_ble_eq_true rfl, Nat.le_of_ble_eq_true rfl⟩ rfl hl.1 rfl (Nat.le_of_ble_eq_true rfl) dX6_init_61 ⟨Nat.le_of_ble_eq_true rfl, Nat.le_of_ble_eq_true rfl⟩) (fun H locs hR => ?_)
  have hR : Rp G 78 ff σ_21 s H _ := hR
  refine W.widen (k := 7) (n := 60) (Nat.le_of_ble_eq_true rfl) (Nat.le_of_ble_eq_true rfl) ?_
  refine q_aas (ti := 5) (ci := 5) X hR ka_71 (Or.inl ⟨rfl, rfl, rfl⟩) (by omega) kh_76 (by decide) rfl (inB_in rfl) dX6_init_64 (fun H locs σ_23 eσ_23 hR => ?_)
  replace hf := z_l_e eσ_23 hf
  refine lv_iinc (v := (2 : Int32)) (lv' := [(1, .int (2 : Int32)), (0, .ref (G.2.2 + 70))]) hx hb dX6_init_65 hl (k := 0) rfl (by decide) (by decide) rfl (fun ls hl => ?_)
  refine lv_goto (tgt := 46) hx hb dX6_init_68 (by decide) ?_
  refine lv_iload_n hx hb dX6_init_46 rfl (lv_at hl 0 rfl) ?_
  refine lv_bipush (v := (30 : Int32)) hx hb dX6_init_47 (by decide) ?_
  refine lv_icmp_ge (tgt := 71) hx hb dX6_init_49 (by decide) (fun c_24 => absurd c_24 (by decide)) (fun c_24 => ?_)
  refine lv_aload_n hx hb dX6_init_52 rfl (lv_at hl 1 rfl) ?_
  obtain ⟨gg_25, hf⟩ := z_e_e hf
  refine q_gr X hR cg_6_11.1 cg_6_11.2 kh_70 (by decide) gg_25 dX6_init_53 ?_
  refine lv_iload_n hx hb dX6_init_56 rfl (lv_at hl 0 rfl) ?_
  refine q_new (N := 5) X hR (kd_lt kh_78 (by decide)) rfl kh_78 (by decide) rfl cl_6_9 ins_5 ini_5 (Nat.le_of_ble_eq_true rfl) (Nat.le_of_ble_eq_true rfl) dX6_init_57 (fun H σ_26 eσ_26 hR => ?_)
  replace hf := z_l_e eσ_26 hf
  have hR : Rp G 79 ff σ_26 s H _ := hR
  refine W.widen (k := 8) (n := 65) (Nat.le_of_ble_eq_true rfl) (Nat.le_of_ble_eq_true rfl) ?_
  refine lv_dup hx hb dX6_init_60 rfl ?_
  obtain ⟨r_27, σ_28, hc_29, hf⟩ := z_b_e hf
  refine go_m hR (mi_run (As := []) (rest := [.ref (G.2.2 + 78), .int (2 : Int32), .ref (G.2.2 + 71)]) X hR mi_6_36 (c5_init l G N kh_78 hc_29) ⟨rfl, rfl, Nat.le_of_ble_eq_true rfl, Nat.le_of_ble_eq_true rfl⟩ rfl hl.1 rfl (Nat.le_of_ble_eq_true rfl) dX6_init_61 ⟨Nat.le_of_ble_eq_true rfl, Nat.le_of_ble_eq_true rfl⟩) (fun H locs hR => ?_)
  have hR : Rp G 80 ff σ_28 s H _ := hR
  refine W.widen (k := 9) (n := 72) (Nat.le_of_ble_eq_true rfl) (Nat.le_of_ble_eq_true rfl) ?_
  refine q_aas (ti := 5) (ci := 5) X hR ka_71 (Or.inl ⟨rfl, rfl, rfl⟩) (by omega) kh_78 (by decide) rfl (inB_in rfl) dX6_init_64 (fun H locs σ_30 eσ_30 hR => ?_)
  replace hf := z_l_e eσ_30 hf
  refine lv_iinc (v := (3 : Int32)) (lv' := [(1, .int (3 : Int32)), (0, .ref (G.2.2 + 70))]) hx hb dX6_init_65 hl (k := 0) rfl (by decide) (by decide) rfl (fun ls hl => ?_)
  refine lv_goto (tgt := 46) hx hb dX6_init_68 (by decide) ?_
  refine lv_iload_n hx hb dX6_init_46 rfl (lv_at hl 0 rfl) ?_
  refine lv_bipush (v := (30 : Int32)) hx hb dX6_init_47 (by decide) ?_
  refine lv_icmp_ge (tgt := 71) hx hb dX6_init_49 (by decide) (fun c_31 => absurd c_31 (by decide)) (fun c_31 => ?_)
  refine lv_aload_n hx hb dX6_init_52 rfl (lv_at hl 1 rfl) ?_
  obtain ⟨gg_32, hf⟩ := z_e_e hf
  refine q_gr X hR cg_6_11.1 cg_6_11.2 kh_70 (by decide) gg_32 dX6_init_53 ?_
  refine lv_iload_n hx hb dX6_init_56 rfl (lv_at hl 0 rfl) ?_
  refine q_new (N := 5) X hR (kd_lt kh_80 (by decide)) rfl kh_80 (by decide) rfl cl_6_9 ins_5 ini_5 (Nat.le_of_ble_eq_true rfl) (Nat.le_of_ble_eq_true rfl) dX6_init_57 (fun H σ_33 eσ_33 hR => ?_)
  replace hf := z_l_e eσ_33 hf
  have hR : Rp G 81 ff σ_33 s H _ := hR
  refine W.widen (k := 10) (n := 77) (Nat.le_of_ble_eq_true rfl) (Nat.le_of_ble_eq_true rfl) ?_
  refine lv_dup hx hb dX6_init_60 rfl ?_
  obtain ⟨r_34, σ_35, hc_36, hf⟩ := z_b_e hf
  refine go_m hR (mi_run (As := []) (rest := [.ref (G.2.2 + 80), .int (3 : Int32), .ref (G.2.2 + 71)]) X hR mi_6_36 (c5_init l G N kh_80 hc_36) ⟨rfl, rfl, Nat.le_of_ble_eq_true rfl, Nat.le_of_ble_eq_true rfl⟩ rfl hl.1 rfl (Nat.le_of_ble_eq_true rfl) dX6_init_61 ⟨Nat.le_of_ble_eq_true rfl, Nat.le_of_ble_eq_true rfl⟩) (fun H locs hR => ?_)
  have hR : Rp G 82 ff σ_35 s H _ := hR
  refine W.widen (k := 11) (n := 84) (Nat.le_of_ble_eq_true rfl) (Nat.le_of_ble_eq_true rfl) ?_
  refine q_aas (ti := 5) (ci := 5) X hR ka_71 (Or.inl ⟨rfl, rfl, rfl⟩) (by omega) kh_80 (by decide) rfl (inB_in rfl) dX6_init_64 (fun H locs σ_37 eσ_37 hR => ?_)
  replace hf := z_l_e eσ_37 hf
  refine lv_iinc (v := (4 : Int32)) (lv' := [(1, .int (4 : Int32)), (0, .ref (G.2.2 + 70))]) hx hb dX6_init_65 hl (k := 0) rfl (by decide) (by decide) rfl (fun ls hl => ?_)
  refine lv_goto (tgt := 46) hx hb dX6_init_68 (by decide) ?_
  refine lv_iload_n hx hb dX6_init_46 rfl (lv_at hl 0 rfl) ?_
  refine lv_bipush (v := (30 : Int32)) hx hb dX6_init_47 (by decide) ?_
  refine lv_icmp_ge (tgt := 71) hx hb dX6_init_49 (by decide) (fun c_38 => absurd c_38 (by decide)) (fun c_38 => ?_)
  refine lv_aload_n hx hb dX6_init_52 rfl (lv_at hl 1 rfl) ?_
  obtain ⟨gg_39, hf⟩ := z_e_e hf
  refine q_gr X hR cg_6_11.1 cg_6_11.2 kh_70 (by decide) gg_39 dX6_init_53 ?_
  refine lv_iload_n hx hb dX6_init_56 rfl (lv_at hl 0 rfl) ?_
  refine q_new (N := 5) X hR (kd_lt kh_82 (by decide)) rfl kh_82 (by decide) rfl cl_6_9 ins_5 ini_5 (Nat.le_of_ble_eq_true rfl) (Nat.le_of_ble_eq_true rfl) dX6_init_57 (fun H σ_40 eσ_40 hR => ?_)
  replace hf := z_l_e eσ_40 hf
  have hR : Rp G 83 ff σ_40 s H _ := hR
  refine W.widen (k := 12) (n := 89) (Nat.le_of_ble_eq_true rfl) (Nat.le_of_ble_eq_true rfl) ?_
  refine lv_dup hx hb dX6_init_60 rfl ?_
  obtain ⟨r_41, σ_42, hc_43, hf⟩ := z_b_e hf
  refine go_m hR (mi_run (As := []) (rest := [.ref (G.2.2 + 82), .int (4 : Int32), .ref (G.2.2 + 71)]) X hR mi_6_36 (c5_init l G N kh_82 hc_43) ⟨rfl, rfl, Nat.le_of_ble_eq_true rfl, Nat.le_of_ble_eq_true rfl⟩ rfl hl.1 rfl (Nat.le_of_ble_eq_true rfl) dX6_init_61 ⟨Nat.le_of_ble_eq_true rfl, Nat.le_of_ble_eq_true rfl⟩) (fun H locs hR => ?_)
  have hR : Rp G 84 ff σ_42 s H _ := hR
  refine W.widen (k := 13) (n := 96) (Nat.le_of_ble_eq_true rfl) (Nat.le_of_ble_eq_true rfl) ?_
  refine q_aas (ti := 5) (ci := 5) X hR ka_71 (Or.inl ⟨rfl, rfl, rfl⟩) (by omega) kh_82 (by decide) rfl (inB_in rfl) dX6_init_64 (fun H locs σ_44 eσ_44 hR => ?_)
  replace hf := z_l_e eσ_44 hf
  refine lv_iinc (v := (5 : Int32)) (lv' := [(1, .int (5 : Int32)), (0, .ref (G.2.2 + 70))]) hx hb dX6_init_65 hl (k := 0) rfl (by decide) (by decide) rfl (fun ls hl => ?_)
  refine lv_goto (tgt := 46) hx hb dX6_init_68 (by decide) ?_
  refine lv_iload_n hx hb dX6_init_46 rfl (lv_at hl 0 rfl) ?_
  refine lv_bipush (v := (30 : Int32)) hx hb dX6_init_47 (by decide) ?_
  refine lv_icmp_ge (tgt := 71) hx hb dX6_init_49 (by decide) (fun c_45 => absurd c_45 (by decide)) (fun c_45 => ?_)
  refine lv_aload_n hx hb dX6_init_52 rfl (lv_at hl 1 rfl) ?_
  obtain ⟨gg_46, hf⟩ := z_e_e hf
  refine q_gr X hR cg_6_11.1 cg_6_11.2 kh_70 (by decide) gg_46 dX6_init_53 ?_
  refine lv_iload_n hx hb dX6_init_56 rfl (lv_at hl 0 rfl) ?_
  refine q_new (N := 5) X hR (kd_lt kh_84 (by decide)) rfl kh_84 (by decide) rfl cl_6_9 ins_5 ini_5 (Nat.le_of_ble_eq_true rfl) (Nat.le_of_ble_eq_true rfl) dX6_init_57 (fun H σ_47 eσ_47 hR => ?_)
  replace hf := z_l_e eσ_47 hf
  have hR : Rp G 85 ff σ_47 s H _ := hR
  refine W.widen (k := 14) (n := 101) (Nat.le_of_ble_eq_true rfl) (Nat.le_of_ble_eq_true rfl) ?_
  refine lv_dup hx hb dX6_init_60 rfl ?_
  obtain ⟨r_48, σ_49, hc_50, hf⟩ := z_b_e hf
  refine go_m hR (mi_run (As := []) (rest := [.ref (G.2.2 + 84), .int (5 : Int32), .ref (G.2.2 + 71)]) X hR mi_6_36 (c5_init l G N kh_84 hc_50) ⟨rfl, rfl, Nat.le_of_ble_eq_true rfl, Nat.le_of_ble_eq_true rfl⟩ rfl hl.1 rfl (Nat.le_of_ble_eq_true rfl) dX6_init_61 ⟨Nat.le_of_ble_eq_true rfl, Nat.le_of_ble_eq_true rfl⟩) (fun H locs hR => ?_)
  have hR : Rp G 86 ff σ_49 s H _ := hR
  refine W.widen (k := 15) (n := 108) (Nat.le_of_ble_eq_true rfl) (Nat.le_of_ble_eq_true rfl) ?_
  refine q_aas (ti := 5) (ci := 5) X hR ka_71 (Or.inl ⟨rfl, rfl, rfl⟩) (by omega) kh_84 (by decide) rfl (inB_in rfl) dX6_init_64 (fun H locs σ_51 eσ_51 hR => ?_)
  replace hf := z_l_e eσ_51 hf
  refine lv_iinc (v := (6 : Int32)) (lv' := [(1, .int (6 : Int32)), (0, .ref (G.2.2 + 70))]) hx hb dX6_init_65 hl (k := 0) rfl (by decide) (by decide) rfl (fun ls hl => ?_)
  refine lv_goto (tgt := 46) hx hb dX6_init_68 (by decide) ?_
  refine lv_iload_n hx hb dX6_init_46 rfl (lv_at hl 0 rfl) ?_
  refine lv_bipush (v := (30 : Int32)) hx hb dX6_init_47 (by decide) ?_
  refine lv_icmp_ge (tgt := 71) hx hb dX6_init_49 (by decide) (fun c_52 => absurd c_52 (by decide)) (fun c_52 => ?_)
  refine lv_aload_n hx hb dX6_init_52 rfl (lv_at hl 1 rfl) ?_
  obtain ⟨gg_53, hf⟩ := z_e_e hf
  refine q_gr X hR cg_6_11.1 cg_6_11.2 kh_70 (by decide) gg_53 dX6_init_53 ?_
  refine lv_iload_n hx hb dX6_init_56 rfl (lv_at hl 0 rfl) ?_
  refine q_new (N := 5) X hR (kd_lt kh_86 (by decide)) rfl kh_86 (by decide) rfl cl_6_9 ins_5 ini_5 (Nat.le_of_ble_eq_true rfl) (Nat.le_of_ble_eq_true rfl) dX6_init_57 (fun H σ_54 eσ_54 hR => ?_)
  replace hf := z_l_e eσ_54 hf
  have hR : Rp G 87 ff σ_54 s H _ := hR
  refine W.widen (k := 16) (n := 113) (Nat.le_of_ble_eq_true rfl) (Nat.le_of_ble_eq_true rfl) ?_
  refine lv_dup hx hb dX6_init_60 rfl ?_
  obtain ⟨r_55, σ_56, hc_57, hf⟩ := z_b_e hf
  refine go_m hR (mi_run (As := []) (rest := [.ref (G.2.2 + 86), .int (6 : Int32), .ref (G.2.2 + 71)]) X hR mi_6_36 (c5_init l G N kh_86 hc_57) ⟨rfl, rfl, Nat.le_of_ble_eq_true rfl, Nat.le_of_ble_eq_true rfl⟩ rfl hl.1 rfl (Nat.le_of_ble_eq_true rfl) dX6_init_61 ⟨Nat.le_of_ble_eq_true rfl, Nat.le_of_ble_eq_true rfl⟩) (fun H locs hR => ?_)
  have hR : Rp G 88 ff σ_56 s H _ := hR
  refine W.widen (k := 17) (n := 120) (Nat.le_of_ble_eq_true rfl) (Nat.le_of_ble_eq_true rfl) ?_
  refine q_aas (ti := 5) (ci := 5) X hR ka_71 (Or.inl ⟨rfl, rfl, rfl⟩) (by omega) kh_86 (by decide) rfl (inB_in rfl) dX6_init_64 (fun H locs σ_58 eσ_58 hR => ?_)
  replace hf := z_l_e eσ_58 hf
  refine lv_iinc (v := (7 : Int32)) (lv' := [(1, .int (7 : Int32)), (0, .ref (G.2.2 + 70))]) hx hb dX6_init_65 hl (k := 0) rfl (by decide) (by decide) rfl (fun ls hl => ?_)
  refine lv_goto (tgt := 46) hx hb dX6_init_68 (by decide) ?_
  refine lv_iload_n hx hb dX6_init_46 rfl (lv_at hl 0 rfl) ?_
  refine lv_bipush (v := (30 : Int32)) hx hb dX6_init_47 (by decide) ?_
  refine lv_icmp_ge (tgt := 71) hx hb dX6_init_49 (by decide) (fun c_59 => absurd c_59 (by decide)) (fun c_59 => ?_)
  refine lv_aload_n hx hb dX6_init_52 rfl (lv_at hl 1 rfl) ?_
  obtain ⟨gg_60, hf⟩ := z_e_e hf
  refine q_gr X hR cg_6_11.1 cg_6_11.2 kh_70 (by decide) gg_60 dX6_init_53 ?_
  refine lv_iload_n hx hb dX6_init_56 rfl (lv_at hl 0 rfl) ?_
  refine q_new (N := 5) X hR (kd_lt kh_88 (by decide)) rfl kh_88 (by decide) rfl cl_6_9 ins_5 ini_5 (Nat.le_of_ble_eq_true rfl) (Nat.le_of_ble_eq_true rfl) dX6_init_57 (fun H σ_61 eσ_61 hR => ?_)
  replace hf := z_l_e eσ_61 hf
  have hR : Rp G 89 ff σ_61 s H _ := hR
  refine W.widen (k := 18) (n := 125) (Nat.le_of_ble_eq_true rfl) (Nat.le_of_ble_eq_true rfl) ?_
  refine lv_dup hx hb dX6_init_60 rfl ?_
  obtain ⟨r_62, σ_63, hc_64, hf⟩ := z_b_e hf
  refine go_m hR (mi_run (As := []) (rest := [.ref (G.2.2 + 88), .int (7 : Int32), .ref (G.2.2 + 71)]) X hR mi_6_36 (c5_init l G N kh_88 hc_64) ⟨rfl, rfl, Nat.le_of_ble_eq_true rfl, Nat.le_of_ble_eq_true rfl⟩ rfl hl.1 rfl (Nat.le_of_ble_eq_true rfl) dX6_init_61 ⟨Nat.le_of_ble_eq_true rfl, Nat.le_of_ble_eq_true rfl⟩) (fun H locs hR => ?_)
  have hR : Rp G 90 ff σ_63 s H _ := hR
  refine W.widen (k := 19) (n := 132) (Nat.le_of_ble_eq_true rfl) (Nat.le_of_ble_eq_true rfl) ?_
  refine q_aas (ti := 5) (ci := 5) X hR ka_71 (Or.inl ⟨rfl, rfl, rfl⟩) (by omega) kh_88 (by decide) rfl (inB_in rfl) dX6_init_64 (fun H locs σ_65 eσ_65 hR => ?_)
  replace hf := z_l_e eσ_65 hf
  refine lv_iinc (v := (8 : Int32)) (lv' := [(1, .int (8 : Int32)), (0, .ref (G.2.2 + 70))]) hx hb dX6_init_65 hl (k := 0) rfl (by decide) (by decide) rfl (fun ls hl => ?_)
  refine lv_goto (tgt := 46) hx hb dX6_init_68 (by decide) ?_
  refine lv_iload_n hx hb dX6_init_46 rfl (lv_at hl 0 rfl) ?_
  refine lv_bipush (v := (30 : Int32)) hx hb dX6_init_47 (by decide) ?_
  refine lv_icmp_ge (tgt := 71) hx hb dX6_init_49 (by decide) (fun c_66 => absurd c_66 (by decide)) (fun c_66 => ?_)
  refine lv_aload_n hx hb dX6_init_52 rfl (lv_at hl 1 rfl) ?_
  obtain ⟨gg_67, hf⟩ := z_e_e hf
  refine q_gr X hR cg_6_11.1 cg_6_11.2 kh_70 (by decide) gg_67 dX6_init_53 ?_
  refine lv_iload_n hx hb dX6_init_56 rfl (lv_at hl 0 rfl) ?_
  refine q_new (N := 5) X hR (kd_lt kh_90 (by decide)) rfl kh_90 (by decide) rfl cl_6_9 ins_5 ini_5 (Nat.le_of_ble_eq_true rfl) (Nat.le_of_ble_eq_true rfl) dX6_init_57 (fun H σ_68 eσ_68 hR => ?_)
  replace hf := z_l_e eσ_68 hf
  have hR : Rp G 91 ff σ_68 s H _ := hR
  refine W.widen (k := 20) (n := 137) (Nat.le_of_ble_eq_true rfl) (Nat.le_of_ble_eq_true rfl) ?_
  refine lv_dup hx hb dX6_init_60 rfl ?_
  obtain ⟨r_69, σ_70, hc_71, hf⟩ := z_b_e hf
  refine go_m hR (mi_run (As := []) (rest := [.ref (G.2.2 + 90), .int (8 : Int32), .ref (G.2.2 + 71)]) X hR mi_6_36 (c5_init l G N kh_90 hc_71) ⟨rfl, rfl, Nat.le_of_ble_eq_true rfl, Nat.le_of_ble_eq_true rfl⟩ rfl hl.1 rfl (Nat.le_of_ble_eq_true rfl) dX6_init_61 ⟨Nat.le_of_ble_eq_true rfl, Nat.le_of_ble_eq_true rfl⟩) (fun H locs hR => ?_)
  have hR : Rp G 92 ff σ_70 s H _ := hR
  refine W.widen (k := 21) (n := 144) (Nat.le_of_ble_eq_true rfl) (Nat.le_of_ble_eq_true rfl) ?_
  refine q_aas (ti := 5) (ci := 5) X hR ka_71 (Or.inl ⟨rfl, rfl, rfl⟩) (by omega) kh_90 (by decide) rfl (inB_in rfl) dX6_init_64 (fun H locs σ_72 eσ_72 hR => ?_)
  replace hf := z_l_e eσ_72 hf
  refine lv_iinc (v := (9 : Int32)) (lv' := [(1, .int (9 : Int32)), (0, .ref (G.2.2 + 70))]) hx hb dX6_init_65 hl (k := 0) rfl (by decide) (by decide) rfl (fun ls hl => ?_)
  refine lv_goto (tgt := 46) hx hb dX6_init_68 (by decide) ?_
  refine lv_iload_n hx hb dX6_init_46 rfl (lv_at hl 0 rfl) ?_
  refine lv_bipush (v := (30 : Int32)) hx hb dX6_init_47 (by decide) ?_
  refine lv_icmp_ge (tgt := 71) hx hb dX6_init_49 (by decide) (fun c_73 => absurd c_73 (by decide)) (fun c_73 => ?_)
  refine lv_aload_n hx hb dX6_init_52 rfl (lv_at hl 1 rfl) ?_
  obtain ⟨gg_74, hf⟩ := z_e_e hf
  refine q_gr X hR cg_6_11.1 cg_6_11.2 kh_70 (by decide) gg_74 dX6_init_53 ?_
  refine lv_iload_n hx hb dX6_init_56 rfl (lv_at hl 0 rfl) ?_
  refine q_new (N := 5) X hR (kd_lt kh_92 (by decide)) rfl kh_92 (by decide) rfl cl_6_9 ins_5 ini_5 (Nat.le_of_ble_eq_true rfl) (Nat.le_of_ble_eq_true rfl) dX6_init_57 (fun H σ_75 eσ_75 hR => ?_)
  replace hf := z_l_e eσ_75 hf
  have hR : Rp G 93 ff σ_75 s H _ := hR
  refine W.widen (k := 22) (n := 149) (Nat.le_of_ble_eq_true rfl) (Nat.le_of_ble_eq_true rfl) ?_
  refine lv_dup hx hb dX6_init_60 rfl ?_
  obtain ⟨r_76, σ_77, hc_78, hf⟩ := z_b_e hf
  refine go_m hR (mi_run (As := []) (rest := [.ref (G.2.2 + 92), .int (9 : Int32), .ref (G.2.2 + 71)]) X hR mi_6_36 (c5_init l G N kh_92 hc_78) ⟨rfl, rfl, Nat.le_of_ble_eq_true rfl, Nat.le_of_ble_eq_true rfl⟩ rfl hl.1 rfl (Nat.le_of_ble_eq_true rfl) dX6_init_61 ⟨Nat.le_of_ble_eq_true rfl, Nat.le_of_ble_eq_true rfl⟩) (fun H locs hR => ?_)
  have hR : Rp G 94 ff σ_77 s H _ := hR
  refine W.widen (k := 23) (n := 156) (Nat.le_of_ble_eq_true rfl) (Nat.le_of_ble_eq_true rfl) ?_
  refine q_aas (ti := 5) (ci := 5) X hR ka_71 (Or.inl ⟨rfl, rfl, rfl⟩) (by omega) kh_92 (by decide) rfl (inB_in rfl) dX6_init_64 (fun H locs σ_79 eσ_79 hR => ?_)
  replace hf := z_l_e eσ_79 hf
  refine lv_iinc (v := (10 : Int32)) (lv' := [(1, .int (10 : Int32)), (0, .ref (G.2.2 + 70))]) hx hb dX6_init_65 hl (k := 0) rfl (by decide) (by decide) rfl (fun ls hl => ?_)
  refine lv_goto (tgt := 46) hx hb dX6_init_68 (by decide) ?_
  refine lv_iload_n hx hb dX6_init_46 rfl (lv_at hl 0 rfl) ?_
  refine lv_bipush (v := (30 : Int32)) hx hb dX6_init_47 (by decide) ?_
  refine lv_icmp_ge (tgt := 71) hx hb dX6_init_49 (by decide) (fun c_80 => absurd c_80 (by decide)) (fun c_80 => ?_)
  refine lv_aload_n hx hb dX6_init_52 rfl (lv_at hl 1 rfl) ?_
  obtain ⟨gg_81, hf⟩ := z_e_e hf
  refine q_gr X hR cg_6_11.1 cg_6_11.2 kh_70 (by decide) gg_81 dX6_init_53 ?_
  refine lv_iload_n hx hb dX6_init_56 rfl (lv_at hl 0 rfl) ?_
  refine q_new (N := 5) X hR (kd_lt kh_94 (by decide)) rfl kh_94 (by decide) rfl cl_6_9 ins_5 ini_5 (Nat.le_of_ble_eq_true rfl) (Nat.le_of_ble_eq_true rfl) dX6_init_57 (fun H σ_82 eσ_82 hR => ?_)
  replace hf := z_l_e eσ_82 hf
  have hR : Rp G 95 ff σ_82 s H _ := hR
  refine W.widen (k := 24) (n := 161) (Nat.le_of_ble_eq_true rfl) (Nat.le_of_ble_eq_true rfl) ?_
  refine lv_dup hx hb dX6_init_60 rfl ?_
  obtain ⟨r_83, σ_84, hc_85, hf⟩ := z_b_e hf
  refine go_m hR (mi_run (As := []) (rest := [.ref (G.2.2 + 94), .int (10 : Int32), .ref (G.2.2 + 71)]) X hR mi_6_36 (c5_init l G N kh_94 hc_85) ⟨rfl, rfl, Nat.le_of_ble_eq_true rfl, Nat.le_of_ble_eq_true rfl⟩ rfl hl.1 rfl (Nat.le_of_ble_eq_true rfl) dX6_init_61 ⟨Nat.le_of_ble_eq_true rfl, Nat.le_of_ble_eq_true rfl⟩) (fun H locs hR => ?_)
  have hR : Rp G 96 ff σ_84 s H _ := hR
  refine W.widen (k := 25) (n := 168) (Nat.le_of_ble_eq_true rfl) (Nat.le_of_ble_eq_true rfl) ?_
  refine q_aas (ti := 5) (ci := 5) X hR ka_71 (Or.inl ⟨rfl, rfl, rfl⟩) (by omega) kh_94 (by decide) rfl (inB_in rfl) dX6_init_64 (fun H locs σ_86 eσ_86 hR => ?_)
  replace hf := z_l_e eσ_86 hf
  refine lv_iinc (v := (11 : Int32)) (lv' := [(1, .int (11 : Int32)), (0, .ref (G.2.2 + 70))]) hx hb dX6_init_65 hl (k := 0) rfl (by decide) (by decide) rfl (fun ls hl => ?_)
  refine lv_goto (tgt := 46) hx hb dX6_init_68 (by decide) ?_
  refine lv_iload_n hx hb dX6_init_46 rfl (lv_at hl 0 rfl) ?_
  refine lv_bipush (v := (30 : Int32)) hx hb dX6_init_47 (by decide) ?_
  refine lv_icmp_ge (tgt := 71) hx hb dX6_init_49 (by decide) (fun c_87 => absurd c_87 (by decide)) (fun c_87 => ?_)
  refine lv_aload_n hx hb dX6_init_52 rfl (lv_at hl 1 rfl) ?_
  obtain ⟨gg_88, hf⟩ := z_e_e hf
  refine q_gr X hR cg_6_11.1 cg_6_11.2 kh_70 (by decide) gg_88 dX6_init_53 ?_
  refine lv_iload_n hx hb dX6_init_56 rfl (lv_at hl 0 rfl) ?_
  refine q_new (N := 5) X hR (kd_lt kh_96 (by decide)) rfl kh_96 (by decide) rfl cl_6_9 ins_5 ini_5 (Nat.le_of_ble_eq_true rfl) (Nat.le_of_ble_eq_true rfl) dX6_init_57 (fun H σ_89 eσ_89 hR => ?_)
  replace hf := z_l_e eσ_89 hf
  have hR : Rp G 97 ff σ_89 s H _ := hR
  refine W.widen (k := 26) (n := 173) (Nat.le_of_ble_eq_true rfl) (Nat.le_of_ble_eq_true rfl) ?_
  refine lv_dup hx hb dX6_init_60 rfl ?_
  obtain ⟨r_90, σ_91, hc_92, hf⟩ := z_b_e hf
  refine go_m hR (mi_run (As := []) (rest := [.ref (G.2.2 + 96), .int (11 : Int32), .ref (G.2.2 + 71)]) X hR mi_6_36 (c5_init l G N kh_96 hc_92) ⟨rfl, rfl, Nat.le_of_ble_eq_true rfl, Nat.le_of_ble_eq_true rfl⟩ rfl hl.1 rfl (Nat.le_of_ble_eq_true rfl) dX6_init_61 ⟨Nat.le_of_ble_eq_true rfl, Nat.le_of_ble_eq_true rfl⟩) (fun H locs hR => ?_)
  have hR : Rp G 98 ff σ_91 s H _ := hR
  refine W.widen (k := 27) (n := 180) (Nat.le_of_ble_eq_true rfl) (Nat.le_of_ble_eq_true rfl) ?_
  refine q_aas (ti := 5) (ci := 5) X hR ka_71 (Or.inl ⟨rfl, rfl, rfl⟩) (by omega) kh_96 (by decide) rfl (inB_in rfl) dX6_init_64 (fun H locs σ_93 eσ_93 hR => ?_)
  replace hf := z_l_e eσ_93 hf
  refine lv_iinc (v := (12 : Int32)) (lv' := [(1, .int (12 : Int32)), (0, .ref (G.2.2 + 70))]) hx hb dX6_init_65 hl (k := 0) rfl (by decide) (by decide) rfl (fun ls hl => ?_)
  refine lv_goto (tgt := 46) hx hb dX6_init_68 (by decide) ?_
  refine lv_iload_n hx hb dX6_init_46 rfl (lv_at hl 0 rfl) ?_
  refine lv_bipush (v := (30 : Int32)) hx hb dX6_init_47 (by decide) ?_
  refine lv_icmp_ge (tgt := 71) hx hb dX6_init_49 (by decide) (fun c_94 => absurd c_94 (by decide)) (fun c_94 => ?_)
  refine lv_aload_n hx hb dX6_init_52 rfl (lv_at hl 1 rfl) ?_
  obtain ⟨gg_95, hf⟩ := z_e_e hf
  refine q_gr X hR cg_6_11.1 cg_6_11.2 kh_70 (by decide) gg_95 dX6_init_53 ?_
  refine lv_iload_n hx hb dX6_init_56 rfl (lv_at hl 0 rfl) ?_
  refine q_new (N := 5) X hR (kd_lt kh_98 (by decide)) rfl kh_98 (by decide) rfl cl_6_9 ins_5 ini_5 (Nat.le_of_ble_eq_true rfl) (Nat.le_of_ble_eq_true rfl) dX6_init_57 (fun H σ_96 eσ_96 hR => ?_)
  replace hf := z_l_e eσ_96 hf
  have hR : Rp G 99 ff σ_96 s H _ := hR
  refine W.widen (k := 28) (n := 185) (Nat.le_of_ble_eq_true rfl) (Nat.le_of_ble_eq_true rfl) ?_
  refine lv_dup hx hb dX6_init_60 rfl ?_
  obtain ⟨r_97, σ_98, hc_99, hf⟩ := z_b_e hf
  refine go_m hR (mi_run (As := []) (rest := [.ref (G.2.2 + 98), .int (12 : Int32), .ref (G.2.2 + 71)]) X hR mi_6_36 (c5_init l G N kh_98 hc_99) ⟨rfl, rfl, Nat.le_of_ble_eq_true rfl, Nat.le_of_ble_eq_true rfl⟩ rfl hl.1 rfl (Nat.le_of_ble_eq_true rfl) dX6_init_61 ⟨Nat.le_of_ble_eq_true rfl, Nat.le_of_ble_eq_true rfl⟩) (fun H locs hR => ?_)
  have hR : Rp G 100 ff σ_98 s H _ := hR
  refine W.widen (k := 29) (n := 192) (Nat.le_of_ble_eq_true rfl) (Nat.le_of_ble_eq_true rfl) ?_
  refine q_aas (ti := 5) (ci := 5) X hR ka_71 (Or.inl ⟨rfl, rfl, rfl⟩) (by omega) kh_98 (by decide) rfl (inB_in rfl) dX6_init_64 (fun H locs σ_100 eσ_100 hR => ?_)
  replace hf := z_l_e eσ_100 hf
  refine lv_iinc (v := (13 : Int32)) (lv' := [(1, .int (13 : Int32)), (0, .ref (G.2.2 + 70))]) hx hb dX6_init_65 hl (k := 0) rfl (by decide) (by decide) rfl (fun ls hl => ?_)
  refine lv_goto (tgt := 46) hx hb dX6_init_68 (by decide) ?_
  refine lv_iload_n hx hb dX6_init_46 rfl (lv_at hl 0 rfl) ?_
  refine lv_bipush (v := (30 : Int32)) hx hb dX6_init_47 (by decide) ?_
  refine lv_icmp_ge (tgt := 71) hx hb dX6_init_49 (by decide) (fun c_101 => absurd c_101 (by decide)) (fun c_101 => ?_)
  refine lv_aload_n hx hb dX6_init_52 rfl (lv_at hl 1 rfl) ?_
  obtain ⟨gg_102, hf⟩ := z_e_e hf
  refine q_gr X hR cg_6_11.1 cg_6_11.2 kh_70 (by decide) gg_102 dX6_init_53 ?_
  refine lv_iload_n hx hb dX6_init_56 rfl (lv_at hl 0 rfl) ?_
  refine q_new (N := 5) X hR (kd_lt kh_100 (by decide)) rfl kh_100 (by decide) rfl cl_6_9 ins_5 ini_5 (Nat.le_of_ble_eq_true rfl) (Nat.le_of_ble_eq_true rfl) dX6_init_57 (fun H σ_103 eσ_103 hR => ?_)
  replace hf := z_l_e eσ_103 hf
  have hR : Rp G 101 ff σ_103 s H _ := hR
  refine W.widen (k := 30) (n := 197) (Nat.le_of_ble_eq_true rfl) (Nat.le_of_ble_eq_true rfl) ?_
  refine lv_dup hx hb dX6_init_60 rfl ?_
  obtain ⟨r_104, σ_105, hc_106, hf⟩ := z_b_e hf
  refine go_m hR (mi_run (As := []) (rest := [.ref (G.2.2 + 100), .int (13 : Int32), .ref (G.2.2 + 71)]) X hR mi_6_36 (c5_init l G N kh_100 hc_106) ⟨rfl, rfl, Nat.le_of_ble_eq_true rfl, Nat.le_of_ble_eq_true rfl⟩ rfl hl.1 rfl (Nat.le_of_ble_eq_true rfl) dX6_init_61 ⟨Nat.le_of_ble_eq_true rfl, Nat.le_of_ble_eq_true rfl⟩) (fun H locs hR => ?_)
  have hR : Rp G 102 ff σ_105 s H _ := hR
  refine W.widen (k := 31) (n := 204) (Nat.le_of_ble_eq_true rfl) (Nat.le_of_ble_eq_true rfl) ?_
  refine q_aas (ti := 5) (ci := 5) X hR ka_71 (Or.inl ⟨rfl, rfl, rfl⟩) (by omega) kh_100 (by decide) rfl (inB_in rfl) dX6_init_64 (fun H locs σ_107 eσ_107 hR => ?_)
  replace hf := z_l_e eσ_107 hf
  refine lv_iinc (v := (14 : Int32)) (lv' := [(1, .int (14 : Int32)), (0, .ref (G.2.2 + 70))]) hx hb dX6_init_65 hl (k := 0) rfl (by decide) (by decide) rfl (fun ls hl => ?_)
  refine lv_goto (tgt := 46) hx hb dX6_init_68 (by decide) ?_
  refine lv_iload_n hx hb dX6_init_46 rfl (lv_at hl 0 rfl) ?_
  refine lv_bipush (v := (30 : Int32)) hx hb dX6_init_47 (by decide) ?_
  refine lv_icmp_ge (tgt := 71) hx hb dX6_init_49 (by decide) (fun c_108 => absurd c_108 (by decide)) (fun c_108 => ?_)
  refine lv_aload_n hx hb dX6_init_52 rfl (lv_at hl 1 rfl) ?_
  obtain ⟨gg_109, hf⟩ := z_e_e hf
  refine q_gr X hR cg_6_11.1 cg_6_11.2 kh_70 (by decide) gg_109 dX6_init_53 ?_
  refine lv_iload_n hx hb dX6_init_56 rfl (lv_at hl 0 rfl) ?_
  refine q_new (N := 5) X hR (kd_lt kh_102 (by decide)) rfl kh_102 (by decide) rfl cl_6_9 ins_5 ini_5 (Nat.le_of_ble_eq_true rfl) (Nat.le_of_ble_eq_true rfl) dX6_init_57 (fun H σ_110 eσ_110 hR => ?_)
  replace hf := z_l_e eσ_110 hf
  have hR : Rp G 103 ff σ_110 s H _ := hR
  refine W.widen (k := 32) (n := 209) (Nat.le_of_ble_eq_true rfl) (Nat.le_of_ble_eq_true rfl) ?_
  refine lv_dup hx hb dX6_init_60 rfl ?_
  obtain ⟨r_111, σ_112, hc_113, hf⟩ := z_b_e hf
  refine go_m hR (mi_run (As := []) (rest := [.ref (G.2.2 + 102), .int (14 : Int32), .ref (G.2.2 + 71)]) X hR mi_6_36 (c5_init l G N kh_102 hc_113) ⟨rfl, rfl, Nat.le_of_ble_eq_true rfl, Nat.le_of_ble_eq_true rfl⟩ rfl hl.1 rfl (Nat.le_of_ble_eq_true rfl) dX6_init_61 ⟨Nat.le_of_ble_eq_true rfl, Nat.le_of_ble_eq_true rfl⟩) (fun H locs hR => ?_)
  have hR : Rp G 104 ff σ_112 s H _ := hR
  refine W.widen (k := 33) (n := 216) (Nat.le_of_ble_eq_true rfl) (Nat.le_of_ble_eq_true rfl) ?_
  refine q_aas (ti := 5) (ci := 5) X hR ka_71 (Or.inl ⟨rfl, rfl, rfl⟩) (by omega) kh_102 (by decide) rfl (inB_in rfl) dX6_init_64 (fun H locs σ_114 eσ_114 hR => ?_)
  replace hf := z_l_e eσ_114 hf
  refine lv_iinc (v := (15 : Int32)) (lv' := [(1, .int (15 : Int32)), (0, .ref (G.2.2 + 70))]) hx hb dX6_init_65 hl (k := 0) rfl (by decide) (by decide) rfl (fun ls hl => ?_)
  refine lv_goto (tgt := 46) hx hb dX6_init_68 (by decide) ?_
  refine lv_iload_n hx hb dX6_init_46 rfl (lv_at hl 0 rfl) ?_
  refine lv_bipush (v := (30 : Int32)) hx hb dX6_init_47 (by decide) ?_
  refine lv_icmp_ge (tgt := 71) hx hb dX6_init_49 (by decide) (fun c_115 => absurd c_115 (by decide)) (fun c_115 => ?_)
  refine lv_aload_n hx hb dX6_init_52 rfl (lv_at hl 1 rfl) ?_
  obtain ⟨gg_116, hf⟩ := z_e_e hf
  refine q_gr X hR cg_6_11.1 cg_6_11.2 kh_70 (by decide) gg_116 dX6_init_53 ?_
  refine lv_iload_n hx hb dX6_init_56 rfl (lv_at hl 0 rfl) ?_
  refine q_new (N := 5) X hR (kd_lt kh_104 (by decide)) rfl kh_104 (by decide) rfl cl_6_9 ins_5 ini_5 (Nat.le_of_ble_eq_true rfl) (Nat.le_of_ble_eq_true rfl) dX6_init_57 (fun H σ_117 eσ_117 hR => ?_)
  replace hf := z_l_e eσ_117 hf
  have hR : Rp G 105 ff σ_117 s H _ := hR
  refine W.widen (k := 34) (n := 221) (Nat.le_of_ble_eq_true rfl) (Nat.le_of_ble_eq_true rfl) ?_
  refine lv_dup hx hb dX6_init_60 rfl ?_
  obtain ⟨r_118, σ_119, hc_120, hf⟩ := z_b_e hf
  refine go_m hR (mi_run (As := []) (rest := [.ref (G.2.2 + 104), .int (15 : Int32), .ref (G.2.2 + 71)]) X hR mi_6_36 (c5_init l G N kh_104 hc_120) ⟨rfl, rfl, Nat.le_of_ble_eq_true rfl, Nat.le_of_ble_eq_true rfl⟩ rfl hl.1 rfl (Nat.le_of_ble_eq_true rfl) dX6_init_61 ⟨Nat.le_of_ble_eq_true rfl, Nat.le_of_ble_eq_true rfl⟩) (fun H locs hR => ?_)
  have hR : Rp G 106 ff σ_119 s H _ := hR
  refine W.widen (k := 35) (n := 228) (Nat.le_of_ble_eq_true rfl) (Nat.le_of_ble_eq_true rfl) ?_
  refine q_aas (ti := 5) (ci := 5) X hR ka_71 (Or.inl ⟨rfl, rfl, rfl⟩) (by omega) kh_104 (by decide) rfl (inB_in rfl) dX6_init_64 (fun H locs σ_121 eσ_121 hR => ?_)
  replace hf := z_l_e eσ_121 hf
  refine lv_iinc (v := (16 : Int32)) (lv' := [(1, .int (16 : Int32)), (0, .ref (G.2.2 + 70))]) hx hb dX6_init_65 hl (k := 0) rfl (by decide) (by decide) rfl (fun ls hl => ?_)
  refine lv_goto (tgt := 46) hx hb dX6_init_68 (by decide) ?_
  refine lv_iload_n hx hb dX6_init_46 rfl (lv_at hl 0 rfl) ?_
  refine lv_bipush (v := (30 : Int32)) hx hb dX6_init_47 (by decide) ?_
  refine lv_icmp_ge (tgt := 71) hx hb dX6_init_49 (by decide) (fun c_122 => absurd c_122 (by decide)) (fun c_122 => ?_)
  refine lv_aload_n hx hb dX6_init_52 rfl (lv_at hl 1 rfl) ?_
  obtain ⟨gg_123, hf⟩ := z_e_e hf
  refine q_gr X hR cg_6_11.1 cg_6_11.2 kh_70 (by decide) gg_123 dX6_init_53 ?_
  refine lv_iload_n hx hb dX6_init_56 rfl (lv_at hl 0 rfl) ?_
  refine q_new (N := 5) X hR (kd_lt kh_106 (by decide)) rfl kh_106 (by decide) rfl cl_6_9 ins_5 ini_5 (Nat.le_of_ble_eq_true rfl) (Nat.le_of_ble_eq_true rfl) dX6_init_57 (fun H σ_124 eσ_124 hR => ?_)
  replace hf := z_l_e eσ_124 hf
  have hR : Rp G 107 ff σ_124 s H _ := hR
  refine W.widen (k := 36) (n := 233) (Nat.le_of_ble_eq_true rfl) (Nat.le_of_ble_eq_true rfl) ?_
  refine lv_dup hx hb dX6_init_60 rfl ?_
  obtain ⟨r_125, σ_126, hc_127, hf⟩ := z_b_e hf
  refine go_m hR (mi_run (As := []) (rest := [.ref (G.2.2 + 106), .int (16 : Int32), .ref (G.2.2 + 71)]) X hR mi_6_36 (c5_init l G N kh_106 hc_127) ⟨rfl, rfl, Nat.le_of_ble_eq_true rfl, Nat.le_of_ble_eq_true rfl⟩ rfl hl.1 rfl (Nat.le_of_ble_eq_true rfl) dX6_init_61 ⟨Nat.le_of_ble_eq_true rfl, Nat.le_of_ble_eq_true rfl⟩) (fun H locs hR => ?_)
  have hR : Rp G 108 ff σ_126 s H _ := hR
  refine W.widen (k := 37) (n := 240) (Nat.le_of_ble_eq_true rfl) (Nat.le_of_ble_eq_true rfl) ?_
  refine q_aas (ti := 5) (ci := 5) X hR ka_71 (Or.inl ⟨rfl, rfl, rfl⟩) (by omega) kh_106 (by decide) rfl (inB_in rfl) dX6_init_64 (fun H locs σ_128 eσ_128 hR => ?_)
  replace hf := z_l_e eσ_128 hf
  refine lv_iinc (v := (17 : Int32)) (lv' := [(1, .int (17 : Int32)), (0, .ref (G.2.2 + 70))]) hx hb dX6_init_65 hl (k := 0) rfl (by decide) (by decide) rfl (fun ls hl => ?_)
  refine lv_goto (tgt := 46) hx hb dX6_init_68 (by decide) ?_
  refine lv_iload_n hx hb dX6_init_46 rfl (lv_at hl 0 rfl) ?_
  refine lv_bipush (v := (30 : Int32)) hx hb dX6_init_47 (by decide) ?_
  refine lv_icmp_ge (tgt := 71) hx hb dX6_init_49 (by decide) (fun c_129 => absurd c_129 (by decide)) (fun c_129 => ?_)
  refine lv_aload_n hx hb dX6_init_52 rfl (lv_at hl 1 rfl) ?_
  obtain ⟨gg_130, hf⟩ := z_e_e hf
  refine q_gr X hR cg_6_11.1 cg_6_11.2 kh_70 (by decide) gg_130 dX6_init_53 ?_
  refine lv_iload_n hx hb dX6_init_56 rfl (lv_at hl 0 rfl) ?_
  refine q_new (N := 5) X hR (kd_lt kh_108 (by decide)) rfl kh_108 (by decide) rfl cl_6_9 ins_5 ini_5 (Nat.le_of_ble_eq_true rfl) (Nat.le_of_ble_eq_true rfl) dX6_init_57 (fun H σ_131 eσ_131 hR => ?_)
  replace hf := z_l_e eσ_131 hf
  have hR : Rp G 109 ff σ_131 s H _ := hR
  refine W.widen (k := 38) (n := 245) (Nat.le_of_ble_eq_true rfl) (Nat.le_of_ble_eq_true rfl) ?_
  refine lv_dup hx hb dX6_init_60 rfl ?_
  obtain ⟨r_132, σ_133, hc_134, hf⟩ := z_b_e hf
  refine go_m hR (mi_run (As := []) (rest := [.ref (G.2.2 + 108), .int (17 : Int32), .ref (G.2.2 + 71)]) X hR mi_6_36 (c5_init l G N kh_108 hc_134) ⟨rfl, rfl, Nat.le_of_ble_eq_true rfl, Nat.le_of_ble_eq_true rfl⟩ rfl hl.1 rfl (Nat.le_of_ble_eq_true rfl) dX6_init_61 ⟨Nat.le_of_ble_eq_true rfl, Nat.le_of_ble_eq_true rfl⟩) (fun H locs hR => ?_)
  have hR : Rp G 110 ff σ_133 s H _ := hR
  refine W.widen (k := 39) (n := 252) (Nat.le_of_ble_eq_true rfl) (Nat.le_of_ble_eq_true rfl) ?_
  refine q_aas (ti := 5) (ci := 5) X hR ka_71 (Or.inl ⟨rfl, rfl, rfl⟩) (by omega) kh_108 (by decide) rfl (inB_in rfl) dX6_init_64 (fun H locs σ_135 eσ_135 hR => ?_)
  replace hf := z_l_e eσ_135 hf
  refine lv_iinc (v := (18 : Int32)) (lv' := [(1, .int (18 : Int32)), (0, .ref (G.2.2 + 70))]) hx hb dX6_init_65 hl (k := 0) rfl (by decide) (by decide) rfl (fun ls hl => ?_)
  refine lv_goto (tgt := 46) hx hb dX6_init_68 (by decide) ?_
  refine lv_iload_n hx hb dX6_init_46 rfl (lv_at hl 0 rfl) ?_
  refine lv_bipush (v := (30 : Int32)) hx hb dX6_init_47 (by decide) ?_
  refine lv_icmp_ge (tgt := 71) hx hb dX6_init_49 (by decide) (fun c_136 => absurd c_136 (by decide)) (fun c_136 => ?_)
  refine lv_aload_n hx hb dX6_init_52 rfl (lv_at hl 1 rfl) ?_
  obtain ⟨gg_137, hf⟩ := z_e_e hf
  refine q_gr X hR cg_6_11.1 cg_6_11.2 kh_70 (by decide) gg_137 dX6_init_53 ?_
  refine lv_iload_n hx hb dX6_init_56 rfl (lv_at hl 0 rfl) ?_
  refine q_new (N := 5) X hR (kd_lt kh_110 (by decide)) rfl kh_110 (by decide) rfl cl_6_9 ins_5 ini_5 (Nat.le_of_ble_eq_true rfl) (Nat.le_of_ble_eq_true rfl) dX6_init_57 (fun H σ_138 eσ_138 hR => ?_)
  replace hf := z_l_e eσ_138 hf
  have hR : Rp G 111 ff σ_138 s H _ := hR
  refine W.widen (k := 40) (n := 257) (Nat.le_of_ble_eq_true rfl) (Nat.le_of_ble_eq_true rfl) ?_
  refine lv_dup hx hb dX6_init_60 rfl ?_
  obtain ⟨r_139, σ_140, hc_141, hf⟩ := z_b_e hf
  refine go_m hR (mi_run (As := []) (rest := [.ref (G.2.2 + 110), .int (18 : Int32), .ref (G.2.2 + 71)]) X hR mi_6_36 (c5_init l G N kh_110 hc_141) ⟨rfl, rfl, Nat.le_of_ble_eq_true rfl, Nat.le_of_ble_eq_true rfl⟩ rfl hl.1 rfl (Nat.le_of_ble_eq_true rfl) dX6_init_61 ⟨Nat.le_of_ble_eq_true rfl, Nat.le_of_ble_eq_true rfl⟩) (fun H locs hR => ?_)
  have hR : Rp G 112 ff σ_140 s H _ := hR
  refine W.widen (k := 41) (n := 264) (Nat.le_of_ble_eq_true rfl) (Nat.le_of_ble_eq_true rfl) ?_
  refine q_aas (ti := 5) (ci := 5) X hR ka_71 (Or.inl ⟨rfl, rfl, rfl⟩) (by omega) kh_110 (by decide) rfl (inB_in rfl) dX6_init_64 (fun H locs σ_142 eσ_142 hR => ?_)
  replace hf := z_l_e eσ_142 hf
  refine lv_iinc (v := (19 : Int32)) (lv' := [(1, .int (19 : Int32)), (0, .ref (G.2.2 + 70))]) hx hb dX6_init_65 hl (k := 0) rfl (by decide) (by decide) rfl (fun ls hl => ?_)
  refine lv_goto (tgt := 46) hx hb dX6_init_68 (by decide) ?_
  refine lv_iload_n hx hb dX6_init_46 rfl (lv_at hl 0 rfl) ?_
  refine lv_bipush (v := (30 : Int32)) hx hb dX6_init_47 (by decide) ?_
  refine lv_icmp_ge (tgt := 71) hx hb dX6_init_49 (by decide) (fun c_143 => absurd c_143 (by decide)) (fun c_143 => ?_)
  refine lv_aload_n hx hb dX6_init_52 rfl (lv_at hl 1 rfl) ?_
  obtain ⟨gg_144, hf⟩ := z_e_e hf
  refine q_gr X hR cg_6_11.1 cg_6_11.2 kh_70 (by decide) gg_144 dX6_init_53 ?_
  refine lv_iload_n hx hb dX6_init_56 rfl (lv_at hl 0 rfl) ?_
  refine q_new (N := 5) X hR (kd_lt kh_112 (by decide)) rfl kh_112 (by decide) rfl cl_6_9 ins_5 ini_5 (Nat.le_of_ble_eq_true rfl) (Nat.le_of_ble_eq_true rfl) dX6_init_57 (fun H σ_145 eσ_145 hR => ?_)
  replace hf := z_l_e eσ_145 hf
  have hR : Rp G 113 ff σ_145 s H _ := hR
  refine W.widen (k := 42) (n := 269) (Nat.le_of_ble_eq_true rfl) (Nat.le_of_ble_eq_true rfl) ?_
  refine lv_dup hx hb dX6_init_60 rfl ?_
  obtain ⟨r_146, σ_147, hc_148, hf⟩ := z_b_e hf
  refine go_m hR (mi_run (As := []) (rest := [.ref (G.2.2 + 112), .int (19 : Int32), .ref (G.2.2 + 71)]) X hR mi_6_36 (c5_init l G N kh_112 hc_148) ⟨rfl, rfl, Nat.le_of_ble_eq_true rfl, Nat.le_of_ble_eq_true rfl⟩ rfl hl.1 rfl (Nat.le_of_ble_eq_true rfl) dX6_init_61 ⟨Nat.le_of_ble_eq_true rfl, Nat.le_of_ble_eq_true rfl⟩) (fun H locs hR => ?_)
  have hR : Rp G 114 ff σ_147 s H _ := hR
  refine W.widen (k := 43) (n := 276) (Nat.le_of_ble_eq_true rfl) (Nat.le_of_ble_eq_true rfl) ?_
  refine q_aas (ti := 5) (ci := 5) X hR ka_71 (Or.inl ⟨rfl, rfl, rfl⟩) (by omega) kh_112 (by decide) rfl (inB_in rfl) dX6_init_64 (fun H locs σ_149 eσ_149 hR => ?_)
  replace hf := z_l_e eσ_149 hf
  refine lv_iinc (v := (20 : Int32)) (lv' := [(1, .int (20 : Int32)), (0, .ref (G.2.2 + 70))]) hx hb dX6_init_65 hl (k := 0) rfl (by decide) (by decide) rfl (fun ls hl => ?_)
  refine lv_goto (tgt := 46) hx hb dX6_init_68 (by decide) ?_
  refine lv_iload_n hx hb dX6_init_46 rfl (lv_at hl 0 rfl) ?_
  refine lv_bipush (v := (30 : Int32)) hx hb dX6_init_47 (by decide) ?_
  refine lv_icmp_ge (tgt := 71) hx hb dX6_init_49 (by decide) (fun c_150 => absurd c_150 (by decide)) (fun c_150 => ?_)
  refine lv_aload_n hx hb dX6_init_52 rfl (lv_at hl 1 rfl) ?_
  obtain ⟨gg_151, hf⟩ := z_e_e hf
  refine q_gr X hR cg_6_11.1 cg_6_11.2 kh_70 (by decide) gg_151 dX6_init_53 ?_
  refine lv_iload_n hx hb dX6_init_56 rfl (lv_at hl 0 rfl) ?_
  refine q_new (N := 5) X hR (kd_lt kh_114 (by decide)) rfl kh_114 (by decide) rfl cl_6_9 ins_5 ini_5 (Nat.le_of_ble_eq_true rfl) (Nat.le_of_ble_eq_true rfl) dX6_init_57 (fun H σ_152 eσ_152 hR => ?_)
  replace hf := z_l_e eσ_152 hf
  have hR : Rp G 115 ff σ_152 s H _ := hR
  refine W.widen (k := 44) (n := 281) (Nat.le_of_ble_eq_true rfl) (Nat.le_of_ble_eq_true rfl) ?_
  refine lv_dup hx hb dX6_init_60 rfl ?_
  obtain ⟨r_153, σ_154, hc_155, hf⟩ := z_b_e hf
  refine go_m hR (mi_run (As := []) (rest := [.ref (G.2.2 + 114), .int (20 : Int32), .ref (G.2.2 + 71)]) X hR mi_6_36 (c5_init l G N kh_114 hc_155) ⟨rfl, rfl, Nat.le_of_ble_eq_true rfl, Nat.le_of_ble_eq_true rfl⟩ rfl hl.1 rfl (Nat.le_of_ble_eq_true rfl) dX6_init_61 ⟨Nat.le_of_ble_eq_true rfl, Nat.le_of_ble_eq_true rfl⟩) (fun H locs hR => ?_)
  have hR : Rp G 116 ff σ_154 s H _ := hR
  refine W.widen (k := 45) (n := 288) (Nat.le_of_ble_eq_true rfl) (Nat.le_of_ble_eq_true rfl) ?_
  refine q_aas (ti := 5) (ci := 5) X hR ka_71 (Or.inl ⟨rfl, rfl, rfl⟩) (by omega) kh_114 (by decide) rfl (inB_in rfl) dX6_init_64 (fun H locs σ_156 eσ_156 hR => ?_)
  replace hf := z_l_e eσ_156 hf
  refine lv_iinc (v := (21 : Int32)) (lv' := [(1, .int (21 : Int32)), (0, .ref (G.2.2 + 70))]) hx hb dX6_init_65 hl (k := 0) rfl (by decide) (by decide) rfl (fun ls hl => ?_)
  refine lv_goto (tgt := 46) hx hb dX6_init_68 (by decide) ?_
  refine lv_iload_n hx hb dX6_init_46 rfl (lv_at hl 0 rfl) ?_
  refine lv_bipush (v := (30 : Int32)) hx hb dX6_init_47 (by decide) ?_
  refine lv_icmp_ge (tgt := 71) hx hb dX6_init_49 (by decide) (fun c_157 => absurd c_157 (by decide)) (fun c_157 => ?_)
  refine lv_aload_n hx hb dX6_init_52 rfl (lv_at hl 1 rfl) ?_
  obtain ⟨gg_158, hf⟩ := z_e_e hf
  refine q_gr X hR cg_6_11.1 cg_6_11.2 kh_70 (by decide) gg_158 dX6_init_53 ?_
  refine lv_iload_n hx hb dX6_init_56 rfl (lv_at hl 0 rfl) ?_
  refine q_new (N := 5) X hR (kd_lt kh_116 (by decide)) rfl kh_116 (by decide) rfl cl_6_9 ins_5 ini_5 (Nat.le_of_ble_eq_true rfl) (Nat.le_of_ble_eq_true rfl) dX6_init_57 (fun H σ_159 eσ_159 hR => ?_)
  replace hf := z_l_e eσ_159 hf
  have hR : Rp G 117 ff σ_159 s H _ := hR
  refine W.widen (k := 46) (n := 293) (Nat.le_of_ble_eq_true rfl) (Nat.le_of_ble_eq_true rfl) ?_
  refine lv_dup hx hb dX6_init_60 rfl ?_
  obtain ⟨r_160, σ_161, hc_162, hf⟩ := z_b_e hf
  refine go_m hR (mi_run (As := []) (rest := [.ref (G.2.2 + 116), .int (21 : Int32), .ref (G.2.2 + 71)]) X hR mi_6_36 (c5_init l G N kh_116 hc_162) ⟨rfl, rfl, Nat.le_of_ble_eq_true rfl, Nat.le_of_ble_eq_true rfl⟩ rfl hl.1 rfl (Nat.le_of_ble_eq_true rfl) dX6_init_61 ⟨Nat.le_of_ble_eq_true rfl, Nat.le_of_ble_eq_true rfl⟩) (fun H locs hR => ?_)
  have hR : Rp G 118 ff σ_161 s H _ := hR
  refine W.widen (k := 47) (n := 300) (Nat.le_of_ble_eq_true rfl) (Nat.le_of_ble_eq_true rfl) ?_
  refine q_aas (ti := 5) (ci := 5) X hR ka_71 (Or.inl ⟨rfl, rfl, rfl⟩) (by omega) kh_116 (by decide) rfl (inB_in rfl) dX6_init_64 (fun H locs σ_163 eσ_163 hR => ?_)
  replace hf := z_l_e eσ_163 hf
  refine lv_iinc (v := (22 : Int32)) (lv' := [(1, .int (22 : Int32)), (0, .ref (G.2.2 + 70))]) hx hb dX6_init_65 hl (k := 0) rfl (by decide) (by decide) rfl (fun ls hl => ?_)
  refine lv_goto (tgt := 46) hx hb dX6_init_68 (by decide) ?_
  refine lv_iload_n hx hb dX6_init_46 rfl (lv_at hl 0 rfl) ?_
  refine lv_bipush (v := (30 : Int32)) hx hb dX6_init_47 (by decide) ?_
  refine lv_icmp_ge (tgt := 71) hx hb dX6_init_49 (by decide) (fun c_164 => absurd c_164 (by decide)) (fun c_164 => ?_)
  refine lv_aload_n hx hb dX6_init_52 rfl (lv_at hl 1 rfl) ?_
  obtain ⟨gg_165, hf⟩ := z_e_e hf
  refine q_gr X hR cg_6_11.1 cg_6_11.2 kh_70 (by decide) gg_165 dX6_init_53 ?_
  refine lv_iload_n hx hb dX6_init_56 rfl (lv_at hl 0 rfl) ?_
  refine q_new (N := 5) X hR (kd_lt kh_118 (by decide)) rfl kh_118 (by decide) rfl cl_6_9 ins_5 ini_5 (Nat.le_of_ble_eq_true rfl) (Nat.le_of_ble_eq_true rfl) dX6_init_57 (fun H σ_166 eσ_166 hR => ?_)
  replace hf := z_l_e eσ_166 hf
  have hR : Rp G 119 ff σ_166 s H _ := hR
  refine W.widen (k := 48) (n := 305) (Nat.le_of_ble_eq_true rfl) (Nat.le_of_ble_eq_true rfl) ?_
  refine lv_dup hx hb dX6_init_60 rfl ?_
  obtain ⟨r_167, σ_168, hc_169, hf⟩ := z_b_e hf
  refine go_m hR (mi_run (As := []) (rest := [.ref (G.2.2 + 118), .int (22 : Int32), .ref (G.2.2 + 71)]) X hR mi_6_36 (c5_init l G N kh_118 hc_169) ⟨rfl, rfl, Nat.le_of_ble_eq_true rfl, Nat.le_of_ble_eq_true rfl⟩ rfl hl.1 rfl (Nat.le_of_ble_eq_true rfl) dX6_init_61 ⟨Nat.le_of_ble_eq_true rfl, Nat.le_of_ble_eq_true rfl⟩) (fun H locs hR => ?_)
  have hR : Rp G 120 ff σ_168 s H _ := hR
  refine W.widen (k := 49) (n := 312) (Nat.le_of_ble_eq_true rfl) (Nat.le_of_ble_eq_true rfl) ?_
  refine q_aas (ti := 5) (ci := 5) X hR ka_71 (Or.inl ⟨rfl, rfl, rfl⟩) (by omega) kh_118 (by decide) rfl (inB_in rfl) dX6_init_64 (fun H locs σ_170 eσ_170 hR => ?_)
  replace hf := z_l_e eσ_170 hf
  refine lv_iinc (v := (23 : Int32)) (lv' := [(1, .int (23 : Int32)), (0, .ref (G.2.2 + 70))]) hx hb dX6_init_65 hl (k := 0) rfl (by decide) (by decide) rfl (fun ls hl => ?_)
  refine lv_goto (tgt := 46) hx hb dX6_init_68 (by decide) ?_
  refine lv_iload_n hx hb dX6_init_46 rfl (lv_at hl 0 rfl) ?_
  refine lv_bipush (v := (30 : Int32)) hx hb dX6_init_47 (by decide) ?_
  refine lv_icmp_ge (tgt := 71) hx hb dX6_init_49 (by decide) (fun c_171 => absurd c_171 (by decide)) (fun c_171 => ?_)
  refine lv_aload_n hx hb dX6_init_52 rfl (lv_at hl 1 rfl) ?_
  obtain ⟨gg_172, hf⟩ := z_e_e hf
  refine q_gr X hR cg_6_11.1 cg_6_11.2 kh_70 (by decide) gg_172 dX6_init_53 ?_
  refine lv_iload_n hx hb dX6_init_56 rfl (lv_at hl 0 rfl) ?_
  refine q_new (N := 5) X hR (kd_lt kh_120 (by decide)) rfl kh_120 (by decide) rfl cl_6_9 ins_5 ini_5 (Nat.le_of_ble_eq_true rfl) (Nat.le_of_ble_eq_true rfl) dX6_init_57 (fun H σ_173 eσ_173 hR => ?_)
  replace hf := z_l_e eσ_173 hf
  have hR : Rp G 121 ff σ_173 s H _ := hR
  refine W.widen (k := 50) (n := 317) (Nat.le_of_ble_eq_true rfl) (Nat.le_of_ble_eq_true rfl) ?_
  refine lv_dup hx hb dX6_init_60 rfl ?_
  obtain ⟨r_174, σ_175, hc_176, hf⟩ := z_b_e hf
  refine go_m hR (mi_run (As := []) (rest := [.ref (G.2.2 + 120), .int (23 : Int32), .ref (G.2.2 + 71)]) X hR mi_6_36 (c5_init l G N kh_120 hc_176) ⟨rfl, rfl, Nat.le_of_ble_eq_true rfl, Nat.le_of_ble_eq_true rfl⟩ rfl hl.1 rfl (Nat.le_of_ble_eq_true rfl) dX6_init_61 ⟨Nat.le_of_ble_eq_true rfl, Nat.le_of_ble_eq_true rfl⟩) (fun H locs hR => ?_)
  have hR : Rp G 122 ff σ_175 s H _ := hR
  refine W.widen (k := 51) (n := 324) (Nat.le_of_ble_eq_true rfl) (Nat.le_of_ble_eq_true rfl) ?_
  refine q_aas (ti := 5) (ci := 5) X hR ka_71 (Or.inl ⟨rfl, rfl, rfl⟩) (by omega) kh_120 (by decide) rfl (inB_in rfl) dX6_init_64 (fun H locs σ_177 eσ_177 hR => ?_)
  replace hf := z_l_e eσ_177 hf
  refine lv_iinc (v := (24 : Int32)) (lv' := [(1, .int (24 : Int32)), (0, .ref (G.2.2 + 70))]) hx hb dX6_init_65 hl (k := 0) rfl (by decide) (by decide) rfl (fun ls hl => ?_)
  refine lv_goto (tgt := 46) hx hb dX6_init_68 (by decide) ?_
  refine lv_iload_n hx hb dX6_init_46 rfl (lv_at hl 0 rfl) ?_
  refine lv_bipush (v := (30 : Int32)) hx hb dX6_init_47 (by decide) ?_
  refine lv_icmp_ge (tgt := 71) hx hb dX6_init_49 (by decide) (fun c_178 => absurd c_178 (by decide)) (fun c_178 => ?_)
  refine lv_aload_n hx hb dX6_init_52 rfl (lv_at hl 1 rfl) ?_
  obtain ⟨gg_179, hf⟩ := z_e_e hf
  refine q_gr X hR cg_6_11.1 cg_6_11.2 kh_70 (by decide) gg_179 dX6_init_53 ?_
  refine lv_iload_n hx hb dX6_init_56 rfl (lv_at hl 0 rfl) ?_
  refine q_new (N := 5) X hR (kd_lt kh_122 (by decide)) rfl kh_122 (by decide) rfl cl_6_9 ins_5 ini_5 (Nat.le_of_ble_eq_true rfl) (Nat.le_of_ble_eq_true rfl) dX6_init_57 (fun H σ_180 eσ_180 hR => ?_)
  replace hf := z_l_e eσ_180 hf
  have hR : Rp G 123 ff σ_180 s H _ := hR
  refine W.widen (k := 52) (n := 329) (Nat.le_of_ble_eq_true rfl) (Nat.le_of_ble_eq_true rfl) ?_
  refine lv_dup hx hb dX6_init_60 rfl ?_
  obtain ⟨r_181, σ_182, hc_183, hf⟩ := z_b_e hf
  refine go_m hR (mi_run (As := []) (rest := [.ref (G.2.2 + 122), .int (24 : Int32), .ref (G.2.2 + 71)]) X hR mi_6_36 (c5_init l G N kh_122 hc_183) ⟨rfl, rfl, Nat.le_of_ble_eq_true rfl, Nat.le_of_ble_eq_true rfl⟩ rfl hl.1 rfl (Nat.le_of_ble_eq_true rfl) dX6_init_61 ⟨Nat.le_of_ble_eq_true rfl, Nat.le_of_ble_eq_true rfl⟩) (fun H locs hR => ?_)
  have hR : Rp G 124 ff σ_182 s H _ := hR
  refine W.widen (k := 53) (n := 336) (Nat.le_of_ble_eq_true rfl) (Nat.le_of_ble_eq_true rfl) ?_
  refine q_aas (ti := 5) (ci := 5) X hR ka_71 (Or.inl ⟨rfl, rfl, rfl⟩) (by omega) kh_122 (by decide) rfl (inB_in rfl) dX6_init_64 (fun H locs σ_184 eσ_184 hR => ?_)
  replace hf := z_l_e eσ_184 hf
  refine lv_iinc (v := (25 : Int32)) (lv' := [(1, .int (25 : Int32)), (0, .ref (G.2.2 + 70))]) hx hb dX6_init_65 hl (k := 0) rfl (by decide) (by decide) rfl (fun ls hl => ?_)
  refine lv_goto (tgt := 46) hx hb dX6_init_68 (by decide) ?_
  refine lv_iload_n hx hb dX6_init_46 rfl (lv_at hl 0 rfl) ?_
  refine lv_bipush (v := (30 : Int32)) hx hb dX6_init_47 (by decide) ?_
  refine lv_icmp_ge (tgt := 71) hx hb dX6_init_49 (by decide) (fun c_185 => absurd c_185 (by decide)) (fun c_185 => ?_)
  refine lv_aload_n hx hb dX6_init_52 rfl (lv_at hl 1 rfl) ?_
  obtain ⟨gg_186, hf⟩ := z_e_e hf
  refine q_gr X hR cg_6_11.1 cg_6_11.2 kh_70 (by decide) gg_186 dX6_init_53 ?_
  refine lv_iload_n hx hb dX6_init_56 rfl (lv_at hl 0 rfl) ?_
  refine q_new (N := 5) X hR (kd_lt kh_124 (by decide)) rfl kh_124 (by decide) rfl cl_6_9 ins_5 ini_5 (Nat.le_of_ble_eq_true rfl) (Nat.le_of_ble_eq_true rfl) dX6_init_57 (fun H σ_187 eσ_187 hR => ?_)
  replace hf := z_l_e eσ_187 hf
  have hR : Rp G 125 ff σ_187 s H _ := hR
  refine W.widen (k := 54) (n := 341) (Nat.le_of_ble_eq_true rfl) (Nat.le_of_ble_eq_true rfl) ?_
  refine lv_dup hx hb dX6_init_60 rfl ?_
  obtain ⟨r_188, σ_189, hc_190, hf⟩ := z_b_e hf
  refine go_m hR (mi_run (As := []) (rest := [.ref (G.2.2 + 124), .int (25 : Int32), .ref (G.2.2 + 71)]) X hR mi_6_36 (c5_init l G N kh_124 hc_190) ⟨rfl, rfl, Nat.le_of_ble_eq_true rfl, Nat.le_of_ble_eq_true rfl⟩ rfl hl.1 rfl (Nat.le_of_ble_eq_true rfl) dX6_init_61 ⟨Nat.le_of_ble_eq_true rfl, Nat.le_of_ble_eq_true rfl⟩) (fun H locs hR => ?_)
  have hR : Rp G 126 ff σ_189 s H _ := hR
  refine W.widen (k := 55) (n := 348) (Nat.le_of_ble_eq_true rfl) (Nat.le_of_ble_eq_true rfl) ?_
  refine q_aas (ti := 5) (ci := 5) X hR ka_71 (Or.inl ⟨rfl, rfl, rfl⟩) (by omega) kh_124 (by decide) rfl (inB_in rfl) dX6_init_64 (fun H locs σ_191 eσ_191 hR => ?_)
  replace hf := z_l_e eσ_191 hf
  refine lv_iinc (v := (26 : Int32)) (lv' := [(1, .int (26 : Int32)), (0, .ref (G.2.2 + 70))]) hx hb dX6_init_65 hl (k := 0) rfl (by decide) (by decide) rfl (fun ls hl => ?_)
  refine lv_goto (tgt := 46) hx hb dX6_init_68 (by decide) ?_
  refine lv_iload_n hx hb dX6_init_46 rfl (lv_at hl 0 rfl) ?_
  refine lv_bipush (v := (30 : Int32)) hx hb dX6_init_47 (by decide) ?_
  refine lv_icmp_ge (tgt := 71) hx hb dX6_init_49 (by decide) (fun c_192 => absurd c_192 (by decide)) (fun c_192 => ?_)
  refine lv_aload_n hx hb dX6_init_52 rfl (lv_at hl 1 rfl) ?_
  obtain ⟨gg_193, hf⟩ := z_e_e hf
  refine q_gr X hR cg_6_11.1 cg_6_11.2 kh_70 (by decide) gg_193 dX6_init_53 ?_
  refine lv_iload_n hx hb dX6_init_56 rfl (lv_at hl 0 rfl) ?_
  refine q_new (N := 5) X hR (kd_lt kh_126 (by decide)) rfl kh_126 (by decide) rfl cl_6_9 ins_5 ini_5 (Nat.le_of_ble_eq_true rfl) (Nat.le_of_ble_eq_true rfl) dX6_init_57 (fun H σ_194 eσ_194 hR => ?_)
  replace hf := z_l_e eσ_194 hf
  have hR : Rp G 127 ff σ_194 s H _ := hR
  refine W.widen (k := 56) (n := 353) (Nat.le_of_ble_eq_true rfl) (Nat.le_of_ble_eq_true rfl) ?_
  refine lv_dup hx hb dX6_init_60 rfl ?_
  obtain ⟨r_195, σ_196, hc_197, hf⟩ := z_b_e hf
  refine go_m hR (mi_run (As := []) (rest := [.ref (G.2.2 + 126), .int (26 : Int32), .ref (G.2.2 + 71)]) X hR mi_6_36 (c5_init l G N kh_126 hc_197) ⟨rfl, rfl, Nat.le_of_ble_eq_true rfl, Nat.le_of_ble_eq_true rfl⟩ rfl hl.1 rfl (Nat.le_of_ble_eq_true rfl) dX6_init_61 ⟨Nat.le_of_ble_eq_true rfl, Nat.le_of_ble_eq_true rfl⟩) (fun H locs hR => ?_)
  have hR : Rp G 128 ff σ_196 s H _ := hR
  refine W.widen (k := 57) (n := 360) (Nat.le_of_ble_eq_true rfl) (Nat.le_of_ble_eq_true rfl) ?_
  refine q_aas (ti := 5) (ci := 5) X hR ka_71 (Or.inl ⟨rfl, rfl, rfl⟩) (by omega) kh_126 (by decide) rfl (inB_in rfl) dX6_init_64 (fun H locs σ_198 eσ_198 hR => ?_)
  replace hf := z_l_e eσ_198 hf
  refine lv_iinc (v := (27 : Int32)) (lv' := [(1, .int (27 : Int32)), (0, .ref (G.2.2 + 70))]) hx hb dX6_init_65 hl (k := 0) rfl (by decide) (by decide) rfl (fun ls hl => ?_)
  refine lv_goto (tgt := 46) hx hb dX6_init_68 (by decide) ?_
  refine lv_iload_n hx hb dX6_init_46 rfl (lv_at hl 0 rfl) ?_
  refine lv_bipush (v := (30 : Int32)) hx hb dX6_init_47 (by decide) ?_
  refine lv_icmp_ge (tgt := 71) hx hb dX6_init_49 (by decide) (fun c_199 => absurd c_199 (by decide)) (fun c_199 => ?_)
  refine lv_aload_n hx hb dX6_init_52 rfl (lv_at hl 1 rfl) ?_
  obtain ⟨gg_200, hf⟩ := z_e_e hf
  refine q_gr X hR cg_6_11.1 cg_6_11.2 kh_70 (by decide) gg_200 dX6_init_53 ?_
  refine lv_iload_n hx hb dX6_init_56 rfl (lv_at hl 0 rfl) ?_
  refine q_new (N := 5) X hR (kd_lt kh_128 (by decide)) rfl kh_128 (by decide) rfl cl_6_9 ins_5 ini_5 (Nat.le_of_ble_eq_true rfl) (Nat.le_of_ble_eq_true rfl) dX6_init_57 (fun H σ_201 eσ_201 hR => ?_)
  replace hf := z_l_e eσ_201 hf
  have hR : Rp G 129 ff σ_201 s H _ := hR
  refine W.widen (k := 58) (n := 365) (Nat.le_of_ble_eq_true rfl) (Nat.le_of_ble_eq_true rfl) ?_
  refine lv_dup hx hb dX6_init_60 rfl ?_
  obtain ⟨r_202, σ_203, hc_204, hf⟩ := z_b_e hf
  refine go_m hR (mi_run (As := []) (rest := [.ref (G.2.2 + 128), .int (27 : Int32), .ref (G.2.2 + 71)]) X hR mi_6_36 (c5_init l G N kh_128 hc_204) ⟨rfl, rfl, Nat.le_of_ble_eq_true rfl, Nat.le_of_ble_eq_true rfl⟩ rfl hl.1 rfl (Nat.le_of_ble_eq_true rfl) dX6_init_61 ⟨Nat.le_of_ble_eq_true rfl, Nat.le_of_ble_eq_true rfl⟩) (fun H locs hR => ?_)
  have hR : Rp G 130 ff σ_203 s H _ := hR
  refine W.widen (k := 59) (n := 372) (Nat.le_of_ble_eq_true rfl) (Nat.le_of_ble_eq_true rfl) ?_
  refine q_aas (ti := 5) (ci := 5) X hR ka_71 (Or.inl ⟨rfl, rfl, rfl⟩) (by omega) kh_128 (by decide) rfl (inB_in rfl) dX6_init_64 (fun H locs σ_205 eσ_205 hR => ?_)
  replace hf := z_l_e eσ_205 hf
  refine lv_iinc (v := (28 : Int32)) (lv' := [(1, .int (28 : Int32)), (0, .ref (G.2.2 + 70))]) hx hb dX6_init_65 hl (k := 0) rfl (by decide) (by decide) rfl (fun ls hl => ?_)
  refine lv_goto (tgt := 46) hx hb dX6_init_68 (by decide) ?_
  refine lv_iload_n hx hb dX6_init_46 rfl (lv_at hl 0 rfl) ?_
  refine lv_bipush (v := (30 : Int32)) hx hb dX6_init_47 (by decide) ?_
  refine lv_icmp_ge (tgt := 71) hx hb dX6_init_49 (by decide) (fun c_206 => absurd c_206 (by decide)) (fun c_206 => ?_)
  refine lv_aload_n hx hb dX6_init_52 rfl (lv_at hl 1 rfl) ?_
  obtain ⟨gg_207, hf⟩ := z_e_e hf
  refine q_gr X hR cg_6_11.1 cg_6_11.2 kh_70 (by decide) gg_207 dX6_init_53 ?_
  refine lv_iload_n hx hb dX6_init_56 rfl (lv_at hl 0 rfl) ?_
  refine q_new (N := 5) X hR (kd_lt kh_130 (by decide)) rfl kh_130 (by decide) rfl cl_6_9 ins_5 ini_5 (Nat.le_of_ble_eq_true rfl) (Nat.le_of_ble_eq_true rfl) dX6_init_57 (fun H σ_208 eσ_208 hR => ?_)
  replace hf := z_l_e eσ_208 hf
  have hR : Rp G 131 ff σ_208 s H _ := hR
  refine W.widen (k := 60) (n := 377) (Nat.le_of_ble_eq_true rfl) (Nat.le_of_ble_eq_true rfl) ?_
  refine lv_dup hx hb dX6_init_60 rfl ?_
  obtain ⟨r_209, σ_210, hc_211, hf⟩ := z_b_e hf
  refine go_m hR (mi_run (As := []) (rest := [.ref (G.2.2 + 130), .int (28 : Int32), .ref (G.2.2 + 71)]) X hR mi_6_36 (c5_init l G N kh_130 hc_211) ⟨rfl, rfl, Nat.le_of_ble_eq_true rfl, Nat.le_of_ble_eq_true rfl⟩ rfl hl.1 rfl (Nat.le_of_ble_eq_true rfl) dX6_init_61 ⟨Nat.le_of_ble_eq_true rfl, Nat.le_of_ble_eq_true rfl⟩) (fun H locs hR => ?_)
  have hR : Rp G 132 ff σ_210 s H _ := hR
  refine W.widen (k := 61) (n := 384) (Nat.le_of_ble_eq_true rfl) (Nat.le_of_ble_eq_true rfl) ?_
  refine q_aas (ti := 5) (ci := 5) X hR ka_71 (Or.inl ⟨rfl, rfl, rfl⟩) (by omega) kh_130 (by decide) rfl (inB_in rfl) dX6_init_64 (fun H locs σ_212 eσ_212 hR => ?_)
  replace hf := z_l_e eσ_212 hf
  refine lv_iinc (v := (29 : Int32)) (lv' := [(1, .int (29 : Int32)), (0, .ref (G.2.2 + 70))]) hx hb dX6_init_65 hl (k := 0) rfl (by decide) (by decide) rfl (fun ls hl => ?_)
  refine lv_goto (tgt := 46) hx hb dX6_init_68 (by decide) ?_
  refine lv_iload_n hx hb dX6_init_46 rfl (lv_at hl 0 rfl) ?_
  refine lv_bipush (v := (30 : Int32)) hx hb dX6_init_47 (by decide) ?_
  refine lv_icmp_ge (tgt := 71) hx hb dX6_init_49 (by decide) (fun c_213 => absurd c_213 (by decide)) (fun c_213 => ?_)
  refine lv_aload_n hx hb dX6_init_52 rfl (lv_at hl 1 rfl) ?_
  obtain ⟨gg_214, hf⟩ := z_e_e hf
  refine q_gr X hR cg_6_11.1 cg_6_11.2 kh_70 (by decide) gg_214 dX6_init_53 ?_
  refine lv_iload_n hx hb dX6_init_56 rfl (lv_at hl 0 rfl) ?_
  refine q_new (N := 5) X hR (kd_lt kh_132 (by decide)) rfl kh_132 (by decide) rfl cl_6_9 ins_5 ini_5 (Nat.le_of_ble_eq_true rfl) (Nat.le_of_ble_eq_true rfl) dX6_init_57 (fun H σ_215 eσ_215 hR => ?_)
  replace hf := z_l_e eσ_215 hf
  have hR : Rp G 133 ff σ_215 s H _ := hR
  refine W.widen (k := 62) (n := 389) (Nat.le_of_ble_eq_true rfl) (Nat.le_of_ble_eq_true rfl) ?_
  refine lv_dup hx hb dX6_init_60 rfl ?_
  obtain ⟨r_216, σ_217, hc_218, hf⟩ := z_b_e hf
  refine go_m hR (mi_run (As := []) (rest := [.ref (G.2.2 + 132), .int (29 : Int32), .ref (G.2.2 + 71)]) X hR mi_6_36 (c5_init l G N kh_132 hc_218) ⟨rfl, rfl, Nat.le_of_ble_eq_true rfl, Nat.le_of_ble_eq_true rfl⟩ rfl hl.1 rfl (Nat.le_of_ble_eq_true rfl) dX6_init_61 ⟨Nat.le_of_ble_eq_true rfl, Nat.le_of_ble_eq_true rfl⟩) (fun H locs hR => ?_)
  have hR : Rp G 134 ff σ_217 s H _ := hR
  refine W.widen (k := 63) (n := 396) (Nat.le_of_ble_eq_true rfl) (Nat.le_of_ble_eq_true rfl) ?_
  refine q_aas (ti := 5) (ci := 5) X hR ka_71 (Or.inl ⟨rfl, rfl, rfl⟩) (by omega) kh_132 (by decide) rfl (inB_in rfl) dX6_init_64 (fun H locs σ_219 eσ_219 hR => ?_)
  replace hf := z_l_e eσ_219 hf
  refine lv_iinc (v := (30 : Int32)) (lv' := [(1, .int (30 : Int32)), (0, .ref (G.2.2 + 70))]) hx hb dX6_init_65 hl (k := 0) rfl (by decide) (by decide) rfl (fun ls hl => ?_)
  refine lv_goto (tgt := 46) hx hb dX6_init_68 (by decide) ?_
  refine lv_iload_n hx hb dX6_init_46 rfl (lv_at hl 0 rfl) ?_
  refine lv_bipush (v := (30 : Int32)) hx hb dX6_init_47 (by decide) ?_
  refine lv_icmp_ge (tgt := 71) hx hb dX6_init_49 (by decide) (fun c_220 => ?_) (fun c_220 => absurd (by decide) c_220)
  refine lv_iconst (v := (0 : Int32)) hx hb dX6_init_71 (by decide) ?_
  refine lv_istore_n (lv' := [(1, .int (0 : Int32)), (0, .ref (G.2.2 + 70))]) hx hb dX6_init_72 rfl hl (by decide) rfl (fun ls hl => ?_)
  refine lv_iload_n hx hb dX6_init_73 rfl (lv_at hl 0 rfl) ?_
  refine lv_iconst (v := (3 : Int32)) hx hb dX6_init_74 (by decide) ?_
  refine lv_icmp_ge (tgt := 110) hx hb dX6_init_75 (by decide) (fun c_221 => absurd c_221 (by decide)) (fun c_221 => ?_)
  refine lv_aload_n hx hb dX6_init_78 rfl (lv_at hl 1 rfl) ?_
  obtain ⟨gg_222, hf⟩ := z_e_e hf
  refine q_gr X hR cg_6_24.1 cg_6_24.2 kh_70 (by decide) gg_222 dX6_init_79 ?_
  refine lv_iload_n hx hb dX6_init_82 rfl (lv_at hl 0 rfl) ?_
  refine q_new (N := 5) X hR (kd_lt kh_134 (by decide)) rfl kh_134 (by decide) rfl cl_6_9 ins_5 ini_5 (Nat.le_of_ble_eq_true rfl) (Nat.le_of_ble_eq_true rfl) dX6_init_83 (fun H σ_223 eσ_223 hR => ?_)
  replace hf := z_l_e eσ_223 hf
  have hR : Rp G 135 ff σ_223 s H _ := hR
  refine W.widen (k := 64) (n := 401) (Nat.le_of_ble_eq_true rfl) (Nat.le_of_ble_eq_true rfl) ?_
  refine lv_dup hx hb dX6_init_86 rfl ?_
  obtain ⟨r_224, σ_225, hc_226, hf⟩ := z_b_e hf
  refine go_m hR (mi_run (As := []) (rest := [.ref (G.2.2 + 134), .int (0 : Int32), .ref (G.2.2 + 72)]) X hR mi_6_36 (c5_init l G N kh_134 hc_226) ⟨rfl, rfl, Nat.le_of_ble_eq_true rfl, Nat.le_of_ble_eq_true rfl⟩ rfl hl.1 rfl (Nat.le_of_ble_eq_true rfl) dX6_init_87 ⟨Nat.le_of_ble_eq_true rfl, Nat.le_of_ble_eq_true rfl⟩) (fun H locs hR => ?_)
  have hR : Rp G 136 ff σ_225 s H _ := hR
  refine W.widen (k := 65) (n := 408) (Nat.le_of_ble_eq_true rfl) (Nat.le_of_ble_eq_true rfl) ?_
  refine q_aas (ti := 5) (ci := 5) X hR ka_72 (Or.inl ⟨rfl, rfl, rfl⟩) (by omega) kh_134 (by decide) rfl (inB_in rfl) dX6_init_90 (fun H locs σ_227 eσ_227 hR => ?_)
  replace hf := z_l_e eσ_227 hf
  refine lv_aload_n hx hb dX6_init_91 rfl (lv_at hl 1 rfl) ?_
  obtain ⟨gg_228, hf⟩ := z_e_e hf
  refine q_gr X hR cg_6_29.1 cg_6_29.2 kh_70 (by decide) gg_228 dX6_init_92 ?_
  refine lv_iload_n hx hb dX6_init_95 rfl (lv_at hl 0 rfl) ?_
  refine q_new (N := 5) X hR (kd_lt kh_136 (by decide)) rfl kh_136 (by decide) rfl cl_6_27 ins_1 ini_1 (Nat.le_of_ble_eq_true rfl) (Nat.le_of_ble_eq_true rfl) dX6_init_96 (fun H σ_229 eσ_229 hR => ?_)
  replace hf := z_l_e eσ_229 hf
  have hR : Rp G 137 ff σ_229 s H _ := hR
  refine W.widen (k := 66) (n := 413) (Nat.le_of_ble_eq_true rfl) (Nat.le_of_ble_eq_true rfl) ?_
  refine lv_dup hx hb dX6_init_99 rfl ?_
  obtain ⟨r_230, σ_231, hc_232, hf⟩ := z_b_e hf
  refine go_m hR (mi_run (As := []) (rest := [.ref (G.2.2 + 136), .int (0 : Int32), .ref (G.2.2 + 73)]) X hR mi_6_37 (c1_init l G N kh_136 hc_232) ⟨rfl, rfl, Nat.le_of_ble_eq_true rfl, Nat.le_of_ble_eq_true rfl⟩ rfl hl.1 rfl (Nat.le_of_ble_eq_true rfl) dX6_init_100 ⟨Nat.le_of_ble_eq_true rfl, Nat.le_of_ble_eq_true rfl⟩) (fun H locs hR => ?_)
  have hR : Rp G 142 ff σ_231 s H _ := hR
  refine W.widen (k := 71) (n := 513) (Nat.le_of_ble_eq_true rfl) (Nat.le_of_ble_eq_true rfl) ?_
  refine q_aas (ti := 4) (ci := 1) X hR ka_73 (Or.inr ⟨rfl, rfl, rfl⟩) (by omega) kh_136 (by decide) rfl (inB_in rfl) dX6_init_103 (fun H locs σ_233 eσ_233 hR => ?_)
  replace hf := z_l_e eσ_233 hf
  refine lv_iinc (v := (1 : Int32)) (lv' := [(1, .int (1 : Int32)), (0, .ref (G.2.2 + 70))]) hx hb dX6_init_104 hl (k := 0) rfl (by decide) (by decide) rfl (fun ls hl => ?_)
  refine lv_goto (tgt := 73) hx hb dX6_init_107 (by decide) ?_
  refine lv_iload_n hx hb dX6_init_73 rfl (lv_at hl 0 rfl) ?_
  refine lv_iconst (v := (3 : Int32)) hx hb dX6_init_74 (by decide) ?_
  refine lv_icmp_ge (tgt := 110) hx hb dX6_init_75 (by decide) (fun c_234 => absurd c_234 (by decide)) (fun c_234 => ?_)
  refine lv_aload_n hx hb dX6_init_78 rfl (lv_at hl 1 rfl) ?_
  obtain ⟨gg_235, hf⟩ := z_e_e hf
  refine q_gr X hR cg_6_24.1 cg_6_24.2 kh_70 (by decide) gg_235 dX6_init_79 ?_
  refine lv_iload_n hx hb dX6_init_82 rfl (lv_at hl 0 rfl) ?_
  refine q_new (N := 5) X hR (kd_lt kh_142 (by decide)) rfl kh_142 (by decide) rfl cl_6_9 ins_5 ini_5 (Nat.le_of_ble_eq_true rfl) (Nat.le_of_ble_eq_true rfl) dX6_init_83 (fun H σ_236 eσ_236 hR => ?_)
  replace hf := z_l_e eσ_236 hf
  have hR : Rp G 143 ff σ_236 s H _ := hR
  refine W.widen (k := 72) (n := 518) (Nat.le_of_ble_eq_true rfl) (Nat.le_of_ble_eq_true rfl) ?_
  refine lv_dup hx hb dX6_init_86 rfl ?_
  obtain ⟨r_237, σ_238, hc_239, hf⟩ := z_b_e hf
  refine go_m hR (mi_run (As := []) (rest := [.ref (G.2.2 + 142), .int (1 : Int32), .ref (G.2.2 + 72)]) X hR mi_6_36 (c5_init l G N kh_142 hc_239) ⟨rfl, rfl, Nat.le_of_ble_eq_true rfl, Nat.le_of_ble_eq_true rfl⟩ rfl hl.1 rfl (Nat.le_of_ble_eq_true rfl) dX6_init_87 ⟨Nat.le_of_ble_eq_true rfl, Nat.le_of_ble_eq_true rfl⟩) (fun H locs hR => ?_)
  have hR : Rp G 144 ff σ_238 s H _ := hR
  refine W.widen (k := 73) (n := 525) (Nat.le_of_ble_eq_true rfl) (Nat.le_of_ble_eq_true rfl) ?_
  refine q_aas (ti := 5) (ci := 5) X hR ka_72 (Or.inl ⟨rfl, rfl, rfl⟩) (by omega) kh_142 (by decide) rfl (inB_in rfl) dX6_init_90 (fun H locs σ_240 eσ_240 hR => ?_)
  replace hf := z_l_e eσ_240 hf
  refine lv_aload_n hx hb dX6_init_91 rfl (lv_at hl 1 rfl) ?_
  obtain ⟨gg_241, hf⟩ := z_e_e hf
  refine q_gr X hR cg_6_29.1 cg_6_29.2 kh_70 (by decide) gg_241 dX6_init_92 ?_
  refine lv_iload_n hx hb dX6_init_95 rfl (lv_at hl 0 rfl) ?_
  refine q_new (N := 5) X hR (kd_lt kh_144 (by decide)) rfl kh_144 (by decide) rfl cl_6_27 ins_1 ini_1 (Nat.le_of_ble_eq_true rfl) (Nat.le_of_ble_eq_true rfl) dX6_init_96 (fun H σ_242 eσ_242 hR => ?_)
  replace hf := z_l_e eσ_242 hf
  have hR : Rp G 145 ff σ_242 s H _ := hR
  refine W.widen (k := 74) (n := 530) (Nat.le_of_ble_eq_true rfl) (Nat.le_of_ble_eq_true rfl) ?_
  refine lv_dup hx hb dX6_init_99 rfl ?_
  obtain ⟨r_243, σ_244, hc_245, hf⟩ := z_b_e hf
  refine go_m hR (mi_run (As := []) (rest := [.ref (G.2.2 + 144), .int (1 : Int32), .ref (G.2.2 + 73)]) X hR mi_6_37 (c1_init l G N kh_144 hc_245) ⟨rfl, rfl, Nat.le_of_ble_eq_true rfl, Nat.le_of_ble_eq_true rfl⟩ rfl hl.1 rfl (Nat.le_of_ble_eq_true rfl) dX6_init_100 ⟨Nat.le_of_ble_eq_true rfl, Nat.le_of_ble_eq_true rfl⟩) (fun H locs hR => ?_)
  have hR : Rp G 150 ff σ_244 s H _ := hR
  refine W.widen (k := 79) (n := 630) (Nat.le_of_ble_eq_true rfl) (Nat.le_of_ble_eq_true rfl) ?_
  refine q_aas (ti := 4) (ci := 1) X hR ka_73 (Or.inr ⟨rfl, rfl, rfl⟩) (by omega) kh_144 (by decide) rfl (inB_in rfl) dX6_init_103 (fun H locs σ_246 eσ_246 hR => ?_)
  replace hf := z_l_e eσ_246 hf
  refine lv_iinc (v := (2 : Int32)) (lv' := [(1, .int (2 : Int32)), (0, .ref (G.2.2 + 70))]) hx hb dX6_init_104 hl (k := 0) rfl (by decide) (by decide) rfl (fun ls hl => ?_)
  refine lv_goto (tgt := 73) hx hb dX6_init_107 (by decide) ?_
  refine lv_iload_n hx hb dX6_init_73 rfl (lv_at hl 0 rfl) ?_
  refine lv_iconst (v := (3 : Int32)) hx hb dX6_init_74 (by decide) ?_
  refine lv_icmp_ge (tgt := 110) hx hb dX6_init_75 (by decide) (fun c_247 => absurd c_247 (by decide)) (fun c_247 => ?_)
  refine lv_aload_n hx hb dX6_init_78 rfl (lv_at hl 1 rfl) ?_
  obtain ⟨gg_248, hf⟩ := z_e_e hf
  refine q_gr X hR cg_6_24.1 cg_6_24.2 kh_70 (by decide) gg_248 dX6_init_79 ?_
  refine lv_iload_n hx hb dX6_init_82 rfl (lv_at hl 0 rfl) ?_
  refine q_new (N := 5) X hR (kd_lt kh_150 (by decide)) rfl kh_150 (by decide) rfl cl_6_9 ins_5 ini_5 (Nat.le_of_ble_eq_true rfl) (Nat.le_of_ble_eq_true rfl) dX6_init_83 (fun H σ_249 eσ_249 hR => ?_)
  replace hf := z_l_e eσ_249 hf
  have hR : Rp G 151 ff σ_249 s H _ := hR
  refine W.widen (k := 80) (n := 635) (Nat.le_of_ble_eq_true rfl) (Nat.le_of_ble_eq_true rfl) ?_
  refine lv_dup hx hb dX6_init_86 rfl ?_
  obtain ⟨r_250, σ_251, hc_252, hf⟩ := z_b_e hf
  refine go_m hR (mi_run (As := []) (rest := [.ref (G.2.2 + 150), .int (2 : Int32), .ref (G.2.2 + 72)]) X hR mi_6_36 (c5_init l G N kh_150 hc_252) ⟨rfl, rfl, Nat.le_of_ble_eq_true rfl, Nat.le_of_ble_eq_true rfl⟩ rfl hl.1 rfl (Nat.le_of_ble_eq_true rfl) dX6_init_87 ⟨Nat.le_of_ble_eq_true rfl, Nat.le_of_ble_eq_true rfl⟩) (fun H locs hR => ?_)
  have hR : Rp G 152 ff σ_251 s H _ := hR
  refine W.widen (k := 81) (n := 642) (Nat.le_of_ble_eq_true rfl) (Nat.le_of_ble_eq_true rfl) ?_
  refine q_aas (ti := 5) (ci := 5) X hR ka_72 (Or.inl ⟨rfl, rfl, rfl⟩) (by omega) kh_150 (by decide) rfl (inB_in rfl) dX6_init_90 (fun H locs σ_253 eσ_253 hR => ?_)
  replace hf := z_l_e eσ_253 hf
  refine lv_aload_n hx hb dX6_init_91 rfl (lv_at hl 1 rfl) ?_
  obtain ⟨gg_254, hf⟩ := z_e_e hf
  refine q_gr X hR cg_6_29.1 cg_6_29.2 kh_70 (by decide) gg_254 dX6_init_92 ?_
  refine lv_iload_n hx hb dX6_init_95 rfl (lv_at hl 0 rfl) ?_
  refine q_new (N := 5) X hR (kd_lt kh_152 (by decide)) rfl kh_152 (by decide) rfl cl_6_27 ins_1 ini_1 (Nat.le_of_ble_eq_true rfl) (Nat.le_of_ble_eq_true rfl) dX6_init_96 (fun H σ_255 eσ_255 hR => ?_)
  replace hf := z_l_e eσ_255 hf
  have hR : Rp G 153 ff σ_255 s H _ := hR
  refine W.widen (k := 82) (n := 647) (Nat.le_of_ble_eq_true rfl) (Nat.le_of_ble_eq_true rfl) ?_
  refine lv_dup hx hb dX6_init_99 rfl ?_
  obtain ⟨r_256, σ_257, hc_258, hf⟩ := z_b_e hf
  refine go_m hR (mi_run (As := []) (rest := [.ref (G.2.2 + 152), .int (2 : Int32), .ref (G.2.2 + 73)]) X hR mi_6_37 (c1_init l G N kh_152 hc_258) ⟨rfl, rfl, Nat.le_of_ble_eq_true rfl, Nat.le_of_ble_eq_true rfl⟩ rfl hl.1 rfl (Nat.le_of_ble_eq_true rfl) dX6_init_100 ⟨Nat.le_of_ble_eq_true rfl, Nat.le_of_ble_eq_true rfl⟩) (fun H locs hR => ?_)
  have hR : Rp G 158 ff σ_257 s H _ := hR
  refine W.widen (k := 87) (n := 747) (Nat.le_of_ble_eq_true rfl) (Nat.le_of_ble_eq_true rfl) ?_
  refine q_aas (ti := 4) (ci := 1) X hR ka_73 (Or.inr ⟨rfl, rfl, rfl⟩) (by omega) kh_152 (by decide) rfl (inB_in rfl) dX6_init_103 (fun H locs σ_259 eσ_259 hR => ?_)
  replace hf := z_l_e eσ_259 hf
  refine lv_iinc (v := (3 : Int32)) (lv' := [(1, .int (3 : Int32)), (0, .ref (G.2.2 + 70))]) hx hb dX6_init_104 hl (k := 0) rfl (by decide) (by decide) rfl (fun ls hl => ?_)
  refine lv_goto (tgt := 73) hx hb dX6_init_107 (by decide) ?_
  refine lv_iload_n hx hb dX6_init_73 rfl (lv_at hl 0 rfl) ?_
  refine lv_iconst (v := (3 : Int32)) hx hb dX6_init_74 (by decide) ?_
  refine lv_icmp_ge (tgt := 110) hx hb dX6_init_75 (by decide) (fun c_260 => ?_) (fun c_260 => absurd (by decide) c_260)
  exact e_v X hR hr hlk hf dX6_init_110
