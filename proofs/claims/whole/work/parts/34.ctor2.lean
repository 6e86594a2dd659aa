abbrev rm6_init : Room := { frames := 2, cells := 87, slots := 747, locals := 40 }
def f6_init (N : Nat) (σ : Mm) : Option (Unit × Mm) :=
  z_l (clr σ 71) fun σ_1 =>
  z_l (sR σ_1 70 0 (some 71)) fun σ_2 =>
  z_l (sI σ_2 70 1 (0 : Int32)) fun σ_3 =>
  z_l (sI σ_3 70 2 (0 : Int32)) fun σ_4 =>
  z_l (clr σ_4 72) fun σ_5 =>
  z_l (sR σ_5 70 3 (some 72)) fun σ_6 =>
  z_l (clr σ_6 73) fun σ_7 =>
  z_l (sR σ_7 70 4 (some 73)) fun σ_8 =>
  z_l (sI σ_8 70 5 (0 : Int32)) fun σ_9 =>
  z_k (gR σ_9 70 0) (17, 30) 74 fun t_11 =>
  z_l (clr σ_9 74) fun σ_13 =>
  z_b (f5_init N 74 σ_13) fun _ σ_15 =>
  z_l (sR σ_15 t_11 (ix (0 : Int32)) (some 74)) fun σ_17 =>
  z_k (gR σ_17 70 0) (17, 30) 76 fun t_19 =>
  z_l (clr σ_17 76) fun σ_21 =>
  z_b (f5_init N 76 σ_21) fun _ σ_23 =>
  z_l (sR σ_23 t_19 (ix (1 : Int32)) (some 76)) fun σ_25 =>
  z_k (gR σ_25 70 0) (17, 30) 78 fun t_27 =>
  z_l (clr σ_25 78) fun σ_29 =>
  z_b (f5_init N 78 σ_29) fun _ σ_31 =>
  z_l (sR σ_31 t_27 (ix (2 : Int32)) (some 78)) fun σ_33 =>
  z_k (gR σ_33 70 0) (17, 30) 80 fun t_35 =>
  z_l (clr σ_33 80) fun σ_37 =>
  z_b (f5_init N 80 σ_37) fun _ σ_39 =>
  z_l (sR σ_39 t_35 (ix (3 : Int32)) (some 80)) fun σ_41 =>
  z_k (gR σ_41 70 0) (17, 30) 82 fun t_43 =>
  z_l (clr σ_41 82) fun σ_45 =>
  z_b (f5_init N 82 σ_45) fun _ σ_47 =>
  z_l (sR σ_47 t_43 (ix (4 : Int32)) (some 82)) fun σ_49 =>
  z_k (gR σ_49 70 0) (17, 30) 84 fun t_51 =>
  z_l (clr σ_49 84) fun σ_53 =>
  z_b (f5_init N 84 σ_53) fun _ σ_55 =>
  z_l (sR σ_55 t_51 (ix (5 : Int32)) (some 84)) fun σ_57 =>
  z_k (gR σ_57 70 0) (17, 30) 86 fun t_59 =>
  z_l (clr σ_57 86) fun σ_61 =>
  z_b (f5_init N 86 σ_61) fun _ σ_63 =>
  z_l (sR σ_63 t_59 (ix (6 : Int32)) (some 86)) fun σ_65 =>
  z_k (gR σ_65 70 0) (17, 30) 88 fun t_67 =>
  z_l (clr σ_65 88) fun σ_69 =>
  z_b (f5_init N 88 σ_69) fun _ σ_71 =>
  z_l (sR σ_71 t_67 (ix (7 : Int32)) (some 88)) fun σ_73 =>
  z_k (gR σ_73 70 0) (17, 30) 90 fun t_75 =>
  z_l (clr σ_73 90) fun σ_77 =>
  z_b (f5_init N 90 σ_77) fun _ σ_79 =>
  z_l (sR σ_79 t_75 (ix (8 : Int32)) (some 90)) fun σ_81 =>
  z_k (gR σ_81 70 0) (17, 30) 92 fun t_83 =>
  z_l (clr σ_81 92) fun σ_85 =>
  z_b (f5_init N 92 σ_85) fun _ σ_87 =>
  z_l (sR σ_87 t_83 (ix (9 : Int32)) (some 92)) fun σ_89 =>
  z_k (gR σ_89 70 0) (17, 30) 94 fun t_91 =>
  z_l (clr σ_89 94) fun σ_93 =>
  z_b (f5_init N 94 σ_93) fun _ σ_95 =>
  z_l (sR σ_95 t_91 (ix (10 : Int32)) (some 94)) fun σ_97 =>
  z_k (gR σ_97 70 0) (17, 30) 96 fun t_99 =>
  z_l (clr σ_97 96) fun σ_101 =>
  z_b (f5_init N 96 σ_101) fun _ σ_103 =>
  z_l (sR σ_103 t_99 (ix (11 : Int32)) (some 96)) fun σ_105 =>
  z_k (gR σ_105 70 0) (17, 30) 98 fun t_107 =>
  z_l (clr σ_105 98) fun σ_109 =>
  z_b (f5_init N 98 σ_109) fun _ σ_111 =>
  z_l (sR σ_111 t_107 (ix (12 : Int32)) (some 98)) fun σ_113 =>
  z_k (gR σ_113 70 0) (17, 30) 100 fun t_115 =>
  z_l (clr σ_113 100) fun σ_117 =>
  z_b (f5_init N 100 σ_117) fun _ σ_119 =>
  z_l (sR σ_119 t_115 (ix (13 : Int32)) (some 100)) fun σ_121 =>
  z_k (gR σ_121 70 0) (17, 30) 102 fun t_123 =>
  z_l (clr σ_121 102) fun σ_125 =>
  z_b (f5_init N 102 σ_125) fun _ σ_127 =>
  z_l (sR σ_127 t_123 (ix (14 : Int32)) (some 102)) fun σ_129 =>
  z_k (gR σ_129 70 0) (17, 30) 104 fun t_131 =>
  z_l (clr σ_129 104) fun σ_133 =>
  z_b (f5_init N 104 σ_133) fun _ σ_135 =>
  z_l (sR σ_135 t_131 (ix (15 : Int32)) (some 104)) fun σ_137 =>
  z_k (gR σ_137 70 0) (17, 30) 106 fun t_139 =>
  z_l (clr σ_137 106) fun σ_141 =>
  z_b (f5_init N 106 σ_141) fun _ σ_143 =>
  z_l (sR σ_143 t_139 (ix (16 : Int32)) (some 106)) fun σ_145 =>
  z_k (gR σ_145 70 0) (17, 30) 108 fun t_147 =>
  z_l (clr σ_145 108) fun σ_149 =>
  z_b (f5_init N 108 σ_149) fun _ σ_151 =>
  z_l (sR σ_151 t_147 (ix (17 : Int32)) (some 108)) fun σ_153 =>
  z_k (gR σ_153 70 0) (17, 30) 110 fun t_155 =>
  z_l (clr σ_153 110) fun σ_157 =>
  z_b (f5_init N 110 σ_157) fun _ σ_159 =>
  z_l (sR σ_159 t_155 (ix (18 : Int32)) (some 110)) fun σ_161 =>
  z_k (gR σ_161 70 0) (17, 30) 112 fun t_163 =>
  z_l (clr σ_161 112) fun σ_165 =>
  z_b (f5_init N 112 σ_165) fun _ σ_167 =>
  z_l (sR σ_167 t_163 (ix (19 : Int32)) (some 112)) fun σ_169 =>
  z_k (gR σ_169 70 0) (17, 30) 114 fun t_171 =>
  z_l (clr σ_169 114) fun σ_173 =>
  z_b (f5_init N 114 σ_173) fun _ σ_175 =>
  z_l (sR σ_175 t_171 (ix (20 : Int32)) (some 114)) fun σ_177 =>
  z_k (gR σ_177 70 0) (17, 30) 116 fun t_179 =>
  z_l (clr σ_177 116) fun σ_181 =>
  z_b (f5_init N 116 σ_181) fun _ σ_183 =>
  z_l (sR σ_183 t_179 (ix (21 : Int32)) (some 116)) fun σ_185 =>
  z_k (gR σ_185 70 0) (17, 30) 118 fun t_187 =>
  z_l (clr σ_185 118) fun σ_189 =>
  z_b (f5_init N 118 σ_189) fun _ σ_191 =>
  z_l (sR σ_191 t_187 (ix (22 : Int32)) (some 118)) fun σ_193 =>
  z_k (gR σ_193 70 0) (17, 30) 120 fun t_195 =>
  z_l (clr σ_193 120) fun σ_197 =>
  z_b (f5_init N 120 σ_197) fun _ σ_199 =>
  z_l (sR σ_199 t_195 (ix (23 : Int32)) (some 120)) fun σ_201 =>
  z_k (gR σ_201 70 0) (17, 30) 122 fun t_203 =>
  z_l (clr σ_201 122) fun σ_205 =>
  z_b (f5_init N 122 σ_205) fun _ σ_207 =>
  z_l (sR σ_207 t_203 (ix (24 : Int32)) (some 122)) fun σ_209 =>
  z_k (gR σ_209 70 0) (17, 30) 124 fun t_211 =>
  z_l (clr σ_209 124) fun σ_213 =>
  z_b (f5_init N 124 σ_213) fun _ σ_215 =>
  z_l (sR σ_215 t_211 (ix (25 : Int32)) (some 124)) fun σ_217 =>
  z_k (gR σ_217 70 0) (17, 30) 126 fun t_219 =>
  z_l (clr σ_217 126) fun σ_221 =>
  z_b (f5_init N 126 σ_221) fun _ σ_223 =>
  z_l (sR σ_223 t_219 (ix (26 : Int32)) (some 126)) fun σ_225 =>
  z_k (gR σ_225 70 0) (17, 30) 128 fun t_227 =>
  z_l (clr σ_225 128) fun σ_229 =>
  z_b (f5_init N 128 σ_229) fun _ σ_231 =>
  z_l (sR σ_231 t_227 (ix (27 : Int32)) (some 128)) fun σ_233 =>
  z_k (gR σ_233 70 0) (17, 30) 130 fun t_235 =>
  z_l (clr σ_233 130) fun σ_237 =>
  z_b (f5_init N 130 σ_237) fun _ σ_239 =>
  z_l (sR σ_239 t_235 (ix (28 : Int32)) (some 130)) fun σ_241 =>
  z_k (gR σ_241 70 0) (17, 30) 132 fun t_243 =>
  z_l (clr σ_241 132) fun σ_245 =>
  z_b (f5_init N 132 σ_245) fun _ σ_247 =>
  z_l (sR σ_247 t_243 (ix (29 : Int32)) (some 132)) fun σ_249 =>
  z_k (gR σ_249 70 3) (17, 3) 134 fun t_252 =>
  z_l (clr σ_249 134) fun σ_254 =>
  z_b (f5_init N 134 σ_254) fun _ σ_256 =>
  z_l (sR σ_256 t_252 (ix (0 : Int32)) (some 134)) fun σ_258 =>
  z_k (gR σ_258 70 4) (16, 3) 136 fun t_259 =>
  z_l (clr σ_258 136) fun σ_261 =>
  z_b (f1_init N 136 σ_261) fun _ σ_263 =>
  z_l (sR σ_263 t_259 (ix (0 : Int32)) (some 136)) fun σ_265 =>
  z_k (gR σ_265 70 3) (17, 3) 142 fun t_267 =>
  z_l (clr σ_265 142) fun σ_269 =>
  z_b (f5_init N 142 σ_269) fun _ σ_271 =>
  z_l (sR σ_271 t_267 (ix (1 : Int32)) (some 142)) fun σ_273 =>
  z_k (gR σ_273 70 4) (16, 3) 144 fun t_274 =>
  z_l (clr σ_273 144) fun σ_276 =>
  z_b (f1_init N 144 σ_276) fun _ σ_278 =>
  z_l (sR σ_278 t_274 (ix (1 : Int32)) (some 144)) fun σ_280 =>
  z_k (gR σ_280 70 3) (17, 3) 150 fun t_282 =>
  z_l (clr σ_280 150) fun σ_284 =>
  z_b (f5_init N 150 σ_284) fun _ σ_286 =>
  z_l (sR σ_286 t_282 (ix (2 : Int32)) (some 150)) fun σ_288 =>
  z_k (gR σ_288 70 4) (16, 3) 152 fun t_289 =>
  z_l (clr σ_288 152) fun σ_291 =>
  z_b (f1_init N 152 σ_291) fun _ σ_293 =>
  z_l (sR σ_293 t_289 (ix (2 : Int32)) (some 152)) fun σ_295 =>
  some ((), σ_295)
set_option maxHeartbeats 8000000 in
set_option maxRecDepth 100000 in
theorem c6_init (l : Launch) (G : Gp) (N : Nat) {σ σ0 : Mm} {u0 : Unit} (hf : f6_init N σ = some (u0, σ0)) : Met l yX6_init (WS yX6_init cX6_init 2 none) rm6_init (va_Pc [.ref (G.2.2 + 70)] (Pd G 71 ff σ)) (P_v G 158 ff u0 σ0) 87 747 (Fr G) := by
  refine ct2 [(0, .ref (G.2.2 + 70))] rfl (by decide) (Nat.le_of_ble_eq_true rfl) ?_
  intro p e s m below meth c ls X hr hlk hin hR hl
  have X : Cx p s m _ c cX6_init 2 RX6 G := X
  have hx := X.1
  have hb := X.2.1
  have hin : meth.name = "<init>" := hin
  unfold f6_init at hf
  refine lv_aload_n hx hb dX6_init_0 rfl (lv_at hl 0 rfl) ?_
  refine W.objInit hx hb X.2.2.2.1 (X.2.2.2.2.1 _ ol_6) (X.2.2.2.2.1 _ oi_inst) (X.2.2.2.2.1 _ oi_code) rfl (hl.1.trans X.2.2.1.symm) rfl dX6_init_1 (Nat.le_of_ble_eq_true rfl) (Nat.le_of_ble_eq_true rfl) ?_
  refine W.eq (g2 := F0 m 4 ls []) rfl ?_
  refine lv_aload_n hx hb dX6_init_4 rfl (lv_at hl 0 rfl) ?_
  refine lv_bipush (v := (30 : Int32)) hx hb dX6_init_5 (by decide) ?_
  refine q_newq (ti := 5) X hR (kd_ltA ka_71 (by decide)) rfl cq_6_9 X.2.2.2.2.2.2.2.2.2.2.2.2.2 rfl (by rw [cellE_refM ka_71]; simp [gR, clr]) (by decide) (by decide) (by decide) (Nat.le_of_ble_eq_true rfl) (Nat.le_of_ble_eq_true rfl) dX6_init_7 (fun H σ_1 eσ_1 hR => ?_)
  replace hf := z_l_e eσ_1 hf
  have hR : Rp G 72 ff σ_1 s H locs := hR
  refine W.widen (k := 1) (n := 30) (Nat.le_of_ble_eq_true rfl) (Nat.le_of_ble_eq_true rfl) ?_
  refine q_pf X hR hin cf_6_11 kh_70 (by decide) rfl rfl rfl dX6_init_10 (fun H locs σ_2 eσ_2 hR => ?_)
  replace hf := z_l_e eσ_2 hf
  refine lv_aload_n hx hb dX6_init_13 rfl (lv_at hl 0 rfl) ?_
  refine lv_iconst (v := (0 : Int32)) hx hb dX6_init_14 (by decide) ?_
  refine q_pi X hR ci_6_17.1 ci_6_17.2 kh_70 (by decide) dX6_init_15 (fun H locs σ_3 eσ_3 hR => ?_)
  replace hf := z_l_e eσ_3 hf
  refine lv_aload_n hx hb dX6_init_18 rfl (lv_at hl 0 rfl) ?_
  refine lv_iconst (v := (0 : Int32)) hx hb dX6_init_19 (by decide) ?_
  refine q_pi X hR ci_6_21.1 ci_6_21.2 kh_70 (by decide) dX6_init_20 (fun H locs σ_4 eσ_4 hR => ?_)
  replace hf := z_l_e eσ_4 hf
  refine lv_aload_n hx hb dX6_init_23 rfl (lv_at hl 0 rfl) ?_
  refine lv_iconst (v := (3 : Int32)) hx hb dX6_init_24 (by decide) ?_
  refine q_newq (ti := 5) X hR (kd_ltA ka_72 (by decide)) rfl cq_6_9 X.2.2.2.2.2.2.2.2.2.2.2.2.2 rfl (by rw [cellE_refM ka_72]; simp [gR, clr]) (by decide) (by decide) (by decide) (Nat.le_of_ble_eq_true rfl) (Nat.le_of_ble_eq_true rfl) dX6_init_25 (fun H σ_5 eσ_5 hR => ?_)
  replace hf := z_l_e eσ_5 hf
  have hR : Rp G 73 ff σ_5 s H locs := hR
  refine W.widen (k := 2) (n := 33) (Nat.le_of_ble_eq_true rfl) (Nat.le_of_ble_eq_true rfl) ?_
  refine q_pf X hR hin cf_6_24 kh_70 (by decide) rfl rfl rfl dX6_init_28 (fun H locs σ_6 eσ_6 hR => ?_)
  replace hf := z_l_e eσ_6 hf
  refine lv_aload_n hx hb dX6_init_31 rfl (lv_at hl 0 rfl) ?_
  refine lv_iconst (v := (3 : Int32)) hx hb dX6_init_32 (by decide) ?_
  refine q_newq (ti := 4) X hR (kd_ltA ka_73 (by decide)) rfl cq_6_27 X.2.2.2.2.2.2.2.2.2.2.2.2.1 rfl (by rw [cellE_refG ka_73]; simp [gR, clr]) (by decide) (by decide) (by decide) (Nat.le_of_ble_eq_true rfl) (Nat.le_of_ble_eq_true rfl) dX6_init_33 (fun H σ_7 eσ_7 hR => ?_)
  replace hf := z_l_e eσ_7 hf
  have hR : Rp G 74 ff σ_7 s H locs := hR
  refine W.widen (k := 3) (n := 36) (Nat.le_of_ble_eq_true rfl) (Nat.le_of_ble_eq_true rfl) ?_
  refine q_pf X hR hin cf_6_29 kh_70 (by decide) rfl rfl rfl dX6_init_36 (fun H locs σ_8 eσ_8 hR => ?_)
  replace hf := z_l_e eσ_8 hf
  refine lv_aload_n hx hb dX6_init_39 rfl (lv_at hl 0 rfl) ?_
  refine lv_iconst (v := (0 : Int32)) hx hb dX6_init_40 (by decide) ?_
  refine q_pi X hR ci_6_33.1 ci_6_33.2 kh_70 (by decide) dX6_init_41 (fun H locs σ_9 eσ_9 hR => ?_)
  replace hf := z_l_e eσ_9 hf
  refine lv_iconst (v := (0 : Int32)) hx hb dX6_init_44 (by decide) ?_
  refine lv_istore_n (lv' := [(1, .int (0 : Int32)), (0, .ref (G.2.2 + 70))]) hx hb dX6_init_45 rfl hl (by decide) rfl (fun ls hl => ?_)
  refine lv_iload_n hx hb dX6_init_46 rfl (lv_at hl 0 rfl) ?_
  refine lv_bipush (v := (30 : Int32)) hx hb dX6_init_47 (by decide) ?_
  refine lv_icmp_ge (tgt := 71) hx hb dX6_init_49 (by decide) (fun c_10 => absurd c_10 (by decide)) (fun c_10 => ?_)
  refine lv_aload_n hx hb dX6_init_52 rfl (lv_at hl 1 rfl) ?_
  obtain ⟨t_11, h_12, kh_12, lh_12, hf⟩ := z_k_e hf
  refine q_gr X hR cg_6_11.1 cg_6_11.2 kh_70 (by decide) h_12 dX6_init_53 ?_
  refine lv_iload_n hx hb dX6_init_56 rfl (lv_at hl 0 rfl) ?_
  refine q_new (N := 5) X hR (kd_lt kh_74 (by decide)) rfl kh_74 (by decide) rfl cl_6_9 ins_5 ini_5 (Nat.le_of_ble_eq_true rfl) (Nat.le_of_ble_eq_true rfl) dX6_init_57 (fun H σ_13 eσ_13 hR => ?_)
  replace hf := z_l_e eσ_13 hf
  have hR : Rp G 75 ff σ_13 s H locs := hR
  refine W.widen (k := 4) (n := 41) (Nat.le_of_ble_eq_true rfl) (Nat.le_of_ble_eq_true rfl) ?_
  refine lv_dup hx hb dX6_init_60 rfl ?_
  obtain ⟨r_14, σ_15, hc_16, hf⟩ := z_b_e hf
  refine go_m hR (mi_run (As := []) (rest := [.ref (G.2.2 + 74), .int (0 : Int32), .ref (G.2.2 + t_11)]) X hR mi_6_36 (c5_init l G N kh_74 hc_16) ⟨rfl, rfl, Nat.le_of_ble_eq_true rfl, Nat.le_of_ble_eq_true rfl⟩ rfl hl.1 rfl (Nat.le_of_ble_eq_true rfl) dX6_init_61 ⟨Nat.le_of_ble_eq_true rfl, Nat.le_of_ble_eq_true rfl⟩) (fun H locs hR => ?_)
  have hR : Rp G 76 ff σ_15 s H locs := hR
  refine W.widen (k := 5) (n := 48) (Nat.le_of_ble_eq_true rfl) (Nat.le_of_ble_eq_true rfl) ?_
  refine q_aas (ti := 5) (ci := 5) X hR kh_12 (Or.inl ⟨rfl, rfl, rfl⟩) (by omega) kh_74 (by decide) rfl (inB_in rfl) dX6_init_64 (fun H locs σ_17 eσ_17 hR => ?_)
  replace hf := z_l_e eσ_17 hf
  refine lv_iinc (v := (1 : Int32)) (lv' := [(1, .int (1 : Int32)), (0, .ref (G.2.2 + 70))]) hx hb dX6_init_65 hl (k := 0) rfl (by decide) (by decide) rfl (fun ls hl => ?_)
  refine lv_goto (tgt := 46) hx hb dX6_init_68 (by decide) ?_
  refine lv_iload_n hx hb dX6_init_46 rfl (lv_at hl 0 rfl) ?_
  refine lv_bipush (v := (30 : Int32)) hx hb dX6_init_47 (by decide) ?_
  refine lv_icmp_ge (tgt := 71) hx hb dX6_init_49 (by decide) (fun c_18 => absurd c_18 (by decide)) (fun c_18 => ?_)
  refine lv_aload_n hx hb dX6_init_52 rfl (lv_at hl 1 rfl) ?_
  obtain ⟨t_19, h_20, kh_20, lh_20, hf⟩ := z_k_e hf
  refine q_gr X hR cg_6_11.1 cg_6_11.2 kh_70 (by decide) h_20 dX6_init_53 ?_
  refine lv_iload_n hx hb dX6_init_56 rfl (lv_at hl 0 rfl) ?_
  refine q_new (N := 5) X hR (kd_lt kh_76 (by decide)) rfl kh_76 (by decide) rfl cl_6_9 ins_5 ini_5 (Nat.le_of_ble_eq_true rfl) (Nat.le_of_ble_eq_true rfl) dX6_init_57 (fun H σ_21 eσ_21 hR => ?_)
  replace hf := z_l_e eσ_21 hf
  have hR : Rp G 77 ff σ_21 s H locs := hR
  refine W.widen (k := 6) (n := 53) (Nat.le_of_ble_eq_true rfl) (Nat.le_of_ble_eq_true rfl) ?_
  refine lv_dup hx hb dX6_init_60 rfl ?_
  obtain ⟨r_22, σ_23, hc_24, hf⟩ := z_b_e hf
  refine go_m hR (mi_run (As := []) (rest := [.ref (G.2.2 + 76), .int (1 : Int32), .ref (G.2.2 + t_19)]) X hR mi_6_36 (c5_init l G N kh_76 hc_24) ⟨rfl, rfl, Nat.le_of_ble_eq_true rfl, Nat.le_of_ble_eq_true rfl⟩ rfl hl.1 rfl (Nat.le_of_ble_eq_true rfl) dX6_init_61 ⟨Nat.le_of_ble_eq_true rfl, Nat.le_of_ble_eq_true rfl⟩) (fun H locs hR => ?_)
  have hR : Rp G 78 ff σ_23 s H locs := hR
  refine W.widen (k := 7) (n := 60) (Nat.le_of_ble_eq_true rfl) (Nat.le_of_ble_eq_true rfl) ?_
  refine q_aas (ti := 5) (ci := 5) X hR kh_20 (Or.inl ⟨rfl, rfl, rfl⟩) (by omega) kh_76 (by decide) rfl (inB_in rfl) dX6_init_64 (fun H locs σ_25 eσ_25 hR => ?_)
  replace hf := z_l_e eσ_25 hf
  refine lv_iinc (v := (2 : Int32)) (lv' := [(1, .int (2 : Int32)), (0, .ref (G.2.2 + 70))]) hx hb dX6_init_65 hl (k := 0) rfl (by decide) (by decide) rfl (fun ls hl => ?_)
  refine lv_goto (tgt := 46) hx hb dX6_init_68 (by decide) ?_
  refine lv_iload_n hx hb dX6_init_46 rfl (lv_at hl 0 rfl) ?_
  refine lv_bipush (v := (30 : Int32)) hx hb dX6_init_47 (by decide) ?_
  refine lv_icmp_ge (tgt := 71) hx hb dX6_init_49 (by decide) (fun c_26 => absurd c_26 (by decide)) (fun c_26 => ?_)
  refine lv_aload_n hx hb dX6_init_52 rfl (lv_at hl 1 rfl) ?_
  obtain ⟨t_27, h_28, kh_28, lh_28, hf⟩ := z_k_e hf
  refine q_gr X hR cg_6_11.1 cg_6_11.2 kh_70 (by decide) h_28 dX6_init_53 ?_
  refine lv_iload_n hx hb dX6_init_56 rfl (lv_at hl 0 rfl) ?_
  refine q_new (N := 5) X hR (kd_lt kh_78 (by decide)) rfl kh_78 (by decide) rfl cl_6_9 ins_5 ini_5 (Nat.le_of_ble_eq_true rfl) (Nat.le_of_ble_eq_true rfl) dX6_init_57 (fun H σ_29 eσ_29 hR => ?_)
  replace hf := z_l_e eσ_29 hf
  have hR : Rp G 79 ff σ_29 s H locs := hR
  refine W.widen (k := 8) (n := 65) (Nat.le_of_ble_eq_true rfl) (Nat.le_of_ble_eq_true rfl) ?_
  refine lv_dup hx hb dX6_init_60 rfl ?_
  obtain ⟨r_30, σ_31, hc_32, hf⟩ := z_b_e hf
  refine go_m hR (mi_run (As := []) (rest := [.ref (G.2.2 + 78), .int (2 : Int32), .ref (G.2.2 + t_27)]) X hR mi_6_36 (c5_init l G N kh_78 hc_32) ⟨rfl, rfl, Nat.le_of_ble_eq_true rfl, Nat.le_of_ble_eq_true rfl⟩ rfl hl.1 rfl (Nat.le_of_ble_eq_true rfl) dX6_init_61 ⟨Nat.le_of_ble_eq_true rfl, Nat.le_of_ble_eq_true rfl⟩) (fun H locs hR => ?_)
  have hR : Rp G 80 ff σ_31 s H locs := hR
  refine W.widen (k := 9) (n := 72) (Nat.le_of_ble_eq_true rfl) (Nat.le_of_ble_eq_true rfl) ?_
  refine q_aas (ti := 5) (ci := 5) X hR kh_28 (Or.inl ⟨rfl, rfl, rfl⟩) (by omega) kh_78 (by decide) rfl (inB_in rfl) dX6_init_64 (fun H locs σ_33 eσ_33 hR => ?_)
  replace hf := z_l_e eσ_33 hf
  refine lv_iinc (v := (3 : Int32)) (lv' := [(1, .int (3 : Int32)), (0, .ref (G.2.2 + 70))]) hx hb dX6_init_65 hl (k := 0) rfl (by decide) (by decide) rfl (fun ls hl => ?_)
  refine lv_goto (tgt := 46) hx hb dX6_init_68 (by decide) ?_
  refine lv_iload_n hx hb dX6_init_46 rfl (lv_at hl 0 rfl) ?_
  refine lv_bipush (v := (30 : Int32)) hx hb dX6_init_47 (by decide) ?_
  refine lv_icmp_ge (tgt := 71) hx hb dX6_init_49 (by decide) (fun c_34 => absurd c_34 (by decide)) (fun c_34 => ?_)
  refine lv_aload_n hx hb dX6_init_52 rfl (lv_at hl 1 rfl) ?_
  obtain ⟨t_35, h_36, kh_36, lh_36, hf⟩ := z_k_e hf
  refine q_gr X hR cg_6_11.1 cg_6_11.2 kh_70 (by decide) h_36 dX6_init_53 ?_
  refine lv_iload_n hx hb dX6_init_56 rfl (lv_at hl 0 rfl) ?_
  refine q_new (N := 5) X hR (kd_lt kh_80 (by decide)) rfl kh_80 (by decide) rfl cl_6_9 ins_5 ini_5 (Nat.le_of_ble_eq_true rfl) (Nat.le_of_ble_eq_true rfl) dX6_init_57 (fun H σ_37 eσ_37 hR => ?_)
  replace hf := z_l_e eσ_37 hf
  have hR : Rp G 81 ff σ_37 s H locs := hR
  refine W.widen (k := 10) (n := 77) (Nat.le_of_ble_eq_true rfl) (Nat.le_of_ble_eq_true rfl) ?_
  refine lv_dup hx hb dX6_init_60 rfl ?_
  obtain ⟨r_38, σ_39, hc_40, hf⟩ := z_b_e hf
  refine go_m hR (mi_run (As := []) (rest := [.ref (G.2.2 + 80), .int (3 : Int32), .ref (G.2.2 + t_35)]) X hR mi_6_36 (c5_init l G N kh_80 hc_40) ⟨rfl, rfl, Nat.le_of_ble_eq_true rfl, Nat.le_of_ble_eq_true rfl⟩ rfl hl.1 rfl (Nat.le_of_ble_eq_true rfl) dX6_init_61 ⟨Nat.le_of_ble_eq_true rfl, Nat.le_of_ble_eq_true rfl⟩) (fun H locs hR => ?_)
  have hR : Rp G 82 ff σ_39 s H locs := hR
  refine W.widen (k := 11) (n := 84) (Nat.le_of_ble_eq_true rfl) (Nat.le_of_ble_eq_true rfl) ?_
  refine q_aas (ti := 5) (ci := 5) X hR kh_36 (Or.inl ⟨rfl, rfl, rfl⟩) (by omega) kh_80 (by decide) rfl (inB_in rfl) dX6_init_64 (fun H locs σ_41 eσ_41 hR => ?_)
  replace hf := z_l_e eσ_41 hf
  refine lv_iinc (v := (4 : Int32)) (lv' := [(1, .int (4 : Int32)), (0, .ref (G.2.2 + 70))]) hx hb dX6_init_65 hl (k := 0) rfl (by decide) (by decide) rfl (fun ls hl => ?_)
  refine lv_goto (tgt := 46) hx hb dX6_init_68 (by decide) ?_
  refine lv_iload_n hx hb dX6_init_46 rfl (lv_at hl 0 rfl) ?_
  refine lv_bipush (v := (30 : Int32)) hx hb dX6_init_47 (by decide) ?_
  refine lv_icmp_ge (tgt := 71) hx hb dX6_init_49 (by decide) (fun c_42 => absurd c_42 (by decide)) (fun c_42 => ?_)
  refine lv_aload_n hx hb dX6_init_52 rfl (lv_at hl 1 rfl) ?_
  obtain ⟨t_43, h_44, kh_44, lh_44, hf⟩ := z_k_e hf
  refine q_gr X hR cg_6_11.1 cg_6_11.2 kh_70 (by decide) h_44 dX6_init_53 ?_
  refine lv_iload_n hx hb dX6_init_56 rfl (lv_at hl 0 rfl) ?_
  refine q_new (N := 5) X hR (kd_lt kh_82 (by decide)) rfl kh_82 (by decide) rfl cl_6_9 ins_5 ini_5 (Nat.le_of_ble_eq_true rfl) (Nat.le_of_ble_eq_true rfl) dX6_init_57 (fun H σ_45 eσ_45 hR => ?_)
  replace hf := z_l_e eσ_45 hf
  have hR : Rp G 83 ff σ_45 s H locs := hR
  refine W.widen (k := 12) (n := 89) (Nat.le_of_ble_eq_true rfl) (Nat.le_of_ble_eq_true rfl) ?_
  refine lv_dup hx hb dX6_init_60 rfl ?_
  obtain ⟨r_46, σ_47, hc_48, hf⟩ := z_b_e hf
  refine go_m hR (mi_run (As := []) (rest := [.ref (G.2.2 + 82), .int (4 : Int32), .ref (G.2.2 + t_43)]) X hR mi_6_36 (c5_init l G N kh_82 hc_48) ⟨rfl, rfl, Nat.le_of_ble_eq_true rfl, Nat.le_of_ble_eq_true rfl⟩ rfl hl.1 rfl (Nat.le_of_ble_eq_true rfl) dX6_init_61 ⟨Nat.le_of_ble_eq_true rfl, Nat.le_of_ble_eq_true rfl⟩) (fun H locs hR => ?_)
  have hR : Rp G 84 ff σ_47 s H locs := hR
  refine W.widen (k := 13) (n := 96) (Nat.le_of_ble_eq_true rfl) (Nat.le_of_ble_eq_true rfl) ?_
  refine q_aas (ti := 5) (ci := 5) X hR kh_44 (Or.inl ⟨rfl, rfl, rfl⟩) (by omega) kh_82 (by decide) rfl (inB_in rfl) dX6_init_64 (fun H locs σ_49 eσ_49 hR => ?_)
  replace hf := z_l_e eσ_49 hf
  refine lv_iinc (v := (5 : Int32)) (lv' := [(1, .int (5 : Int32)), (0, .ref (G.2.2 + 70))]) hx hb dX6_init_65 hl (k := 0) rfl (by decide) (by decide) rfl (fun ls hl => ?_)
  refine lv_goto (tgt := 46) hx hb dX6_init_68 (by decide) ?_
  refine lv_iload_n hx hb dX6_init_46 rfl (lv_at hl 0 rfl) ?_
  refine lv_bipush (v := (30 : Int32)) hx hb dX6_init_47 (by decide) ?_
  refine lv_icmp_ge (tgt := 71) hx hb dX6_init_49 (by decide) (fun c_50 => absurd c_50 (by decide)) (fun c_50 => ?_)
  refine lv_aload_n hx hb dX6_init_52 rfl (lv_at hl 1 rfl) ?_
  obtain ⟨t_51, h_52, kh_52, lh_52, hf⟩ := z_k_e hf
  refine q_gr X hR cg_6_11.1 cg_6_11.2 kh_70 (by decide) h_52 dX6_init_53 ?_
  refine lv_iload_n hx hb dX6_init_56 rfl (lv_at hl 0 rfl) ?_
  refine q_new (N := 5) X hR (kd_lt kh_84 (by decide)) rfl kh_84 (by decide) rfl cl_6_9 ins_5 ini_5 (Nat.le_of_ble_eq_true rfl) (Nat.le_of_ble_eq_true rfl) dX6_init_57 (fun H σ_53 eσ_53 hR => ?_)
  replace hf := z_l_e eσ_53 hf
  have hR : Rp G 85 ff σ_53 s H locs := hR
  refine W.widen (k := 14) (n := 101) (Nat.le_of_ble_eq_true rfl) (Nat.le_of_ble_eq_true rfl) ?_
  refine lv_dup hx hb dX6_init_60 rfl ?_
  obtain ⟨r_54, σ_55, hc_56, hf⟩ := z_b_e hf
  refine go_m hR (mi_run (As := []) (rest := [.ref (G.2.2 + 84), .int (5 : Int32), .ref (G.2.2 + t_51)]) X hR mi_6_36 (c5_init l G N kh_84 hc_56) ⟨rfl, rfl, Nat.le_of_ble_eq_true rfl, Nat.le_of_ble_eq_true rfl⟩ rfl hl.1 rfl (Nat.le_of_ble_eq_true rfl) dX6_init_61 ⟨Nat.le_of_ble_eq_true rfl, Nat.le_of_ble_eq_true rfl⟩) (fun H locs hR => ?_)
  have hR : Rp G 86 ff σ_55 s H locs := hR
  refine W.widen (k := 15) (n := 108) (Nat.le_of_ble_eq_true rfl) (Nat.le_of_ble_eq_true rfl) ?_
  refine q_aas (ti := 5) (ci := 5) X hR kh_52 (Or.inl ⟨rfl, rfl, rfl⟩) (by omega) kh_84 (by decide) rfl (inB_in rfl) dX6_init_64 (fun H locs σ_57 eσ_57 hR => ?_)
  replace hf := z_l_e eσ_57 hf
  refine lv_iinc (v := (6 : Int32)) (lv' := [(1, .int (6 : Int32)), (0, .ref (G.2.2 + 70))]) hx hb dX6_init_65 hl (k := 0) rfl (by decide) (by decide) rfl (fun ls hl => ?_)
  refine lv_goto (tgt := 46) hx hb dX6_init_68 (by decide) ?_
  refine lv_iload_n hx hb dX6_init_46 rfl (lv_at hl 0 rfl) ?_
  refine lv_bipush (v := (30 : Int32)) hx hb dX6_init_47 (by decide) ?_
  refine lv_icmp_ge (tgt := 71) hx hb dX6_init_49 (by decide) (fun c_58 => absurd c_58 (by decide)) (fun c_58 => ?_)
  refine lv_aload_n hx hb dX6_init_52 rfl (lv_at hl 1 rfl) ?_
  obtain ⟨t_59, h_60, kh_60, lh_60, hf⟩ := z_k_e hf
  refine q_gr X hR cg_6_11.1 cg_6_11.2 kh_70 (by decide) h_60 dX6_init_53 ?_
  refine lv_iload_n hx hb dX6_init_56 rfl (lv_at hl 0 rfl) ?_
  refine q_new (N := 5) X hR (kd_lt kh_86 (by decide)) rfl kh_86 (by decide) rfl cl_6_9 ins_5 ini_5 (Nat.le_of_ble_eq_true rfl) (Nat.le_of_ble_eq_true rfl) dX6_init_57 (fun H σ_61 eσ_61 hR => ?_)
  replace hf := z_l_e eσ_61 hf
  have hR : Rp G 87 ff σ_61 s H locs := hR
  refine W.widen (k := 16) (n := 113) (Nat.le_of_ble_eq_true rfl) (Nat.le_of_ble_eq_true rfl) ?_
  refine lv_dup hx hb dX6_init_60 rfl ?_
  obtain ⟨r_62, σ_63, hc_64, hf⟩ := z_b_e hf
  refine go_m hR (mi_run (As := []) (rest := [.ref (G.2.2 + 86), .int (6 : Int32), .ref (G.2.2 + t_59)]) X hR mi_6_36 (c5_init l G N kh_86 hc_64) ⟨rfl, rfl, Nat.le_of_ble_eq_true rfl, Nat.le_of_ble_eq_true rfl⟩ rfl hl.1 rfl (Nat.le_of_ble_eq_true rfl) dX6_init_61 ⟨Nat.le_of_ble_eq_true rfl, Nat.le_of_ble_eq_true rfl⟩) (fun H locs hR => ?_)
  have hR : Rp G 88 ff σ_63 s H locs := hR
  refine W.widen (k := 17) (n := 120) (Nat.le_of_ble_eq_true rfl) (Nat.le_of_ble_eq_true rfl) ?_
  refine q_aas (ti := 5) (ci := 5) X hR kh_60 (Or.inl ⟨rfl, rfl, rfl⟩) (by omega) kh_86 (by decide) rfl (inB_in rfl) dX6_init_64 (fun H locs σ_65 eσ_65 hR => ?_)
  replace hf := z_l_e eσ_65 hf
  refine lv_iinc (v := (7 : Int32)) (lv' := [(1, .int (7 : Int32)), (0, .ref (G.2.2 + 70))]) hx hb dX6_init_65 hl (k := 0) rfl (by decide) (by decide) rfl (fun ls hl => ?_)
  refine lv_goto (tgt := 46) hx hb dX6_init_68 (by decide) ?_
  refine lv_iload_n hx hb dX6_init_46 rfl (lv_at hl 0 rfl) ?_
  refine lv_bipush (v := (30 : Int32)) hx hb dX6_init_47 (by decide) ?_
  refine lv_icmp_ge (tgt := 71) hx hb dX6_init_49 (by decide) (fun c_66 => absurd c_66 (by decide)) (fun c_66 => ?_)
  refine lv_aload_n hx hb dX6_init_52 rfl (lv_at hl 1 rfl) ?_
  obtain ⟨t_67, h_68, kh_68, lh_68, hf⟩ := z_k_e hf
  refine q_gr X hR cg_6_11.1 cg_6_11.2 kh_70 (by decide) h_68 dX6_init_53 ?_
  refine lv_iload_n hx hb dX6_init_56 rfl (lv_at hl 0 rfl) ?_
  refine q_new (N := 5) X hR (kd_lt kh_88 (by decide)) rfl kh_88 (by decide) rfl cl_6_9 ins_5 ini_5 (Nat.le_of_ble_eq_true rfl) (Nat.le_of_ble_eq_true rfl) dX6_init_57 (fun H σ_69 eσ_69 hR => ?_)
  replace hf := z_l_e eσ_69 hf
  have hR : Rp G 89 ff σ_69 s H locs := hR
  refine W.widen (k := 18) (n := 125) (Nat.le_of_ble_eq_true rfl) (Nat.le_of_ble_eq_true rfl) ?_
  refine lv_dup hx hb dX6_init_60 rfl ?_
  obtain ⟨r_70, σ_71, hc_72, hf⟩ := z_b_e hf
  refine go_m hR (mi_run (As := []) (rest := [.ref (G.2.2 + 88), .int (7 : Int32), .ref (G.2.2 + t_67)]) X hR mi_6_36 (c5_init l G N kh_88 hc_72) ⟨rfl, rfl, Nat.le_of_ble_eq_true rfl, Nat.le_of_ble_eq_true rfl⟩ rfl hl.1 rfl (Nat.le_of_ble_eq_true rfl) dX6_init_61 ⟨Nat.le_of_ble_eq_true rfl, Nat.le_of_ble_eq_true rfl⟩) (fun H locs hR => ?_)
  have hR : Rp G 90 ff σ_71 s H locs := hR
  refine W.widen (k := 19) (n := 132) (Nat.le_of_ble_eq_true rfl) (Nat.le_of_ble_eq_true rfl) ?_
  refine q_aas (ti := 5) (ci := 5) X hR kh_68 (Or.inl ⟨rfl, rfl, rfl⟩) (by omega) kh_88 (by decide) rfl (inB_in rfl) dX6_init_64 (fun H locs σ_73 eσ_73 hR => ?_)
  replace hf := z_l_e eσ_73 hf
  refine lv_iinc (v := (8 : Int32)) (lv' := [(1, .int (8 : Int32)), (0, .ref (G.2.2 + 70))]) hx hb dX6_init_65 hl (k := 0) rfl (by decide) (by decide) rfl (fun ls hl => ?_)
  refine lv_goto (tgt := 46) hx hb dX6_init_68 (by decide) ?_
  refine lv_iload_n hx hb dX6_init_46 rfl (lv_at hl 0 rfl) ?_
  refine lv_bipush (v := (30 : Int32)) hx hb dX6_init_47 (by decide) ?_
  refine lv_icmp_ge (tgt := 71) hx hb dX6_init_49 (by decide) (fun c_74 => absurd c_74 (by decide)) (fun c_74 => ?_)
  refine lv_aload_n hx hb dX6_init_52 rfl (lv_at hl 1 rfl) ?_
  obtain ⟨t_75, h_76, kh_76, lh_76, hf⟩ := z_k_e hf
  refine q_gr X hR cg_6_11.1 cg_6_11.2 kh_70 (by decide) h_76 dX6_init_53 ?_
  refine lv_iload_n hx hb dX6_init_56 rfl (lv_at hl 0 rfl) ?_
  refine q_new (N := 5) X hR (kd_lt kh_90 (by decide)) rfl kh_90 (by decide) rfl cl_6_9 ins_5 ini_5 (Nat.le_of_ble_eq_true rfl) (Nat.le_of_ble_eq_true rfl) dX6_init_57 (fun H σ_77 eσ_77 hR => ?_)
  replace hf := z_l_e eσ_77 hf
  have hR : Rp G 91 ff σ_77 s H locs := hR
  refine W.widen (k := 20) (n := 137) (Nat.le_of_ble_eq_true rfl) (Nat.le_of_ble_eq_true rfl) ?_
  refine lv_dup hx hb dX6_init_60 rfl ?_
  obtain ⟨r_78, σ_79, hc_80, hf⟩ := z_b_e hf
  refine go_m hR (mi_run (As := []) (rest := [.ref (G.2.2 + 90), .int (8 : Int32), .ref (G.2.2 + t_75)]) X hR mi_6_36 (c5_init l G N kh_90 hc_80) ⟨rfl, rfl, Nat.le_of_ble_eq_true rfl, Nat.le_of_ble_eq_true rfl⟩ rfl hl.1 rfl (Nat.le_of_ble_eq_true rfl) dX6_init_61 ⟨Nat.le_of_ble_eq_true rfl, Nat.le_of_ble_eq_true rfl⟩) (fun H locs hR => ?_)
  have hR : Rp G 92 ff σ_79 s H locs := hR
  refine W.widen (k := 21) (n := 144) (Nat.le_of_ble_eq_true rfl) (Nat.le_of_ble_eq_true rfl) ?_
  refine q_aas (ti := 5) (ci := 5) X hR kh_76 (Or.inl ⟨rfl, rfl, rfl⟩) (by omega) kh_90 (by decide) rfl (inB_in rfl) dX6_init_64 (fun H locs σ_81 eσ_81 hR => ?_)
  replace hf := z_l_e eσ_81 hf
  refine lv_iinc (v := (9 : Int32)) (lv' := [(1, .int (9 : Int32)), (0, .ref (G.2.2 + 70))]) hx hb dX6_init_65 hl (k := 0) rfl (by decide) (by decide) rfl (fun ls hl => ?_)
  refine lv_goto (tgt := 46) hx hb dX6_init_68 (by decide) ?_
  refine lv_iload_n hx hb dX6_init_46 rfl (lv_at hl 0 rfl) ?_
  refine lv_bipush (v := (30 : Int32)) hx hb dX6_init_47 (by decide) ?_
  refine lv_icmp_ge (tgt := 71) hx hb dX6_init_49 (by decide) (fun c_82 => absurd c_82 (by decide)) (fun c_82 => ?_)
  refine lv_aload_n hx hb dX6_init_52 rfl (lv_at hl 1 rfl) ?_
  obtain ⟨t_83, h_84, kh_84, lh_84, hf⟩ := z_k_e hf
  refine q_gr X hR cg_6_11.1 cg_6_11.2 kh_70 (by decide) h_84 dX6_init_53 ?_
  refine lv_iload_n hx hb dX6_init_56 rfl (lv_at hl 0 rfl) ?_
  refine q_new (N := 5) X hR (kd_lt kh_92 (by decide)) rfl kh_92 (by decide) rfl cl_6_9 ins_5 ini_5 (Nat.le_of_ble_eq_true rfl) (Nat.le_of_ble_eq_true rfl) dX6_init_57 (fun H σ_85 eσ_85 hR => ?_)
  replace hf := z_l_e eσ_85 hf
  have hR : Rp G 93 ff σ_85 s H locs := hR
  refine W.widen (k := 22) (n := 149) (Nat.le_of_ble_eq_true rfl) (Nat.le_of_ble_eq_true rfl) ?_
  refine lv_dup hx hb dX6_init_60 rfl ?_
  obtain ⟨r_86, σ_87, hc_88, hf⟩ := z_b_e hf
  refine go_m hR (mi_run (As := []) (rest := [.ref (G.2.2 + 92), .int (9 : Int32), .ref (G.2.2 + t_83)]) X hR mi_6_36 (c5_init l G N kh_92 hc_88) ⟨rfl, rfl, Nat.le_of_ble_eq_true rfl, Nat.le_of_ble_eq_true rfl⟩ rfl hl.1 rfl (Nat.le_of_ble_eq_true rfl) dX6_init_61 ⟨Nat.le_of_ble_eq_true rfl, Nat.le_of_ble_eq_true rfl⟩) (fun H locs hR => ?_)
  have hR : Rp G 94 ff σ_87 s H locs := hR
  refine W.widen (k := 23) (n := 156) (Nat.le_of_ble_eq_true rfl) (Nat.le_of_ble_eq_true rfl) ?_
  refine q_aas (ti := 5) (ci := 5) X hR kh_84 (Or.inl ⟨rfl, rfl, rfl⟩) (by omega) kh_92 (by decide) rfl (inB_in rfl) dX6_init_64 (fun H locs σ_89 eσ_89 hR => ?_)
  replace hf := z_l_e eσ_89 hf
  refine lv_iinc (v := (10 : Int32)) (lv' := [(1, .int (10 : Int32)), (0, .ref (G.2.2 + 70))]) hx hb dX6_init_65 hl (k := 0) rfl (by decide) (by decide) rfl (fun ls hl => ?_)
  refine lv_goto (tgt := 46) hx hb dX6_init_68 (by decide) ?_
  refine lv_iload_n hx hb dX6_init_46 rfl (lv_at hl 0 rfl) ?_
  refine lv_bipush (v := (30 : Int32)) hx hb dX6_init_47 (by decide) ?_
  refine lv_icmp_ge (tgt := 71) hx hb dX6_init_49 (by decide) (fun c_90 => absurd c_90 (by decide)) (fun c_90 => ?_)
  refine lv_aload_n hx hb dX6_init_52 rfl (lv_at hl 1 rfl) ?_
  obtain ⟨t_91, h_92, kh_92, lh_92, hf⟩ := z_k_e hf
  refine q_gr X hR cg_6_11.1 cg_6_11.2 kh_70 (by decide) h_92 dX6_init_53 ?_
  refine lv_iload_n hx hb dX6_init_56 rfl (lv_at hl 0 rfl) ?_
  refine q_new (N := 5) X hR (kd_lt kh_94 (by decide)) rfl kh_94 (by decide) rfl cl_6_9 ins_5 ini_5 (Nat.le_of_ble_eq_true rfl) (Nat.le_of_ble_eq_true rfl) dX6_init_57 (fun H σ_93 eσ_93 hR => ?_)
  replace hf := z_l_e eσ_93 hf
  have hR : Rp G 95 ff σ_93 s H locs := hR
  refine W.widen (k := 24) (n := 161) (Nat.le_of_ble_eq_true rfl) (Nat.le_of_ble_eq_true rfl) ?_
  refine lv_dup hx hb dX6_init_60 rfl ?_
  obtain ⟨r_94, σ_95, hc_96, hf⟩ := z_b_e hf
  refine go_m hR (mi_run (As := []) (rest := [.ref (G.2.2 + 94), .int (10 : Int32), .ref (G.2.2 + t_91)]) X hR mi_6_36 (c5_init l G N kh_94 hc_96) ⟨rfl, rfl, Nat.le_of_ble_eq_true rfl, Nat.le_of_ble_eq_true rfl⟩ rfl hl.1 rfl (Nat.le_of_ble_eq_true rfl) dX6_init_61 ⟨Nat.le_of_ble_eq_true rfl, Nat.le_of_ble_eq_true rfl⟩) (fun H locs hR => ?_)
  have hR : Rp G 96 ff σ_95 s H locs := hR
  refine W.widen (k := 25) (n := 168) (Nat.le_of_ble_eq_true rfl) (Nat.le_of_ble_eq_true rfl) ?_
  refine q_aas (ti := 5) (ci := 5) X hR kh_92 (Or.inl ⟨rfl, rfl, rfl⟩) (by omega) kh_94 (by decide) rfl (inB_in rfl) dX6_init_64 (fun H locs σ_97 eσ_97 hR => ?_)
  replace hf := z_l_e eσ_97 hf
  refine lv_iinc (v := (11 : Int32)) (lv' := [(1, .int (11 : Int32)), (0, .ref (G.2.2 + 70))]) hx hb dX6_init_65 hl (k := 0) rfl (by decide) (by decide) rfl (fun ls hl => ?_)
  refine lv_goto (tgt := 46) hx hb dX6_init_68 (by decide) ?_
  refine lv_iload_n hx hb dX6_init_46 rfl (lv_at hl 0 rfl) ?_
  refine lv_bipush (v := (30 : Int32)) hx hb dX6_init_47 (by decide) ?_
  refine lv_icmp_ge (tgt := 71) hx hb dX6_init_49 (by decide) (fun c_98 => absurd c_98 (by decide)) (fun c_98 => ?_)
  refine lv_aload_n hx hb dX6_init_52 rfl (lv_at hl 1 rfl) ?_
  obtain ⟨t_99, h_100, kh_100, lh_100, hf⟩ := z_k_e hf
  refine q_gr X hR cg_6_11.1 cg_6_11.2 kh_70 (by decide) h_100 dX6_init_53 ?_
  refine lv_iload_n hx hb dX6_init_56 rfl (lv_at hl 0 rfl) ?_
  refine q_new (N := 5) X hR (kd_lt kh_96 (by decide)) rfl kh_96 (by decide) rfl cl_6_9 ins_5 ini_5 (Nat.le_of_ble_eq_true rfl) (Nat.le_of_ble_eq_true rfl) dX6_init_57 (fun H σ_101 eσ_101 hR => ?_)
  replace hf := z_l_e eσ_101 hf
  have hR : Rp G 97 ff σ_101 s H locs := hR
  refine W.widen (k := 26) (n := 173) (Nat.le_of_ble_eq_true rfl) (Nat.le_of_ble_eq_true rfl) ?_
  refine lv_dup hx hb dX6_init_60 rfl ?_
  obtain ⟨r_102, σ_103, hc_104, hf⟩ := z_b_e hf
  refine go_m hR (mi_run (As := []) (rest := [.ref (G.2.2 + 96), .int (11 : Int32), .ref (G.2.2 + t_99)]) X hR mi_6_36 (c5_init l G N kh_96 hc_104) ⟨rfl, rfl, Nat.le_of_ble_eq_true rfl, Nat.le_of_ble_eq_true rfl⟩ rfl hl.1 rfl (Nat.le_of_ble_eq_true rfl) dX6_init_61 ⟨Nat.le_of_ble_eq_true rfl, Nat.le_of_ble_eq_true rfl⟩) (fun H locs hR => ?_)
  have hR : Rp G 98 ff σ_103 s H locs := hR
  refine W.widen (k := 27) (n := 180) (Nat.le_of_ble_eq_true rfl) (Nat.le_of_ble_eq_true rfl) ?_
  refine q_aas (ti := 5) (ci := 5) X hR kh_100 (Or.inl ⟨rfl, rfl, rfl⟩) (by omega) kh_96 (by decide) rfl (inB_in rfl) dX6_init_64 (fun H locs σ_105 eσ_105 hR => ?_)
  replace hf := z_l_e eσ_105 hf
  refine lv_iinc (v := (12 : Int32)) (lv' := [(1, .int (12 : Int32)), (0, .ref (G.2.2 + 70))]) hx hb dX6_init_65 hl (k := 0) rfl (by decide) (by decide) rfl (fun ls hl => ?_)
  refine lv_goto (tgt := 46) hx hb dX6_init_68 (by decide) ?_
  refine lv_iload_n hx hb dX6_init_46 rfl (lv_at hl 0 rfl) ?_
  refine lv_bipush (v := (30 : Int32)) hx hb dX6_init_47 (by decide) ?_
  refine lv_icmp_ge (tgt := 71) hx hb dX6_init_49 (by decide) (fun c_106 => absurd c_106 (by decide)) (fun c_106 => ?_)
  refine lv_aload_n hx hb dX6_init_52 rfl (lv_at hl 1 rfl) ?_
  obtain ⟨t_107, h_108, kh_108, lh_108, hf⟩ := z_k_e hf
  refine q_gr X hR cg_6_11.1 cg_6_11.2 kh_70 (by decide) h_108 dX6_init_53 ?_
  refine lv_iload_n hx hb dX6_init_56 rfl (lv_at hl 0 rfl) ?_
  refine q_new (N := 5) X hR (kd_lt kh_98 (by decide)) rfl kh_98 (by decide) rfl cl_6_9 ins_5 ini_5 (Nat.le_of_ble_eq_true rfl) (Nat.le_of_ble_eq_true rfl) dX6_init_57 (fun H σ_109 eσ_109 hR => ?_)
  replace hf := z_l_e eσ_109 hf
  have hR : Rp G 99 ff σ_109 s H locs := hR
  refine W.widen (k := 28) (n := 185) (Nat.le_of_ble_eq_true rfl) (Nat.le_of_ble_eq_true rfl) ?_
  refine lv_dup hx hb dX6_init_60 rfl ?_
  obtain ⟨r_110, σ_111, hc_112, hf⟩ := z_b_e hf
  refine go_m hR (mi_run (As := []) (rest := [.ref (G.2.2 + 98), .int (12 : Int32), .ref (G.2.2 + t_107)]) X hR mi_6_36 (c5_init l G N kh_98 hc_112) ⟨rfl, rfl, Nat.le_of_ble_eq_true rfl, Nat.le_of_ble_eq_true rfl⟩ rfl hl.1 rfl (Nat.le_of_ble_eq_true rfl) dX6_init_61 ⟨Nat.le_of_ble_eq_true rfl, Nat.le_of_ble_eq_true rfl⟩) (fun H locs hR => ?_)
  have hR : Rp G 100 ff σ_111 s H locs := hR
  refine W.widen (k := 29) (n := 192) (Nat.le_of_ble_eq_true rfl) (Nat.le_of_ble_eq_true rfl) ?_
  refine q_aas (ti := 5) (ci := 5) X hR kh_108 (Or.inl ⟨rfl, rfl, rfl⟩) (by omega) kh_98 (by decide) rfl (inB_in rfl) dX6_init_64 (fun H locs σ_113 eσ_113 hR => ?_)
  replace hf := z_l_e eσ_113 hf
  refine lv_iinc (v := (13 : Int32)) (lv' := [(1, .int (13 : Int32)), (0, .ref (G.2.2 + 70))]) hx hb dX6_init_65 hl (k := 0) rfl (by decide) (by decide) rfl (fun ls hl => ?_)
  refine lv_goto (tgt := 46) hx hb dX6_init_68 (by decide) ?_
  refine lv_iload_n hx hb dX6_init_46 rfl (lv_at hl 0 rfl) ?_
  refine lv_bipush (v := (30 : Int32)) hx hb dX6_init_47 (by decide) ?_
  refine lv_icmp_ge (tgt := 71) hx hb dX6_init_49 (by decide) (fun c_114 => absurd c_114 (by decide)) (fun c_114 => ?_)
  refine lv_aload_n hx hb dX6_init_52 rfl (lv_at hl 1 rfl) ?_
  obtain ⟨t_115, h_116, kh_116, lh_116, hf⟩ := z_k_e hf
  refine q_gr X hR cg_6_11.1 cg_6_11.2 kh_70 (by decide) h_116 dX6_init_53 ?_
  refine lv_iload_n hx hb dX6_init_56 rfl (lv_at hl 0 rfl) ?_
  refine q_new (N := 5) X hR (kd_lt kh_100 (by decide)) rfl kh_100 (by decide) rfl cl_6_9 ins_5 ini_5 (Nat.le_of_ble_eq_true rfl) (Nat.le_of_ble_eq_true rfl) dX6_init_57 (fun H σ_117 eσ_117 hR => ?_)
  replace hf := z_l_e eσ_117 hf
  have hR : Rp G 101 ff σ_117 s H locs := hR
  refine W.widen (k := 30) (n := 197) (Nat.le_of_ble_eq_true rfl) (Nat.le_of_ble_eq_true rfl) ?_
  refine lv_dup hx hb dX6_init_60 rfl ?_
  obtain ⟨r_118, σ_119, hc_120, hf⟩ := z_b_e hf
  refine go_m hR (mi_run (As := []) (rest := [.ref (G.2.2 + 100), .int (13 : Int32), .ref (G.2.2 + t_115)]) X hR mi_6_36 (c5_init l G N kh_100 hc_120) ⟨rfl, rfl, Nat.le_of_ble_eq_true rfl, Nat.le_of_ble_eq_true rfl⟩ rfl hl.1 rfl (Nat.le_of_ble_eq_true rfl) dX6_init_61 ⟨Nat.le_of_ble_eq_true rfl, Nat.le_of_ble_eq_true rfl⟩) (fun H locs hR => ?_)
  have hR : Rp G 102 ff σ_119 s H locs := hR
  refine W.widen (k := 31) (n := 204) (Nat.le_of_ble_eq_true rfl) (Nat.le_of_ble_eq_true rfl) ?_
  refine q_aas (ti := 5) (ci := 5) X hR kh_116 (Or.inl ⟨rfl, rfl, rfl⟩) (by omega) kh_100 (by decide) rfl (inB_in rfl) dX6_init_64 (fun H locs σ_121 eσ_121 hR => ?_)
  replace hf := z_l_e eσ_121 hf
  refine lv_iinc (v := (14 : Int32)) (lv' := [(1, .int (14 : Int32)), (0, .ref (G.2.2 + 70))]) hx hb dX6_init_65 hl (k := 0) rfl (by decide) (by decide) rfl (fun ls hl => ?_)
  refine lv_goto (tgt := 46) hx hb dX6_init_68 (by decide) ?_
  refine lv_iload_n hx hb dX6_init_46 rfl (lv_at hl 0 rfl) ?_
  refine lv_bipush (v := (30 : Int32)) hx hb dX6_init_47 (by decide) ?_
  refine lv_icmp_ge (tgt := 71) hx hb dX6_init_49 (by decide) (fun c_122 => absurd c_122 (by decide)) (fun c_122 => ?_)
  refine lv_aload_n hx hb dX6_init_52 rfl (lv_at hl 1 rfl) ?_
  obtain ⟨t_123, h_124, kh_124, lh_124, hf⟩ := z_k_e hf
  refine q_gr X hR cg_6_11.1 cg_6_11.2 kh_70 (by decide) h_124 dX6_init_53 ?_
  refine lv_iload_n hx hb dX6_init_56 rfl (lv_at hl 0 rfl) ?_
  refine q_new (N := 5) X hR (kd_lt kh_102 (by decide)) rfl kh_102 (by decide) rfl cl_6_9 ins_5 ini_5 (Nat.le_of_ble_eq_true rfl) (Nat.le_of_ble_eq_true rfl) dX6_init_57 (fun H σ_125 eσ_125 hR => ?_)
  replace hf := z_l_e eσ_125 hf
  have hR : Rp G 103 ff σ_125 s H locs := hR
  refine W.widen (k := 32) (n := 209) (Nat.le_of_ble_eq_true rfl) (Nat.le_of_ble_eq_true rfl) ?_
  refine lv_dup hx hb dX6_init_60 rfl ?_
  obtain ⟨r_126, σ_127, hc_128, hf⟩ := z_b_e hf
  refine go_m hR (mi_run (As := []) (rest := [.ref (G.2.2 + 102), .int (14 : Int32), .ref (G.2.2 + t_123)]) X hR mi_6_36 (c5_init l G N kh_102 hc_128) ⟨rfl, rfl, Nat.le_of_ble_eq_true rfl, Nat.le_of_ble_eq_true rfl⟩ rfl hl.1 rfl (Nat.le_of_ble_eq_true rfl) dX6_init_61 ⟨Nat.le_of_ble_eq_true rfl, Nat.le_of_ble_eq_true rfl⟩) (fun H locs hR => ?_)
  have hR : Rp G 104 ff σ_127 s H locs := hR
  refine W.widen (k := 33) (n := 216) (Nat.le_of_ble_eq_true rfl) (Nat.le_of_ble_eq_true rfl) ?_
  refine q_aas (ti := 5) (ci := 5) X hR kh_124 (Or.inl ⟨rfl, rfl, rfl⟩) (by omega) kh_102 (by decide) rfl (inB_in rfl) dX6_init_64 (fun H locs σ_129 eσ_129 hR => ?_)
  replace hf := z_l_e eσ_129 hf
  refine lv_iinc (v := (15 : Int32)) (lv' := [(1, .int (15 : Int32)), (0, .ref (G.2.2 + 70))]) hx hb dX6_init_65 hl (k := 0) rfl (by decide) (by decide) rfl (fun ls hl => ?_)
  refine lv_goto (tgt := 46) hx hb dX6_init_68 (by decide) ?_
  refine lv_iload_n hx hb dX6_init_46 rfl (lv_at hl 0 rfl) ?_
  refine lv_bipush (v := (30 : Int32)) hx hb dX6_init_47 (by decide) ?_
  refine lv_icmp_ge (tgt := 71) hx hb dX6_init_49 (by decide) (fun c_130 => absurd c_130 (by decide)) (fun c_130 => ?_)
  refine lv_aload_n hx hb dX6_init_52 rfl (lv_at hl 1 rfl) ?_
  obtain ⟨t_131, h_132, kh_132, lh_132, hf⟩ := z_k_e hf
  refine q_gr X hR cg_6_11.1 cg_6_11.2 kh_70 (by decide) h_132 dX6_init_53 ?_
  refine lv_iload_n hx hb dX6_init_56 rfl (lv_at hl 0 rfl) ?_
  refine q_new (N := 5) X hR (kd_lt kh_104 (by decide)) rfl kh_104 (by decide) rfl cl_6_9 ins_5 ini_5 (Nat.le_of_ble_eq_true rfl) (Nat.le_of_ble_eq_true rfl) dX6_init_57 (fun H σ_133 eσ_133 hR => ?_)
  replace hf := z_l_e eσ_133 hf
  have hR : Rp G 105 ff σ_133 s H locs := hR
  refine W.widen (k := 34) (n := 221) (Nat.le_of_ble_eq_true rfl) (Nat.le_of_ble_eq_true rfl) ?_
  refine lv_dup hx hb dX6_init_60 rfl ?_
  obtain ⟨r_134, σ_135, hc_136, hf⟩ := z_b_e hf
  refine go_m hR (mi_run (As := []) (rest := [.ref (G.2.2 + 104), .int (15 : Int32), .ref (G.2.2 + t_131)]) X hR mi_6_36 (c5_init l G N kh_104 hc_136) ⟨rfl, rfl, Nat.le_of_ble_eq_true rfl, Nat.le_of_ble_eq_true rfl⟩ rfl hl.1 rfl (Nat.le_of_ble_eq_true rfl) dX6_init_61 ⟨Nat.le_of_ble_eq_true rfl, Nat.le_of_ble_eq_true rfl⟩) (fun H locs hR => ?_)
  have hR : Rp G 106 ff σ_135 s H locs := hR
  refine W.widen (k := 35) (n := 228) (Nat.le_of_ble_eq_true rfl) (Nat.le_of_ble_eq_true rfl) ?_
  refine q_aas (ti := 5) (ci := 5) X hR kh_132 (Or.inl ⟨rfl, rfl, rfl⟩) (by omega) kh_104 (by decide) rfl (inB_in rfl) dX6_init_64 (fun H locs σ_137 eσ_137 hR => ?_)
  replace hf := z_l_e eσ_137 hf
  refine lv_iinc (v := (16 : Int32)) (lv' := [(1, .int (16 : Int32)), (0, .ref (G.2.2 + 70))]) hx hb dX6_init_65 hl (k := 0) rfl (by decide) (by decide) rfl (fun ls hl => ?_)
  refine lv_goto (tgt := 46) hx hb dX6_init_68 (by decide) ?_
  refine lv_iload_n hx hb dX6_init_46 rfl (lv_at hl 0 rfl) ?_
  refine lv_bipush (v := (30 : Int32)) hx hb dX6_init_47 (by decide) ?_
  refine lv_icmp_ge (tgt := 71) hx hb dX6_init_49 (by decide) (fun c_138 => absurd c_138 (by decide)) (fun c_138 => ?_)
  refine lv_aload_n hx hb dX6_init_52 rfl (lv_at hl 1 rfl) ?_
  obtain ⟨t_139, h_140, kh_140, lh_140, hf⟩ := z_k_e hf
  refine q_gr X hR cg_6_11.1 cg_6_11.2 kh_70 (by decide) h_140 dX6_init_53 ?_
  refine lv_iload_n hx hb dX6_init_56 rfl (lv_at hl 0 rfl) ?_
  refine q_new (N := 5) X hR (kd_lt kh_106 (by decide)) rfl kh_106 (by decide) rfl cl_6_9 ins_5 ini_5 (Nat.le_of_ble_eq_true rfl) (Nat.le_of_ble_eq_true rfl) dX6_init_57 (fun H σ_141 eσ_141 hR => ?_)
  replace hf := z_l_e eσ_141 hf
  have hR : Rp G 107 ff σ_141 s H locs := hR
  refine W.widen (k := 36) (n := 233) (Nat.le_of_ble_eq_true rfl) (Nat.le_of_ble_eq_true rfl) ?_
  refine lv_dup hx hb dX6_init_60 rfl ?_
  obtain ⟨r_142, σ_143, hc_144, hf⟩ := z_b_e hf
  refine go_m hR (mi_run (As := []) (rest := [.ref (G.2.2 + 106), .int (16 : Int32), .ref (G.2.2 + t_139)]) X hR mi_6_36 (c5_init l G N kh_106 hc_144) ⟨rfl, rfl, Nat.le_of_ble_eq_true rfl, Nat.le_of_ble_eq_true rfl⟩ rfl hl.1 rfl (Nat.le_of_ble_eq_true rfl) dX6_init_61 ⟨Nat.le_of_ble_eq_true rfl, Nat.le_of_ble_eq_true rfl⟩) (fun H locs hR => ?_)
  have hR : Rp G 108 ff σ_143 s H locs := hR
  refine W.widen (k := 37) (n := 240) (Nat.le_of_ble_eq_true rfl) (Nat.le_of_ble_eq_true rfl) ?_
  refine q_aas (ti := 5) (ci := 5) X hR kh_140 (Or.inl ⟨rfl, rfl, rfl⟩) (by omega) kh_106 (by decide) rfl (inB_in rfl) dX6_init_64 (fun H locs σ_145 eσ_145 hR => ?_)
  replace hf := z_l_e eσ_145 hf
  refine lv_iinc (v := (17 : Int32)) (lv' := [(1, .int (17 : Int32)), (0, .ref (G.2.2 + 70))]) hx hb dX6_init_65 hl (k := 0) rfl (by decide) (by decide) rfl (fun ls hl => ?_)
  refine lv_goto (tgt := 46) hx hb dX6_init_68 (by decide) ?_
  refine lv_iload_n hx hb dX6_init_46 rfl (lv_at hl 0 rfl) ?_
  refine lv_bipush (v := (30 : Int32)) hx hb dX6_init_47 (by decide) ?_
  refine lv_icmp_ge (tgt := 71) hx hb dX6_init_49 (by decide) (fun c_146 => absurd c_146 (by decide)) (fun c_146 => ?_)
  refine lv_aload_n hx hb dX6_init_52 rfl (lv_at hl 1 rfl) ?_
  obtain ⟨t_147, h_148, kh_148, lh_148, hf⟩ := z_k_e hf
  refine q_gr X hR cg_6_11.1 cg_6_11.2 kh_70 (by decide) h_148 dX6_init_53 ?_
  refine lv_iload_n hx hb dX6_init_56 rfl (lv_at hl 0 rfl) ?_
  refine q_new (N := 5) X hR (kd_lt kh_108 (by decide)) rfl kh_108 (by decide) rfl cl_6_9 ins_5 ini_5 (Nat.le_of_ble_eq_true rfl) (Nat.le_of_ble_eq_true rfl) dX6_init_57 (fun H σ_149 eσ_149 hR => ?_)
  replace hf := z_l_e eσ_149 hf
  have hR : Rp G 109 ff σ_149 s H locs := hR
  refine W.widen (k := 38) (n := 245) (Nat.le_of_ble_eq_true rfl) (Nat.le_of_ble_eq_true rfl) ?_
  refine lv_dup hx hb dX6_init_60 rfl ?_
  obtain ⟨r_150, σ_151, hc_152, hf⟩ := z_b_e hf
  refine go_m hR (mi_run (As := []) (rest := [.ref (G.2.2 + 108), .int (17 : Int32), .ref (G.2.2 + t_147)]) X hR mi_6_36 (c5_init l G N kh_108 hc_152) ⟨rfl, rfl, Nat.le_of_ble_eq_true rfl, Nat.le_of_ble_eq_true rfl⟩ rfl hl.1 rfl (Nat.le_of_ble_eq_true rfl) dX6_init_61 ⟨Nat.le_of_ble_eq_true rfl, Nat.le_of_ble_eq_true rfl⟩) (fun H locs hR => ?_)
  have hR : Rp G 110 ff σ_151 s H locs := hR
  refine W.widen (k := 39) (n := 252) (Nat.le_of_ble_eq_true rfl) (Nat.le_of_ble_eq_true rfl) ?_
  refine q_aas (ti := 5) (ci := 5) X hR kh_148 (Or.inl ⟨rfl, rfl, rfl⟩) (by omega) kh_108 (by decide) rfl (inB_in rfl) dX6_init_64 (fun H locs σ_153 eσ_153 hR => ?_)
  replace hf := z_l_e eσ_153 hf
  refine lv_iinc (v := (18 : Int32)) (lv' := [(1, .int (18 : Int32)), (0, .ref (G.2.2 + 70))]) hx hb dX6_init_65 hl (k := 0) rfl (by decide) (by decide) rfl (fun ls hl => ?_)
  refine lv_goto (tgt := 46) hx hb dX6_init_68 (by decide) ?_
  refine lv_iload_n hx hb dX6_init_46 rfl (lv_at hl 0 rfl) ?_
  refine lv_bipush (v := (30 : Int32)) hx hb dX6_init_47 (by decide) ?_
  refine lv_icmp_ge (tgt := 71) hx hb dX6_init_49 (by decide) (fun c_154 => absurd c_154 (by decide)) (fun c_154 => ?_)
  refine lv_aload_n hx hb dX6_init_52 rfl (lv_at hl 1 rfl) ?_
  obtain ⟨t_155, h_156, kh_156, lh_156, hf⟩ := z_k_e hf
  refine q_gr X hR cg_6_11.1 cg_6_11.2 kh_70 (by decide) h_156 dX6_init_53 ?_
  refine lv_iload_n hx hb dX6_init_56 rfl (lv_at hl 0 rfl) ?_
  refine q_new (N := 5) X hR (kd_lt kh_110 (by decide)) rfl kh_110 (by decide) rfl cl_6_9 ins_5 ini_5 (Nat.le_of_ble_eq_true rfl) (Nat.le_of_ble_eq_true rfl) dX6_init_57 (fun H σ_157 eσ_157 hR => ?_)
  replace hf := z_l_e eσ_157 hf
  have hR : Rp G 111 ff σ_157 s H locs := hR
  refine W.widen (k := 40) (n := 257) (Nat.le_of_ble_eq_true rfl) (Nat.le_of_ble_eq_true rfl) ?_
  refine lv_dup hx hb dX6_init_60 rfl ?_
  obtain ⟨r_158, σ_159, hc_160, hf⟩ := z_b_e hf
  refine go_m hR (mi_run (As := []) (rest := [.ref (G.2.2 + 110), .int (18 : Int32), .ref (G.2.2 + t_155)]) X hR mi_6_36 (c5_init l G N kh_110 hc_160) ⟨rfl, rfl, Nat.le_of_ble_eq_true rfl, Nat.le_of_ble_eq_true rfl⟩ rfl hl.1 rfl (Nat.le_of_ble_eq_true rfl) dX6_init_61 ⟨Nat.le_of_ble_eq_true rfl, Nat.le_of_ble_eq_true rfl⟩) (fun H locs hR => ?_)
  have hR : Rp G 112 ff σ_159 s H locs := hR
  refine W.widen (k := 41) (n := 264) (Nat.le_of_ble_eq_true rfl) (Nat.le_of_ble_eq_true rfl) ?_
  refine q_aas (ti := 5) (ci := 5) X hR kh_156 (Or.inl ⟨rfl, rfl, rfl⟩) (by omega) kh_110 (by decide) rfl (inB_in rfl) dX6_init_64 (fun H locs σ_161 eσ_161 hR => ?_)
  replace hf := z_l_e eσ_161 hf
  refine lv_iinc (v := (19 : Int32)) (lv' := [(1, .int (19 : Int32)), (0, .ref (G.2.2 + 70))]) hx hb dX6_init_65 hl (k := 0) rfl (by decide) (by decide) rfl (fun ls hl => ?_)
  refine lv_goto (tgt := 46) hx hb dX6_init_68 (by decide) ?_
  refine lv_iload_n hx hb dX6_init_46 rfl (lv_at hl 0 rfl) ?_
  refine lv_bipush (v := (30 : Int32)) hx hb dX6_init_47 (by decide) ?_
  refine lv_icmp_ge (tgt := 71) hx hb dX6_init_49 (by decide) (fun c_162 => absurd c_162 (by decide)) (fun c_162 => ?_)
  refine lv_aload_n hx hb dX6_init_52 rfl (lv_at hl 1 rfl) ?_
  obtain ⟨t_163, h_164, kh_164, lh_164, hf⟩ := z_k_e hf
  refine q_gr X hR cg_6_11.1 cg_6_11.2 kh_70 (by decide) h_164 dX6_init_53 ?_
  refine lv_iload_n hx hb dX6_init_56 rfl (lv_at hl 0 rfl) ?_
  refine q_new (N := 5) X hR (kd_lt kh_112 (by decide)) rfl kh_112 (by decide) rfl cl_6_9 ins_5 ini_5 (Nat.le_of_ble_eq_true rfl) (Nat.le_of_ble_eq_true rfl) dX6_init_57 (fun H σ_165 eσ_165 hR => ?_)
  replace hf := z_l_e eσ_165 hf
  have hR : Rp G 113 ff σ_165 s H locs := hR
  refine W.widen (k := 42) (n := 269) (Nat.le_of_ble_eq_true rfl) (Nat.le_of_ble_eq_true rfl) ?_
  refine lv_dup hx hb dX6_init_60 rfl ?_
  obtain ⟨r_166, σ_167, hc_168, hf⟩ := z_b_e hf
  refine go_m hR (mi_run (As := []) (rest := [.ref (G.2.2 + 112), .int (19 : Int32), .ref (G.2.2 + t_163)]) X hR mi_6_36 (c5_init l G N kh_112 hc_168) ⟨rfl, rfl, Nat.le_of_ble_eq_true rfl, Nat.le_of_ble_eq_true rfl⟩ rfl hl.1 rfl (Nat.le_of_ble_eq_true rfl) dX6_init_61 ⟨Nat.le_of_ble_eq_true rfl, Nat.le_of_ble_eq_true rfl⟩) (fun H locs hR => ?_)
  have hR : Rp G 114 ff σ_167 s H locs := hR
  refine W.widen (k := 43) (n := 276) (Nat.le_of_ble_eq_true rfl) (Nat.le_of_ble_eq_true rfl) ?_
  refine q_aas (ti := 5) (ci := 5) X hR kh_164 (Or.inl ⟨rfl, rfl, rfl⟩) (by omega) kh_112 (by decide) rfl (inB_in rfl) dX6_init_64 (fun H locs σ_169 eσ_169 hR => ?_)
  replace hf := z_l_e eσ_169 hf
  refine lv_iinc (v := (20 : Int32)) (lv' := [(1, .int (20 : Int32)), (0, .ref (G.2.2 + 70))]) hx hb dX6_init_65 hl (k := 0) rfl (by decide) (by decide) rfl (fun ls hl => ?_)
  refine lv_goto (tgt := 46) hx hb dX6_init_68 (by decide) ?_
  refine lv_iload_n hx hb dX6_init_46 rfl (lv_at hl 0 rfl) ?_
  refine lv_bipush (v := (30 : Int32)) hx hb dX6_init_47 (by decide) ?_
  refine lv_icmp_ge (tgt := 71) hx hb dX6_init_49 (by decide) (fun c_170 => absurd c_170 (by decide)) (fun c_170 => ?_)
  refine lv_aload_n hx hb dX6_init_52 rfl (lv_at hl 1 rfl) ?_
  obtain ⟨t_171, h_172, kh_172, lh_172, hf⟩ := z_k_e hf
  refine q_gr X hR cg_6_11.1 cg_6_11.2 kh_70 (by decide) h_172 dX6_init_53 ?_
  refine lv_iload_n hx hb dX6_init_56 rfl (lv_at hl 0 rfl) ?_
  refine q_new (N := 5) X hR (kd_lt kh_114 (by decide)) rfl kh_114 (by decide) rfl cl_6_9 ins_5 ini_5 (Nat.le_of_ble_eq_true rfl) (Nat.le_of_ble_eq_true rfl) dX6_init_57 (fun H σ_173 eσ_173 hR => ?_)
  replace hf := z_l_e eσ_173 hf
  have hR : Rp G 115 ff σ_173 s H locs := hR
  refine W.widen (k := 44) (n := 281) (Nat.le_of_ble_eq_true rfl) (Nat.le_of_ble_eq_true rfl) ?_
  refine lv_dup hx hb dX6_init_60 rfl ?_
  obtain ⟨r_174, σ_175, hc_176, hf⟩ := z_b_e hf
  refine go_m hR (mi_run (As := []) (rest := [.ref (G.2.2 + 114), .int (20 : Int32), .ref (G.2.2 + t_171)]) X hR mi_6_36 (c5_init l G N kh_114 hc_176) ⟨rfl, rfl, Nat.le_of_ble_eq_true rfl, Nat.le_of_ble_eq_true rfl⟩ rfl hl.1 rfl (Nat.le_of_ble_eq_true rfl) dX6_init_61 ⟨Nat.le_of_ble_eq_true rfl, Nat.le_of_ble_eq_true rfl⟩) (fun H locs hR => ?_)
  have hR : Rp G 116 ff σ_175 s H locs := hR
  refine W.widen (k := 45) (n := 288) (Nat.le_of_ble_eq_true rfl) (Nat.le_of_ble_eq_true rfl) ?_
  refine q_aas (ti := 5) (ci := 5) X hR kh_172 (Or.inl ⟨rfl, rfl, rfl⟩) (by omega) kh_114 (by decide) rfl (inB_in rfl) dX6_init_64 (fun H locs σ_177 eσ_177 hR => ?_)
  replace hf := z_l_e eσ_177 hf
  refine lv_iinc (v := (21 : Int32)) (lv' := [(1, .int (21 : Int32)), (0, .ref (G.2.2 + 70))]) hx hb dX6_init_65 hl (k := 0) rfl (by decide) (by decide) rfl (fun ls hl => ?_)
  refine lv_goto (tgt := 46) hx hb dX6_init_68 (by decide) ?_
  refine lv_iload_n hx hb dX6_init_46 rfl (lv_at hl 0 rfl) ?_
  refine lv_bipush (v := (30 : Int32)) hx hb dX6_init_47 (by decide) ?_
  refine lv_icmp_ge (tgt := 71) hx hb dX6_init_49 (by decide) (fun c_178 => absurd c_178 (by decide)) (fun c_178 => ?_)
  refine lv_aload_n hx hb dX6_init_52 rfl (lv_at hl 1 rfl) ?_
  obtain ⟨t_179, h_180, kh_180, lh_180, hf⟩ := z_k_e hf
  refine q_gr X hR cg_6_11.1 cg_6_11.2 kh_70 (by decide) h_180 dX6_init_53 ?_
  refine lv_iload_n hx hb dX6_init_56 rfl (lv_at hl 0 rfl) ?_
  refine q_new (N := 5) X hR (kd_lt kh_116 (by decide)) rfl kh_116 (by decide) rfl cl_6_9 ins_5 ini_5 (Nat.le_of_ble_eq_true rfl) (Nat.le_of_ble_eq_true rfl) dX6_init_57 (fun H σ_181 eσ_181 hR => ?_)
  replace hf := z_l_e eσ_181 hf
  have hR : Rp G 117 ff σ_181 s H locs := hR
  refine W.widen (k := 46) (n := 293) (Nat.le_of_ble_eq_true rfl) (Nat.le_of_ble_eq_true rfl) ?_
  refine lv_dup hx hb dX6_init_60 rfl ?_
  obtain ⟨r_182, σ_183, hc_184, hf⟩ := z_b_e hf
  refine go_m hR (mi_run (As := []) (rest := [.ref (G.2.2 + 116), .int (21 : Int32), .ref (G.2.2 + t_179)]) X hR mi_6_36 (c5_init l G N kh_116 hc_184) ⟨rfl, rfl, Nat.le_of_ble_eq_true rfl, Nat.le_of_ble_eq_true rfl⟩ rfl hl.1 rfl (Nat.le_of_ble_eq_true rfl) dX6_init_61 ⟨Nat.le_of_ble_eq_true rfl, Nat.le_of_ble_eq_true rfl⟩) (fun H locs hR => ?_)
  have hR : Rp G 118 ff σ_183 s H locs := hR
  refine W.widen (k := 47) (n := 300) (Nat.le_of_ble_eq_true rfl) (Nat.le_of_ble_eq_true rfl) ?_
  refine q_aas (ti := 5) (ci := 5) X hR kh_180 (Or.inl ⟨rfl, rfl, rfl⟩) (by omega) kh_116 (by decide) rfl (inB_in rfl) dX6_init_64 (fun H locs σ_185 eσ_185 hR => ?_)
  replace hf := z_l_e eσ_185 hf
  refine lv_iinc (v := (22 : Int32)) (lv' := [(1, .int (22 : Int32)), (0, .ref (G.2.2 + 70))]) hx hb dX6_init_65 hl (k := 0) rfl (by decide) (by decide) rfl (fun ls hl => ?_)
  refine lv_goto (tgt := 46) hx hb dX6_init_68 (by decide) ?_
  refine lv_iload_n hx hb dX6_init_46 rfl (lv_at hl 0 rfl) ?_
  refine lv_bipush (v := (30 : Int32)) hx hb dX6_init_47 (by decide) ?_
  refine lv_icmp_ge (tgt := 71) hx hb dX6_init_49 (by decide) (fun c_186 => absurd c_186 (by decide)) (fun c_186 => ?_)
  refine lv_aload_n hx hb dX6_init_52 rfl (lv_at hl 1 rfl) ?_
  obtain ⟨t_187, h_188, kh_188, lh_188, hf⟩ := z_k_e hf
  refine q_gr X hR cg_6_11.1 cg_6_11.2 kh_70 (by decide) h_188 dX6_init_53 ?_
  refine lv_iload_n hx hb dX6_init_56 rfl (lv_at hl 0 rfl) ?_
  refine q_new (N := 5) X hR (kd_lt kh_118 (by decide)) rfl kh_118 (by decide) rfl cl_6_9 ins_5 ini_5 (Nat.le_of_ble_eq_true rfl) (Nat.le_of_ble_eq_true rfl) dX6_init_57 (fun H σ_189 eσ_189 hR => ?_)
  replace hf := z_l_e eσ_189 hf
  have hR : Rp G 119 ff σ_189 s H locs := hR
  refine W.widen (k := 48) (n := 305) (Nat.le_of_ble_eq_true rfl) (Nat.le_of_ble_eq_true rfl) ?_
  refine lv_dup hx hb dX6_init_60 rfl ?_
  obtain ⟨r_190, σ_191, hc_192, hf⟩ := z_b_e hf
  refine go_m hR (mi_run (As := []) (rest := [.ref (G.2.2 + 118), .int (22 : Int32), .ref (G.2.2 + t_187)]) X hR mi_6_36 (c5_init l G N kh_118 hc_192) ⟨rfl, rfl, Nat.le_of_ble_eq_true rfl, Nat.le_of_ble_eq_true rfl⟩ rfl hl.1 rfl (Nat.le_of_ble_eq_true rfl) dX6_init_61 ⟨Nat.le_of_ble_eq_true rfl, Nat.le_of_ble_eq_true rfl⟩) (fun H locs hR => ?_)
  have hR : Rp G 120 ff σ_191 s H locs := hR
  refine W.widen (k := 49) (n := 312) (Nat.le_of_ble_eq_true rfl) (Nat.le_of_ble_eq_true rfl) ?_
  refine q_aas (ti := 5) (ci := 5) X hR kh_188 (Or.inl ⟨rfl, rfl, rfl⟩) (by omega) kh_118 (by decide) rfl (inB_in rfl) dX6_init_64 (fun H locs σ_193 eσ_193 hR => ?_)
  replace hf := z_l_e eσ_193 hf
  refine lv_iinc (v := (23 : Int32)) (lv' := [(1, .int (23 : Int32)), (0, .ref (G.2.2 + 70))]) hx hb dX6_init_65 hl (k := 0) rfl (by decide) (by decide) rfl (fun ls hl => ?_)
  refine lv_goto (tgt := 46) hx hb dX6_init_68 (by decide) ?_
  refine lv_iload_n hx hb dX6_init_46 rfl (lv_at hl 0 rfl) ?_
  refine lv_bipush (v := (30 : Int32)) hx hb dX6_init_47 (by decide) ?_
  refine lv_icmp_ge (tgt := 71) hx hb dX6_init_49 (by decide) (fun c_194 => absurd c_194 (by decide)) (fun c_194 => ?_)
  refine lv_aload_n hx hb dX6_init_52 rfl (lv_at hl 1 rfl) ?_
  obtain ⟨t_195, h_196, kh_196, lh_196, hf⟩ := z_k_e hf
  refine q_gr X hR cg_6_11.1 cg_6_11.2 kh_70 (by decide) h_196 dX6_init_53 ?_
  refine lv_iload_n hx hb dX6_init_56 rfl (lv_at hl 0 rfl) ?_
  refine q_new (N := 5) X hR (kd_lt kh_120 (by decide)) rfl kh_120 (by decide) rfl cl_6_9 ins_5 ini_5 (Nat.le_of_ble_eq_true rfl) (Nat.le_of_ble_eq_true rfl) dX6_init_57 (fun H σ_197 eσ_197 hR => ?_)
  replace hf := z_l_e eσ_197 hf
  have hR : Rp G 121 ff σ_197 s H locs := hR
  refine W.widen (k := 50) (n := 317) (Nat.le_of_ble_eq_true rfl) (Nat.le_of_ble_eq_true rfl) ?_
  refine lv_dup hx hb dX6_init_60 rfl ?_
  obtain ⟨r_198, σ_199, hc_200, hf⟩ := z_b_e hf
  refine go_m hR (mi_run (As := []) (rest := [.ref (G.2.2 + 120), .int (23 : Int32), .ref (G.2.2 + t_195)]) X hR mi_6_36 (c5_init l G N kh_120 hc_200) ⟨rfl, rfl, Nat.le_of_ble_eq_true rfl, Nat.le_of_ble_eq_true rfl⟩ rfl hl.1 rfl (Nat.le_of_ble_eq_true rfl) dX6_init_61 ⟨Nat.le_of_ble_eq_true rfl, Nat.le_of_ble_eq_true rfl⟩) (fun H locs hR => ?_)
  have hR : Rp G 122 ff σ_199 s H locs := hR
  refine W.widen (k := 51) (n := 324) (Nat.le_of_ble_eq_true rfl) (Nat.le_of_ble_eq_true rfl) ?_
  refine q_aas (ti := 5) (ci := 5) X hR kh_196 (Or.inl ⟨rfl, rfl, rfl⟩) (by omega) kh_120 (by decide) rfl (inB_in rfl) dX6_init_64 (fun H locs σ_201 eσ_201 hR => ?_)
  replace hf := z_l_e eσ_201 hf
  refine lv_iinc (v := (24 : Int32)) (lv' := [(1, .int (24 : Int32)), (0, .ref (G.2.2 + 70))]) hx hb dX6_init_65 hl (k := 0) rfl (by decide) (by decide) rfl (fun ls hl => ?_)
  refine lv_goto (tgt := 46) hx hb dX6_init_68 (by decide) ?_
  refine lv_iload_n hx hb dX6_init_46 rfl (lv_at hl 0 rfl) ?_
  refine lv_bipush (v := (30 : Int32)) hx hb dX6_init_47 (by decide) ?_
  refine lv_icmp_ge (tgt := 71) hx hb dX6_init_49 (by decide) (fun c_202 => absurd c_202 (by decide)) (fun c_202 => ?_)
  refine lv_aload_n hx hb dX6_init_52 rfl (lv_at hl 1 rfl) ?_
  obtain ⟨t_203, h_204, kh_204, lh_204, hf⟩ := z_k_e hf
  refine q_gr X hR cg_6_11.1 cg_6_11.2 kh_70 (by decide) h_204 dX6_init_53 ?_
  refine lv_iload_n hx hb dX6_init_56 rfl (lv_at hl 0 rfl) ?_
  refine q_new (N := 5) X hR (kd_lt kh_122 (by decide)) rfl kh_122 (by decide) rfl cl_6_9 ins_5 ini_5 (Nat.le_of_ble_eq_true rfl) (Nat.le_of_ble_eq_true rfl) dX6_init_57 (fun H σ_205 eσ_205 hR => ?_)
  replace hf := z_l_e eσ_205 hf
  have hR : Rp G 123 ff σ_205 s H locs := hR
  refine W.widen (k := 52) (n := 329) (Nat.le_of_ble_eq_true rfl) (Nat.le_of_ble_eq_true rfl) ?_
  refine lv_dup hx hb dX6_init_60 rfl ?_
  obtain ⟨r_206, σ_207, hc_208, hf⟩ := z_b_e hf
  refine go_m hR (mi_run (As := []) (rest := [.ref (G.2.2 + 122), .int (24 : Int32), .ref (G.2.2 + t_203)]) X hR mi_6_36 (c5_init l G N kh_122 hc_208) ⟨rfl, rfl, Nat.le_of_ble_eq_true rfl, Nat.le_of_ble_eq_true rfl⟩ rfl hl.1 rfl (Nat.le_of_ble_eq_true rfl) dX6_init_61 ⟨Nat.le_of_ble_eq_true rfl, Nat.le_of_ble_eq_true rfl⟩) (fun H locs hR => ?_)
  have hR : Rp G 124 ff σ_207 s H locs := hR
  refine W.widen (k := 53) (n := 336) (Nat.le_of_ble_eq_true rfl) (Nat.le_of_ble_eq_true rfl) ?_
  refine q_aas (ti := 5) (ci := 5) X hR kh_204 (Or.inl ⟨rfl, rfl, rfl⟩) (by omega) kh_122 (by decide) rfl (inB_in rfl) dX6_init_64 (fun H locs σ_209 eσ_209 hR => ?_)
  replace hf := z_l_e eσ_209 hf
  refine lv_iinc (v := (25 : Int32)) (lv' := [(1, .int (25 : Int32)), (0, .ref (G.2.2 + 70))]) hx hb dX6_init_65 hl (k := 0) rfl (by decide) (by decide) rfl (fun ls hl => ?_)
  refine lv_goto (tgt := 46) hx hb dX6_init_68 (by decide) ?_
  refine lv_iload_n hx hb dX6_init_46 rfl (lv_at hl 0 rfl) ?_
  refine lv_bipush (v := (30 : Int32)) hx hb dX6_init_47 (by decide) ?_
  refine lv_icmp_ge (tgt := 71) hx hb dX6_init_49 (by decide) (fun c_210 => absurd c_210 (by decide)) (fun c_210 => ?_)
  refine lv_aload_n hx hb dX6_init_52 rfl (lv_at hl 1 rfl) ?_
  obtain ⟨t_211, h_212, kh_212, lh_212, hf⟩ := z_k_e hf
  refine q_gr X hR cg_6_11.1 cg_6_11.2 kh_70 (by decide) h_212 dX6_init_53 ?_
  refine lv_iload_n hx hb dX6_init_56 rfl (lv_at hl 0 rfl) ?_
  refine q_new (N := 5) X hR (kd_lt kh_124 (by decide)) rfl kh_124 (by decide) rfl cl_6_9 ins_5 ini_5 (Nat.le_of_ble_eq_true rfl) (Nat.le_of_ble_eq_true rfl) dX6_init_57 (fun H σ_213 eσ_213 hR => ?_)
  replace hf := z_l_e eσ_213 hf
  have hR : Rp G 125 ff σ_213 s H locs := hR
  refine W.widen (k := 54) (n := 341) (Nat.le_of_ble_eq_true rfl) (Nat.le_of_ble_eq_true rfl) ?_
  refine lv_dup hx hb dX6_init_60 rfl ?_
  obtain ⟨r_214, σ_215, hc_216, hf⟩ := z_b_e hf
  refine go_m hR (mi_run (As := []) (rest := [.ref (G.2.2 + 124), .int (25 : Int32), .ref (G.2.2 + t_211)]) X hR mi_6_36 (c5_init l G N kh_124 hc_216) ⟨rfl, rfl, Nat.le_of_ble_eq_true rfl, Nat.le_of_ble_eq_true rfl⟩ rfl hl.1 rfl (Nat.le_of_ble_eq_true rfl) dX6_init_61 ⟨Nat.le_of_ble_eq_true rfl, Nat.le_of_ble_eq_true rfl⟩) (fun H locs hR => ?_)
  have hR : Rp G 126 ff σ_215 s H locs := hR
  refine W.widen (k := 55) (n := 348) (Nat.le_of_ble_eq_true rfl) (Nat.le_of_ble_eq_true rfl) ?_
  refine q_aas (ti := 5) (ci := 5) X hR kh_212 (Or.inl ⟨rfl, rfl, rfl⟩) (by omega) kh_124 (by decide) rfl (inB_in rfl) dX6_init_64 (fun H locs σ_217 eσ_217 hR => ?_)
  replace hf := z_l_e eσ_217 hf
  refine lv_iinc (v := (26 : Int32)) (lv' := [(1, .int (26 : Int32)), (0, .ref (G.2.2 + 70))]) hx hb dX6_init_65 hl (k := 0) rfl (by decide) (by decide) rfl (fun ls hl => ?_)
  refine lv_goto (tgt := 46) hx hb dX6_init_68 (by decide) ?_
  refine lv_iload_n hx hb dX6_init_46 rfl (lv_at hl 0 rfl) ?_
  refine lv_bipush (v := (30 : Int32)) hx hb dX6_init_47 (by decide) ?_
  refine lv_icmp_ge (tgt := 71) hx hb dX6_init_49 (by decide) (fun c_218 => absurd c_218 (by decide)) (fun c_218 => ?_)
  refine lv_aload_n hx hb dX6_init_52 rfl (lv_at hl 1 rfl) ?_
  obtain ⟨t_219, h_220, kh_220, lh_220, hf⟩ := z_k_e hf
  refine q_gr X hR cg_6_11.1 cg_6_11.2 kh_70 (by decide) h_220 dX6_init_53 ?_
  refine lv_iload_n hx hb dX6_init_56 rfl (lv_at hl 0 rfl) ?_
  refine q_new (N := 5) X hR (kd_lt kh_126 (by decide)) rfl kh_126 (by decide) rfl cl_6_9 ins_5 ini_5 (Nat.le_of_ble_eq_true rfl) (Nat.le_of_ble_eq_true rfl) dX6_init_57 (fun H σ_221 eσ_221 hR => ?_)
  replace hf := z_l_e eσ_221 hf
  have hR : Rp G 127 ff σ_221 s H locs := hR
  refine W.widen (k := 56) (n := 353) (Nat.le_of_ble_eq_true rfl) (Nat.le_of_ble_eq_true rfl) ?_
  refine lv_dup hx hb dX6_init_60 rfl ?_
  obtain ⟨r_222, σ_223, hc_224, hf⟩ := z_b_e hf
  refine go_m hR (mi_run (As := []) (rest := [.ref (G.2.2 + 126), .int (26 : Int32), .ref (G.2.2 + t_219)]) X hR mi_6_36 (c5_init l G N kh_126 hc_224) ⟨rfl, rfl, Nat.le_of_ble_eq_true rfl, Nat.le_of_ble_eq_true rfl⟩ rfl hl.1 rfl (Nat.le_of_ble_eq_true rfl) dX6_init_61 ⟨Nat.le_of_ble_eq_true rfl, Nat.le_of_ble_eq_true rfl⟩) (fun H locs hR => ?_)
  have hR : Rp G 128 ff σ_223 s H locs := hR
  refine W.widen (k := 57) (n := 360) (Nat.le_of_ble_eq_true rfl) (Nat.le_of_ble_eq_true rfl) ?_
  refine q_aas (ti := 5) (ci := 5) X hR kh_220 (Or.inl ⟨rfl, rfl, rfl⟩) (by omega) kh_126 (by decide) rfl (inB_in rfl) dX6_init_64 (fun H locs σ_225 eσ_225 hR => ?_)
  replace hf := z_l_e eσ_225 hf
  refine lv_iinc (v := (27 : Int32)) (lv' := [(1, .int (27 : Int32)), (0, .ref (G.2.2 + 70))]) hx hb dX6_init_65 hl (k := 0) rfl (by decide) (by decide) rfl (fun ls hl => ?_)
  refine lv_goto (tgt := 46) hx hb dX6_init_68 (by decide) ?_
  refine lv_iload_n hx hb dX6_init_46 rfl (lv_at hl 0 rfl) ?_
  refine lv_bipush (v := (30 : Int32)) hx hb dX6_init_47 (by decide) ?_
  refine lv_icmp_ge (tgt := 71) hx hb dX6_init_49 (by decide) (fun c_226 => absurd c_226 (by decide)) (fun c_226 => ?_)
  refine lv_aload_n hx hb dX6_init_52 rfl (lv_at hl 1 rfl) ?_
  obtain ⟨t_227, h_228, kh_228, lh_228, hf⟩ := z_k_e hf
  refine q_gr X hR cg_6_11.1 cg_6_11.2 kh_70 (by decide) h_228 dX6_init_53 ?_
  refine lv_iload_n hx hb dX6_init_56 rfl (lv_at hl 0 rfl) ?_
  refine q_new (N := 5) X hR (kd_lt kh_128 (by decide)) rfl kh_128 (by decide) rfl cl_6_9 ins_5 ini_5 (Nat.le_of_ble_eq_true rfl) (Nat.le_of_ble_eq_true rfl) dX6_init_57 (fun H σ_229 eσ_229 hR => ?_)
  replace hf := z_l_e eσ_229 hf
  have hR : Rp G 129 ff σ_229 s H locs := hR
  refine W.widen (k := 58) (n := 365) (Nat.le_of_ble_eq_true rfl) (Nat.le_of_ble_eq_true rfl) ?_
  refine lv_dup hx hb dX6_init_60 rfl ?_
  obtain ⟨r_230, σ_231, hc_232, hf⟩ := z_b_e hf
  refine go_m hR (mi_run (As := []) (rest := [.ref (G.2.2 + 128), .int (27 : Int32), .ref (G.2.2 + t_227)]) X hR mi_6_36 (c5_init l G N kh_128 hc_232) ⟨rfl, rfl, Nat.le_of_ble_eq_true rfl, Nat.le_of_ble_eq_true rfl⟩ rfl hl.1 rfl (Nat.le_of_ble_eq_true rfl) dX6_init_61 ⟨Nat.le_of_ble_eq_true rfl, Nat.le_of_ble_eq_true rfl⟩) (fun H locs hR => ?_)
  have hR : Rp G 130 ff σ_231 s H locs := hR
  refine W.widen (k := 59) (n := 372) (Nat.le_of_ble_eq_true rfl) (Nat.le_of_ble_eq_true rfl) ?_
  refine q_aas (ti := 5) (ci := 5) X hR kh_228 (Or.inl ⟨rfl, rfl, rfl⟩) (by omega) kh_128 (by decide) rfl (inB_in rfl) dX6_init_64 (fun H locs σ_233 eσ_233 hR => ?_)
  replace hf := z_l_e eσ_233 hf
  refine lv_iinc (v := (28 : Int32)) (lv' := [(1, .int (28 : Int32)), (0, .ref (G.2.2 + 70))]) hx hb dX6_init_65 hl (k := 0) rfl (by decide) (by decide) rfl (fun ls hl => ?_)
  refine lv_goto (tgt := 46) hx hb dX6_init_68 (by decide) ?_
  refine lv_iload_n hx hb dX6_init_46 rfl (lv_at hl 0 rfl) ?_
  refine lv_bipush (v := (30 : Int32)) hx hb dX6_init_47 (by decide) ?_
  refine lv_icmp_ge (tgt := 71) hx hb dX6_init_49 (by decide) (fun c_234 => absurd c_234 (by decide)) (fun c_234 => ?_)
  refine lv_aload_n hx hb dX6_init_52 rfl (lv_at hl 1 rfl) ?_
  obtain ⟨t_235, h_236, kh_236, lh_236, hf⟩ := z_k_e hf
  refine q_gr X hR cg_6_11.1 cg_6_11.2 kh_70 (by decide) h_236 dX6_init_53 ?_
  refine lv_iload_n hx hb dX6_init_56 rfl (lv_at hl 0 rfl) ?_
  refine q_new (N := 5) X hR (kd_lt kh_130 (by decide)) rfl kh_130 (by decide) rfl cl_6_9 ins_5 ini_5 (Nat.le_of_ble_eq_true rfl) (Nat.le_of_ble_eq_true rfl) dX6_init_57 (fun H σ_237 eσ_237 hR => ?_)
  replace hf := z_l_e eσ_237 hf
  have hR : Rp G 131 ff σ_237 s H locs := hR
  refine W.widen (k := 60) (n := 377) (Nat.le_of_ble_eq_true rfl) (Nat.le_of_ble_eq_true rfl) ?_
  refine lv_dup hx hb dX6_init_60 rfl ?_
  obtain ⟨r_238, σ_239, hc_240, hf⟩ := z_b_e hf
  refine go_m hR (mi_run (As := []) (rest := [.ref (G.2.2 + 130), .int (28 : Int32), .ref (G.2.2 + t_235)]) X hR mi_6_36 (c5_init l G N kh_130 hc_240) ⟨rfl, rfl, Nat.le_of_ble_eq_true rfl, Nat.le_of_ble_eq_true rfl⟩ rfl hl.1 rfl (Nat.le_of_ble_eq_true rfl) dX6_init_61 ⟨Nat.le_of_ble_eq_true rfl, Nat.le_of_ble_eq_true rfl⟩) (fun H locs hR => ?_)
  have hR : Rp G 132 ff σ_239 s H locs := hR
  refine W.widen (k := 61) (n := 384) (Nat.le_of_ble_eq_true rfl) (Nat.le_of_ble_eq_true rfl) ?_
  refine q_aas (ti := 5) (ci := 5) X hR kh_236 (Or.inl ⟨rfl, rfl, rfl⟩) (by omega) kh_130 (by decide) rfl (inB_in rfl) dX6_init_64 (fun H locs σ_241 eσ_241 hR => ?_)
  replace hf := z_l_e eσ_241 hf
  refine lv_iinc (v := (29 : Int32)) (lv' := [(1, .int (29 : Int32)), (0, .ref (G.2.2 + 70))]) hx hb dX6_init_65 hl (k := 0) rfl (by decide) (by decide) rfl (fun ls hl => ?_)
  refine lv_goto (tgt := 46) hx hb dX6_init_68 (by decide) ?_
  refine lv_iload_n hx hb dX6_init_46 rfl (lv_at hl 0 rfl) ?_
  refine lv_bipush (v := (30 : Int32)) hx hb dX6_init_47 (by decide) ?_
  refine lv_icmp_ge (tgt := 71) hx hb dX6_init_49 (by decide) (fun c_242 => absurd c_242 (by decide)) (fun c_242 => ?_)
  refine lv_aload_n hx hb dX6_init_52 rfl (lv_at hl 1 rfl) ?_
  obtain ⟨t_243, h_244, kh_244, lh_244, hf⟩ := z_k_e hf
  refine q_gr X hR cg_6_11.1 cg_6_11.2 kh_70 (by decide) h_244 dX6_init_53 ?_
  refine lv_iload_n hx hb dX6_init_56 rfl (lv_at hl 0 rfl) ?_
  refine q_new (N := 5) X hR (kd_lt kh_132 (by decide)) rfl kh_132 (by decide) rfl cl_6_9 ins_5 ini_5 (Nat.le_of_ble_eq_true rfl) (Nat.le_of_ble_eq_true rfl) dX6_init_57 (fun H σ_245 eσ_245 hR => ?_)
  replace hf := z_l_e eσ_245 hf
  have hR : Rp G 133 ff σ_245 s H locs := hR
  refine W.widen (k := 62) (n := 389) (Nat.le_of_ble_eq_true rfl) (Nat.le_of_ble_eq_true rfl) ?_
  refine lv_dup hx hb dX6_init_60 rfl ?_
  obtain ⟨r_246, σ_247, hc_248, hf⟩ := z_b_e hf
  refine go_m hR (mi_run (As := []) (rest := [.ref (G.2.2 + 132), .int (29 : Int32), .ref (G.2.2 + t_243)]) X hR mi_6_36 (c5_init l G N kh_132 hc_248) ⟨rfl, rfl, Nat.le_of_ble_eq_true rfl, Nat.le_of_ble_eq_true rfl⟩ rfl hl.1 rfl (Nat.le_of_ble_eq_true rfl) dX6_init_61 ⟨Nat.le_of_ble_eq_true rfl, Nat.le_of_ble_eq_true rfl⟩) (fun H locs hR => ?_)
  have hR : Rp G 134 ff σ_247 s H locs := hR
  refine W.widen (k := 63) (n := 396) (Nat.le_of_ble_eq_true rfl) (Nat.le_of_ble_eq_true rfl) ?_
  refine q_aas (ti := 5) (ci := 5) X hR kh_244 (Or.inl ⟨rfl, rfl, rfl⟩) (by omega) kh_132 (by decide) rfl (inB_in rfl) dX6_init_64 (fun H locs σ_249 eσ_249 hR => ?_)
  replace hf := z_l_e eσ_249 hf
  refine lv_iinc (v := (30 : Int32)) (lv' := [(1, .int (30 : Int32)), (0, .ref (G.2.2 + 70))]) hx hb dX6_init_65 hl (k := 0) rfl (by decide) (by decide) rfl (fun ls hl => ?_)
  refine lv_goto (tgt := 46) hx hb dX6_init_68 (by decide) ?_
  refine lv_iload_n hx hb dX6_init_46 rfl (lv_at hl 0 rfl) ?_
  refine lv_bipush (v := (30 : Int32)) hx hb dX6_init_47 (by decide) ?_
  refine lv_icmp_ge (tgt := 71) hx hb dX6_init_49 (by decide) (fun c_250 => ?_) (fun c_250 => absurd (by decide) c_250)
  refine lv_iconst (v := (0 : Int32)) hx hb dX6_init_71 (by decide) ?_
  refine lv_istore_n (lv' := [(1, .int (0 : Int32)), (0, .ref (G.2.2 + 70))]) hx hb dX6_init_72 rfl hl (by decide) rfl (fun ls hl => ?_)
  refine lv_iload_n hx hb dX6_init_73 rfl (lv_at hl 0 rfl) ?_
  refine lv_iconst (v := (3 : Int32)) hx hb dX6_init_74 (by decide) ?_
  refine lv_icmp_ge (tgt := 110) hx hb dX6_init_75 (by decide) (fun c_251 => absurd c_251 (by decide)) (fun c_251 => ?_)
  refine lv_aload_n hx hb dX6_init_78 rfl (lv_at hl 1 rfl) ?_
  obtain ⟨t_252, h_253, kh_253, lh_253, hf⟩ := z_k_e hf
  refine q_gr X hR cg_6_24.1 cg_6_24.2 kh_70 (by decide) h_253 dX6_init_79 ?_
  refine lv_iload_n hx hb dX6_init_82 rfl (lv_at hl 0 rfl) ?_
  refine q_new (N := 5) X hR (kd_lt kh_134 (by decide)) rfl kh_134 (by decide) rfl cl_6_9 ins_5 ini_5 (Nat.le_of_ble_eq_true rfl) (Nat.le_of_ble_eq_true rfl) dX6_init_83 (fun H σ_254 eσ_254 hR => ?_)
  replace hf := z_l_e eσ_254 hf
  have hR : Rp G 135 ff σ_254 s H locs := hR
  refine W.widen (k := 64) (n := 401) (Nat.le_of_ble_eq_true rfl) (Nat.le_of_ble_eq_true rfl) ?_
  refine lv_dup hx hb dX6_init_86 rfl ?_
  obtain ⟨r_255, σ_256, hc_257, hf⟩ := z_b_e hf
  refine go_m hR (mi_run (As := []) (rest := [.ref (G.2.2 + 134), .int (0 : Int32), .ref (G.2.2 + t_252)]) X hR mi_6_36 (c5_init l G N kh_134 hc_257) ⟨rfl, rfl, Nat.le_of_ble_eq_true rfl, Nat.le_of_ble_eq_true rfl⟩ rfl hl.1 rfl (Nat.le_of_ble_eq_true rfl) dX6_init_87 ⟨Nat.le_of_ble_eq_true rfl, Nat.le_of_ble_eq_true rfl⟩) (fun H locs hR => ?_)
  have hR : Rp G 136 ff σ_256 s H locs := hR
  refine W.widen (k := 65) (n := 408) (Nat.le_of_ble_eq_true rfl) (Nat.le_of_ble_eq_true rfl) ?_
  refine q_aas (ti := 5) (ci := 5) X hR kh_253 (Or.inl ⟨rfl, rfl, rfl⟩) (by omega) kh_134 (by decide) rfl (inB_in rfl) dX6_init_90 (fun H locs σ_258 eσ_258 hR => ?_)
  replace hf := z_l_e eσ_258 hf
  refine lv_aload_n hx hb dX6_init_91 rfl (lv_at hl 1 rfl) ?_
  obtain ⟨t_259, h_260, kh_260, lh_260, hf⟩ := z_k_e hf
  refine q_gr X hR cg_6_29.1 cg_6_29.2 kh_70 (by decide) h_260 dX6_init_92 ?_
  refine lv_iload_n hx hb dX6_init_95 rfl (lv_at hl 0 rfl) ?_
  refine q_new (N := 5) X hR (kd_lt kh_136 (by decide)) rfl kh_136 (by decide) rfl cl_6_27 ins_1 ini_1 (Nat.le_of_ble_eq_true rfl) (Nat.le_of_ble_eq_true rfl) dX6_init_96 (fun H σ_261 eσ_261 hR => ?_)
  replace hf := z_l_e eσ_261 hf
  have hR : Rp G 137 ff σ_261 s H locs := hR
  refine W.widen (k := 66) (n := 413) (Nat.le_of_ble_eq_true rfl) (Nat.le_of_ble_eq_true rfl) ?_
  refine lv_dup hx hb dX6_init_99 rfl ?_
  obtain ⟨r_262, σ_263, hc_264, hf⟩ := z_b_e hf
  refine go_m hR (mi_run (As := []) (rest := [.ref (G.2.2 + 136), .int (0 : Int32), .ref (G.2.2 + t_259)]) X hR mi_6_37 (c1_init l G N kh_136 hc_264) ⟨rfl, rfl, Nat.le_of_ble_eq_true rfl, Nat.le_of_ble_eq_true rfl⟩ rfl hl.1 rfl (Nat.le_of_ble_eq_true rfl) dX6_init_100 ⟨Nat.le_of_ble_eq_true rfl, Nat.le_of_ble_eq_true rfl⟩) (fun H locs hR => ?_)
  have hR : Rp G 142 ff σ_263 s H locs := hR
  refine W.widen (k := 71) (n := 513) (Nat.le_of_ble_eq_true rfl) (Nat.le_of_ble_eq_true rfl) ?_
  refine q_aas (ti := 4) (ci := 1) X hR kh_260 (Or.inr ⟨rfl, rfl, rfl⟩) (by omega) kh_136 (by decide) rfl (inB_in rfl) dX6_init_103 (fun H locs σ_265 eσ_265 hR => ?_)
  replace hf := z_l_e eσ_265 hf
  refine lv_iinc (v := (1 : Int32)) (lv' := [(1, .int (1 : Int32)), (0, .ref (G.2.2 + 70))]) hx hb dX6_init_104 hl (k := 0) rfl (by decide) (by decide) rfl (fun ls hl => ?_)
  refine lv_goto (tgt := 73) hx hb dX6_init_107 (by decide) ?_
  refine lv_iload_n hx hb dX6_init_73 rfl (lv_at hl 0 rfl) ?_
  refine lv_iconst (v := (3 : Int32)) hx hb dX6_init_74 (by decide) ?_
  refine lv_icmp_ge (tgt := 110) hx hb dX6_init_75 (by decide) (fun c_266 => absurd c_266 (by decide)) (fun c_266 => ?_)
  refine lv_aload_n hx hb dX6_init_78 rfl (lv_at hl 1 rfl) ?_
  obtain ⟨t_267, h_268, kh_268, lh_268, hf⟩ := z_k_e hf
  refine q_gr X hR cg_6_24.1 cg_6_24.2 kh_70 (by decide) h_268 dX6_init_79 ?_
  refine lv_iload_n hx hb dX6_init_82 rfl (lv_at hl 0 rfl) ?_
  refine q_new (N := 5) X hR (kd_lt kh_142 (by decide)) rfl kh_142 (by decide) rfl cl_6_9 ins_5 ini_5 (Nat.le_of_ble_eq_true rfl) (Nat.le_of_ble_eq_true rfl) dX6_init_83 (fun H σ_269 eσ_269 hR => ?_)
  replace hf := z_l_e eσ_269 hf
  have hR : Rp G 143 ff σ_269 s H locs := hR
  refine W.widen (k := 72) (n := 518) (Nat.le_of_ble_eq_true rfl) (Nat.le_of_ble_eq_true rfl) ?_
  refine lv_dup hx hb dX6_init_86 rfl ?_
  obtain ⟨r_270, σ_271, hc_272, hf⟩ := z_b_e hf
  refine go_m hR (mi_run (As := []) (rest := [.ref (G.2.2 + 142), .int (1 : Int32), .ref (G.2.2 + t_267)]) X hR mi_6_36 (c5_init l G N kh_142 hc_272) ⟨rfl, rfl, Nat.le_of_ble_eq_true rfl, Nat.le_of_ble_eq_true rfl⟩ rfl hl.1 rfl (Nat.le_of_ble_eq_true rfl) dX6_init_87 ⟨Nat.le_of_ble_eq_true rfl, Nat.le_of_ble_eq_true rfl⟩) (fun H locs hR => ?_)
  have hR : Rp G 144 ff σ_271 s H locs := hR
  refine W.widen (k := 73) (n := 525) (Nat.le_of_ble_eq_true rfl) (Nat.le_of_ble_eq_true rfl) ?_
  refine q_aas (ti := 5) (ci := 5) X hR kh_268 (Or.inl ⟨rfl, rfl, rfl⟩) (by omega) kh_142 (by decide) rfl (inB_in rfl) dX6_init_90 (fun H locs σ_273 eσ_273 hR => ?_)
  replace hf := z_l_e eσ_273 hf
  refine lv_aload_n hx hb dX6_init_91 rfl (lv_at hl 1 rfl) ?_
  obtain ⟨t_274, h_275, kh_275, lh_275, hf⟩ := z_k_e hf
  refine q_gr X hR cg_6_29.1 cg_6_29.2 kh_70 (by decide) h_275 dX6_init_92 ?_
  refine lv_iload_n hx hb dX6_init_95 rfl (lv_at hl 0 rfl) ?_
  refine q_new (N := 5) X hR (kd_lt kh_144 (by decide)) rfl kh_144 (by decide) rfl cl_6_27 ins_1 ini_1 (Nat.le_of_ble_eq_true rfl) (Nat.le_of_ble_eq_true rfl) dX6_init_96 (fun H σ_276 eσ_276 hR => ?_)
  replace hf := z_l_e eσ_276 hf
  have hR : Rp G 145 ff σ_276 s H locs := hR
  refine W.widen (k := 74) (n := 530) (Nat.le_of_ble_eq_true rfl) (Nat.le_of_ble_eq_true rfl) ?_
  refine lv_dup hx hb dX6_init_99 rfl ?_
  obtain ⟨r_277, σ_278, hc_279, hf⟩ := z_b_e hf
  refine go_m hR (mi_run (As := []) (rest := [.ref (G.2.2 + 144), .int (1 : Int32), .ref (G.2.2 + t_274)]) X hR mi_6_37 (c1_init l G N kh_144 hc_279) ⟨rfl, rfl, Nat.le_of_ble_eq_true rfl, Nat.le_of_ble_eq_true rfl⟩ rfl hl.1 rfl (Nat.le_of_ble_eq_true rfl) dX6_init_100 ⟨Nat.le_of_ble_eq_true rfl, Nat.le_of_ble_eq_true rfl⟩) (fun H locs hR => ?_)
  have hR : Rp G 150 ff σ_278 s H locs := hR
  refine W.widen (k := 79) (n := 630) (Nat.le_of_ble_eq_true rfl) (Nat.le_of_ble_eq_true rfl) ?_
  refine q_aas (ti := 4) (ci := 1) X hR kh_275 (Or.inr ⟨rfl, rfl, rfl⟩) (by omega) kh_144 (by decide) rfl (inB_in rfl) dX6_init_103 (fun H locs σ_280 eσ_280 hR => ?_)
  replace hf := z_l_e eσ_280 hf
  refine lv_iinc (v := (2 : Int32)) (lv' := [(1, .int (2 : Int32)), (0, .ref (G.2.2 + 70))]) hx hb dX6_init_104 hl (k := 0) rfl (by decide) (by decide) rfl (fun ls hl => ?_)
  refine lv_goto (tgt := 73) hx hb dX6_init_107 (by decide) ?_
  refine lv_iload_n hx hb dX6_init_73 rfl (lv_at hl 0 rfl) ?_
  refine lv_iconst (v := (3 : Int32)) hx hb dX6_init_74 (by decide) ?_
  refine lv_icmp_ge (tgt := 110) hx hb dX6_init_75 (by decide) (fun c_281 => absurd c_281 (by decide)) (fun c_281 => ?_)
  refine lv_aload_n hx hb dX6_init_78 rfl (lv_at hl 1 rfl) ?_
  obtain ⟨t_282, h_283, kh_283, lh_283, hf⟩ := z_k_e hf
  refine q_gr X hR cg_6_24.1 cg_6_24.2 kh_70 (by decide) h_283 dX6_init_79 ?_
  refine lv_iload_n hx hb dX6_init_82 rfl (lv_at hl 0 rfl) ?_
  refine q_new (N := 5) X hR (kd_lt kh_150 (by decide)) rfl kh_150 (by decide) rfl cl_6_9 ins_5 ini_5 (Nat.le_of_ble_eq_true rfl) (Nat.le_of_ble_eq_true rfl) dX6_init_83 (fun H σ_284 eσ_284 hR => ?_)
  replace hf := z_l_e eσ_284 hf
  have hR : Rp G 151 ff σ_284 s H locs := hR
  refine W.widen (k := 80) (n := 635) (Nat.le_of_ble_eq_true rfl) (Nat.le_of_ble_eq_true rfl) ?_
  refine lv_dup hx hb dX6_init_86 rfl ?_
  obtain ⟨r_285, σ_286, hc_287, hf⟩ := z_b_e hf
  refine go_m hR (mi_run (As := []) (rest := [.ref (G.2.2 + 150), .int (2 : Int32), .ref (G.2.2 + t_282)]) X hR mi_6_36 (c5_init l G N kh_150 hc_287) ⟨rfl, rfl, Nat.le_of_ble_eq_true rfl, Nat.le_of_ble_eq_true rfl⟩ rfl hl.1 rfl (Nat.le_of_ble_eq_true rfl) dX6_init_87 ⟨Nat.le_of_ble_eq_true rfl, Nat.le_of_ble_eq_true rfl⟩) (fun H locs hR => ?_)
  have hR : Rp G 152 ff σ_286 s H locs := hR
  refine W.widen (k := 81) (n := 642) (Nat.le_of_ble_eq_true rfl) (Nat.le_of_ble_eq_true rfl) ?_
  refine q_aas (ti := 5) (ci := 5) X hR kh_283 (Or.inl ⟨rfl, rfl, rfl⟩) (by omega) kh_150 (by decide) rfl (inB_in rfl) dX6_init_90 (fun H locs σ_288 eσ_288 hR => ?_)
  replace hf := z_l_e eσ_288 hf
  refine lv_aload_n hx hb dX6_init_91 rfl (lv_at hl 1 rfl) ?_
  obtain ⟨t_289, h_290, kh_290, lh_290, hf⟩ := z_k_e hf
  refine q_gr X hR cg_6_29.1 cg_6_29.2 kh_70 (by decide) h_290 dX6_init_92 ?_
  refine lv_iload_n hx hb dX6_init_95 rfl (lv_at hl 0 rfl) ?_
  refine q_new (N := 5) X hR (kd_lt kh_152 (by decide)) rfl kh_152 (by decide) rfl cl_6_27 ins_1 ini_1 (Nat.le_of_ble_eq_true rfl) (Nat.le_of_ble_eq_true rfl) dX6_init_96 (fun H σ_291 eσ_291 hR => ?_)
  replace hf := z_l_e eσ_291 hf
  have hR : Rp G 153 ff σ_291 s H locs := hR
  refine W.widen (k := 82) (n := 647) (Nat.le_of_ble_eq_true rfl) (Nat.le_of_ble_eq_true rfl) ?_
  refine lv_dup hx hb dX6_init_99 rfl ?_
  obtain ⟨r_292, σ_293, hc_294, hf⟩ := z_b_e hf
  refine go_m hR (mi_run (As := []) (rest := [.ref (G.2.2 + 152), .int (2 : Int32), .ref (G.2.2 + t_289)]) X hR mi_6_37 (c1_init l G N kh_152 hc_294) ⟨rfl, rfl, Nat.le_of_ble_eq_true rfl, Nat.le_of_ble_eq_true rfl⟩ rfl hl.1 rfl (Nat.le_of_ble_eq_true rfl) dX6_init_100 ⟨Nat.le_of_ble_eq_true rfl, Nat.le_of_ble_eq_true rfl⟩) (fun H locs hR => ?_)
  have hR : Rp G 158 ff σ_293 s H locs := hR
  refine W.widen (k := 87) (n := 747) (Nat.le_of_ble_eq_true rfl) (Nat.le_of_ble_eq_true rfl) ?_
  refine q_aas (ti := 4) (ci := 1) X hR kh_290 (Or.inr ⟨rfl, rfl, rfl⟩) (by omega) kh_152 (by decide) rfl (inB_in rfl) dX6_init_103 (fun H locs σ_295 eσ_295 hR => ?_)
  replace hf := z_l_e eσ_295 hf
  refine lv_iinc (v := (3 : Int32)) (lv' := [(1, .int (3 : Int32)), (0, .ref (G.2.2 + 70))]) hx hb dX6_init_104 hl (k := 0) rfl (by decide) (by decide) rfl (fun ls hl => ?_)
  refine lv_goto (tgt := 73) hx hb dX6_init_107 (by decide) ?_
  refine lv_iload_n hx hb dX6_init_73 rfl (lv_at hl 0 rfl) ?_
  refine lv_iconst (v := (3 : Int32)) hx hb dX6_init_74 (by decide) ?_
  refine lv_icmp_ge (tgt := 110) hx hb dX6_init_75 (by decide) (fun c_296 => ?_) (fun c_296 => absurd (by decide) c_296)
  exact e_v X hR hr hlk hf dX6_init_110
