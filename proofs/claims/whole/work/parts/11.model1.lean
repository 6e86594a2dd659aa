section GEN
variable {p : Program} {l : Launch} {e : Env} {s : State} {m : MethodId} {args : Array Value} {below : List Frame} {meth : Method} {c : Code} {G : Gp} {r0 : Int32} {l0 : Int64} {u0 : Unit} {σ0 : Mm}

abbrev rm11_tellWitness : Room := { frames := 4, cells := 0, slots := 0, locals := 84 }
def f11_tellWitness (N : Nat) (σ : Mm) : Option (Unit × Mm) :=
  z_c (inB (gI σ 160 19) 2) (
  z_l ((((7 : Int32) * (gI σ 160 19)) + (gI σ 175 (ix (gI σ 160 19))))) fun x1_2 =>
  z_b (f11_named N σ) fun r_3 σ_4 =>
  z_b (f11_bounded N (0 : Int32) (99 : Int32) σ_4) fun r_6 σ_7 =>
  z_c (inB x1_2 14) (z_l (sI σ_7 176 (ix x1_2) r_6) fun σ_10 =>
  z_b (f11_bounded N (0 : Int32) (99 : Int32) σ_10) fun r_11 σ_12 =>
  z_c (inB x1_2 14) (z_l (sI σ_12 177 (ix x1_2) r_11) fun σ_15 =>
  z_c (inB (gI σ_15 160 19) 2) (
  z_b (f11_ends N r_3 ((20 : Int32) + (gI σ_15 175 (ix (gI σ_15 160 19)))) σ_15) fun _ σ_18 =>
  if (gI σ_18 160 13) = 0 then (
  z_c (inB (gI σ_18 160 19) 2) (
  z_c (inB (gI σ_18 160 19) 2) (z_l (sI σ_18 175 (ix (gI σ_18 160 19)) ((gI σ_18 175 (ix (gI σ_18 160 19))) + (1 : Int32))) fun σ_23 =>
  some ((), σ_23)))) else (
  some ((), σ_18))))))
set_option maxHeartbeats 4000000 in
set_option maxRecDepth 100000 in
theorem c11_tellWitness (l : Launch) (G : Gp) (N : Nat) {σ σ0 : Mm} {u0 : Unit} (hf : f11_tellWitness N σ = some (u0, σ0)) : Met l yX11_tellWitness (WS yX11_tellWitness cX11_tellWitness 3 (none)) rm11_tellWitness (va_Pc [.ref (G.2.2 + 160)] (Pd G 212 tt σ)) (P_v G 212 tt u0 σ0) 0 0 (Fr G) := by
  refine ct [(0, .ref (G.2.2 + 160))] rfl (by decide) (Nat.le_of_ble_eq_true rfl) ?_
  intro p e s m below meth c ls X hr hlk hR hl
  have X : Cx p s m _ c cX11_tellWitness 3 RX11 G := X
  have hx := X.1
  have hb := X.2.1
  unfold f11_tellWitness at hf
  refine lv_bipush (v := (7 : Int32)) hx hb dX11_tellWitness_0 (by decide) ?_
  refine lv_aload_n hx hb dX11_tellWitness_2 rfl (lv_at hl 0 rfl) ?_
  refine r_gi X hR fi_11_257 kh_160 dX11_tellWitness_3 ?_
  refine lv_imul hx hb dX11_tellWitness_6 ?_
  refine lv_aload_n hx hb dX11_tellWitness_7 rfl (lv_at hl 0 rfl) ?_
  refine r_gs (t := 175) X hR fr_11_61 kh_160 (sx_11_28 kh_160) dX11_tellWitness_8 ?_
  refine lv_aload_n hx hb dX11_tellWitness_11 rfl (lv_at hl 0 rfl) ?_
  refine r_gi X hR fi_11_257 kh_160 dX11_tellWitness_12 ?_
  obtain ⟨hi_1, hf⟩ := z_c_e hf
  refine r_ial X hR ka_175 hi_1 dX11_tellWitness_15 ?_
  refine lv_iadd hx hb dX11_tellWitness_16 ?_
  refine lv_topi (fun x1_2 ex1_2 => ?_)
  replace hf := z_l_e ex1_2 hf
  refine lv_istore_n (lv' := [(1, .int x1_2), (0, .ref (G.2.2 + 160))]) hx hb dX11_tellWitness_17 rfl hl (by decide) rfl (fun ls hl => ?_)
  refine lv_aload_n hx hb dX11_tellWitness_18 rfl (lv_at hl 1 rfl) ?_
  obtain ⟨r_3, σ_4, hc_5, hf⟩ := z_b_e hf
  refine go_i hR (mv_run (As := []) (rest := []) X hR mv_11_289 kh_160 (kd_lt kh_160 (by decide)) (c11_named l G N hc_5) ⟨rfl, rfl, Nat.le_of_ble_eq_true rfl, Nat.le_of_ble_eq_true rfl⟩ rfl hl.1 rfl (Nat.le_of_ble_eq_true rfl) dX11_tellWitness_19 ⟨Nat.zero_le _, Nat.zero_le _⟩) (fun H locs hR => ?_)
  refine lv_istore_n (lv' := [(2, .int r_3), (1, .int x1_2), (0, .ref (G.2.2 + 160))]) hx hb dX11_tellWitness_22 rfl hl (by decide) rfl (fun ls hl => ?_)
  refine lv_aload_n hx hb dX11_tellWitness_23 rfl (lv_at hl 2 rfl) ?_
  refine r_gs (t := 176) X hR fr_11_64 kh_160 (sx_11_29 kh_160) dX11_tellWitness_24 ?_
  refine lv_iload_n hx hb dX11_tellWitness_27 rfl (lv_at hl 1 rfl) ?_
  refine lv_aload_n hx hb dX11_tellWitness_28 rfl (lv_at hl 2 rfl) ?_
  refine lv_iconst (v := (0 : Int32)) hx hb dX11_tellWitness_29 (by decide) ?_
  refine lv_bipush (v := (99 : Int32)) hx hb dX11_tellWitness_30 (by decide) ?_
  obtain ⟨r_6, σ_7, hc_8, hf⟩ := z_b_e hf
  refine go_i hR (mv_run (As := [.int (0 : Int32), .int (99 : Int32)]) (rest := [.int x1_2, .ref (G.2.2 + 176)]) X hR mv_11_278 kh_160 (kd_lt kh_160 (by decide)) (c11_bounded l G N hc_8) ⟨rfl, rfl, Nat.le_of_ble_eq_true rfl, Nat.le_of_ble_eq_true rfl⟩ rfl hl.1 rfl (Nat.le_of_ble_eq_true rfl) dX11_tellWitness_32 ⟨Nat.zero_le _, Nat.zero_le _⟩) (fun H locs hR => ?_)
  obtain ⟨hi_9, hf⟩ := z_c_e hf
  refine r_ias X hR ka_176 hi_9 dX11_tellWitness_35 (fun H locs σ_10 eσ_10 hR => ?_)
  replace hf := z_l_e eσ_10 hf
  refine lv_aload_n hx hb dX11_tellWitness_36 rfl (lv_at hl 2 rfl) ?_
  refine r_gs (t := 177) X hR fr_11_67 kh_160 (sx_11_30 kh_160) dX11_tellWitness_37 ?_
  refine lv_iload_n hx hb dX11_tellWitness_40 rfl (lv_at hl 1 rfl) ?_
  refine lv_aload_n hx hb dX11_tellWitness_41 rfl (lv_at hl 2 rfl) ?_
  refine lv_iconst (v := (0 : Int32)) hx hb dX11_tellWitness_42 (by decide) ?_
  refine lv_bipush (v := (99 : Int32)) hx hb dX11_tellWitness_43 (by decide) ?_
  obtain ⟨r_11, σ_12, hc_13, hf⟩ := z_b_e hf
  refine go_i hR (mv_run (As := [.int (0 : Int32), .int (99 : Int32)]) (rest := [.int x1_2, .ref (G.2.2 + 177)]) X hR mv_11_278 kh_160 (kd_lt kh_160 (by decide)) (c11_bounded l G N hc_13) ⟨rfl, rfl, Nat.le_of_ble_eq_true rfl, Nat.le_of_ble_eq_true rfl⟩ rfl hl.1 rfl (Nat.le_of_ble_eq_true rfl) dX11_tellWitness_45 ⟨Nat.zero_le _, Nat.zero_le _⟩) (fun H locs hR => ?_)
  obtain ⟨hi_14, hf⟩ := z_c_e hf
  refine r_ias X hR ka_177 hi_14 dX11_tellWitness_48 (fun H locs σ_15 eσ_15 hR => ?_)
  replace hf := z_l_e eσ_15 hf
  refine lv_aload_n hx hb dX11_tellWitness_49 rfl (lv_at hl 2 rfl) ?_
  refine lv_iload_n hx hb dX11_tellWitness_50 rfl (lv_at hl 0 rfl) ?_
  refine lv_bipush (v := (20 : Int32)) hx hb dX11_tellWitness_51 (by decide) ?_
  refine lv_aload_n hx hb dX11_tellWitness_53 rfl (lv_at hl 2 rfl) ?_
  refine r_gs (t := 175) X hR fr_11_61 kh_160 (sx_11_28 kh_160) dX11_tellWitness_54 ?_
  refine lv_aload_n hx hb dX11_tellWitness_57 rfl (lv_at hl 2 rfl) ?_
  refine r_gi X hR fi_11_257 kh_160 dX11_tellWitness_58 ?_
  obtain ⟨hi_16, hf⟩ := z_c_e hf
  refine r_ial X hR ka_175 hi_16 dX11_tellWitness_61 ?_
  refine lv_iadd hx hb dX11_tellWitness_62 ?_
  obtain ⟨r_17, σ_18, hc_19, hf⟩ := z_b_e hf
  refine go_v hR (mv_run (As := [.int r_3, .int ((20 : Int32) + (gI σ_15 175 (ix (gI σ_15 160 19))))]) (rest := []) X hR mv_11_293 kh_160 (kd_lt kh_160 (by decide)) (c11_ends l G N hc_19) ⟨rfl, rfl, Nat.le_of_ble_eq_true rfl, Nat.le_of_ble_eq_true rfl⟩ rfl hl.1 rfl (Nat.le_of_ble_eq_true rfl) dX11_tellWitness_63 ⟨Nat.zero_le _, Nat.zero_le _⟩) (fun H locs hR => ?_)
  refine lv_aload_n hx hb dX11_tellWitness_66 rfl (lv_at hl 2 rfl) ?_
  refine r_gi X hR fi_11_224 kh_160 dX11_tellWitness_67 ?_
  refine lv_if_ne (tgt := 86) hx hb dX11_tellWitness_70 (by decide) (fun c_20 => ?_) (fun c_20 => ?_)
  · replace hf := z_f c_20 hf
    exact e_v X hR hr hlk hf dX11_tellWitness_86
  · replace hf := z_t c_20 hf
    refine lv_aload_n hx hb dX11_tellWitness_73 rfl (lv_at hl 2 rfl) ?_
    refine r_gs (t := 175) X hR fr_11_61 kh_160 (sx_11_28 kh_160) dX11_tellWitness_74 ?_
    refine lv_aload_n hx hb dX11_tellWitness_77 rfl (lv_at hl 2 rfl) ?_
    refine r_gi X hR fi_11_257 kh_160 dX11_tellWitness_78 ?_
    refine lv_dup2_11 hx hb dX11_tellWitness_81 rfl rfl ?_
    obtain ⟨hi_21, hf⟩ := z_c_e hf
    refine r_ial X hR ka_175 hi_21 dX11_tellWitness_82 ?_
    refine lv_iconst (v := (1 : Int32)) hx hb dX11_tellWitness_83 (by decide) ?_
    refine lv_iadd hx hb dX11_tellWitness_84 ?_
    obtain ⟨hi_22, hf⟩ := z_c_e hf
    refine r_ias X hR ka_175 hi_22 dX11_tellWitness_85 (fun H locs σ_23 eσ_23 hR => ?_)
    replace hf := z_l_e eσ_23 hf
    exact e_v X hR hr hlk hf dX11_tellWitness_86
abbrev rm11_tellGiving : Room := { frames := 4, cells := 0, slots := 0, locals := 85 }
def f11_tellGiving_189 (N : Nat) (σ : Mm) : Option (Unit × Mm) :=
  z_b (f11_must N (4 : Int32) σ) fun _ σ_29 =>
  if (gI σ_29 160 13) = 0 then (
  z_c (inB (gI σ_29 160 19) 2) (
  z_c (inB (gI σ_29 160 19) 2) (z_l (sI σ_29 178 (ix (gI σ_29 160 19)) ((gI σ_29 178 (ix (gI σ_29 160 19))) + (1 : Int32))) fun σ_34 =>
  some ((), σ_34)))) else (
  some ((), σ_29))
def f11_tellGiving_186 (N : Nat) (k114 : Mm → Option (Unit × Mm)) (x1 : Int32) (σ : Mm) : Option (Unit × Mm) :=
  k114 σ
def f11_tellGiving_168 (N : Nat) (k114 : Mm → Option (Unit × Mm)) (x1 : Int32) (x4 : Int32) (σ : Mm) : Option (Unit × Mm) :=
  if x4 < 0 then (
  f11_tellGiving_186 N k114 x1 σ) else (
  z_c (inB x1 24) (
  z_c (inB x1 24) (z_l (sI σ 183 (ix x1) ((gI σ 183 (ix x1)) ||| ((1 : Int32) <<< (x4 &&& 31)))) fun σ_47 =>
  f11_tellGiving_186 N k114 x1 σ_47)))
def f11_tellGiving_114 (N : Nat) (x1 : Int32) : Nat → Mm → Option (Unit × Mm)
  | 0, _ => none
  | fu + 1, σ => if (gI σ 160 13) = 0 then (
  z_b (f11_is N (1 : Int32) σ) fun r_35 σ_36 =>
  if r_35 = 0 then (
  f11_tellGiving_189 N σ_36) else (
  z_l ((gI σ_36 160 11)) fun x3_39 =>
  z_b (f11_known N (20 : Int32) σ_36) fun r_40 σ_41 =>
  if r_40 < 0 then (
  f11_tellGiving_168 N (fun  σ => f11_tellGiving_114 N x1 fu σ) x1 r_40 σ_41) else (
  z_c (inB x1 24) (
  if (((gI σ_41 183 (ix x1)) >>> (r_40 &&& 31)) &&& (1 : Int32)) = (1 : Int32) then (
  z_b (f11_wrong N (3 : Int32) x3_39 σ_41) fun _ σ_51 =>
  f11_tellGiving_168 N (fun  σ => f11_tellGiving_114 N x1 fu σ) x1 r_40 σ_51) else (
  f11_tellGiving_168 N (fun  σ => f11_tellGiving_114 N x1 fu σ) x1 r_40 σ_41))))) else (
  f11_tellGiving_189 N σ)
def f11_tellGiving_94 (N : Nat) (x1 : Int32) (σ : Mm) : Option (Unit × Mm) :=
  z_b (f11_bounded N (0 : Int32) (99 : Int32) σ) fun r_20 σ_21 =>
  z_c (inB x1 24) (z_l (sI σ_21 182 (ix x1) r_20) fun σ_24 =>
  z_c (inB x1 24) (z_l (sI σ_24 183 (ix x1) (0 : Int32)) fun σ_26 =>
  f11_tellGiving_114 N x1 N σ_26))
def f11_tellGiving (N : Nat) (σ : Mm) : Option (Unit × Mm) :=
  z_c (inB (gI σ 160 19) 2) (
  z_l ((((12 : Int32) * (gI σ 160 19)) + (gI σ 178 (ix (gI σ 160 19))))) fun x1_2 =>
  z_b (f11_known N (10 : Int32) σ) fun r_3 σ_4 =>
  z_c (inB x1_2 24) (z_l (sI σ_4 179 (ix x1_2) r_3) fun σ_7 =>
  z_b (f11_known N (0 : Int32) σ_7) fun r_8 σ_9 =>
  z_c (inB x1_2 24) (z_l (sI σ_9 180 (ix x1_2) r_8) fun σ_12 =>
  z_l ((gI σ_12 160 11)) fun x2_13 =>
  z_b (f11_known N (0 : Int32) σ_12) fun r_14 σ_15 =>
  z_c (inB x1_2 24) (z_l (sI σ_15 181 (ix x1_2) r_14) fun σ_18 =>
  if (gI σ_18 160 13) = 0 then (
  z_c (inB x1_2 24) (
  if (gI σ_18 181 (ix x1_2)) < 0 then (
  f11_tellGiving_94 N x1_2 σ_18) else (
  z_c (inB x1_2 24) (
  z_c (inB x1_2 24) (
  if (gI σ_18 181 (ix x1_2)) = (gI σ_18 180 (ix x1_2)) then (
  z_b (f11_wrong N (3 : Int32) x2_13 σ_18) fun _ σ_59 =>
  f11_tellGiving_94 N x1_2 σ_59) else (
  f11_tellGiving_94 N x1_2 σ_18)))))) else (
  f11_tellGiving_94 N x1_2 σ_18)))))
set_option maxHeartbeats 4000000 in
set_option maxRecDepth 100000 in
theorem w11_tellGiving_189 (X : Cx p s m args c cX11_tellGiving 5 RX11 G) (hr : meth.sig.returnType = none) (hlk : meth.locks = false) (N : Nat) :
    ∀ (σ : Mm) (H : Heap) (locs : List Loc) (ls : Array Slot), f11_tellGiving_189 N σ = some (u0, σ0) → Rp G 212 tt σ s H locs → lv_has ls 5 [(0, .ref (G.2.2 + 160))] → W p l e rm11_tellGiving s m args below meth c H locs 0 0 (MQ below (P_v G 212 tt u0 σ0) args s 0 0 (Fr G)) (F0 m 189 ls []) := by
  have hx := X.1
  have hb := X.2.1
  intro σ H locs ls hf hR hl
  unfold f11_tellGiving_189 at hf
  refine lv_aload_n hx hb dX11_tellGiving_189 rfl (lv_at hl 0 rfl) ?_
  refine lv_iconst (v := (4 : Int32)) hx hb dX11_tellGiving_190 (by decide) ?_
  obtain ⟨r_28, σ_29, hc_30, hf⟩ := z_b_e hf
  refine go_v hR (mv_run (As := [.int (4 : Int32)]) (rest := []) X hR mv_11_282 kh_160 (kd_lt kh_160 (by decide)) (c11_must l G N hc_30) ⟨rfl, rfl, Nat.le_of_ble_eq_true rfl, Nat.le_of_ble_eq_true rfl⟩ rfl hl.1 rfl (Nat.le_of_ble_eq_true rfl) dX11_tellGiving_191 ⟨Nat.zero_le _, Nat.zero_le _⟩) (fun H locs hR => ?_)
  refine lv_aload_n hx hb dX11_tellGiving_194 rfl (lv_at hl 0 rfl) ?_
  refine r_gi X hR fi_11_224 kh_160 dX11_tellGiving_195 ?_
  refine lv_if_ne (tgt := 214) hx hb dX11_tellGiving_198 (by decide) (fun c_31 => ?_) (fun c_31 => ?_)
  · replace hf := z_f c_31 hf
    exact e_v X hR hr hlk hf dX11_tellGiving_214
  · replace hf := z_t c_31 hf
    refine lv_aload_n hx hb dX11_tellGiving_201 rfl (lv_at hl 0 rfl) ?_
    refine r_gs (t := 178) X hR fr_11_70 kh_160 (sx_11_31 kh_160) dX11_tellGiving_202 ?_
    refine lv_aload_n hx hb dX11_tellGiving_205 rfl (lv_at hl 0 rfl) ?_
    refine r_gi X hR fi_11_257 kh_160 dX11_tellGiving_206 ?_
    refine lv_dup2_11 hx hb dX11_tellGiving_209 rfl rfl ?_
    obtain ⟨hi_32, hf⟩ := z_c_e hf
    refine r_ial X hR ka_178 hi_32 dX11_tellGiving_210 ?_
    refine lv_iconst (v := (1 : Int32)) hx hb dX11_tellGiving_211 (by decide) ?_
    refine lv_iadd hx hb dX11_tellGiving_212 ?_
    obtain ⟨hi_33, hf⟩ := z_c_e hf
    refine r_ias X hR ka_178 hi_33 dX11_tellGiving_213 (fun H locs σ_34 eσ_34 hR => ?_)
    replace hf := z_l_e eσ_34 hf
    exact e_v X hR hr hlk hf dX11_tellGiving_214
set_option maxHeartbeats 4000000 in
set_option maxRecDepth 100000 in
theorem w11_tellGiving_186 (X : Cx p s m args c cX11_tellGiving 5 RX11 G) (hr : meth.sig.returnType = none) (hlk : meth.locks = false) (N : Nat) {x1 : Int32} {k114 : Mm → Option (Unit × Mm)} (hk114 : ∀ (σ : Mm) (H : Heap) (locs : List Loc) (ls : Array Slot), k114  σ = some (u0, σ0) → Rp G 212 tt σ s H locs → lv_has ls 5 [(0, .ref (G.2.2 + 160)), (1, .int x1)] → W p l e rm11_tellGiving s m args below meth c H locs 0 0 (MQ below (P_v G 212 tt u0 σ0) args s 0 0 (Fr G)) (F0 m 114 ls [])) :
    ∀ (σ : Mm) (H : Heap) (locs : List Loc) (ls : Array Slot), f11_tellGiving_186 N k114 x1 σ = some (u0, σ0) → Rp G 212 tt σ s H locs → lv_has ls 5 [(0, .ref (G.2.2 + 160)), (1, .int x1)] → W p l e rm11_tellGiving s m args below meth c H locs 0 0 (MQ below (P_v G 212 tt u0 σ0) args s 0 0 (Fr G)) (F0 m 186 ls []) := by
  have hx := X.1
  have hb := X.2.1
  intro σ H locs ls hf hR hl
  unfold f11_tellGiving_186 at hf
  refine lv_goto (tgt := 114) hx hb dX11_tellGiving_186 (by decide) ?_
  exact hk114  σ _ _ _ hf hR (lv_sub hl [0, 1] rfl)
set_option maxHeartbeats 4000000 in
set_option maxRecDepth 100000 in
theorem w11_tellGiving_168 (X : Cx p s m args c cX11_tellGiving 5 RX11 G) (hr : meth.sig.returnType = none) (hlk : meth.locks = false) (N : Nat) {x1 : Int32} {k114 : Mm → Option (Unit × Mm)} (hk114 : ∀ (σ : Mm) (H : Heap) (locs : List Loc) (ls : Array Slot), k114  σ = some (u0, σ0) → Rp G 212 tt σ s H locs → lv_has ls 5 [(0, .ref (G.2.2 + 160)), (1, .int x1)] → W p l e rm11_tellGiving s m args below meth c H locs 0 0 (MQ below (P_v G 212 tt u0 σ0) args s 0 0 (Fr G)) (F0 m 114 ls [])) :
    ∀ (x4 : Int32) (σ : Mm) (H : Heap) (locs : List Loc) (ls : Array Slot), f11_tellGiving_168 N k114 x1 x4 σ = some (u0, σ0) → Rp G 212 tt σ s H locs → lv_has ls 5 [(0, .ref (G.2.2 + 160)), (1, .int x1), (4, .int x4)] → W p l e rm11_tellGiving s m args below meth c H locs 0 0 (MQ below (P_v G 212 tt u0 σ0) args s 0 0 (Fr G)) (F0 m 168 ls []) := by
  have hx := X.1
  have hb := X.2.1
  intro x4 σ H locs ls hf hR hl
  unfold f11_tellGiving_168 at hf
  refine lv_iload hx hb dX11_tellGiving_168 (lv_at hl 2 rfl) ?_
  refine lv_if_lt (tgt := 186) hx hb dX11_tellGiving_170 (by decide) (fun c_44 => ?_) (fun c_44 => ?_)
  · replace hf := z_t c_44 hf
    exact w11_tellGiving_186 X hr hlk N hk114  σ _ _ _ hf hR (lv_sub hl [0, 1] rfl)
  · replace hf := z_f c_44 hf
    refine lv_aload_n hx hb dX11_tellGiving_173 rfl (lv_at hl 0 rfl) ?_
    refine r_gs (t := 183) X hR fr_11_85 kh_160 (sx_11_36 kh_160) dX11_tellGiving_174 ?_
    refine lv_iload_n hx hb dX11_tellGiving_177 rfl (lv_at hl 1 rfl) ?_
    refine lv_dup2_11 hx hb dX11_tellGiving_178 rfl rfl ?_
    obtain ⟨hi_45, hf⟩ := z_c_e hf
    refine r_ial X hR ka_183 hi_45 dX11_tellGiving_179 ?_
    refine lv_iconst (v := (1 : Int32)) hx hb dX11_tellGiving_180 (by decide) ?_
    refine lv_iload hx hb dX11_tellGiving_181 (lv_at hl 2 rfl) ?_
    refine lv_ishl hx hb dX11_tellGiving_183 ?_
    refine lv_ior hx hb dX11_tellGiving_184 ?_
    obtain ⟨hi_46, hf⟩ := z_c_e hf
    refine r_ias X hR ka_183 hi_46 dX11_tellGiving_185 (fun H locs σ_47 eσ_47 hR => ?_)
    replace hf := z_l_e eσ_47 hf
    exact w11_tellGiving_186 X hr hlk N hk114  σ_47 _ _ _ hf hR (lv_sub hl [0, 1] rfl)
set_option maxHeartbeats 4000000 in
set_option maxRecDepth 100000 in
theorem w11_tellGiving_114 (X : Cx p s m args c cX11_tellGiving 5 RX11 G) (hr : meth.sig.returnType = none) (hlk : meth.locks = false) (N : Nat) {x1 : Int32} :
    ∀ (fu : Nat) (σ : Mm) (H : Heap) (locs : List Loc) (ls : Array Slot), f11_tellGiving_114 N x1 fu σ = some (u0, σ0) → Rp G 212 tt σ s H locs → lv_has ls 5 [(0, .ref (G.2.2 + 160)), (1, .int x1)] → W p l e rm11_tellGiving s m args below meth c H locs 0 0 (MQ below (P_v G 212 tt u0 σ0) args s 0 0 (Fr G)) (F0 m 114 ls []) := by
  have hx := X.1
  have hb := X.2.1
  intro fu
  induction fu with
  | zero =>
    intro σ H locs ls hf hR hl
    rw [f11_tellGiving_114] at hf
    cases hf
  | succ fu ih =>
    intro σ H locs ls hf hR hl
    rw [f11_tellGiving_114] at hf
    refine lv_aload_n hx hb dX11_tellGiving_114 rfl (lv_at hl 0 rfl) ?_
    refine r_gi X hR fi_11_224 kh_160 dX11_tellGiving_115 ?_
    refine lv_if_ne (tgt := 189) hx hb dX11_tellGiving_118 (by decide) (fun c_27 => ?_) (fun c_27 => ?_)
    · replace hf := z_f c_27 hf
      exact w11_tellGiving_189 X hr hlk N   σ _ _ _ hf hR (lv_sub hl [0] rfl)
    · replace hf := z_t c_27 hf
      refine lv_aload_n hx hb dX11_tellGiving_121 rfl (lv_at hl 0 rfl) ?_
      refine lv_iconst (v := (1 : Int32)) hx hb dX11_tellGiving_122 (by decide) ?_
      obtain ⟨r_35, σ_36, hc_37, hf⟩ := z_b_e hf
      refine go_i hR (mv_run (As := [.int (1 : Int32)]) (rest := []) X hR mv_11_242 kh_160 (kd_lt kh_160 (by decide)) (c11_is l G N hc_37) ⟨rfl, rfl, Nat.le_of_ble_eq_true rfl, Nat.le_of_ble_eq_true rfl⟩ rfl hl.1 rfl (Nat.le_of_ble_eq_true rfl) dX11_tellGiving_123 ⟨Nat.zero_le _, Nat.zero_le _⟩) (fun H locs hR => ?_)
      refine lv_if_eq (tgt := 189) hx hb dX11_tellGiving_126 (by decide) (fun c_38 => ?_) (fun c_38 => ?_)
      · replace hf := z_t c_38 hf
        exact w11_tellGiving_189 X hr hlk N   σ_36 _ _ _ hf hR (lv_sub hl [0] rfl)
      · replace hf := z_f c_38 hf
        refine lv_aload_n hx hb dX11_tellGiving_129 rfl (lv_at hl 0 rfl) ?_
        refine r_gi X hR fi_11_227 kh_160 dX11_tellGiving_130 ?_
        refine lv_topi (fun x3_39 ex3_39 => ?_)
        replace hf := z_l_e ex3_39 hf
        refine lv_istore_n (lv' := [(3, .int x3_39), (0, .ref (G.2.2 + 160)), (1, .int x1)]) hx hb dX11_tellGiving_133 rfl hl (by decide) rfl (fun ls hl => ?_)
        refine lv_aload_n hx hb dX11_tellGiving_134 rfl (lv_at hl 1 rfl) ?_
        refine lv_bipush (v := (20 : Int32)) hx hb dX11_tellGiving_135 (by decide) ?_
        obtain ⟨r_40, σ_41, hc_42, hf⟩ := z_b_e hf
        refine go_i hR (mv_run (As := [.int (20 : Int32)]) (rest := []) X hR mv_11_314 kh_160 (kd_lt kh_160 (by decide)) (c11_known l G N hc_42) ⟨rfl, rfl, Nat.le_of_ble_eq_true rfl, Nat.le_of_ble_eq_true rfl⟩ rfl hl.1 rfl (Nat.le_of_ble_eq_true rfl) dX11_tellGiving_137 ⟨Nat.zero_le _, Nat.zero_le _⟩) (fun H locs hR => ?_)
        refine lv_istore (lv' := [(4, .int r_40), (3, .int x3_39), (0, .ref (G.2.2 + 160)), (1, .int x1)]) hx hb dX11_tellGiving_140 hl (by decide) rfl (fun ls hl => ?_)
        refine lv_iload hx hb dX11_tellGiving_142 (lv_at hl 0 rfl) ?_
        refine lv_if_lt (tgt := 168) hx hb dX11_tellGiving_144 (by decide) (fun c_43 => ?_) (fun c_43 => ?_)
        · replace hf := z_t c_43 hf
          exact w11_tellGiving_168 X hr hlk N ih r_40 σ_41 _ _ _ hf hR (lv_sub hl [2, 3, 0] rfl)
        · replace hf := z_f c_43 hf
          refine lv_aload_n hx hb dX11_tellGiving_147 rfl (lv_at hl 2 rfl) ?_
          refine r_gs (t := 183) X hR fr_11_85 kh_160 (sx_11_36 kh_160) dX11_tellGiving_148 ?_
          refine lv_iload_n hx hb dX11_tellGiving_151 rfl (lv_at hl 3 rfl) ?_
          obtain ⟨hi_48, hf⟩ := z_c_e hf
          refine r_ial X hR ka_183 hi_48 dX11_tellGiving_152 ?_
          refine lv_iload hx hb dX11_tellGiving_153 (lv_at hl 0 rfl) ?_
          refine lv_ishr hx hb dX11_tellGiving_155 ?_
          refine lv_iconst (v := (1 : Int32)) hx hb dX11_tellGiving_156 (by decide) ?_
          refine lv_iand hx hb dX11_tellGiving_157 ?_
          refine lv_iconst (v := (1 : Int32)) hx hb dX11_tellGiving_158 (by decide) ?_
          refine lv_icmp_ne (tgt := 168) hx hb dX11_tellGiving_159 (by decide) (fun c_49 => ?_) (fun c_49 => ?_)
          · replace hf := z_f c_49 hf
            exact w11_tellGiving_168 X hr hlk N ih r_40 σ_41 _ _ _ hf hR (lv_sub hl [2, 3, 0] rfl)
          · replace hf := z_t c_49 hf
            refine lv_aload_n hx hb dX11_tellGiving_162 rfl (lv_at hl 2 rfl) ?_
            refine lv_iconst (v := (3 : Int32)) hx hb dX11_tellGiving_163 (by decide) ?_
            refine lv_iload_n hx hb dX11_tellGiving_164 rfl (lv_at hl 1 rfl) ?_
            obtain ⟨r_50, σ_51, hc_52, hf⟩ := z_b_e hf
            refine go_v hR (mv_run (As := [.int (3 : Int32), .int x3_39]) (rest := []) X hR mv_11_311 kh_160 (kd_lt kh_160 (by decide)) (c11_wrong l G N hc_52) ⟨rfl, rfl, Nat.le_of_ble_eq_true rfl, Nat.le_of_ble_eq_true rfl⟩ rfl hl.1 rfl (Nat.le_of_ble_eq_true rfl) dX11_tellGiving_165 ⟨Nat.zero_le _, Nat.zero_le _⟩) (fun H locs hR => ?_)
            exact w11_tellGiving_168 X hr hlk N ih r_40 σ_51 _ _ _ hf hR (lv_sub hl [2, 3, 0] rfl)
set_option maxHeartbeats 4000000 in
set_option maxRecDepth 100000 in
theorem w11_tellGiving_94 (X : Cx p s m args c cX11_tellGiving 5 RX11 G) (hr : meth.sig.returnType = none) (hlk : meth.locks = false) (N : Nat) :
    ∀ (x1 : Int32) (σ : Mm) (H : Heap) (locs : List Loc) (ls : Array Slot), f11_tellGiving_94 N x1 σ = some (u0, σ0) → Rp G 212 tt σ s H locs → lv_has ls 5 [(0, .ref (G.2.2 + 160)), (1, .int x1)] → W p l e rm11_tellGiving s m args below meth c H locs 0 0 (MQ below (P_v G 212 tt u0 σ0) args s 0 0 (Fr G)) (F0 m 94 ls []) := by
  have hx := X.1
  have hb := X.2.1
  intro x1 σ H locs ls hf hR hl
  unfold f11_tellGiving_94 at hf
  refine lv_aload_n hx hb dX11_tellGiving_94 rfl (lv_at hl 0 rfl) ?_
  refine r_gs (t := 182) X hR fr_11_82 kh_160 (sx_11_35 kh_160) dX11_tellGiving_95 ?_
  refine lv_iload_n hx hb dX11_tellGiving_98 rfl (lv_at hl 1 rfl) ?_
  refine lv_aload_n hx hb dX11_tellGiving_99 rfl (lv_at hl 0 rfl) ?_
  refine lv_iconst (v := (0 : Int32)) hx hb dX11_tellGiving_100 (by decide) ?_
  refine lv_bipush (v := (99 : Int32)) hx hb dX11_tellGiving_101 (by decide) ?_
  obtain ⟨r_20, σ_21, hc_22, hf⟩ := z_b_e hf
  refine go_i hR (mv_run (As := [.int (0 : Int32), .int (99 : Int32)]) (rest := [.int x1, .ref (G.2.2 + 182)]) X hR mv_11_278 kh_160 (kd_lt kh_160 (by decide)) (c11_bounded l G N hc_22) ⟨rfl, rfl, Nat.le_of_ble_eq_true rfl, Nat.le_of_ble_eq_true rfl⟩ rfl hl.1 rfl (Nat.le_of_ble_eq_true rfl) dX11_tellGiving_103 ⟨Nat.zero_le _, Nat.zero_le _⟩) (fun H locs hR => ?_)
  obtain ⟨hi_23, hf⟩ := z_c_e hf
  refine r_ias X hR ka_182 hi_23 dX11_tellGiving_106 (fun H locs σ_24 eσ_24 hR => ?_)
  replace hf := z_l_e eσ_24 hf
  refine lv_aload_n hx hb dX11_tellGiving_107 rfl (lv_at hl 0 rfl) ?_
  refine r_gs (t := 183) X hR fr_11_85 kh_160 (sx_11_36 kh_160) dX11_tellGiving_108 ?_
  refine lv_iload_n hx hb dX11_tellGiving_111 rfl (lv_at hl 1 rfl) ?_
  refine lv_iconst (v := (0 : Int32)) hx hb dX11_tellGiving_112 (by decide) ?_
  obtain ⟨hi_25, hf⟩ := z_c_e hf
  refine r_ias X hR ka_183 hi_25 dX11_tellGiving_113 (fun H locs σ_26 eσ_26 hR => ?_)
  replace hf := z_l_e eσ_26 hf
  exact w11_tellGiving_114 X hr hlk N  N  σ_26 _ _ _ hf hR (lv_sub hl [0, 1] rfl)
set_option maxHeartbeats 4000000 in
set_option maxRecDepth 100000 in
theorem c11_tellGiving (l : Launch) (G : Gp) (N : Nat) {σ σ0 : Mm} {u0 : Unit} (hf : f11_tellGiving N σ = some (u0, σ0)) : Met l yX11_tellGiving (WS yX11_tellGiving cX11_tellGiving 5 (none)) rm11_tellGiving (va_Pc [.ref (G.2.2 + 160)] (Pd G 212 tt σ)) (P_v G 212 tt u0 σ0) 0 0 (Fr G) := by
  refine ct [(0, .ref (G.2.2 + 160))] rfl (by decide) (Nat.le_of_ble_eq_true rfl) ?_
  intro p e s m below meth c ls X hr hlk hR hl
  have X : Cx p s m _ c cX11_tellGiving 5 RX11 G := X
  have hx := X.1
  have hb := X.2.1
  unfold f11_tellGiving at hf
  refine lv_bipush (v := (12 : Int32)) hx hb dX11_tellGiving_0 (by decide) ?_
  refine lv_aload_n hx hb dX11_tellGiving_2 rfl (lv_at hl 0 rfl) ?_
  refine r_gi X hR fi_11_257 kh_160 dX11_tellGiving_3 ?_
  refine lv_imul hx hb dX11_tellGiving_6 ?_
  refine lv_aload_n hx hb dX11_tellGiving_7 rfl (lv_at hl 0 rfl) ?_
  refine r_gs (t := 178) X hR fr_11_70 kh_160 (sx_11_31 kh_160) dX11_tellGiving_8 ?_
  refine lv_aload_n hx hb dX11_tellGiving_11 rfl (lv_at hl 0 rfl) ?_
  refine r_gi X hR fi_11_257 kh_160 dX11_tellGiving_12 ?_
  obtain ⟨hi_1, hf⟩ := z_c_e hf
  refine r_ial X hR ka_178 hi_1 dX11_tellGiving_15 ?_
  refine lv_iadd hx hb dX11_tellGiving_16 ?_
  refine lv_topi (fun x1_2 ex1_2 => ?_)
  replace hf := z_l_e ex1_2 hf
  refine lv_istore_n (lv' := [(1, .int x1_2), (0, .ref (G.2.2 + 160))]) hx hb dX11_tellGiving_17 rfl hl (by decide) rfl (fun ls hl => ?_)
  refine lv_aload_n hx hb dX11_tellGiving_18 rfl (lv_at hl 1 rfl) ?_
  refine r_gs (t := 179) X hR fr_11_73 kh_160 (sx_11_32 kh_160) dX11_tellGiving_19 ?_
  refine lv_iload_n hx hb dX11_tellGiving_22 rfl (lv_at hl 0 rfl) ?_
  refine lv_aload_n hx hb dX11_tellGiving_23 rfl (lv_at hl 1 rfl) ?_
  refine lv_bipush (v := (10 : Int32)) hx hb dX11_tellGiving_24 (by decide) ?_
  obtain ⟨r_3, σ_4, hc_5, hf⟩ := z_b_e hf
  refine go_i hR (mv_run (As := [.int (10 : Int32)]) (rest := [.int x1_2, .ref (G.2.2 + 179)]) X hR mv_11_314 kh_160 (kd_lt kh_160 (by decide)) (c11_known l G N hc_5) ⟨rfl, rfl, Nat.le_of_ble_eq_true rfl, Nat.le_of_ble_eq_true rfl⟩ rfl hl.1 rfl (Nat.le_of_ble_eq_true rfl) dX11_tellGiving_26 ⟨Nat.zero_le _, Nat.zero_le _⟩) (fun H locs hR => ?_)
  obtain ⟨hi_6, hf⟩ := z_c_e hf
  refine r_ias X hR ka_179 hi_6 dX11_tellGiving_29 (fun H locs σ_7 eσ_7 hR => ?_)
  replace hf := z_l_e eσ_7 hf
  refine lv_aload_n hx hb dX11_tellGiving_30 rfl (lv_at hl 1 rfl) ?_
  refine r_gs (t := 180) X hR fr_11_76 kh_160 (sx_11_33 kh_160) dX11_tellGiving_31 ?_
  refine lv_iload_n hx hb dX11_tellGiving_34 rfl (lv_at hl 0 rfl) ?_
  refine lv_aload_n hx hb dX11_tellGiving_35 rfl (lv_at hl 1 rfl) ?_
  refine lv_iconst (v := (0 : Int32)) hx hb dX11_tellGiving_36 (by decide) ?_
  obtain ⟨r_8, σ_9, hc_10, hf⟩ := z_b_e hf
  refine go_i hR (mv_run (As := [.int (0 : Int32)]) (rest := [.int x1_2, .ref (G.2.2 + 180)]) X hR mv_11_314 kh_160 (kd_lt kh_160 (by decide)) (c11_known l G N hc_10) ⟨rfl, rfl, Nat.le_of_ble_eq_true rfl, Nat.le_of_ble_eq_true rfl⟩ rfl hl.1 rfl (Nat.le_of_ble_eq_true rfl) dX11_tellGiving_37 ⟨Nat.zero_le _, Nat.zero_le _⟩) (fun H locs hR => ?_)
  obtain ⟨hi_11, hf⟩ := z_c_e hf
  refine r_ias X hR ka_180 hi_11 dX11_tellGiving_40 (fun H locs σ_12 eσ_12 hR => ?_)
  replace hf := z_l_e eσ_12 hf
  refine lv_aload_n hx hb dX11_tellGiving_41 rfl (lv_at hl 1 rfl) ?_
  refine r_gi X hR fi_11_227 kh_160 dX11_tellGiving_42 ?_
  refine lv_topi (fun x2_13 ex2_13 => ?_)
  replace hf := z_l_e ex2_13 hf
  refine lv_istore_n (lv' := [(2, .int x2_13), (1, .int x1_2), (0, .ref (G.2.2 + 160))]) hx hb dX11_tellGiving_45 rfl hl (by decide) rfl (fun ls hl => ?_)
  refine lv_aload_n hx hb dX11_tellGiving_46 rfl (lv_at hl 2 rfl) ?_
  refine r_gs (t := 181) X hR fr_11_79 kh_160 (sx_11_34 kh_160) dX11_tellGiving_47 ?_
  refine lv_iload_n hx hb dX11_tellGiving_50 rfl (lv_at hl 1 rfl) ?_
  refine lv_aload_n hx hb dX11_tellGiving_51 rfl (lv_at hl 2 rfl) ?_
  refine lv_iconst (v := (0 : Int32)) hx hb dX11_tellGiving_52 (by decide) ?_
  obtain ⟨r_14, σ_15, hc_16, hf⟩ := z_b_e hf
  refine go_i hR (mv_run (As := [.int (0 : Int32)]) (rest := [.int x1_2, .ref (G.2.2 + 181)]) X hR mv_11_314 kh_160 (kd_lt kh_160 (by decide)) (c11_known l G N hc_16) ⟨rfl, rfl, Nat.le_of_ble_eq_true rfl, Nat.le_of_ble_eq_true rfl⟩ rfl hl.1 rfl (Nat.le_of_ble_eq_true rfl) dX11_tellGiving_53 ⟨Nat.zero_le _, Nat.zero_le _⟩) (fun H locs hR => ?_)
  obtain ⟨hi_17, hf⟩ := z_c_e hf
  refine r_ias X hR ka_181 hi_17 dX11_tellGiving_56 (fun H locs σ_18 eσ_18 hR => ?_)
  replace hf := z_l_e eσ_18 hf
  refine lv_aload_n hx hb dX11_tellGiving_57 rfl (lv_at hl 2 rfl) ?_
  refine r_gi X hR fi_11_224 kh_160 dX11_tellGiving_58 ?_
  refine lv_if_ne (tgt := 94) hx hb dX11_tellGiving_61 (by decide) (fun c_19 => ?_) (fun c_19 => ?_)
  · replace hf := z_f c_19 hf
    exact w11_tellGiving_94 X hr hlk N  x1_2 σ_18 _ _ _ hf hR (lv_sub hl [2, 1] rfl)
  · replace hf := z_t c_19 hf
    refine lv_aload_n hx hb dX11_tellGiving_64 rfl (lv_at hl 2 rfl) ?_
    refine r_gs (t := 181) X hR fr_11_79 kh_160 (sx_11_34 kh_160) dX11_tellGiving_65 ?_
    refine lv_iload_n hx hb dX11_tellGiving_68 rfl (lv_at hl 1 rfl) ?_
    obtain ⟨hi_53, hf⟩ := z_c_e hf
    refine r_ial X hR ka_181 hi_53 dX11_tellGiving_69 ?_
    refine lv_if_lt (tgt := 94) hx hb dX11_tellGiving_70 (by decide) (fun c_54 => ?_) (fun c_54 => ?_)
    · replace hf := z_t c_54 hf
      exact w11_tellGiving_94 X hr hlk N  x1_2 σ_18 _ _ _ hf hR (lv_sub hl [2, 1] rfl)
    · replace hf := z_f c_54 hf
      refine lv_aload_n hx hb dX11_tellGiving_73 rfl (lv_at hl 2 rfl) ?_
      refine r_gs (t := 181) X hR fr_11_79 kh_160 (sx_11_34 kh_160) dX11_tellGiving_74 ?_
      refine lv_iload_n hx hb dX11_tellGiving_77 rfl (lv_at hl 1 rfl) ?_
      obtain ⟨hi_55, hf⟩ := z_c_e hf
      refine r_ial X hR ka_181 hi_55 dX11_tellGiving_78 ?_
      refine lv_aload_n hx hb dX11_tellGiving_79 rfl (lv_at hl 2 rfl) ?_
      refine r_gs (t := 180) X hR fr_11_76 kh_160 (sx_11_33 kh_160) dX11_tellGiving_80 ?_
      refine lv_iload_n hx hb dX11_tellGiving_83 rfl (lv_at hl 1 rfl) ?_
      obtain ⟨hi_56, hf⟩ := z_c_e hf
      refine r_ial X hR ka_180 hi_56 dX11_tellGiving_84 ?_
      refine lv_icmp_ne (tgt := 94) hx hb dX11_tellGiving_85 (by decide) (fun c_57 => ?_) (fun c_57 => ?_)
      · replace hf := z_f c_57 hf
        exact w11_tellGiving_94 X hr hlk N  x1_2 σ_18 _ _ _ hf hR (lv_sub hl [2, 1] rfl)
      · replace hf := z_t c_57 hf
        refine lv_aload_n hx hb dX11_tellGiving_88 rfl (lv_at hl 2 rfl) ?_
        refine lv_iconst (v := (3 : Int32)) hx hb dX11_tellGiving_89 (by decide) ?_
        refine lv_iload_n hx hb dX11_tellGiving_90 rfl (lv_at hl 0 rfl) ?_
        obtain ⟨r_58, σ_59, hc_60, hf⟩ := z_b_e hf
        refine go_v hR (mv_run (As := [.int (3 : Int32), .int x2_13]) (rest := []) X hR mv_11_311 kh_160 (kd_lt kh_160 (by decide)) (c11_wrong l G N hc_60) ⟨rfl, rfl, Nat.le_of_ble_eq_true rfl, Nat.le_of_ble_eq_true rfl⟩ rfl hl.1 rfl (Nat.le_of_ble_eq_true rfl) dX11_tellGiving_91 ⟨Nat.zero_le _, Nat.zero_le _⟩) (fun H locs hR => ?_)
        exact w11_tellGiving_94 X hr hlk N  x1_2 σ_59 _ _ _ hf hR (lv_sub hl [2, 1] rfl)
abbrev rm11_toldInt : Room := { frames := 3, cells := 0, slots := 0, locals := 64 }
def f11_toldInt (N : Nat) (x1 : Int32) (x2 : Int32) (σ : Mm) : Option (Int32 × Mm) :=
  z_b (f11_goesOn N σ) fun _ σ_2 =>
  z_b (f11_bounded N x1 x2 σ_2) fun r_4 σ_5 =>
  z_b (f11_must N (4 : Int32) σ_5) fun _ σ_8 =>
  some (r_4, σ_8)
set_option maxHeartbeats 4000000 in
set_option maxRecDepth 100000 in
theorem c11_toldInt (l : Launch) (G : Gp) (N : Nat) {x1 : Int32} {x2 : Int32} {σ σ0 : Mm} {r0 : Int32} (hf : f11_toldInt N x1 x2 σ = some (r0, σ0)) : Met l yX11_toldInt (WS yX11_toldInt cX11_toldInt 4 (some .int)) rm11_toldInt (va_Pc [.ref (G.2.2 + 160), .int x1, .int x2] (Pd G 212 tt σ)) (P_i G 212 tt r0 σ0) 0 0 (Fr G) := by
  refine ct [(0, .ref (G.2.2 + 160)), (1, .int x1), (2, .int x2)] rfl (by decide) (Nat.le_of_ble_eq_true rfl) ?_
  intro p e s m below meth c ls X hr hlk hR hl
  have X : Cx p s m _ c cX11_toldInt 4 RX11 G := X
  have hx := X.1
  have hb := X.2.1
  unfold f11_toldInt at hf
  refine lv_aload_n hx hb dX11_toldInt_0 rfl (lv_at hl 0 rfl) ?_
  obtain ⟨r_1, σ_2, hc_3, hf⟩ := z_b_e hf
  refine go_v hR (mv_run (As := []) (rest := []) X hR mv_11_245 kh_160 (kd_lt kh_160 (by decide)) (c11_goesOn l G N hc_3) ⟨rfl, rfl, Nat.le_of_ble_eq_true rfl, Nat.le_of_ble_eq_true rfl⟩ rfl hl.1 rfl (Nat.le_of_ble_eq_true rfl) dX11_toldInt_1 ⟨Nat.zero_le _, Nat.zero_le _⟩) (fun H locs hR => ?_)
  refine lv_aload_n hx hb dX11_toldInt_4 rfl (lv_at hl 0 rfl) ?_
  refine lv_iload_n hx hb dX11_toldInt_5 rfl (lv_at hl 1 rfl) ?_
  refine lv_iload_n hx hb dX11_toldInt_6 rfl (lv_at hl 2 rfl) ?_
  obtain ⟨r_4, σ_5, hc_6, hf⟩ := z_b_e hf
  refine go_i hR (mv_run (As := [.int x1, .int x2]) (rest := []) X hR mv_11_278 kh_160 (kd_lt kh_160 (by decide)) (c11_bounded l G N hc_6) ⟨rfl, rfl, Nat.le_of_ble_eq_true rfl, Nat.le_of_ble_eq_true rfl⟩ rfl hl.1 rfl (Nat.le_of_ble_eq_true rfl) dX11_toldInt_7 ⟨Nat.zero_le _, Nat.zero_le _⟩) (fun H locs hR => ?_)
  refine lv_istore_n (lv' := [(3, .int r_4), (0, .ref (G.2.2 + 160)), (1, .int x1), (2, .int x2)]) hx hb dX11_toldInt_10 rfl hl (by decide) rfl (fun ls hl => ?_)
  refine lv_aload_n hx hb dX11_toldInt_11 rfl (lv_at hl 1 rfl) ?_
  refine lv_iconst (v := (4 : Int32)) hx hb dX11_toldInt_12 (by decide) ?_
  obtain ⟨r_7, σ_8, hc_9, hf⟩ := z_b_e hf
  refine go_v hR (mv_run (As := [.int (4 : Int32)]) (rest := []) X hR mv_11_282 kh_160 (kd_lt kh_160 (by decide)) (c11_must l G N hc_9) ⟨rfl, rfl, Nat.le_of_ble_eq_true rfl, Nat.le_of_ble_eq_true rfl⟩ rfl hl.1 rfl (Nat.le_of_ble_eq_true rfl) dX11_toldInt_13 ⟨Nat.zero_le _, Nat.zero_le _⟩) (fun H locs hR => ?_)
  refine lv_iload_n hx hb dX11_toldInt_16 rfl (lv_at hl 0 rfl) ?_
  exact e_i X hR hr hlk hf dX11_toldInt_17
abbrev rm11_emit : Room := { frames := 0, cells := 0, slots := 0, locals := 0 }
def f11_emit (N : Nat) (x1 : Int32) (x2 : Int32) (σ : Mm) : Option (Unit × Mm) :=
  z_c (inB (gI σ 160 47) 840) (z_l (sI σ 193 (ix (gI σ 160 47)) x1) fun σ_2 =>
  z_c (inB (gI σ_2 160 47) 840) (z_l (sI σ_2 194 (ix (gI σ_2 160 47)) x2) fun σ_4 =>
  z_l (sI σ_4 160 47 ((gI σ_4 160 47) + (1 : Int32))) fun σ_5 =>
  some ((), σ_5)))
set_option maxHeartbeats 4000000 in
set_option maxRecDepth 100000 in
theorem c11_emit (l : Launch) (G : Gp) (N : Nat) {x1 : Int32} {x2 : Int32} {σ σ0 : Mm} {u0 : Unit} (hf : f11_emit N x1 x2 σ = some (u0, σ0)) : Met l yX11_emit (WS yX11_emit cX11_emit 3 (none)) rm11_emit (va_Pc [.ref (G.2.2 + 160), .int x1, .int x2] (Pd G 212 tt σ)) (P_v G 212 tt u0 σ0) 0 0 (Fr G) := by
  refine ct [(0, .ref (G.2.2 + 160)), (1, .int x1), (2, .int x2)] rfl (by decide) (Nat.le_of_ble_eq_true rfl) ?_
  intro p e s m below meth c ls X hr hlk hR hl
  have X : Cx p s m _ c cX11_emit 3 RX11 G := X
  have hx := X.1
  have hb := X.2.1
  unfold f11_emit at hf
  refine lv_aload_n hx hb dX11_emit_0 rfl (lv_at hl 0 rfl) ?_
  refine r_gs (t := 193) X hR fr_11_116 kh_160 (sx_11_48 kh_160) dX11_emit_1 ?_
  refine lv_aload_n hx hb dX11_emit_4 rfl (lv_at hl 0 rfl) ?_
  refine r_gi X hR fi_11_266 kh_160 dX11_emit_5 ?_
  refine lv_iload_n hx hb dX11_emit_8 rfl (lv_at hl 1 rfl) ?_
  obtain ⟨hi_1, hf⟩ := z_c_e hf
  refine r_ias X hR ka_193 hi_1 dX11_emit_9 (fun H locs σ_2 eσ_2 hR => ?_)
  replace hf := z_l_e eσ_2 hf
  refine lv_aload_n hx hb dX11_emit_10 rfl (lv_at hl 0 rfl) ?_
  refine r_gs (t := 194) X hR fr_11_119 kh_160 (sx_11_49 kh_160) dX11_emit_11 ?_
  refine lv_aload_n hx hb dX11_emit_14 rfl (lv_at hl 0 rfl) ?_
  refine r_gi X hR fi_11_266 kh_160 dX11_emit_15 ?_
  refine lv_iload_n hx hb dX11_emit_18 rfl (lv_at hl 2 rfl) ?_
  obtain ⟨hi_3, hf⟩ := z_c_e hf
  refine r_ias X hR ka_194 hi_3 dX11_emit_19 (fun H locs σ_4 eσ_4 hR => ?_)
  replace hf := z_l_e eσ_4 hf
  refine lv_aload_n hx hb dX11_emit_20 rfl (lv_at hl 0 rfl) ?_
  refine lv_dup hx hb dX11_emit_21 rfl ?_
  refine r_gi X hR fi_11_266 kh_160 dX11_emit_22 ?_
  refine lv_iconst (v := (1 : Int32)) hx hb dX11_emit_25 (by decide) ?_
  refine lv_iadd hx hb dX11_emit_26 ?_
  refine r_pi X hR pi_11_266 kh_160 dX11_emit_27 (fun H locs σ_5 eσ_5 hR => ?_)
  replace hf := z_l_e eσ_5 hf
  exact e_v X hR hr hlk hf dX11_emit_30
abbrev rm11_unit : Room := { frames := 2, cells := 0, slots := 0, locals := 41 }
def f11_unit_88 (N : Nat) (σ : Mm) : Option (Unit × Mm) :=
  z_b (f11_fail N (1 : Int32) σ) fun _ σ_7 =>
  some ((), σ_7)
def f11_unit (N : Nat) (σ : Mm) : Option (Unit × Mm) :=
  z_b (f11_is N (2 : Int32) σ) fun r_1 σ_2 =>
  if r_1 = 0 then (
  if (gI σ_2 160 13) = 0 then (
  z_c (inB (gI σ_2 160 11) 403) (
  if (gI σ_2 163 (ix (gI σ_2 160 11))) < (33 : Int32) then (
  f11_unit_88 N σ_2) else (
  z_c (inB (gI σ_2 160 11) 403) (
  if (41 : Int32) < (gI σ_2 163 (ix (gI σ_2 160 11))) then (
  f11_unit_88 N σ_2) else (
  z_c (inB (gI σ_2 160 11) 403) (
  z_b (f11_emit N (1 : Int32) ((gI σ_2 163 (ix (gI σ_2 160 11))) - (33 : Int32)) σ_2) fun _ σ_15 =>
  z_b (f11_goesOn N σ_15) fun _ σ_18 =>
  some ((), σ_18))))))) else (
  f11_unit_88 N σ_2)) else (
  z_c (inB (gI σ_2 160 11) 403) (
  z_b (f11_emit N (0 : Int32) (gI σ_2 165 (ix (gI σ_2 160 11))) σ_2) fun _ σ_22 =>
  z_b (f11_goesOn N σ_22) fun _ σ_25 =>
  some ((), σ_25)))
set_option maxHeartbeats 4000000 in
set_option maxRecDepth 100000 in
theorem w11_unit_88 (X : Cx p s m args c cX11_unit 1 RX11 G) (hr : meth.sig.returnType = none) (hlk : meth.locks = false) (N : Nat) :
    ∀ (σ : Mm) (H : Heap) (locs : List Loc) (ls : Array Slot), f11_unit_88 N σ = some (u0, σ0) → Rp G 212 tt σ s H locs → lv_has ls 1 [(0, .ref (G.2.2 + 160))] → W p l e rm11_unit s m args below meth c H locs 0 0 (MQ below (P_v G 212 tt u0 σ0) args s 0 0 (Fr G)) (F0 m 88 ls []) := by
  have hx := X.1
  have hb := X.2.1
  intro σ H locs ls hf hR hl
  unfold f11_unit_88 at hf
  refine lv_aload_n hx hb dX11_unit_88 rfl (lv_at hl 0 rfl) ?_
  refine lv_iconst (v := (1 : Int32)) hx hb dX11_unit_89 (by decide) ?_
  obtain ⟨r_6, σ_7, hc_8, hf⟩ := z_b_e hf
  refine go_v hR (mv_run (As := [.int (1 : Int32)]) (rest := []) X hR mv_11_239 kh_160 (kd_lt kh_160 (by decide)) (c11_fail l G N hc_8) ⟨rfl, rfl, Nat.le_of_ble_eq_true rfl, Nat.le_of_ble_eq_true rfl⟩ rfl hl.1 rfl (Nat.le_of_ble_eq_true rfl) dX11_unit_90 ⟨Nat.zero_le _, Nat.zero_le _⟩) (fun H locs hR => ?_)
  exact e_v X hR hr hlk hf dX11_unit_93
set_option maxHeartbeats 4000000 in
set_option maxRecDepth 100000 in
theorem c11_unit (l : Launch) (G : Gp) (N : Nat) {σ σ0 : Mm} {u0 : Unit} (hf : f11_unit N σ = some (u0, σ0)) : Met l yX11_unit (WS yX11_unit cX11_unit 1 (none)) rm11_unit (va_Pc [.ref (G.2.2 + 160)] (Pd G 212 tt σ)) (P_v G 212 tt u0 σ0) 0 0 (Fr G) := by
  refine ct [(0, .ref (G.2.2 + 160))] rfl (by decide) (Nat.le_of_ble_eq_true rfl) ?_
  intro p e s m below meth c ls X hr hlk hR hl
  have X : Cx p s m _ c cX11_unit 1 RX11 G := X
  have hx := X.1
  have hb := X.2.1
  unfold f11_unit at hf
  refine lv_aload_n hx hb dX11_unit_0 rfl (lv_at hl 0 rfl) ?_
  refine lv_iconst (v := (2 : Int32)) hx hb dX11_unit_1 (by decide) ?_
  obtain ⟨r_1, σ_2, hc_3, hf⟩ := z_b_e hf
  refine go_i hR (mv_run (As := [.int (2 : Int32)]) (rest := []) X hR mv_11_242 kh_160 (kd_lt kh_160 (by decide)) (c11_is l G N hc_3) ⟨rfl, rfl, Nat.le_of_ble_eq_true rfl, Nat.le_of_ble_eq_true rfl⟩ rfl hl.1 rfl (Nat.le_of_ble_eq_true rfl) dX11_unit_2 ⟨Nat.zero_le _, Nat.zero_le _⟩) (fun H locs hR => ?_)
  refine lv_if_eq (tgt := 29) hx hb dX11_unit_5 (by decide) (fun c_4 => ?_) (fun c_4 => ?_)
  · replace hf := z_t c_4 hf
    refine lv_aload_n hx hb dX11_unit_29 rfl (lv_at hl 0 rfl) ?_
    refine r_gi X hR fi_11_224 kh_160 dX11_unit_30 ?_
    refine lv_if_ne (tgt := 88) hx hb dX11_unit_33 (by decide) (fun c_5 => ?_) (fun c_5 => ?_)
    · replace hf := z_f c_5 hf
      exact w11_unit_88 X hr hlk N   σ_2 _ _ _ hf hR (lv_sub hl [0] rfl)
    · replace hf := z_t c_5 hf
      refine lv_aload_n hx hb dX11_unit_36 rfl (lv_at hl 0 rfl) ?_
      refine r_gs (t := 163) X hR fr_11_20 kh_160 (sx_11_5 kh_160) dX11_unit_37 ?_
      refine lv_aload_n hx hb dX11_unit_40 rfl (lv_at hl 0 rfl) ?_
      refine r_gi X hR fi_11_227 kh_160 dX11_unit_41 ?_
      obtain ⟨hi_9, hf⟩ := z_c_e hf
      refine r_ial X hR ka_163 hi_9 dX11_unit_44 ?_
      refine lv_bipush (v := (33 : Int32)) hx hb dX11_unit_45 (by decide) ?_
      refine lv_icmp_lt (tgt := 88) hx hb dX11_unit_47 (by decide) (fun c_10 => ?_) (fun c_10 => ?_)
      · replace hf := z_t c_10 hf
        exact w11_unit_88 X hr hlk N   σ_2 _ _ _ hf hR (lv_sub hl [0] rfl)
      · replace hf := z_f c_10 hf
        refine lv_aload_n hx hb dX11_unit_50 rfl (lv_at hl 0 rfl) ?_
        refine r_gs (t := 163) X hR fr_11_20 kh_160 (sx_11_5 kh_160) dX11_unit_51 ?_
        refine lv_aload_n hx hb dX11_unit_54 rfl (lv_at hl 0 rfl) ?_
        refine r_gi X hR fi_11_227 kh_160 dX11_unit_55 ?_
        obtain ⟨hi_11, hf⟩ := z_c_e hf
        refine r_ial X hR ka_163 hi_11 dX11_unit_58 ?_
        refine lv_bipush (v := (41 : Int32)) hx hb dX11_unit_59 (by decide) ?_
        refine lv_icmp_gt (tgt := 88) hx hb dX11_unit_61 (by decide) (fun c_12 => ?_) (fun c_12 => ?_)
        · replace hf := z_t c_12 hf
          exact w11_unit_88 X hr hlk N   σ_2 _ _ _ hf hR (lv_sub hl [0] rfl)
        · replace hf := z_f c_12 hf
          refine lv_aload_n hx hb dX11_unit_64 rfl (lv_at hl 0 rfl) ?_
          refine lv_iconst (v := (1 : Int32)) hx hb dX11_unit_65 (by decide) ?_
          refine lv_aload_n hx hb dX11_unit_66 rfl (lv_at hl 0 rfl) ?_
          refine r_gs (t := 163) X hR fr_11_20 kh_160 (sx_11_5 kh_160) dX11_unit_67 ?_
          refine lv_aload_n hx hb dX11_unit_70 rfl (lv_at hl 0 rfl) ?_
          refine r_gi X hR fi_11_227 kh_160 dX11_unit_71 ?_
          obtain ⟨hi_13, hf⟩ := z_c_e hf
          refine r_ial X hR ka_163 hi_13 dX11_unit_74 ?_
          refine lv_bipush (v := (33 : Int32)) hx hb dX11_unit_75 (by decide) ?_
          refine lv_isub hx hb dX11_unit_77 ?_
          obtain ⟨r_14, σ_15, hc_16, hf⟩ := z_b_e hf
          refine go_v hR (mv_run (As := [.int (1 : Int32), .int ((gI σ_2 163 (ix (gI σ_2 160 11))) - (33 : Int32))]) (rest := []) X hR mv_11_326 kh_160 (kd_lt kh_160 (by decide)) (c11_emit l G N hc_16) ⟨rfl, rfl, Nat.le_of_ble_eq_true rfl, Nat.le_of_ble_eq_true rfl⟩ rfl hl.1 rfl (Nat.le_of_ble_eq_true rfl) dX11_unit_78 ⟨Nat.zero_le _, Nat.zero_le _⟩) (fun H locs hR => ?_)
          refine lv_aload_n hx hb dX11_unit_81 rfl (lv_at hl 0 rfl) ?_
          obtain ⟨r_17, σ_18, hc_19, hf⟩ := z_b_e hf
          refine go_v hR (mv_run (As := []) (rest := []) X hR mv_11_245 kh_160 (kd_lt kh_160 (by decide)) (c11_goesOn l G N hc_19) ⟨rfl, rfl, Nat.le_of_ble_eq_true rfl, Nat.le_of_ble_eq_true rfl⟩ rfl hl.1 rfl (Nat.le_of_ble_eq_true rfl) dX11_unit_82 ⟨Nat.zero_le _, Nat.zero_le _⟩) (fun H locs hR => ?_)
          refine lv_goto (tgt := 93) hx hb dX11_unit_85 (by decide) ?_
          exact e_v X hR hr hlk hf dX11_unit_93
  · replace hf := z_f c_4 hf
    refine lv_aload_n hx hb dX11_unit_8 rfl (lv_at hl 0 rfl) ?_
    refine lv_iconst (v := (0 : Int32)) hx hb dX11_unit_9 (by decide) ?_
    refine lv_aload_n hx hb dX11_unit_10 rfl (lv_at hl 0 rfl) ?_
    refine r_gs (t := 165) X hR fr_11_27 kh_160 (sx_11_7 kh_160) dX11_unit_11 ?_
    refine lv_aload_n hx hb dX11_unit_14 rfl (lv_at hl 0 rfl) ?_
    refine r_gi X hR fi_11_227 kh_160 dX11_unit_15 ?_
    obtain ⟨hi_20, hf⟩ := z_c_e hf
    refine r_ial X hR ka_165 hi_20 dX11_unit_18 ?_
    obtain ⟨r_21, σ_22, hc_23, hf⟩ := z_b_e hf
    refine go_v hR (mv_run (As := [.int (0 : Int32), .int (gI σ_2 165 (ix (gI σ_2 160 11)))]) (rest := []) X hR mv_11_326 kh_160 (kd_lt kh_160 (by decide)) (c11_emit l G N hc_23) ⟨rfl, rfl, Nat.le_of_ble_eq_true rfl, Nat.le_of_ble_eq_true rfl⟩ rfl hl.1 rfl (Nat.le_of_ble_eq_true rfl) dX11_unit_19 ⟨Nat.zero_le _, Nat.zero_le _⟩) (fun H locs hR => ?_)
    refine lv_aload_n hx hb dX11_unit_22 rfl (lv_at hl 0 rfl) ?_
    obtain ⟨r_24, σ_25, hc_26, hf⟩ := z_b_e hf
    refine go_v hR (mv_run (As := []) (rest := []) X hR mv_11_245 kh_160 (kd_lt kh_160 (by decide)) (c11_goesOn l G N hc_26) ⟨rfl, rfl, Nat.le_of_ble_eq_true rfl, Nat.le_of_ble_eq_true rfl⟩ rfl hl.1 rfl (Nat.le_of_ble_eq_true rfl) dX11_unit_23 ⟨Nat.zero_le _, Nat.zero_le _⟩) (fun H locs hR => ?_)
    refine lv_goto (tgt := 93) hx hb dX11_unit_26 (by decide) ?_
    exact e_v X hR hr hlk hf dX11_unit_93
abbrev rm11_comesOut : Room := { frames := 1, cells := 0, slots := 0, locals := 22 }
def f11_comesOut_84 (N : Nat) (k0 : Mm → Option (Unit × Mm)) (x1 : Int32) (s1 : Int32) (σ : Mm) : Option (Unit × Mm) :=
  z_b (f11_emit N s1 (0 : Int32) σ) fun _ σ_11 =>
  k0 σ_11
def f11_comesOut_42 (N : Nat) (k0 : Mm → Option (Unit × Mm)) (x1 : Int32) (x2 : Int32) (σ : Mm) : Option (Unit × Mm) :=
  z_l (sI σ 160 51 ((gI σ 160 51) - (1 : Int32))) fun σ_6 =>
  if x2 = (8 : Int32) then (
  f11_comesOut_84 N k0 x1 (2 : Int32) σ_6) else (
  if x2 = (9 : Int32) then (
  f11_comesOut_84 N k0 x1 (3 : Int32) σ_6) else (
  if x2 = (10 : Int32) then (
  f11_comesOut_84 N k0 x1 (4 : Int32) σ_6) else (
  f11_comesOut_84 N k0 x1 (5 : Int32) σ_6)))
def f11_comesOut_0 (N : Nat) (x1 : Int32) : Nat → Mm → Option (Unit × Mm)
  | 0, _ => none
  | fu + 1, σ => if (gI σ 160 51) ≤ 0 then (
  some ((), σ)) else (
  z_c (inB ((gI σ 160 51) - (1 : Int32)) 64) (
  z_l ((gI σ 195 (ix ((gI σ 160 51) - (1 : Int32))))) fun x2_3 =>
  if x2_3 = (6 : Int32) then (
  some ((), σ)) else (
  if x1 = 0 then (
  f11_comesOut_42 N (fun  σ => f11_comesOut_0 N x1 fu σ) x1 x2_3 σ) else (
  if x2_3 = (8 : Int32) then (
  some ((), σ)) else (
  if x2_3 = (9 : Int32) then (
  some ((), σ)) else (
  f11_comesOut_42 N (fun  σ => f11_comesOut_0 N x1 fu σ) x1 x2_3 σ))))))
def f11_comesOut (N : Nat) (x1 : Int32) (σ : Mm) : Option (Unit × Mm) :=
  f11_comesOut_0 N x1 N σ
set_option maxHeartbeats 4000000 in
set_option maxRecDepth 100000 in
theorem w11_comesOut_84 (X : Cx p s m args c cX11_comesOut 3 RX11 G) (hr : meth.sig.returnType = none) (hlk : meth.locks = false) (N : Nat) {x1 : Int32} {k0 : Mm → Option (Unit × Mm)} (hk0 : ∀ (σ : Mm) (H : Heap) (locs : List Loc) (ls : Array Slot), k0  σ = some (u0, σ0) → Rp G 212 tt σ s H locs → lv_has ls 3 [(0, .ref (G.2.2 + 160)), (1, .int x1)] → W p l e rm11_comesOut s m args below meth c H locs 0 0 (MQ below (P_v G 212 tt u0 σ0) args s 0 0 (Fr G)) (F0 m 0 ls [])) :
    ∀ (s1 : Int32) (σ : Mm) (H : Heap) (locs : List Loc) (ls : Array Slot), f11_comesOut_84 N k0 x1 s1 σ = some (u0, σ0) → Rp G 212 tt σ s H locs → lv_has ls 3 [(0, .ref (G.2.2 + 160)), (1, .int x1)] → W p l e rm11_comesOut s m args below meth c H locs 0 0 (MQ below (P_v G 212 tt u0 σ0) args s 0 0 (Fr G)) (F0 m 84 ls [.int s1, .ref (G.2.2 + 160)]) := by
  have hx := X.1
  have hb := X.2.1
  intro s1 σ H locs ls hf hR hl
  unfold f11_comesOut_84 at hf
  refine lv_iconst (v := (0 : Int32)) hx hb dX11_comesOut_84 (by decide) ?_
  obtain ⟨r_10, σ_11, hc_12, hf⟩ := z_b_e hf
  refine go_v hR (mv_run (As := [.int s1, .int (0 : Int32)]) (rest := []) X hR mv_11_326 kh_160 (kd_lt kh_160 (by decide)) (c11_emit l G N hc_12) ⟨rfl, rfl, Nat.le_of_ble_eq_true rfl, Nat.le_of_ble_eq_true rfl⟩ rfl hl.1 rfl (Nat.le_of_ble_eq_true rfl) dX11_comesOut_85 ⟨Nat.zero_le _, Nat.zero_le _⟩) (fun H locs hR => ?_)
  refine lv_goto (tgt := 0) hx hb dX11_comesOut_88 (by decide) ?_
  exact hk0  σ_11 _ _ _ hf hR (lv_sub hl [0, 1] rfl)
set_option maxHeartbeats 4000000 in
set_option maxRecDepth 100000 in
theorem w11_comesOut_42 (X : Cx p s m args c cX11_comesOut 3 RX11 G) (hr : meth.sig.returnType = none) (hlk : meth.locks = false) (N : Nat) {x1 : Int32} {k0 : Mm → Option (Unit × Mm)} (hk0 : ∀ (σ : Mm) (H : Heap) (locs : List Loc) (ls : Array Slot), k0  σ = some (u0, σ0) → Rp G 212 tt σ s H locs → lv_has ls 3 [(0, .ref (G.2.2 + 160)), (1, .int x1)] → W p l e rm11_comesOut s m args below meth c H locs 0 0 (MQ below (P_v G 212 tt u0 σ0) args s 0 0 (Fr G)) (F0 m 0 ls [])) :
    ∀ (x2 : Int32) (σ : Mm) (H : Heap) (locs : List Loc) (ls : Array Slot), f11_comesOut_42 N k0 x1 x2 σ = some (u0, σ0) → Rp G 212 tt σ s H locs → lv_has ls 3 [(0, .ref (G.2.2 + 160)), (1, .int x1), (2, .int x2)] → W p l e rm11_comesOut s m args below meth c H locs 0 0 (MQ below (P_v G 212 tt u0 σ0) args s 0 0 (Fr G)) (F0 m 42 ls []) := by
  have hx := X.1
  have hb := X.2.1
  intro x2 σ H locs ls hf hR hl
  unfold f11_comesOut_42 at hf
  refine lv_aload_n hx hb dX11_comesOut_42 rfl (lv_at hl 0 rfl) ?_
  refine lv_dup hx hb dX11_comesOut_43 rfl ?_
  refine r_gi X hR fi_11_323 kh_160 dX11_comesOut_44 ?_
  refine lv_iconst (v := (1 : Int32)) hx hb dX11_comesOut_47 (by decide) ?_
  refine lv_isub hx hb dX11_comesOut_48 ?_
  refine r_pi X hR pi_11_323 kh_160 dX11_comesOut_49 (fun H locs σ_6 eσ_6 hR => ?_)
  replace hf := z_l_e eσ_6 hf
  refine lv_aload_n hx hb dX11_comesOut_52 rfl (lv_at hl 0 rfl) ?_
  refine lv_iload_n hx hb dX11_comesOut_53 rfl (lv_at hl 2 rfl) ?_
  refine lv_bipush (v := (8 : Int32)) hx hb dX11_comesOut_54 (by decide) ?_
  refine lv_icmp_ne (tgt := 63) hx hb dX11_comesOut_56 (by decide) (fun c_7 => ?_) (fun c_7 => ?_)
  · replace hf := z_f c_7 hf
    refine lv_iload_n hx hb dX11_comesOut_63 rfl (lv_at hl 2 rfl) ?_
    refine lv_bipush (v := (9 : Int32)) hx hb dX11_comesOut_64 (by decide) ?_
    refine lv_icmp_ne (tgt := 73) hx hb dX11_comesOut_66 (by decide) (fun c_8 => ?_) (fun c_8 => ?_)
    · replace hf := z_f c_8 hf
      refine lv_iload_n hx hb dX11_comesOut_73 rfl (lv_at hl 2 rfl) ?_
      refine lv_bipush (v := (10 : Int32)) hx hb dX11_comesOut_74 (by decide) ?_
      refine lv_icmp_ne (tgt := 83) hx hb dX11_comesOut_76 (by decide) (fun c_9 => ?_) (fun c_9 => ?_)
      · replace hf := z_f c_9 hf
        refine lv_iconst (v := (5 : Int32)) hx hb dX11_comesOut_83 (by decide) ?_
        exact w11_comesOut_84 X hr hlk N hk0 (5 : Int32) σ_6 _ _ _ hf hR (lv_sub hl [0, 1] rfl)
      · replace hf := z_t c_9 hf
        refine lv_iconst (v := (4 : Int32)) hx hb dX11_comesOut_79 (by decide) ?_
        refine lv_goto (tgt := 84) hx hb dX11_comesOut_80 (by decide) ?_
        exact w11_comesOut_84 X hr hlk N hk0 (4 : Int32) σ_6 _ _ _ hf hR (lv_sub hl [0, 1] rfl)
    · replace hf := z_t c_8 hf
      refine lv_iconst (v := (3 : Int32)) hx hb dX11_comesOut_69 (by decide) ?_
      refine lv_goto (tgt := 84) hx hb dX11_comesOut_70 (by decide) ?_
      exact w11_comesOut_84 X hr hlk N hk0 (3 : Int32) σ_6 _ _ _ hf hR (lv_sub hl [0, 1] rfl)
  · replace hf := z_t c_7 hf
    refine lv_iconst (v := (2 : Int32)) hx hb dX11_comesOut_59 (by decide) ?_
    refine lv_goto (tgt := 84) hx hb dX11_comesOut_60 (by decide) ?_
    exact w11_comesOut_84 X hr hlk N hk0 (2 : Int32) σ_6 _ _ _ hf hR (lv_sub hl [0, 1] rfl)
set_option maxHeartbeats 4000000 in
set_option maxRecDepth 100000 in
theorem w11_comesOut_0 (X : Cx p s m args c cX11_comesOut 3 RX11 G) (hr : meth.sig.returnType = none) (hlk : meth.locks = false) (N : Nat) {x1 : Int32} :
    ∀ (fu : Nat) (σ : Mm) (H : Heap) (locs : List Loc) (ls : Array Slot), f11_comesOut_0 N x1 fu σ = some (u0, σ0) → Rp G 212 tt σ s H locs → lv_has ls 3 [(0, .ref (G.2.2 + 160)), (1, .int x1)] → W p l e rm11_comesOut s m args below meth c H locs 0 0 (MQ below (P_v G 212 tt u0 σ0) args s 0 0 (Fr G)) (F0 m 0 ls []) := by
  have hx := X.1
  have hb := X.2.1
  intro fu
  induction fu with
  | zero =>
    intro σ H locs ls hf hR hl
    rw [f11_comesOut_0] at hf
    cases hf
  | succ fu ih =>
    intro σ H locs ls hf hR hl
    rw [f11_comesOut_0] at hf
    refine lv_aload_n hx hb dX11_comesOut_0 rfl (lv_at hl 0 rfl) ?_
    refine r_gi X hR fi_11_323 kh_160 dX11_comesOut_1 ?_
    refine lv_if_le (tgt := 91) hx hb dX11_comesOut_4 (by decide) (fun c_1 => ?_) (fun c_1 => ?_)
    · replace hf := z_t c_1 hf
      exact e_v X hR hr hlk hf dX11_comesOut_91
    · replace hf := z_f c_1 hf
      refine lv_aload_n hx hb dX11_comesOut_7 rfl (lv_at hl 0 rfl) ?_
      refine r_gs (t := 195) X hR fr_11_122 kh_160 (sx_11_50 kh_160) dX11_comesOut_8 ?_
      refine lv_aload_n hx hb dX11_comesOut_11 rfl (lv_at hl 0 rfl) ?_
      refine r_gi X hR fi_11_323 kh_160 dX11_comesOut_12 ?_
      refine lv_iconst (v := (1 : Int32)) hx hb dX11_comesOut_15 (by decide) ?_
      refine lv_isub hx hb dX11_comesOut_16 ?_
      obtain ⟨hi_2, hf⟩ := z_c_e hf
      refine r_ial X hR ka_195 hi_2 dX11_comesOut_17 ?_
      refine lv_topi (fun x2_3 ex2_3 => ?_)
      replace hf := z_l_e ex2_3 hf
      refine lv_istore_n (lv' := [(2, .int x2_3), (0, .ref (G.2.2 + 160)), (1, .int x1)]) hx hb dX11_comesOut_18 rfl hl (by decide) rfl (fun ls hl => ?_)
      refine lv_iload_n hx hb dX11_comesOut_19 rfl (lv_at hl 0 rfl) ?_
      refine lv_bipush (v := (6 : Int32)) hx hb dX11_comesOut_20 (by decide) ?_
      refine lv_icmp_eq (tgt := 41) hx hb dX11_comesOut_22 (by decide) (fun c_4 => ?_) (fun c_4 => ?_)
      · replace hf := z_t c_4 hf
        exact e_v X hR hr hlk hf dX11_comesOut_41
      · replace hf := z_f c_4 hf
        refine lv_iload_n hx hb dX11_comesOut_25 rfl (lv_at hl 2 rfl) ?_
        refine lv_if_eq (tgt := 42) hx hb dX11_comesOut_26 (by decide) (fun c_5 => ?_) (fun c_5 => ?_)
        · replace hf := z_t c_5 hf
          exact w11_comesOut_42 X hr hlk N ih x2_3 σ _ _ _ hf hR (lv_sub hl [1, 2, 0] rfl)
        · replace hf := z_f c_5 hf
          refine lv_iload_n hx hb dX11_comesOut_29 rfl (lv_at hl 0 rfl) ?_
          refine lv_bipush (v := (8 : Int32)) hx hb dX11_comesOut_30 (by decide) ?_
          refine lv_icmp_eq (tgt := 41) hx hb dX11_comesOut_32 (by decide) (fun c_13 => ?_) (fun c_13 => ?_)
          · replace hf := z_t c_13 hf
            exact e_v X hR hr hlk hf dX11_comesOut_41
          · replace hf := z_f c_13 hf
            refine lv_iload_n hx hb dX11_comesOut_35 rfl (lv_at hl 0 rfl) ?_
            refine lv_bipush (v := (9 : Int32)) hx hb dX11_comesOut_36 (by decide) ?_
            refine lv_icmp_ne (tgt := 42) hx hb dX11_comesOut_38 (by decide) (fun c_14 => ?_) (fun c_14 => ?_)
            · replace hf := z_f c_14 hf
              exact w11_comesOut_42 X hr hlk N ih x2_3 σ _ _ _ hf hR (lv_sub hl [1, 2, 0] rfl)
            · replace hf := z_t c_14 hf
              exact e_v X hR hr hlk hf dX11_comesOut_41
set_option maxHeartbeats 4000000 in
set_option maxRecDepth 100000 in
theorem c11_comesOut (l : Launch) (G : Gp) (N : Nat) {x1 : Int32} {σ σ0 : Mm} {u0 : Unit} (hf : f11_comesOut N x1 σ = some (u0, σ0)) : Met l yX11_comesOut (WS yX11_comesOut cX11_comesOut 3 (none)) rm11_comesOut (va_Pc [.ref (G.2.2 + 160), .int x1] (Pd G 212 tt σ)) (P_v G 212 tt u0 σ0) 0 0 (Fr G) := by
  refine ct [(0, .ref (G.2.2 + 160)), (1, .int x1)] rfl (by decide) (Nat.le_of_ble_eq_true rfl) ?_
  intro p e s m below meth c ls X hr hlk hR hl
  have X : Cx p s m _ c cX11_comesOut 3 RX11 G := X
  have hx := X.1
  have hb := X.2.1
  unfold f11_comesOut at hf
  exact w11_comesOut_0 X hr hlk N  N  σ _ _ _ hf hR (lv_sub hl [0, 1] rfl)
abbrev rm11_expression : Room := { frames := 3, cells := 0, slots := 0, locals := 61 }
def f11_expression_234 (N : Nat) (k12 : Int32 → Mm → Option (Unit × Mm)) (x1 : Int32) (x2 : Int32) (s1 : Int32) (σ : Mm) : Option (Unit × Mm) :=
  z_b (f11_comesOut N s1 σ) fun _ σ_27 =>
  z_c (inB (gI σ_27 160 11) 403) (
  z_c (inB (gI σ_27 160 51) 64) (z_l (sI σ_27 195 (ix (gI σ_27 160 51)) (gI σ_27 163 (ix (gI σ_27 160 11)))) fun σ_31 =>
  z_l (sI σ_31 160 51 ((gI σ_31 160 51) + (1 : Int32))) fun σ_32 =>
  z_b (f11_goesOn N σ_32) fun _ σ_34 =>
  k12 x2 σ_34))
def f11_expression_229 (N : Nat) (k12 : Int32 → Mm → Option (Unit × Mm)) (x1 : Int32) (x2 : Int32) (σ : Mm) : Option (Unit × Mm) :=
  f11_expression_234 N k12 x1 x2 (1 : Int32) σ
def f11_expression_204 (N : Nat) (σ : Mm) : Option (Unit × Mm) :=
  z_b (f11_comesOut N (0 : Int32) σ) fun _ σ_42 =>
  some ((), σ_42)
def f11_expression_191 (N : Nat) (x1 : Int32) (σ : Mm) : Option (Unit × Mm) :=
  if (gI σ 160 12) ≤ x1 then (
  f11_expression_204 N σ) else (
  z_b (f11_fail N (1 : Int32) σ) fun _ σ_45 =>
  f11_expression_204 N σ_45)
def f11_expression_186 (N : Nat) (k12 : Int32 → Mm → Option (Unit × Mm)) (x1 : Int32) (s0 : Int32) (σ : Mm) : Option (Unit × Mm) :=
  if s0 = 0 then (
  f11_expression_191 N x1 σ) else (
  z_b (f11_is N (10 : Int32) σ) fun r_22 σ_23 =>
  if r_22 = 0 then (
  z_b (f11_is N (15 : Int32) σ_23) fun r_36 σ_37 =>
  if r_36 = 0 then (
  f11_expression_234 N k12 x1 s0 (0 : Int32) σ_37) else (
  f11_expression_229 N k12 x1 s0 σ_37)) else (
  f11_expression_229 N k12 x1 s0 σ_23))
def f11_expression_181 (N : Nat) (k12 : Int32 → Mm → Option (Unit × Mm)) (x1 : Int32) (σ : Mm) : Option (Unit × Mm) :=
  f11_expression_186 N k12 x1 (1 : Int32) σ
def f11_expression_145 (N : Nat) (k12 : Int32 → Mm → Option (Unit × Mm)) (x1 : Int32) (σ : Mm) : Option (Unit × Mm) :=
  z_b (f11_is N (8 : Int32) σ) fun r_17 σ_18 =>
  if r_17 = 0 then (
  z_b (f11_is N (9 : Int32) σ_18) fun r_47 σ_48 =>
  if r_47 = 0 then (
  z_b (f11_is N (10 : Int32) σ_48) fun r_51 σ_52 =>
  if r_51 = 0 then (
  z_b (f11_is N (15 : Int32) σ_52) fun r_55 σ_56 =>
  if r_55 = 0 then (
  f11_expression_186 N k12 x1 (0 : Int32) σ_56) else (
  f11_expression_181 N k12 x1 σ_56)) else (
  f11_expression_181 N k12 x1 σ_52)) else (
  f11_expression_181 N k12 x1 σ_48)) else (
  f11_expression_181 N k12 x1 σ_18)
def f11_expression_96 (N : Nat) (k12 : Int32 → Mm → Option (Unit × Mm)) (x1 : Int32) : Nat → Mm → Option (Unit × Mm)
  | 0, _ => none
  | fu + 1, σ => z_b (f11_is N (7 : Int32) σ) fun r_13 σ_14 =>
  if r_13 = 0 then (
  f11_expression_145 N k12 x1 σ_14) else (
  if (gI σ_14 160 12) ≤ x1 then (
  f11_expression_145 N k12 x1 σ_14) else (
  z_b (f11_comesOut N (0 : Int32) σ_14) fun _ σ_61 =>
  z_l (sI σ_61 160 51 ((gI σ_61 160 51) - (1 : Int32))) fun σ_63 =>
  z_l (sI σ_63 160 12 ((gI σ_63 160 12) - (1 : Int32))) fun σ_64 =>
  z_b (f11_goesOn N σ_64) fun _ σ_66 =>
  f11_expression_96 N k12 x1 fu σ_66))
def f11_expression_84 (N : Nat) (k12 : Int32 → Mm → Option (Unit × Mm)) (x1 : Int32) (σ : Mm) : Option (Unit × Mm) :=
  z_b (f11_unit N σ) fun _ σ_10 =>
  if (gI σ_10 160 13) ≤ 0 then (
  f11_expression_96 N k12 x1 N σ_10) else (
  some ((), σ_10))
def f11_expression_46 (N : Nat) (k12 : Int32 → Mm → Option (Unit × Mm)) (k23 : Mm → Option (Unit × Mm)) (x1 : Int32) (σ : Mm) : Option (Unit × Mm) :=
  z_l (sI σ 160 12 ((gI σ 160 12) + (1 : Int32))) fun σ_69 =>
  z_b (f11_goesOn N σ_69) fun _ σ_71 =>
  z_c (inB (gI σ_71 160 51) 64) (z_l (sI σ_71 195 (ix (gI σ_71 160 51)) (6 : Int32)) fun σ_74 =>
  z_l (sI σ_74 160 51 ((gI σ_74 160 51) + (1 : Int32))) fun σ_75 =>
  k23 σ_75)
def f11_expression_23 (N : Nat) (k12 : Int32 → Mm → Option (Unit × Mm)) (x1 : Int32) : Nat → Mm → Option (Unit × Mm)
  | 0, _ => none
  | fu + 1, σ => z_b (f11_is N (6 : Int32) σ) fun r_5 σ_6 =>
  if r_5 = 0 then (
  f11_expression_84 N k12 x1 σ_6) else (
  if (gI σ_6 160 12) = (6 : Int32) then (
  z_b (f11_fail N (2 : Int32) σ_6) fun _ σ_77 =>
  f11_expression_46 N k12 (fun  σ => f11_expression_23 N k12 x1 fu σ) x1 σ_77) else (
  f11_expression_46 N k12 (fun  σ => f11_expression_23 N k12 x1 fu σ) x1 σ_6))
def f11_expression_12 (N : Nat) (x1 : Int32) : Nat → Int32 → Mm → Option (Unit × Mm)
  | 0, _, _ => none
  | fu + 1, x2, σ => if x2 = 0 then (
  some ((), σ)) else (
  if (gI σ 160 13) = 0 then (
  f11_expression_23 N (fun x2 σ => f11_expression_12 N x1 fu x2 σ) x1 N σ) else (
  some ((), σ)))
def f11_expression (N : Nat) (σ : Mm) : Option (Unit × Mm) :=
  z_l (sI σ 160 51 (0 : Int32)) fun σ_1 =>
  z_l ((gI σ_1 160 12)) fun x1_2 =>
  f11_expression_12 N x1_2 N (1 : Int32) σ_1
set_option maxHeartbeats 4000000 in
set_option maxRecDepth 100000 in
theorem w11_expression_234 (X : Cx p s m args c cX11_expression 3 RX11 G) (hr : meth.sig.returnType = none) (hlk : meth.locks = false) (N : Nat) {x1 : Int32} {k12 : Int32 → Mm → Option (Unit × Mm)} (hk12 : ∀ (x2 : Int32) (σ : Mm) (H : Heap) (locs : List Loc) (ls : Array Slot), k12 x2 σ = some (u0, σ0) → Rp G 212 tt σ s H locs → lv_has ls 3 [(0, .ref (G.2.2 + 160)), (1, .int x1), (2, .int x2)] → W p l e rm11_expression s m args below meth c H locs 0 0 (MQ below (P_v G 212 tt u0 σ0) args s 0 0 (Fr G)) (F0 m 12 ls [])) :
    ∀ (x2 : Int32) (s1 : Int32) (σ : Mm) (H : Heap) (locs : List Loc) (ls : Array Slot), f11_expression_234 N k12 x1 x2 s1 σ = some (u0, σ0) → Rp G 212 tt σ s H locs → lv_has ls 3 [(0, .ref (G.2.2 + 160)), (1, .int x1), (2, .int x2)] → W p l e rm11_expression s m args below meth c H locs 0 0 (MQ below (P_v G 212 tt u0 σ0) args s 0 0 (Fr G)) (F0 m 234 ls [.int s1, .ref (G.2.2 + 160)]) := by
  have hx := X.1
  have hb := X.2.1
  intro x2 s1 σ H locs ls hf hR hl
  unfold f11_expression_234 at hf
  obtain ⟨r_26, σ_27, hc_28, hf⟩ := z_b_e hf
  refine go_v hR (mv_run (As := [.int s1]) (rest := []) X hR mv_11_332 kh_160 (kd_lt kh_160 (by decide)) (c11_comesOut l G N hc_28) ⟨rfl, rfl, Nat.le_of_ble_eq_true rfl, Nat.le_of_ble_eq_true rfl⟩ rfl hl.1 rfl (Nat.le_of_ble_eq_true rfl) dX11_expression_234 ⟨Nat.zero_le _, Nat.zero_le _⟩) (fun H locs hR => ?_)
  refine lv_aload_n hx hb dX11_expression_237 rfl (lv_at hl 0 rfl) ?_
  refine r_gs (t := 195) X hR fr_11_122 kh_160 (sx_11_50 kh_160) dX11_expression_238 ?_
  refine lv_aload_n hx hb dX11_expression_241 rfl (lv_at hl 0 rfl) ?_
  refine r_gi X hR fi_11_323 kh_160 dX11_expression_242 ?_
  refine lv_aload_n hx hb dX11_expression_245 rfl (lv_at hl 0 rfl) ?_
  refine r_gs (t := 163) X hR fr_11_20 kh_160 (sx_11_5 kh_160) dX11_expression_246 ?_
  refine lv_aload_n hx hb dX11_expression_249 rfl (lv_at hl 0 rfl) ?_
  refine r_gi X hR fi_11_227 kh_160 dX11_expression_250 ?_
  obtain ⟨hi_29, hf⟩ := z_c_e hf
  refine r_ial X hR ka_163 hi_29 dX11_expression_253 ?_
  obtain ⟨hi_30, hf⟩ := z_c_e hf
  refine r_ias X hR ka_195 hi_30 dX11_expression_254 (fun H locs σ_31 eσ_31 hR => ?_)
  replace hf := z_l_e eσ_31 hf
  refine lv_aload_n hx hb dX11_expression_255 rfl (lv_at hl 0 rfl) ?_
  refine lv_dup hx hb dX11_expression_256 rfl ?_
  refine r_gi X hR fi_11_323 kh_160 dX11_expression_257 ?_
  refine lv_iconst (v := (1 : Int32)) hx hb dX11_expression_260 (by decide) ?_
  refine lv_iadd hx hb dX11_expression_261 ?_
  refine r_pi X hR pi_11_323 kh_160 dX11_expression_262 (fun H locs σ_32 eσ_32 hR => ?_)
  replace hf := z_l_e eσ_32 hf
  refine lv_aload_n hx hb dX11_expression_265 rfl (lv_at hl 0 rfl) ?_
  obtain ⟨r_33, σ_34, hc_35, hf⟩ := z_b_e hf
  refine go_v hR (mv_run (As := []) (rest := []) X hR mv_11_245 kh_160 (kd_lt kh_160 (by decide)) (c11_goesOn l G N hc_35) ⟨rfl, rfl, Nat.le_of_ble_eq_true rfl, Nat.le_of_ble_eq_true rfl⟩ rfl hl.1 rfl (Nat.le_of_ble_eq_true rfl) dX11_expression_266 ⟨Nat.zero_le _, Nat.zero_le _⟩) (fun H locs hR => ?_)
  refine lv_goto (tgt := 12) hx hb dX11_expression_269 (by decide) ?_
  exact hk12 x2 σ_34 _ _ _ hf hR (lv_sub hl [0, 1, 2] rfl)
set_option maxHeartbeats 4000000 in
set_option maxRecDepth 100000 in
theorem w11_expression_229 (X : Cx p s m args c cX11_expression 3 RX11 G) (hr : meth.sig.returnType = none) (hlk : meth.locks = false) (N : Nat) {x1 : Int32} {k12 : Int32 → Mm → Option (Unit × Mm)} (hk12 : ∀ (x2 : Int32) (σ : Mm) (H : Heap) (locs : List Loc) (ls : Array Slot), k12 x2 σ = some (u0, σ0) → Rp G 212 tt σ s H locs → lv_has ls 3 [(0, .ref (G.2.2 + 160)), (1, .int x1), (2, .int x2)] → W p l e rm11_expression s m args below meth c H locs 0 0 (MQ below (P_v G 212 tt u0 σ0) args s 0 0 (Fr G)) (F0 m 12 ls [])) :
    ∀ (x2 : Int32) (σ : Mm) (H : Heap) (locs : List Loc) (ls : Array Slot), f11_expression_229 N k12 x1 x2 σ = some (u0, σ0) → Rp G 212 tt σ s H locs → lv_has ls 3 [(0, .ref (G.2.2 + 160)), (1, .int x1), (2, .int x2)] → W p l e rm11_expression s m args below meth c H locs 0 0 (MQ below (P_v G 212 tt u0 σ0) args s 0 0 (Fr G)) (F0 m 229 ls [.ref (G.2.2 + 160)]) := by
  have hx := X.1
  have hb := X.2.1
  intro x2 σ H locs ls hf hR hl
  unfold f11_expression_229 at hf
  refine lv_iconst (v := (1 : Int32)) hx hb dX11_expression_229 (by decide) ?_
  refine lv_goto (tgt := 234) hx hb dX11_expression_230 (by decide) ?_
  exact w11_expression_234 X hr hlk N hk12 x2 (1 : Int32) σ _ _ _ hf hR (lv_sub hl [0, 1, 2] rfl)
set_option maxHeartbeats 4000000 in
set_option maxRecDepth 100000 in
theorem w11_expression_204 (X : Cx p s m args c cX11_expression 3 RX11 G) (hr : meth.sig.returnType = none) (hlk : meth.locks = false) (N : Nat) :
    ∀ (σ : Mm) (H : Heap) (locs : List Loc) (ls : Array Slot), f11_expression_204 N σ = some (u0, σ0) → Rp G 212 tt σ s H locs → lv_has ls 3 [(0, .ref (G.2.2 + 160))] → W p l e rm11_expression s m args below meth c H locs 0 0 (MQ below (P_v G 212 tt u0 σ0) args s 0 0 (Fr G)) (F0 m 204 ls []) := by
  have hx := X.1
  have hb := X.2.1
  intro σ H locs ls hf hR hl
  unfold f11_expression_204 at hf
  refine lv_aload_n hx hb dX11_expression_204 rfl (lv_at hl 0 rfl) ?_
  refine lv_iconst (v := (0 : Int32)) hx hb dX11_expression_205 (by decide) ?_
  obtain ⟨r_41, σ_42, hc_43, hf⟩ := z_b_e hf
  refine go_v hR (mv_run (As := [.int (0 : Int32)]) (rest := []) X hR mv_11_332 kh_160 (kd_lt kh_160 (by decide)) (c11_comesOut l G N hc_43) ⟨rfl, rfl, Nat.le_of_ble_eq_true rfl, Nat.le_of_ble_eq_true rfl⟩ rfl hl.1 rfl (Nat.le_of_ble_eq_true rfl) dX11_expression_206 ⟨Nat.zero_le _, Nat.zero_le _⟩) (fun H locs hR => ?_)
  exact e_v X hR hr hlk hf dX11_expression_209
set_option maxHeartbeats 4000000 in
set_option maxRecDepth 100000 in
theorem w11_expression_191 (X : Cx p s m args c cX11_expression 3 RX11 G) (hr : meth.sig.returnType = none) (hlk : meth.locks = false) (N : Nat) :
    ∀ (x1 : Int32) (σ : Mm) (H : Heap) (locs : List Loc) (ls : Array Slot), f11_expression_191 N x1 σ = some (u0, σ0) → Rp G 212 tt σ s H locs → lv_has ls 3 [(0, .ref (G.2.2 + 160)), (1, .int x1)] → W p l e rm11_expression s m args below meth c H locs 0 0 (MQ below (P_v G 212 tt u0 σ0) args s 0 0 (Fr G)) (F0 m 191 ls []) := by
  have hx := X.1
  have hb := X.2.1
  intro x1 σ H locs ls hf hR hl
  unfold f11_expression_191 at hf
  refine lv_aload_n hx hb dX11_expression_191 rfl (lv_at hl 0 rfl) ?_
  refine r_gi X hR fi_11_251 kh_160 dX11_expression_192 ?_
  refine lv_iload_n hx hb dX11_expression_195 rfl (lv_at hl 1 rfl) ?_
  refine lv_icmp_le (tgt := 204) hx hb dX11_expression_196 (by decide) (fun c_40 => ?_) (fun c_40 => ?_)
  · replace hf := z_t c_40 hf
    exact w11_expression_204 X hr hlk N   σ _ _ _ hf hR (lv_sub hl [0] rfl)
  · replace hf := z_f c_40 hf
    refine lv_aload_n hx hb dX11_expression_199 rfl (lv_at hl 0 rfl) ?_
    refine lv_iconst (v := (1 : Int32)) hx hb dX11_expression_200 (by decide) ?_
    obtain ⟨r_44, σ_45, hc_46, hf⟩ := z_b_e hf
    refine go_v hR (mv_run (As := [.int (1 : Int32)]) (rest := []) X hR mv_11_239 kh_160 (kd_lt kh_160 (by decide)) (c11_fail l G N hc_46) ⟨rfl, rfl, Nat.le_of_ble_eq_true rfl, Nat.le_of_ble_eq_true rfl⟩ rfl hl.1 rfl (Nat.le_of_ble_eq_true rfl) dX11_expression_201 ⟨Nat.zero_le _, Nat.zero_le _⟩) (fun H locs hR => ?_)
    exact w11_expression_204 X hr hlk N   σ_45 _ _ _ hf hR (lv_sub hl [0] rfl)
set_option maxHeartbeats 4000000 in
set_option maxRecDepth 100000 in
theorem w11_expression_186 (X : Cx p s m args c cX11_expression 3 RX11 G) (hr : meth.sig.returnType = none) (hlk : meth.locks = false) (N : Nat) {x1 : Int32} {k12 : Int32 → Mm → Option (Unit × Mm)} (hk12 : ∀ (x2 : Int32) (σ : Mm) (H : Heap) (locs : List Loc) (ls : Array Slot), k12 x2 σ = some (u0, σ0) → Rp G 212 tt σ s H locs → lv_has ls 3 [(0, .ref (G.2.2 + 160)), (1, .int x1), (2, .int x2)] → W p l e rm11_expression s m args below meth c H locs 0 0 (MQ below (P_v G 212 tt u0 σ0) args s 0 0 (Fr G)) (F0 m 12 ls [])) :
    ∀ (s0 : Int32) (σ : Mm) (H : Heap) (locs : List Loc) (ls : Array Slot), f11_expression_186 N k12 x1 s0 σ = some (u0, σ0) → Rp G 212 tt σ s H locs → lv_has ls 3 [(0, .ref (G.2.2 + 160)), (1, .int x1)] → W p l e rm11_expression s m args below meth c H locs 0 0 (MQ below (P_v G 212 tt u0 σ0) args s 0 0 (Fr G)) (F0 m 186 ls [.int s0]) := by
  have hx := X.1
  have hb := X.2.1
  intro s0 σ H locs ls hf hR hl
  unfold f11_expression_186 at hf
  refine lv_istore_n (lv' := [(2, .int s0), (0, .ref (G.2.2 + 160)), (1, .int x1)]) hx hb dX11_expression_186 rfl hl (by decide) rfl (fun ls hl => ?_)
  refine lv_iload_n hx hb dX11_expression_187 rfl (lv_at hl 0 rfl) ?_
  refine lv_if_ne (tgt := 210) hx hb dX11_expression_188 (by decide) (fun c_21 => ?_) (fun c_21 => ?_)
  · replace hf := z_f c_21 hf
    refine lv_aload_n hx hb dX11_expression_210 rfl (lv_at hl 1 rfl) ?_
    refine lv_aload_n hx hb dX11_expression_211 rfl (lv_at hl 1 rfl) ?_
    refine lv_bipush (v := (10 : Int32)) hx hb dX11_expression_212 (by decide) ?_
    obtain ⟨r_22, σ_23, hc_24, hf⟩ := z_b_e hf
    refine go_i hR (mv_run (As := [.int (10 : Int32)]) (rest := [.ref (G.2.2 + 160)]) X hR mv_11_242 kh_160 (kd_lt kh_160 (by decide)) (c11_is l G N hc_24) ⟨rfl, rfl, Nat.le_of_ble_eq_true rfl, Nat.le_of_ble_eq_true rfl⟩ rfl hl.1 rfl (Nat.le_of_ble_eq_true rfl) dX11_expression_214 ⟨Nat.zero_le _, Nat.zero_le _⟩) (fun H locs hR => ?_)
    refine lv_if_ne (tgt := 229) hx hb dX11_expression_217 (by decide) (fun c_25 => ?_) (fun c_25 => ?_)
    · replace hf := z_f c_25 hf
      exact w11_expression_229 X hr hlk N hk12 s0 σ_23 _ _ _ hf hR (lv_sub hl [1, 2, 0] rfl)
    · replace hf := z_t c_25 hf
      refine lv_aload_n hx hb dX11_expression_220 rfl (lv_at hl 1 rfl) ?_
      refine lv_bipush (v := (15 : Int32)) hx hb dX11_expression_221 (by decide) ?_
      obtain ⟨r_36, σ_37, hc_38, hf⟩ := z_b_e hf
      refine go_i hR (mv_run (As := [.int (15 : Int32)]) (rest := [.ref (G.2.2 + 160)]) X hR mv_11_242 kh_160 (kd_lt kh_160 (by decide)) (c11_is l G N hc_38) ⟨rfl, rfl, Nat.le_of_ble_eq_true rfl, Nat.le_of_ble_eq_true rfl⟩ rfl hl.1 rfl (Nat.le_of_ble_eq_true rfl) dX11_expression_223 ⟨Nat.zero_le _, Nat.zero_le _⟩) (fun H locs hR => ?_)
      refine lv_if_eq (tgt := 233) hx hb dX11_expression_226 (by decide) (fun c_39 => ?_) (fun c_39 => ?_)
      · replace hf := z_t c_39 hf
        refine lv_iconst (v := (0 : Int32)) hx hb dX11_expression_233 (by decide) ?_
        exact w11_expression_234 X hr hlk N hk12 s0 (0 : Int32) σ_37 _ _ _ hf hR (lv_sub hl [1, 2, 0] rfl)
      · replace hf := z_f c_39 hf
        exact w11_expression_229 X hr hlk N hk12 s0 σ_37 _ _ _ hf hR (lv_sub hl [1, 2, 0] rfl)
  · replace hf := z_t c_21 hf
    exact w11_expression_191 X hr hlk N  x1 σ _ _ _ hf hR (lv_sub hl [1, 2] rfl)
set_option maxHeartbeats 4000000 in
set_option maxRecDepth 100000 in
theorem w11_expression_181 (X : Cx p s m args c cX11_expression 3 RX11 G) (hr : meth.sig.returnType = none) (hlk : meth.locks = false) (N : Nat) {x1 : Int32} {k12 : Int32 → Mm → Option (Unit × Mm)} (hk12 : ∀ (x2 : Int32) (σ : Mm) (H : Heap) (locs : List Loc) (ls : Array Slot), k12 x2 σ = some (u0, σ0) → Rp G 212 tt σ s H locs → lv_has ls 3 [(0, .ref (G.2.2 + 160)), (1, .int x1), (2, .int x2)] → W p l e rm11_expression s m args below meth c H locs 0 0 (MQ below (P_v G 212 tt u0 σ0) args s 0 0 (Fr G)) (F0 m 12 ls [])) :
    ∀ (σ : Mm) (H : Heap) (locs : List Loc) (ls : Array Slot), f11_expression_181 N k12 x1 σ = some (u0, σ0) → Rp G 212 tt σ s H locs → lv_has ls 3 [(0, .ref (G.2.2 + 160)), (1, .int x1)] → W p l e rm11_expression s m args below meth c H locs 0 0 (MQ below (P_v G 212 tt u0 σ0) args s 0 0 (Fr G)) (F0 m 181 ls []) := by
  have hx := X.1
  have hb := X.2.1
  intro σ H locs ls hf hR hl
  unfold f11_expression_181 at hf
  refine lv_iconst (v := (1 : Int32)) hx hb dX11_expression_181 (by decide) ?_
  refine lv_goto (tgt := 186) hx hb dX11_expression_182 (by decide) ?_
  exact w11_expression_186 X hr hlk N hk12 (1 : Int32) σ _ _ _ hf hR (lv_sub hl [0, 1] rfl)
set_option maxHeartbeats 4000000 in
set_option maxRecDepth 100000 in
theorem w11_expression_145 (X : Cx p s m args c cX11_expression 3 RX11 G) (hr : meth.sig.returnType = none) (hlk : meth.locks = false) (N : Nat) {x1 : Int32} {k12 : Int32 → Mm → Option (Unit × Mm)} (hk12 : ∀ (x2 : Int32) (σ : Mm) (H : Heap) (locs : List Loc) (ls : Array Slot), k12 x2 σ = some (u0, σ0) → Rp G 212 tt σ s H locs → lv_has ls 3 [(0, .ref (G.2.2 + 160)), (1, .int x1), (2, .int x2)] → W p l e rm11_expression s m args below meth c H locs 0 0 (MQ below (P_v G 212 tt u0 σ0) args s 0 0 (Fr G)) (F0 m 12 ls [])) :
    ∀ (σ : Mm) (H : Heap) (locs : List Loc) (ls : Array Slot), f11_expression_145 N k12 x1 σ = some (u0, σ0) → Rp G 212 tt σ s H locs → lv_has ls 3 [(0, .ref (G.2.2 + 160)), (1, .int x1)] → W p l e rm11_expression s m args below meth c H locs 0 0 (MQ below (P_v G 212 tt u0 σ0) args s 0 0 (Fr G)) (F0 m 145 ls []) := by
  have hx := X.1
  have hb := X.2.1
  intro σ H locs ls hf hR hl
  unfold f11_expression_145 at hf
  refine lv_aload_n hx hb dX11_expression_145 rfl (lv_at hl 0 rfl) ?_
  refine lv_bipush (v := (8 : Int32)) hx hb dX11_expression_146 (by decide) ?_
  obtain ⟨r_17, σ_18, hc_19, hf⟩ := z_b_e hf
  refine go_i hR (mv_run (As := [.int (8 : Int32)]) (rest := []) X hR mv_11_242 kh_160 (kd_lt kh_160 (by decide)) (c11_is l G N hc_19) ⟨rfl, rfl, Nat.le_of_ble_eq_true rfl, Nat.le_of_ble_eq_true rfl⟩ rfl hl.1 rfl (Nat.le_of_ble_eq_true rfl) dX11_expression_148 ⟨Nat.zero_le _, Nat.zero_le _⟩) (fun H locs hR => ?_)
  refine lv_if_ne (tgt := 181) hx hb dX11_expression_151 (by decide) (fun c_20 => ?_) (fun c_20 => ?_)
  · replace hf := z_f c_20 hf
    exact w11_expression_181 X hr hlk N hk12  σ_18 _ _ _ hf hR (lv_sub hl [0, 1] rfl)
  · replace hf := z_t c_20 hf
    refine lv_aload_n hx hb dX11_expression_154 rfl (lv_at hl 0 rfl) ?_
    refine lv_bipush (v := (9 : Int32)) hx hb dX11_expression_155 (by decide) ?_
    obtain ⟨r_47, σ_48, hc_49, hf⟩ := z_b_e hf
    refine go_i hR (mv_run (As := [.int (9 : Int32)]) (rest := []) X hR mv_11_242 kh_160 (kd_lt kh_160 (by decide)) (c11_is l G N hc_49) ⟨rfl, rfl, Nat.le_of_ble_eq_true rfl, Nat.le_of_ble_eq_true rfl⟩ rfl hl.1 rfl (Nat.le_of_ble_eq_true rfl) dX11_expression_157 ⟨Nat.zero_le _, Nat.zero_le _⟩) (fun H locs hR => ?_)
    refine lv_if_ne (tgt := 181) hx hb dX11_expression_160 (by decide) (fun c_50 => ?_) (fun c_50 => ?_)
    · replace hf := z_f c_50 hf
      exact w11_expression_181 X hr hlk N hk12  σ_48 _ _ _ hf hR (lv_sub hl [0, 1] rfl)
    · replace hf := z_t c_50 hf
      refine lv_aload_n hx hb dX11_expression_163 rfl (lv_at hl 0 rfl) ?_
      refine lv_bipush (v := (10 : Int32)) hx hb dX11_expression_164 (by decide) ?_
      obtain ⟨r_51, σ_52, hc_53, hf⟩ := z_b_e hf
      refine go_i hR (mv_run (As := [.int (10 : Int32)]) (rest := []) X hR mv_11_242 kh_160 (kd_lt kh_160 (by decide)) (c11_is l G N hc_53) ⟨rfl, rfl, Nat.le_of_ble_eq_true rfl, Nat.le_of_ble_eq_true rfl⟩ rfl hl.1 rfl (Nat.le_of_ble_eq_true rfl) dX11_expression_166 ⟨Nat.zero_le _, Nat.zero_le _⟩) (fun H locs hR => ?_)
      refine lv_if_ne (tgt := 181) hx hb dX11_expression_169 (by decide) (fun c_54 => ?_) (fun c_54 => ?_)
      · replace hf := z_f c_54 hf
        exact w11_expression_181 X hr hlk N hk12  σ_52 _ _ _ hf hR (lv_sub hl [0, 1] rfl)
      · replace hf := z_t c_54 hf
        refine lv_aload_n hx hb dX11_expression_172 rfl (lv_at hl 0 rfl) ?_
        refine lv_bipush (v := (15 : Int32)) hx hb dX11_expression_173 (by decide) ?_
        obtain ⟨r_55, σ_56, hc_57, hf⟩ := z_b_e hf
        refine go_i hR (mv_run (As := [.int (15 : Int32)]) (rest := []) X hR mv_11_242 kh_160 (kd_lt kh_160 (by decide)) (c11_is l G N hc_57) ⟨rfl, rfl, Nat.le_of_ble_eq_true rfl, Nat.le_of_ble_eq_true rfl⟩ rfl hl.1 rfl (Nat.le_of_ble_eq_true rfl) dX11_expression_175 ⟨Nat.zero_le _, Nat.zero_le _⟩) (fun H locs hR => ?_)
        refine lv_if_eq (tgt := 185) hx hb dX11_expression_178 (by decide) (fun c_58 => ?_) (fun c_58 => ?_)
        · replace hf := z_t c_58 hf
          refine lv_iconst (v := (0 : Int32)) hx hb dX11_expression_185 (by decide) ?_
          exact w11_expression_186 X hr hlk N hk12 (0 : Int32) σ_56 _ _ _ hf hR (lv_sub hl [0, 1] rfl)
        · replace hf := z_f c_58 hf
          exact w11_expression_181 X hr hlk N hk12  σ_56 _ _ _ hf hR (lv_sub hl [0, 1] rfl)
set_option maxHeartbeats 4000000 in
set_option maxRecDepth 100000 in
theorem w11_expression_96 (X : Cx p s m args c cX11_expression 3 RX11 G) (hr : meth.sig.returnType = none) (hlk : meth.locks = false) (N : Nat) {x1 : Int32} {k12 : Int32 → Mm → Option (Unit × Mm)} (hk12 : ∀ (x2 : Int32) (σ : Mm) (H : Heap) (locs : List Loc) (ls : Array Slot), k12 x2 σ = some (u0, σ0) → Rp G 212 tt σ s H locs → lv_has ls 3 [(0, .ref (G.2.2 + 160)), (1, .int x1), (2, .int x2)] → W p l e rm11_expression s m args below meth c H locs 0 0 (MQ below (P_v G 212 tt u0 σ0) args s 0 0 (Fr G)) (F0 m 12 ls [])) :
    ∀ (fu : Nat) (σ : Mm) (H : Heap) (locs : List Loc) (ls : Array Slot), f11_expression_96 N k12 x1 fu σ = some (u0, σ0) → Rp G 212 tt σ s H locs → lv_has ls 3 [(0, .ref (G.2.2 + 160)), (1, .int x1)] → W p l e rm11_expression s m args below meth c H locs 0 0 (MQ below (P_v G 212 tt u0 σ0) args s 0 0 (Fr G)) (F0 m 96 ls []) := by
  have hx := X.1
  have hb := X.2.1
  intro fu
  induction fu with
  | zero =>
    intro σ H locs ls hf hR hl
    rw [f11_expression_96] at hf
    cases hf
  | succ fu ih =>
    intro σ H locs ls hf hR hl
    rw [f11_expression_96] at hf
    refine lv_aload_n hx hb dX11_expression_96 rfl (lv_at hl 0 rfl) ?_
    refine lv_bipush (v := (7 : Int32)) hx hb dX11_expression_97 (by decide) ?_
    obtain ⟨r_13, σ_14, hc_15, hf⟩ := z_b_e hf
    refine go_i hR (mv_run (As := [.int (7 : Int32)]) (rest := []) X hR mv_11_242 kh_160 (kd_lt kh_160 (by decide)) (c11_is l G N hc_15) ⟨rfl, rfl, Nat.le_of_ble_eq_true rfl, Nat.le_of_ble_eq_true rfl⟩ rfl hl.1 rfl (Nat.le_of_ble_eq_true rfl) dX11_expression_99 ⟨Nat.zero_le _, Nat.zero_le _⟩) (fun H locs hR => ?_)
    refine lv_if_eq (tgt := 145) hx hb dX11_expression_102 (by decide) (fun c_16 => ?_) (fun c_16 => ?_)
    · replace hf := z_t c_16 hf
      exact w11_expression_145 X hr hlk N hk12  σ_14 _ _ _ hf hR (lv_sub hl [0, 1] rfl)
    · replace hf := z_f c_16 hf
      refine lv_aload_n hx hb dX11_expression_105 rfl (lv_at hl 0 rfl) ?_
      refine r_gi X hR fi_11_251 kh_160 dX11_expression_106 ?_
      refine lv_iload_n hx hb dX11_expression_109 rfl (lv_at hl 1 rfl) ?_
      refine lv_icmp_le (tgt := 145) hx hb dX11_expression_110 (by decide) (fun c_59 => ?_) (fun c_59 => ?_)
      · replace hf := z_t c_59 hf
        exact w11_expression_145 X hr hlk N hk12  σ_14 _ _ _ hf hR (lv_sub hl [0, 1] rfl)
      · replace hf := z_f c_59 hf
        refine lv_aload_n hx hb dX11_expression_113 rfl (lv_at hl 0 rfl) ?_
        refine lv_iconst (v := (0 : Int32)) hx hb dX11_expression_114 (by decide) ?_
        obtain ⟨r_60, σ_61, hc_62, hf⟩ := z_b_e hf
        refine go_v hR (mv_run (As := [.int (0 : Int32)]) (rest := []) X hR mv_11_332 kh_160 (kd_lt kh_160 (by decide)) (c11_comesOut l G N hc_62) ⟨rfl, rfl, Nat.le_of_ble_eq_true rfl, Nat.le_of_ble_eq_true rfl⟩ rfl hl.1 rfl (Nat.le_of_ble_eq_true rfl) dX11_expression_115 ⟨Nat.zero_le _, Nat.zero_le _⟩) (fun H locs hR => ?_)
        refine lv_aload_n hx hb dX11_expression_118 rfl (lv_at hl 0 rfl) ?_
        refine lv_dup hx hb dX11_expression_119 rfl ?_
        refine r_gi X hR fi_11_323 kh_160 dX11_expression_120 ?_
        refine lv_iconst (v := (1 : Int32)) hx hb dX11_expression_123 (by decide) ?_
        refine lv_isub hx hb dX11_expression_124 ?_
        refine r_pi X hR pi_11_323 kh_160 dX11_expression_125 (fun H locs σ_63 eσ_63 hR => ?_)
        replace hf := z_l_e eσ_63 hf
        refine lv_aload_n hx hb dX11_expression_128 rfl (lv_at hl 0 rfl) ?_
        refine lv_dup hx hb dX11_expression_129 rfl ?_
        refine r_gi X hR fi_11_251 kh_160 dX11_expression_130 ?_
        refine lv_iconst (v := (1 : Int32)) hx hb dX11_expression_133 (by decide) ?_
        refine lv_isub hx hb dX11_expression_134 ?_
        refine r_pi X hR pi_11_251 kh_160 dX11_expression_135 (fun H locs σ_64 eσ_64 hR => ?_)
        replace hf := z_l_e eσ_64 hf
        refine lv_aload_n hx hb dX11_expression_138 rfl (lv_at hl 0 rfl) ?_
        obtain ⟨r_65, σ_66, hc_67, hf⟩ := z_b_e hf
        refine go_v hR (mv_run (As := []) (rest := []) X hR mv_11_245 kh_160 (kd_lt kh_160 (by decide)) (c11_goesOn l G N hc_67) ⟨rfl, rfl, Nat.le_of_ble_eq_true rfl, Nat.le_of_ble_eq_true rfl⟩ rfl hl.1 rfl (Nat.le_of_ble_eq_true rfl) dX11_expression_139 ⟨Nat.zero_le _, Nat.zero_le _⟩) (fun H locs hR => ?_)
        refine lv_goto (tgt := 96) hx hb dX11_expression_142 (by decide) ?_
        exact ih  σ_66 _ _ _ hf hR (lv_sub hl [0, 1] rfl)
set_option maxHeartbeats 4000000 in
set_option maxRecDepth 100000 in
theorem w11_expression_84 (X : Cx p s m args c cX11_expression 3 RX11 G) (hr : meth.sig.returnType = none) (hlk : meth.locks = false) (N : Nat) {x1 : Int32} {k12 : Int32 → Mm → Option (Unit × Mm)} (hk12 : ∀ (x2 : Int32) (σ : Mm) (H : Heap) (locs : List Loc) (ls : Array Slot), k12 x2 σ = some (u0, σ0) → Rp G 212 tt σ s H locs → lv_has ls 3 [(0, .ref (G.2.2 + 160)), (1, .int x1), (2, .int x2)] → W p l e rm11_expression s m args below meth c H locs 0 0 (MQ below (P_v G 212 tt u0 σ0) args s 0 0 (Fr G)) (F0 m 12 ls [])) :
    ∀ (σ : Mm) (H : Heap) (locs : List Loc) (ls : Array Slot), f11_expression_84 N k12 x1 σ = some (u0, σ0) → Rp G 212 tt σ s H locs → lv_has ls 3 [(0, .ref (G.2.2 + 160)), (1, .int x1)] → W p l e rm11_expression s m args below meth c H locs 0 0 (MQ below (P_v G 212 tt u0 σ0) args s 0 0 (Fr G)) (F0 m 84 ls []) := by
  have hx := X.1
  have hb := X.2.1
  intro σ H locs ls hf hR hl
  unfold f11_expression_84 at hf
  refine lv_aload_n hx hb dX11_expression_84 rfl (lv_at hl 0 rfl) ?_
  obtain ⟨r_9, σ_10, hc_11, hf⟩ := z_b_e hf
  refine go_v hR (mv_run (As := []) (rest := []) X hR mv_11_329 kh_160 (kd_lt kh_160 (by decide)) (c11_unit l G N hc_11) ⟨rfl, rfl, Nat.le_of_ble_eq_true rfl, Nat.le_of_ble_eq_true rfl⟩ rfl hl.1 rfl (Nat.le_of_ble_eq_true rfl) dX11_expression_85 ⟨Nat.zero_le _, Nat.zero_le _⟩) (fun H locs hR => ?_)
  refine lv_aload_n hx hb dX11_expression_88 rfl (lv_at hl 0 rfl) ?_
  refine r_gi X hR fi_11_224 kh_160 dX11_expression_89 ?_
  refine lv_if_le (tgt := 96) hx hb dX11_expression_92 (by decide) (fun c_12 => ?_) (fun c_12 => ?_)
  · replace hf := z_t c_12 hf
    exact w11_expression_96 X hr hlk N hk12 N  σ_10 _ _ _ hf hR (lv_sub hl [0, 1] rfl)
  · replace hf := z_f c_12 hf
    exact e_v X hR hr hlk hf dX11_expression_95
set_option maxHeartbeats 4000000 in
set_option maxRecDepth 100000 in
theorem w11_expression_46 (X : Cx p s m args c cX11_expression 3 RX11 G) (hr : meth.sig.returnType = none) (hlk : meth.locks = false) (N : Nat) {x1 : Int32} {k12 : Int32 → Mm → Option (Unit × Mm)} (hk12 : ∀ (x2 : Int32) (σ : Mm) (H : Heap) (locs : List Loc) (ls : Array Slot), k12 x2 σ = some (u0, σ0) → Rp G 212 tt σ s H locs → lv_has ls 3 [(0, .ref (G.2.2 + 160)), (1, .int x1), (2, .int x2)] → W p l e rm11_expression s m args below meth c H locs 0 0 (MQ below (P_v G 212 tt u0 σ0) args s 0 0 (Fr G)) (F0 m 12 ls [])) {k23 : Mm → Option (Unit × Mm)} (hk23 : ∀ (σ : Mm) (H : Heap) (locs : List Loc) (ls : Array Slot), k23  σ = some (u0, σ0) → Rp G 212 tt σ s H locs → lv_has ls 3 [(0, .ref (G.2.2 + 160)), (1, .int x1)] → W p l e rm11_expression s m args below meth c H locs 0 0 (MQ below (P_v G 212 tt u0 σ0) args s 0 0 (Fr G)) (F0 m 23 ls [])) :
    ∀ (σ : Mm) (H : Heap) (locs : List Loc) (ls : Array Slot), f11_expression_46 N k12 k23 x1 σ = some (u0, σ0) → Rp G 212 tt σ s H locs → lv_has ls 3 [(0, .ref (G.2.2 + 160)), (1, .int x1)] → W p l e rm11_expression s m args below meth c H locs 0 0 (MQ below (P_v G 212 tt u0 σ0) args s 0 0 (Fr G)) (F0 m 46 ls []) := by
  have hx := X.1
  have hb := X.2.1
  intro σ H locs ls hf hR hl
  unfold f11_expression_46 at hf
  refine lv_aload_n hx hb dX11_expression_46 rfl (lv_at hl 0 rfl) ?_
  refine lv_dup hx hb dX11_expression_47 rfl ?_
  refine r_gi X hR fi_11_251 kh_160 dX11_expression_48 ?_
  refine lv_iconst (v := (1 : Int32)) hx hb dX11_expression_51 (by decide) ?_
  refine lv_iadd hx hb dX11_expression_52 ?_
  refine r_pi X hR pi_11_251 kh_160 dX11_expression_53 (fun H locs σ_69 eσ_69 hR => ?_)
  replace hf := z_l_e eσ_69 hf
  refine lv_aload_n hx hb dX11_expression_56 rfl (lv_at hl 0 rfl) ?_
  obtain ⟨r_70, σ_71, hc_72, hf⟩ := z_b_e hf
  refine go_v hR (mv_run (As := []) (rest := []) X hR mv_11_245 kh_160 (kd_lt kh_160 (by decide)) (c11_goesOn l G N hc_72) ⟨rfl, rfl, Nat.le_of_ble_eq_true rfl, Nat.le_of_ble_eq_true rfl⟩ rfl hl.1 rfl (Nat.le_of_ble_eq_true rfl) dX11_expression_57 ⟨Nat.zero_le _, Nat.zero_le _⟩) (fun H locs hR => ?_)
  refine lv_aload_n hx hb dX11_expression_60 rfl (lv_at hl 0 rfl) ?_
  refine r_gs (t := 195) X hR fr_11_122 kh_160 (sx_11_50 kh_160) dX11_expression_61 ?_
  refine lv_aload_n hx hb dX11_expression_64 rfl (lv_at hl 0 rfl) ?_
  refine r_gi X hR fi_11_323 kh_160 dX11_expression_65 ?_
  refine lv_bipush (v := (6 : Int32)) hx hb dX11_expression_68 (by decide) ?_
  obtain ⟨hi_73, hf⟩ := z_c_e hf
  refine r_ias X hR ka_195 hi_73 dX11_expression_70 (fun H locs σ_74 eσ_74 hR => ?_)
  replace hf := z_l_e eσ_74 hf
  refine lv_aload_n hx hb dX11_expression_71 rfl (lv_at hl 0 rfl) ?_
  refine lv_dup hx hb dX11_expression_72 rfl ?_
  refine r_gi X hR fi_11_323 kh_160 dX11_expression_73 ?_
  refine lv_iconst (v := (1 : Int32)) hx hb dX11_expression_76 (by decide) ?_
  refine lv_iadd hx hb dX11_expression_77 ?_
  refine r_pi X hR pi_11_323 kh_160 dX11_expression_78 (fun H locs σ_75 eσ_75 hR => ?_)
  replace hf := z_l_e eσ_75 hf
  refine lv_goto (tgt := 23) hx hb dX11_expression_81 (by decide) ?_
  exact hk23  σ_75 _ _ _ hf hR (lv_sub hl [0, 1] rfl)
set_option maxHeartbeats 4000000 in
set_option maxRecDepth 100000 in
theorem w11_expression_23 (X : Cx p s m args c cX11_expression 3 RX11 G) (hr : meth.sig.returnType = none) (hlk : meth.locks = false) (N : Nat) {x1 : Int32} {k12 : Int32 → Mm → Option (Unit × Mm)} (hk12 : ∀ (x2 : Int32) (σ : Mm) (H : Heap) (locs : List Loc) (ls : Array Slot), k12 x2 σ = some (u0, σ0) → Rp G 212 tt σ s H locs → lv_has ls 3 [(0, .ref (G.2.2 + 160)), (1, .int x1), (2, .int x2)] → W p l e rm11_expression s m args below meth c H locs 0 0 (MQ below (P_v G 212 tt u0 σ0) args s 0 0 (Fr G)) (F0 m 12 ls [])) :
    ∀ (fu : Nat) (σ : Mm) (H : Heap) (locs : List Loc) (ls : Array Slot), f11_expression_23 N k12 x1 fu σ = some (u0, σ0) → Rp G 212 tt σ s H locs → lv_has ls 3 [(0, .ref (G.2.2 + 160)), (1, .int x1)] → W p l e rm11_expression s m args below meth c H locs 0 0 (MQ below (P_v G 212 tt u0 σ0) args s 0 0 (Fr G)) (F0 m 23 ls []) := by
  have hx := X.1
  have hb := X.2.1
  intro fu
  induction fu with
  | zero =>
    intro σ H locs ls hf hR hl
    rw [f11_expression_23] at hf
    cases hf
  | succ fu ih =>
    intro σ H locs ls hf hR hl
    rw [f11_expression_23] at hf
    refine lv_aload_n hx hb dX11_expression_23 rfl (lv_at hl 0 rfl) ?_
    refine lv_bipush (v := (6 : Int32)) hx hb dX11_expression_24 (by decide) ?_
    obtain ⟨r_5, σ_6, hc_7, hf⟩ := z_b_e hf
    refine go_i hR (mv_run (As := [.int (6 : Int32)]) (rest := []) X hR mv_11_242 kh_160 (kd_lt kh_160 (by decide)) (c11_is l G N hc_7) ⟨rfl, rfl, Nat.le_of_ble_eq_true rfl, Nat.le_of_ble_eq_true rfl⟩ rfl hl.1 rfl (Nat.le_of_ble_eq_true rfl) dX11_expression_26 ⟨Nat.zero_le _, Nat.zero_le _⟩) (fun H locs hR => ?_)
    refine lv_if_eq (tgt := 84) hx hb dX11_expression_29 (by decide) (fun c_8 => ?_) (fun c_8 => ?_)
    · replace hf := z_t c_8 hf
      exact w11_expression_84 X hr hlk N hk12  σ_6 _ _ _ hf hR (lv_sub hl [0, 1] rfl)
    · replace hf := z_f c_8 hf
      refine lv_aload_n hx hb dX11_expression_32 rfl (lv_at hl 0 rfl) ?_
      refine r_gi X hR fi_11_251 kh_160 dX11_expression_33 ?_
      refine lv_bipush (v := (6 : Int32)) hx hb dX11_expression_36 (by decide) ?_
      refine lv_icmp_ne (tgt := 46) hx hb dX11_expression_38 (by decide) (fun c_68 => ?_) (fun c_68 => ?_)
      · replace hf := z_f c_68 hf
        exact w11_expression_46 X hr hlk N hk12 ih  σ_6 _ _ _ hf hR (lv_sub hl [0, 1] rfl)
      · replace hf := z_t c_68 hf
        refine lv_aload_n hx hb dX11_expression_41 rfl (lv_at hl 0 rfl) ?_
        refine lv_iconst (v := (2 : Int32)) hx hb dX11_expression_42 (by decide) ?_
        obtain ⟨r_76, σ_77, hc_78, hf⟩ := z_b_e hf
        refine go_v hR (mv_run (As := [.int (2 : Int32)]) (rest := []) X hR mv_11_239 kh_160 (kd_lt kh_160 (by decide)) (c11_fail l G N hc_78) ⟨rfl, rfl, Nat.le_of_ble_eq_true rfl, Nat.le_of_ble_eq_true rfl⟩ rfl hl.1 rfl (Nat.le_of_ble_eq_true rfl) dX11_expression_43 ⟨Nat.zero_le _, Nat.zero_le _⟩) (fun H locs hR => ?_)
        exact w11_expression_46 X hr hlk N hk12 ih  σ_77 _ _ _ hf hR (lv_sub hl [0, 1] rfl)
set_option maxHeartbeats 4000000 in
set_option maxRecDepth 100000 in
theorem w11_expression_12 (X : Cx p s m args c cX11_expression 3 RX11 G) (hr : meth.sig.returnType = none) (hlk : meth.locks = false) (N : Nat) {x1 : Int32} :
    ∀ (fu : Nat) (x2 : Int32) (σ : Mm) (H : Heap) (locs : List Loc) (ls : Array Slot), f11_expression_12 N x1 fu x2 σ = some (u0, σ0) → Rp G 212 tt σ s H locs → lv_has ls 3 [(0, .ref (G.2.2 + 160)), (1, .int x1), (2, .int x2)] → W p l e rm11_expression s m args below meth c H locs 0 0 (MQ below (P_v G 212 tt u0 σ0) args s 0 0 (Fr G)) (F0 m 12 ls []) := by
  have hx := X.1
  have hb := X.2.1
  intro fu
  induction fu with
  | zero =>
    intro x2 σ H locs ls hf hR hl
    rw [f11_expression_12] at hf
    cases hf
  | succ fu ih =>
    intro x2 σ H locs ls hf hR hl
    rw [f11_expression_12] at hf
    refine lv_iload_n hx hb dX11_expression_12 rfl (lv_at hl 2 rfl) ?_
    refine lv_if_eq (tgt := 272) hx hb dX11_expression_13 (by decide) (fun c_3 => ?_) (fun c_3 => ?_)
    · replace hf := z_t c_3 hf
      exact e_v X hR hr hlk hf dX11_expression_272
    · replace hf := z_f c_3 hf
      refine lv_aload_n hx hb dX11_expression_16 rfl (lv_at hl 0 rfl) ?_
      refine r_gi X hR fi_11_224 kh_160 dX11_expression_17 ?_
      refine lv_if_ne (tgt := 272) hx hb dX11_expression_20 (by decide) (fun c_4 => ?_) (fun c_4 => ?_)
      · replace hf := z_f c_4 hf
        exact e_v X hR hr hlk hf dX11_expression_272
      · replace hf := z_t c_4 hf
        exact w11_expression_23 X hr hlk N ih N  σ _ _ _ hf hR (lv_sub hl [0, 1] rfl)
set_option maxHeartbeats 4000000 in
set_option maxRecDepth 100000 in
theorem c11_expression (l : Launch) (G : Gp) (N : Nat) {σ σ0 : Mm} {u0 : Unit} (hf : f11_expression N σ = some (u0, σ0)) : Met l yX11_expression (WS yX11_expression cX11_expression 3 (none)) rm11_expression (va_Pc [.ref (G.2.2 + 160)] (Pd G 212 tt σ)) (P_v G 212 tt u0 σ0) 0 0 (Fr G) := by
  refine ct [(0, .ref (G.2.2 + 160))] rfl (by decide) (Nat.le_of_ble_eq_true rfl) ?_
  intro p e s m below meth c ls X hr hlk hR hl
  have X : Cx p s m _ c cX11_expression 3 RX11 G := X
  have hx := X.1
  have hb := X.2.1
  unfold f11_expression at hf
  refine lv_aload_n hx hb dX11_expression_0 rfl (lv_at hl 0 rfl) ?_
  refine lv_iconst (v := (0 : Int32)) hx hb dX11_expression_1 (by decide) ?_
  refine r_pi X hR pi_11_323 kh_160 dX11_expression_2 (fun H locs σ_1 eσ_1 hR => ?_)
  replace hf := z_l_e eσ_1 hf
  refine lv_aload_n hx hb dX11_expression_5 rfl (lv_at hl 0 rfl) ?_
  refine r_gi X hR fi_11_251 kh_160 dX11_expression_6 ?_
  refine lv_topi (fun x1_2 ex1_2 => ?_)
  replace hf := z_l_e ex1_2 hf
  refine lv_istore_n (lv' := [(1, .int x1_2), (0, .ref (G.2.2 + 160))]) hx hb dX11_expression_9 rfl hl (by decide) rfl (fun ls hl => ?_)
  refine lv_iconst (v := (1 : Int32)) hx hb dX11_expression_10 (by decide) ?_
  refine lv_istore_n (lv' := [(2, .int (1 : Int32)), (1, .int x1_2), (0, .ref (G.2.2 + 160))]) hx hb dX11_expression_11 rfl hl (by decide) rfl (fun ls hl => ?_)
  exact w11_expression_12 X hr hlk N  N (1 : Int32) σ_1 _ _ _ hf hR (lv_sub hl [2, 1, 0] rfl)
abbrev rm11_term : Room := { frames := 4, cells := 0, slots := 0, locals := 83 }
def f11_term_24 (N : Nat) (σ : Mm) : Option (Unit × Mm) :=
  z_c (inB (gI σ 160 41) 260) (z_l (sI σ 192 (ix (gI σ 160 41)) (gI σ 160 47)) fun σ_5 =>
  z_l (sI σ_5 160 41 ((gI σ_5 160 41) + (1 : Int32))) fun σ_6 =>
  some ((), σ_6))
def f11_term (N : Nat) (σ : Mm) : Option (Unit × Mm) :=
  z_c (inB (gI σ 160 41) 260) (z_l (sI σ 191 (ix (gI σ 160 41)) (gI σ 160 47)) fun σ_2 =>
  if (gI σ_2 160 13) = 0 then (
  z_b (f11_expression N σ_2) fun _ σ_8 =>
  f11_term_24 N σ_8) else (
  f11_term_24 N σ_2))
set_option maxHeartbeats 4000000 in
set_option maxRecDepth 100000 in
theorem w11_term_24 (X : Cx p s m args c cX11_term 1 RX11 G) (hr : meth.sig.returnType = none) (hlk : meth.locks = false) (N : Nat) :
    ∀ (σ : Mm) (H : Heap) (locs : List Loc) (ls : Array Slot), f11_term_24 N σ = some (u0, σ0) → Rp G 212 tt σ s H locs → lv_has ls 1 [(0, .ref (G.2.2 + 160))] → W p l e rm11_term s m args below meth c H locs 0 0 (MQ below (P_v G 212 tt u0 σ0) args s 0 0 (Fr G)) (F0 m 24 ls []) := by
  have hx := X.1
  have hb := X.2.1
  intro σ H locs ls hf hR hl
  unfold f11_term_24 at hf
  refine lv_aload_n hx hb dX11_term_24 rfl (lv_at hl 0 rfl) ?_
  refine r_gs (t := 192) X hR fr_11_113 kh_160 (sx_11_46 kh_160) dX11_term_25 ?_
  refine lv_aload_n hx hb dX11_term_28 rfl (lv_at hl 0 rfl) ?_
  refine r_gi X hR fi_11_263 kh_160 dX11_term_29 ?_
  refine lv_aload_n hx hb dX11_term_32 rfl (lv_at hl 0 rfl) ?_
  refine r_gi X hR fi_11_266 kh_160 dX11_term_33 ?_
  obtain ⟨hi_4, hf⟩ := z_c_e hf
  refine r_ias X hR ka_192 hi_4 dX11_term_36 (fun H locs σ_5 eσ_5 hR => ?_)
  replace hf := z_l_e eσ_5 hf
  refine lv_aload_n hx hb dX11_term_37 rfl (lv_at hl 0 rfl) ?_
  refine lv_dup hx hb dX11_term_38 rfl ?_
  refine r_gi X hR fi_11_263 kh_160 dX11_term_39 ?_
  refine lv_iconst (v := (1 : Int32)) hx hb dX11_term_42 (by decide) ?_
  refine lv_iadd hx hb dX11_term_43 ?_
  refine r_pi X hR pi_11_263 kh_160 dX11_term_44 (fun H locs σ_6 eσ_6 hR => ?_)
  replace hf := z_l_e eσ_6 hf
  exact e_v X hR hr hlk hf dX11_term_47
set_option maxHeartbeats 4000000 in
set_option maxRecDepth 100000 in
theorem c11_term (l : Launch) (G : Gp) (N : Nat) {σ σ0 : Mm} {u0 : Unit} (hf : f11_term N σ = some (u0, σ0)) : Met l yX11_term (WS yX11_term cX11_term 1 (none)) rm11_term (va_Pc [.ref (G.2.2 + 160)] (Pd G 212 tt σ)) (P_v G 212 tt u0 σ0) 0 0 (Fr G) := by
  refine ct [(0, .ref (G.2.2 + 160))] rfl (by decide) (Nat.le_of_ble_eq_true rfl) ?_
  intro p e s m below meth c ls X hr hlk hR hl
  have X : Cx p s m _ c cX11_term 1 RX11 G := X
  have hx := X.1
  have hb := X.2.1
  unfold f11_term at hf
  refine lv_aload_n hx hb dX11_term_0 rfl (lv_at hl 0 rfl) ?_
  refine r_gs (t := 191) X hR fr_11_110 kh_160 (sx_11_45 kh_160) dX11_term_1 ?_
  refine lv_aload_n hx hb dX11_term_4 rfl (lv_at hl 0 rfl) ?_
  refine r_gi X hR fi_11_263 kh_160 dX11_term_5 ?_
  refine lv_aload_n hx hb dX11_term_8 rfl (lv_at hl 0 rfl) ?_
  refine r_gi X hR fi_11_266 kh_160 dX11_term_9 ?_
  obtain ⟨hi_1, hf⟩ := z_c_e hf
  refine r_ias X hR ka_191 hi_1 dX11_term_12 (fun H locs σ_2 eσ_2 hR => ?_)
  replace hf := z_l_e eσ_2 hf
  refine lv_aload_n hx hb dX11_term_13 rfl (lv_at hl 0 rfl) ?_
  refine r_gi X hR fi_11_224 kh_160 dX11_term_14 ?_
  refine lv_if_ne (tgt := 24) hx hb dX11_term_17 (by decide) (fun c_3 => ?_) (fun c_3 => ?_)
  · replace hf := z_f c_3 hf
    exact w11_term_24 X hr hlk N   σ_2 _ _ _ hf hR (lv_sub hl [0] rfl)
  · replace hf := z_t c_3 hf
    refine lv_aload_n hx hb dX11_term_20 rfl (lv_at hl 0 rfl) ?_
    obtain ⟨r_7, σ_8, hc_9, hf⟩ := z_b_e hf
    refine go_v hR (mv_run (As := []) (rest := []) X hR mv_11_317 kh_160 (kd_lt kh_160 (by decide)) (c11_expression l G N hc_9) ⟨rfl, rfl, Nat.le_of_ble_eq_true rfl, Nat.le_of_ble_eq_true rfl⟩ rfl hl.1 rfl (Nat.le_of_ble_eq_true rfl) dX11_term_21 ⟨Nat.zero_le _, Nat.zero_le _⟩) (fun H locs hR => ?_)
    exact w11_term_24 X hr hlk N   σ_8 _ _ _ hf hR (lv_sub hl [0] rfl)
abbrev rm11_tellLaw : Room := { frames := 5, cells := 0, slots := 0, locals := 103 }
def f11_tellLaw_129 (N : Nat) (x1 : Int32) (x2 : Int32) (σ : Mm) : Option (Unit × Mm) :=
  z_c (inB (gI σ 160 41) 260) (z_l (sI σ 188 (ix (gI σ 160 41)) (vp_nar .boolean (0 : Int32))) fun σ_7 =>
  z_b (f11_term N σ_7) fun _ σ_9 =>
  z_b (f11_must N (4 : Int32) σ_9) fun _ σ_12 =>
  if (gI σ_12 160 13) ≤ 0 then (
  z_c (inB (((4 : Int32) * (gI σ_12 160 19)) + x1) 8) (z_l (sI σ_12 186 (ix (((4 : Int32) * (gI σ_12 160 19)) + x1)) x2) fun σ_16 =>
  z_c (inB (((4 : Int32) * (gI σ_16 160 19)) + x1) 8) (z_l (sI σ_16 187 (ix (((4 : Int32) * (gI σ_16 160 19)) + x1)) (gI σ_16 160 41)) fun σ_18 =>
  some ((), σ_18)))) else (
  some ((), σ_12)))
def f11_tellLaw_110 (N : Nat) (k12 : Int32 → Mm → Option (Unit × Mm)) (x1 : Int32) (x2 : Int32) (x3 : Int32) (σ : Mm) : Option (Unit × Mm) :=
  z_b (f11_must N (31 : Int32) σ) fun _ σ_43 =>
  z_b (f11_term N σ_43) fun _ σ_46 =>
  z_b (f11_must N (32 : Int32) σ_46) fun _ σ_49 =>
  k12 x3 σ_49
def f11_tellLaw_38 (N : Nat) (k12 : Int32 → Mm → Option (Unit × Mm)) (x1 : Int32) (x2 : Int32) (x3 : Int32) (σ : Mm) : Option (Unit × Mm) :=
  if (gI σ 160 13) ≤ 0 then (
  z_l (x3 + (1 : Int32)) fun x3_25 =>
  z_b (f11_goesOn N σ) fun _ σ_27 =>
  z_c (inB (gI σ_27 160 41) 260) (z_l (sI σ_27 188 (ix (gI σ_27 160 41)) (vp_nar .boolean (1 : Int32))) fun σ_30 =>
  z_c (inB (gI σ_30 160 41) 260) (z_l (sI σ_30 189 (ix (gI σ_30 160 41)) (gI σ_30 160 47)) fun σ_32 =>
  z_b (f11_expression N σ_32) fun _ σ_34 =>
  z_b (f11_must N (13 : Int32) σ_34) fun _ σ_37 =>
  z_c (inB (gI σ_37 160 41) 260) (z_l (sI σ_37 190 (ix (gI σ_37 160 41)) (gI σ_37 160 47)) fun σ_40 =>
  if (gI σ_40 160 13) = 0 then (
  z_b (f11_expression N σ_40) fun _ σ_52 =>
  f11_tellLaw_110 N k12 x1 x2 x3_25 σ_52) else (
  f11_tellLaw_110 N k12 x1 x2 x3_25 σ_40))))) else (
  some ((), σ))
def f11_tellLaw_12 (N : Nat) (x1 : Int32) (x2 : Int32) : Nat → Int32 → Mm → Option (Unit × Mm)
  | 0, _, _ => none
  | fu + 1, x3, σ => if (gI σ 160 13) = 0 then (
  z_b (f11_is N (30 : Int32) σ) fun r_19 σ_20 =>
  if r_19 = 0 then (
  f11_tellLaw_129 N x1 x2 σ_20) else (
  if x3 = (4 : Int32) then (
  z_b (f11_fail N (2 : Int32) σ_20) fun _ σ_55 =>
  f11_tellLaw_38 N (fun x3 σ => f11_tellLaw_12 N x1 x2 fu x3 σ) x1 x2 x3 σ_55) else (
  f11_tellLaw_38 N (fun x3 σ => f11_tellLaw_12 N x1 x2 fu x3 σ) x1 x2 x3 σ_20))) else (
  f11_tellLaw_129 N x1 x2 σ)
def f11_tellLaw (N : Nat) (x1 : Int32) (σ : Mm) : Option (Unit × Mm) :=
  z_b (f11_must N (5 : Int32) σ) fun _ σ_2 =>
  z_l ((gI σ_2 160 41)) fun x2_4 =>
  f11_tellLaw_12 N x1 x2_4 N (0 : Int32) σ_2
set_option maxHeartbeats 4000000 in
set_option maxRecDepth 100000 in
theorem w11_tellLaw_129 (X : Cx p s m args c cX11_tellLaw 4 RX11 G) (hr : meth.sig.returnType = none) (hlk : meth.locks = false) (N : Nat) :
    ∀ (x1 : Int32) (x2 : Int32) (σ : Mm) (H : Heap) (locs : List Loc) (ls : Array Slot), f11_tellLaw_129 N x1 x2 σ = some (u0, σ0) → Rp G 212 tt σ s H locs → lv_has ls 4 [(0, .ref (G.2.2 + 160)), (1, .int x1), (2, .int x2)] → W p l e rm11_tellLaw s m args below meth c H locs 0 0 (MQ below (P_v G 212 tt u0 σ0) args s 0 0 (Fr G)) (F0 m 129 ls []) := by
  have hx := X.1
  have hb := X.2.1
  intro x1 x2 σ H locs ls hf hR hl
  unfold f11_tellLaw_129 at hf
  refine lv_aload_n hx hb dX11_tellLaw_129 rfl (lv_at hl 0 rfl) ?_
  refine r_gs (t := 188) X hR fr_11_100 kh_160 (sx_11_42 kh_160) dX11_tellLaw_130 ?_
  refine lv_aload_n hx hb dX11_tellLaw_133 rfl (lv_at hl 0 rfl) ?_
  refine r_gi X hR fi_11_263 kh_160 dX11_tellLaw_134 ?_
  refine lv_iconst (v := (0 : Int32)) hx hb dX11_tellLaw_137 (by decide) ?_
  obtain ⟨hi_6, hf⟩ := z_c_e hf
  refine r_zas X hR ka_188 hi_6 dX11_tellLaw_138 (fun H locs σ_7 eσ_7 hR => ?_)
  replace hf := z_l_e eσ_7 hf
  refine lv_aload_n hx hb dX11_tellLaw_139 rfl (lv_at hl 0 rfl) ?_
  obtain ⟨r_8, σ_9, hc_10, hf⟩ := z_b_e hf
  refine go_v hR (mv_run (As := []) (rest := []) X hR mv_11_320 kh_160 (kd_lt kh_160 (by decide)) (c11_term l G N hc_10) ⟨rfl, rfl, Nat.le_of_ble_eq_true rfl, Nat.le_of_ble_eq_true rfl⟩ rfl hl.1 rfl (Nat.le_of_ble_eq_true rfl) dX11_tellLaw_140 ⟨Nat.zero_le _, Nat.zero_le _⟩) (fun H locs hR => ?_)
  refine lv_aload_n hx hb dX11_tellLaw_143 rfl (lv_at hl 0 rfl) ?_
  refine lv_iconst (v := (4 : Int32)) hx hb dX11_tellLaw_144 (by decide) ?_
  obtain ⟨r_11, σ_12, hc_13, hf⟩ := z_b_e hf
  refine go_v hR (mv_run (As := [.int (4 : Int32)]) (rest := []) X hR mv_11_282 kh_160 (kd_lt kh_160 (by decide)) (c11_must l G N hc_13) ⟨rfl, rfl, Nat.le_of_ble_eq_true rfl, Nat.le_of_ble_eq_true rfl⟩ rfl hl.1 rfl (Nat.le_of_ble_eq_true rfl) dX11_tellLaw_145 ⟨Nat.zero_le _, Nat.zero_le _⟩) (fun H locs hR => ?_)
  refine lv_aload_n hx hb dX11_tellLaw_148 rfl (lv_at hl 0 rfl) ?_
  refine r_gi X hR fi_11_224 kh_160 dX11_tellLaw_149 ?_
  refine lv_if_le (tgt := 156) hx hb dX11_tellLaw_152 (by decide) (fun c_14 => ?_) (fun c_14 => ?_)
  · replace hf := z_t c_14 hf
    refine lv_aload_n hx hb dX11_tellLaw_156 rfl (lv_at hl 0 rfl) ?_
    refine r_gs (t := 186) X hR fr_11_94 kh_160 (sx_11_39 kh_160) dX11_tellLaw_157 ?_
    refine lv_iconst (v := (4 : Int32)) hx hb dX11_tellLaw_160 (by decide) ?_
    refine lv_aload_n hx hb dX11_tellLaw_161 rfl (lv_at hl 0 rfl) ?_
    refine r_gi X hR fi_11_257 kh_160 dX11_tellLaw_162 ?_
    refine lv_imul hx hb dX11_tellLaw_165 ?_
    refine lv_iload_n hx hb dX11_tellLaw_166 rfl (lv_at hl 1 rfl) ?_
    refine lv_iadd hx hb dX11_tellLaw_167 ?_
    refine lv_iload_n hx hb dX11_tellLaw_168 rfl (lv_at hl 2 rfl) ?_
    obtain ⟨hi_15, hf⟩ := z_c_e hf
    refine r_ias X hR ka_186 hi_15 dX11_tellLaw_169 (fun H locs σ_16 eσ_16 hR => ?_)
    replace hf := z_l_e eσ_16 hf
    refine lv_aload_n hx hb dX11_tellLaw_170 rfl (lv_at hl 0 rfl) ?_
    refine r_gs (t := 187) X hR fr_11_97 kh_160 (sx_11_40 kh_160) dX11_tellLaw_171 ?_
    refine lv_iconst (v := (4 : Int32)) hx hb dX11_tellLaw_174 (by decide) ?_
    refine lv_aload_n hx hb dX11_tellLaw_175 rfl (lv_at hl 0 rfl) ?_
    refine r_gi X hR fi_11_257 kh_160 dX11_tellLaw_176 ?_
    refine lv_imul hx hb dX11_tellLaw_179 ?_
    refine lv_iload_n hx hb dX11_tellLaw_180 rfl (lv_at hl 1 rfl) ?_
    refine lv_iadd hx hb dX11_tellLaw_181 ?_
    refine lv_aload_n hx hb dX11_tellLaw_182 rfl (lv_at hl 0 rfl) ?_
    refine r_gi X hR fi_11_263 kh_160 dX11_tellLaw_183 ?_
    obtain ⟨hi_17, hf⟩ := z_c_e hf
    refine r_ias X hR ka_187 hi_17 dX11_tellLaw_186 (fun H locs σ_18 eσ_18 hR => ?_)
    replace hf := z_l_e eσ_18 hf
    exact e_v X hR hr hlk hf dX11_tellLaw_187
  · replace hf := z_f c_14 hf
    exact e_v X hR hr hlk hf dX11_tellLaw_155
set_option maxHeartbeats 4000000 in
set_option maxRecDepth 100000 in
theorem w11_tellLaw_110 (X : Cx p s m args c cX11_tellLaw 4 RX11 G) (hr : meth.sig.returnType = none) (hlk : meth.locks = false) (N : Nat) {x1 : Int32} {x2 : Int32} {k12 : Int32 → Mm → Option (Unit × Mm)} (hk12 : ∀ (x3 : Int32) (σ : Mm) (H : Heap) (locs : List Loc) (ls : Array Slot), k12 x3 σ = some (u0, σ0) → Rp G 212 tt σ s H locs → lv_has ls 4 [(0, .ref (G.2.2 + 160)), (1, .int x1), (2, .int x2), (3, .int x3)] → W p l e rm11_tellLaw s m args below meth c H locs 0 0 (MQ below (P_v G 212 tt u0 σ0) args s 0 0 (Fr G)) (F0 m 12 ls [])) :
    ∀ (x3 : Int32) (σ : Mm) (H : Heap) (locs : List Loc) (ls : Array Slot), f11_tellLaw_110 N k12 x1 x2 x3 σ = some (u0, σ0) → Rp G 212 tt σ s H locs → lv_has ls 4 [(0, .ref (G.2.2 + 160)), (1, .int x1), (2, .int x2), (3, .int x3)] → W p l e rm11_tellLaw s m args below meth c H locs 0 0 (MQ below (P_v G 212 tt u0 σ0) args s 0 0 (Fr G)) (F0 m 110 ls []) := by
  have hx := X.1
  have hb := X.2.1
  intro x3 σ H locs ls hf hR hl
  unfold f11_tellLaw_110 at hf
  refine lv_aload_n hx hb dX11_tellLaw_110 rfl (lv_at hl 0 rfl) ?_
  refine lv_bipush (v := (31 : Int32)) hx hb dX11_tellLaw_111 (by decide) ?_
  obtain ⟨r_42, σ_43, hc_44, hf⟩ := z_b_e hf
  refine go_v hR (mv_run (As := [.int (31 : Int32)]) (rest := []) X hR mv_11_282 kh_160 (kd_lt kh_160 (by decide)) (c11_must l G N hc_44) ⟨rfl, rfl, Nat.le_of_ble_eq_true rfl, Nat.le_of_ble_eq_true rfl⟩ rfl hl.1 rfl (Nat.le_of_ble_eq_true rfl) dX11_tellLaw_113 ⟨Nat.zero_le _, Nat.zero_le _⟩) (fun H locs hR => ?_)
  refine lv_aload_n hx hb dX11_tellLaw_116 rfl (lv_at hl 0 rfl) ?_
  obtain ⟨r_45, σ_46, hc_47, hf⟩ := z_b_e hf
  refine go_v hR (mv_run (As := []) (rest := []) X hR mv_11_320 kh_160 (kd_lt kh_160 (by decide)) (c11_term l G N hc_47) ⟨rfl, rfl, Nat.le_of_ble_eq_true rfl, Nat.le_of_ble_eq_true rfl⟩ rfl hl.1 rfl (Nat.le_of_ble_eq_true rfl) dX11_tellLaw_117 ⟨Nat.zero_le _, Nat.zero_le _⟩) (fun H locs hR => ?_)
  refine lv_aload_n hx hb dX11_tellLaw_120 rfl (lv_at hl 0 rfl) ?_
  refine lv_bipush (v := (32 : Int32)) hx hb dX11_tellLaw_121 (by decide) ?_
  obtain ⟨r_48, σ_49, hc_50, hf⟩ := z_b_e hf
  refine go_v hR (mv_run (As := [.int (32 : Int32)]) (rest := []) X hR mv_11_282 kh_160 (kd_lt kh_160 (by decide)) (c11_must l G N hc_50) ⟨rfl, rfl, Nat.le_of_ble_eq_true rfl, Nat.le_of_ble_eq_true rfl⟩ rfl hl.1 rfl (Nat.le_of_ble_eq_true rfl) dX11_tellLaw_123 ⟨Nat.zero_le _, Nat.zero_le _⟩) (fun H locs hR => ?_)
  refine lv_goto (tgt := 12) hx hb dX11_tellLaw_126 (by decide) ?_
  exact hk12 x3 σ_49 _ _ _ hf hR (lv_sub hl [0, 1, 2, 3] rfl)
set_option maxHeartbeats 4000000 in
set_option maxRecDepth 100000 in
theorem w11_tellLaw_38 (X : Cx p s m args c cX11_tellLaw 4 RX11 G) (hr : meth.sig.returnType = none) (hlk : meth.locks = false) (N : Nat) {x1 : Int32} {x2 : Int32} {k12 : Int32 → Mm → Option (Unit × Mm)} (hk12 : ∀ (x3 : Int32) (σ : Mm) (H : Heap) (locs : List Loc) (ls : Array Slot), k12 x3 σ = some (u0, σ0) → Rp G 212 tt σ s H locs → lv_has ls 4 [(0, .ref (G.2.2 + 160)), (1, .int x1), (2, .int x2), (3, .int x3)] → W p l e rm11_tellLaw s m args below meth c H locs 0 0 (MQ below (P_v G 212 tt u0 σ0) args s 0 0 (Fr G)) (F0 m 12 ls [])) :
    ∀ (x3 : Int32) (σ : Mm) (H : Heap) (locs : List Loc) (ls : Array Slot), f11_tellLaw_38 N k12 x1 x2 x3 σ = some (u0, σ0) → Rp G 212 tt σ s H locs → lv_has ls 4 [(0, .ref (G.2.2 + 160)), (1, .int x1), (2, .int x2), (3, .int x3)] → W p l e rm11_tellLaw s m args below meth c H locs 0 0 (MQ below (P_v G 212 tt u0 σ0) args s 0 0 (Fr G)) (F0 m 38 ls []) := by
  have hx := X.1
  have hb := X.2.1
  intro x3 σ H locs ls hf hR hl
  unfold f11_tellLaw_38 at hf
  refine lv_aload_n hx hb dX11_tellLaw_38 rfl (lv_at hl 0 rfl) ?_
  refine r_gi X hR fi_11_224 kh_160 dX11_tellLaw_39 ?_
  refine lv_if_le (tgt := 46) hx hb dX11_tellLaw_42 (by decide) (fun c_24 => ?_) (fun c_24 => ?_)
  · replace hf := z_t c_24 hf
    obtain ⟨x3_25, ex3_25⟩ : ∃ z : Int32, z = x3 + (1 : Int32) := ⟨_, rfl⟩
    replace hf := z_l_e ex3_25 hf
    refine lv_iinc (v := x3_25) (lv' := [(3, .int x3_25), (0, .ref (G.2.2 + 160)), (1, .int x1), (2, .int x2)]) hx hb dX11_tellLaw_46 hl (k := 3) rfl (by rw [ex3_25]; rfl) (by decide) rfl (fun ls hl => ?_)
    refine lv_aload_n hx hb dX11_tellLaw_49 rfl (lv_at hl 1 rfl) ?_
    obtain ⟨r_26, σ_27, hc_28, hf⟩ := z_b_e hf
    refine go_v hR (mv_run (As := []) (rest := []) X hR mv_11_245 kh_160 (kd_lt kh_160 (by decide)) (c11_goesOn l G N hc_28) ⟨rfl, rfl, Nat.le_of_ble_eq_true rfl, Nat.le_of_ble_eq_true rfl⟩ rfl hl.1 rfl (Nat.le_of_ble_eq_true rfl) dX11_tellLaw_50 ⟨Nat.zero_le _, Nat.zero_le _⟩) (fun H locs hR => ?_)
    refine lv_aload_n hx hb dX11_tellLaw_53 rfl (lv_at hl 1 rfl) ?_
    refine r_gs (t := 188) X hR fr_11_100 kh_160 (sx_11_42 kh_160) dX11_tellLaw_54 ?_
    refine lv_aload_n hx hb dX11_tellLaw_57 rfl (lv_at hl 1 rfl) ?_
    refine r_gi X hR fi_11_263 kh_160 dX11_tellLaw_58 ?_
    refine lv_iconst (v := (1 : Int32)) hx hb dX11_tellLaw_61 (by decide) ?_
    obtain ⟨hi_29, hf⟩ := z_c_e hf
    refine r_zas X hR ka_188 hi_29 dX11_tellLaw_62 (fun H locs σ_30 eσ_30 hR => ?_)
    replace hf := z_l_e eσ_30 hf
    refine lv_aload_n hx hb dX11_tellLaw_63 rfl (lv_at hl 1 rfl) ?_
    refine r_gs (t := 189) X hR fr_11_104 kh_160 (sx_11_43 kh_160) dX11_tellLaw_64 ?_
    refine lv_aload_n hx hb dX11_tellLaw_67 rfl (lv_at hl 1 rfl) ?_
    refine r_gi X hR fi_11_263 kh_160 dX11_tellLaw_68 ?_
    refine lv_aload_n hx hb dX11_tellLaw_71 rfl (lv_at hl 1 rfl) ?_
    refine r_gi X hR fi_11_266 kh_160 dX11_tellLaw_72 ?_
    obtain ⟨hi_31, hf⟩ := z_c_e hf
    refine r_ias X hR ka_189 hi_31 dX11_tellLaw_75 (fun H locs σ_32 eσ_32 hR => ?_)
    replace hf := z_l_e eσ_32 hf
    refine lv_aload_n hx hb dX11_tellLaw_76 rfl (lv_at hl 1 rfl) ?_
    obtain ⟨r_33, σ_34, hc_35, hf⟩ := z_b_e hf
    refine go_v hR (mv_run (As := []) (rest := []) X hR mv_11_317 kh_160 (kd_lt kh_160 (by decide)) (c11_expression l G N hc_35) ⟨rfl, rfl, Nat.le_of_ble_eq_true rfl, Nat.le_of_ble_eq_true rfl⟩ rfl hl.1 rfl (Nat.le_of_ble_eq_true rfl) dX11_tellLaw_77 ⟨Nat.zero_le _, Nat.zero_le _⟩) (fun H locs hR => ?_)
    refine lv_aload_n hx hb dX11_tellLaw_80 rfl (lv_at hl 1 rfl) ?_
    refine lv_bipush (v := (13 : Int32)) hx hb dX11_tellLaw_81 (by decide) ?_
    obtain ⟨r_36, σ_37, hc_38, hf⟩ := z_b_e hf
    refine go_v hR (mv_run (As := [.int (13 : Int32)]) (rest := []) X hR mv_11_282 kh_160 (kd_lt kh_160 (by decide)) (c11_must l G N hc_38) ⟨rfl, rfl, Nat.le_of_ble_eq_true rfl, Nat.le_of_ble_eq_true rfl⟩ rfl hl.1 rfl (Nat.le_of_ble_eq_true rfl) dX11_tellLaw_83 ⟨Nat.zero_le _, Nat.zero_le _⟩) (fun H locs hR => ?_)
    refine lv_aload_n hx hb dX11_tellLaw_86 rfl (lv_at hl 1 rfl) ?_
    refine r_gs (t := 190) X hR fr_11_107 kh_160 (sx_11_44 kh_160) dX11_tellLaw_87 ?_
    refine lv_aload_n hx hb dX11_tellLaw_90 rfl (lv_at hl 1 rfl) ?_
    refine r_gi X hR fi_11_263 kh_160 dX11_tellLaw_91 ?_
    refine lv_aload_n hx hb dX11_tellLaw_94 rfl (lv_at hl 1 rfl) ?_
    refine r_gi X hR fi_11_266 kh_160 dX11_tellLaw_95 ?_
    obtain ⟨hi_39, hf⟩ := z_c_e hf
    refine r_ias X hR ka_190 hi_39 dX11_tellLaw_98 (fun H locs σ_40 eσ_40 hR => ?_)
    replace hf := z_l_e eσ_40 hf
    refine lv_aload_n hx hb dX11_tellLaw_99 rfl (lv_at hl 1 rfl) ?_
    refine r_gi X hR fi_11_224 kh_160 dX11_tellLaw_100 ?_
    refine lv_if_ne (tgt := 110) hx hb dX11_tellLaw_103 (by decide) (fun c_41 => ?_) (fun c_41 => ?_)
    · replace hf := z_f c_41 hf
      exact w11_tellLaw_110 X hr hlk N hk12 x3_25 σ_40 _ _ _ hf hR (lv_sub hl [1, 2, 3, 0] rfl)
    · replace hf := z_t c_41 hf
      refine lv_aload_n hx hb dX11_tellLaw_106 rfl (lv_at hl 1 rfl) ?_
      obtain ⟨r_51, σ_52, hc_53, hf⟩ := z_b_e hf
      refine go_v hR (mv_run (As := []) (rest := []) X hR mv_11_317 kh_160 (kd_lt kh_160 (by decide)) (c11_expression l G N hc_53) ⟨rfl, rfl, Nat.le_of_ble_eq_true rfl, Nat.le_of_ble_eq_true rfl⟩ rfl hl.1 rfl (Nat.le_of_ble_eq_true rfl) dX11_tellLaw_107 ⟨Nat.zero_le _, Nat.zero_le _⟩) (fun H locs hR => ?_)
      exact w11_tellLaw_110 X hr hlk N hk12 x3_25 σ_52 _ _ _ hf hR (lv_sub hl [1, 2, 3, 0] rfl)
  · replace hf := z_f c_24 hf
    exact e_v X hR hr hlk hf dX11_tellLaw_45
set_option maxHeartbeats 4000000 in
set_option maxRecDepth 100000 in
theorem w11_tellLaw_12 (X : Cx p s m args c cX11_tellLaw 4 RX11 G) (hr : meth.sig.returnType = none) (hlk : meth.locks = false) (N : Nat) {x1 : Int32} {x2 : Int32} :
    ∀ (fu : Nat) (x3 : Int32) (σ : Mm) (H : Heap) (locs : List Loc) (ls : Array Slot), f11_tellLaw_12 N x1 x2 fu x3 σ = some (u0, σ0) → Rp G 212 tt σ s H locs → lv_has ls 4 [(0, .ref (G.2.2 + 160)), (1, .int x1), (2, .int x2), (3, .int x3)] → W p l e rm11_tellLaw s m args below meth c H locs 0 0 (MQ below (P_v G 212 tt u0 σ0) args s 0 0 (Fr G)) (F0 m 12 ls []) := by
  have hx := X.1
  have hb := X.2.1
  intro fu
  induction fu with
  | zero =>
    intro x3 σ H locs ls hf hR hl
    rw [f11_tellLaw_12] at hf
    cases hf
  | succ fu ih =>
    intro x3 σ H locs ls hf hR hl
    rw [f11_tellLaw_12] at hf
    refine lv_aload_n hx hb dX11_tellLaw_12 rfl (lv_at hl 0 rfl) ?_
    refine r_gi X hR fi_11_224 kh_160 dX11_tellLaw_13 ?_
    refine lv_if_ne (tgt := 129) hx hb dX11_tellLaw_16 (by decide) (fun c_5 => ?_) (fun c_5 => ?_)
    · replace hf := z_f c_5 hf
      exact w11_tellLaw_129 X hr hlk N  x1 x2 σ _ _ _ hf hR (lv_sub hl [0, 1, 2] rfl)
    · replace hf := z_t c_5 hf
      refine lv_aload_n hx hb dX11_tellLaw_19 rfl (lv_at hl 0 rfl) ?_
      refine lv_bipush (v := (30 : Int32)) hx hb dX11_tellLaw_20 (by decide) ?_
      obtain ⟨r_19, σ_20, hc_21, hf⟩ := z_b_e hf
      refine go_i hR (mv_run (As := [.int (30 : Int32)]) (rest := []) X hR mv_11_242 kh_160 (kd_lt kh_160 (by decide)) (c11_is l G N hc_21) ⟨rfl, rfl, Nat.le_of_ble_eq_true rfl, Nat.le_of_ble_eq_true rfl⟩ rfl hl.1 rfl (Nat.le_of_ble_eq_true rfl) dX11_tellLaw_22 ⟨Nat.zero_le _, Nat.zero_le _⟩) (fun H locs hR => ?_)
      refine lv_if_eq (tgt := 129) hx hb dX11_tellLaw_25 (by decide) (fun c_22 => ?_) (fun c_22 => ?_)
      · replace hf := z_t c_22 hf
        exact w11_tellLaw_129 X hr hlk N  x1 x2 σ_20 _ _ _ hf hR (lv_sub hl [0, 1, 2] rfl)
      · replace hf := z_f c_22 hf
        refine lv_iload_n hx hb dX11_tellLaw_28 rfl (lv_at hl 3 rfl) ?_
        refine lv_iconst (v := (4 : Int32)) hx hb dX11_tellLaw_29 (by decide) ?_
        refine lv_icmp_ne (tgt := 38) hx hb dX11_tellLaw_30 (by decide) (fun c_23 => ?_) (fun c_23 => ?_)
        · replace hf := z_f c_23 hf
          exact w11_tellLaw_38 X hr hlk N ih x3 σ_20 _ _ _ hf hR (lv_sub hl [0, 1, 2, 3] rfl)
        · replace hf := z_t c_23 hf
          refine lv_aload_n hx hb dX11_tellLaw_33 rfl (lv_at hl 0 rfl) ?_
          refine lv_iconst (v := (2 : Int32)) hx hb dX11_tellLaw_34 (by decide) ?_
          obtain ⟨r_54, σ_55, hc_56, hf⟩ := z_b_e hf
          refine go_v hR (mv_run (As := [.int (2 : Int32)]) (rest := []) X hR mv_11_239 kh_160 (kd_lt kh_160 (by decide)) (c11_fail l G N hc_56) ⟨rfl, rfl, Nat.le_of_ble_eq_true rfl, Nat.le_of_ble_eq_true rfl⟩ rfl hl.1 rfl (Nat.le_of_ble_eq_true rfl) dX11_tellLaw_35 ⟨Nat.zero_le _, Nat.zero_le _⟩) (fun H locs hR => ?_)
          exact w11_tellLaw_38 X hr hlk N ih x3 σ_55 _ _ _ hf hR (lv_sub hl [0, 1, 2, 3] rfl)
set_option maxHeartbeats 4000000 in
set_option maxRecDepth 100000 in
theorem c11_tellLaw (l : Launch) (G : Gp) (N : Nat) {x1 : Int32} {σ σ0 : Mm} {u0 : Unit} (hf : f11_tellLaw N x1 σ = some (u0, σ0)) : Met l yX11_tellLaw (WS yX11_tellLaw cX11_tellLaw 4 (none)) rm11_tellLaw (va_Pc [.ref (G.2.2 + 160), .int x1] (Pd G 212 tt σ)) (P_v G 212 tt u0 σ0) 0 0 (Fr G) := by
  refine ct [(0, .ref (G.2.2 + 160)), (1, .int x1)] rfl (by decide) (Nat.le_of_ble_eq_true rfl) ?_
  intro p e s m below meth c ls X hr hlk hR hl
  have X : Cx p s m _ c cX11_tellLaw 4 RX11 G := X
  have hx := X.1
  have hb := X.2.1
  unfold f11_tellLaw at hf
  refine lv_aload_n hx hb dX11_tellLaw_0 rfl (lv_at hl 0 rfl) ?_
  refine lv_iconst (v := (5 : Int32)) hx hb dX11_tellLaw_1 (by decide) ?_
  obtain ⟨r_1, σ_2, hc_3, hf⟩ := z_b_e hf
  refine go_v hR (mv_run (As := [.int (5 : Int32)]) (rest := []) X hR mv_11_282 kh_160 (kd_lt kh_160 (by decide)) (c11_must l G N hc_3) ⟨rfl, rfl, Nat.le_of_ble_eq_true rfl, Nat.le_of_ble_eq_true rfl⟩ rfl hl.1 rfl (Nat.le_of_ble_eq_true rfl) dX11_tellLaw_2 ⟨Nat.zero_le _, Nat.zero_le _⟩) (fun H locs hR => ?_)
  refine lv_aload_n hx hb dX11_tellLaw_5 rfl (lv_at hl 0 rfl) ?_
  refine r_gi X hR fi_11_263 kh_160 dX11_tellLaw_6 ?_
  refine lv_topi (fun x2_4 ex2_4 => ?_)
  replace hf := z_l_e ex2_4 hf
  refine lv_istore_n (lv' := [(2, .int x2_4), (0, .ref (G.2.2 + 160)), (1, .int x1)]) hx hb dX11_tellLaw_9 rfl hl (by decide) rfl (fun ls hl => ?_)
  refine lv_iconst (v := (0 : Int32)) hx hb dX11_tellLaw_10 (by decide) ?_
  refine lv_istore_n (lv' := [(3, .int (0 : Int32)), (2, .int x2_4), (0, .ref (G.2.2 + 160)), (1, .int x1)]) hx hb dX11_tellLaw_11 rfl hl (by decide) rfl (fun ls hl => ?_)
  exact w11_tellLaw_12 X hr hlk N  N (0 : Int32) σ_2 _ _ _ hf hR (lv_sub hl [2, 3, 1, 0] rfl)
abbrev rm11_tellOne : Room := { frames := 6, cells := 0, slots := 0, locals := 126 }
def f11_tellOne_288 (N : Nat) (x1 : Int32) (σ : Mm) : Option (Unit × Mm) :=
  if (gI σ 160 13) ≤ 0 then (
  z_b (f11_goesOn N σ) fun _ σ_54 =>
  z_b (f11_tellLaw N x1 σ_54) fun _ σ_57 =>
  some ((), σ_57)) else (
  some ((), σ))
def f11_tellOne_283 (N : Nat) (x1 : Int32) (σ : Mm) : Option (Unit × Mm) :=
  z_b (f11_fail N (1 : Int32) σ) fun _ σ_50 =>
  f11_tellOne_288 N x1 σ_50
def f11_tellOne_252 (N : Nat) (σ : Mm) : Option (Unit × Mm) :=
  z_c (inB (gI σ 160 11) 403) (
  z_l (((gI σ 163 (ix (gI σ 160 11))) - (24 : Int32))) fun x1_47 =>
  if x1_47 < 0 then (
  f11_tellOne_283 N x1_47 σ) else (
  z_c (inB (gI σ 160 11) 403) (
  if (gI σ 163 (ix (gI σ 160 11))) ≤ (27 : Int32) then (
  f11_tellOne_288 N x1_47 σ) else (
  f11_tellOne_283 N x1_47 σ))))
def f11_tellOne (N : Nat) (σ : Mm) : Option (Unit × Mm) :=
  z_c (inB (gI σ 160 11) 403) (
  if (gI σ 163 (ix (gI σ 160 11))) = (20 : Int32) then (
  z_c (inB (gI σ 160 19) 2) (
  z_b (f11_roomFor N (gI σ 170 (ix (gI σ 160 19))) (6 : Int32) σ) fun _ σ_4 =>
  if (gI σ_4 160 13) ≤ 0 then (
  z_b (f11_named N σ_4) fun r_7 σ_8 =>
  z_c (inB (gI σ_8 160 19) 2) (
  z_b (f11_ends N r_7 (gI σ_8 170 (ix (gI σ_8 160 19))) σ_8) fun _ σ_12 =>
  if (gI σ_12 160 13) = 0 then (
  z_c (inB (gI σ_12 160 19) 2) (
  z_c (inB (gI σ_12 160 19) 2) (z_l (sI σ_12 170 (ix (gI σ_12 160 19)) ((gI σ_12 170 (ix (gI σ_12 160 19))) + (1 : Int32))) fun σ_17 =>
  some ((), σ_17)))) else (
  some ((), σ_12)))) else (
  some ((), σ_4)))) else (
  if (gI σ 163 (ix (gI σ 160 11))) = (21 : Int32) then (
  z_c (inB (gI σ 160 19) 2) (
  z_b (f11_roomFor N (gI σ 171 (ix (gI σ 160 19))) (7 : Int32) σ) fun _ σ_21 =>
  if (gI σ_21 160 13) = 0 then (
  z_b (f11_tellPlot N σ_21) fun _ σ_25 =>
  some ((), σ_25)) else (
  some ((), σ_21)))) else (
  if (gI σ 163 (ix (gI σ 160 11))) = (22 : Int32) then (
  z_c (inB (gI σ 160 19) 2) (
  z_b (f11_roomFor N (gI σ 175 (ix (gI σ 160 19))) (7 : Int32) σ) fun _ σ_30 =>
  if (gI σ_30 160 13) = 0 then (
  z_b (f11_tellWitness N σ_30) fun _ σ_34 =>
  some ((), σ_34)) else (
  some ((), σ_30)))) else (
  if (gI σ 163 (ix (gI σ 160 11))) = (23 : Int32) then (
  z_c (inB (gI σ 160 19) 2) (
  z_b (f11_roomFor N (gI σ 178 (ix (gI σ 160 19))) (12 : Int32) σ) fun _ σ_39 =>
  if (gI σ_39 160 13) = 0 then (
  z_b (f11_tellGiving N σ_39) fun _ σ_43 =>
  some ((), σ_43)) else (
  some ((), σ_39)))) else (
  if (gI σ 163 (ix (gI σ 160 11))) = (24 : Int32) then (
  f11_tellOne_252 N σ) else (
  if (gI σ 163 (ix (gI σ 160 11))) = (25 : Int32) then (
  f11_tellOne_252 N σ) else (
  if (gI σ 163 (ix (gI σ 160 11))) = (26 : Int32) then (
  f11_tellOne_252 N σ) else (
  if (gI σ 163 (ix (gI σ 160 11))) = (27 : Int32) then (
  f11_tellOne_252 N σ) else (
  if (gI σ 163 (ix (gI σ 160 11))) = (28 : Int32) then (
  z_b (f11_toldInt N (1 : Int32) (4 : Int32) σ) fun r_65 σ_66 =>
  z_c (inB (gI σ 160 19) 2) (z_l (sI σ_66 184 (ix (gI σ 160 19)) r_65) fun σ_69 =>
  some ((), σ_69))) else (
  if (gI σ 163 (ix (gI σ 160 11))) = (29 : Int32) then (
  z_b (f11_toldInt N (0 : Int32) (9999 : Int32) σ) fun r_71 σ_72 =>
  z_c (inB (gI σ 160 19) 2) (z_l (sI σ_72 185 (ix (gI σ 160 19)) r_71) fun σ_75 =>
  some ((), σ_75))) else (
  f11_tellOne_252 N σ)))))))))))
set_option maxHeartbeats 4000000 in
set_option maxRecDepth 100000 in
theorem w11_tellOne_288 (X : Cx p s m args c cX11_tellOne 2 RX11 G) (hr : meth.sig.returnType = none) (hlk : meth.locks = false) (N : Nat) :
    ∀ (x1 : Int32) (σ : Mm) (H : Heap) (locs : List Loc) (ls : Array Slot), f11_tellOne_288 N x1 σ = some (u0, σ0) → Rp G 212 tt σ s H locs → lv_has ls 2 [(0, .ref (G.2.2 + 160)), (1, .int x1)] → W p l e rm11_tellOne s m args below meth c H locs 0 0 (MQ below (P_v G 212 tt u0 σ0) args s 0 0 (Fr G)) (F0 m 288 ls []) := by
  have hx := X.1
  have hb := X.2.1
  intro x1 σ H locs ls hf hR hl
  unfold f11_tellOne_288 at hf
  refine lv_aload_n hx hb dX11_tellOne_288 rfl (lv_at hl 0 rfl) ?_
  refine r_gi X hR fi_11_224 kh_160 dX11_tellOne_289 ?_
  refine lv_if_le (tgt := 296) hx hb dX11_tellOne_292 (by decide) (fun c_52 => ?_) (fun c_52 => ?_)
  · replace hf := z_t c_52 hf
    refine lv_aload_n hx hb dX11_tellOne_296 rfl (lv_at hl 0 rfl) ?_
    obtain ⟨r_53, σ_54, hc_55, hf⟩ := z_b_e hf
    refine go_v hR (mv_run (As := []) (rest := []) X hR mv_11_245 kh_160 (kd_lt kh_160 (by decide)) (c11_goesOn l G N hc_55) ⟨rfl, rfl, Nat.le_of_ble_eq_true rfl, Nat.le_of_ble_eq_true rfl⟩ rfl hl.1 rfl (Nat.le_of_ble_eq_true rfl) dX11_tellOne_297 ⟨Nat.zero_le _, Nat.zero_le _⟩) (fun H locs hR => ?_)
    refine lv_aload_n hx hb dX11_tellOne_300 rfl (lv_at hl 0 rfl) ?_
    refine lv_iload_n hx hb dX11_tellOne_301 rfl (lv_at hl 1 rfl) ?_
    obtain ⟨r_56, σ_57, hc_58, hf⟩ := z_b_e hf
    refine go_v hR (mv_run (As := [.int x1]) (rest := []) X hR mv_11_308 kh_160 (kd_lt kh_160 (by decide)) (c11_tellLaw l G N hc_58) ⟨rfl, rfl, Nat.le_of_ble_eq_true rfl, Nat.le_of_ble_eq_true rfl⟩ rfl hl.1 rfl (Nat.le_of_ble_eq_true rfl) dX11_tellOne_302 ⟨Nat.zero_le _, Nat.zero_le _⟩) (fun H locs hR => ?_)
    exact e_v X hR hr hlk hf dX11_tellOne_305
  · replace hf := z_f c_52 hf
    exact e_v X hR hr hlk hf dX11_tellOne_295
set_option maxHeartbeats 4000000 in
set_option maxRecDepth 100000 in
theorem w11_tellOne_283 (X : Cx p s m args c cX11_tellOne 2 RX11 G) (hr : meth.sig.returnType = none) (hlk : meth.locks = false) (N : Nat) :
    ∀ (x1 : Int32) (σ : Mm) (H : Heap) (locs : List Loc) (ls : Array Slot), f11_tellOne_283 N x1 σ = some (u0, σ0) → Rp G 212 tt σ s H locs → lv_has ls 2 [(0, .ref (G.2.2 + 160)), (1, .int x1)] → W p l e rm11_tellOne s m args below meth c H locs 0 0 (MQ below (P_v G 212 tt u0 σ0) args s 0 0 (Fr G)) (F0 m 283 ls []) := by
  have hx := X.1
  have hb := X.2.1
  intro x1 σ H locs ls hf hR hl
  unfold f11_tellOne_283 at hf
  refine lv_aload_n hx hb dX11_tellOne_283 rfl (lv_at hl 0 rfl) ?_
  refine lv_iconst (v := (1 : Int32)) hx hb dX11_tellOne_284 (by decide) ?_
  obtain ⟨r_49, σ_50, hc_51, hf⟩ := z_b_e hf
  refine go_v hR (mv_run (As := [.int (1 : Int32)]) (rest := []) X hR mv_11_239 kh_160 (kd_lt kh_160 (by decide)) (c11_fail l G N hc_51) ⟨rfl, rfl, Nat.le_of_ble_eq_true rfl, Nat.le_of_ble_eq_true rfl⟩ rfl hl.1 rfl (Nat.le_of_ble_eq_true rfl) dX11_tellOne_285 ⟨Nat.zero_le _, Nat.zero_le _⟩) (fun H locs hR => ?_)
  exact w11_tellOne_288 X hr hlk N  x1 σ_50 _ _ _ hf hR (lv_sub hl [0, 1] rfl)
set_option maxHeartbeats 4000000 in
set_option maxRecDepth 100000 in
theorem w11_tellOne_252 (X : Cx p s m args c cX11_tellOne 2 RX11 G) (hr : meth.sig.returnType = none) (hlk : meth.locks = false) (N : Nat) :
    ∀ (σ : Mm) (H : Heap) (locs : List Loc) (ls : Array Slot), f11_tellOne_252 N σ = some (u0, σ0) → Rp G 212 tt σ s H locs → lv_has ls 2 [(0, .ref (G.2.2 + 160))] → W p l e rm11_tellOne s m args below meth c H locs 0 0 (MQ below (P_v G 212 tt u0 σ0) args s 0 0 (Fr G)) (F0 m 252 ls []) := by
  have hx := X.1
  have hb := X.2.1
  intro σ H locs ls hf hR hl
  unfold f11_tellOne_252 at hf
  refine lv_aload_n hx hb dX11_tellOne_252 rfl (lv_at hl 0 rfl) ?_
  refine r_gs (t := 163) X hR fr_11_20 kh_160 (sx_11_5 kh_160) dX11_tellOne_253 ?_
  refine lv_aload_n hx hb dX11_tellOne_256 rfl (lv_at hl 0 rfl) ?_
  refine r_gi X hR fi_11_227 kh_160 dX11_tellOne_257 ?_
  obtain ⟨hi_46, hf⟩ := z_c_e hf
  refine r_ial X hR ka_163 hi_46 dX11_tellOne_260 ?_
  refine lv_bipush (v := (24 : Int32)) hx hb dX11_tellOne_261 (by decide) ?_
  refine lv_isub hx hb dX11_tellOne_263 ?_
  refine lv_topi (fun x1_47 ex1_47 => ?_)
  replace hf := z_l_e ex1_47 hf
  refine lv_istore_n (lv' := [(1, .int x1_47), (0, .ref (G.2.2 + 160))]) hx hb dX11_tellOne_264 rfl hl (by decide) rfl (fun ls hl => ?_)
  refine lv_iload_n hx hb dX11_tellOne_265 rfl (lv_at hl 0 rfl) ?_
  refine lv_if_lt (tgt := 283) hx hb dX11_tellOne_266 (by decide) (fun c_48 => ?_) (fun c_48 => ?_)
  · replace hf := z_t c_48 hf
    exact w11_tellOne_283 X hr hlk N  x1_47 σ _ _ _ hf hR (lv_sub hl [1, 0] rfl)
  · replace hf := z_f c_48 hf
    refine lv_aload_n hx hb dX11_tellOne_269 rfl (lv_at hl 1 rfl) ?_
    refine r_gs (t := 163) X hR fr_11_20 kh_160 (sx_11_5 kh_160) dX11_tellOne_270 ?_
    refine lv_aload_n hx hb dX11_tellOne_273 rfl (lv_at hl 1 rfl) ?_
    refine r_gi X hR fi_11_227 kh_160 dX11_tellOne_274 ?_
    obtain ⟨hi_59, hf⟩ := z_c_e hf
    refine r_ial X hR ka_163 hi_59 dX11_tellOne_277 ?_
    refine lv_bipush (v := (27 : Int32)) hx hb dX11_tellOne_278 (by decide) ?_
    refine lv_icmp_le (tgt := 288) hx hb dX11_tellOne_280 (by decide) (fun c_60 => ?_) (fun c_60 => ?_)
    · replace hf := z_t c_60 hf
      exact w11_tellOne_288 X hr hlk N  x1_47 σ _ _ _ hf hR (lv_sub hl [1, 0] rfl)
    · replace hf := z_f c_60 hf
      exact w11_tellOne_283 X hr hlk N  x1_47 σ _ _ _ hf hR (lv_sub hl [1, 0] rfl)
set_option maxHeartbeats 4000000 in
set_option maxRecDepth 100000 in
theorem c11_tellOne (l : Launch) (G : Gp) (N : Nat) {σ σ0 : Mm} {u0 : Unit} (hf : f11_tellOne N σ = some (u0, σ0)) : Met l yX11_tellOne (WS yX11_tellOne cX11_tellOne 2 (none)) rm11_tellOne (va_Pc [.ref (G.2.2 + 160)] (Pd G 212 tt σ)) (P_v G 212 tt u0 σ0) 0 0 (Fr G) := by
  refine ct [(0, .ref (G.2.2 + 160))] rfl (by decide) (Nat.le_of_ble_eq_true rfl) ?_
  intro p e s m below meth c ls X hr hlk hR hl
  have X : Cx p s m _ c cX11_tellOne 2 RX11 G := X
  have hx := X.1
  have hb := X.2.1
  unfold f11_tellOne at hf
  refine lv_aload_n hx hb dX11_tellOne_0 rfl (lv_at hl 0 rfl) ?_
  refine r_gs (t := 163) X hR fr_11_20 kh_160 (sx_11_5 kh_160) dX11_tellOne_1 ?_
  refine lv_aload_n hx hb dX11_tellOne_4 rfl (lv_at hl 0 rfl) ?_
  refine r_gi X hR fi_11_227 kh_160 dX11_tellOne_5 ?_
  obtain ⟨hi_1, hf⟩ := z_c_e hf
  refine r_ial X hR ka_163 hi_1 dX11_tellOne_8 ?_
  by_cases c_18 : (gI σ 163 (ix (gI σ 160 11))) = (20 : Int32)
  · replace hf := z_t c_18 hf
    refine lv_tableIn (off := 55) (tgt := 64) hx hb dX11_tellOne_9 (by rw [c_18]; decide) (by rw [c_18]; decide) (by rw [c_18]; rfl) (by decide) ?_
    refine lv_aload_n hx hb dX11_tellOne_64 rfl (lv_at hl 0 rfl) ?_
    refine lv_aload_n hx hb dX11_tellOne_65 rfl (lv_at hl 0 rfl) ?_
    refine r_gs (t := 170) X hR fr_11_46 kh_160 (sx_11_23 kh_160) dX11_tellOne_66 ?_
    refine lv_aload_n hx hb dX11_tellOne_69 rfl (lv_at hl 0 rfl) ?_
    refine r_gi X hR fi_11_257 kh_160 dX11_tellOne_70 ?_
    obtain ⟨hi_2, hf⟩ := z_c_e hf
    refine r_ial X hR ka_170 hi_2 dX11_tellOne_73 ?_
    refine lv_bipush (v := (6 : Int32)) hx hb dX11_tellOne_74 (by decide) ?_
    obtain ⟨r_3, σ_4, hc_5, hf⟩ := z_b_e hf
    refine go_v hR (mv_run (As := [.int (gI σ 170 (ix (gI σ 160 19))), .int (6 : Int32)]) (rest := []) X hR mv_11_285 kh_160 (kd_lt kh_160 (by decide)) (c11_roomFor l G N hc_5) ⟨rfl, rfl, Nat.le_of_ble_eq_true rfl, Nat.le_of_ble_eq_true rfl⟩ rfl hl.1 rfl (Nat.le_of_ble_eq_true rfl) dX11_tellOne_76 ⟨Nat.zero_le _, Nat.zero_le _⟩) (fun H locs hR => ?_)
    refine lv_aload_n hx hb dX11_tellOne_79 rfl (lv_at hl 0 rfl) ?_
    refine r_gi X hR fi_11_224 kh_160 dX11_tellOne_80 ?_
    refine lv_if_le (tgt := 87) hx hb dX11_tellOne_83 (by decide) (fun c_6 => ?_) (fun c_6 => ?_)
    · replace hf := z_t c_6 hf
      refine lv_aload_n hx hb dX11_tellOne_87 rfl (lv_at hl 0 rfl) ?_
      refine lv_aload_n hx hb dX11_tellOne_88 rfl (lv_at hl 0 rfl) ?_
      obtain ⟨r_7, σ_8, hc_9, hf⟩ := z_b_e hf
      refine go_i hR (mv_run (As := []) (rest := [.ref (G.2.2 + 160)]) X hR mv_11_289 kh_160 (kd_lt kh_160 (by decide)) (c11_named l G N hc_9) ⟨rfl, rfl, Nat.le_of_ble_eq_true rfl, Nat.le_of_ble_eq_true rfl⟩ rfl hl.1 rfl (Nat.le_of_ble_eq_true rfl) dX11_tellOne_89 ⟨Nat.zero_le _, Nat.zero_le _⟩) (fun H locs hR => ?_)
      refine lv_aload_n hx hb dX11_tellOne_92 rfl (lv_at hl 0 rfl) ?_
      refine r_gs (t := 170) X hR fr_11_46 kh_160 (sx_11_23 kh_160) dX11_tellOne_93 ?_
      refine lv_aload_n hx hb dX11_tellOne_96 rfl (lv_at hl 0 rfl) ?_
      refine r_gi X hR fi_11_257 kh_160 dX11_tellOne_97 ?_
      obtain ⟨hi_10, hf⟩ := z_c_e hf
      refine r_ial X hR ka_170 hi_10 dX11_tellOne_100 ?_
      obtain ⟨r_11, σ_12, hc_13, hf⟩ := z_b_e hf
      refine go_v hR (mv_run (As := [.int r_7, .int (gI σ_8 170 (ix (gI σ_8 160 19)))]) (rest := []) X hR mv_11_293 kh_160 (kd_lt kh_160 (by decide)) (c11_ends l G N hc_13) ⟨rfl, rfl, Nat.le_of_ble_eq_true rfl, Nat.le_of_ble_eq_true rfl⟩ rfl hl.1 rfl (Nat.le_of_ble_eq_true rfl) dX11_tellOne_101 ⟨Nat.zero_le _, Nat.zero_le _⟩) (fun H locs hR => ?_)
      refine lv_aload_n hx hb dX11_tellOne_104 rfl (lv_at hl 0 rfl) ?_
      refine r_gi X hR fi_11_224 kh_160 dX11_tellOne_105 ?_
      refine lv_if_ne (tgt := 305) hx hb dX11_tellOne_108 (by decide) (fun c_14 => ?_) (fun c_14 => ?_)
      · replace hf := z_f c_14 hf
        exact e_v X hR hr hlk hf dX11_tellOne_305
      · replace hf := z_t c_14 hf
        refine lv_aload_n hx hb dX11_tellOne_111 rfl (lv_at hl 0 rfl) ?_
        refine r_gs (t := 170) X hR fr_11_46 kh_160 (sx_11_23 kh_160) dX11_tellOne_112 ?_
        refine lv_aload_n hx hb dX11_tellOne_115 rfl (lv_at hl 0 rfl) ?_
        refine r_gi X hR fi_11_257 kh_160 dX11_tellOne_116 ?_
        refine lv_dup2_11 hx hb dX11_tellOne_119 rfl rfl ?_
        obtain ⟨hi_15, hf⟩ := z_c_e hf
        refine r_ial X hR ka_170 hi_15 dX11_tellOne_120 ?_
        refine lv_iconst (v := (1 : Int32)) hx hb dX11_tellOne_121 (by decide) ?_
        refine lv_iadd hx hb dX11_tellOne_122 ?_
        obtain ⟨hi_16, hf⟩ := z_c_e hf
        refine r_ias X hR ka_170 hi_16 dX11_tellOne_123 (fun H locs σ_17 eσ_17 hR => ?_)
        replace hf := z_l_e eσ_17 hf
        refine lv_goto (tgt := 305) hx hb dX11_tellOne_124 (by decide) ?_
        exact e_v X hR hr hlk hf dX11_tellOne_305
    · replace hf := z_f c_6 hf
      exact e_v X hR hr hlk hf dX11_tellOne_86
  replace hf := z_f c_18 hf
  by_cases c_27 : (gI σ 163 (ix (gI σ 160 11))) = (21 : Int32)
  · replace hf := z_t c_27 hf
    refine lv_tableIn (off := 118) (tgt := 127) hx hb dX11_tellOne_9 (by rw [c_27]; decide) (by rw [c_27]; decide) (by rw [c_27]; rfl) (by decide) ?_
    refine lv_aload_n hx hb dX11_tellOne_127 rfl (lv_at hl 0 rfl) ?_
    refine lv_aload_n hx hb dX11_tellOne_128 rfl (lv_at hl 0 rfl) ?_
    refine r_gs (t := 171) X hR fr_11_49 kh_160 (sx_11_24 kh_160) dX11_tellOne_129 ?_
    refine lv_aload_n hx hb dX11_tellOne_132 rfl (lv_at hl 0 rfl) ?_
    refine r_gi X hR fi_11_257 kh_160 dX11_tellOne_133 ?_
    obtain ⟨hi_19, hf⟩ := z_c_e hf
    refine r_ial X hR ka_171 hi_19 dX11_tellOne_136 ?_
    refine lv_bipush (v := (7 : Int32)) hx hb dX11_tellOne_137 (by decide) ?_
    obtain ⟨r_20, σ_21, hc_22, hf⟩ := z_b_e hf
    refine go_v hR (mv_run (As := [.int (gI σ 171 (ix (gI σ 160 19))), .int (7 : Int32)]) (rest := []) X hR mv_11_285 kh_160 (kd_lt kh_160 (by decide)) (c11_roomFor l G N hc_22) ⟨rfl, rfl, Nat.le_of_ble_eq_true rfl, Nat.le_of_ble_eq_true rfl⟩ rfl hl.1 rfl (Nat.le_of_ble_eq_true rfl) dX11_tellOne_139 ⟨Nat.zero_le _, Nat.zero_le _⟩) (fun H locs hR => ?_)
    refine lv_aload_n hx hb dX11_tellOne_142 rfl (lv_at hl 0 rfl) ?_
    refine r_gi X hR fi_11_224 kh_160 dX11_tellOne_143 ?_
    refine lv_if_ne (tgt := 305) hx hb dX11_tellOne_146 (by decide) (fun c_23 => ?_) (fun c_23 => ?_)
    · replace hf := z_f c_23 hf
      exact e_v X hR hr hlk hf dX11_tellOne_305
    · replace hf := z_t c_23 hf
      refine lv_aload_n hx hb dX11_tellOne_149 rfl (lv_at hl 0 rfl) ?_
      obtain ⟨r_24, σ_25, hc_26, hf⟩ := z_b_e hf
      refine go_v hR (mv_run (As := []) (rest := []) X hR mv_11_296 kh_160 (kd_lt kh_160 (by decide)) (c11_tellPlot l G N hc_26) ⟨rfl, rfl, Nat.le_of_ble_eq_true rfl, Nat.le_of_ble_eq_true rfl⟩ rfl hl.1 rfl (Nat.le_of_ble_eq_true rfl) dX11_tellOne_150 ⟨Nat.zero_le _, Nat.zero_le _⟩) (fun H locs hR => ?_)
      refine lv_goto (tgt := 305) hx hb dX11_tellOne_153 (by decide) ?_
      exact e_v X hR hr hlk hf dX11_tellOne_305
  replace hf := z_f c_27 hf
  by_cases c_36 : (gI σ 163 (ix (gI σ 160 11))) = (22 : Int32)
  · replace hf := z_t c_36 hf
    refine lv_tableIn (off := 147) (tgt := 156) hx hb dX11_tellOne_9 (by rw [c_36]; decide) (by rw [c_36]; decide) (by rw [c_36]; rfl) (by decide) ?_
    refine lv_aload_n hx hb dX11_tellOne_156 rfl (lv_at hl 0 rfl) ?_
    refine lv_aload_n hx hb dX11_tellOne_157 rfl (lv_at hl 0 rfl) ?_
    refine r_gs (t := 175) X hR fr_11_61 kh_160 (sx_11_28 kh_160) dX11_tellOne_158 ?_
    refine lv_aload_n hx hb dX11_tellOne_161 rfl (lv_at hl 0 rfl) ?_
    refine r_gi X hR fi_11_257 kh_160 dX11_tellOne_162 ?_
    obtain ⟨hi_28, hf⟩ := z_c_e hf
    refine r_ial X hR ka_175 hi_28 dX11_tellOne_165 ?_
    refine lv_bipush (v := (7 : Int32)) hx hb dX11_tellOne_166 (by decide) ?_
    obtain ⟨r_29, σ_30, hc_31, hf⟩ := z_b_e hf
    refine go_v hR (mv_run (As := [.int (gI σ 175 (ix (gI σ 160 19))), .int (7 : Int32)]) (rest := []) X hR mv_11_285 kh_160 (kd_lt kh_160 (by decide)) (c11_roomFor l G N hc_31) ⟨rfl, rfl, Nat.le_of_ble_eq_true rfl, Nat.le_of_ble_eq_true rfl⟩ rfl hl.1 rfl (Nat.le_of_ble_eq_true rfl) dX11_tellOne_168 ⟨Nat.zero_le _, Nat.zero_le _⟩) (fun H locs hR => ?_)
    refine lv_aload_n hx hb dX11_tellOne_171 rfl (lv_at hl 0 rfl) ?_
    refine r_gi X hR fi_11_224 kh_160 dX11_tellOne_172 ?_
    refine lv_if_ne (tgt := 305) hx hb dX11_tellOne_175 (by decide) (fun c_32 => ?_) (fun c_32 => ?_)
    · replace hf := z_f c_32 hf
      exact e_v X hR hr hlk hf dX11_tellOne_305
    · replace hf := z_t c_32 hf
      refine lv_aload_n hx hb dX11_tellOne_178 rfl (lv_at hl 0 rfl) ?_
      obtain ⟨r_33, σ_34, hc_35, hf⟩ := z_b_e hf
      refine go_v hR (mv_run (As := []) (rest := []) X hR mv_11_299 kh_160 (kd_lt kh_160 (by decide)) (c11_tellWitness l G N hc_35) ⟨rfl, rfl, Nat.le_of_ble_eq_true rfl, Nat.le_of_ble_eq_true rfl⟩ rfl hl.1 rfl (Nat.le_of_ble_eq_true rfl) dX11_tellOne_179 ⟨Nat.zero_le _, Nat.zero_le _⟩) (fun H locs hR => ?_)
      refine lv_goto (tgt := 305) hx hb dX11_tellOne_182 (by decide) ?_
      exact e_v X hR hr hlk hf dX11_tellOne_305
  replace hf := z_f c_36 hf
  by_cases c_45 : (gI σ 163 (ix (gI σ 160 11))) = (23 : Int32)
  · replace hf := z_t c_45 hf
    refine lv_tableIn (off := 176) (tgt := 185) hx hb dX11_tellOne_9 (by rw [c_45]; decide) (by rw [c_45]; decide) (by rw [c_45]; rfl) (by decide) ?_
    refine lv_aload_n hx hb dX11_tellOne_185 rfl (lv_at hl 0 rfl) ?_
    refine lv_aload_n hx hb dX11_tellOne_186 rfl (lv_at hl 0 rfl) ?_
    refine r_gs (t := 178) X hR fr_11_70 kh_160 (sx_11_31 kh_160) dX11_tellOne_187 ?_
    refine lv_aload_n hx hb dX11_tellOne_190 rfl (lv_at hl 0 rfl) ?_
    refine r_gi X hR fi_11_257 kh_160 dX11_tellOne_191 ?_
    obtain ⟨hi_37, hf⟩ := z_c_e hf
    refine r_ial X hR ka_178 hi_37 dX11_tellOne_194 ?_
    refine lv_bipush (v := (12 : Int32)) hx hb dX11_tellOne_195 (by decide) ?_
    obtain ⟨r_38, σ_39, hc_40, hf⟩ := z_b_e hf
    refine go_v hR (mv_run (As := [.int (gI σ 178 (ix (gI σ 160 19))), .int (12 : Int32)]) (rest := []) X hR mv_11_285 kh_160 (kd_lt kh_160 (by decide)) (c11_roomFor l G N hc_40) ⟨rfl, rfl, Nat.le_of_ble_eq_true rfl, Nat.le_of_ble_eq_true rfl⟩ rfl hl.1 rfl (Nat.le_of_ble_eq_true rfl) dX11_tellOne_197 ⟨Nat.zero_le _, Nat.zero_le _⟩) (fun H locs hR => ?_)
    refine lv_aload_n hx hb dX11_tellOne_200 rfl (lv_at hl 0 rfl) ?_
    refine r_gi X hR fi_11_224 kh_160 dX11_tellOne_201 ?_
    refine lv_if_ne (tgt := 305) hx hb dX11_tellOne_204 (by decide) (fun c_41 => ?_) (fun c_41 => ?_)
    · replace hf := z_f c_41 hf
      exact e_v X hR hr hlk hf dX11_tellOne_305
    · replace hf := z_t c_41 hf
      refine lv_aload_n hx hb dX11_tellOne_207 rfl (lv_at hl 0 rfl) ?_
      obtain ⟨r_42, σ_43, hc_44, hf⟩ := z_b_e hf
      refine go_v hR (mv_run (As := []) (rest := []) X hR mv_11_302 kh_160 (kd_lt kh_160 (by decide)) (c11_tellGiving l G N hc_44) ⟨rfl, rfl, Nat.le_of_ble_eq_true rfl, Nat.le_of_ble_eq_true rfl⟩ rfl hl.1 rfl (Nat.le_of_ble_eq_true rfl) dX11_tellOne_208 ⟨Nat.zero_le _, Nat.zero_le _⟩) (fun H locs hR => ?_)
      refine lv_goto (tgt := 305) hx hb dX11_tellOne_211 (by decide) ?_
      exact e_v X hR hr hlk hf dX11_tellOne_305
  replace hf := z_f c_45 hf
  by_cases c_61 : (gI σ 163 (ix (gI σ 160 11))) = (24 : Int32)
  · replace hf := z_t c_61 hf
    refine lv_tableIn (off := 243) (tgt := 252) hx hb dX11_tellOne_9 (by rw [c_61]; decide) (by rw [c_61]; decide) (by rw [c_61]; rfl) (by decide) ?_
    exact w11_tellOne_252 X hr hlk N   σ _ _ _ hf hR (lv_sub hl [0] rfl)
  replace hf := z_f c_61 hf
  by_cases c_62 : (gI σ 163 (ix (gI σ 160 11))) = (25 : Int32)
  · replace hf := z_t c_62 hf
    refine lv_tableIn (off := 243) (tgt := 252) hx hb dX11_tellOne_9 (by rw [c_62]; decide) (by rw [c_62]; decide) (by rw [c_62]; rfl) (by decide) ?_
    exact w11_tellOne_252 X hr hlk N   σ _ _ _ hf hR (lv_sub hl [0] rfl)
  replace hf := z_f c_62 hf
  by_cases c_63 : (gI σ 163 (ix (gI σ 160 11))) = (26 : Int32)
  · replace hf := z_t c_63 hf
    refine lv_tableIn (off := 243) (tgt := 252) hx hb dX11_tellOne_9 (by rw [c_63]; decide) (by rw [c_63]; decide) (by rw [c_63]; rfl) (by decide) ?_
    exact w11_tellOne_252 X hr hlk N   σ _ _ _ hf hR (lv_sub hl [0] rfl)
  replace hf := z_f c_63 hf
  by_cases c_64 : (gI σ 163 (ix (gI σ 160 11))) = (27 : Int32)
  · replace hf := z_t c_64 hf
    refine lv_tableIn (off := 243) (tgt := 252) hx hb dX11_tellOne_9 (by rw [c_64]; decide) (by rw [c_64]; decide) (by rw [c_64]; rfl) (by decide) ?_
    exact w11_tellOne_252 X hr hlk N   σ _ _ _ hf hR (lv_sub hl [0] rfl)
  replace hf := z_f c_64 hf
  by_cases c_70 : (gI σ 163 (ix (gI σ 160 11))) = (28 : Int32)
  · replace hf := z_t c_70 hf
    refine lv_tableIn (off := 205) (tgt := 214) hx hb dX11_tellOne_9 (by rw [c_70]; decide) (by rw [c_70]; decide) (by rw [c_70]; rfl) (by decide) ?_
    refine lv_aload_n hx hb dX11_tellOne_214 rfl (lv_at hl 0 rfl) ?_
    refine r_gs (t := 184) X hR fr_11_88 kh_160 (sx_11_37 kh_160) dX11_tellOne_215 ?_
    refine lv_aload_n hx hb dX11_tellOne_218 rfl (lv_at hl 0 rfl) ?_
    refine r_gi X hR fi_11_257 kh_160 dX11_tellOne_219 ?_
    refine lv_aload_n hx hb dX11_tellOne_222 rfl (lv_at hl 0 rfl) ?_
    refine lv_iconst (v := (1 : Int32)) hx hb dX11_tellOne_223 (by decide) ?_
    refine lv_iconst (v := (4 : Int32)) hx hb dX11_tellOne_224 (by decide) ?_
    obtain ⟨r_65, σ_66, hc_67, hf⟩ := z_b_e hf
    refine go_i hR (mv_run (As := [.int (1 : Int32), .int (4 : Int32)]) (rest := [.int (gI σ 160 19), .ref (G.2.2 + 184)]) X hR mv_11_305 kh_160 (kd_lt kh_160 (by decide)) (c11_toldInt l G N hc_67) ⟨rfl, rfl, Nat.le_of_ble_eq_true rfl, Nat.le_of_ble_eq_true rfl⟩ rfl hl.1 rfl (Nat.le_of_ble_eq_true rfl) dX11_tellOne_225 ⟨Nat.zero_le _, Nat.zero_le _⟩) (fun H locs hR => ?_)
    obtain ⟨hi_68, hf⟩ := z_c_e hf
    refine r_ias X hR ka_184 hi_68 dX11_tellOne_228 (fun H locs σ_69 eσ_69 hR => ?_)
    replace hf := z_l_e eσ_69 hf
    refine lv_goto (tgt := 305) hx hb dX11_tellOne_229 (by decide) ?_
    exact e_v X hR hr hlk hf dX11_tellOne_305
  replace hf := z_f c_70 hf
  by_cases c_76 : (gI σ 163 (ix (gI σ 160 11))) = (29 : Int32)
  · replace hf := z_t c_76 hf
    refine lv_tableIn (off := 223) (tgt := 232) hx hb dX11_tellOne_9 (by rw [c_76]; decide) (by rw [c_76]; decide) (by rw [c_76]; rfl) (by decide) ?_
    refine lv_aload_n hx hb dX11_tellOne_232 rfl (lv_at hl 0 rfl) ?_
    refine r_gs (t := 185) X hR fr_11_91 kh_160 (sx_11_38 kh_160) dX11_tellOne_233 ?_
    refine lv_aload_n hx hb dX11_tellOne_236 rfl (lv_at hl 0 rfl) ?_
    refine r_gi X hR fi_11_257 kh_160 dX11_tellOne_237 ?_
    refine lv_aload_n hx hb dX11_tellOne_240 rfl (lv_at hl 0 rfl) ?_
    refine lv_iconst (v := (0 : Int32)) hx hb dX11_tellOne_241 (by decide) ?_
    refine lv_sipush (v := (9999 : Int32)) hx hb dX11_tellOne_242 (by decide) ?_
    obtain ⟨r_71, σ_72, hc_73, hf⟩ := z_b_e hf
    refine go_i hR (mv_run (As := [.int (0 : Int32), .int (9999 : Int32)]) (rest := [.int (gI σ 160 19), .ref (G.2.2 + 185)]) X hR mv_11_305 kh_160 (kd_lt kh_160 (by decide)) (c11_toldInt l G N hc_73) ⟨rfl, rfl, Nat.le_of_ble_eq_true rfl, Nat.le_of_ble_eq_true rfl⟩ rfl hl.1 rfl (Nat.le_of_ble_eq_true rfl) dX11_tellOne_245 ⟨Nat.zero_le _, Nat.zero_le _⟩) (fun H locs hR => ?_)
    obtain ⟨hi_74, hf⟩ := z_c_e hf
    refine r_ias X hR ka_185 hi_74 dX11_tellOne_248 (fun H locs σ_75 eσ_75 hR => ?_)
    replace hf := z_l_e eσ_75 hf
    refine lv_goto (tgt := 305) hx hb dX11_tellOne_249 (by decide) ?_
    exact e_v X hR hr hlk hf dX11_tellOne_305
  replace hf := z_f c_76 hf
  refine lv_tableOut (tgt := 252) hx hb dX11_tellOne_9 (sw_out (gI σ 163 (ix (gI σ 160 11))) 20 10 (by decide) (by decide) (fun j hj => ?_)) (by decide) ?_
  · rcases (show j = 0 ∨ j = 1 ∨ j = 2 ∨ j = 3 ∨ j = 4 ∨ j = 5 ∨ j = 6 ∨ j = 7 ∨ j = 8 ∨ j = 9 by omega) with rfl | rfl | rfl | rfl | rfl | rfl | rfl | rfl | rfl | rfl
    · exact fun h => c_18 (h.trans (by decide))
    · exact fun h => c_27 (h.trans (by decide))
    · exact fun h => c_36 (h.trans (by decide))
    · exact fun h => c_45 (h.trans (by decide))
    · exact fun h => c_61 (h.trans (by decide))
    · exact fun h => c_62 (h.trans (by decide))
    · exact fun h => c_63 (h.trans (by decide))
    · exact fun h => c_64 (h.trans (by decide))
    · exact fun h => c_70 (h.trans (by decide))
    · exact fun h => c_76 (h.trans (by decide))
  · exact w11_tellOne_252 X hr hlk N   σ _ _ _ hf hR (lv_sub hl [0] rfl)
end GEN
