section GEN
variable {p : Program} {l : Launch} {e : Env} {s : State} {m : MethodId} {args : Array Value} {below : List Frame} {meth : Method} {c : Code} {G : Gp} {r0 : Int32} {l0 : Int64} {u0 : Unit} {σ0 : Mm}

abbrev rm0_passYears : Room := { frames := 4, cells := 0, slots := 0, locals := 89 }
def f0_passYears_3 (N : Nat) (o1 : Nat) (x2 : Int32) (x3 : Int32) : Nat → Int32 → Mm → Option (Unit × Mm)
  | 0, _, _ => none
  | fu + 1, x4, σ => if x2 ≤ x4 then (
  some ((), σ)) else (
  z_b (f0_passYear N o1 x3 σ) fun _ σ_3 =>
  z_l (x4 + (1 : Int32)) fun x4_5 =>
  f0_passYears_3 N o1 x2 x3 fu x4_5 σ_3)
def f0_passYears (N : Nat) (o1 : Nat) (x2 : Int32) (x3 : Int32) (σ : Mm) : Option (Unit × Mm) :=
  f0_passYears_3 N o1 x2 x3 N (0 : Int32) σ
set_option maxHeartbeats 4000000 in
set_option maxRecDepth 100000 in
theorem w0_passYears_3 (X : Cx p s m args c cX0_passYears 5 RX0 G) (hr : meth.sig.returnType = none) (hlk : meth.locks = false) (N : Nat) {o1 : Nat} (ho1 : (kd o1).1 = 5) {x2 : Int32} {x3 : Int32} :
    ∀ (fu : Nat) (x4 : Int32) (σ : Mm) (H : Heap) (locs : List Loc) (ls : Array Slot), f0_passYears_3 N o1 x2 x3 fu x4 σ = some (u0, σ0) → Rp G 212 tt σ s H locs → lv_has ls 5 [(0, .ref (G.2.2 + 60)), (1, .ref (G.2.2 + o1)), (2, .int x2), (3, .int x3), (4, .int x4)] → W p l e rm0_passYears s m args below meth c H locs 0 0 (MQ below (P_v G 212 tt u0 σ0) args s 0 0 (Fr G)) (F0 m 3 ls []) := by
  have hx := X.1
  have hb := X.2.1
  intro fu
  induction fu with
  | zero =>
    intro x4 σ H locs ls hf hR hl
    rw [f0_passYears_3] at hf
    cases hf
  | succ fu ih =>
    intro x4 σ H locs ls hf hR hl
    rw [f0_passYears_3] at hf
    refine lv_iload hx hb dX0_passYears_3 (lv_at hl 4 rfl) ?_
    refine lv_iload_n hx hb dX0_passYears_5 rfl (lv_at hl 2 rfl) ?_
    refine lv_icmp_ge (tgt := 21) hx hb dX0_passYears_6 (by decide) (fun c_1 => ?_) (fun c_1 => ?_)
    · replace hf := z_t c_1 hf
      exact e_v X hR hr hlk hf dX0_passYears_21
    · replace hf := z_f c_1 hf
      refine lv_aload_n hx hb dX0_passYears_9 rfl (lv_at hl 0 rfl) ?_
      refine lv_aload_n hx hb dX0_passYears_10 rfl (lv_at hl 1 rfl) ?_
      refine lv_iload_n hx hb dX0_passYears_11 rfl (lv_at hl 3 rfl) ?_
      obtain ⟨r_2, σ_3, hc_4, hf⟩ := z_b_e hf
      refine go_v hR (mv_run (As := [.ref (G.2.2 + o1), .int x3]) (rest := []) X hR mv_0_146 kh_60 (kd_lt kh_60 (by decide)) (c0_passYear l G N ho1 hc_4) ⟨rfl, rfl, Nat.le_of_ble_eq_true rfl, Nat.le_of_ble_eq_true rfl⟩ rfl hl.1 rfl (Nat.le_of_ble_eq_true rfl) dX0_passYears_12 ⟨Nat.zero_le _, Nat.zero_le _⟩) (fun H locs hR => ?_)
      obtain ⟨x4_5, ex4_5⟩ : ∃ z : Int32, z = x4 + (1 : Int32) := ⟨_, rfl⟩
      replace hf := z_l_e ex4_5 hf
      refine lv_iinc (v := x4_5) (lv' := [(4, .int x4_5), (0, .ref (G.2.2 + 60)), (1, .ref (G.2.2 + o1)), (2, .int x2), (3, .int x3)]) hx hb dX0_passYears_15 hl (k := 4) rfl (by rw [ex4_5]; rfl) (by decide) rfl (fun ls hl => ?_)
      refine lv_goto (tgt := 3) hx hb dX0_passYears_18 (by decide) ?_
      exact ih x4_5 σ_3 _ _ _ hf hR (lv_sub hl [1, 2, 3, 4, 0] rfl)
set_option maxHeartbeats 4000000 in
set_option maxRecDepth 100000 in
theorem c0_passYears (l : Launch) (G : Gp) (N : Nat) {o1 : Nat} (ho1 : (kd o1).1 = 5) {x2 : Int32} {x3 : Int32} {σ σ0 : Mm} {u0 : Unit} (hf : f0_passYears N o1 x2 x3 σ = some (u0, σ0)) : Met l yX0_passYears (WS yX0_passYears cX0_passYears 5 (none)) rm0_passYears (va_Pc [.ref (G.2.2 + 60), .ref (G.2.2 + o1), .int x2, .int x3] (Pd G 212 tt σ)) (P_v G 212 tt u0 σ0) 0 0 (Fr G) := by
  refine ct [(0, .ref (G.2.2 + 60)), (1, .ref (G.2.2 + o1)), (2, .int x2), (3, .int x3)] rfl (by decide) (Nat.le_of_ble_eq_true rfl) ?_
  intro p e s m below meth c ls X hr hlk hR hl
  have X : Cx p s m _ c cX0_passYears 5 RX0 G := X
  have hx := X.1
  have hb := X.2.1
  unfold f0_passYears at hf
  refine lv_iconst (v := (0 : Int32)) hx hb dX0_passYears_0 (by decide) ?_
  refine lv_istore (lv' := [(4, .int (0 : Int32)), (0, .ref (G.2.2 + 60)), (1, .ref (G.2.2 + o1)), (2, .int x2), (3, .int x3)]) hx hb dX0_passYears_1 hl (by decide) rfl (fun ls hl => ?_)
  exact w0_passYears_3 X hr hlk N ho1  N (0 : Int32) σ _ _ _ hf hR (lv_sub hl [1, 2, 3, 4, 0] rfl)
abbrev rm0_walking : Room := { frames := 2, cells := 0, slots := 0, locals := 42 }
def f0_walking (N : Nat) (o1 : Nat) (x2 : Int32) (x3 : Int32) (σ : Mm) : Option (Int32 × Mm) :=
  z_c (inB (3 : Int32) 9) (z_l (sI σ 63 (ix (3 : Int32)) (gI σ o1 0)) fun σ_2 =>
  z_r (gR σ_2 60 1) 3 fun t_3 =>
  z_c (inB x2 7) (
  z_r (gR σ_2 60 1) 3 fun t_6 =>
  z_c (inB x3 7) (
  z_r (gR σ_2 60 1) 3 fun t_9 =>
  z_c (inB x2 7) (
  z_r (gR σ_2 60 1) 3 fun t_12 =>
  z_c (inB x3 7) (
  z_c (inB (6 : Int32) 9) (z_l (sI σ_2 63 (ix (6 : Int32)) ((abI ((gI σ_2 (t_3 + 1) (ix x2)) - (gI σ_2 (t_6 + 1) (ix x3)))) + (abI ((gI σ_2 (t_9 + 2) (ix x2)) - (gI σ_2 (t_12 + 2) (ix x3)))))) fun σ_16 =>
  z_r (gR σ_16 60 1) 3 fun t_17 =>
  z_c (inB x3 7) (
  z_c (inB (7 : Int32) 9) (z_l (sI σ_16 63 (ix (7 : Int32)) (gI σ_16 (t_17 + 1) (ix x3))) fun σ_21 =>
  z_r (gR σ_21 60 1) 3 fun t_22 =>
  z_c (inB x3 7) (
  z_c (inB (8 : Int32) 9) (z_l (sI σ_21 63 (ix (8 : Int32)) (gI σ_21 (t_22 + 2) (ix x3))) fun σ_26 =>
  z_r (gR σ_26 60 1) 3 fun t_27 =>
  z_b (f4_answer N (t_27 + 12) 63 (2 : Int32) σ_26) fun r_29 σ_30 =>
  z_b (f0_heldTo N (99 : Int32) r_29 σ_30) fun r_32 σ_33 =>
  some (r_32, σ_33)))))))))))
set_option maxHeartbeats 4000000 in
set_option maxRecDepth 100000 in
theorem c0_walking (l : Launch) (G : Gp) (N : Nat) {o1 : Nat} (ho1 : (kd o1).1 = 5) {x2 : Int32} {x3 : Int32} {σ σ0 : Mm} {r0 : Int32} (hf : f0_walking N o1 x2 x3 σ = some (r0, σ0)) : Met l yX0_walking (WS yX0_walking cX0_walking 4 (some .int)) rm0_walking (va_Pc [.ref (G.2.2 + 60), .ref (G.2.2 + o1), .int x2, .int x3] (Pd G 212 tt σ)) (P_i G 212 tt r0 σ0) 0 0 (Fr G) := by
  refine ct [(0, .ref (G.2.2 + 60)), (1, .ref (G.2.2 + o1)), (2, .int x2), (3, .int x3)] rfl (by decide) (Nat.le_of_ble_eq_true rfl) ?_
  intro p e s m below meth c ls X hr hlk hR hl
  have X : Cx p s m _ c cX0_walking 4 RX0 G := X
  have hx := X.1
  have hb := X.2.1
  unfold f0_walking at hf
  refine lv_aload_n hx hb dX0_walking_0 rfl (lv_at hl 0 rfl) ?_
  refine r_gs (t := 63) X hR fr_0_18 kh_60 (sx_0_4 kh_60) dX0_walking_1 ?_
  refine lv_iconst (v := (3 : Int32)) hx hb dX0_walking_4 (by decide) ?_
  refine lv_aload_n hx hb dX0_walking_5 rfl (lv_at hl 1 rfl) ?_
  refine r_gi X hR fi_0_52 ho1 dX0_walking_6 ?_
  obtain ⟨hi_1, hf⟩ := z_c_e hf
  refine r_ias X hR ka_63 hi_1 dX0_walking_9 (fun H locs σ_2 eσ_2 hR => ?_)
  replace hf := z_l_e eσ_2 hf
  refine lv_aload_n hx hb dX0_walking_10 rfl (lv_at hl 0 rfl) ?_
  refine r_gs (t := 63) X hR fr_0_18 kh_60 (sx_0_4 kh_60) dX0_walking_11 ?_
  refine lv_bipush (v := (6 : Int32)) hx hb dX0_walking_14 (by decide) ?_
  refine lv_aload_n hx hb dX0_walking_16 rfl (lv_at hl 0 rfl) ?_
  obtain ⟨t_3, ht_4, kht_4, hf⟩ := z_r_e hf
  refine r_gd X hR fr_0_31 kh_60 ht_4 dX0_walking_17 ?_
  refine r_gs (t := (t_3 + 1)) X hR fr_0_150 kht_4 (sx_3_6 kht_4) dX0_walking_20 ?_
  refine lv_iload_n hx hb dX0_walking_23 rfl (lv_at hl 2 rfl) ?_
  obtain ⟨hi_5, hf⟩ := z_c_e hf
  refine r_ial X hR (kx_3_6 kht_4) hi_5 dX0_walking_24 ?_
  refine lv_aload_n hx hb dX0_walking_25 rfl (lv_at hl 0 rfl) ?_
  obtain ⟨t_6, ht_7, kht_7, hf⟩ := z_r_e hf
  refine r_gd X hR fr_0_31 kh_60 ht_7 dX0_walking_26 ?_
  refine r_gs (t := (t_6 + 1)) X hR fr_0_150 kht_7 (sx_3_6 kht_7) dX0_walking_29 ?_
  refine lv_iload_n hx hb dX0_walking_32 rfl (lv_at hl 3 rfl) ?_
  obtain ⟨hi_8, hf⟩ := z_c_e hf
  refine r_ial X hR (kx_3_6 kht_7) hi_8 dX0_walking_33 ?_
  refine lv_isub hx hb dX0_walking_34 ?_
  refine va_mabs hx hb (X.2.2.1.trans hl.1.symm) X.2.2.2.1 (X.2.2.2.2.1 _ jl_0_153) (X.2.2.2.2.1 _ jm_abs_s) (X.2.2.2.2.1 _ jm_ini) (X.2.2.2.2.1 _ jm_abs_c) (Nat.le_of_ble_eq_true rfl) (Nat.le_of_ble_eq_true rfl) (Nat.zero_le _) (Nat.zero_le _) dX0_walking_35 ?_
  refine lv_aload_n hx hb dX0_walking_38 rfl (lv_at hl 0 rfl) ?_
  obtain ⟨t_9, ht_10, kht_10, hf⟩ := z_r_e hf
  refine r_gd X hR fr_0_31 kh_60 ht_10 dX0_walking_39 ?_
  refine r_gs (t := (t_9 + 2)) X hR fr_0_156 kht_10 (sx_3_7 kht_10) dX0_walking_42 ?_
  refine lv_iload_n hx hb dX0_walking_45 rfl (lv_at hl 2 rfl) ?_
  obtain ⟨hi_11, hf⟩ := z_c_e hf
  refine r_ial X hR (kx_3_7 kht_10) hi_11 dX0_walking_46 ?_
  refine lv_aload_n hx hb dX0_walking_47 rfl (lv_at hl 0 rfl) ?_
  obtain ⟨t_12, ht_13, kht_13, hf⟩ := z_r_e hf
  refine r_gd X hR fr_0_31 kh_60 ht_13 dX0_walking_48 ?_
  refine r_gs (t := (t_12 + 2)) X hR fr_0_156 kht_13 (sx_3_7 kht_13) dX0_walking_51 ?_
  refine lv_iload_n hx hb dX0_walking_54 rfl (lv_at hl 3 rfl) ?_
  obtain ⟨hi_14, hf⟩ := z_c_e hf
  refine r_ial X hR (kx_3_7 kht_13) hi_14 dX0_walking_55 ?_
  refine lv_isub hx hb dX0_walking_56 ?_
  refine va_mabs hx hb (X.2.2.1.trans hl.1.symm) X.2.2.2.1 (X.2.2.2.2.1 _ jl_0_153) (X.2.2.2.2.1 _ jm_abs_s) (X.2.2.2.2.1 _ jm_ini) (X.2.2.2.2.1 _ jm_abs_c) (Nat.le_of_ble_eq_true rfl) (Nat.le_of_ble_eq_true rfl) (Nat.zero_le _) (Nat.zero_le _) dX0_walking_57 ?_
  refine lv_iadd hx hb dX0_walking_60 ?_
  obtain ⟨hi_15, hf⟩ := z_c_e hf
  refine r_ias X hR ka_63 hi_15 dX0_walking_61 (fun H locs σ_16 eσ_16 hR => ?_)
  replace hf := z_l_e eσ_16 hf
  refine lv_aload_n hx hb dX0_walking_62 rfl (lv_at hl 0 rfl) ?_
  refine r_gs (t := 63) X hR fr_0_18 kh_60 (sx_0_4 kh_60) dX0_walking_63 ?_
  refine lv_bipush (v := (7 : Int32)) hx hb dX0_walking_66 (by decide) ?_
  refine lv_aload_n hx hb dX0_walking_68 rfl (lv_at hl 0 rfl) ?_
  obtain ⟨t_17, ht_18, kht_18, hf⟩ := z_r_e hf
  refine r_gd X hR fr_0_31 kh_60 ht_18 dX0_walking_69 ?_
  refine r_gs (t := (t_17 + 1)) X hR fr_0_150 kht_18 (sx_3_6 kht_18) dX0_walking_72 ?_
  refine lv_iload_n hx hb dX0_walking_75 rfl (lv_at hl 3 rfl) ?_
  obtain ⟨hi_19, hf⟩ := z_c_e hf
  refine r_ial X hR (kx_3_6 kht_18) hi_19 dX0_walking_76 ?_
  obtain ⟨hi_20, hf⟩ := z_c_e hf
  refine r_ias X hR ka_63 hi_20 dX0_walking_77 (fun H locs σ_21 eσ_21 hR => ?_)
  replace hf := z_l_e eσ_21 hf
  refine lv_aload_n hx hb dX0_walking_78 rfl (lv_at hl 0 rfl) ?_
  refine r_gs (t := 63) X hR fr_0_18 kh_60 (sx_0_4 kh_60) dX0_walking_79 ?_
  refine lv_bipush (v := (8 : Int32)) hx hb dX0_walking_82 (by decide) ?_
  refine lv_aload_n hx hb dX0_walking_84 rfl (lv_at hl 0 rfl) ?_
  obtain ⟨t_22, ht_23, kht_23, hf⟩ := z_r_e hf
  refine r_gd X hR fr_0_31 kh_60 ht_23 dX0_walking_85 ?_
  refine r_gs (t := (t_22 + 2)) X hR fr_0_156 kht_23 (sx_3_7 kht_23) dX0_walking_88 ?_
  refine lv_iload_n hx hb dX0_walking_91 rfl (lv_at hl 3 rfl) ?_
  obtain ⟨hi_24, hf⟩ := z_c_e hf
  refine r_ial X hR (kx_3_7 kht_23) hi_24 dX0_walking_92 ?_
  obtain ⟨hi_25, hf⟩ := z_c_e hf
  refine r_ias X hR ka_63 hi_25 dX0_walking_93 (fun H locs σ_26 eσ_26 hR => ?_)
  replace hf := z_l_e eσ_26 hf
  refine lv_bipush (v := (99 : Int32)) hx hb dX0_walking_94 (by decide) ?_
  refine lv_aload_n hx hb dX0_walking_96 rfl (lv_at hl 0 rfl) ?_
  obtain ⟨t_27, ht_28, kht_28, hf⟩ := z_r_e hf
  refine r_gd X hR fr_0_31 kh_60 ht_28 dX0_walking_97 ?_
  refine r_gs (t := (t_27 + 12)) X hR fr_0_55 kht_28 (sx_3_12 kht_28) dX0_walking_100 ?_
  refine lv_iconst (v := (2 : Int32)) hx hb dX0_walking_103 (by decide) ?_
  refine lv_aload_n hx hb dX0_walking_104 rfl (lv_at hl 0 rfl) ?_
  refine r_gs (t := 63) X hR fr_0_18 kh_60 (sx_0_4 kh_60) dX0_walking_105 ?_
  obtain ⟨r_29, σ_30, hc_31, hf⟩ := z_b_e hf
  refine go_i hR (mv_run (As := [.int (2 : Int32), .ref (G.2.2 + 63)]) (rest := [.int (99 : Int32)]) X hR mv_0_59 (kx_3_12 kht_28) (kd_lt (kx_3_12 kht_28) (by decide)) (c4_answer l G N (kx_3_12 kht_28) ka_63 hc_31) ⟨rfl, rfl, Nat.le_of_ble_eq_true rfl, Nat.le_of_ble_eq_true rfl⟩ rfl hl.1 rfl (Nat.le_of_ble_eq_true rfl) dX0_walking_108 ⟨Nat.zero_le _, Nat.zero_le _⟩) (fun H locs hR => ?_)
  obtain ⟨r_32, σ_33, hc_34, hf⟩ := z_b_e hf
  refine go_i hR (ms_run (As := [.int (99 : Int32), .int r_29]) (rest := []) X hR ms_0_127 (c0_heldTo l G N hc_34) ⟨rfl, rfl, Nat.le_of_ble_eq_true rfl, Nat.le_of_ble_eq_true rfl⟩ rfl hl.1 rfl (Nat.le_of_ble_eq_true rfl) dX0_walking_111 ⟨Nat.zero_le _, Nat.zero_le _⟩) (fun H locs hR => ?_)
  exact e_i X hR hr hlk hf dX0_walking_114
abbrev rm0_asking : Room := { frames := 2, cells := 0, slots := 0, locals := 42 }
def f0_asking (N : Nat) (o1 : Nat) (x2 : Int32) (σ : Mm) : Option (Int32 × Mm) :=
  z_c (inB (3 : Int32) 9) (z_l (sI σ 64 (ix (3 : Int32)) (gI σ o1 0)) fun σ_2 =>
  z_r (gR σ_2 60 1) 3 fun t_3 =>
  z_c (inB x2 7) (
  z_c (inB (7 : Int32) 9) (z_l (sI σ_2 64 (ix (7 : Int32)) (gI σ_2 (t_3 + 1) (ix x2))) fun σ_7 =>
  z_r (gR σ_7 60 1) 3 fun t_8 =>
  z_c (inB x2 7) (
  z_c (inB (8 : Int32) 9) (z_l (sI σ_7 64 (ix (8 : Int32)) (gI σ_7 (t_8 + 2) (ix x2))) fun σ_12 =>
  z_r (gR σ_12 60 1) 3 fun t_13 =>
  z_b (f4_answer N (t_13 + 12) 64 (3 : Int32) σ_12) fun r_15 σ_16 =>
  z_b (f0_heldTo N (99 : Int32) r_15 σ_16) fun r_18 σ_19 =>
  some (r_18, σ_19))))))
set_option maxHeartbeats 4000000 in
set_option maxRecDepth 100000 in
theorem c0_asking (l : Launch) (G : Gp) (N : Nat) {o1 : Nat} (ho1 : (kd o1).1 = 5) {x2 : Int32} {σ σ0 : Mm} {r0 : Int32} (hf : f0_asking N o1 x2 σ = some (r0, σ0)) : Met l yX0_asking (WS yX0_asking cX0_asking 3 (some .int)) rm0_asking (va_Pc [.ref (G.2.2 + 60), .ref (G.2.2 + o1), .int x2] (Pd G 212 tt σ)) (P_i G 212 tt r0 σ0) 0 0 (Fr G) := by
  refine ct [(0, .ref (G.2.2 + 60)), (1, .ref (G.2.2 + o1)), (2, .int x2)] rfl (by decide) (Nat.le_of_ble_eq_true rfl) ?_
  intro p e s m below meth c ls X hr hlk hR hl
  have X : Cx p s m _ c cX0_asking 3 RX0 G := X
  have hx := X.1
  have hb := X.2.1
  unfold f0_asking at hf
  refine lv_aload_n hx hb dX0_asking_0 rfl (lv_at hl 0 rfl) ?_
  refine r_gs (t := 64) X hR fr_0_21 kh_60 (sx_0_5 kh_60) dX0_asking_1 ?_
  refine lv_iconst (v := (3 : Int32)) hx hb dX0_asking_4 (by decide) ?_
  refine lv_aload_n hx hb dX0_asking_5 rfl (lv_at hl 1 rfl) ?_
  refine r_gi X hR fi_0_52 ho1 dX0_asking_6 ?_
  obtain ⟨hi_1, hf⟩ := z_c_e hf
  refine r_ias X hR ka_64 hi_1 dX0_asking_9 (fun H locs σ_2 eσ_2 hR => ?_)
  replace hf := z_l_e eσ_2 hf
  refine lv_aload_n hx hb dX0_asking_10 rfl (lv_at hl 0 rfl) ?_
  refine r_gs (t := 64) X hR fr_0_21 kh_60 (sx_0_5 kh_60) dX0_asking_11 ?_
  refine lv_bipush (v := (7 : Int32)) hx hb dX0_asking_14 (by decide) ?_
  refine lv_aload_n hx hb dX0_asking_16 rfl (lv_at hl 0 rfl) ?_
  obtain ⟨t_3, ht_4, kht_4, hf⟩ := z_r_e hf
  refine r_gd X hR fr_0_31 kh_60 ht_4 dX0_asking_17 ?_
  refine r_gs (t := (t_3 + 1)) X hR fr_0_150 kht_4 (sx_3_6 kht_4) dX0_asking_20 ?_
  refine lv_iload_n hx hb dX0_asking_23 rfl (lv_at hl 2 rfl) ?_
  obtain ⟨hi_5, hf⟩ := z_c_e hf
  refine r_ial X hR (kx_3_6 kht_4) hi_5 dX0_asking_24 ?_
  obtain ⟨hi_6, hf⟩ := z_c_e hf
  refine r_ias X hR ka_64 hi_6 dX0_asking_25 (fun H locs σ_7 eσ_7 hR => ?_)
  replace hf := z_l_e eσ_7 hf
  refine lv_aload_n hx hb dX0_asking_26 rfl (lv_at hl 0 rfl) ?_
  refine r_gs (t := 64) X hR fr_0_21 kh_60 (sx_0_5 kh_60) dX0_asking_27 ?_
  refine lv_bipush (v := (8 : Int32)) hx hb dX0_asking_30 (by decide) ?_
  refine lv_aload_n hx hb dX0_asking_32 rfl (lv_at hl 0 rfl) ?_
  obtain ⟨t_8, ht_9, kht_9, hf⟩ := z_r_e hf
  refine r_gd X hR fr_0_31 kh_60 ht_9 dX0_asking_33 ?_
  refine r_gs (t := (t_8 + 2)) X hR fr_0_156 kht_9 (sx_3_7 kht_9) dX0_asking_36 ?_
  refine lv_iload_n hx hb dX0_asking_39 rfl (lv_at hl 2 rfl) ?_
  obtain ⟨hi_10, hf⟩ := z_c_e hf
  refine r_ial X hR (kx_3_7 kht_9) hi_10 dX0_asking_40 ?_
  obtain ⟨hi_11, hf⟩ := z_c_e hf
  refine r_ias X hR ka_64 hi_11 dX0_asking_41 (fun H locs σ_12 eσ_12 hR => ?_)
  replace hf := z_l_e eσ_12 hf
  refine lv_bipush (v := (99 : Int32)) hx hb dX0_asking_42 (by decide) ?_
  refine lv_aload_n hx hb dX0_asking_44 rfl (lv_at hl 0 rfl) ?_
  obtain ⟨t_13, ht_14, kht_14, hf⟩ := z_r_e hf
  refine r_gd X hR fr_0_31 kh_60 ht_14 dX0_asking_45 ?_
  refine r_gs (t := (t_13 + 12)) X hR fr_0_55 kht_14 (sx_3_12 kht_14) dX0_asking_48 ?_
  refine lv_iconst (v := (3 : Int32)) hx hb dX0_asking_51 (by decide) ?_
  refine lv_aload_n hx hb dX0_asking_52 rfl (lv_at hl 0 rfl) ?_
  refine r_gs (t := 64) X hR fr_0_21 kh_60 (sx_0_5 kh_60) dX0_asking_53 ?_
  obtain ⟨r_15, σ_16, hc_17, hf⟩ := z_b_e hf
  refine go_i hR (mv_run (As := [.int (3 : Int32), .ref (G.2.2 + 64)]) (rest := [.int (99 : Int32)]) X hR mv_0_59 (kx_3_12 kht_14) (kd_lt (kx_3_12 kht_14) (by decide)) (c4_answer l G N (kx_3_12 kht_14) ka_64 hc_17) ⟨rfl, rfl, Nat.le_of_ble_eq_true rfl, Nat.le_of_ble_eq_true rfl⟩ rfl hl.1 rfl (Nat.le_of_ble_eq_true rfl) dX0_asking_56 ⟨Nat.zero_le _, Nat.zero_le _⟩) (fun H locs hR => ?_)
  obtain ⟨r_18, σ_19, hc_20, hf⟩ := z_b_e hf
  refine go_i hR (ms_run (As := [.int (99 : Int32), .int r_15]) (rest := []) X hR ms_0_127 (c0_heldTo l G N hc_20) ⟨rfl, rfl, Nat.le_of_ble_eq_true rfl, Nat.le_of_ble_eq_true rfl⟩ rfl hl.1 rfl (Nat.le_of_ble_eq_true rfl) dX0_asking_59 ⟨Nat.zero_le _, Nat.zero_le _⟩) (fun H locs hR => ?_)
  exact e_i X hR hr hlk hf dX0_asking_62
abbrev rm1_put : Room := { frames := 0, cells := 0, slots := 0, locals := 0 }
def f1_put (N : Nat) (o : Nat) (x1 : Int32) (x2 : Int32) (x3 : Int32) (x4 : Int32) (x5 : Int32) (x6 : Int32) (σ : Mm) : Option (Unit × Mm) :=
  if x1 < 0 then (
  some ((), σ)) else (
  if (20 : Int32) ≤ x1 then (
  some ((), σ)) else (
  z_c (inB x1 20) (z_l (sI σ (o + 1) (ix x1) x2) fun σ_4 =>
  z_c (inB x1 20) (z_l (sI σ_4 (o + 2) (ix x1) x3) fun σ_6 =>
  z_c (inB x1 20) (z_l (sI σ_6 (o + 3) (ix x1) x4) fun σ_8 =>
  z_c (inB x1 20) (z_l (sI σ_8 (o + 4) (ix x1) x5) fun σ_10 =>
  z_c (inB x1 20) (z_l (sI σ_10 (o + 5) (ix x1) x6) fun σ_12 =>
  some ((), σ_12))))))))
set_option maxHeartbeats 4000000 in
set_option maxRecDepth 100000 in
theorem c1_put (l : Launch) (G : Gp) (N : Nat) {o : Nat} (ho : (kd o).1 = 1) {x1 : Int32} {x2 : Int32} {x3 : Int32} {x4 : Int32} {x5 : Int32} {x6 : Int32} {σ σ0 : Mm} {u0 : Unit} (hf : f1_put N o x1 x2 x3 x4 x5 x6 σ = some (u0, σ0)) : Met l yX1_put (WS yX1_put cX1_put 7 (none)) rm1_put (va_Pc [.ref (G.2.2 + o), .int x1, .int x2, .int x3, .int x4, .int x5, .int x6] (Pd G 212 tt σ)) (P_v G 212 tt u0 σ0) 0 0 (Fr G) := by
  refine ct [(0, .ref (G.2.2 + o)), (1, .int x1), (2, .int x2), (3, .int x3), (4, .int x4), (5, .int x5), (6, .int x6)] rfl (by decide) (Nat.le_of_ble_eq_true rfl) ?_
  intro p e s m below meth c ls X hr hlk hR hl
  have X : Cx p s m _ c cX1_put 7 RX1 G := X
  have hx := X.1
  have hb := X.2.1
  unfold f1_put at hf
  refine lv_iload_n hx hb dX1_put_0 rfl (lv_at hl 1 rfl) ?_
  refine lv_if_lt (tgt := 48) hx hb dX1_put_1 (by decide) (fun c_1 => ?_) (fun c_1 => ?_)
  · replace hf := z_t c_1 hf
    exact e_v X hR hr hlk hf dX1_put_48
  · replace hf := z_f c_1 hf
    refine lv_iload_n hx hb dX1_put_4 rfl (lv_at hl 1 rfl) ?_
    refine lv_bipush (v := (20 : Int32)) hx hb dX1_put_5 (by decide) ?_
    refine lv_icmp_ge (tgt := 48) hx hb dX1_put_7 (by decide) (fun c_2 => ?_) (fun c_2 => ?_)
    · replace hf := z_t c_2 hf
      exact e_v X hR hr hlk hf dX1_put_48
    · replace hf := z_f c_2 hf
      refine lv_aload_n hx hb dX1_put_10 rfl (lv_at hl 0 rfl) ?_
      refine r_gs (t := (o + 1)) X hR fr_1_9 ho (sx_1_0 ho) dX1_put_11 ?_
      refine lv_iload_n hx hb dX1_put_14 rfl (lv_at hl 1 rfl) ?_
      refine lv_iload_n hx hb dX1_put_15 rfl (lv_at hl 2 rfl) ?_
      obtain ⟨hi_3, hf⟩ := z_c_e hf
      refine r_ias X hR (kx_1_0 ho) hi_3 dX1_put_16 (fun H locs σ_4 eσ_4 hR => ?_)
      replace hf := z_l_e eσ_4 hf
      refine lv_aload_n hx hb dX1_put_17 rfl (lv_at hl 0 rfl) ?_
      refine r_gs (t := (o + 2)) X hR fr_1_15 ho (sx_1_1 ho) dX1_put_18 ?_
      refine lv_iload_n hx hb dX1_put_21 rfl (lv_at hl 1 rfl) ?_
      refine lv_iload_n hx hb dX1_put_22 rfl (lv_at hl 3 rfl) ?_
      obtain ⟨hi_5, hf⟩ := z_c_e hf
      refine r_ias X hR (kx_1_1 ho) hi_5 dX1_put_23 (fun H locs σ_6 eσ_6 hR => ?_)
      replace hf := z_l_e eσ_6 hf
      refine lv_aload_n hx hb dX1_put_24 rfl (lv_at hl 0 rfl) ?_
      refine r_gs (t := (o + 3)) X hR fr_1_18 ho (sx_1_2 ho) dX1_put_25 ?_
      refine lv_iload_n hx hb dX1_put_28 rfl (lv_at hl 1 rfl) ?_
      refine lv_iload hx hb dX1_put_29 (lv_at hl 4 rfl) ?_
      obtain ⟨hi_7, hf⟩ := z_c_e hf
      refine r_ias X hR (kx_1_2 ho) hi_7 dX1_put_31 (fun H locs σ_8 eσ_8 hR => ?_)
      replace hf := z_l_e eσ_8 hf
      refine lv_aload_n hx hb dX1_put_32 rfl (lv_at hl 0 rfl) ?_
      refine r_gs (t := (o + 4)) X hR fr_1_21 ho (sx_1_3 ho) dX1_put_33 ?_
      refine lv_iload_n hx hb dX1_put_36 rfl (lv_at hl 1 rfl) ?_
      refine lv_iload hx hb dX1_put_37 (lv_at hl 5 rfl) ?_
      obtain ⟨hi_9, hf⟩ := z_c_e hf
      refine r_ias X hR (kx_1_3 ho) hi_9 dX1_put_39 (fun H locs σ_10 eσ_10 hR => ?_)
      replace hf := z_l_e eσ_10 hf
      refine lv_aload_n hx hb dX1_put_40 rfl (lv_at hl 0 rfl) ?_
      refine r_gs (t := (o + 5)) X hR fr_1_24 ho (sx_1_4 ho) dX1_put_41 ?_
      refine lv_iload_n hx hb dX1_put_44 rfl (lv_at hl 1 rfl) ?_
      refine lv_iload hx hb dX1_put_45 (lv_at hl 6 rfl) ?_
      obtain ⟨hi_11, hf⟩ := z_c_e hf
      refine r_ias X hR (kx_1_4 ho) hi_11 dX1_put_47 (fun H locs σ_12 eσ_12 hR => ?_)
      replace hf := z_l_e eσ_12 hf
      exact e_v X hR hr hlk hf dX1_put_48
abbrev rm1_become : Room := { frames := 1, cells := 0, slots := 0, locals := 47 }
def f1_become (N : Nat) (o : Nat) (o1 : Nat) (σ : Mm) : Option (Unit × Mm) :=
  z_l (sIr σ (o + 1) (va_cpy (σ.1 (o1 + 1)) (σ.1 (o + 1)) 0 0 20)) fun σ_1 =>
  z_l (sIr σ_1 (o + 2) (va_cpy (σ_1.1 (o1 + 2)) (σ_1.1 (o + 2)) 0 0 20)) fun σ_2 =>
  z_l (sIr σ_2 (o + 3) (va_cpy (σ_2.1 (o1 + 3)) (σ_2.1 (o + 3)) 0 0 20)) fun σ_3 =>
  z_l (sIr σ_3 (o + 4) (va_cpy (σ_3.1 (o1 + 4)) (σ_3.1 (o + 4)) 0 0 20)) fun σ_4 =>
  z_l (sIr σ_4 (o + 5) (va_cpy (σ_4.1 (o1 + 5)) (σ_4.1 (o + 5)) 0 0 20)) fun σ_5 =>
  some ((), σ_5)
set_option maxHeartbeats 4000000 in
set_option maxRecDepth 100000 in
theorem c1_become (l : Launch) (G : Gp) (N : Nat) {o : Nat} {o1 : Nat} (ho : (kd o).1 = 1) (ho1 : (kd o1).1 = 1) {σ σ0 : Mm} {u0 : Unit} (hf : f1_become N o o1 σ = some (u0, σ0)) : Met l yX1_become (WS yX1_become cX1_become 2 (none)) rm1_become (va_Pc [.ref (G.2.2 + o), .ref (G.2.2 + o1)] (Pd G 212 tt σ)) (P_v G 212 tt u0 σ0) 0 0 (Fr G) := by
  refine ct [(0, .ref (G.2.2 + o)), (1, .ref (G.2.2 + o1))] rfl (by decide) (Nat.le_of_ble_eq_true rfl) ?_
  intro p e s m below meth c ls X hr hlk hR hl
  have X : Cx p s m _ c cX1_become 2 RX1 G := X
  have hx := X.1
  have hb := X.2.1
  unfold f1_become at hf
  refine lv_aload_n hx hb dX1_become_0 rfl (lv_at hl 1 rfl) ?_
  refine r_gs (t := (o1 + 1)) X hR fr_1_9 ho1 (sx_1_0 ho1) dX1_become_1 ?_
  refine lv_iconst (v := (0 : Int32)) hx hb dX1_become_4 (by decide) ?_
  refine lv_aload_n hx hb dX1_become_5 rfl (lv_at hl 0 rfl) ?_
  refine r_gs (t := (o + 1)) X hR fr_1_9 ho (sx_1_0 ho) dX1_become_6 ?_
  refine lv_iconst (v := (0 : Int32)) hx hb dX1_become_9 (by decide) ?_
  refine lv_bipush (v := (20 : Int32)) hx hb dX1_become_10 (by decide) ?_
  refine r_cpy (nn := (20 : Int32)) X hR (kx_1_0 ho1) (kx_1_0 ho) (by decide) (by decide) hl.1 jl_1_27 (Nat.le_of_ble_eq_true rfl) (by decide) dX1_become_12 (fun H locs σ_1 eσ_1 hR => ?_)
  replace hf := z_l_e eσ_1 hf
  refine lv_aload_n hx hb dX1_become_15 rfl (lv_at hl 1 rfl) ?_
  refine r_gs (t := (o1 + 2)) X hR fr_1_15 ho1 (sx_1_1 ho1) dX1_become_16 ?_
  refine lv_iconst (v := (0 : Int32)) hx hb dX1_become_19 (by decide) ?_
  refine lv_aload_n hx hb dX1_become_20 rfl (lv_at hl 0 rfl) ?_
  refine r_gs (t := (o + 2)) X hR fr_1_15 ho (sx_1_1 ho) dX1_become_21 ?_
  refine lv_iconst (v := (0 : Int32)) hx hb dX1_become_24 (by decide) ?_
  refine lv_bipush (v := (20 : Int32)) hx hb dX1_become_25 (by decide) ?_
  refine r_cpy (nn := (20 : Int32)) X hR (kx_1_1 ho1) (kx_1_1 ho) (by decide) (by decide) hl.1 jl_1_27 (Nat.le_of_ble_eq_true rfl) (by decide) dX1_become_27 (fun H locs σ_2 eσ_2 hR => ?_)
  replace hf := z_l_e eσ_2 hf
  refine lv_aload_n hx hb dX1_become_30 rfl (lv_at hl 1 rfl) ?_
  refine r_gs (t := (o1 + 3)) X hR fr_1_18 ho1 (sx_1_2 ho1) dX1_become_31 ?_
  refine lv_iconst (v := (0 : Int32)) hx hb dX1_become_34 (by decide) ?_
  refine lv_aload_n hx hb dX1_become_35 rfl (lv_at hl 0 rfl) ?_
  refine r_gs (t := (o + 3)) X hR fr_1_18 ho (sx_1_2 ho) dX1_become_36 ?_
  refine lv_iconst (v := (0 : Int32)) hx hb dX1_become_39 (by decide) ?_
  refine lv_bipush (v := (20 : Int32)) hx hb dX1_become_40 (by decide) ?_
  refine r_cpy (nn := (20 : Int32)) X hR (kx_1_2 ho1) (kx_1_2 ho) (by decide) (by decide) hl.1 jl_1_27 (Nat.le_of_ble_eq_true rfl) (by decide) dX1_become_42 (fun H locs σ_3 eσ_3 hR => ?_)
  replace hf := z_l_e eσ_3 hf
  refine lv_aload_n hx hb dX1_become_45 rfl (lv_at hl 1 rfl) ?_
  refine r_gs (t := (o1 + 4)) X hR fr_1_21 ho1 (sx_1_3 ho1) dX1_become_46 ?_
  refine lv_iconst (v := (0 : Int32)) hx hb dX1_become_49 (by decide) ?_
  refine lv_aload_n hx hb dX1_become_50 rfl (lv_at hl 0 rfl) ?_
  refine r_gs (t := (o + 4)) X hR fr_1_21 ho (sx_1_3 ho) dX1_become_51 ?_
  refine lv_iconst (v := (0 : Int32)) hx hb dX1_become_54 (by decide) ?_
  refine lv_bipush (v := (20 : Int32)) hx hb dX1_become_55 (by decide) ?_
  refine r_cpy (nn := (20 : Int32)) X hR (kx_1_3 ho1) (kx_1_3 ho) (by decide) (by decide) hl.1 jl_1_27 (Nat.le_of_ble_eq_true rfl) (by decide) dX1_become_57 (fun H locs σ_4 eσ_4 hR => ?_)
  replace hf := z_l_e eσ_4 hf
  refine lv_aload_n hx hb dX1_become_60 rfl (lv_at hl 1 rfl) ?_
  refine r_gs (t := (o1 + 5)) X hR fr_1_24 ho1 (sx_1_4 ho1) dX1_become_61 ?_
  refine lv_iconst (v := (0 : Int32)) hx hb dX1_become_64 (by decide) ?_
  refine lv_aload_n hx hb dX1_become_65 rfl (lv_at hl 0 rfl) ?_
  refine r_gs (t := (o + 5)) X hR fr_1_24 ho (sx_1_4 ho) dX1_become_66 ?_
  refine lv_iconst (v := (0 : Int32)) hx hb dX1_become_69 (by decide) ?_
  refine lv_bipush (v := (20 : Int32)) hx hb dX1_become_70 (by decide) ?_
  refine r_cpy (nn := (20 : Int32)) X hR (kx_1_4 ho1) (kx_1_4 ho) (by decide) (by decide) hl.1 jl_1_27 (Nat.le_of_ble_eq_true rfl) (by decide) dX1_become_72 (fun H locs σ_5 eσ_5 hR => ?_)
  replace hf := z_l_e eσ_5 hf
  exact e_v X hR hr hlk hf dX1_become_75
abbrev rm1_ofPlot : Room := { frames := 0, cells := 0, slots := 0, locals := 0 }
def f1_ofPlot_36 (N : Nat) (k5 : Int32 → Int32 → Mm → Option (Int32 × Mm)) (o : Nat) (x1 : Int32) (x2 : Int32) (x3 : Int32) (x4 : Int32) (σ : Mm) : Option (Int32 × Mm) :=
  z_l (x4 + (1 : Int32)) fun x4_5 =>
  k5 x3 x4_5 σ
def f1_ofPlot_5 (N : Nat) (o : Nat) (x1 : Int32) (x2 : Int32) : Nat → Int32 → Int32 → Mm → Option (Int32 × Mm)
  | 0, _, _, _ => none
  | fu + 1, x3, x4, σ => if x2 ≤ x4 then (
  some (x3, σ)) else (
  if (20 : Int32) ≤ x4 then (
  some (x3, σ)) else (
  z_c (inB x4 20) (
  if (gI σ (o + 1) (ix x4)) = x1 then (
  z_l ((x3 ||| ((1 : Int32) <<< (x4 &&& 31)))) fun x3_6 =>
  f1_ofPlot_36 N (fun x3 x4 σ => f1_ofPlot_5 N o x1 x2 fu x3 x4 σ) o x1 x2 x3_6 x4 σ) else (
  f1_ofPlot_36 N (fun x3 x4 σ => f1_ofPlot_5 N o x1 x2 fu x3 x4 σ) o x1 x2 x3 x4 σ))))
def f1_ofPlot (N : Nat) (o : Nat) (x1 : Int32) (x2 : Int32) (σ : Mm) : Option (Int32 × Mm) :=
  f1_ofPlot_5 N o x1 x2 N (0 : Int32) (0 : Int32) σ
set_option maxHeartbeats 4000000 in
set_option maxRecDepth 100000 in
theorem w1_ofPlot_36 (X : Cx p s m args c cX1_ofPlot 5 RX1 G) (hr : meth.sig.returnType = some .int) (hlk : meth.locks = false) (N : Nat) {o : Nat} (ho : (kd o).1 = 1) {x1 : Int32} {x2 : Int32} {k5 : Int32 → Int32 → Mm → Option (Int32 × Mm)} (hk5 : ∀ (x3 : Int32) (x4 : Int32) (σ : Mm) (H : Heap) (locs : List Loc) (ls : Array Slot), k5 x3 x4 σ = some (r0, σ0) → Rp G 212 tt σ s H locs → lv_has ls 5 [(0, .ref (G.2.2 + o)), (1, .int x1), (2, .int x2), (3, .int x3), (4, .int x4)] → W p l e rm1_ofPlot s m args below meth c H locs 0 0 (MQ below (P_i G 212 tt r0 σ0) args s 0 0 (Fr G)) (F0 m 5 ls [])) :
    ∀ (x3 : Int32) (x4 : Int32) (σ : Mm) (H : Heap) (locs : List Loc) (ls : Array Slot), f1_ofPlot_36 N k5 o x1 x2 x3 x4 σ = some (r0, σ0) → Rp G 212 tt σ s H locs → lv_has ls 5 [(0, .ref (G.2.2 + o)), (1, .int x1), (2, .int x2), (3, .int x3), (4, .int x4)] → W p l e rm1_ofPlot s m args below meth c H locs 0 0 (MQ below (P_i G 212 tt r0 σ0) args s 0 0 (Fr G)) (F0 m 36 ls []) := by
  have hx := X.1
  have hb := X.2.1
  intro x3 x4 σ H locs ls hf hR hl
  unfold f1_ofPlot_36 at hf
  obtain ⟨x4_5, ex4_5⟩ : ∃ z : Int32, z = x4 + (1 : Int32) := ⟨_, rfl⟩
  replace hf := z_l_e ex4_5 hf
  refine lv_iinc (v := x4_5) (lv' := [(4, .int x4_5), (0, .ref (G.2.2 + o)), (1, .int x1), (2, .int x2), (3, .int x3)]) hx hb dX1_ofPlot_36 hl (k := 4) rfl (by rw [ex4_5]; rfl) (by decide) rfl (fun ls hl => ?_)
  refine lv_goto (tgt := 5) hx hb dX1_ofPlot_39 (by decide) ?_
  exact hk5 x3 x4_5 σ _ _ _ hf hR (lv_sub hl [1, 2, 3, 4, 0] rfl)
set_option maxHeartbeats 4000000 in
set_option maxRecDepth 100000 in
theorem w1_ofPlot_5 (X : Cx p s m args c cX1_ofPlot 5 RX1 G) (hr : meth.sig.returnType = some .int) (hlk : meth.locks = false) (N : Nat) {o : Nat} (ho : (kd o).1 = 1) {x1 : Int32} {x2 : Int32} :
    ∀ (fu : Nat) (x3 : Int32) (x4 : Int32) (σ : Mm) (H : Heap) (locs : List Loc) (ls : Array Slot), f1_ofPlot_5 N o x1 x2 fu x3 x4 σ = some (r0, σ0) → Rp G 212 tt σ s H locs → lv_has ls 5 [(0, .ref (G.2.2 + o)), (1, .int x1), (2, .int x2), (3, .int x3), (4, .int x4)] → W p l e rm1_ofPlot s m args below meth c H locs 0 0 (MQ below (P_i G 212 tt r0 σ0) args s 0 0 (Fr G)) (F0 m 5 ls []) := by
  have hx := X.1
  have hb := X.2.1
  intro fu
  induction fu with
  | zero =>
    intro x3 x4 σ H locs ls hf hR hl
    rw [f1_ofPlot_5] at hf
    cases hf
  | succ fu ih =>
    intro x3 x4 σ H locs ls hf hR hl
    rw [f1_ofPlot_5] at hf
    refine lv_iload hx hb dX1_ofPlot_5 (lv_at hl 4 rfl) ?_
    refine lv_iload_n hx hb dX1_ofPlot_7 rfl (lv_at hl 2 rfl) ?_
    refine lv_icmp_ge (tgt := 42) hx hb dX1_ofPlot_8 (by decide) (fun c_1 => ?_) (fun c_1 => ?_)
    · replace hf := z_t c_1 hf
      refine lv_iload_n hx hb dX1_ofPlot_42 rfl (lv_at hl 3 rfl) ?_
      exact e_i X hR hr hlk hf dX1_ofPlot_43
    · replace hf := z_f c_1 hf
      refine lv_iload hx hb dX1_ofPlot_11 (lv_at hl 4 rfl) ?_
      refine lv_bipush (v := (20 : Int32)) hx hb dX1_ofPlot_13 (by decide) ?_
      refine lv_icmp_ge (tgt := 42) hx hb dX1_ofPlot_15 (by decide) (fun c_2 => ?_) (fun c_2 => ?_)
      · replace hf := z_t c_2 hf
        refine lv_iload_n hx hb dX1_ofPlot_42 rfl (lv_at hl 3 rfl) ?_
        exact e_i X hR hr hlk hf dX1_ofPlot_43
      · replace hf := z_f c_2 hf
        refine lv_aload_n hx hb dX1_ofPlot_18 rfl (lv_at hl 0 rfl) ?_
        refine r_gs (t := (o + 1)) X hR fr_1_9 ho (sx_1_0 ho) dX1_ofPlot_19 ?_
        refine lv_iload hx hb dX1_ofPlot_22 (lv_at hl 4 rfl) ?_
        obtain ⟨hi_3, hf⟩ := z_c_e hf
        refine r_ial X hR (kx_1_0 ho) hi_3 dX1_ofPlot_24 ?_
        refine lv_iload_n hx hb dX1_ofPlot_25 rfl (lv_at hl 1 rfl) ?_
        refine lv_icmp_ne (tgt := 36) hx hb dX1_ofPlot_26 (by decide) (fun c_4 => ?_) (fun c_4 => ?_)
        · replace hf := z_f c_4 hf
          exact w1_ofPlot_36 X hr hlk N ho ih x3 x4 σ _ _ _ hf hR (lv_sub hl [0, 1, 2, 3, 4] rfl)
        · replace hf := z_t c_4 hf
          refine lv_iload_n hx hb dX1_ofPlot_29 rfl (lv_at hl 3 rfl) ?_
          refine lv_iconst (v := (1 : Int32)) hx hb dX1_ofPlot_30 (by decide) ?_
          refine lv_iload hx hb dX1_ofPlot_31 (lv_at hl 4 rfl) ?_
          refine lv_ishl hx hb dX1_ofPlot_33 ?_
          refine lv_ior hx hb dX1_ofPlot_34 ?_
          refine lv_topi (fun x3_6 ex3_6 => ?_)
          replace hf := z_l_e ex3_6 hf
          refine lv_istore_n (lv' := [(3, .int x3_6), (0, .ref (G.2.2 + o)), (1, .int x1), (2, .int x2), (4, .int x4)]) hx hb dX1_ofPlot_35 rfl hl (by decide) rfl (fun ls hl => ?_)
          exact w1_ofPlot_36 X hr hlk N ho ih x3_6 x4 σ _ _ _ hf hR (lv_sub hl [1, 2, 3, 0, 4] rfl)
set_option maxHeartbeats 4000000 in
set_option maxRecDepth 100000 in
theorem c1_ofPlot (l : Launch) (G : Gp) (N : Nat) {o : Nat} (ho : (kd o).1 = 1) {x1 : Int32} {x2 : Int32} {σ σ0 : Mm} {r0 : Int32} (hf : f1_ofPlot N o x1 x2 σ = some (r0, σ0)) : Met l yX1_ofPlot (WS yX1_ofPlot cX1_ofPlot 5 (some .int)) rm1_ofPlot (va_Pc [.ref (G.2.2 + o), .int x1, .int x2] (Pd G 212 tt σ)) (P_i G 212 tt r0 σ0) 0 0 (Fr G) := by
  refine ct [(0, .ref (G.2.2 + o)), (1, .int x1), (2, .int x2)] rfl (by decide) (Nat.le_of_ble_eq_true rfl) ?_
  intro p e s m below meth c ls X hr hlk hR hl
  have X : Cx p s m _ c cX1_ofPlot 5 RX1 G := X
  have hx := X.1
  have hb := X.2.1
  unfold f1_ofPlot at hf
  refine lv_iconst (v := (0 : Int32)) hx hb dX1_ofPlot_0 (by decide) ?_
  refine lv_istore_n (lv' := [(3, .int (0 : Int32)), (0, .ref (G.2.2 + o)), (1, .int x1), (2, .int x2)]) hx hb dX1_ofPlot_1 rfl hl (by decide) rfl (fun ls hl => ?_)
  refine lv_iconst (v := (0 : Int32)) hx hb dX1_ofPlot_2 (by decide) ?_
  refine lv_istore (lv' := [(4, .int (0 : Int32)), (3, .int (0 : Int32)), (0, .ref (G.2.2 + o)), (1, .int x1), (2, .int x2)]) hx hb dX1_ofPlot_3 hl (by decide) rfl (fun ls hl => ?_)
  exact w1_ofPlot_5 X hr hlk N ho  N (0 : Int32) (0 : Int32) σ _ _ _ hf hR (lv_sub hl [2, 3, 4, 1, 0] rfl)
abbrev rm9_kindAt : Room := { frames := 0, cells := 0, slots := 0, locals := 0 }
def f9_kindAt (N : Nat) (x1 : Int32) (σ : Mm) : Option (Int32 × Mm) :=
  if x1 < 0 then (
  some ((0 : Int32), σ)) else (
  if (401 : Int32) ≤ x1 then (
  some ((0 : Int32), σ)) else (
  z_c (inB x1 401) (
  some ((gI σ 3 (ix x1)), σ))))
set_option maxHeartbeats 4000000 in
set_option maxRecDepth 100000 in
theorem c9_kindAt (l : Launch) (G : Gp) (N : Nat) {x1 : Int32} {σ σ0 : Mm} {r0 : Int32} (hf : f9_kindAt N x1 σ = some (r0, σ0)) : Met l yX9_kindAt (WS yX9_kindAt cX9_kindAt 2 (some .int)) rm9_kindAt (va_Pc [.ref (G.2.2 + 2), .int x1] (Pd G 212 tt σ)) (P_i G 212 tt r0 σ0) 0 0 (Fr G) := by
  refine ct [(0, .ref (G.2.2 + 2)), (1, .int x1)] rfl (by decide) (Nat.le_of_ble_eq_true rfl) ?_
  intro p e s m below meth c ls X hr hlk hR hl
  have X : Cx p s m _ c cX9_kindAt 2 RX9 G := X
  have hx := X.1
  have hb := X.2.1
  unfold f9_kindAt at hf
  refine lv_iload_n hx hb dX9_kindAt_0 rfl (lv_at hl 1 rfl) ?_
  refine lv_if_lt (tgt := 22) hx hb dX9_kindAt_1 (by decide) (fun c_1 => ?_) (fun c_1 => ?_)
  · replace hf := z_t c_1 hf
    refine lv_iconst (v := (0 : Int32)) hx hb dX9_kindAt_22 (by decide) ?_
    exact e_i X hR hr hlk hf dX9_kindAt_23
  · replace hf := z_f c_1 hf
    refine lv_iload_n hx hb dX9_kindAt_4 rfl (lv_at hl 1 rfl) ?_
    refine lv_aload_n hx hb dX9_kindAt_5 rfl (lv_at hl 0 rfl) ?_
    refine r_gs (t := 3) X hR fr_9_9 kh_2 (sx_9_0 kh_2) dX9_kindAt_6 ?_
    refine r_len (v := (401 : Int32)) X hR ka_3 (by decide) rfl dX9_kindAt_9 ?_
    refine lv_icmp_ge (tgt := 22) hx hb dX9_kindAt_10 (by decide) (fun c_2 => ?_) (fun c_2 => ?_)
    · replace hf := z_t c_2 hf
      refine lv_iconst (v := (0 : Int32)) hx hb dX9_kindAt_22 (by decide) ?_
      exact e_i X hR hr hlk hf dX9_kindAt_23
    · replace hf := z_f c_2 hf
      refine lv_aload_n hx hb dX9_kindAt_13 rfl (lv_at hl 0 rfl) ?_
      refine r_gs (t := 3) X hR fr_9_9 kh_2 (sx_9_0 kh_2) dX9_kindAt_14 ?_
      refine lv_iload_n hx hb dX9_kindAt_17 rfl (lv_at hl 1 rfl) ?_
      obtain ⟨hi_3, hf⟩ := z_c_e hf
      refine r_ial X hR ka_3 hi_3 dX9_kindAt_18 ?_
      refine lv_goto (tgt := 23) hx hb dX9_kindAt_19 (by decide) ?_
      exact e_i X hR hr hlk hf dX9_kindAt_23
abbrev rm9_refuse : Room := { frames := 0, cells := 0, slots := 0, locals := 0 }
def f9_refuse_29 (N : Nat) (s1 : Int32) (σ : Mm) : Option (Int32 × Mm) :=
  z_l (sI σ 2 5 s1) fun σ_3 =>
  some ((0 : Int32), σ_3)
def f9_refuse_28 (N : Nat) (σ : Mm) : Option (Int32 × Mm) :=
  f9_refuse_29 N (-1 : Int32) σ
def f9_refuse (N : Nat) (x1 : Int32) (x2 : Int32) (σ : Mm) : Option (Int32 × Mm) :=
  z_l (sI σ 2 4 x1) fun σ_1 =>
  if x2 < 0 then (
  f9_refuse_28 N σ_1) else (
  if (401 : Int32) ≤ x2 then (
  f9_refuse_28 N σ_1) else (
  z_c (inB x2 401) (
  f9_refuse_29 N (gI σ_1 4 (ix x2)) σ_1)))
set_option maxHeartbeats 4000000 in
set_option maxRecDepth 100000 in
theorem w9_refuse_29 (X : Cx p s m args c cX9_refuse 3 RX9 G) (hr : meth.sig.returnType = some .boolean) (hlk : meth.locks = false) (N : Nat) :
    ∀ (s1 : Int32) (σ : Mm) (H : Heap) (locs : List Loc) (ls : Array Slot), f9_refuse_29 N s1 σ = some (r0, σ0) → Rp G 212 tt σ s H locs → lv_has ls 3 [] → W p l e rm9_refuse s m args below meth c H locs 0 0 (MQ below (P_i G 212 tt r0 σ0) args s 0 0 (Fr G)) (F0 m 29 ls [.int s1, .ref (G.2.2 + 2)]) := by
  have hx := X.1
  have hb := X.2.1
  intro s1 σ H locs ls hf hR hl
  unfold f9_refuse_29 at hf
  refine r_pi X hR pi_9_29 kh_2 dX9_refuse_29 (fun H locs σ_3 eσ_3 hR => ?_)
  replace hf := z_l_e eσ_3 hf
  refine lv_iconst (v := (0 : Int32)) hx hb dX9_refuse_32 (by decide) ?_
  exact e_z X hR hr hlk rfl hf dX9_refuse_33
set_option maxHeartbeats 4000000 in
set_option maxRecDepth 100000 in
theorem w9_refuse_28 (X : Cx p s m args c cX9_refuse 3 RX9 G) (hr : meth.sig.returnType = some .boolean) (hlk : meth.locks = false) (N : Nat) :
    ∀ (σ : Mm) (H : Heap) (locs : List Loc) (ls : Array Slot), f9_refuse_28 N σ = some (r0, σ0) → Rp G 212 tt σ s H locs → lv_has ls 3 [] → W p l e rm9_refuse s m args below meth c H locs 0 0 (MQ below (P_i G 212 tt r0 σ0) args s 0 0 (Fr G)) (F0 m 28 ls [.ref (G.2.2 + 2)]) := by
  have hx := X.1
  have hb := X.2.1
  intro σ H locs ls hf hR hl
  unfold f9_refuse_28 at hf
  refine lv_iconst (v := (-1 : Int32)) hx hb dX9_refuse_28 (by decide) ?_
  exact w9_refuse_29 X hr hlk N  (-1 : Int32) σ _ _ _ hf hR (lv_sub hl [] rfl)
set_option maxHeartbeats 4000000 in
set_option maxRecDepth 100000 in
theorem c9_refuse (l : Launch) (G : Gp) (N : Nat) {x1 : Int32} {x2 : Int32} {σ σ0 : Mm} {r0 : Int32} (hf : f9_refuse N x1 x2 σ = some (r0, σ0)) : Met l yX9_refuse (WS yX9_refuse cX9_refuse 3 (some .boolean)) rm9_refuse (va_Pc [.ref (G.2.2 + 2), .int x1, .int x2] (Pd G 212 tt σ)) (P_i G 212 tt r0 σ0) 0 0 (Fr G) := by
  refine ct [(0, .ref (G.2.2 + 2)), (1, .int x1), (2, .int x2)] rfl (by decide) (Nat.le_of_ble_eq_true rfl) ?_
  intro p e s m below meth c ls X hr hlk hR hl
  have X : Cx p s m _ c cX9_refuse 3 RX9 G := X
  have hx := X.1
  have hb := X.2.1
  unfold f9_refuse at hf
  refine lv_aload_n hx hb dX9_refuse_0 rfl (lv_at hl 0 rfl) ?_
  refine lv_iload_n hx hb dX9_refuse_1 rfl (lv_at hl 1 rfl) ?_
  refine r_pi X hR pi_9_25 kh_2 dX9_refuse_2 (fun H locs σ_1 eσ_1 hR => ?_)
  replace hf := z_l_e eσ_1 hf
  refine lv_aload_n hx hb dX9_refuse_5 rfl (lv_at hl 0 rfl) ?_
  refine lv_iload_n hx hb dX9_refuse_6 rfl (lv_at hl 2 rfl) ?_
  refine lv_if_lt (tgt := 28) hx hb dX9_refuse_7 (by decide) (fun c_2 => ?_) (fun c_2 => ?_)
  · replace hf := z_t c_2 hf
    exact w9_refuse_28 X hr hlk N   σ_1 _ _ _ hf hR (lv_sub hl [] rfl)
  · replace hf := z_f c_2 hf
    refine lv_iload_n hx hb dX9_refuse_10 rfl (lv_at hl 2 rfl) ?_
    refine lv_aload_n hx hb dX9_refuse_11 rfl (lv_at hl 0 rfl) ?_
    refine r_gs (t := 4) X hR fr_9_15 kh_2 (sx_9_1 kh_2) dX9_refuse_12 ?_
    refine r_len (v := (401 : Int32)) X hR ka_4 (by decide) rfl dX9_refuse_15 ?_
    refine lv_icmp_ge (tgt := 28) hx hb dX9_refuse_16 (by decide) (fun c_4 => ?_) (fun c_4 => ?_)
    · replace hf := z_t c_4 hf
      exact w9_refuse_28 X hr hlk N   σ_1 _ _ _ hf hR (lv_sub hl [] rfl)
    · replace hf := z_f c_4 hf
      refine lv_aload_n hx hb dX9_refuse_19 rfl (lv_at hl 0 rfl) ?_
      refine r_gs (t := 4) X hR fr_9_15 kh_2 (sx_9_1 kh_2) dX9_refuse_20 ?_
      refine lv_iload_n hx hb dX9_refuse_23 rfl (lv_at hl 2 rfl) ?_
      obtain ⟨hi_5, hf⟩ := z_c_e hf
      refine r_ial X hR ka_4 hi_5 dX9_refuse_24 ?_
      refine lv_goto (tgt := 29) hx hb dX9_refuse_25 (by decide) ?_
      exact w9_refuse_29 X hr hlk N  (gI σ_1 4 (ix x2)) σ_1 _ _ _ hf hR (lv_sub hl [] rfl)
abbrev rm2_take : Room := { frames := 1, cells := 0, slots := 0, locals := 22 }
def f2_take (N : Nat) (x1 : Int32) (σ : Mm) : Option (Int32 × Mm) :=
  z_b (f9_kindAt N (gI σ 47 2) σ) fun r_1 σ_2 =>
  if r_1 = x1 then (
  if (gI σ_2 47 2) < (400 : Int32) then (
  z_l (sI σ_2 47 2 ((gI σ_2 47 2) + (1 : Int32))) fun σ_6 =>
  some ((1 : Int32), σ_6)) else (
  z_b (f9_refuse N (2 : Int32) (gI σ_2 47 2) σ_2) fun r_7 σ_8 =>
  z_c (isZ r_7) (some (r_7, σ_8)))) else (
  z_b (f9_refuse N (1 : Int32) (gI σ_2 47 2) σ_2) fun r_11 σ_12 =>
  z_c (isZ r_11) (some (r_11, σ_12)))
set_option maxHeartbeats 4000000 in
set_option maxRecDepth 100000 in
theorem c2_take (l : Launch) (G : Gp) (N : Nat) {x1 : Int32} {σ σ0 : Mm} {r0 : Int32} (hf : f2_take N x1 σ = some (r0, σ0)) : Met l yX2_take (WS yX2_take cX2_take 2 (some .boolean)) rm2_take (va_Pc [.ref (G.2.2 + 47), .int x1] (Pd G 212 tt σ)) (P_i G 212 tt r0 σ0) 0 0 (Fr G) := by
  refine ct [(0, .ref (G.2.2 + 47)), (1, .int x1)] rfl (by decide) (Nat.le_of_ble_eq_true rfl) ?_
  intro p e s m below meth c ls X hr hlk hR hl
  have X : Cx p s m _ c cX2_take 2 RX2 G := X
  have hx := X.1
  have hb := X.2.1
  unfold f2_take at hf
  refine lv_aload_n hx hb dX2_take_0 rfl (lv_at hl 0 rfl) ?_
  refine r_gs (t := 2) X hR fr_2_37 kh_47 (sx_2_0 kh_47) dX2_take_1 ?_
  refine lv_aload_n hx hb dX2_take_4 rfl (lv_at hl 0 rfl) ?_
  refine r_gi X hR fi_2_9 kh_47 dX2_take_5 ?_
  obtain ⟨r_1, σ_2, hc_3, hf⟩ := z_b_e hf
  refine go_i hR (mv_run (As := [.int (gI σ 47 2)]) (rest := []) X hR mv_2_48 kh_2 (kd_lt kh_2 (by decide)) (c9_kindAt l G N hc_3) ⟨rfl, rfl, Nat.le_of_ble_eq_true rfl, Nat.le_of_ble_eq_true rfl⟩ rfl hl.1 rfl (Nat.le_of_ble_eq_true rfl) dX2_take_8 ⟨Nat.zero_le _, Nat.zero_le _⟩) (fun H locs hR => ?_)
  refine lv_iload_n hx hb dX2_take_11 rfl (lv_at hl 1 rfl) ?_
  refine lv_icmp_eq (tgt := 28) hx hb dX2_take_12 (by decide) (fun c_4 => ?_) (fun c_4 => ?_)
  · replace hf := z_t c_4 hf
    refine lv_aload_n hx hb dX2_take_28 rfl (lv_at hl 0 rfl) ?_
    refine r_gi X hR fi_2_9 kh_47 dX2_take_29 ?_
    refine lv_sipush (v := (400 : Int32)) hx hb dX2_take_32 (by decide) ?_
    refine lv_icmp_lt (tgt := 51) hx hb dX2_take_35 (by decide) (fun c_5 => ?_) (fun c_5 => ?_)
    · replace hf := z_t c_5 hf
      refine lv_aload_n hx hb dX2_take_51 rfl (lv_at hl 0 rfl) ?_
      refine lv_dup hx hb dX2_take_52 rfl ?_
      refine r_gi X hR fi_2_9 kh_47 dX2_take_53 ?_
      refine lv_iconst (v := (1 : Int32)) hx hb dX2_take_56 (by decide) ?_
      refine lv_iadd hx hb dX2_take_57 ?_
      refine r_pi X hR pi_2_9 kh_47 dX2_take_58 (fun H locs σ_6 eσ_6 hR => ?_)
      replace hf := z_l_e eσ_6 hf
      refine lv_iconst (v := (1 : Int32)) hx hb dX2_take_61 (by decide) ?_
      exact e_z X hR hr hlk rfl hf dX2_take_62
    · replace hf := z_f c_5 hf
      refine lv_aload_n hx hb dX2_take_38 rfl (lv_at hl 0 rfl) ?_
      refine r_gs (t := 2) X hR fr_2_37 kh_47 (sx_2_0 kh_47) dX2_take_39 ?_
      refine lv_iconst (v := (2 : Int32)) hx hb dX2_take_42 (by decide) ?_
      refine lv_aload_n hx hb dX2_take_43 rfl (lv_at hl 0 rfl) ?_
      refine r_gi X hR fi_2_9 kh_47 dX2_take_44 ?_
      obtain ⟨r_7, σ_8, hc_9, hf⟩ := z_b_e hf
      refine go_i hR (mv_run (As := [.int (2 : Int32), .int (gI σ_2 47 2)]) (rest := []) X hR mv_2_72 kh_2 (kd_lt kh_2 (by decide)) (c9_refuse l G N hc_9) ⟨rfl, rfl, Nat.le_of_ble_eq_true rfl, Nat.le_of_ble_eq_true rfl⟩ rfl hl.1 rfl (Nat.le_of_ble_eq_true rfl) dX2_take_47 ⟨Nat.zero_le _, Nat.zero_le _⟩) (fun H locs hR => ?_)
      obtain ⟨hz_10, hf⟩ := z_c_e hf
      exact e_z X hR hr hlk hz_10 hf dX2_take_50
  · replace hf := z_f c_4 hf
    refine lv_aload_n hx hb dX2_take_15 rfl (lv_at hl 0 rfl) ?_
    refine r_gs (t := 2) X hR fr_2_37 kh_47 (sx_2_0 kh_47) dX2_take_16 ?_
    refine lv_iconst (v := (1 : Int32)) hx hb dX2_take_19 (by decide) ?_
    refine lv_aload_n hx hb dX2_take_20 rfl (lv_at hl 0 rfl) ?_
    refine r_gi X hR fi_2_9 kh_47 dX2_take_21 ?_
    obtain ⟨r_11, σ_12, hc_13, hf⟩ := z_b_e hf
    refine go_i hR (mv_run (As := [.int (1 : Int32), .int (gI σ_2 47 2)]) (rest := []) X hR mv_2_72 kh_2 (kd_lt kh_2 (by decide)) (c9_refuse l G N hc_13) ⟨rfl, rfl, Nat.le_of_ble_eq_true rfl, Nat.le_of_ble_eq_true rfl⟩ rfl hl.1 rfl (Nat.le_of_ble_eq_true rfl) dX2_take_24 ⟨Nat.zero_le _, Nat.zero_le _⟩) (fun H locs hR => ?_)
    obtain ⟨hz_14, hf⟩ := z_c_e hf
    exact e_z X hR hr hlk hz_14 hf dX2_take_27
abbrev rm4_begin : Room := { frames := 0, cells := 0, slots := 0, locals := 0 }
def f4_begin (N : Nat) (o : Nat) (x1 : Int32) (σ : Mm) : Option (Unit × Mm) :=
  if x1 < 0 then (
  some ((), σ)) else (
  if (4 : Int32) ≤ x1 then (
  some ((), σ)) else (
  z_c (inB x1 4) (z_l (sI σ (o + 3) (ix x1) (gI σ o 2)) fun σ_4 =>
  some ((), σ_4))))
set_option maxHeartbeats 4000000 in
set_option maxRecDepth 100000 in
theorem c4_begin (l : Launch) (G : Gp) (N : Nat) {o : Nat} (ho : (kd o).1 = 4) {x1 : Int32} {σ σ0 : Mm} {u0 : Unit} (hf : f4_begin N o x1 σ = some (u0, σ0)) : Met l yX4_begin (WS yX4_begin cX4_begin 2 (none)) rm4_begin (va_Pc [.ref (G.2.2 + o), .int x1] (Pd G 212 tt σ)) (P_v G 212 tt u0 σ0) 0 0 (Fr G) := by
  refine ct [(0, .ref (G.2.2 + o)), (1, .int x1)] rfl (by decide) (Nat.le_of_ble_eq_true rfl) ?_
  intro p e s m below meth c ls X hr hlk hR hl
  have X : Cx p s m _ c cX4_begin 2 RX4 G := X
  have hx := X.1
  have hb := X.2.1
  unfold f4_begin at hf
  refine lv_iload_n hx hb dX4_begin_0 rfl (lv_at hl 1 rfl) ?_
  refine lv_if_lt (tgt := 23) hx hb dX4_begin_1 (by decide) (fun c_1 => ?_) (fun c_1 => ?_)
  · replace hf := z_t c_1 hf
    exact e_v X hR hr hlk hf dX4_begin_23
  · replace hf := z_f c_1 hf
    refine lv_iload_n hx hb dX4_begin_4 rfl (lv_at hl 1 rfl) ?_
    refine lv_aload_n hx hb dX4_begin_5 rfl (lv_at hl 0 rfl) ?_
    refine r_gs (t := (o + 3)) X hR fr_4_22 ho (sx_4_3 ho) dX4_begin_6 ?_
    refine r_len (v := (4 : Int32)) X hR (kx_4_3 ho) (by decide) rfl dX4_begin_9 ?_
    refine lv_icmp_ge (tgt := 23) hx hb dX4_begin_10 (by decide) (fun c_2 => ?_) (fun c_2 => ?_)
    · replace hf := z_t c_2 hf
      exact e_v X hR hr hlk hf dX4_begin_23
    · replace hf := z_f c_2 hf
      refine lv_aload_n hx hb dX4_begin_13 rfl (lv_at hl 0 rfl) ?_
      refine r_gs (t := (o + 3)) X hR fr_4_22 ho (sx_4_3 ho) dX4_begin_14 ?_
      refine lv_iload_n hx hb dX4_begin_17 rfl (lv_at hl 1 rfl) ?_
      refine lv_aload_n hx hb dX4_begin_18 rfl (lv_at hl 0 rfl) ?_
      refine r_gi X hR fi_4_18 ho dX4_begin_19 ?_
      obtain ⟨hi_3, hf⟩ := z_c_e hf
      refine r_ias X hR (kx_4_3 ho) hi_3 dX4_begin_22 (fun H locs σ_4 eσ_4 hR => ?_)
      replace hf := z_l_e eσ_4 hf
      exact e_v X hR hr hlk hf dX4_begin_23
abbrev rm2_await : Room := { frames := 0, cells := 0, slots := 0, locals := 0 }
def f2_await (N : Nat) (x1 : Int32) (σ : Mm) : Option (Unit × Mm) :=
  if (21 : Int32) ≤ (gI σ 47 8) then (
  some ((), σ)) else (
  z_c (inB (gI σ 47 8) 21) (z_l (sI σ 48 (ix (gI σ 47 8)) x1) fun σ_3 =>
  z_l (sI σ_3 47 8 ((gI σ_3 47 8) + (1 : Int32))) fun σ_4 =>
  some ((), σ_4)))
set_option maxHeartbeats 4000000 in
set_option maxRecDepth 100000 in
theorem c2_await (l : Launch) (G : Gp) (N : Nat) {x1 : Int32} {σ σ0 : Mm} {u0 : Unit} (hf : f2_await N x1 σ = some (u0, σ0)) : Met l yX2_await (WS yX2_await cX2_await 2 (none)) rm2_await (va_Pc [.ref (G.2.2 + 47), .int x1] (Pd G 212 tt σ)) (P_v G 212 tt u0 σ0) 0 0 (Fr G) := by
  refine ct [(0, .ref (G.2.2 + 47)), (1, .int x1)] rfl (by decide) (Nat.le_of_ble_eq_true rfl) ?_
  intro p e s m below meth c ls X hr hlk hR hl
  have X : Cx p s m _ c cX2_await 2 RX2 G := X
  have hx := X.1
  have hb := X.2.1
  unfold f2_await at hf
  refine lv_aload_n hx hb dX2_await_0 rfl (lv_at hl 0 rfl) ?_
  refine r_gi X hR fi_2_31 kh_47 dX2_await_1 ?_
  refine lv_aload_n hx hb dX2_await_4 rfl (lv_at hl 0 rfl) ?_
  refine r_gs (t := 48) X hR fr_2_27 kh_47 (sx_2_7 kh_47) dX2_await_5 ?_
  refine r_len (v := (21 : Int32)) X hR ka_48 (by decide) rfl dX2_await_8 ?_
  refine lv_icmp_ge (tgt := 32) hx hb dX2_await_9 (by decide) (fun c_1 => ?_) (fun c_1 => ?_)
  · replace hf := z_t c_1 hf
    exact e_v X hR hr hlk hf dX2_await_32
  · replace hf := z_f c_1 hf
    refine lv_aload_n hx hb dX2_await_12 rfl (lv_at hl 0 rfl) ?_
    refine r_gs (t := 48) X hR fr_2_27 kh_47 (sx_2_7 kh_47) dX2_await_13 ?_
    refine lv_aload_n hx hb dX2_await_16 rfl (lv_at hl 0 rfl) ?_
    refine r_gi X hR fi_2_31 kh_47 dX2_await_17 ?_
    refine lv_iload_n hx hb dX2_await_20 rfl (lv_at hl 1 rfl) ?_
    obtain ⟨hi_2, hf⟩ := z_c_e hf
    refine r_ias X hR ka_48 hi_2 dX2_await_21 (fun H locs σ_3 eσ_3 hR => ?_)
    replace hf := z_l_e eσ_3 hf
    refine lv_aload_n hx hb dX2_await_22 rfl (lv_at hl 0 rfl) ?_
    refine lv_dup hx hb dX2_await_23 rfl ?_
    refine r_gi X hR fi_2_31 kh_47 dX2_await_24 ?_
    refine lv_iconst (v := (1 : Int32)) hx hb dX2_await_27 (by decide) ?_
    refine lv_iadd hx hb dX2_await_28 ?_
    refine r_pi X hR pi_2_31 kh_47 dX2_await_29 (fun H locs σ_4 eσ_4 hR => ?_)
    replace hf := z_l_e eσ_4 hf
    exact e_v X hR hr hlk hf dX2_await_32
abbrev rm2_takeOpenings : Room := { frames := 2, cells := 0, slots := 0, locals := 43 }
def f2_takeOpenings_34 (N : Nat) (σ : Mm) : Option (Int32 × Mm) :=
  z_b (f9_refuse N (2 : Int32) (gI σ 47 2) σ) fun r_16 σ_17 =>
  z_c (isZ r_16) (some (r_16, σ_17))
def f2_takeOpenings_2 (N : Nat) : Nat → Int32 → Mm → Option (Int32 × Mm)
  | 0, _, _ => none
  | fu + 1, x1, σ => if (400 : Int32) < x1 then (
  some ((1 : Int32), σ)) else (
  z_b (f9_kindAt N (gI σ 47 2) σ) fun r_2 σ_3 =>
  if r_2 = (11 : Int32) then (
  if (gI σ_3 47 9) = (6 : Int32) then (
  f2_takeOpenings_34 N σ_3) else (
  z_b (f2_take N (11 : Int32) σ_3) fun r_7 σ_8 =>
  if r_7 = 0 then (
  some ((0 : Int32), σ_8)) else (
  z_b (f2_await N (11 : Int32) σ_8) fun _ σ_12 =>
  z_l (sI σ_12 47 9 ((gI σ_12 47 9) + (1 : Int32))) fun σ_14 =>
  z_l (x1 + (1 : Int32)) fun x1_15 =>
  f2_takeOpenings_2 N fu x1_15 σ_14))) else (
  some ((1 : Int32), σ_3)))
def f2_takeOpenings (N : Nat) (σ : Mm) : Option (Int32 × Mm) :=
  f2_takeOpenings_2 N N (0 : Int32) σ
set_option maxHeartbeats 4000000 in
set_option maxRecDepth 100000 in
theorem w2_takeOpenings_34 (X : Cx p s m args c cX2_takeOpenings 2 RX2 G) (hr : meth.sig.returnType = some .boolean) (hlk : meth.locks = false) (N : Nat) :
    ∀ (σ : Mm) (H : Heap) (locs : List Loc) (ls : Array Slot), f2_takeOpenings_34 N σ = some (r0, σ0) → Rp G 212 tt σ s H locs → lv_has ls 2 [(0, .ref (G.2.2 + 47))] → W p l e rm2_takeOpenings s m args below meth c H locs 0 0 (MQ below (P_i G 212 tt r0 σ0) args s 0 0 (Fr G)) (F0 m 34 ls []) := by
  have hx := X.1
  have hb := X.2.1
  intro σ H locs ls hf hR hl
  unfold f2_takeOpenings_34 at hf
  refine lv_aload_n hx hb dX2_takeOpenings_34 rfl (lv_at hl 0 rfl) ?_
  refine r_gs (t := 2) X hR fr_2_37 kh_47 (sx_2_0 kh_47) dX2_takeOpenings_35 ?_
  refine lv_iconst (v := (2 : Int32)) hx hb dX2_takeOpenings_38 (by decide) ?_
  refine lv_aload_n hx hb dX2_takeOpenings_39 rfl (lv_at hl 0 rfl) ?_
  refine r_gi X hR fi_2_9 kh_47 dX2_takeOpenings_40 ?_
  obtain ⟨r_16, σ_17, hc_18, hf⟩ := z_b_e hf
  refine go_i hR (mv_run (As := [.int (2 : Int32), .int (gI σ 47 2)]) (rest := []) X hR mv_2_72 kh_2 (kd_lt kh_2 (by decide)) (c9_refuse l G N hc_18) ⟨rfl, rfl, Nat.le_of_ble_eq_true rfl, Nat.le_of_ble_eq_true rfl⟩ rfl hl.1 rfl (Nat.le_of_ble_eq_true rfl) dX2_takeOpenings_43 ⟨Nat.zero_le _, Nat.zero_le _⟩) (fun H locs hR => ?_)
  obtain ⟨hz_19, hf⟩ := z_c_e hf
  exact e_z X hR hr hlk hz_19 hf dX2_takeOpenings_46
set_option maxHeartbeats 4000000 in
set_option maxRecDepth 100000 in
theorem w2_takeOpenings_2 (X : Cx p s m args c cX2_takeOpenings 2 RX2 G) (hr : meth.sig.returnType = some .boolean) (hlk : meth.locks = false) (N : Nat) :
    ∀ (fu : Nat) (x1 : Int32) (σ : Mm) (H : Heap) (locs : List Loc) (ls : Array Slot), f2_takeOpenings_2 N fu x1 σ = some (r0, σ0) → Rp G 212 tt σ s H locs → lv_has ls 2 [(0, .ref (G.2.2 + 47)), (1, .int x1)] → W p l e rm2_takeOpenings s m args below meth c H locs 0 0 (MQ below (P_i G 212 tt r0 σ0) args s 0 0 (Fr G)) (F0 m 2 ls []) := by
  have hx := X.1
  have hb := X.2.1
  intro fu
  induction fu with
  | zero =>
    intro x1 σ H locs ls hf hR hl
    rw [f2_takeOpenings_2] at hf
    cases hf
  | succ fu ih =>
    intro x1 σ H locs ls hf hR hl
    rw [f2_takeOpenings_2] at hf
    refine lv_iload_n hx hb dX2_takeOpenings_2 rfl (lv_at hl 1 rfl) ?_
    refine lv_sipush (v := (400 : Int32)) hx hb dX2_takeOpenings_3 (by decide) ?_
    refine lv_icmp_gt (tgt := 80) hx hb dX2_takeOpenings_6 (by decide) (fun c_1 => ?_) (fun c_1 => ?_)
    · replace hf := z_t c_1 hf
      refine lv_iconst (v := (1 : Int32)) hx hb dX2_takeOpenings_80 (by decide) ?_
      exact e_z X hR hr hlk rfl hf dX2_takeOpenings_81
    · replace hf := z_f c_1 hf
      refine lv_aload_n hx hb dX2_takeOpenings_9 rfl (lv_at hl 0 rfl) ?_
      refine r_gs (t := 2) X hR fr_2_37 kh_47 (sx_2_0 kh_47) dX2_takeOpenings_10 ?_
      refine lv_aload_n hx hb dX2_takeOpenings_13 rfl (lv_at hl 0 rfl) ?_
      refine r_gi X hR fi_2_9 kh_47 dX2_takeOpenings_14 ?_
      obtain ⟨r_2, σ_3, hc_4, hf⟩ := z_b_e hf
      refine go_i hR (mv_run (As := [.int (gI σ 47 2)]) (rest := []) X hR mv_2_48 kh_2 (kd_lt kh_2 (by decide)) (c9_kindAt l G N hc_4) ⟨rfl, rfl, Nat.le_of_ble_eq_true rfl, Nat.le_of_ble_eq_true rfl⟩ rfl hl.1 rfl (Nat.le_of_ble_eq_true rfl) dX2_takeOpenings_17 ⟨Nat.zero_le _, Nat.zero_le _⟩) (fun H locs hR => ?_)
      refine lv_bipush (v := (11 : Int32)) hx hb dX2_takeOpenings_20 (by decide) ?_
      refine lv_icmp_ne (tgt := 80) hx hb dX2_takeOpenings_22 (by decide) (fun c_5 => ?_) (fun c_5 => ?_)
      · replace hf := z_f c_5 hf
        refine lv_iconst (v := (1 : Int32)) hx hb dX2_takeOpenings_80 (by decide) ?_
        exact e_z X hR hr hlk rfl hf dX2_takeOpenings_81
      · replace hf := z_t c_5 hf
        refine lv_aload_n hx hb dX2_takeOpenings_25 rfl (lv_at hl 0 rfl) ?_
        refine r_gi X hR fi_2_34 kh_47 dX2_takeOpenings_26 ?_
        refine lv_bipush (v := (6 : Int32)) hx hb dX2_takeOpenings_29 (by decide) ?_
        refine lv_icmp_ne (tgt := 47) hx hb dX2_takeOpenings_31 (by decide) (fun c_6 => ?_) (fun c_6 => ?_)
        · replace hf := z_f c_6 hf
          refine lv_aload_n hx hb dX2_takeOpenings_47 rfl (lv_at hl 0 rfl) ?_
          refine lv_bipush (v := (11 : Int32)) hx hb dX2_takeOpenings_48 (by decide) ?_
          obtain ⟨r_7, σ_8, hc_9, hf⟩ := z_b_e hf
          refine go_i hR (mv_run (As := [.int (11 : Int32)]) (rest := []) X hR mv_2_65 kh_47 (kd_lt kh_47 (by decide)) (c2_take l G N hc_9) ⟨rfl, rfl, Nat.le_of_ble_eq_true rfl, Nat.le_of_ble_eq_true rfl⟩ rfl hl.1 rfl (Nat.le_of_ble_eq_true rfl) dX2_takeOpenings_50 ⟨Nat.zero_le _, Nat.zero_le _⟩) (fun H locs hR => ?_)
          refine lv_if_ne (tgt := 58) hx hb dX2_takeOpenings_53 (by decide) (fun c_10 => ?_) (fun c_10 => ?_)
          · replace hf := z_f c_10 hf
            refine lv_aload_n hx hb dX2_takeOpenings_58 rfl (lv_at hl 0 rfl) ?_
            refine lv_bipush (v := (11 : Int32)) hx hb dX2_takeOpenings_59 (by decide) ?_
            obtain ⟨r_11, σ_12, hc_13, hf⟩ := z_b_e hf
            refine go_v hR (mv_run (As := [.int (11 : Int32)]) (rest := []) X hR mv_2_106 kh_47 (kd_lt kh_47 (by decide)) (c2_await l G N hc_13) ⟨rfl, rfl, Nat.le_of_ble_eq_true rfl, Nat.le_of_ble_eq_true rfl⟩ rfl hl.1 rfl (Nat.le_of_ble_eq_true rfl) dX2_takeOpenings_61 ⟨Nat.zero_le _, Nat.zero_le _⟩) (fun H locs hR => ?_)
            refine lv_aload_n hx hb dX2_takeOpenings_64 rfl (lv_at hl 0 rfl) ?_
            refine lv_dup hx hb dX2_takeOpenings_65 rfl ?_
            refine r_gi X hR fi_2_34 kh_47 dX2_takeOpenings_66 ?_
            refine lv_iconst (v := (1 : Int32)) hx hb dX2_takeOpenings_69 (by decide) ?_
            refine lv_iadd hx hb dX2_takeOpenings_70 ?_
            refine r_pi X hR pi_2_34 kh_47 dX2_takeOpenings_71 (fun H locs σ_14 eσ_14 hR => ?_)
            replace hf := z_l_e eσ_14 hf
            obtain ⟨x1_15, ex1_15⟩ : ∃ z : Int32, z = x1 + (1 : Int32) := ⟨_, rfl⟩
            replace hf := z_l_e ex1_15 hf
            refine lv_iinc (v := x1_15) (lv' := [(1, .int x1_15), (0, .ref (G.2.2 + 47))]) hx hb dX2_takeOpenings_74 hl (k := 1) rfl (by rw [ex1_15]; rfl) (by decide) rfl (fun ls hl => ?_)
            refine lv_goto (tgt := 2) hx hb dX2_takeOpenings_77 (by decide) ?_
            exact ih x1_15 σ_14 _ _ _ hf hR (lv_sub hl [1, 0] rfl)
          · replace hf := z_t c_10 hf
            refine lv_iconst (v := (0 : Int32)) hx hb dX2_takeOpenings_56 (by decide) ?_
            exact e_z X hR hr hlk rfl hf dX2_takeOpenings_57
        · replace hf := z_t c_6 hf
          exact w2_takeOpenings_34 X hr hlk N   σ_3 _ _ _ hf hR (lv_sub hl [0] rfl)
set_option maxHeartbeats 4000000 in
set_option maxRecDepth 100000 in
theorem c2_takeOpenings (l : Launch) (G : Gp) (N : Nat) {σ σ0 : Mm} {r0 : Int32} (hf : f2_takeOpenings N σ = some (r0, σ0)) : Met l yX2_takeOpenings (WS yX2_takeOpenings cX2_takeOpenings 2 (some .boolean)) rm2_takeOpenings (va_Pc [.ref (G.2.2 + 47)] (Pd G 212 tt σ)) (P_i G 212 tt r0 σ0) 0 0 (Fr G) := by
  refine ct [(0, .ref (G.2.2 + 47))] rfl (by decide) (Nat.le_of_ble_eq_true rfl) ?_
  intro p e s m below meth c ls X hr hlk hR hl
  have X : Cx p s m _ c cX2_takeOpenings 2 RX2 G := X
  have hx := X.1
  have hb := X.2.1
  unfold f2_takeOpenings at hf
  refine lv_iconst (v := (0 : Int32)) hx hb dX2_takeOpenings_0 (by decide) ?_
  refine lv_istore_n (lv' := [(1, .int (0 : Int32)), (0, .ref (G.2.2 + 47))]) hx hb dX2_takeOpenings_1 rfl hl (by decide) rfl (fun ls hl => ?_)
  exact w2_takeOpenings_2 X hr hlk N  N (0 : Int32) σ _ _ _ hf hR (lv_sub hl [1, 0] rfl)
abbrev rm9_valueAt : Room := { frames := 0, cells := 0, slots := 0, locals := 0 }
def f9_valueAt (N : Nat) (x1 : Int32) (σ : Mm) : Option (Int64 × Mm) :=
  if x1 < 0 then (
  some ((0 : Int64), σ)) else (
  if (401 : Int32) ≤ x1 then (
  some ((0 : Int64), σ)) else (
  z_c (inB x1 401) (
  some ((gL σ 5 (ix x1)), σ))))
set_option maxHeartbeats 4000000 in
set_option maxRecDepth 100000 in
theorem c9_valueAt (l : Launch) (G : Gp) (N : Nat) {x1 : Int32} {σ σ0 : Mm} {l0 : Int64} (hf : f9_valueAt N x1 σ = some (l0, σ0)) : Met l yX9_valueAt (WS yX9_valueAt cX9_valueAt 2 (some .long)) rm9_valueAt (va_Pc [.ref (G.2.2 + 2), .int x1] (Pd G 212 tt σ)) (P_l G 212 tt l0 σ0) 0 0 (Fr G) := by
  refine ct [(0, .ref (G.2.2 + 2)), (1, .int x1)] rfl (by decide) (Nat.le_of_ble_eq_true rfl) ?_
  intro p e s m below meth c ls X hr hlk hR hl
  have X : Cx p s m _ c cX9_valueAt 2 RX9 G := X
  have hx := X.1
  have hb := X.2.1
  unfold f9_valueAt at hf
  refine lv_iload_n hx hb dX9_valueAt_0 rfl (lv_at hl 1 rfl) ?_
  refine lv_if_lt (tgt := 22) hx hb dX9_valueAt_1 (by decide) (fun c_1 => ?_) (fun c_1 => ?_)
  · replace hf := z_t c_1 hf
    refine lv_lconst (v := (0 : Int64)) hx hb dX9_valueAt_22 (by decide) ?_
    exact e_l X hR hr hlk hf dX9_valueAt_23
  · replace hf := z_f c_1 hf
    refine lv_iload_n hx hb dX9_valueAt_4 rfl (lv_at hl 1 rfl) ?_
    refine lv_aload_n hx hb dX9_valueAt_5 rfl (lv_at hl 0 rfl) ?_
    refine r_gs (t := 5) X hR fr_9_18 kh_2 (sx_9_2 kh_2) dX9_valueAt_6 ?_
    refine r_len (v := (401 : Int32)) X hR ka_5 (by decide) rfl dX9_valueAt_9 ?_
    refine lv_icmp_ge (tgt := 22) hx hb dX9_valueAt_10 (by decide) (fun c_2 => ?_) (fun c_2 => ?_)
    · replace hf := z_t c_2 hf
      refine lv_lconst (v := (0 : Int64)) hx hb dX9_valueAt_22 (by decide) ?_
      exact e_l X hR hr hlk hf dX9_valueAt_23
    · replace hf := z_f c_2 hf
      refine lv_aload_n hx hb dX9_valueAt_13 rfl (lv_at hl 0 rfl) ?_
      refine r_gs (t := 5) X hR fr_9_18 kh_2 (sx_9_2 kh_2) dX9_valueAt_14 ?_
      refine lv_iload_n hx hb dX9_valueAt_17 rfl (lv_at hl 1 rfl) ?_
      obtain ⟨hi_3, hf⟩ := z_c_e hf
      refine r_lal X hR ka_5 hi_3 dX9_valueAt_18 ?_
      refine lv_goto (tgt := 23) hx hb dX9_valueAt_19 (by decide) ?_
      exact e_l X hR hr hlk hf dX9_valueAt_23
abbrev rm4_put : Room := { frames := 0, cells := 0, slots := 0, locals := 0 }
def f4_put (N : Nat) (o : Nat) (x1 : Int32) (x2 : Int32) (σ : Mm) : Option (Int32 × Mm) :=
  z_l ((gI σ o 2)) fun x3_1 =>
  if (416 : Int32) ≤ x3_1 then (
  some (x3_1, σ)) else (
  z_c (inB x3_1 416) (z_l (sI σ (o + 1) (ix x3_1) x1) fun σ_4 =>
  z_c (inB x3_1 416) (z_l (sI σ_4 (o + 2) (ix x3_1) x2) fun σ_6 =>
  z_l (sI σ_6 o 2 ((gI σ_6 o 2) + (1 : Int32))) fun σ_7 =>
  some (x3_1, σ_7))))
set_option maxHeartbeats 4000000 in
set_option maxRecDepth 100000 in
theorem c4_put (l : Launch) (G : Gp) (N : Nat) {o : Nat} (ho : (kd o).1 = 4) {x1 : Int32} {x2 : Int32} {σ σ0 : Mm} {r0 : Int32} (hf : f4_put N o x1 x2 σ = some (r0, σ0)) : Met l yX4_put (WS yX4_put cX4_put 4 (some .int)) rm4_put (va_Pc [.ref (G.2.2 + o), .int x1, .int x2] (Pd G 212 tt σ)) (P_i G 212 tt r0 σ0) 0 0 (Fr G) := by
  refine ct [(0, .ref (G.2.2 + o)), (1, .int x1), (2, .int x2)] rfl (by decide) (Nat.le_of_ble_eq_true rfl) ?_
  intro p e s m below meth c ls X hr hlk hR hl
  have X : Cx p s m _ c cX4_put 4 RX4 G := X
  have hx := X.1
  have hb := X.2.1
  unfold f4_put at hf
  refine lv_aload_n hx hb dX4_put_0 rfl (lv_at hl 0 rfl) ?_
  refine r_gi X hR fi_4_18 ho dX4_put_1 ?_
  refine lv_topi (fun x3_1 ex3_1 => ?_)
  replace hf := z_l_e ex3_1 hf
  refine lv_istore_n (lv' := [(3, .int x3_1), (0, .ref (G.2.2 + o)), (1, .int x1), (2, .int x2)]) hx hb dX4_put_4 rfl hl (by decide) rfl (fun ls hl => ?_)
  refine lv_iload_n hx hb dX4_put_5 rfl (lv_at hl 0 rfl) ?_
  refine lv_aload_n hx hb dX4_put_6 rfl (lv_at hl 1 rfl) ?_
  refine r_gs (t := (o + 1)) X hR fr_4_9 ho (sx_4_0 ho) dX4_put_7 ?_
  refine r_len (v := (416 : Int32)) X hR (kx_4_0 ho) (by decide) rfl dX4_put_10 ?_
  refine lv_icmp_ge (tgt := 38) hx hb dX4_put_11 (by decide) (fun c_2 => ?_) (fun c_2 => ?_)
  · replace hf := z_t c_2 hf
    refine lv_iload_n hx hb dX4_put_38 rfl (lv_at hl 0 rfl) ?_
    exact e_i X hR hr hlk hf dX4_put_39
  · replace hf := z_f c_2 hf
    refine lv_aload_n hx hb dX4_put_14 rfl (lv_at hl 1 rfl) ?_
    refine r_gs (t := (o + 1)) X hR fr_4_9 ho (sx_4_0 ho) dX4_put_15 ?_
    refine lv_iload_n hx hb dX4_put_18 rfl (lv_at hl 0 rfl) ?_
    refine lv_iload_n hx hb dX4_put_19 rfl (lv_at hl 2 rfl) ?_
    obtain ⟨hi_3, hf⟩ := z_c_e hf
    refine r_ias X hR (kx_4_0 ho) hi_3 dX4_put_20 (fun H locs σ_4 eσ_4 hR => ?_)
    replace hf := z_l_e eσ_4 hf
    refine lv_aload_n hx hb dX4_put_21 rfl (lv_at hl 1 rfl) ?_
    refine r_gs (t := (o + 2)) X hR fr_4_15 ho (sx_4_1 ho) dX4_put_22 ?_
    refine lv_iload_n hx hb dX4_put_25 rfl (lv_at hl 0 rfl) ?_
    refine lv_iload_n hx hb dX4_put_26 rfl (lv_at hl 3 rfl) ?_
    obtain ⟨hi_5, hf⟩ := z_c_e hf
    refine r_ias X hR (kx_4_1 ho) hi_5 dX4_put_27 (fun H locs σ_6 eσ_6 hR => ?_)
    replace hf := z_l_e eσ_6 hf
    refine lv_aload_n hx hb dX4_put_28 rfl (lv_at hl 1 rfl) ?_
    refine lv_dup hx hb dX4_put_29 rfl ?_
    refine r_gi X hR fi_4_18 ho dX4_put_30 ?_
    refine lv_iconst (v := (1 : Int32)) hx hb dX4_put_33 (by decide) ?_
    refine lv_iadd hx hb dX4_put_34 ?_
    refine r_pi X hR pi_4_18 ho dX4_put_35 (fun H locs σ_7 eσ_7 hR => ?_)
    replace hf := z_l_e eσ_7 hf
    refine lv_iload_n hx hb dX4_put_38 rfl (lv_at hl 0 rfl) ?_
    exact e_i X hR hr hlk hf dX4_put_39
abbrev rm2_takeUnit : Room := { frames := 2, cells := 0, slots := 0, locals := 43 }
def f2_takeUnit_75 (N : Nat) (σ : Mm) : Option (Int32 × Mm) :=
  z_b (f9_refuse N (1 : Int32) (gI σ 47 2) σ) fun r_6 σ_7 =>
  z_c (isZ r_6) (some (r_6, σ_7))
def f2_takeUnit (N : Nat) (σ : Mm) : Option (Int32 × Mm) :=
  z_b (f9_kindAt N (gI σ 47 2) σ) fun r_1 σ_2 =>
  if r_1 = (3 : Int32) then (
  z_r (gR σ_2 47 1) 4 fun t_20 =>
  z_b (f9_valueAt N (gI σ_2 47 2) σ_2) fun r_22 σ_23 =>
  z_b (f4_put N t_20 (0 : Int32) ((r_22).toInt32) σ_23) fun r_25 σ_26 =>
  z_b (f2_take N r_1 σ_26) fun r_28 σ_29 =>
  z_c (isZ r_28) (some (r_28, σ_29))) else (
  if r_1 < (26 : Int32) then (
  f2_takeUnit_75 N σ_2) else (
  if (34 : Int32) < r_1 then (
  f2_takeUnit_75 N σ_2) else (
  z_r (gR σ_2 47 1) 4 fun t_11 =>
  z_b (f4_put N t_11 (1 : Int32) (r_1 - (26 : Int32)) σ_2) fun r_13 σ_14 =>
  z_b (f2_take N r_1 σ_14) fun r_16 σ_17 =>
  z_c (isZ r_16) (some (r_16, σ_17)))))
set_option maxHeartbeats 4000000 in
set_option maxRecDepth 100000 in
theorem w2_takeUnit_75 (X : Cx p s m args c cX2_takeUnit 2 RX2 G) (hr : meth.sig.returnType = some .boolean) (hlk : meth.locks = false) (N : Nat) :
    ∀ (σ : Mm) (H : Heap) (locs : List Loc) (ls : Array Slot), f2_takeUnit_75 N σ = some (r0, σ0) → Rp G 212 tt σ s H locs → lv_has ls 2 [(0, .ref (G.2.2 + 47))] → W p l e rm2_takeUnit s m args below meth c H locs 0 0 (MQ below (P_i G 212 tt r0 σ0) args s 0 0 (Fr G)) (F0 m 75 ls []) := by
  have hx := X.1
  have hb := X.2.1
  intro σ H locs ls hf hR hl
  unfold f2_takeUnit_75 at hf
  refine lv_aload_n hx hb dX2_takeUnit_75 rfl (lv_at hl 0 rfl) ?_
  refine r_gs (t := 2) X hR fr_2_37 kh_47 (sx_2_0 kh_47) dX2_takeUnit_76 ?_
  refine lv_iconst (v := (1 : Int32)) hx hb dX2_takeUnit_79 (by decide) ?_
  refine lv_aload_n hx hb dX2_takeUnit_80 rfl (lv_at hl 0 rfl) ?_
  refine r_gi X hR fi_2_9 kh_47 dX2_takeUnit_81 ?_
  obtain ⟨r_6, σ_7, hc_8, hf⟩ := z_b_e hf
  refine go_i hR (mv_run (As := [.int (1 : Int32), .int (gI σ 47 2)]) (rest := []) X hR mv_2_72 kh_2 (kd_lt kh_2 (by decide)) (c9_refuse l G N hc_8) ⟨rfl, rfl, Nat.le_of_ble_eq_true rfl, Nat.le_of_ble_eq_true rfl⟩ rfl hl.1 rfl (Nat.le_of_ble_eq_true rfl) dX2_takeUnit_84 ⟨Nat.zero_le _, Nat.zero_le _⟩) (fun H locs hR => ?_)
  obtain ⟨hz_9, hf⟩ := z_c_e hf
  exact e_z X hR hr hlk hz_9 hf dX2_takeUnit_87
set_option maxHeartbeats 4000000 in
set_option maxRecDepth 100000 in
theorem c2_takeUnit (l : Launch) (G : Gp) (N : Nat) {σ σ0 : Mm} {r0 : Int32} (hf : f2_takeUnit N σ = some (r0, σ0)) : Met l yX2_takeUnit (WS yX2_takeUnit cX2_takeUnit 2 (some .boolean)) rm2_takeUnit (va_Pc [.ref (G.2.2 + 47)] (Pd G 212 tt σ)) (P_i G 212 tt r0 σ0) 0 0 (Fr G) := by
  refine ct [(0, .ref (G.2.2 + 47))] rfl (by decide) (Nat.le_of_ble_eq_true rfl) ?_
  intro p e s m below meth c ls X hr hlk hR hl
  have X : Cx p s m _ c cX2_takeUnit 2 RX2 G := X
  have hx := X.1
  have hb := X.2.1
  unfold f2_takeUnit at hf
  refine lv_aload_n hx hb dX2_takeUnit_0 rfl (lv_at hl 0 rfl) ?_
  refine r_gs (t := 2) X hR fr_2_37 kh_47 (sx_2_0 kh_47) dX2_takeUnit_1 ?_
  refine lv_aload_n hx hb dX2_takeUnit_4 rfl (lv_at hl 0 rfl) ?_
  refine r_gi X hR fi_2_9 kh_47 dX2_takeUnit_5 ?_
  obtain ⟨r_1, σ_2, hc_3, hf⟩ := z_b_e hf
  refine go_i hR (mv_run (As := [.int (gI σ 47 2)]) (rest := []) X hR mv_2_48 kh_2 (kd_lt kh_2 (by decide)) (c9_kindAt l G N hc_3) ⟨rfl, rfl, Nat.le_of_ble_eq_true rfl, Nat.le_of_ble_eq_true rfl⟩ rfl hl.1 rfl (Nat.le_of_ble_eq_true rfl) dX2_takeUnit_8 ⟨Nat.zero_le _, Nat.zero_le _⟩) (fun H locs hR => ?_)
  refine lv_istore_n (lv' := [(1, .int r_1), (0, .ref (G.2.2 + 47))]) hx hb dX2_takeUnit_11 rfl hl (by decide) rfl (fun ls hl => ?_)
  refine lv_iload_n hx hb dX2_takeUnit_12 rfl (lv_at hl 0 rfl) ?_
  refine lv_iconst (v := (3 : Int32)) hx hb dX2_takeUnit_13 (by decide) ?_
  refine lv_icmp_ne (tgt := 44) hx hb dX2_takeUnit_14 (by decide) (fun c_4 => ?_) (fun c_4 => ?_)
  · replace hf := z_f c_4 hf
    refine lv_iload_n hx hb dX2_takeUnit_44 rfl (lv_at hl 0 rfl) ?_
    refine lv_bipush (v := (26 : Int32)) hx hb dX2_takeUnit_45 (by decide) ?_
    refine lv_icmp_lt (tgt := 75) hx hb dX2_takeUnit_47 (by decide) (fun c_5 => ?_) (fun c_5 => ?_)
    · replace hf := z_t c_5 hf
      exact w2_takeUnit_75 X hr hlk N   σ_2 _ _ _ hf hR (lv_sub hl [1] rfl)
    · replace hf := z_f c_5 hf
      refine lv_iload_n hx hb dX2_takeUnit_50 rfl (lv_at hl 0 rfl) ?_
      refine lv_bipush (v := (34 : Int32)) hx hb dX2_takeUnit_51 (by decide) ?_
      refine lv_icmp_gt (tgt := 75) hx hb dX2_takeUnit_53 (by decide) (fun c_10 => ?_) (fun c_10 => ?_)
      · replace hf := z_t c_10 hf
        exact w2_takeUnit_75 X hr hlk N   σ_2 _ _ _ hf hR (lv_sub hl [1] rfl)
      · replace hf := z_f c_10 hf
        refine lv_aload_n hx hb dX2_takeUnit_56 rfl (lv_at hl 1 rfl) ?_
        obtain ⟨t_11, ht_12, kht_12, hf⟩ := z_r_e hf
        refine r_gd X hR fr_2_47 kh_47 ht_12 dX2_takeUnit_57 ?_
        refine lv_iconst (v := (1 : Int32)) hx hb dX2_takeUnit_60 (by decide) ?_
        refine lv_iload_n hx hb dX2_takeUnit_61 rfl (lv_at hl 0 rfl) ?_
        refine lv_bipush (v := (26 : Int32)) hx hb dX2_takeUnit_62 (by decide) ?_
        refine lv_isub hx hb dX2_takeUnit_64 ?_
        obtain ⟨r_13, σ_14, hc_15, hf⟩ := z_b_e hf
        refine go_i hR (mv_run (As := [.int (1 : Int32), .int (r_1 - (26 : Int32))]) (rest := []) X hR mv_2_84 kht_12 (kd_lt kht_12 (by decide)) (c4_put l G N kht_12 hc_15) ⟨rfl, rfl, Nat.le_of_ble_eq_true rfl, Nat.le_of_ble_eq_true rfl⟩ rfl hl.1 rfl (Nat.le_of_ble_eq_true rfl) dX2_takeUnit_65 ⟨Nat.zero_le _, Nat.zero_le _⟩) (fun H locs hR => ?_)
        refine lv_pop hx hb dX2_takeUnit_68 rfl ?_
        refine lv_aload_n hx hb dX2_takeUnit_69 rfl (lv_at hl 1 rfl) ?_
        refine lv_iload_n hx hb dX2_takeUnit_70 rfl (lv_at hl 0 rfl) ?_
        obtain ⟨r_16, σ_17, hc_18, hf⟩ := z_b_e hf
        refine go_i hR (mv_run (As := [.int r_1]) (rest := []) X hR mv_2_65 kh_47 (kd_lt kh_47 (by decide)) (c2_take l G N hc_18) ⟨rfl, rfl, Nat.le_of_ble_eq_true rfl, Nat.le_of_ble_eq_true rfl⟩ rfl hl.1 rfl (Nat.le_of_ble_eq_true rfl) dX2_takeUnit_71 ⟨Nat.zero_le _, Nat.zero_le _⟩) (fun H locs hR => ?_)
        obtain ⟨hz_19, hf⟩ := z_c_e hf
        exact e_z X hR hr hlk hz_19 hf dX2_takeUnit_74
  · replace hf := z_t c_4 hf
    refine lv_aload_n hx hb dX2_takeUnit_17 rfl (lv_at hl 1 rfl) ?_
    obtain ⟨t_20, ht_21, kht_21, hf⟩ := z_r_e hf
    refine r_gd X hR fr_2_47 kh_47 ht_21 dX2_takeUnit_18 ?_
    refine lv_iconst (v := (0 : Int32)) hx hb dX2_takeUnit_21 (by decide) ?_
    refine lv_aload_n hx hb dX2_takeUnit_22 rfl (lv_at hl 1 rfl) ?_
    refine r_gs (t := 2) X hR fr_2_37 kh_47 (sx_2_0 kh_47) dX2_takeUnit_23 ?_
    refine lv_aload_n hx hb dX2_takeUnit_26 rfl (lv_at hl 1 rfl) ?_
    refine r_gi X hR fi_2_9 kh_47 dX2_takeUnit_27 ?_
    obtain ⟨r_22, σ_23, hc_24, hf⟩ := z_b_e hf
    refine go_l hR (mv_run (As := [.int (gI σ_2 47 2)]) (rest := [.int (0 : Int32), .ref (G.2.2 + t_20)]) X hR mv_2_109 kh_2 (kd_lt kh_2 (by decide)) (c9_valueAt l G N hc_24) ⟨rfl, rfl, Nat.le_of_ble_eq_true rfl, Nat.le_of_ble_eq_true rfl⟩ rfl hl.1 rfl (Nat.le_of_ble_eq_true rfl) dX2_takeUnit_30 ⟨Nat.zero_le _, Nat.zero_le _⟩) (fun H locs hR => ?_)
    refine lv_l2i (v := ((r_22).toInt32)) hx hb dX2_takeUnit_33 rfl ?_
    obtain ⟨r_25, σ_26, hc_27, hf⟩ := z_b_e hf
    refine go_i hR (mv_run (As := [.int (0 : Int32), .int ((r_22).toInt32)]) (rest := []) X hR mv_2_84 kht_21 (kd_lt kht_21 (by decide)) (c4_put l G N kht_21 hc_27) ⟨rfl, rfl, Nat.le_of_ble_eq_true rfl, Nat.le_of_ble_eq_true rfl⟩ rfl hl.1 rfl (Nat.le_of_ble_eq_true rfl) dX2_takeUnit_34 ⟨Nat.zero_le _, Nat.zero_le _⟩) (fun H locs hR => ?_)
    refine lv_pop hx hb dX2_takeUnit_37 rfl ?_
    refine lv_aload_n hx hb dX2_takeUnit_38 rfl (lv_at hl 1 rfl) ?_
    refine lv_iload_n hx hb dX2_takeUnit_39 rfl (lv_at hl 0 rfl) ?_
    obtain ⟨r_28, σ_29, hc_30, hf⟩ := z_b_e hf
    refine go_i hR (mv_run (As := [.int r_1]) (rest := []) X hR mv_2_65 kh_47 (kd_lt kh_47 (by decide)) (c2_take l G N hc_30) ⟨rfl, rfl, Nat.le_of_ble_eq_true rfl, Nat.le_of_ble_eq_true rfl⟩ rfl hl.1 rfl (Nat.le_of_ble_eq_true rfl) dX2_takeUnit_40 ⟨Nat.zero_le _, Nat.zero_le _⟩) (fun H locs hR => ?_)
    obtain ⟨hz_31, hf⟩ := z_c_e hf
    exact e_z X hR hr hlk hz_31 hf dX2_takeUnit_43
abbrev rm2_rank : Room := { frames := 0, cells := 0, slots := 0, locals := 0 }
def f2_rank (N : Nat) (x0 : Int32) (σ : Mm) : Option (Int32 × Mm) :=
  if x0 = (6 : Int32) then (
  some ((1 : Int32), σ)) else (
  if x0 = (7 : Int32) then (
  some ((1 : Int32), σ)) else (
  if x0 = (8 : Int32) then (
  some ((2 : Int32), σ)) else (
  if x0 = (9 : Int32) then (
  some ((2 : Int32), σ)) else (
  some ((0 : Int32), σ)))))
set_option maxHeartbeats 4000000 in
set_option maxRecDepth 100000 in
theorem c2_rank (l : Launch) (G : Gp) (N : Nat) {x0 : Int32} {σ σ0 : Mm} {r0 : Int32} (hf : f2_rank N x0 σ = some (r0, σ0)) : Met l yX2_rank (WS yX2_rank cX2_rank 1 (some .int)) rm2_rank (va_Pc [.int x0] (Pd G 212 tt σ)) (P_i G 212 tt r0 σ0) 0 0 (Fr G) := by
  refine ct [(0, .int x0)] rfl (by decide) (Nat.le_of_ble_eq_true rfl) ?_
  intro p e s m below meth c ls X hr hlk hR hl
  have X : Cx p s m _ c cX2_rank 1 RX2 G := X
  have hx := X.1
  have hb := X.2.1
  unfold f2_rank at hf
  refine lv_iload_n hx hb dX2_rank_0 rfl (lv_at hl 0 rfl) ?_
  refine lv_bipush (v := (6 : Int32)) hx hb dX2_rank_1 (by decide) ?_
  refine lv_icmp_eq (tgt := 12) hx hb dX2_rank_3 (by decide) (fun c_1 => ?_) (fun c_1 => ?_)
  · replace hf := z_t c_1 hf
    refine lv_iconst (v := (1 : Int32)) hx hb dX2_rank_12 (by decide) ?_
    exact e_i X hR hr hlk hf dX2_rank_13
  · replace hf := z_f c_1 hf
    refine lv_iload_n hx hb dX2_rank_6 rfl (lv_at hl 0 rfl) ?_
    refine lv_bipush (v := (7 : Int32)) hx hb dX2_rank_7 (by decide) ?_
    refine lv_icmp_ne (tgt := 14) hx hb dX2_rank_9 (by decide) (fun c_2 => ?_) (fun c_2 => ?_)
    · replace hf := z_f c_2 hf
      refine lv_iload_n hx hb dX2_rank_14 rfl (lv_at hl 0 rfl) ?_
      refine lv_bipush (v := (8 : Int32)) hx hb dX2_rank_15 (by decide) ?_
      refine lv_icmp_eq (tgt := 26) hx hb dX2_rank_17 (by decide) (fun c_3 => ?_) (fun c_3 => ?_)
      · replace hf := z_t c_3 hf
        refine lv_iconst (v := (2 : Int32)) hx hb dX2_rank_26 (by decide) ?_
        refine lv_goto (tgt := 31) hx hb dX2_rank_27 (by decide) ?_
        exact e_i X hR hr hlk hf dX2_rank_31
      · replace hf := z_f c_3 hf
        refine lv_iload_n hx hb dX2_rank_20 rfl (lv_at hl 0 rfl) ?_
        refine lv_bipush (v := (9 : Int32)) hx hb dX2_rank_21 (by decide) ?_
        refine lv_icmp_ne (tgt := 30) hx hb dX2_rank_23 (by decide) (fun c_4 => ?_) (fun c_4 => ?_)
        · replace hf := z_f c_4 hf
          refine lv_iconst (v := (0 : Int32)) hx hb dX2_rank_30 (by decide) ?_
          exact e_i X hR hr hlk hf dX2_rank_31
        · replace hf := z_t c_4 hf
          refine lv_iconst (v := (2 : Int32)) hx hb dX2_rank_26 (by decide) ?_
          refine lv_goto (tgt := 31) hx hb dX2_rank_27 (by decide) ?_
          exact e_i X hR hr hlk hf dX2_rank_31
    · replace hf := z_t c_2 hf
      refine lv_iconst (v := (1 : Int32)) hx hb dX2_rank_12 (by decide) ?_
      exact e_i X hR hr hlk hf dX2_rank_13
abbrev rm2_settle : Room := { frames := 1, cells := 0, slots := 0, locals := 23 }
def f2_settle_6 (N : Nat) (x1 : Int32) : Nat → Int32 → Mm → Option (Unit × Mm)
  | 0, _, _ => none
  | fu + 1, x2, σ => if x2 ≤ 0 then (
  some ((), σ)) else (
  if (gI σ 47 8) ≤ 0 then (
  some ((), σ)) else (
  z_c (inB ((gI σ 47 8) - (1 : Int32)) 21) (
  z_l ((gI σ 48 (ix ((gI σ 47 8) - (1 : Int32))))) fun x3_4 =>
  z_b (f2_rank N x3_4 σ) fun r_5 σ_6 =>
  if x1 ≤ r_5 then (
  z_r (gR σ_6 47 1) 4 fun t_9 =>
  z_b (f4_put N t_9 x3_4 (0 : Int32) σ_6) fun r_11 σ_12 =>
  z_l (sI σ_12 47 8 ((gI σ_12 47 8) - (1 : Int32))) fun σ_14 =>
  z_l (x2 + (-1 : Int32)) fun x2_15 =>
  f2_settle_6 N x1 fu x2_15 σ_14) else (
  some ((), σ_6)))))
def f2_settle (N : Nat) (x1 : Int32) (σ : Mm) : Option (Unit × Mm) :=
  f2_settle_6 N x1 N (21 : Int32) σ
set_option maxHeartbeats 4000000 in
set_option maxRecDepth 100000 in
theorem w2_settle_6 (X : Cx p s m args c cX2_settle 4 RX2 G) (hr : meth.sig.returnType = none) (hlk : meth.locks = false) (N : Nat) {x1 : Int32} :
    ∀ (fu : Nat) (x2 : Int32) (σ : Mm) (H : Heap) (locs : List Loc) (ls : Array Slot), f2_settle_6 N x1 fu x2 σ = some (u0, σ0) → Rp G 212 tt σ s H locs → lv_has ls 4 [(0, .ref (G.2.2 + 47)), (1, .int x1), (2, .int x2)] → W p l e rm2_settle s m args below meth c H locs 0 0 (MQ below (P_v G 212 tt u0 σ0) args s 0 0 (Fr G)) (F0 m 6 ls []) := by
  have hx := X.1
  have hb := X.2.1
  intro fu
  induction fu with
  | zero =>
    intro x2 σ H locs ls hf hR hl
    rw [f2_settle_6] at hf
    cases hf
  | succ fu ih =>
    intro x2 σ H locs ls hf hR hl
    rw [f2_settle_6] at hf
    refine lv_iload_n hx hb dX2_settle_6 rfl (lv_at hl 2 rfl) ?_
    refine lv_if_le (tgt := 64) hx hb dX2_settle_7 (by decide) (fun c_1 => ?_) (fun c_1 => ?_)
    · replace hf := z_t c_1 hf
      exact e_v X hR hr hlk hf dX2_settle_64
    · replace hf := z_f c_1 hf
      refine lv_aload_n hx hb dX2_settle_10 rfl (lv_at hl 0 rfl) ?_
      refine r_gi X hR fi_2_31 kh_47 dX2_settle_11 ?_
      refine lv_if_le (tgt := 64) hx hb dX2_settle_14 (by decide) (fun c_2 => ?_) (fun c_2 => ?_)
      · replace hf := z_t c_2 hf
        exact e_v X hR hr hlk hf dX2_settle_64
      · replace hf := z_f c_2 hf
        refine lv_aload_n hx hb dX2_settle_17 rfl (lv_at hl 0 rfl) ?_
        refine r_gs (t := 48) X hR fr_2_27 kh_47 (sx_2_7 kh_47) dX2_settle_18 ?_
        refine lv_aload_n hx hb dX2_settle_21 rfl (lv_at hl 0 rfl) ?_
        refine r_gi X hR fi_2_31 kh_47 dX2_settle_22 ?_
        refine lv_iconst (v := (1 : Int32)) hx hb dX2_settle_25 (by decide) ?_
        refine lv_isub hx hb dX2_settle_26 ?_
        obtain ⟨hi_3, hf⟩ := z_c_e hf
        refine r_ial X hR ka_48 hi_3 dX2_settle_27 ?_
        refine lv_topi (fun x3_4 ex3_4 => ?_)
        replace hf := z_l_e ex3_4 hf
        refine lv_istore_n (lv' := [(3, .int x3_4), (0, .ref (G.2.2 + 47)), (1, .int x1), (2, .int x2)]) hx hb dX2_settle_28 rfl hl (by decide) rfl (fun ls hl => ?_)
        refine lv_iload_n hx hb dX2_settle_29 rfl (lv_at hl 0 rfl) ?_
        obtain ⟨r_5, σ_6, hc_7, hf⟩ := z_b_e hf
        refine go_i hR (ms_run (As := [.int x3_4]) (rest := []) X hR ms_2_100 (c2_rank l G N hc_7) ⟨rfl, rfl, Nat.le_of_ble_eq_true rfl, Nat.le_of_ble_eq_true rfl⟩ rfl hl.1 rfl (Nat.le_of_ble_eq_true rfl) dX2_settle_30 ⟨Nat.zero_le _, Nat.zero_le _⟩) (fun H locs hR => ?_)
        refine lv_iload_n hx hb dX2_settle_33 rfl (lv_at hl 2 rfl) ?_
        refine lv_icmp_ge (tgt := 38) hx hb dX2_settle_34 (by decide) (fun c_8 => ?_) (fun c_8 => ?_)
        · replace hf := z_t c_8 hf
          refine lv_aload_n hx hb dX2_settle_38 rfl (lv_at hl 1 rfl) ?_
          obtain ⟨t_9, ht_10, kht_10, hf⟩ := z_r_e hf
          refine r_gd X hR fr_2_47 kh_47 ht_10 dX2_settle_39 ?_
          refine lv_iload_n hx hb dX2_settle_42 rfl (lv_at hl 0 rfl) ?_
          refine lv_iconst (v := (0 : Int32)) hx hb dX2_settle_43 (by decide) ?_
          obtain ⟨r_11, σ_12, hc_13, hf⟩ := z_b_e hf
          refine go_i hR (mv_run (As := [.int x3_4, .int (0 : Int32)]) (rest := []) X hR mv_2_84 kht_10 (kd_lt kht_10 (by decide)) (c4_put l G N kht_10 hc_13) ⟨rfl, rfl, Nat.le_of_ble_eq_true rfl, Nat.le_of_ble_eq_true rfl⟩ rfl hl.1 rfl (Nat.le_of_ble_eq_true rfl) dX2_settle_44 ⟨Nat.zero_le _, Nat.zero_le _⟩) (fun H locs hR => ?_)
          refine lv_pop hx hb dX2_settle_47 rfl ?_
          refine lv_aload_n hx hb dX2_settle_48 rfl (lv_at hl 1 rfl) ?_
          refine lv_dup hx hb dX2_settle_49 rfl ?_
          refine r_gi X hR fi_2_31 kh_47 dX2_settle_50 ?_
          refine lv_iconst (v := (1 : Int32)) hx hb dX2_settle_53 (by decide) ?_
          refine lv_isub hx hb dX2_settle_54 ?_
          refine r_pi X hR pi_2_31 kh_47 dX2_settle_55 (fun H locs σ_14 eσ_14 hR => ?_)
          replace hf := z_l_e eσ_14 hf
          obtain ⟨x2_15, ex2_15⟩ : ∃ z : Int32, z = x2 + (-1 : Int32) := ⟨_, rfl⟩
          replace hf := z_l_e ex2_15 hf
          refine lv_iinc (v := x2_15) (lv' := [(2, .int x2_15), (3, .int x3_4), (0, .ref (G.2.2 + 47)), (1, .int x1)]) hx hb dX2_settle_58 hl (k := 3) rfl (by rw [ex2_15]; rfl) (by decide) rfl (fun ls hl => ?_)
          refine lv_goto (tgt := 6) hx hb dX2_settle_61 (by decide) ?_
          exact ih x2_15 σ_14 _ _ _ hf hR (lv_sub hl [2, 3, 0] rfl)
        · replace hf := z_f c_8 hf
          exact e_v X hR hr hlk hf dX2_settle_37
set_option maxHeartbeats 4000000 in
set_option maxRecDepth 100000 in
theorem c2_settle (l : Launch) (G : Gp) (N : Nat) {x1 : Int32} {σ σ0 : Mm} {u0 : Unit} (hf : f2_settle N x1 σ = some (u0, σ0)) : Met l yX2_settle (WS yX2_settle cX2_settle 4 (none)) rm2_settle (va_Pc [.ref (G.2.2 + 47), .int x1] (Pd G 212 tt σ)) (P_v G 212 tt u0 σ0) 0 0 (Fr G) := by
  refine ct [(0, .ref (G.2.2 + 47)), (1, .int x1)] rfl (by decide) (Nat.le_of_ble_eq_true rfl) ?_
  intro p e s m below meth c ls X hr hlk hR hl
  have X : Cx p s m _ c cX2_settle 4 RX2 G := X
  have hx := X.1
  have hb := X.2.1
  unfold f2_settle at hf
  refine lv_aload_n hx hb dX2_settle_0 rfl (lv_at hl 0 rfl) ?_
  refine r_gs (t := 48) X hR fr_2_27 kh_47 (sx_2_7 kh_47) dX2_settle_1 ?_
  refine r_len (v := (21 : Int32)) X hR ka_48 (by decide) rfl dX2_settle_4 ?_
  refine lv_istore_n (lv' := [(2, .int (21 : Int32)), (0, .ref (G.2.2 + 47)), (1, .int x1)]) hx hb dX2_settle_5 rfl hl (by decide) rfl (fun ls hl => ?_)
  exact w2_settle_6 X hr hlk N  N (21 : Int32) σ _ _ _ hf hR (lv_sub hl [1, 2, 0] rfl)
abbrev rm2_takeClosings : Room := { frames := 2, cells := 0, slots := 0, locals := 46 }
def f2_takeClosings_2 (N : Nat) : Nat → Int32 → Mm → Option (Int32 × Mm)
  | 0, _, _ => none
  | fu + 1, x1, σ => if (400 : Int32) < x1 then (
  some ((1 : Int32), σ)) else (
  if (gI σ 47 9) ≤ 0 then (
  some ((1 : Int32), σ)) else (
  z_b (f9_kindAt N (gI σ 47 2) σ) fun r_3 σ_4 =>
  if r_3 = (12 : Int32) then (
  z_b (f2_take N (12 : Int32) σ_4) fun r_7 σ_8 =>
  if r_7 = 0 then (
  some ((0 : Int32), σ_8)) else (
  z_b (f2_settle N (1 : Int32) σ_8) fun _ σ_12 =>
  z_l (sI σ_12 47 8 (mxI ((gI σ_12 47 8) - (1 : Int32)) (0 : Int32))) fun σ_14 =>
  z_l (sI σ_14 47 9 ((gI σ_14 47 9) - (1 : Int32))) fun σ_15 =>
  z_l (x1 + (1 : Int32)) fun x1_16 =>
  f2_takeClosings_2 N fu x1_16 σ_15)) else (
  some ((1 : Int32), σ_4))))
def f2_takeClosings (N : Nat) (σ : Mm) : Option (Int32 × Mm) :=
  f2_takeClosings_2 N N (0 : Int32) σ
set_option maxHeartbeats 4000000 in
set_option maxRecDepth 100000 in
theorem w2_takeClosings_2 (X : Cx p s m args c cX2_takeClosings 2 RX2 G) (hr : meth.sig.returnType = some .boolean) (hlk : meth.locks = false) (N : Nat) :
    ∀ (fu : Nat) (x1 : Int32) (σ : Mm) (H : Heap) (locs : List Loc) (ls : Array Slot), f2_takeClosings_2 N fu x1 σ = some (r0, σ0) → Rp G 212 tt σ s H locs → lv_has ls 2 [(0, .ref (G.2.2 + 47)), (1, .int x1)] → W p l e rm2_takeClosings s m args below meth c H locs 0 0 (MQ below (P_i G 212 tt r0 σ0) args s 0 0 (Fr G)) (F0 m 2 ls []) := by
  have hx := X.1
  have hb := X.2.1
  intro fu
  induction fu with
  | zero =>
    intro x1 σ H locs ls hf hR hl
    rw [f2_takeClosings_2] at hf
    cases hf
  | succ fu ih =>
    intro x1 σ H locs ls hf hR hl
    rw [f2_takeClosings_2] at hf
    refine lv_iload_n hx hb dX2_takeClosings_2 rfl (lv_at hl 1 rfl) ?_
    refine lv_sipush (v := (400 : Int32)) hx hb dX2_takeClosings_3 (by decide) ?_
    refine lv_icmp_gt (tgt := 78) hx hb dX2_takeClosings_6 (by decide) (fun c_1 => ?_) (fun c_1 => ?_)
    · replace hf := z_t c_1 hf
      refine lv_iconst (v := (1 : Int32)) hx hb dX2_takeClosings_78 (by decide) ?_
      exact e_z X hR hr hlk rfl hf dX2_takeClosings_79
    · replace hf := z_f c_1 hf
      refine lv_aload_n hx hb dX2_takeClosings_9 rfl (lv_at hl 0 rfl) ?_
      refine r_gi X hR fi_2_34 kh_47 dX2_takeClosings_10 ?_
      refine lv_if_le (tgt := 78) hx hb dX2_takeClosings_13 (by decide) (fun c_2 => ?_) (fun c_2 => ?_)
      · replace hf := z_t c_2 hf
        refine lv_iconst (v := (1 : Int32)) hx hb dX2_takeClosings_78 (by decide) ?_
        exact e_z X hR hr hlk rfl hf dX2_takeClosings_79
      · replace hf := z_f c_2 hf
        refine lv_aload_n hx hb dX2_takeClosings_16 rfl (lv_at hl 0 rfl) ?_
        refine r_gs (t := 2) X hR fr_2_37 kh_47 (sx_2_0 kh_47) dX2_takeClosings_17 ?_
        refine lv_aload_n hx hb dX2_takeClosings_20 rfl (lv_at hl 0 rfl) ?_
        refine r_gi X hR fi_2_9 kh_47 dX2_takeClosings_21 ?_
        obtain ⟨r_3, σ_4, hc_5, hf⟩ := z_b_e hf
        refine go_i hR (mv_run (As := [.int (gI σ 47 2)]) (rest := []) X hR mv_2_48 kh_2 (kd_lt kh_2 (by decide)) (c9_kindAt l G N hc_5) ⟨rfl, rfl, Nat.le_of_ble_eq_true rfl, Nat.le_of_ble_eq_true rfl⟩ rfl hl.1 rfl (Nat.le_of_ble_eq_true rfl) dX2_takeClosings_24 ⟨Nat.zero_le _, Nat.zero_le _⟩) (fun H locs hR => ?_)
        refine lv_bipush (v := (12 : Int32)) hx hb dX2_takeClosings_27 (by decide) ?_
        refine lv_icmp_ne (tgt := 78) hx hb dX2_takeClosings_29 (by decide) (fun c_6 => ?_) (fun c_6 => ?_)
        · replace hf := z_f c_6 hf
          refine lv_iconst (v := (1 : Int32)) hx hb dX2_takeClosings_78 (by decide) ?_
          exact e_z X hR hr hlk rfl hf dX2_takeClosings_79
        · replace hf := z_t c_6 hf
          refine lv_aload_n hx hb dX2_takeClosings_32 rfl (lv_at hl 0 rfl) ?_
          refine lv_bipush (v := (12 : Int32)) hx hb dX2_takeClosings_33 (by decide) ?_
          obtain ⟨r_7, σ_8, hc_9, hf⟩ := z_b_e hf
          refine go_i hR (mv_run (As := [.int (12 : Int32)]) (rest := []) X hR mv_2_65 kh_47 (kd_lt kh_47 (by decide)) (c2_take l G N hc_9) ⟨rfl, rfl, Nat.le_of_ble_eq_true rfl, Nat.le_of_ble_eq_true rfl⟩ rfl hl.1 rfl (Nat.le_of_ble_eq_true rfl) dX2_takeClosings_35 ⟨Nat.zero_le _, Nat.zero_le _⟩) (fun H locs hR => ?_)
          refine lv_if_ne (tgt := 43) hx hb dX2_takeClosings_38 (by decide) (fun c_10 => ?_) (fun c_10 => ?_)
          · replace hf := z_f c_10 hf
            refine lv_aload_n hx hb dX2_takeClosings_43 rfl (lv_at hl 0 rfl) ?_
            refine lv_iconst (v := (1 : Int32)) hx hb dX2_takeClosings_44 (by decide) ?_
            obtain ⟨r_11, σ_12, hc_13, hf⟩ := z_b_e hf
            refine go_v hR (mv_run (As := [.int (1 : Int32)]) (rest := []) X hR mv_2_103 kh_47 (kd_lt kh_47 (by decide)) (c2_settle l G N hc_13) ⟨rfl, rfl, Nat.le_of_ble_eq_true rfl, Nat.le_of_ble_eq_true rfl⟩ rfl hl.1 rfl (Nat.le_of_ble_eq_true rfl) dX2_takeClosings_45 ⟨Nat.zero_le _, Nat.zero_le _⟩) (fun H locs hR => ?_)
            refine lv_aload_n hx hb dX2_takeClosings_48 rfl (lv_at hl 0 rfl) ?_
            refine lv_aload_n hx hb dX2_takeClosings_49 rfl (lv_at hl 0 rfl) ?_
            refine r_gi X hR fi_2_31 kh_47 dX2_takeClosings_50 ?_
            refine lv_iconst (v := (1 : Int32)) hx hb dX2_takeClosings_53 (by decide) ?_
            refine lv_isub hx hb dX2_takeClosings_54 ?_
            refine lv_iconst (v := (0 : Int32)) hx hb dX2_takeClosings_55 (by decide) ?_
            refine va_mmax hx hb (X.2.2.1.trans hl.1.symm) X.2.2.2.1 (X.2.2.2.2.1 _ jl_2_113) (X.2.2.2.2.1 _ jm_max_s) (X.2.2.2.2.1 _ jm_ini) (X.2.2.2.2.1 _ jm_max_c) (Nat.le_of_ble_eq_true rfl) (Nat.le_of_ble_eq_true rfl) (Nat.zero_le _) (Nat.zero_le _) dX2_takeClosings_56 ?_
            refine r_pi X hR pi_2_31 kh_47 dX2_takeClosings_59 (fun H locs σ_14 eσ_14 hR => ?_)
            replace hf := z_l_e eσ_14 hf
            refine lv_aload_n hx hb dX2_takeClosings_62 rfl (lv_at hl 0 rfl) ?_
            refine lv_dup hx hb dX2_takeClosings_63 rfl ?_
            refine r_gi X hR fi_2_34 kh_47 dX2_takeClosings_64 ?_
            refine lv_iconst (v := (1 : Int32)) hx hb dX2_takeClosings_67 (by decide) ?_
            refine lv_isub hx hb dX2_takeClosings_68 ?_
            refine r_pi X hR pi_2_34 kh_47 dX2_takeClosings_69 (fun H locs σ_15 eσ_15 hR => ?_)
            replace hf := z_l_e eσ_15 hf
            obtain ⟨x1_16, ex1_16⟩ : ∃ z : Int32, z = x1 + (1 : Int32) := ⟨_, rfl⟩
            replace hf := z_l_e ex1_16 hf
            refine lv_iinc (v := x1_16) (lv' := [(1, .int x1_16), (0, .ref (G.2.2 + 47))]) hx hb dX2_takeClosings_72 hl (k := 1) rfl (by rw [ex1_16]; rfl) (by decide) rfl (fun ls hl => ?_)
            refine lv_goto (tgt := 2) hx hb dX2_takeClosings_75 (by decide) ?_
            exact ih x1_16 σ_15 _ _ _ hf hR (lv_sub hl [1, 0] rfl)
          · replace hf := z_t c_10 hf
            refine lv_iconst (v := (0 : Int32)) hx hb dX2_takeClosings_41 (by decide) ?_
            exact e_z X hR hr hlk rfl hf dX2_takeClosings_42
set_option maxHeartbeats 4000000 in
set_option maxRecDepth 100000 in
theorem c2_takeClosings (l : Launch) (G : Gp) (N : Nat) {σ σ0 : Mm} {r0 : Int32} (hf : f2_takeClosings N σ = some (r0, σ0)) : Met l yX2_takeClosings (WS yX2_takeClosings cX2_takeClosings 2 (some .boolean)) rm2_takeClosings (va_Pc [.ref (G.2.2 + 47)] (Pd G 212 tt σ)) (P_i G 212 tt r0 σ0) 0 0 (Fr G) := by
  refine ct [(0, .ref (G.2.2 + 47))] rfl (by decide) (Nat.le_of_ble_eq_true rfl) ?_
  intro p e s m below meth c ls X hr hlk hR hl
  have X : Cx p s m _ c cX2_takeClosings 2 RX2 G := X
  have hx := X.1
  have hb := X.2.1
  unfold f2_takeClosings at hf
  refine lv_iconst (v := (0 : Int32)) hx hb dX2_takeClosings_0 (by decide) ?_
  refine lv_istore_n (lv' := [(1, .int (0 : Int32)), (0, .ref (G.2.2 + 47))]) hx hb dX2_takeClosings_1 rfl hl (by decide) rfl (fun ls hl => ?_)
  exact w2_takeClosings_2 X hr hlk N  N (0 : Int32) σ _ _ _ hf hR (lv_sub hl [1, 0] rfl)
abbrev rm2_keepsSum : Room := { frames := 3, cells := 0, slots := 0, locals := 67 }
def f2_keepsSum_61 (N : Nat) (σ : Mm) : Option (Int32 × Mm) :=
  z_b (f2_settle N (1 : Int32) σ) fun _ σ_38 =>
  if (gI σ_38 47 9) = 0 then (
  some ((1 : Int32), σ_38)) else (
  z_b (f2_take N (12 : Int32) σ_38) fun r_41 σ_42 =>
  if r_41 = 0 then (
  some ((0 : Int32), σ_42)) else (
  some ((1 : Int32), σ_42)))
def f2_keepsSum_12 (N : Nat) : Nat → Int32 → Mm → Option (Int32 × Mm)
  | 0, _, _ => none
  | fu + 1, x1, σ => if (400 : Int32) < x1 then (
  some ((0 : Int32), σ)) else (
  z_b (f2_takeOpenings N σ) fun r_4 σ_5 =>
  if r_4 = 0 then (
  some ((0 : Int32), σ_5)) else (
  z_b (f2_takeUnit N σ_5) fun r_8 σ_9 =>
  if r_8 = 0 then (
  some ((0 : Int32), σ_9)) else (
  z_b (f2_takeClosings N σ_9) fun r_12 σ_13 =>
  if r_12 = 0 then (
  some ((0 : Int32), σ_13)) else (
  z_b (f9_kindAt N (gI σ_13 47 2) σ_13) fun r_16 σ_17 =>
  z_b (f2_rank N r_16 σ_17) fun r_19 σ_20 =>
  if r_19 = 0 then (
  f2_keepsSum_61 N σ_20) else (
  z_b (f2_rank N r_16 σ_20) fun r_23 σ_24 =>
  z_b (f2_settle N r_23 σ_24) fun _ σ_27 =>
  z_b (f2_take N r_16 σ_27) fun r_29 σ_30 =>
  if r_29 = 0 then (
  some ((0 : Int32), σ_30)) else (
  z_b (f2_await N r_16 σ_30) fun _ σ_34 =>
  z_l (x1 + (1 : Int32)) fun x1_36 =>
  f2_keepsSum_12 N fu x1_36 σ_34))))))
def f2_keepsSum (N : Nat) (σ : Mm) : Option (Int32 × Mm) :=
  z_l (sI σ 47 8 (0 : Int32)) fun σ_1 =>
  z_l (sI σ_1 47 9 (0 : Int32)) fun σ_2 =>
  f2_keepsSum_12 N N (0 : Int32) σ_2
set_option maxHeartbeats 4000000 in
set_option maxRecDepth 100000 in
theorem w2_keepsSum_61 (X : Cx p s m args c cX2_keepsSum 3 RX2 G) (hr : meth.sig.returnType = some .boolean) (hlk : meth.locks = false) (N : Nat) :
    ∀ (σ : Mm) (H : Heap) (locs : List Loc) (ls : Array Slot), f2_keepsSum_61 N σ = some (r0, σ0) → Rp G 212 tt σ s H locs → lv_has ls 3 [(0, .ref (G.2.2 + 47))] → W p l e rm2_keepsSum s m args below meth c H locs 0 0 (MQ below (P_i G 212 tt r0 σ0) args s 0 0 (Fr G)) (F0 m 61 ls []) := by
  have hx := X.1
  have hb := X.2.1
  intro σ H locs ls hf hR hl
  unfold f2_keepsSum_61 at hf
  refine lv_aload_n hx hb dX2_keepsSum_61 rfl (lv_at hl 0 rfl) ?_
  refine lv_iconst (v := (1 : Int32)) hx hb dX2_keepsSum_62 (by decide) ?_
  obtain ⟨r_37, σ_38, hc_39, hf⟩ := z_b_e hf
  refine go_v hR (mv_run (As := [.int (1 : Int32)]) (rest := []) X hR mv_2_103 kh_47 (kd_lt kh_47 (by decide)) (c2_settle l G N hc_39) ⟨rfl, rfl, Nat.le_of_ble_eq_true rfl, Nat.le_of_ble_eq_true rfl⟩ rfl hl.1 rfl (Nat.le_of_ble_eq_true rfl) dX2_keepsSum_63 ⟨Nat.zero_le _, Nat.zero_le _⟩) (fun H locs hR => ?_)
  refine lv_aload_n hx hb dX2_keepsSum_66 rfl (lv_at hl 0 rfl) ?_
  refine r_gi X hR fi_2_34 kh_47 dX2_keepsSum_67 ?_
  refine lv_if_eq (tgt := 82) hx hb dX2_keepsSum_70 (by decide) (fun c_40 => ?_) (fun c_40 => ?_)
  · replace hf := z_t c_40 hf
    refine lv_iconst (v := (1 : Int32)) hx hb dX2_keepsSum_82 (by decide) ?_
    refine lv_goto (tgt := 87) hx hb dX2_keepsSum_83 (by decide) ?_
    exact e_z X hR hr hlk rfl hf dX2_keepsSum_87
  · replace hf := z_f c_40 hf
    refine lv_aload_n hx hb dX2_keepsSum_73 rfl (lv_at hl 0 rfl) ?_
    refine lv_bipush (v := (12 : Int32)) hx hb dX2_keepsSum_74 (by decide) ?_
    obtain ⟨r_41, σ_42, hc_43, hf⟩ := z_b_e hf
    refine go_i hR (mv_run (As := [.int (12 : Int32)]) (rest := []) X hR mv_2_65 kh_47 (kd_lt kh_47 (by decide)) (c2_take l G N hc_43) ⟨rfl, rfl, Nat.le_of_ble_eq_true rfl, Nat.le_of_ble_eq_true rfl⟩ rfl hl.1 rfl (Nat.le_of_ble_eq_true rfl) dX2_keepsSum_76 ⟨Nat.zero_le _, Nat.zero_le _⟩) (fun H locs hR => ?_)
    refine lv_if_eq (tgt := 86) hx hb dX2_keepsSum_79 (by decide) (fun c_44 => ?_) (fun c_44 => ?_)
    · replace hf := z_t c_44 hf
      refine lv_iconst (v := (0 : Int32)) hx hb dX2_keepsSum_86 (by decide) ?_
      exact e_z X hR hr hlk rfl hf dX2_keepsSum_87
    · replace hf := z_f c_44 hf
      refine lv_iconst (v := (1 : Int32)) hx hb dX2_keepsSum_82 (by decide) ?_
      refine lv_goto (tgt := 87) hx hb dX2_keepsSum_83 (by decide) ?_
      exact e_z X hR hr hlk rfl hf dX2_keepsSum_87
set_option maxHeartbeats 4000000 in
set_option maxRecDepth 100000 in
theorem w2_keepsSum_12 (X : Cx p s m args c cX2_keepsSum 3 RX2 G) (hr : meth.sig.returnType = some .boolean) (hlk : meth.locks = false) (N : Nat) :
    ∀ (fu : Nat) (x1 : Int32) (σ : Mm) (H : Heap) (locs : List Loc) (ls : Array Slot), f2_keepsSum_12 N fu x1 σ = some (r0, σ0) → Rp G 212 tt σ s H locs → lv_has ls 3 [(0, .ref (G.2.2 + 47)), (1, .int x1)] → W p l e rm2_keepsSum s m args below meth c H locs 0 0 (MQ below (P_i G 212 tt r0 σ0) args s 0 0 (Fr G)) (F0 m 12 ls []) := by
  have hx := X.1
  have hb := X.2.1
  intro fu
  induction fu with
  | zero =>
    intro x1 σ H locs ls hf hR hl
    rw [f2_keepsSum_12] at hf
    cases hf
  | succ fu ih =>
    intro x1 σ H locs ls hf hR hl
    rw [f2_keepsSum_12] at hf
    refine lv_iload_n hx hb dX2_keepsSum_12 rfl (lv_at hl 1 rfl) ?_
    refine lv_sipush (v := (400 : Int32)) hx hb dX2_keepsSum_13 (by decide) ?_
    refine lv_icmp_gt (tgt := 117) hx hb dX2_keepsSum_16 (by decide) (fun c_3 => ?_) (fun c_3 => ?_)
    · replace hf := z_t c_3 hf
      refine lv_iconst (v := (0 : Int32)) hx hb dX2_keepsSum_117 (by decide) ?_
      exact e_z X hR hr hlk rfl hf dX2_keepsSum_118
    · replace hf := z_f c_3 hf
      refine lv_aload_n hx hb dX2_keepsSum_19 rfl (lv_at hl 0 rfl) ?_
      obtain ⟨r_4, σ_5, hc_6, hf⟩ := z_b_e hf
      refine go_i hR (mv_run (As := []) (rest := []) X hR mv_2_91 kh_47 (kd_lt kh_47 (by decide)) (c2_takeOpenings l G N hc_6) ⟨rfl, rfl, Nat.le_of_ble_eq_true rfl, Nat.le_of_ble_eq_true rfl⟩ rfl hl.1 rfl (Nat.le_of_ble_eq_true rfl) dX2_keepsSum_20 ⟨Nat.zero_le _, Nat.zero_le _⟩) (fun H locs hR => ?_)
      refine lv_if_eq (tgt := 40) hx hb dX2_keepsSum_23 (by decide) (fun c_7 => ?_) (fun c_7 => ?_)
      · replace hf := z_t c_7 hf
        refine lv_iconst (v := (0 : Int32)) hx hb dX2_keepsSum_40 (by decide) ?_
        exact e_z X hR hr hlk rfl hf dX2_keepsSum_41
      · replace hf := z_f c_7 hf
        refine lv_aload_n hx hb dX2_keepsSum_26 rfl (lv_at hl 0 rfl) ?_
        obtain ⟨r_8, σ_9, hc_10, hf⟩ := z_b_e hf
        refine go_i hR (mv_run (As := []) (rest := []) X hR mv_2_94 kh_47 (kd_lt kh_47 (by decide)) (c2_takeUnit l G N hc_10) ⟨rfl, rfl, Nat.le_of_ble_eq_true rfl, Nat.le_of_ble_eq_true rfl⟩ rfl hl.1 rfl (Nat.le_of_ble_eq_true rfl) dX2_keepsSum_27 ⟨Nat.zero_le _, Nat.zero_le _⟩) (fun H locs hR => ?_)
        refine lv_if_eq (tgt := 40) hx hb dX2_keepsSum_30 (by decide) (fun c_11 => ?_) (fun c_11 => ?_)
        · replace hf := z_t c_11 hf
          refine lv_iconst (v := (0 : Int32)) hx hb dX2_keepsSum_40 (by decide) ?_
          exact e_z X hR hr hlk rfl hf dX2_keepsSum_41
        · replace hf := z_f c_11 hf
          refine lv_aload_n hx hb dX2_keepsSum_33 rfl (lv_at hl 0 rfl) ?_
          obtain ⟨r_12, σ_13, hc_14, hf⟩ := z_b_e hf
          refine go_i hR (mv_run (As := []) (rest := []) X hR mv_2_97 kh_47 (kd_lt kh_47 (by decide)) (c2_takeClosings l G N hc_14) ⟨rfl, rfl, Nat.le_of_ble_eq_true rfl, Nat.le_of_ble_eq_true rfl⟩ rfl hl.1 rfl (Nat.le_of_ble_eq_true rfl) dX2_keepsSum_34 ⟨Nat.zero_le _, Nat.zero_le _⟩) (fun H locs hR => ?_)
          refine lv_if_ne (tgt := 42) hx hb dX2_keepsSum_37 (by decide) (fun c_15 => ?_) (fun c_15 => ?_)
          · replace hf := z_f c_15 hf
            refine lv_aload_n hx hb dX2_keepsSum_42 rfl (lv_at hl 0 rfl) ?_
            refine r_gs (t := 2) X hR fr_2_37 kh_47 (sx_2_0 kh_47) dX2_keepsSum_43 ?_
            refine lv_aload_n hx hb dX2_keepsSum_46 rfl (lv_at hl 0 rfl) ?_
            refine r_gi X hR fi_2_9 kh_47 dX2_keepsSum_47 ?_
            obtain ⟨r_16, σ_17, hc_18, hf⟩ := z_b_e hf
            refine go_i hR (mv_run (As := [.int (gI σ_13 47 2)]) (rest := []) X hR mv_2_48 kh_2 (kd_lt kh_2 (by decide)) (c9_kindAt l G N hc_18) ⟨rfl, rfl, Nat.le_of_ble_eq_true rfl, Nat.le_of_ble_eq_true rfl⟩ rfl hl.1 rfl (Nat.le_of_ble_eq_true rfl) dX2_keepsSum_50 ⟨Nat.zero_le _, Nat.zero_le _⟩) (fun H locs hR => ?_)
            refine lv_istore_n (lv' := [(2, .int r_16), (0, .ref (G.2.2 + 47)), (1, .int x1)]) hx hb dX2_keepsSum_53 rfl hl (by decide) rfl (fun ls hl => ?_)
            refine lv_iload_n hx hb dX2_keepsSum_54 rfl (lv_at hl 0 rfl) ?_
            obtain ⟨r_19, σ_20, hc_21, hf⟩ := z_b_e hf
            refine go_i hR (ms_run (As := [.int r_16]) (rest := []) X hR ms_2_100 (c2_rank l G N hc_21) ⟨rfl, rfl, Nat.le_of_ble_eq_true rfl, Nat.le_of_ble_eq_true rfl⟩ rfl hl.1 rfl (Nat.le_of_ble_eq_true rfl) dX2_keepsSum_55 ⟨Nat.zero_le _, Nat.zero_le _⟩) (fun H locs hR => ?_)
            refine lv_if_ne (tgt := 88) hx hb dX2_keepsSum_58 (by decide) (fun c_22 => ?_) (fun c_22 => ?_)
            · replace hf := z_f c_22 hf
              refine lv_aload_n hx hb dX2_keepsSum_88 rfl (lv_at hl 1 rfl) ?_
              refine lv_iload_n hx hb dX2_keepsSum_89 rfl (lv_at hl 0 rfl) ?_
              obtain ⟨r_23, σ_24, hc_25, hf⟩ := z_b_e hf
              refine go_i hR (ms_run (As := [.int r_16]) (rest := [.ref (G.2.2 + 47)]) X hR ms_2_100 (c2_rank l G N hc_25) ⟨rfl, rfl, Nat.le_of_ble_eq_true rfl, Nat.le_of_ble_eq_true rfl⟩ rfl hl.1 rfl (Nat.le_of_ble_eq_true rfl) dX2_keepsSum_90 ⟨Nat.zero_le _, Nat.zero_le _⟩) (fun H locs hR => ?_)
              obtain ⟨r_26, σ_27, hc_28, hf⟩ := z_b_e hf
              refine go_v hR (mv_run (As := [.int r_23]) (rest := []) X hR mv_2_103 kh_47 (kd_lt kh_47 (by decide)) (c2_settle l G N hc_28) ⟨rfl, rfl, Nat.le_of_ble_eq_true rfl, Nat.le_of_ble_eq_true rfl⟩ rfl hl.1 rfl (Nat.le_of_ble_eq_true rfl) dX2_keepsSum_93 ⟨Nat.zero_le _, Nat.zero_le _⟩) (fun H locs hR => ?_)
              refine lv_aload_n hx hb dX2_keepsSum_96 rfl (lv_at hl 1 rfl) ?_
              refine lv_iload_n hx hb dX2_keepsSum_97 rfl (lv_at hl 0 rfl) ?_
              obtain ⟨r_29, σ_30, hc_31, hf⟩ := z_b_e hf
              refine go_i hR (mv_run (As := [.int r_16]) (rest := []) X hR mv_2_65 kh_47 (kd_lt kh_47 (by decide)) (c2_take l G N hc_31) ⟨rfl, rfl, Nat.le_of_ble_eq_true rfl, Nat.le_of_ble_eq_true rfl⟩ rfl hl.1 rfl (Nat.le_of_ble_eq_true rfl) dX2_keepsSum_98 ⟨Nat.zero_le _, Nat.zero_le _⟩) (fun H locs hR => ?_)
              refine lv_if_ne (tgt := 106) hx hb dX2_keepsSum_101 (by decide) (fun c_32 => ?_) (fun c_32 => ?_)
              · replace hf := z_f c_32 hf
                refine lv_aload_n hx hb dX2_keepsSum_106 rfl (lv_at hl 1 rfl) ?_
                refine lv_iload_n hx hb dX2_keepsSum_107 rfl (lv_at hl 0 rfl) ?_
                obtain ⟨r_33, σ_34, hc_35, hf⟩ := z_b_e hf
                refine go_v hR (mv_run (As := [.int r_16]) (rest := []) X hR mv_2_106 kh_47 (kd_lt kh_47 (by decide)) (c2_await l G N hc_35) ⟨rfl, rfl, Nat.le_of_ble_eq_true rfl, Nat.le_of_ble_eq_true rfl⟩ rfl hl.1 rfl (Nat.le_of_ble_eq_true rfl) dX2_keepsSum_108 ⟨Nat.zero_le _, Nat.zero_le _⟩) (fun H locs hR => ?_)
                obtain ⟨x1_36, ex1_36⟩ : ∃ z : Int32, z = x1 + (1 : Int32) := ⟨_, rfl⟩
                replace hf := z_l_e ex1_36 hf
                refine lv_iinc (v := x1_36) (lv' := [(1, .int x1_36), (2, .int r_16), (0, .ref (G.2.2 + 47))]) hx hb dX2_keepsSum_111 hl (k := 2) rfl (by rw [ex1_36]; rfl) (by decide) rfl (fun ls hl => ?_)
                refine lv_goto (tgt := 12) hx hb dX2_keepsSum_114 (by decide) ?_
                exact ih x1_36 σ_34 _ _ _ hf hR (lv_sub hl [2, 0] rfl)
              · replace hf := z_t c_32 hf
                refine lv_iconst (v := (0 : Int32)) hx hb dX2_keepsSum_104 (by decide) ?_
                exact e_z X hR hr hlk rfl hf dX2_keepsSum_105
            · replace hf := z_t c_22 hf
              exact w2_keepsSum_61 X hr hlk N   σ_20 _ _ _ hf hR (lv_sub hl [1] rfl)
          · replace hf := z_t c_15 hf
            refine lv_iconst (v := (0 : Int32)) hx hb dX2_keepsSum_40 (by decide) ?_
            exact e_z X hR hr hlk rfl hf dX2_keepsSum_41
set_option maxHeartbeats 4000000 in
set_option maxRecDepth 100000 in
theorem c2_keepsSum (l : Launch) (G : Gp) (N : Nat) {σ σ0 : Mm} {r0 : Int32} (hf : f2_keepsSum N σ = some (r0, σ0)) : Met l yX2_keepsSum (WS yX2_keepsSum cX2_keepsSum 3 (some .boolean)) rm2_keepsSum (va_Pc [.ref (G.2.2 + 47)] (Pd G 212 tt σ)) (P_i G 212 tt r0 σ0) 0 0 (Fr G) := by
  refine ct [(0, .ref (G.2.2 + 47))] rfl (by decide) (Nat.le_of_ble_eq_true rfl) ?_
  intro p e s m below meth c ls X hr hlk hR hl
  have X : Cx p s m _ c cX2_keepsSum 3 RX2 G := X
  have hx := X.1
  have hb := X.2.1
  unfold f2_keepsSum at hf
  refine lv_aload_n hx hb dX2_keepsSum_0 rfl (lv_at hl 0 rfl) ?_
  refine lv_iconst (v := (0 : Int32)) hx hb dX2_keepsSum_1 (by decide) ?_
  refine r_pi X hR pi_2_31 kh_47 dX2_keepsSum_2 (fun H locs σ_1 eσ_1 hR => ?_)
  replace hf := z_l_e eσ_1 hf
  refine lv_aload_n hx hb dX2_keepsSum_5 rfl (lv_at hl 0 rfl) ?_
  refine lv_iconst (v := (0 : Int32)) hx hb dX2_keepsSum_6 (by decide) ?_
  refine r_pi X hR pi_2_34 kh_47 dX2_keepsSum_7 (fun H locs σ_2 eσ_2 hR => ?_)
  replace hf := z_l_e eσ_2 hf
  refine lv_iconst (v := (0 : Int32)) hx hb dX2_keepsSum_10 (by decide) ?_
  refine lv_istore_n (lv' := [(1, .int (0 : Int32)), (0, .ref (G.2.2 + 47))]) hx hb dX2_keepsSum_11 rfl hl (by decide) rfl (fun ls hl => ?_)
  exact w2_keepsSum_12 X hr hlk N  N (0 : Int32) σ_2 _ _ _ hf hR (lv_sub hl [1, 0] rfl)
abbrev rm4_leapToHere : Room := { frames := 0, cells := 0, slots := 0, locals := 0 }
def f4_leapToHere (N : Nat) (o : Nat) (x1 : Int32) (σ : Mm) : Option (Unit × Mm) :=
  if x1 < 0 then (
  some ((), σ)) else (
  if (416 : Int32) ≤ x1 then (
  some ((), σ)) else (
  z_c (inB x1 416) (z_l (sI σ (o + 2) (ix x1) (gI σ o 2)) fun σ_4 =>
  some ((), σ_4))))
set_option maxHeartbeats 4000000 in
set_option maxRecDepth 100000 in
theorem c4_leapToHere (l : Launch) (G : Gp) (N : Nat) {o : Nat} (ho : (kd o).1 = 4) {x1 : Int32} {σ σ0 : Mm} {u0 : Unit} (hf : f4_leapToHere N o x1 σ = some (u0, σ0)) : Met l yX4_leapToHere (WS yX4_leapToHere cX4_leapToHere 2 (none)) rm4_leapToHere (va_Pc [.ref (G.2.2 + o), .int x1] (Pd G 212 tt σ)) (P_v G 212 tt u0 σ0) 0 0 (Fr G) := by
  refine ct [(0, .ref (G.2.2 + o)), (1, .int x1)] rfl (by decide) (Nat.le_of_ble_eq_true rfl) ?_
  intro p e s m below meth c ls X hr hlk hR hl
  have X : Cx p s m _ c cX4_leapToHere 2 RX4 G := X
  have hx := X.1
  have hb := X.2.1
  unfold f4_leapToHere at hf
  refine lv_iload_n hx hb dX4_leapToHere_0 rfl (lv_at hl 1 rfl) ?_
  refine lv_if_lt (tgt := 23) hx hb dX4_leapToHere_1 (by decide) (fun c_1 => ?_) (fun c_1 => ?_)
  · replace hf := z_t c_1 hf
    exact e_v X hR hr hlk hf dX4_leapToHere_23
  · replace hf := z_f c_1 hf
    refine lv_iload_n hx hb dX4_leapToHere_4 rfl (lv_at hl 1 rfl) ?_
    refine lv_aload_n hx hb dX4_leapToHere_5 rfl (lv_at hl 0 rfl) ?_
    refine r_gs (t := (o + 2)) X hR fr_4_15 ho (sx_4_1 ho) dX4_leapToHere_6 ?_
    refine r_len (v := (416 : Int32)) X hR (kx_4_1 ho) (by decide) rfl dX4_leapToHere_9 ?_
    refine lv_icmp_ge (tgt := 23) hx hb dX4_leapToHere_10 (by decide) (fun c_2 => ?_) (fun c_2 => ?_)
    · replace hf := z_t c_2 hf
      exact e_v X hR hr hlk hf dX4_leapToHere_23
    · replace hf := z_f c_2 hf
      refine lv_aload_n hx hb dX4_leapToHere_13 rfl (lv_at hl 0 rfl) ?_
      refine r_gs (t := (o + 2)) X hR fr_4_15 ho (sx_4_1 ho) dX4_leapToHere_14 ?_
      refine lv_iload_n hx hb dX4_leapToHere_17 rfl (lv_at hl 1 rfl) ?_
      refine lv_aload_n hx hb dX4_leapToHere_18 rfl (lv_at hl 0 rfl) ?_
      refine r_gi X hR fi_4_18 ho dX4_leapToHere_19 ?_
      obtain ⟨hi_3, hf⟩ := z_c_e hf
      refine r_ias X hR (kx_4_1 ho) hi_3 dX4_leapToHere_22 (fun H locs σ_4 eσ_4 hR => ?_)
      replace hf := z_l_e eσ_4 hf
      exact e_v X hR hr hlk hf dX4_leapToHere_23
abbrev rm2_keepsLaw : Room := { frames := 4, cells := 0, slots := 0, locals := 89 }
def f2_keepsLaw_165 (N : Nat) (σ : Mm) : Option (Int32 × Mm) :=
  z_b (f2_keepsSum N σ) fun r_15 σ_16 =>
  if r_15 = 0 then (
  some ((0 : Int32), σ_16)) else (
  z_r (gR σ_16 47 1) 4 fun t_19 =>
  z_b (f4_put N t_19 (3 : Int32) (0 : Int32) σ_16) fun r_21 σ_22 =>
  z_b (f2_take N (4 : Int32) σ_22) fun r_24 σ_25 =>
  z_c (isZ r_24) (some (r_24, σ_25)))
def f2_keepsLaw_57 (N : Nat) (σ : Mm) : Option (Int32 × Mm) :=
  z_b (f9_refuse N (2 : Int32) (gI σ 47 2) σ) fun r_77 σ_78 =>
  z_c (isZ r_77) (some (r_77, σ_78))
def f2_keepsLaw_31 (N : Nat) : Nat → Int32 → Mm → Option (Int32 × Mm)
  | 0, _, _ => none
  | fu + 1, x2, σ => if (4 : Int32) < x2 then (
  f2_keepsLaw_165 N σ) else (
  z_b (f9_kindAt N (gI σ 47 2) σ) fun r_28 σ_29 =>
  if r_28 = (23 : Int32) then (
  if x2 = (4 : Int32) then (
  f2_keepsLaw_57 N σ_29) else (
  z_b (f2_take N (23 : Int32) σ_29) fun r_33 σ_34 =>
  if r_33 = 0 then (
  some ((0 : Int32), σ_34)) else (
  z_b (f2_keepsSum N σ_34) fun r_37 σ_38 =>
  if r_37 = 0 then (
  some ((0 : Int32), σ_38)) else (
  z_b (f2_take N (10 : Int32) σ_38) fun r_41 σ_42 =>
  if r_41 = 0 then (
  some ((0 : Int32), σ_42)) else (
  z_b (f2_keepsSum N σ_42) fun r_45 σ_46 =>
  if r_45 = 0 then (
  some ((0 : Int32), σ_46)) else (
  z_b (f2_take N (24 : Int32) σ_46) fun r_49 σ_50 =>
  if r_49 = 0 then (
  some ((0 : Int32), σ_50)) else (
  z_r (gR σ_50 47 1) 4 fun t_53 =>
  z_b (f4_put N t_53 (2 : Int32) (0 : Int32) σ_50) fun r_55 σ_56 =>
  z_b (f2_keepsSum N σ_56) fun r_58 σ_59 =>
  if r_58 = 0 then (
  some ((0 : Int32), σ_59)) else (
  z_b (f2_take N (25 : Int32) σ_59) fun r_62 σ_63 =>
  if r_62 = 0 then (
  some ((0 : Int32), σ_63)) else (
  z_r (gR σ_63 47 1) 4 fun t_66 =>
  z_b (f4_put N t_66 (3 : Int32) (0 : Int32) σ_63) fun r_68 σ_69 =>
  z_r (gR σ_69 47 1) 4 fun t_71 =>
  z_b (f4_leapToHere N t_71 r_55 σ_69) fun _ σ_74 =>
  z_l (x2 + (1 : Int32)) fun x2_76 =>
  f2_keepsLaw_31 N fu x2_76 σ_74))))))))) else (
  f2_keepsLaw_165 N σ_29))
def f2_keepsLaw (N : Nat) (x1 : Int32) (σ : Mm) : Option (Int32 × Mm) :=
  z_b (f2_take N x1 σ) fun r_1 σ_2 =>
  if r_1 = 0 then (
  some ((0 : Int32), σ_2)) else (
  z_b (f2_take N (5 : Int32) σ_2) fun r_5 σ_6 =>
  if r_5 = 0 then (
  some ((0 : Int32), σ_6)) else (
  z_r (gR σ_6 47 1) 4 fun t_9 =>
  z_b (f4_begin N t_9 (x1 - (17 : Int32)) σ_6) fun _ σ_12 =>
  f2_keepsLaw_31 N N (0 : Int32) σ_12))
set_option maxHeartbeats 4000000 in
set_option maxRecDepth 100000 in
theorem w2_keepsLaw_165 (X : Cx p s m args c cX2_keepsLaw 4 RX2 G) (hr : meth.sig.returnType = some .boolean) (hlk : meth.locks = false) (N : Nat) :
    ∀ (σ : Mm) (H : Heap) (locs : List Loc) (ls : Array Slot), f2_keepsLaw_165 N σ = some (r0, σ0) → Rp G 212 tt σ s H locs → lv_has ls 4 [(0, .ref (G.2.2 + 47))] → W p l e rm2_keepsLaw s m args below meth c H locs 0 0 (MQ below (P_i G 212 tt r0 σ0) args s 0 0 (Fr G)) (F0 m 165 ls []) := by
  have hx := X.1
  have hb := X.2.1
  intro σ H locs ls hf hR hl
  unfold f2_keepsLaw_165 at hf
  refine lv_aload_n hx hb dX2_keepsLaw_165 rfl (lv_at hl 0 rfl) ?_
  obtain ⟨r_15, σ_16, hc_17, hf⟩ := z_b_e hf
  refine go_i hR (mv_run (As := []) (rest := []) X hR mv_2_81 kh_47 (kd_lt kh_47 (by decide)) (c2_keepsSum l G N hc_17) ⟨rfl, rfl, Nat.le_of_ble_eq_true rfl, Nat.le_of_ble_eq_true rfl⟩ rfl hl.1 rfl (Nat.le_of_ble_eq_true rfl) dX2_keepsLaw_166 ⟨Nat.zero_le _, Nat.zero_le _⟩) (fun H locs hR => ?_)
  refine lv_if_ne (tgt := 174) hx hb dX2_keepsLaw_169 (by decide) (fun c_18 => ?_) (fun c_18 => ?_)
  · replace hf := z_f c_18 hf
    refine lv_aload_n hx hb dX2_keepsLaw_174 rfl (lv_at hl 0 rfl) ?_
    obtain ⟨t_19, ht_20, kht_20, hf⟩ := z_r_e hf
    refine r_gd X hR fr_2_47 kh_47 ht_20 dX2_keepsLaw_175 ?_
    refine lv_iconst (v := (3 : Int32)) hx hb dX2_keepsLaw_178 (by decide) ?_
    refine lv_iconst (v := (0 : Int32)) hx hb dX2_keepsLaw_179 (by decide) ?_
    obtain ⟨r_21, σ_22, hc_23, hf⟩ := z_b_e hf
    refine go_i hR (mv_run (As := [.int (3 : Int32), .int (0 : Int32)]) (rest := []) X hR mv_2_84 kht_20 (kd_lt kht_20 (by decide)) (c4_put l G N kht_20 hc_23) ⟨rfl, rfl, Nat.le_of_ble_eq_true rfl, Nat.le_of_ble_eq_true rfl⟩ rfl hl.1 rfl (Nat.le_of_ble_eq_true rfl) dX2_keepsLaw_180 ⟨Nat.zero_le _, Nat.zero_le _⟩) (fun H locs hR => ?_)
    refine lv_pop hx hb dX2_keepsLaw_183 rfl ?_
    refine lv_aload_n hx hb dX2_keepsLaw_184 rfl (lv_at hl 0 rfl) ?_
    refine lv_iconst (v := (4 : Int32)) hx hb dX2_keepsLaw_185 (by decide) ?_
    obtain ⟨r_24, σ_25, hc_26, hf⟩ := z_b_e hf
    refine go_i hR (mv_run (As := [.int (4 : Int32)]) (rest := []) X hR mv_2_65 kh_47 (kd_lt kh_47 (by decide)) (c2_take l G N hc_26) ⟨rfl, rfl, Nat.le_of_ble_eq_true rfl, Nat.le_of_ble_eq_true rfl⟩ rfl hl.1 rfl (Nat.le_of_ble_eq_true rfl) dX2_keepsLaw_186 ⟨Nat.zero_le _, Nat.zero_le _⟩) (fun H locs hR => ?_)
    obtain ⟨hz_27, hf⟩ := z_c_e hf
    exact e_z X hR hr hlk hz_27 hf dX2_keepsLaw_189
  · replace hf := z_t c_18 hf
    refine lv_iconst (v := (0 : Int32)) hx hb dX2_keepsLaw_172 (by decide) ?_
    exact e_z X hR hr hlk rfl hf dX2_keepsLaw_173
set_option maxHeartbeats 4000000 in
set_option maxRecDepth 100000 in
theorem w2_keepsLaw_57 (X : Cx p s m args c cX2_keepsLaw 4 RX2 G) (hr : meth.sig.returnType = some .boolean) (hlk : meth.locks = false) (N : Nat) :
    ∀ (σ : Mm) (H : Heap) (locs : List Loc) (ls : Array Slot), f2_keepsLaw_57 N σ = some (r0, σ0) → Rp G 212 tt σ s H locs → lv_has ls 4 [(0, .ref (G.2.2 + 47))] → W p l e rm2_keepsLaw s m args below meth c H locs 0 0 (MQ below (P_i G 212 tt r0 σ0) args s 0 0 (Fr G)) (F0 m 57 ls []) := by
  have hx := X.1
  have hb := X.2.1
  intro σ H locs ls hf hR hl
  unfold f2_keepsLaw_57 at hf
  refine lv_aload_n hx hb dX2_keepsLaw_57 rfl (lv_at hl 0 rfl) ?_
  refine r_gs (t := 2) X hR fr_2_37 kh_47 (sx_2_0 kh_47) dX2_keepsLaw_58 ?_
  refine lv_iconst (v := (2 : Int32)) hx hb dX2_keepsLaw_61 (by decide) ?_
  refine lv_aload_n hx hb dX2_keepsLaw_62 rfl (lv_at hl 0 rfl) ?_
  refine r_gi X hR fi_2_9 kh_47 dX2_keepsLaw_63 ?_
  obtain ⟨r_77, σ_78, hc_79, hf⟩ := z_b_e hf
  refine go_i hR (mv_run (As := [.int (2 : Int32), .int (gI σ 47 2)]) (rest := []) X hR mv_2_72 kh_2 (kd_lt kh_2 (by decide)) (c9_refuse l G N hc_79) ⟨rfl, rfl, Nat.le_of_ble_eq_true rfl, Nat.le_of_ble_eq_true rfl⟩ rfl hl.1 rfl (Nat.le_of_ble_eq_true rfl) dX2_keepsLaw_66 ⟨Nat.zero_le _, Nat.zero_le _⟩) (fun H locs hR => ?_)
  obtain ⟨hz_80, hf⟩ := z_c_e hf
  exact e_z X hR hr hlk hz_80 hf dX2_keepsLaw_69
set_option maxHeartbeats 4000000 in
set_option maxRecDepth 100000 in
theorem w2_keepsLaw_31 (X : Cx p s m args c cX2_keepsLaw 4 RX2 G) (hr : meth.sig.returnType = some .boolean) (hlk : meth.locks = false) (N : Nat) :
    ∀ (fu : Nat) (x2 : Int32) (σ : Mm) (H : Heap) (locs : List Loc) (ls : Array Slot), f2_keepsLaw_31 N fu x2 σ = some (r0, σ0) → Rp G 212 tt σ s H locs → lv_has ls 4 [(0, .ref (G.2.2 + 47)), (2, .int x2)] → W p l e rm2_keepsLaw s m args below meth c H locs 0 0 (MQ below (P_i G 212 tt r0 σ0) args s 0 0 (Fr G)) (F0 m 31 ls []) := by
  have hx := X.1
  have hb := X.2.1
  intro fu
  induction fu with
  | zero =>
    intro x2 σ H locs ls hf hR hl
    rw [f2_keepsLaw_31] at hf
    cases hf
  | succ fu ih =>
    intro x2 σ H locs ls hf hR hl
    rw [f2_keepsLaw_31] at hf
    refine lv_iload_n hx hb dX2_keepsLaw_31 rfl (lv_at hl 1 rfl) ?_
    refine lv_iconst (v := (4 : Int32)) hx hb dX2_keepsLaw_32 (by decide) ?_
    refine lv_icmp_gt (tgt := 165) hx hb dX2_keepsLaw_33 (by decide) (fun c_14 => ?_) (fun c_14 => ?_)
    · replace hf := z_t c_14 hf
      exact w2_keepsLaw_165 X hr hlk N   σ _ _ _ hf hR (lv_sub hl [0] rfl)
    · replace hf := z_f c_14 hf
      refine lv_aload_n hx hb dX2_keepsLaw_36 rfl (lv_at hl 0 rfl) ?_
      refine r_gs (t := 2) X hR fr_2_37 kh_47 (sx_2_0 kh_47) dX2_keepsLaw_37 ?_
      refine lv_aload_n hx hb dX2_keepsLaw_40 rfl (lv_at hl 0 rfl) ?_
      refine r_gi X hR fi_2_9 kh_47 dX2_keepsLaw_41 ?_
      obtain ⟨r_28, σ_29, hc_30, hf⟩ := z_b_e hf
      refine go_i hR (mv_run (As := [.int (gI σ 47 2)]) (rest := []) X hR mv_2_48 kh_2 (kd_lt kh_2 (by decide)) (c9_kindAt l G N hc_30) ⟨rfl, rfl, Nat.le_of_ble_eq_true rfl, Nat.le_of_ble_eq_true rfl⟩ rfl hl.1 rfl (Nat.le_of_ble_eq_true rfl) dX2_keepsLaw_44 ⟨Nat.zero_le _, Nat.zero_le _⟩) (fun H locs hR => ?_)
      refine lv_bipush (v := (23 : Int32)) hx hb dX2_keepsLaw_47 (by decide) ?_
      refine lv_icmp_ne (tgt := 165) hx hb dX2_keepsLaw_49 (by decide) (fun c_31 => ?_) (fun c_31 => ?_)
      · replace hf := z_f c_31 hf
        exact w2_keepsLaw_165 X hr hlk N   σ_29 _ _ _ hf hR (lv_sub hl [0] rfl)
      · replace hf := z_t c_31 hf
        refine lv_iload_n hx hb dX2_keepsLaw_52 rfl (lv_at hl 1 rfl) ?_
        refine lv_iconst (v := (4 : Int32)) hx hb dX2_keepsLaw_53 (by decide) ?_
        refine lv_icmp_ne (tgt := 70) hx hb dX2_keepsLaw_54 (by decide) (fun c_32 => ?_) (fun c_32 => ?_)
        · replace hf := z_f c_32 hf
          refine lv_aload_n hx hb dX2_keepsLaw_70 rfl (lv_at hl 0 rfl) ?_
          refine lv_bipush (v := (23 : Int32)) hx hb dX2_keepsLaw_71 (by decide) ?_
          obtain ⟨r_33, σ_34, hc_35, hf⟩ := z_b_e hf
          refine go_i hR (mv_run (As := [.int (23 : Int32)]) (rest := []) X hR mv_2_65 kh_47 (kd_lt kh_47 (by decide)) (c2_take l G N hc_35) ⟨rfl, rfl, Nat.le_of_ble_eq_true rfl, Nat.le_of_ble_eq_true rfl⟩ rfl hl.1 rfl (Nat.le_of_ble_eq_true rfl) dX2_keepsLaw_73 ⟨Nat.zero_le _, Nat.zero_le _⟩) (fun H locs hR => ?_)
          refine lv_if_eq (tgt := 111) hx hb dX2_keepsLaw_76 (by decide) (fun c_36 => ?_) (fun c_36 => ?_)
          · replace hf := z_t c_36 hf
            refine lv_iconst (v := (0 : Int32)) hx hb dX2_keepsLaw_111 (by decide) ?_
            exact e_z X hR hr hlk rfl hf dX2_keepsLaw_112
          · replace hf := z_f c_36 hf
            refine lv_aload_n hx hb dX2_keepsLaw_79 rfl (lv_at hl 0 rfl) ?_
            obtain ⟨r_37, σ_38, hc_39, hf⟩ := z_b_e hf
            refine go_i hR (mv_run (As := []) (rest := []) X hR mv_2_81 kh_47 (kd_lt kh_47 (by decide)) (c2_keepsSum l G N hc_39) ⟨rfl, rfl, Nat.le_of_ble_eq_true rfl, Nat.le_of_ble_eq_true rfl⟩ rfl hl.1 rfl (Nat.le_of_ble_eq_true rfl) dX2_keepsLaw_80 ⟨Nat.zero_le _, Nat.zero_le _⟩) (fun H locs hR => ?_)
            refine lv_if_eq (tgt := 111) hx hb dX2_keepsLaw_83 (by decide) (fun c_40 => ?_) (fun c_40 => ?_)
            · replace hf := z_t c_40 hf
              refine lv_iconst (v := (0 : Int32)) hx hb dX2_keepsLaw_111 (by decide) ?_
              exact e_z X hR hr hlk rfl hf dX2_keepsLaw_112
            · replace hf := z_f c_40 hf
              refine lv_aload_n hx hb dX2_keepsLaw_86 rfl (lv_at hl 0 rfl) ?_
              refine lv_bipush (v := (10 : Int32)) hx hb dX2_keepsLaw_87 (by decide) ?_
              obtain ⟨r_41, σ_42, hc_43, hf⟩ := z_b_e hf
              refine go_i hR (mv_run (As := [.int (10 : Int32)]) (rest := []) X hR mv_2_65 kh_47 (kd_lt kh_47 (by decide)) (c2_take l G N hc_43) ⟨rfl, rfl, Nat.le_of_ble_eq_true rfl, Nat.le_of_ble_eq_true rfl⟩ rfl hl.1 rfl (Nat.le_of_ble_eq_true rfl) dX2_keepsLaw_89 ⟨Nat.zero_le _, Nat.zero_le _⟩) (fun H locs hR => ?_)
              refine lv_if_eq (tgt := 111) hx hb dX2_keepsLaw_92 (by decide) (fun c_44 => ?_) (fun c_44 => ?_)
              · replace hf := z_t c_44 hf
                refine lv_iconst (v := (0 : Int32)) hx hb dX2_keepsLaw_111 (by decide) ?_
                exact e_z X hR hr hlk rfl hf dX2_keepsLaw_112
              · replace hf := z_f c_44 hf
                refine lv_aload_n hx hb dX2_keepsLaw_95 rfl (lv_at hl 0 rfl) ?_
                obtain ⟨r_45, σ_46, hc_47, hf⟩ := z_b_e hf
                refine go_i hR (mv_run (As := []) (rest := []) X hR mv_2_81 kh_47 (kd_lt kh_47 (by decide)) (c2_keepsSum l G N hc_47) ⟨rfl, rfl, Nat.le_of_ble_eq_true rfl, Nat.le_of_ble_eq_true rfl⟩ rfl hl.1 rfl (Nat.le_of_ble_eq_true rfl) dX2_keepsLaw_96 ⟨Nat.zero_le _, Nat.zero_le _⟩) (fun H locs hR => ?_)
                refine lv_if_eq (tgt := 111) hx hb dX2_keepsLaw_99 (by decide) (fun c_48 => ?_) (fun c_48 => ?_)
                · replace hf := z_t c_48 hf
                  refine lv_iconst (v := (0 : Int32)) hx hb dX2_keepsLaw_111 (by decide) ?_
                  exact e_z X hR hr hlk rfl hf dX2_keepsLaw_112
                · replace hf := z_f c_48 hf
                  refine lv_aload_n hx hb dX2_keepsLaw_102 rfl (lv_at hl 0 rfl) ?_
                  refine lv_bipush (v := (24 : Int32)) hx hb dX2_keepsLaw_103 (by decide) ?_
                  obtain ⟨r_49, σ_50, hc_51, hf⟩ := z_b_e hf
                  refine go_i hR (mv_run (As := [.int (24 : Int32)]) (rest := []) X hR mv_2_65 kh_47 (kd_lt kh_47 (by decide)) (c2_take l G N hc_51) ⟨rfl, rfl, Nat.le_of_ble_eq_true rfl, Nat.le_of_ble_eq_true rfl⟩ rfl hl.1 rfl (Nat.le_of_ble_eq_true rfl) dX2_keepsLaw_105 ⟨Nat.zero_le _, Nat.zero_le _⟩) (fun H locs hR => ?_)
                  refine lv_if_ne (tgt := 113) hx hb dX2_keepsLaw_108 (by decide) (fun c_52 => ?_) (fun c_52 => ?_)
                  · replace hf := z_f c_52 hf
                    refine lv_aload_n hx hb dX2_keepsLaw_113 rfl (lv_at hl 0 rfl) ?_
                    obtain ⟨t_53, ht_54, kht_54, hf⟩ := z_r_e hf
                    refine r_gd X hR fr_2_47 kh_47 ht_54 dX2_keepsLaw_114 ?_
                    refine lv_iconst (v := (2 : Int32)) hx hb dX2_keepsLaw_117 (by decide) ?_
                    refine lv_iconst (v := (0 : Int32)) hx hb dX2_keepsLaw_118 (by decide) ?_
                    obtain ⟨r_55, σ_56, hc_57, hf⟩ := z_b_e hf
                    refine go_i hR (mv_run (As := [.int (2 : Int32), .int (0 : Int32)]) (rest := []) X hR mv_2_84 kht_54 (kd_lt kht_54 (by decide)) (c4_put l G N kht_54 hc_57) ⟨rfl, rfl, Nat.le_of_ble_eq_true rfl, Nat.le_of_ble_eq_true rfl⟩ rfl hl.1 rfl (Nat.le_of_ble_eq_true rfl) dX2_keepsLaw_119 ⟨Nat.zero_le _, Nat.zero_le _⟩) (fun H locs hR => ?_)
                    refine lv_istore_n (lv' := [(3, .int r_55), (0, .ref (G.2.2 + 47)), (2, .int x2)]) hx hb dX2_keepsLaw_122 rfl hl (by decide) rfl (fun ls hl => ?_)
                    refine lv_aload_n hx hb dX2_keepsLaw_123 rfl (lv_at hl 1 rfl) ?_
                    obtain ⟨r_58, σ_59, hc_60, hf⟩ := z_b_e hf
                    refine go_i hR (mv_run (As := []) (rest := []) X hR mv_2_81 kh_47 (kd_lt kh_47 (by decide)) (c2_keepsSum l G N hc_60) ⟨rfl, rfl, Nat.le_of_ble_eq_true rfl, Nat.le_of_ble_eq_true rfl⟩ rfl hl.1 rfl (Nat.le_of_ble_eq_true rfl) dX2_keepsLaw_124 ⟨Nat.zero_le _, Nat.zero_le _⟩) (fun H locs hR => ?_)
                    refine lv_if_eq (tgt := 139) hx hb dX2_keepsLaw_127 (by decide) (fun c_61 => ?_) (fun c_61 => ?_)
                    · replace hf := z_t c_61 hf
                      refine lv_iconst (v := (0 : Int32)) hx hb dX2_keepsLaw_139 (by decide) ?_
                      exact e_z X hR hr hlk rfl hf dX2_keepsLaw_140
                    · replace hf := z_f c_61 hf
                      refine lv_aload_n hx hb dX2_keepsLaw_130 rfl (lv_at hl 1 rfl) ?_
                      refine lv_bipush (v := (25 : Int32)) hx hb dX2_keepsLaw_131 (by decide) ?_
                      obtain ⟨r_62, σ_63, hc_64, hf⟩ := z_b_e hf
                      refine go_i hR (mv_run (As := [.int (25 : Int32)]) (rest := []) X hR mv_2_65 kh_47 (kd_lt kh_47 (by decide)) (c2_take l G N hc_64) ⟨rfl, rfl, Nat.le_of_ble_eq_true rfl, Nat.le_of_ble_eq_true rfl⟩ rfl hl.1 rfl (Nat.le_of_ble_eq_true rfl) dX2_keepsLaw_133 ⟨Nat.zero_le _, Nat.zero_le _⟩) (fun H locs hR => ?_)
                      refine lv_if_ne (tgt := 141) hx hb dX2_keepsLaw_136 (by decide) (fun c_65 => ?_) (fun c_65 => ?_)
                      · replace hf := z_f c_65 hf
                        refine lv_aload_n hx hb dX2_keepsLaw_141 rfl (lv_at hl 1 rfl) ?_
                        obtain ⟨t_66, ht_67, kht_67, hf⟩ := z_r_e hf
                        refine r_gd X hR fr_2_47 kh_47 ht_67 dX2_keepsLaw_142 ?_
                        refine lv_iconst (v := (3 : Int32)) hx hb dX2_keepsLaw_145 (by decide) ?_
                        refine lv_iconst (v := (0 : Int32)) hx hb dX2_keepsLaw_146 (by decide) ?_
                        obtain ⟨r_68, σ_69, hc_70, hf⟩ := z_b_e hf
                        refine go_i hR (mv_run (As := [.int (3 : Int32), .int (0 : Int32)]) (rest := []) X hR mv_2_84 kht_67 (kd_lt kht_67 (by decide)) (c4_put l G N kht_67 hc_70) ⟨rfl, rfl, Nat.le_of_ble_eq_true rfl, Nat.le_of_ble_eq_true rfl⟩ rfl hl.1 rfl (Nat.le_of_ble_eq_true rfl) dX2_keepsLaw_147 ⟨Nat.zero_le _, Nat.zero_le _⟩) (fun H locs hR => ?_)
                        refine lv_pop hx hb dX2_keepsLaw_150 rfl ?_
                        refine lv_aload_n hx hb dX2_keepsLaw_151 rfl (lv_at hl 1 rfl) ?_
                        obtain ⟨t_71, ht_72, kht_72, hf⟩ := z_r_e hf
                        refine r_gd X hR fr_2_47 kh_47 ht_72 dX2_keepsLaw_152 ?_
                        refine lv_iload_n hx hb dX2_keepsLaw_155 rfl (lv_at hl 0 rfl) ?_
                        obtain ⟨r_73, σ_74, hc_75, hf⟩ := z_b_e hf
                        refine go_v hR (mv_run (As := [.int r_55]) (rest := []) X hR mv_2_88 kht_72 (kd_lt kht_72 (by decide)) (c4_leapToHere l G N kht_72 hc_75) ⟨rfl, rfl, Nat.le_of_ble_eq_true rfl, Nat.le_of_ble_eq_true rfl⟩ rfl hl.1 rfl (Nat.le_of_ble_eq_true rfl) dX2_keepsLaw_156 ⟨Nat.zero_le _, Nat.zero_le _⟩) (fun H locs hR => ?_)
                        obtain ⟨x2_76, ex2_76⟩ : ∃ z : Int32, z = x2 + (1 : Int32) := ⟨_, rfl⟩
                        replace hf := z_l_e ex2_76 hf
                        refine lv_iinc (v := x2_76) (lv' := [(2, .int x2_76), (3, .int r_55), (0, .ref (G.2.2 + 47))]) hx hb dX2_keepsLaw_159 hl (k := 2) rfl (by rw [ex2_76]; rfl) (by decide) rfl (fun ls hl => ?_)
                        refine lv_goto (tgt := 31) hx hb dX2_keepsLaw_162 (by decide) ?_
                        exact ih x2_76 σ_74 _ _ _ hf hR (lv_sub hl [2, 0] rfl)
                      · replace hf := z_t c_65 hf
                        refine lv_iconst (v := (0 : Int32)) hx hb dX2_keepsLaw_139 (by decide) ?_
                        exact e_z X hR hr hlk rfl hf dX2_keepsLaw_140
                  · replace hf := z_t c_52 hf
                    refine lv_iconst (v := (0 : Int32)) hx hb dX2_keepsLaw_111 (by decide) ?_
                    exact e_z X hR hr hlk rfl hf dX2_keepsLaw_112
        · replace hf := z_t c_32 hf
          exact w2_keepsLaw_57 X hr hlk N   σ_29 _ _ _ hf hR (lv_sub hl [0] rfl)
set_option maxHeartbeats 4000000 in
set_option maxRecDepth 100000 in
theorem c2_keepsLaw (l : Launch) (G : Gp) (N : Nat) {x1 : Int32} {σ σ0 : Mm} {r0 : Int32} (hf : f2_keepsLaw N x1 σ = some (r0, σ0)) : Met l yX2_keepsLaw (WS yX2_keepsLaw cX2_keepsLaw 4 (some .boolean)) rm2_keepsLaw (va_Pc [.ref (G.2.2 + 47), .int x1] (Pd G 212 tt σ)) (P_i G 212 tt r0 σ0) 0 0 (Fr G) := by
  refine ct [(0, .ref (G.2.2 + 47)), (1, .int x1)] rfl (by decide) (Nat.le_of_ble_eq_true rfl) ?_
  intro p e s m below meth c ls X hr hlk hR hl
  have X : Cx p s m _ c cX2_keepsLaw 4 RX2 G := X
  have hx := X.1
  have hb := X.2.1
  unfold f2_keepsLaw at hf
  refine lv_aload_n hx hb dX2_keepsLaw_0 rfl (lv_at hl 0 rfl) ?_
  refine lv_iload_n hx hb dX2_keepsLaw_1 rfl (lv_at hl 1 rfl) ?_
  obtain ⟨r_1, σ_2, hc_3, hf⟩ := z_b_e hf
  refine go_i hR (mv_run (As := [.int x1]) (rest := []) X hR mv_2_65 kh_47 (kd_lt kh_47 (by decide)) (c2_take l G N hc_3) ⟨rfl, rfl, Nat.le_of_ble_eq_true rfl, Nat.le_of_ble_eq_true rfl⟩ rfl hl.1 rfl (Nat.le_of_ble_eq_true rfl) dX2_keepsLaw_2 ⟨Nat.zero_le _, Nat.zero_le _⟩) (fun H locs hR => ?_)
  refine lv_if_eq (tgt := 16) hx hb dX2_keepsLaw_5 (by decide) (fun c_4 => ?_) (fun c_4 => ?_)
  · replace hf := z_t c_4 hf
    refine lv_iconst (v := (0 : Int32)) hx hb dX2_keepsLaw_16 (by decide) ?_
    exact e_z X hR hr hlk rfl hf dX2_keepsLaw_17
  · replace hf := z_f c_4 hf
    refine lv_aload_n hx hb dX2_keepsLaw_8 rfl (lv_at hl 0 rfl) ?_
    refine lv_iconst (v := (5 : Int32)) hx hb dX2_keepsLaw_9 (by decide) ?_
    obtain ⟨r_5, σ_6, hc_7, hf⟩ := z_b_e hf
    refine go_i hR (mv_run (As := [.int (5 : Int32)]) (rest := []) X hR mv_2_65 kh_47 (kd_lt kh_47 (by decide)) (c2_take l G N hc_7) ⟨rfl, rfl, Nat.le_of_ble_eq_true rfl, Nat.le_of_ble_eq_true rfl⟩ rfl hl.1 rfl (Nat.le_of_ble_eq_true rfl) dX2_keepsLaw_10 ⟨Nat.zero_le _, Nat.zero_le _⟩) (fun H locs hR => ?_)
    refine lv_if_ne (tgt := 18) hx hb dX2_keepsLaw_13 (by decide) (fun c_8 => ?_) (fun c_8 => ?_)
    · replace hf := z_f c_8 hf
      refine lv_aload_n hx hb dX2_keepsLaw_18 rfl (lv_at hl 0 rfl) ?_
      obtain ⟨t_9, ht_10, kht_10, hf⟩ := z_r_e hf
      refine r_gd X hR fr_2_47 kh_47 ht_10 dX2_keepsLaw_19 ?_
      refine lv_iload_n hx hb dX2_keepsLaw_22 rfl (lv_at hl 1 rfl) ?_
      refine lv_bipush (v := (17 : Int32)) hx hb dX2_keepsLaw_23 (by decide) ?_
      refine lv_isub hx hb dX2_keepsLaw_25 ?_
      obtain ⟨r_11, σ_12, hc_13, hf⟩ := z_b_e hf
      refine go_v hR (mv_run (As := [.int (x1 - (17 : Int32))]) (rest := []) X hR mv_2_75 kht_10 (kd_lt kht_10 (by decide)) (c4_begin l G N kht_10 hc_13) ⟨rfl, rfl, Nat.le_of_ble_eq_true rfl, Nat.le_of_ble_eq_true rfl⟩ rfl hl.1 rfl (Nat.le_of_ble_eq_true rfl) dX2_keepsLaw_26 ⟨Nat.zero_le _, Nat.zero_le _⟩) (fun H locs hR => ?_)
      refine lv_iconst (v := (0 : Int32)) hx hb dX2_keepsLaw_29 (by decide) ?_
      refine lv_istore_n (lv' := [(2, .int (0 : Int32)), (0, .ref (G.2.2 + 47)), (1, .int x1)]) hx hb dX2_keepsLaw_30 rfl hl (by decide) rfl (fun ls hl => ?_)
      exact w2_keepsLaw_31 X hr hlk N  N (0 : Int32) σ_12 _ _ _ hf hR (lv_sub hl [1, 0] rfl)
    · replace hf := z_t c_8 hf
      refine lv_iconst (v := (0 : Int32)) hx hb dX2_keepsLaw_16 (by decide) ?_
      exact e_z X hR hr hlk rfl hf dX2_keepsLaw_17
end GEN
