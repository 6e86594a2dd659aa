abbrev rm11_init : Room := { frames := 2, cells := 51, slots := 14489, locals := 48 }
section GEN
variable {p : Program} {l : Launch} {e : Env} {s : State} {m : MethodId} {args : Array Value} {below : List Frame} {meth : Method} {c : Code} {G : Gp} {r0 : Int32} {l0 : Int64} {u0 : Unit} {σ0 : Mm}

def f11_init_427 (N : Nat) (σ : Mm) : Option (Unit × Mm) :=
  z_b (f11_plain N (0 : Int32) σ) fun _ σ_2 =>
  z_b (f11_word N (112 : Int32) (101 : Int32) (114 : Int32) (115 : Int32) (111 : Int32) (110 : Int32) (0 : Int32) σ_2) fun r_4 σ_5 =>
  z_c (inB (0 : Int32) 22) (z_l (sL σ_5 167 (ix (0 : Int32)) r_4) fun σ_8 =>
  z_b (f11_word N (112 : Int32) (108 : Int32) (111 : Int32) (116 : Int32) (0 : Int32) (0 : Int32) (0 : Int32) σ_8) fun r_9 σ_10 =>
  z_c (inB (1 : Int32) 22) (z_l (sL σ_10 167 (ix (1 : Int32)) r_9) fun σ_13 =>
  z_b (f11_word N (119 : Int32) (105 : Int32) (116 : Int32) (110 : Int32) (101 : Int32) (115 : Int32) (115 : Int32) σ_13) fun r_14 σ_15 =>
  z_c (inB (2 : Int32) 22) (z_l (sL σ_15 167 (ix (2 : Int32)) r_14) fun σ_18 =>
  z_b (f11_word N (103 : Int32) (105 : Int32) (118 : Int32) (105 : Int32) (110 : Int32) (103 : Int32) (0 : Int32) σ_18) fun r_19 σ_20 =>
  z_c (inB (3 : Int32) 22) (z_l (sL σ_20 167 (ix (3 : Int32)) r_19) fun σ_23 =>
  z_b (f11_word N (115 : Int32) (119 : Int32) (101 : Int32) (97 : Int32) (114 : Int32) (115 : Int32) (0 : Int32) σ_23) fun r_24 σ_25 =>
  z_c (inB (4 : Int32) 22) (z_l (sL σ_25 167 (ix (4 : Int32)) r_24) fun σ_28 =>
  z_b (f11_word N (100 : Int32) (105 : Int32) (101 : Int32) (115 : Int32) (0 : Int32) (0 : Int32) (0 : Int32) σ_28) fun r_29 σ_30 =>
  z_c (inB (5 : Int32) 22) (z_l (sL σ_30 167 (ix (5 : Int32)) r_29) fun σ_33 =>
  z_b (f11_word N (119 : Int32) (97 : Int32) (108 : Int32) (107 : Int32) (115 : Int32) (0 : Int32) (0 : Int32) σ_33) fun r_34 σ_35 =>
  z_c (inB (6 : Int32) 22) (z_l (sL σ_35 167 (ix (6 : Int32)) r_34) fun σ_38 =>
  z_b (f11_word N (97 : Int32) (115 : Int32) (107 : Int32) (115 : Int32) (0 : Int32) (0 : Int32) (0 : Int32) σ_38) fun r_39 σ_40 =>
  z_c (inB (7 : Int32) 22) (z_l (sL σ_40 167 (ix (7 : Int32)) r_39) fun σ_43 =>
  z_b (f11_word N (110 : Int32) (101 : Int32) (101 : Int32) (100 : Int32) (115 : Int32) (0 : Int32) (0 : Int32) σ_43) fun r_44 σ_45 =>
  z_c (inB (8 : Int32) 22) (z_l (sL σ_45 167 (ix (8 : Int32)) r_44) fun σ_48 =>
  z_b (f11_word N (115 : Int32) (101 : Int32) (101 : Int32) (100 : Int32) (0 : Int32) (0 : Int32) (0 : Int32) σ_48) fun r_49 σ_50 =>
  z_c (inB (9 : Int32) 22) (z_l (sL σ_50 167 (ix (9 : Int32)) r_49) fun σ_53 =>
  z_b (f11_word N (105 : Int32) (102 : Int32) (0 : Int32) (0 : Int32) (0 : Int32) (0 : Int32) (0 : Int32) σ_53) fun r_54 σ_55 =>
  z_c (inB (10 : Int32) 22) (z_l (sL σ_55 167 (ix (10 : Int32)) r_54) fun σ_58 =>
  z_b (f11_word N (116 : Int32) (104 : Int32) (101 : Int32) (110 : Int32) (0 : Int32) (0 : Int32) (0 : Int32) σ_58) fun r_59 σ_60 =>
  z_c (inB (11 : Int32) 22) (z_l (sL σ_60 167 (ix (11 : Int32)) r_59) fun σ_63 =>
  z_b (f11_word N (101 : Int32) (108 : Int32) (115 : Int32) (101 : Int32) (0 : Int32) (0 : Int32) (0 : Int32) σ_63) fun r_64 σ_65 =>
  z_c (inB (12 : Int32) 22) (z_l (sL σ_65 167 (ix (12 : Int32)) r_64) fun σ_68 =>
  z_b (f11_word N (97 : Int32) (103 : Int32) (101 : Int32) (0 : Int32) (0 : Int32) (0 : Int32) (0 : Int32) σ_68) fun r_69 σ_70 =>
  z_c (inB (13 : Int32) 22) (z_l (sL σ_70 167 (ix (13 : Int32)) r_69) fun σ_73 =>
  z_b (f11_word N (109 : Int32) (101 : Int32) (109 : Int32) (111 : Int32) (114 : Int32) (121 : Int32) (0 : Int32) σ_73) fun r_74 σ_75 =>
  z_c (inB (14 : Int32) 22) (z_l (sL σ_75 167 (ix (14 : Int32)) r_74) fun σ_78 =>
  z_b (f11_word N (115 : Int32) (105 : Int32) (110 : Int32) (99 : Int32) (101 : Int32) (0 : Int32) (0 : Int32) σ_78) fun r_79 σ_80 =>
  z_c (inB (15 : Int32) 22) (z_l (sL σ_80 167 (ix (15 : Int32)) r_79) fun σ_83 =>
  z_b (f11_word N (121 : Int32) (101 : Int32) (97 : Int32) (114 : Int32) (0 : Int32) (0 : Int32) (0 : Int32) σ_83) fun r_84 σ_85 =>
  z_c (inB (16 : Int32) 22) (z_l (sL σ_85 167 (ix (16 : Int32)) r_84) fun σ_88 =>
  z_b (f11_word N (119 : Int32) (104 : Int32) (105 : Int32) (99 : Int32) (104 : Int32) (0 : Int32) (0 : Int32) σ_88) fun r_89 σ_90 =>
  z_c (inB (17 : Int32) 22) (z_l (sL σ_90 167 (ix (17 : Int32)) r_89) fun σ_93 =>
  z_b (f11_word N (115 : Int32) (101 : Int32) (101 : Int32) (110 : Int32) (0 : Int32) (0 : Int32) (0 : Int32) σ_93) fun r_94 σ_95 =>
  z_c (inB (18 : Int32) 22) (z_l (sL σ_95 167 (ix (18 : Int32)) r_94) fun σ_98 =>
  z_b (f11_word N (102 : Int32) (97 : Int32) (114 : Int32) (0 : Int32) (0 : Int32) (0 : Int32) (0 : Int32) σ_98) fun r_99 σ_100 =>
  z_c (inB (19 : Int32) 22) (z_l (sL σ_100 167 (ix (19 : Int32)) r_99) fun σ_103 =>
  z_b (f11_word N (97 : Int32) (99 : Int32) (114 : Int32) (111 : Int32) (115 : Int32) (115 : Int32) (0 : Int32) σ_103) fun r_104 σ_105 =>
  z_c (inB (20 : Int32) 22) (z_l (sL σ_105 167 (ix (20 : Int32)) r_104) fun σ_108 =>
  z_b (f11_word N (100 : Int32) (111 : Int32) (119 : Int32) (110 : Int32) (0 : Int32) (0 : Int32) (0 : Int32) σ_108) fun r_109 σ_110 =>
  z_c (inB (21 : Int32) 22) (z_l (sL σ_110 167 (ix (21 : Int32)) r_109) fun σ_113 =>
  z_b (f11_begins N σ_113) fun _ σ_115 =>
  z_b (f11_keepsRow N σ_115) fun _ σ_118 =>
  some ((), σ_118)))))))))))))))))))))))
set_option maxHeartbeats 4000000 in
set_option maxRecDepth 100000 in
theorem w11_init_427 (X : Cx p s m args c cX11_init 1 RX11 G) (hr : meth.sig.returnType = none) (hlk : meth.locks = false) (N : Nat) :
    ∀ (σ : Mm) (H : Heap) (locs : List Loc) (ls : Array Slot), f11_init_427 N σ = some (u0, σ0) → Rp G 212 tt σ s H locs → lv_has ls 1 [(0, .ref (G.2.2 + 160))] → W p l e rm11_init s m args below meth c H locs 51 14489 (MQ below (P_v G 212 tt u0 σ0) args s 51 14489 (Fr G)) (F0 m 427 ls []) := by
  have hx := X.1
  have hb := X.2.1
  intro σ H locs ls hf hR hl
  unfold f11_init_427 at hf
  refine lv_aload_n hx hb dX11_init_427 rfl (lv_at hl 0 rfl) ?_
  refine lv_iconst (v := (0 : Int32)) hx hb dX11_init_428 (by decide) ?_
  obtain ⟨r_1, σ_2, hc_3, hf⟩ := z_b_e hf
  refine go_v hR (mv_run (As := [.int (0 : Int32)]) (rest := []) X hR mv_11_173 kh_160 (kd_lt kh_160 (by decide)) (c11_plain l G N hc_3) ⟨rfl, rfl, Nat.le_of_ble_eq_true rfl, Nat.le_of_ble_eq_true rfl⟩ rfl hl.1 rfl (Nat.le_of_ble_eq_true rfl) dX11_init_429 ⟨Nat.le_of_ble_eq_true rfl, Nat.le_of_ble_eq_true rfl⟩) (fun H locs hR => ?_)
  refine lv_aload_n hx hb dX11_init_432 rfl (lv_at hl 0 rfl) ?_
  refine r_gs (t := 167) X hR fr_11_34 kh_160 (sx_11_9 kh_160) dX11_init_433 ?_
  refine lv_iconst (v := (0 : Int32)) hx hb dX11_init_436 (by decide) ?_
  refine lv_bipush (v := (112 : Int32)) hx hb dX11_init_437 (by decide) ?_
  refine lv_bipush (v := (101 : Int32)) hx hb dX11_init_439 (by decide) ?_
  refine lv_bipush (v := (114 : Int32)) hx hb dX11_init_441 (by decide) ?_
  refine lv_bipush (v := (115 : Int32)) hx hb dX11_init_443 (by decide) ?_
  refine lv_bipush (v := (111 : Int32)) hx hb dX11_init_445 (by decide) ?_
  refine lv_bipush (v := (110 : Int32)) hx hb dX11_init_447 (by decide) ?_
  refine lv_iconst (v := (0 : Int32)) hx hb dX11_init_449 (by decide) ?_
  obtain ⟨r_4, σ_5, hc_6, hf⟩ := z_b_e hf
  refine go_l hR (ms_run (As := [.int (112 : Int32), .int (101 : Int32), .int (114 : Int32), .int (115 : Int32), .int (111 : Int32), .int (110 : Int32), .int (0 : Int32)]) (rest := [.int (0 : Int32), .ref (G.2.2 + 167)]) X hR ms_11_177 (c11_word l G N hc_6) ⟨rfl, rfl, Nat.le_of_ble_eq_true rfl, Nat.le_of_ble_eq_true rfl⟩ rfl hl.1 rfl (Nat.le_of_ble_eq_true rfl) dX11_init_450 ⟨Nat.le_of_ble_eq_true rfl, Nat.le_of_ble_eq_true rfl⟩) (fun H locs hR => ?_)
  obtain ⟨hi_7, hf⟩ := z_c_e hf
  refine r_las X hR ka_167 hi_7 dX11_init_453 (fun H locs σ_8 eσ_8 hR => ?_)
  replace hf := z_l_e eσ_8 hf
  refine lv_aload_n hx hb dX11_init_454 rfl (lv_at hl 0 rfl) ?_
  refine r_gs (t := 167) X hR fr_11_34 kh_160 (sx_11_9 kh_160) dX11_init_455 ?_
  refine lv_iconst (v := (1 : Int32)) hx hb dX11_init_458 (by decide) ?_
  refine lv_bipush (v := (112 : Int32)) hx hb dX11_init_459 (by decide) ?_
  refine lv_bipush (v := (108 : Int32)) hx hb dX11_init_461 (by decide) ?_
  refine lv_bipush (v := (111 : Int32)) hx hb dX11_init_463 (by decide) ?_
  refine lv_bipush (v := (116 : Int32)) hx hb dX11_init_465 (by decide) ?_
  refine lv_iconst (v := (0 : Int32)) hx hb dX11_init_467 (by decide) ?_
  refine lv_iconst (v := (0 : Int32)) hx hb dX11_init_468 (by decide) ?_
  refine lv_iconst (v := (0 : Int32)) hx hb dX11_init_469 (by decide) ?_
  obtain ⟨r_9, σ_10, hc_11, hf⟩ := z_b_e hf
  refine go_l hR (ms_run (As := [.int (112 : Int32), .int (108 : Int32), .int (111 : Int32), .int (116 : Int32), .int (0 : Int32), .int (0 : Int32), .int (0 : Int32)]) (rest := [.int (1 : Int32), .ref (G.2.2 + 167)]) X hR ms_11_177 (c11_word l G N hc_11) ⟨rfl, rfl, Nat.le_of_ble_eq_true rfl, Nat.le_of_ble_eq_true rfl⟩ rfl hl.1 rfl (Nat.le_of_ble_eq_true rfl) dX11_init_470 ⟨Nat.le_of_ble_eq_true rfl, Nat.le_of_ble_eq_true rfl⟩) (fun H locs hR => ?_)
  obtain ⟨hi_12, hf⟩ := z_c_e hf
  refine r_las X hR ka_167 hi_12 dX11_init_473 (fun H locs σ_13 eσ_13 hR => ?_)
  replace hf := z_l_e eσ_13 hf
  refine lv_aload_n hx hb dX11_init_474 rfl (lv_at hl 0 rfl) ?_
  refine r_gs (t := 167) X hR fr_11_34 kh_160 (sx_11_9 kh_160) dX11_init_475 ?_
  refine lv_iconst (v := (2 : Int32)) hx hb dX11_init_478 (by decide) ?_
  refine lv_bipush (v := (119 : Int32)) hx hb dX11_init_479 (by decide) ?_
  refine lv_bipush (v := (105 : Int32)) hx hb dX11_init_481 (by decide) ?_
  refine lv_bipush (v := (116 : Int32)) hx hb dX11_init_483 (by decide) ?_
  refine lv_bipush (v := (110 : Int32)) hx hb dX11_init_485 (by decide) ?_
  refine lv_bipush (v := (101 : Int32)) hx hb dX11_init_487 (by decide) ?_
  refine lv_bipush (v := (115 : Int32)) hx hb dX11_init_489 (by decide) ?_
  refine lv_bipush (v := (115 : Int32)) hx hb dX11_init_491 (by decide) ?_
  obtain ⟨r_14, σ_15, hc_16, hf⟩ := z_b_e hf
  refine go_l hR (ms_run (As := [.int (119 : Int32), .int (105 : Int32), .int (116 : Int32), .int (110 : Int32), .int (101 : Int32), .int (115 : Int32), .int (115 : Int32)]) (rest := [.int (2 : Int32), .ref (G.2.2 + 167)]) X hR ms_11_177 (c11_word l G N hc_16) ⟨rfl, rfl, Nat.le_of_ble_eq_true rfl, Nat.le_of_ble_eq_true rfl⟩ rfl hl.1 rfl (Nat.le_of_ble_eq_true rfl) dX11_init_493 ⟨Nat.le_of_ble_eq_true rfl, Nat.le_of_ble_eq_true rfl⟩) (fun H locs hR => ?_)
  obtain ⟨hi_17, hf⟩ := z_c_e hf
  refine r_las X hR ka_167 hi_17 dX11_init_496 (fun H locs σ_18 eσ_18 hR => ?_)
  replace hf := z_l_e eσ_18 hf
  refine lv_aload_n hx hb dX11_init_497 rfl (lv_at hl 0 rfl) ?_
  refine r_gs (t := 167) X hR fr_11_34 kh_160 (sx_11_9 kh_160) dX11_init_498 ?_
  refine lv_iconst (v := (3 : Int32)) hx hb dX11_init_501 (by decide) ?_
  refine lv_bipush (v := (103 : Int32)) hx hb dX11_init_502 (by decide) ?_
  refine lv_bipush (v := (105 : Int32)) hx hb dX11_init_504 (by decide) ?_
  refine lv_bipush (v := (118 : Int32)) hx hb dX11_init_506 (by decide) ?_
  refine lv_bipush (v := (105 : Int32)) hx hb dX11_init_508 (by decide) ?_
  refine lv_bipush (v := (110 : Int32)) hx hb dX11_init_510 (by decide) ?_
  refine lv_bipush (v := (103 : Int32)) hx hb dX11_init_512 (by decide) ?_
  refine lv_iconst (v := (0 : Int32)) hx hb dX11_init_514 (by decide) ?_
  obtain ⟨r_19, σ_20, hc_21, hf⟩ := z_b_e hf
  refine go_l hR (ms_run (As := [.int (103 : Int32), .int (105 : Int32), .int (118 : Int32), .int (105 : Int32), .int (110 : Int32), .int (103 : Int32), .int (0 : Int32)]) (rest := [.int (3 : Int32), .ref (G.2.2 + 167)]) X hR ms_11_177 (c11_word l G N hc_21) ⟨rfl, rfl, Nat.le_of_ble_eq_true rfl, Nat.le_of_ble_eq_true rfl⟩ rfl hl.1 rfl (Nat.le_of_ble_eq_true rfl) dX11_init_515 ⟨Nat.le_of_ble_eq_true rfl, Nat.le_of_ble_eq_true rfl⟩) (fun H locs hR => ?_)
  obtain ⟨hi_22, hf⟩ := z_c_e hf
  refine r_las X hR ka_167 hi_22 dX11_init_518 (fun H locs σ_23 eσ_23 hR => ?_)
  replace hf := z_l_e eσ_23 hf
  refine lv_aload_n hx hb dX11_init_519 rfl (lv_at hl 0 rfl) ?_
  refine r_gs (t := 167) X hR fr_11_34 kh_160 (sx_11_9 kh_160) dX11_init_520 ?_
  refine lv_iconst (v := (4 : Int32)) hx hb dX11_init_523 (by decide) ?_
  refine lv_bipush (v := (115 : Int32)) hx hb dX11_init_524 (by decide) ?_
  refine lv_bipush (v := (119 : Int32)) hx hb dX11_init_526 (by decide) ?_
  refine lv_bipush (v := (101 : Int32)) hx hb dX11_init_528 (by decide) ?_
  refine lv_bipush (v := (97 : Int32)) hx hb dX11_init_530 (by decide) ?_
  refine lv_bipush (v := (114 : Int32)) hx hb dX11_init_532 (by decide) ?_
  refine lv_bipush (v := (115 : Int32)) hx hb dX11_init_534 (by decide) ?_
  refine lv_iconst (v := (0 : Int32)) hx hb dX11_init_536 (by decide) ?_
  obtain ⟨r_24, σ_25, hc_26, hf⟩ := z_b_e hf
  refine go_l hR (ms_run (As := [.int (115 : Int32), .int (119 : Int32), .int (101 : Int32), .int (97 : Int32), .int (114 : Int32), .int (115 : Int32), .int (0 : Int32)]) (rest := [.int (4 : Int32), .ref (G.2.2 + 167)]) X hR ms_11_177 (c11_word l G N hc_26) ⟨rfl, rfl, Nat.le_of_ble_eq_true rfl, Nat.le_of_ble_eq_true rfl⟩ rfl hl.1 rfl (Nat.le_of_ble_eq_true rfl) dX11_init_537 ⟨Nat.le_of_ble_eq_true rfl, Nat.le_of_ble_eq_true rfl⟩) (fun H locs hR => ?_)
  obtain ⟨hi_27, hf⟩ := z_c_e hf
  refine r_las X hR ka_167 hi_27 dX11_init_540 (fun H locs σ_28 eσ_28 hR => ?_)
  replace hf := z_l_e eσ_28 hf
  refine lv_aload_n hx hb dX11_init_541 rfl (lv_at hl 0 rfl) ?_
  refine r_gs (t := 167) X hR fr_11_34 kh_160 (sx_11_9 kh_160) dX11_init_542 ?_
  refine lv_iconst (v := (5 : Int32)) hx hb dX11_init_545 (by decide) ?_
  refine lv_bipush (v := (100 : Int32)) hx hb dX11_init_546 (by decide) ?_
  refine lv_bipush (v := (105 : Int32)) hx hb dX11_init_548 (by decide) ?_
  refine lv_bipush (v := (101 : Int32)) hx hb dX11_init_550 (by decide) ?_
  refine lv_bipush (v := (115 : Int32)) hx hb dX11_init_552 (by decide) ?_
  refine lv_iconst (v := (0 : Int32)) hx hb dX11_init_554 (by decide) ?_
  refine lv_iconst (v := (0 : Int32)) hx hb dX11_init_555 (by decide) ?_
  refine lv_iconst (v := (0 : Int32)) hx hb dX11_init_556 (by decide) ?_
  obtain ⟨r_29, σ_30, hc_31, hf⟩ := z_b_e hf
  refine go_l hR (ms_run (As := [.int (100 : Int32), .int (105 : Int32), .int (101 : Int32), .int (115 : Int32), .int (0 : Int32), .int (0 : Int32), .int (0 : Int32)]) (rest := [.int (5 : Int32), .ref (G.2.2 + 167)]) X hR ms_11_177 (c11_word l G N hc_31) ⟨rfl, rfl, Nat.le_of_ble_eq_true rfl, Nat.le_of_ble_eq_true rfl⟩ rfl hl.1 rfl (Nat.le_of_ble_eq_true rfl) dX11_init_557 ⟨Nat.le_of_ble_eq_true rfl, Nat.le_of_ble_eq_true rfl⟩) (fun H locs hR => ?_)
  obtain ⟨hi_32, hf⟩ := z_c_e hf
  refine r_las X hR ka_167 hi_32 dX11_init_560 (fun H locs σ_33 eσ_33 hR => ?_)
  replace hf := z_l_e eσ_33 hf
  refine lv_aload_n hx hb dX11_init_561 rfl (lv_at hl 0 rfl) ?_
  refine r_gs (t := 167) X hR fr_11_34 kh_160 (sx_11_9 kh_160) dX11_init_562 ?_
  refine lv_bipush (v := (6 : Int32)) hx hb dX11_init_565 (by decide) ?_
  refine lv_bipush (v := (119 : Int32)) hx hb dX11_init_567 (by decide) ?_
  refine lv_bipush (v := (97 : Int32)) hx hb dX11_init_569 (by decide) ?_
  refine lv_bipush (v := (108 : Int32)) hx hb dX11_init_571 (by decide) ?_
  refine lv_bipush (v := (107 : Int32)) hx hb dX11_init_573 (by decide) ?_
  refine lv_bipush (v := (115 : Int32)) hx hb dX11_init_575 (by decide) ?_
  refine lv_iconst (v := (0 : Int32)) hx hb dX11_init_577 (by decide) ?_
  refine lv_iconst (v := (0 : Int32)) hx hb dX11_init_578 (by decide) ?_
  obtain ⟨r_34, σ_35, hc_36, hf⟩ := z_b_e hf
  refine go_l hR (ms_run (As := [.int (119 : Int32), .int (97 : Int32), .int (108 : Int32), .int (107 : Int32), .int (115 : Int32), .int (0 : Int32), .int (0 : Int32)]) (rest := [.int (6 : Int32), .ref (G.2.2 + 167)]) X hR ms_11_177 (c11_word l G N hc_36) ⟨rfl, rfl, Nat.le_of_ble_eq_true rfl, Nat.le_of_ble_eq_true rfl⟩ rfl hl.1 rfl (Nat.le_of_ble_eq_true rfl) dX11_init_579 ⟨Nat.le_of_ble_eq_true rfl, Nat.le_of_ble_eq_true rfl⟩) (fun H locs hR => ?_)
  obtain ⟨hi_37, hf⟩ := z_c_e hf
  refine r_las X hR ka_167 hi_37 dX11_init_582 (fun H locs σ_38 eσ_38 hR => ?_)
  replace hf := z_l_e eσ_38 hf
  refine lv_aload_n hx hb dX11_init_583 rfl (lv_at hl 0 rfl) ?_
  refine r_gs (t := 167) X hR fr_11_34 kh_160 (sx_11_9 kh_160) dX11_init_584 ?_
  refine lv_bipush (v := (7 : Int32)) hx hb dX11_init_587 (by decide) ?_
  refine lv_bipush (v := (97 : Int32)) hx hb dX11_init_589 (by decide) ?_
  refine lv_bipush (v := (115 : Int32)) hx hb dX11_init_591 (by decide) ?_
  refine lv_bipush (v := (107 : Int32)) hx hb dX11_init_593 (by decide) ?_
  refine lv_bipush (v := (115 : Int32)) hx hb dX11_init_595 (by decide) ?_
  refine lv_iconst (v := (0 : Int32)) hx hb dX11_init_597 (by decide) ?_
  refine lv_iconst (v := (0 : Int32)) hx hb dX11_init_598 (by decide) ?_
  refine lv_iconst (v := (0 : Int32)) hx hb dX11_init_599 (by decide) ?_
  obtain ⟨r_39, σ_40, hc_41, hf⟩ := z_b_e hf
  refine go_l hR (ms_run (As := [.int (97 : Int32), .int (115 : Int32), .int (107 : Int32), .int (115 : Int32), .int (0 : Int32), .int (0 : Int32), .int (0 : Int32)]) (rest := [.int (7 : Int32), .ref (G.2.2 + 167)]) X hR ms_11_177 (c11_word l G N hc_41) ⟨rfl, rfl, Nat.le_of_ble_eq_true rfl, Nat.le_of_ble_eq_true rfl⟩ rfl hl.1 rfl (Nat.le_of_ble_eq_true rfl) dX11_init_600 ⟨Nat.le_of_ble_eq_true rfl, Nat.le_of_ble_eq_true rfl⟩) (fun H locs hR => ?_)
  obtain ⟨hi_42, hf⟩ := z_c_e hf
  refine r_las X hR ka_167 hi_42 dX11_init_603 (fun H locs σ_43 eσ_43 hR => ?_)
  replace hf := z_l_e eσ_43 hf
  refine lv_aload_n hx hb dX11_init_604 rfl (lv_at hl 0 rfl) ?_
  refine r_gs (t := 167) X hR fr_11_34 kh_160 (sx_11_9 kh_160) dX11_init_605 ?_
  refine lv_bipush (v := (8 : Int32)) hx hb dX11_init_608 (by decide) ?_
  refine lv_bipush (v := (110 : Int32)) hx hb dX11_init_610 (by decide) ?_
  refine lv_bipush (v := (101 : Int32)) hx hb dX11_init_612 (by decide) ?_
  refine lv_bipush (v := (101 : Int32)) hx hb dX11_init_614 (by decide) ?_
  refine lv_bipush (v := (100 : Int32)) hx hb dX11_init_616 (by decide) ?_
  refine lv_bipush (v := (115 : Int32)) hx hb dX11_init_618 (by decide) ?_
  refine lv_iconst (v := (0 : Int32)) hx hb dX11_init_620 (by decide) ?_
  refine lv_iconst (v := (0 : Int32)) hx hb dX11_init_621 (by decide) ?_
  obtain ⟨r_44, σ_45, hc_46, hf⟩ := z_b_e hf
  refine go_l hR (ms_run (As := [.int (110 : Int32), .int (101 : Int32), .int (101 : Int32), .int (100 : Int32), .int (115 : Int32), .int (0 : Int32), .int (0 : Int32)]) (rest := [.int (8 : Int32), .ref (G.2.2 + 167)]) X hR ms_11_177 (c11_word l G N hc_46) ⟨rfl, rfl, Nat.le_of_ble_eq_true rfl, Nat.le_of_ble_eq_true rfl⟩ rfl hl.1 rfl (Nat.le_of_ble_eq_true rfl) dX11_init_622 ⟨Nat.le_of_ble_eq_true rfl, Nat.le_of_ble_eq_true rfl⟩) (fun H locs hR => ?_)
  obtain ⟨hi_47, hf⟩ := z_c_e hf
  refine r_las X hR ka_167 hi_47 dX11_init_625 (fun H locs σ_48 eσ_48 hR => ?_)
  replace hf := z_l_e eσ_48 hf
  refine lv_aload_n hx hb dX11_init_626 rfl (lv_at hl 0 rfl) ?_
  refine r_gs (t := 167) X hR fr_11_34 kh_160 (sx_11_9 kh_160) dX11_init_627 ?_
  refine lv_bipush (v := (9 : Int32)) hx hb dX11_init_630 (by decide) ?_
  refine lv_bipush (v := (115 : Int32)) hx hb dX11_init_632 (by decide) ?_
  refine lv_bipush (v := (101 : Int32)) hx hb dX11_init_634 (by decide) ?_
  refine lv_bipush (v := (101 : Int32)) hx hb dX11_init_636 (by decide) ?_
  refine lv_bipush (v := (100 : Int32)) hx hb dX11_init_638 (by decide) ?_
  refine lv_iconst (v := (0 : Int32)) hx hb dX11_init_640 (by decide) ?_
  refine lv_iconst (v := (0 : Int32)) hx hb dX11_init_641 (by decide) ?_
  refine lv_iconst (v := (0 : Int32)) hx hb dX11_init_642 (by decide) ?_
  obtain ⟨r_49, σ_50, hc_51, hf⟩ := z_b_e hf
  refine go_l hR (ms_run (As := [.int (115 : Int32), .int (101 : Int32), .int (101 : Int32), .int (100 : Int32), .int (0 : Int32), .int (0 : Int32), .int (0 : Int32)]) (rest := [.int (9 : Int32), .ref (G.2.2 + 167)]) X hR ms_11_177 (c11_word l G N hc_51) ⟨rfl, rfl, Nat.le_of_ble_eq_true rfl, Nat.le_of_ble_eq_true rfl⟩ rfl hl.1 rfl (Nat.le_of_ble_eq_true rfl) dX11_init_643 ⟨Nat.le_of_ble_eq_true rfl, Nat.le_of_ble_eq_true rfl⟩) (fun H locs hR => ?_)
  obtain ⟨hi_52, hf⟩ := z_c_e hf
  refine r_las X hR ka_167 hi_52 dX11_init_646 (fun H locs σ_53 eσ_53 hR => ?_)
  replace hf := z_l_e eσ_53 hf
  refine lv_aload_n hx hb dX11_init_647 rfl (lv_at hl 0 rfl) ?_
  refine r_gs (t := 167) X hR fr_11_34 kh_160 (sx_11_9 kh_160) dX11_init_648 ?_
  refine lv_bipush (v := (10 : Int32)) hx hb dX11_init_651 (by decide) ?_
  refine lv_bipush (v := (105 : Int32)) hx hb dX11_init_653 (by decide) ?_
  refine lv_bipush (v := (102 : Int32)) hx hb dX11_init_655 (by decide) ?_
  refine lv_iconst (v := (0 : Int32)) hx hb dX11_init_657 (by decide) ?_
  refine lv_iconst (v := (0 : Int32)) hx hb dX11_init_658 (by decide) ?_
  refine lv_iconst (v := (0 : Int32)) hx hb dX11_init_659 (by decide) ?_
  refine lv_iconst (v := (0 : Int32)) hx hb dX11_init_660 (by decide) ?_
  refine lv_iconst (v := (0 : Int32)) hx hb dX11_init_661 (by decide) ?_
  obtain ⟨r_54, σ_55, hc_56, hf⟩ := z_b_e hf
  refine go_l hR (ms_run (As := [.int (105 : Int32), .int (102 : Int32), .int (0 : Int32), .int (0 : Int32), .int (0 : Int32), .int (0 : Int32), .int (0 : Int32)]) (rest := [.int (10 : Int32), .ref (G.2.2 + 167)]) X hR ms_11_177 (c11_word l G N hc_56) ⟨rfl, rfl, Nat.le_of_ble_eq_true rfl, Nat.le_of_ble_eq_true rfl⟩ rfl hl.1 rfl (Nat.le_of_ble_eq_true rfl) dX11_init_662 ⟨Nat.le_of_ble_eq_true rfl, Nat.le_of_ble_eq_true rfl⟩) (fun H locs hR => ?_)
  obtain ⟨hi_57, hf⟩ := z_c_e hf
  refine r_las X hR ka_167 hi_57 dX11_init_665 (fun H locs σ_58 eσ_58 hR => ?_)
  replace hf := z_l_e eσ_58 hf
  refine lv_aload_n hx hb dX11_init_666 rfl (lv_at hl 0 rfl) ?_
  refine r_gs (t := 167) X hR fr_11_34 kh_160 (sx_11_9 kh_160) dX11_init_667 ?_
  refine lv_bipush (v := (11 : Int32)) hx hb dX11_init_670 (by decide) ?_
  refine lv_bipush (v := (116 : Int32)) hx hb dX11_init_672 (by decide) ?_
  refine lv_bipush (v := (104 : Int32)) hx hb dX11_init_674 (by decide) ?_
  refine lv_bipush (v := (101 : Int32)) hx hb dX11_init_676 (by decide) ?_
  refine lv_bipush (v := (110 : Int32)) hx hb dX11_init_678 (by decide) ?_
  refine lv_iconst (v := (0 : Int32)) hx hb dX11_init_680 (by decide) ?_
  refine lv_iconst (v := (0 : Int32)) hx hb dX11_init_681 (by decide) ?_
  refine lv_iconst (v := (0 : Int32)) hx hb dX11_init_682 (by decide) ?_
  obtain ⟨r_59, σ_60, hc_61, hf⟩ := z_b_e hf
  refine go_l hR (ms_run (As := [.int (116 : Int32), .int (104 : Int32), .int (101 : Int32), .int (110 : Int32), .int (0 : Int32), .int (0 : Int32), .int (0 : Int32)]) (rest := [.int (11 : Int32), .ref (G.2.2 + 167)]) X hR ms_11_177 (c11_word l G N hc_61) ⟨rfl, rfl, Nat.le_of_ble_eq_true rfl, Nat.le_of_ble_eq_true rfl⟩ rfl hl.1 rfl (Nat.le_of_ble_eq_true rfl) dX11_init_683 ⟨Nat.le_of_ble_eq_true rfl, Nat.le_of_ble_eq_true rfl⟩) (fun H locs hR => ?_)
  obtain ⟨hi_62, hf⟩ := z_c_e hf
  refine r_las X hR ka_167 hi_62 dX11_init_686 (fun H locs σ_63 eσ_63 hR => ?_)
  replace hf := z_l_e eσ_63 hf
  refine lv_aload_n hx hb dX11_init_687 rfl (lv_at hl 0 rfl) ?_
  refine r_gs (t := 167) X hR fr_11_34 kh_160 (sx_11_9 kh_160) dX11_init_688 ?_
  refine lv_bipush (v := (12 : Int32)) hx hb dX11_init_691 (by decide) ?_
  refine lv_bipush (v := (101 : Int32)) hx hb dX11_init_693 (by decide) ?_
  refine lv_bipush (v := (108 : Int32)) hx hb dX11_init_695 (by decide) ?_
  refine lv_bipush (v := (115 : Int32)) hx hb dX11_init_697 (by decide) ?_
  refine lv_bipush (v := (101 : Int32)) hx hb dX11_init_699 (by decide) ?_
  refine lv_iconst (v := (0 : Int32)) hx hb dX11_init_701 (by decide) ?_
  refine lv_iconst (v := (0 : Int32)) hx hb dX11_init_702 (by decide) ?_
  refine lv_iconst (v := (0 : Int32)) hx hb dX11_init_703 (by decide) ?_
  obtain ⟨r_64, σ_65, hc_66, hf⟩ := z_b_e hf
  refine go_l hR (ms_run (As := [.int (101 : Int32), .int (108 : Int32), .int (115 : Int32), .int (101 : Int32), .int (0 : Int32), .int (0 : Int32), .int (0 : Int32)]) (rest := [.int (12 : Int32), .ref (G.2.2 + 167)]) X hR ms_11_177 (c11_word l G N hc_66) ⟨rfl, rfl, Nat.le_of_ble_eq_true rfl, Nat.le_of_ble_eq_true rfl⟩ rfl hl.1 rfl (Nat.le_of_ble_eq_true rfl) dX11_init_704 ⟨Nat.le_of_ble_eq_true rfl, Nat.le_of_ble_eq_true rfl⟩) (fun H locs hR => ?_)
  obtain ⟨hi_67, hf⟩ := z_c_e hf
  refine r_las X hR ka_167 hi_67 dX11_init_707 (fun H locs σ_68 eσ_68 hR => ?_)
  replace hf := z_l_e eσ_68 hf
  refine lv_aload_n hx hb dX11_init_708 rfl (lv_at hl 0 rfl) ?_
  refine r_gs (t := 167) X hR fr_11_34 kh_160 (sx_11_9 kh_160) dX11_init_709 ?_
  refine lv_bipush (v := (13 : Int32)) hx hb dX11_init_712 (by decide) ?_
  refine lv_bipush (v := (97 : Int32)) hx hb dX11_init_714 (by decide) ?_
  refine lv_bipush (v := (103 : Int32)) hx hb dX11_init_716 (by decide) ?_
  refine lv_bipush (v := (101 : Int32)) hx hb dX11_init_718 (by decide) ?_
  refine lv_iconst (v := (0 : Int32)) hx hb dX11_init_720 (by decide) ?_
  refine lv_iconst (v := (0 : Int32)) hx hb dX11_init_721 (by decide) ?_
  refine lv_iconst (v := (0 : Int32)) hx hb dX11_init_722 (by decide) ?_
  refine lv_iconst (v := (0 : Int32)) hx hb dX11_init_723 (by decide) ?_
  obtain ⟨r_69, σ_70, hc_71, hf⟩ := z_b_e hf
  refine go_l hR (ms_run (As := [.int (97 : Int32), .int (103 : Int32), .int (101 : Int32), .int (0 : Int32), .int (0 : Int32), .int (0 : Int32), .int (0 : Int32)]) (rest := [.int (13 : Int32), .ref (G.2.2 + 167)]) X hR ms_11_177 (c11_word l G N hc_71) ⟨rfl, rfl, Nat.le_of_ble_eq_true rfl, Nat.le_of_ble_eq_true rfl⟩ rfl hl.1 rfl (Nat.le_of_ble_eq_true rfl) dX11_init_724 ⟨Nat.le_of_ble_eq_true rfl, Nat.le_of_ble_eq_true rfl⟩) (fun H locs hR => ?_)
  obtain ⟨hi_72, hf⟩ := z_c_e hf
  refine r_las X hR ka_167 hi_72 dX11_init_727 (fun H locs σ_73 eσ_73 hR => ?_)
  replace hf := z_l_e eσ_73 hf
  refine lv_aload_n hx hb dX11_init_728 rfl (lv_at hl 0 rfl) ?_
  refine r_gs (t := 167) X hR fr_11_34 kh_160 (sx_11_9 kh_160) dX11_init_729 ?_
  refine lv_bipush (v := (14 : Int32)) hx hb dX11_init_732 (by decide) ?_
  refine lv_bipush (v := (109 : Int32)) hx hb dX11_init_734 (by decide) ?_
  refine lv_bipush (v := (101 : Int32)) hx hb dX11_init_736 (by decide) ?_
  refine lv_bipush (v := (109 : Int32)) hx hb dX11_init_738 (by decide) ?_
  refine lv_bipush (v := (111 : Int32)) hx hb dX11_init_740 (by decide) ?_
  refine lv_bipush (v := (114 : Int32)) hx hb dX11_init_742 (by decide) ?_
  refine lv_bipush (v := (121 : Int32)) hx hb dX11_init_744 (by decide) ?_
  refine lv_iconst (v := (0 : Int32)) hx hb dX11_init_746 (by decide) ?_
  obtain ⟨r_74, σ_75, hc_76, hf⟩ := z_b_e hf
  refine go_l hR (ms_run (As := [.int (109 : Int32), .int (101 : Int32), .int (109 : Int32), .int (111 : Int32), .int (114 : Int32), .int (121 : Int32), .int (0 : Int32)]) (rest := [.int (14 : Int32), .ref (G.2.2 + 167)]) X hR ms_11_177 (c11_word l G N hc_76) ⟨rfl, rfl, Nat.le_of_ble_eq_true rfl, Nat.le_of_ble_eq_true rfl⟩ rfl hl.1 rfl (Nat.le_of_ble_eq_true rfl) dX11_init_747 ⟨Nat.le_of_ble_eq_true rfl, Nat.le_of_ble_eq_true rfl⟩) (fun H locs hR => ?_)
  obtain ⟨hi_77, hf⟩ := z_c_e hf
  refine r_las X hR ka_167 hi_77 dX11_init_750 (fun H locs σ_78 eσ_78 hR => ?_)
  replace hf := z_l_e eσ_78 hf
  refine lv_aload_n hx hb dX11_init_751 rfl (lv_at hl 0 rfl) ?_
  refine r_gs (t := 167) X hR fr_11_34 kh_160 (sx_11_9 kh_160) dX11_init_752 ?_
  refine lv_bipush (v := (15 : Int32)) hx hb dX11_init_755 (by decide) ?_
  refine lv_bipush (v := (115 : Int32)) hx hb dX11_init_757 (by decide) ?_
  refine lv_bipush (v := (105 : Int32)) hx hb dX11_init_759 (by decide) ?_
  refine lv_bipush (v := (110 : Int32)) hx hb dX11_init_761 (by decide) ?_
  refine lv_bipush (v := (99 : Int32)) hx hb dX11_init_763 (by decide) ?_
  refine lv_bipush (v := (101 : Int32)) hx hb dX11_init_765 (by decide) ?_
  refine lv_iconst (v := (0 : Int32)) hx hb dX11_init_767 (by decide) ?_
  refine lv_iconst (v := (0 : Int32)) hx hb dX11_init_768 (by decide) ?_
  obtain ⟨r_79, σ_80, hc_81, hf⟩ := z_b_e hf
  refine go_l hR (ms_run (As := [.int (115 : Int32), .int (105 : Int32), .int (110 : Int32), .int (99 : Int32), .int (101 : Int32), .int (0 : Int32), .int (0 : Int32)]) (rest := [.int (15 : Int32), .ref (G.2.2 + 167)]) X hR ms_11_177 (c11_word l G N hc_81) ⟨rfl, rfl, Nat.le_of_ble_eq_true rfl, Nat.le_of_ble_eq_true rfl⟩ rfl hl.1 rfl (Nat.le_of_ble_eq_true rfl) dX11_init_769 ⟨Nat.le_of_ble_eq_true rfl, Nat.le_of_ble_eq_true rfl⟩) (fun H locs hR => ?_)
  obtain ⟨hi_82, hf⟩ := z_c_e hf
  refine r_las X hR ka_167 hi_82 dX11_init_772 (fun H locs σ_83 eσ_83 hR => ?_)
  replace hf := z_l_e eσ_83 hf
  refine lv_aload_n hx hb dX11_init_773 rfl (lv_at hl 0 rfl) ?_
  refine r_gs (t := 167) X hR fr_11_34 kh_160 (sx_11_9 kh_160) dX11_init_774 ?_
  refine lv_bipush (v := (16 : Int32)) hx hb dX11_init_777 (by decide) ?_
  refine lv_bipush (v := (121 : Int32)) hx hb dX11_init_779 (by decide) ?_
  refine lv_bipush (v := (101 : Int32)) hx hb dX11_init_781 (by decide) ?_
  refine lv_bipush (v := (97 : Int32)) hx hb dX11_init_783 (by decide) ?_
  refine lv_bipush (v := (114 : Int32)) hx hb dX11_init_785 (by decide) ?_
  refine lv_iconst (v := (0 : Int32)) hx hb dX11_init_787 (by decide) ?_
  refine lv_iconst (v := (0 : Int32)) hx hb dX11_init_788 (by decide) ?_
  refine lv_iconst (v := (0 : Int32)) hx hb dX11_init_789 (by decide) ?_
  obtain ⟨r_84, σ_85, hc_86, hf⟩ := z_b_e hf
  refine go_l hR (ms_run (As := [.int (121 : Int32), .int (101 : Int32), .int (97 : Int32), .int (114 : Int32), .int (0 : Int32), .int (0 : Int32), .int (0 : Int32)]) (rest := [.int (16 : Int32), .ref (G.2.2 + 167)]) X hR ms_11_177 (c11_word l G N hc_86) ⟨rfl, rfl, Nat.le_of_ble_eq_true rfl, Nat.le_of_ble_eq_true rfl⟩ rfl hl.1 rfl (Nat.le_of_ble_eq_true rfl) dX11_init_790 ⟨Nat.le_of_ble_eq_true rfl, Nat.le_of_ble_eq_true rfl⟩) (fun H locs hR => ?_)
  obtain ⟨hi_87, hf⟩ := z_c_e hf
  refine r_las X hR ka_167 hi_87 dX11_init_793 (fun H locs σ_88 eσ_88 hR => ?_)
  replace hf := z_l_e eσ_88 hf
  refine lv_aload_n hx hb dX11_init_794 rfl (lv_at hl 0 rfl) ?_
  refine r_gs (t := 167) X hR fr_11_34 kh_160 (sx_11_9 kh_160) dX11_init_795 ?_
  refine lv_bipush (v := (17 : Int32)) hx hb dX11_init_798 (by decide) ?_
  refine lv_bipush (v := (119 : Int32)) hx hb dX11_init_800 (by decide) ?_
  refine lv_bipush (v := (104 : Int32)) hx hb dX11_init_802 (by decide) ?_
  refine lv_bipush (v := (105 : Int32)) hx hb dX11_init_804 (by decide) ?_
  refine lv_bipush (v := (99 : Int32)) hx hb dX11_init_806 (by decide) ?_
  refine lv_bipush (v := (104 : Int32)) hx hb dX11_init_808 (by decide) ?_
  refine lv_iconst (v := (0 : Int32)) hx hb dX11_init_810 (by decide) ?_
  refine lv_iconst (v := (0 : Int32)) hx hb dX11_init_811 (by decide) ?_
  obtain ⟨r_89, σ_90, hc_91, hf⟩ := z_b_e hf
  refine go_l hR (ms_run (As := [.int (119 : Int32), .int (104 : Int32), .int (105 : Int32), .int (99 : Int32), .int (104 : Int32), .int (0 : Int32), .int (0 : Int32)]) (rest := [.int (17 : Int32), .ref (G.2.2 + 167)]) X hR ms_11_177 (c11_word l G N hc_91) ⟨rfl, rfl, Nat.le_of_ble_eq_true rfl, Nat.le_of_ble_eq_true rfl⟩ rfl hl.1 rfl (Nat.le_of_ble_eq_true rfl) dX11_init_812 ⟨Nat.le_of_ble_eq_true rfl, Nat.le_of_ble_eq_true rfl⟩) (fun H locs hR => ?_)
  obtain ⟨hi_92, hf⟩ := z_c_e hf
  refine r_las X hR ka_167 hi_92 dX11_init_815 (fun H locs σ_93 eσ_93 hR => ?_)
  replace hf := z_l_e eσ_93 hf
  refine lv_aload_n hx hb dX11_init_816 rfl (lv_at hl 0 rfl) ?_
  refine r_gs (t := 167) X hR fr_11_34 kh_160 (sx_11_9 kh_160) dX11_init_817 ?_
  refine lv_bipush (v := (18 : Int32)) hx hb dX11_init_820 (by decide) ?_
  refine lv_bipush (v := (115 : Int32)) hx hb dX11_init_822 (by decide) ?_
  refine lv_bipush (v := (101 : Int32)) hx hb dX11_init_824 (by decide) ?_
  refine lv_bipush (v := (101 : Int32)) hx hb dX11_init_826 (by decide) ?_
  refine lv_bipush (v := (110 : Int32)) hx hb dX11_init_828 (by decide) ?_
  refine lv_iconst (v := (0 : Int32)) hx hb dX11_init_830 (by decide) ?_
  refine lv_iconst (v := (0 : Int32)) hx hb dX11_init_831 (by decide) ?_
  refine lv_iconst (v := (0 : Int32)) hx hb dX11_init_832 (by decide) ?_
  obtain ⟨r_94, σ_95, hc_96, hf⟩ := z_b_e hf
  refine go_l hR (ms_run (As := [.int (115 : Int32), .int (101 : Int32), .int (101 : Int32), .int (110 : Int32), .int (0 : Int32), .int (0 : Int32), .int (0 : Int32)]) (rest := [.int (18 : Int32), .ref (G.2.2 + 167)]) X hR ms_11_177 (c11_word l G N hc_96) ⟨rfl, rfl, Nat.le_of_ble_eq_true rfl, Nat.le_of_ble_eq_true rfl⟩ rfl hl.1 rfl (Nat.le_of_ble_eq_true rfl) dX11_init_833 ⟨Nat.le_of_ble_eq_true rfl, Nat.le_of_ble_eq_true rfl⟩) (fun H locs hR => ?_)
  obtain ⟨hi_97, hf⟩ := z_c_e hf
  refine r_las X hR ka_167 hi_97 dX11_init_836 (fun H locs σ_98 eσ_98 hR => ?_)
  replace hf := z_l_e eσ_98 hf
  refine lv_aload_n hx hb dX11_init_837 rfl (lv_at hl 0 rfl) ?_
  refine r_gs (t := 167) X hR fr_11_34 kh_160 (sx_11_9 kh_160) dX11_init_838 ?_
  refine lv_bipush (v := (19 : Int32)) hx hb dX11_init_841 (by decide) ?_
  refine lv_bipush (v := (102 : Int32)) hx hb dX11_init_843 (by decide) ?_
  refine lv_bipush (v := (97 : Int32)) hx hb dX11_init_845 (by decide) ?_
  refine lv_bipush (v := (114 : Int32)) hx hb dX11_init_847 (by decide) ?_
  refine lv_iconst (v := (0 : Int32)) hx hb dX11_init_849 (by decide) ?_
  refine lv_iconst (v := (0 : Int32)) hx hb dX11_init_850 (by decide) ?_
  refine lv_iconst (v := (0 : Int32)) hx hb dX11_init_851 (by decide) ?_
  refine lv_iconst (v := (0 : Int32)) hx hb dX11_init_852 (by decide) ?_
  obtain ⟨r_99, σ_100, hc_101, hf⟩ := z_b_e hf
  refine go_l hR (ms_run (As := [.int (102 : Int32), .int (97 : Int32), .int (114 : Int32), .int (0 : Int32), .int (0 : Int32), .int (0 : Int32), .int (0 : Int32)]) (rest := [.int (19 : Int32), .ref (G.2.2 + 167)]) X hR ms_11_177 (c11_word l G N hc_101) ⟨rfl, rfl, Nat.le_of_ble_eq_true rfl, Nat.le_of_ble_eq_true rfl⟩ rfl hl.1 rfl (Nat.le_of_ble_eq_true rfl) dX11_init_853 ⟨Nat.le_of_ble_eq_true rfl, Nat.le_of_ble_eq_true rfl⟩) (fun H locs hR => ?_)
  obtain ⟨hi_102, hf⟩ := z_c_e hf
  refine r_las X hR ka_167 hi_102 dX11_init_856 (fun H locs σ_103 eσ_103 hR => ?_)
  replace hf := z_l_e eσ_103 hf
  refine lv_aload_n hx hb dX11_init_857 rfl (lv_at hl 0 rfl) ?_
  refine r_gs (t := 167) X hR fr_11_34 kh_160 (sx_11_9 kh_160) dX11_init_858 ?_
  refine lv_bipush (v := (20 : Int32)) hx hb dX11_init_861 (by decide) ?_
  refine lv_bipush (v := (97 : Int32)) hx hb dX11_init_863 (by decide) ?_
  refine lv_bipush (v := (99 : Int32)) hx hb dX11_init_865 (by decide) ?_
  refine lv_bipush (v := (114 : Int32)) hx hb dX11_init_867 (by decide) ?_
  refine lv_bipush (v := (111 : Int32)) hx hb dX11_init_869 (by decide) ?_
  refine lv_bipush (v := (115 : Int32)) hx hb dX11_init_871 (by decide) ?_
  refine lv_bipush (v := (115 : Int32)) hx hb dX11_init_873 (by decide) ?_
  refine lv_iconst (v := (0 : Int32)) hx hb dX11_init_875 (by decide) ?_
  obtain ⟨r_104, σ_105, hc_106, hf⟩ := z_b_e hf
  refine go_l hR (ms_run (As := [.int (97 : Int32), .int (99 : Int32), .int (114 : Int32), .int (111 : Int32), .int (115 : Int32), .int (115 : Int32), .int (0 : Int32)]) (rest := [.int (20 : Int32), .ref (G.2.2 + 167)]) X hR ms_11_177 (c11_word l G N hc_106) ⟨rfl, rfl, Nat.le_of_ble_eq_true rfl, Nat.le_of_ble_eq_true rfl⟩ rfl hl.1 rfl (Nat.le_of_ble_eq_true rfl) dX11_init_876 ⟨Nat.le_of_ble_eq_true rfl, Nat.le_of_ble_eq_true rfl⟩) (fun H locs hR => ?_)
  obtain ⟨hi_107, hf⟩ := z_c_e hf
  refine r_las X hR ka_167 hi_107 dX11_init_879 (fun H locs σ_108 eσ_108 hR => ?_)
  replace hf := z_l_e eσ_108 hf
  refine lv_aload_n hx hb dX11_init_880 rfl (lv_at hl 0 rfl) ?_
  refine r_gs (t := 167) X hR fr_11_34 kh_160 (sx_11_9 kh_160) dX11_init_881 ?_
  refine lv_bipush (v := (21 : Int32)) hx hb dX11_init_884 (by decide) ?_
  refine lv_bipush (v := (100 : Int32)) hx hb dX11_init_886 (by decide) ?_
  refine lv_bipush (v := (111 : Int32)) hx hb dX11_init_888 (by decide) ?_
  refine lv_bipush (v := (119 : Int32)) hx hb dX11_init_890 (by decide) ?_
  refine lv_bipush (v := (110 : Int32)) hx hb dX11_init_892 (by decide) ?_
  refine lv_iconst (v := (0 : Int32)) hx hb dX11_init_894 (by decide) ?_
  refine lv_iconst (v := (0 : Int32)) hx hb dX11_init_895 (by decide) ?_
  refine lv_iconst (v := (0 : Int32)) hx hb dX11_init_896 (by decide) ?_
  obtain ⟨r_109, σ_110, hc_111, hf⟩ := z_b_e hf
  refine go_l hR (ms_run (As := [.int (100 : Int32), .int (111 : Int32), .int (119 : Int32), .int (110 : Int32), .int (0 : Int32), .int (0 : Int32), .int (0 : Int32)]) (rest := [.int (21 : Int32), .ref (G.2.2 + 167)]) X hR ms_11_177 (c11_word l G N hc_111) ⟨rfl, rfl, Nat.le_of_ble_eq_true rfl, Nat.le_of_ble_eq_true rfl⟩ rfl hl.1 rfl (Nat.le_of_ble_eq_true rfl) dX11_init_897 ⟨Nat.le_of_ble_eq_true rfl, Nat.le_of_ble_eq_true rfl⟩) (fun H locs hR => ?_)
  obtain ⟨hi_112, hf⟩ := z_c_e hf
  refine r_las X hR ka_167 hi_112 dX11_init_900 (fun H locs σ_113 eσ_113 hR => ?_)
  replace hf := z_l_e eσ_113 hf
  refine lv_aload_n hx hb dX11_init_901 rfl (lv_at hl 0 rfl) ?_
  obtain ⟨r_114, σ_115, hc_116, hf⟩ := z_b_e hf
  refine go_v hR (mv_run (As := []) (rest := []) X hR mv_11_181 kh_160 (kd_lt kh_160 (by decide)) (c11_begins l G N hc_116) ⟨rfl, rfl, Nat.le_of_ble_eq_true rfl, Nat.le_of_ble_eq_true rfl⟩ rfl hl.1 rfl (Nat.le_of_ble_eq_true rfl) dX11_init_902 ⟨Nat.le_of_ble_eq_true rfl, Nat.le_of_ble_eq_true rfl⟩) (fun H locs hR => ?_)
  refine lv_aload_n hx hb dX11_init_905 rfl (lv_at hl 0 rfl) ?_
  obtain ⟨r_117, σ_118, hc_119, hf⟩ := z_b_e hf
  refine go_v hR (mv_run (As := []) (rest := []) X hR mv_11_184 kh_160 (kd_lt kh_160 (by decide)) (c11_keepsRow l G N hc_119) ⟨rfl, rfl, Nat.le_of_ble_eq_true rfl, Nat.le_of_ble_eq_true rfl⟩ rfl hl.1 rfl (Nat.le_of_ble_eq_true rfl) dX11_init_906 ⟨Nat.le_of_ble_eq_true rfl, Nat.le_of_ble_eq_true rfl⟩) (fun H locs hR => ?_)
  exact e_v X hR hr hlk hf dX11_init_909
end GEN
def f11_init (N : Nat) (σ : Mm) : Option (Unit × Mm) :=
  z_l (clr σ 161) fun σ_1 =>
  z_l (sR σ_1 160 1 (some 161)) fun σ_2 =>
  z_l (clr σ_2 162) fun σ_3 =>
  z_l (sR σ_3 160 3 (some 162)) fun σ_4 =>
  z_l (clr σ_4 163) fun σ_5 =>
  z_l (sR σ_5 160 5 (some 163)) fun σ_6 =>
  z_l (clr σ_6 164) fun σ_7 =>
  z_l (sR σ_7 160 6 (some 164)) fun σ_8 =>
  z_l (clr σ_8 165) fun σ_9 =>
  z_l (sR σ_9 160 7 (some 165)) fun σ_10 =>
  z_l (clr σ_10 166) fun σ_11 =>
  z_l (sR σ_11 160 8 (some 166)) fun σ_12 =>
  z_l (clr σ_12 167) fun σ_13 =>
  z_l (sR σ_13 160 9 (some 167)) fun σ_14 =>
  z_l (sI σ_14 160 17 (-1 : Int32)) fun σ_15 =>
  z_l (clr σ_15 168) fun σ_16 =>
  z_l (sR σ_16 160 21 (some 168)) fun σ_17 =>
  z_l (clr σ_17 169) fun σ_18 =>
  z_l (sR σ_18 160 22 (some 169)) fun σ_19 =>
  z_l (clr σ_19 170) fun σ_20 =>
  z_l (sR σ_20 160 23 (some 170)) fun σ_21 =>
  z_l (clr σ_21 171) fun σ_22 =>
  z_l (sR σ_22 160 24 (some 171)) fun σ_23 =>
  z_l (clr σ_23 172) fun σ_24 =>
  z_l (sR σ_24 160 25 (some 172)) fun σ_25 =>
  z_l (clr σ_25 173) fun σ_26 =>
  z_l (sR σ_26 160 26 (some 173)) fun σ_27 =>
  z_l (clr σ_27 174) fun σ_28 =>
  z_l (sR σ_28 160 27 (some 174)) fun σ_29 =>
  z_l (clr σ_29 175) fun σ_30 =>
  z_l (sR σ_30 160 28 (some 175)) fun σ_31 =>
  z_l (clr σ_31 176) fun σ_32 =>
  z_l (sR σ_32 160 29 (some 176)) fun σ_33 =>
  z_l (clr σ_33 177) fun σ_34 =>
  z_l (sR σ_34 160 30 (some 177)) fun σ_35 =>
  z_l (clr σ_35 178) fun σ_36 =>
  z_l (sR σ_36 160 31 (some 178)) fun σ_37 =>
  z_l (clr σ_37 179) fun σ_38 =>
  z_l (sR σ_38 160 32 (some 179)) fun σ_39 =>
  z_l (clr σ_39 180) fun σ_40 =>
  z_l (sR σ_40 160 33 (some 180)) fun σ_41 =>
  z_l (clr σ_41 181) fun σ_42 =>
  z_l (sR σ_42 160 34 (some 181)) fun σ_43 =>
  z_l (clr σ_43 182) fun σ_44 =>
  z_l (sR σ_44 160 35 (some 182)) fun σ_45 =>
  z_l (clr σ_45 183) fun σ_46 =>
  z_l (sR σ_46 160 36 (some 183)) fun σ_47 =>
  z_l (clr σ_47 184) fun σ_48 =>
  z_l (sR σ_48 160 37 (some 184)) fun σ_49 =>
  z_l (clr σ_49 185) fun σ_50 =>
  z_l (sR σ_50 160 38 (some 185)) fun σ_51 =>
  z_l (clr σ_51 186) fun σ_52 =>
  z_l (sR σ_52 160 39 (some 186)) fun σ_53 =>
  z_l (clr σ_53 187) fun σ_54 =>
  z_l (sR σ_54 160 40 (some 187)) fun σ_55 =>
  z_l (clr σ_55 188) fun σ_56 =>
  z_l (sR σ_56 160 42 (some 188)) fun σ_57 =>
  z_l (clr σ_57 189) fun σ_58 =>
  z_l (sR σ_58 160 43 (some 189)) fun σ_59 =>
  z_l (clr σ_59 190) fun σ_60 =>
  z_l (sR σ_60 160 44 (some 190)) fun σ_61 =>
  z_l (clr σ_61 191) fun σ_62 =>
  z_l (sR σ_62 160 45 (some 191)) fun σ_63 =>
  z_l (clr σ_63 192) fun σ_64 =>
  z_l (sR σ_64 160 46 (some 192)) fun σ_65 =>
  z_l (clr σ_65 193) fun σ_66 =>
  z_l (sR σ_66 160 48 (some 193)) fun σ_67 =>
  z_l (clr σ_67 194) fun σ_68 =>
  z_l (sR σ_68 160 49 (some 194)) fun σ_69 =>
  z_l (clr σ_69 195) fun σ_70 =>
  z_l (sR σ_70 160 50 (some 195)) fun σ_71 =>
  z_l (clr σ_71 196) fun σ_72 =>
  z_l (sR σ_72 160 52 (some 196)) fun σ_73 =>
  z_l (clr σ_73 197) fun σ_74 =>
  z_l (sR σ_74 160 53 (some 197)) fun σ_75 =>
  z_l (clr σ_75 198) fun σ_76 =>
  z_l (sR σ_76 160 55 (some 198)) fun σ_77 =>
  z_l (clr σ_77 199) fun σ_78 =>
  z_l (sR σ_78 160 56 (some 199)) fun σ_79 =>
  z_l (clr σ_79 200) fun σ_80 =>
  z_l (sR σ_80 160 60 (some 200)) fun σ_81 =>
  z_l (clr σ_81 201) fun σ_82 =>
  z_l (sR σ_82 160 61 (some 201)) fun σ_83 =>
  z_l (clr σ_83 202) fun σ_84 =>
  z_l (sR σ_84 160 62 (some 202)) fun σ_85 =>
  z_l (clr σ_85 203) fun σ_86 =>
  z_l (sR σ_86 160 64 (some 203)) fun σ_87 =>
  z_l (clr σ_87 204) fun σ_88 =>
  z_l (sR σ_88 160 65 (some 204)) fun σ_89 =>
  z_l (clr σ_89 205) fun σ_90 =>
  z_l (sR σ_90 160 66 (some 205)) fun σ_91 =>
  z_l (clr σ_91 206) fun σ_92 =>
  z_l (sR σ_92 160 67 (some 206)) fun σ_93 =>
  z_l (clr σ_93 207) fun σ_94 =>
  z_l (sR σ_94 160 68 (some 207)) fun σ_95 =>
  z_l (clr σ_95 208) fun σ_96 =>
  z_l (sR σ_96 160 70 (some 208)) fun σ_97 =>
  z_l (clr σ_97 209) fun σ_98 =>
  z_l (sR σ_98 160 71 (some 209)) fun σ_99 =>
  z_l (clr σ_99 210) fun σ_100 =>
  z_l (sR σ_100 160 72 (some 210)) fun σ_101 =>
  z_l (clr σ_101 211) fun σ_102 =>
  z_l (sR σ_102 160 73 (some 211)) fun σ_103 =>
  z_c (rfB σ_103) (f11_init_427 N σ_103)
set_option maxHeartbeats 8000000 in
set_option maxRecDepth 100000 in
theorem c11_init (l : Launch) (G : Gp) (N : Nat) {σ σ0 : Mm} {u0 : Unit} (hf : f11_init N σ = some (u0, σ0)) : Met l yX11_init (WS yX11_init cX11_init 1 none) rm11_init (va_Pc [.ref (G.2.2 + 160)] (Pd G 161 ff σ)) (P_v G 212 tt u0 σ0) 51 14489 (Fr G) := by
  refine ct2 [(0, .ref (G.2.2 + 160))] rfl (by decide) (Nat.le_of_ble_eq_true rfl) ?_
  intro p e s m below meth c ls X hr hlk hin hR hl
  have X : Cx p s m _ c cX11_init 1 RX11 G := X
  have hx := X.1
  have hb := X.2.1
  have hin : meth.name = "<init>" := hin
  unfold f11_init at hf
  refine lv_aload_n hx hb dX11_init_0 rfl (lv_at hl 0 rfl) ?_
  refine W.objInit hx hb X.2.2.2.1 (X.2.2.2.2.1 _ ol_11) (X.2.2.2.2.1 _ oi_inst) (X.2.2.2.2.1 _ oi_code) rfl (hl.1.trans X.2.2.1.symm) rfl dX11_init_1 (Nat.le_of_ble_eq_true rfl) (Nat.le_of_ble_eq_true rfl) ?_
  refine W.eq (g2 := F0 m 4 ls []) rfl ?_
  refine lv_aload_n hx hb dX11_init_4 rfl (lv_at hl 0 rfl) ?_
  refine lv_sipush (v := (2000 : Int32)) hx hb dX11_init_5 (by decide) ?_
  refine q_newb X hR (kd_ltA ka_161 (by decide)) rfl ka_161 (by decide) (by decide) (by decide) (Nat.le_of_ble_eq_true rfl) (Nat.le_of_ble_eq_true rfl) dX11_init_8 (fun H σ_1 eσ_1 hR => ?_)
  replace hf := z_l_e eσ_1 hf
  have hR : Rp G 162 ff σ_1 s H _ := hR
  refine W.widen (k := 1) (n := 2000) (Nat.le_of_ble_eq_true rfl) (Nat.le_of_ble_eq_true rfl) ?_
  refine q_pf X hR hin cf_11_13 kh_160 (by decide) rfl rfl rfl dX11_init_10 (fun H locs σ_2 eσ_2 hR => ?_)
  replace hf := z_l_e eσ_2 hf
  refine lv_aload_n hx hb dX11_init_13 rfl (lv_at hl 0 rfl) ?_
  refine lv_sipush (v := (2000 : Int32)) hx hb dX11_init_14 (by decide) ?_
  refine q_newb X hR (kd_ltA ka_162 (by decide)) rfl ka_162 (by decide) (by decide) (by decide) (Nat.le_of_ble_eq_true rfl) (Nat.le_of_ble_eq_true rfl) dX11_init_17 (fun H σ_3 eσ_3 hR => ?_)
  replace hf := z_l_e eσ_3 hf
  have hR : Rp G 163 ff σ_3 s H _ := hR
  refine W.widen (k := 2) (n := 4000) (Nat.le_of_ble_eq_true rfl) (Nat.le_of_ble_eq_true rfl) ?_
  refine q_pf X hR hin cf_11_17 kh_160 (by decide) rfl rfl rfl dX11_init_19 (fun H locs σ_4 eσ_4 hR => ?_)
  replace hf := z_l_e eσ_4 hf
  refine lv_aload_n hx hb dX11_init_22 rfl (lv_at hl 0 rfl) ?_
  refine lv_sipush (v := (403 : Int32)) hx hb dX11_init_23 (by decide) ?_
  refine q_newi X hR (kd_ltA ka_163 (by decide)) rfl ka_163 (by decide) (by decide) (by decide) (Nat.le_of_ble_eq_true rfl) (Nat.le_of_ble_eq_true rfl) dX11_init_26 (fun H σ_5 eσ_5 hR => ?_)
  replace hf := z_l_e eσ_5 hf
  have hR : Rp G 164 ff σ_5 s H _ := hR
  refine W.widen (k := 3) (n := 4403) (Nat.le_of_ble_eq_true rfl) (Nat.le_of_ble_eq_true rfl) ?_
  refine q_pf X hR hin cf_11_20 kh_160 (by decide) rfl rfl rfl dX11_init_28 (fun H locs σ_6 eσ_6 hR => ?_)
  replace hf := z_l_e eσ_6 hf
  refine lv_aload_n hx hb dX11_init_31 rfl (lv_at hl 0 rfl) ?_
  refine lv_sipush (v := (403 : Int32)) hx hb dX11_init_32 (by decide) ?_
  refine q_newi X hR (kd_ltA ka_164 (by decide)) rfl ka_164 (by decide) (by decide) (by decide) (Nat.le_of_ble_eq_true rfl) (Nat.le_of_ble_eq_true rfl) dX11_init_35 (fun H σ_7 eσ_7 hR => ?_)
  replace hf := z_l_e eσ_7 hf
  have hR : Rp G 165 ff σ_7 s H _ := hR
  refine W.widen (k := 4) (n := 4806) (Nat.le_of_ble_eq_true rfl) (Nat.le_of_ble_eq_true rfl) ?_
  refine q_pf X hR hin cf_11_24 kh_160 (by decide) rfl rfl rfl dX11_init_37 (fun H locs σ_8 eσ_8 hR => ?_)
  replace hf := z_l_e eσ_8 hf
  refine lv_aload_n hx hb dX11_init_40 rfl (lv_at hl 0 rfl) ?_
  refine lv_sipush (v := (403 : Int32)) hx hb dX11_init_41 (by decide) ?_
  refine q_newi X hR (kd_ltA ka_165 (by decide)) rfl ka_165 (by decide) (by decide) (by decide) (Nat.le_of_ble_eq_true rfl) (Nat.le_of_ble_eq_true rfl) dX11_init_44 (fun H σ_9 eσ_9 hR => ?_)
  replace hf := z_l_e eσ_9 hf
  have hR : Rp G 166 ff σ_9 s H _ := hR
  refine W.widen (k := 5) (n := 5209) (Nat.le_of_ble_eq_true rfl) (Nat.le_of_ble_eq_true rfl) ?_
  refine q_pf X hR hin cf_11_27 kh_160 (by decide) rfl rfl rfl dX11_init_46 (fun H locs σ_10 eσ_10 hR => ?_)
  replace hf := z_l_e eσ_10 hf
  refine lv_aload_n hx hb dX11_init_49 rfl (lv_at hl 0 rfl) ?_
  refine lv_sipush (v := (403 : Int32)) hx hb dX11_init_50 (by decide) ?_
  refine q_newl X hR (kd_ltA ka_166 (by decide)) rfl ka_166 (by decide) (by decide) (by decide) (Nat.le_of_ble_eq_true rfl) (Nat.le_of_ble_eq_true rfl) dX11_init_53 (fun H σ_11 eσ_11 hR => ?_)
  replace hf := z_l_e eσ_11 hf
  have hR : Rp G 167 ff σ_11 s H _ := hR
  refine W.widen (k := 6) (n := 5612) (Nat.le_of_ble_eq_true rfl) (Nat.le_of_ble_eq_true rfl) ?_
  refine q_pf X hR hin cf_11_30 kh_160 (by decide) rfl rfl rfl dX11_init_55 (fun H locs σ_12 eσ_12 hR => ?_)
  replace hf := z_l_e eσ_12 hf
  refine lv_aload_n hx hb dX11_init_58 rfl (lv_at hl 0 rfl) ?_
  refine lv_bipush (v := (22 : Int32)) hx hb dX11_init_59 (by decide) ?_
  refine q_newl X hR (kd_ltA ka_167 (by decide)) rfl ka_167 (by decide) (by decide) (by decide) (Nat.le_of_ble_eq_true rfl) (Nat.le_of_ble_eq_true rfl) dX11_init_61 (fun H σ_13 eσ_13 hR => ?_)
  replace hf := z_l_e eσ_13 hf
  have hR : Rp G 168 ff σ_13 s H _ := hR
  refine W.widen (k := 7) (n := 5634) (Nat.le_of_ble_eq_true rfl) (Nat.le_of_ble_eq_true rfl) ?_
  refine q_pf X hR hin cf_11_34 kh_160 (by decide) rfl rfl rfl dX11_init_63 (fun H locs σ_14 eσ_14 hR => ?_)
  replace hf := z_l_e eσ_14 hf
  refine lv_aload_n hx hb dX11_init_66 rfl (lv_at hl 0 rfl) ?_
  refine lv_iconst (v := (-1 : Int32)) hx hb dX11_init_67 (by decide) ?_
  refine q_pi X hR ci_11_37.1 ci_11_37.2 kh_160 (by decide) dX11_init_68 (fun H locs σ_15 eσ_15 hR => ?_)
  replace hf := z_l_e eσ_15 hf
  refine lv_aload_n hx hb dX11_init_71 rfl (lv_at hl 0 rfl) ?_
  refine lv_bipush (v := (20 : Int32)) hx hb dX11_init_72 (by decide) ?_
  refine q_newl X hR (kd_ltA ka_168 (by decide)) rfl ka_168 (by decide) (by decide) (by decide) (Nat.le_of_ble_eq_true rfl) (Nat.le_of_ble_eq_true rfl) dX11_init_74 (fun H σ_16 eσ_16 hR => ?_)
  replace hf := z_l_e eσ_16 hf
  have hR : Rp G 169 ff σ_16 s H _ := hR
  refine W.widen (k := 8) (n := 5654) (Nat.le_of_ble_eq_true rfl) (Nat.le_of_ble_eq_true rfl) ?_
  refine q_pf X hR hin cf_11_40 kh_160 (by decide) rfl rfl rfl dX11_init_76 (fun H locs σ_17 eσ_17 hR => ?_)
  replace hf := z_l_e eσ_17 hf
  refine lv_aload_n hx hb dX11_init_79 rfl (lv_at hl 0 rfl) ?_
  refine lv_bipush (v := (20 : Int32)) hx hb dX11_init_80 (by decide) ?_
  refine q_newi X hR (kd_ltA ka_169 (by decide)) rfl ka_169 (by decide) (by decide) (by decide) (Nat.le_of_ble_eq_true rfl) (Nat.le_of_ble_eq_true rfl) dX11_init_82 (fun H σ_18 eσ_18 hR => ?_)
  replace hf := z_l_e eσ_18 hf
  have hR : Rp G 170 ff σ_18 s H _ := hR
  refine W.widen (k := 9) (n := 5674) (Nat.le_of_ble_eq_true rfl) (Nat.le_of_ble_eq_true rfl) ?_
  refine q_pf X hR hin cf_11_43 kh_160 (by decide) rfl rfl rfl dX11_init_84 (fun H locs σ_19 eσ_19 hR => ?_)
  replace hf := z_l_e eσ_19 hf
  refine lv_aload_n hx hb dX11_init_87 rfl (lv_at hl 0 rfl) ?_
  refine lv_iconst (v := (2 : Int32)) hx hb dX11_init_88 (by decide) ?_
  refine q_newi X hR (kd_ltA ka_170 (by decide)) rfl ka_170 (by decide) (by decide) (by decide) (Nat.le_of_ble_eq_true rfl) (Nat.le_of_ble_eq_true rfl) dX11_init_89 (fun H σ_20 eσ_20 hR => ?_)
  replace hf := z_l_e eσ_20 hf
  have hR : Rp G 171 ff σ_20 s H _ := hR
  refine W.widen (k := 10) (n := 5676) (Nat.le_of_ble_eq_true rfl) (Nat.le_of_ble_eq_true rfl) ?_
  refine q_pf X hR hin cf_11_46 kh_160 (by decide) rfl rfl rfl dX11_init_91 (fun H locs σ_21 eσ_21 hR => ?_)
  replace hf := z_l_e eσ_21 hf
  refine lv_aload_n hx hb dX11_init_94 rfl (lv_at hl 0 rfl) ?_
  refine lv_iconst (v := (2 : Int32)) hx hb dX11_init_95 (by decide) ?_
  refine q_newi X hR (kd_ltA ka_171 (by decide)) rfl ka_171 (by decide) (by decide) (by decide) (Nat.le_of_ble_eq_true rfl) (Nat.le_of_ble_eq_true rfl) dX11_init_96 (fun H σ_22 eσ_22 hR => ?_)
  replace hf := z_l_e eσ_22 hf
  have hR : Rp G 172 ff σ_22 s H _ := hR
  refine W.widen (k := 11) (n := 5678) (Nat.le_of_ble_eq_true rfl) (Nat.le_of_ble_eq_true rfl) ?_
  refine q_pf X hR hin cf_11_49 kh_160 (by decide) rfl rfl rfl dX11_init_98 (fun H locs σ_23 eσ_23 hR => ?_)
  replace hf := z_l_e eσ_23 hf
  refine lv_aload_n hx hb dX11_init_101 rfl (lv_at hl 0 rfl) ?_
  refine lv_bipush (v := (14 : Int32)) hx hb dX11_init_102 (by decide) ?_
  refine q_newi X hR (kd_ltA ka_172 (by decide)) rfl ka_172 (by decide) (by decide) (by decide) (Nat.le_of_ble_eq_true rfl) (Nat.le_of_ble_eq_true rfl) dX11_init_104 (fun H σ_24 eσ_24 hR => ?_)
  replace hf := z_l_e eσ_24 hf
  have hR : Rp G 173 ff σ_24 s H _ := hR
  refine W.widen (k := 12) (n := 5692) (Nat.le_of_ble_eq_true rfl) (Nat.le_of_ble_eq_true rfl) ?_
  refine q_pf X hR hin cf_11_52 kh_160 (by decide) rfl rfl rfl dX11_init_106 (fun H locs σ_25 eσ_25 hR => ?_)
  replace hf := z_l_e eσ_25 hf
  refine lv_aload_n hx hb dX11_init_109 rfl (lv_at hl 0 rfl) ?_
  refine lv_bipush (v := (14 : Int32)) hx hb dX11_init_110 (by decide) ?_
  refine q_newi X hR (kd_ltA ka_173 (by decide)) rfl ka_173 (by decide) (by decide) (by decide) (Nat.le_of_ble_eq_true rfl) (Nat.le_of_ble_eq_true rfl) dX11_init_112 (fun H σ_26 eσ_26 hR => ?_)
  replace hf := z_l_e eσ_26 hf
  have hR : Rp G 174 ff σ_26 s H _ := hR
  refine W.widen (k := 13) (n := 5706) (Nat.le_of_ble_eq_true rfl) (Nat.le_of_ble_eq_true rfl) ?_
  refine q_pf X hR hin cf_11_55 kh_160 (by decide) rfl rfl rfl dX11_init_114 (fun H locs σ_27 eσ_27 hR => ?_)
  replace hf := z_l_e eσ_27 hf
  refine lv_aload_n hx hb dX11_init_117 rfl (lv_at hl 0 rfl) ?_
  refine lv_bipush (v := (14 : Int32)) hx hb dX11_init_118 (by decide) ?_
  refine q_newi X hR (kd_ltA ka_174 (by decide)) rfl ka_174 (by decide) (by decide) (by decide) (Nat.le_of_ble_eq_true rfl) (Nat.le_of_ble_eq_true rfl) dX11_init_120 (fun H σ_28 eσ_28 hR => ?_)
  replace hf := z_l_e eσ_28 hf
  have hR : Rp G 175 ff σ_28 s H _ := hR
  refine W.widen (k := 14) (n := 5720) (Nat.le_of_ble_eq_true rfl) (Nat.le_of_ble_eq_true rfl) ?_
  refine q_pf X hR hin cf_11_58 kh_160 (by decide) rfl rfl rfl dX11_init_122 (fun H locs σ_29 eσ_29 hR => ?_)
  replace hf := z_l_e eσ_29 hf
  refine lv_aload_n hx hb dX11_init_125 rfl (lv_at hl 0 rfl) ?_
  refine lv_iconst (v := (2 : Int32)) hx hb dX11_init_126 (by decide) ?_
  refine q_newi X hR (kd_ltA ka_175 (by decide)) rfl ka_175 (by decide) (by decide) (by decide) (Nat.le_of_ble_eq_true rfl) (Nat.le_of_ble_eq_true rfl) dX11_init_127 (fun H σ_30 eσ_30 hR => ?_)
  replace hf := z_l_e eσ_30 hf
  have hR : Rp G 176 ff σ_30 s H _ := hR
  refine W.widen (k := 15) (n := 5722) (Nat.le_of_ble_eq_true rfl) (Nat.le_of_ble_eq_true rfl) ?_
  refine q_pf X hR hin cf_11_61 kh_160 (by decide) rfl rfl rfl dX11_init_129 (fun H locs σ_31 eσ_31 hR => ?_)
  replace hf := z_l_e eσ_31 hf
  refine lv_aload_n hx hb dX11_init_132 rfl (lv_at hl 0 rfl) ?_
  refine lv_bipush (v := (14 : Int32)) hx hb dX11_init_133 (by decide) ?_
  refine q_newi X hR (kd_ltA ka_176 (by decide)) rfl ka_176 (by decide) (by decide) (by decide) (Nat.le_of_ble_eq_true rfl) (Nat.le_of_ble_eq_true rfl) dX11_init_135 (fun H σ_32 eσ_32 hR => ?_)
  replace hf := z_l_e eσ_32 hf
  have hR : Rp G 177 ff σ_32 s H _ := hR
  refine W.widen (k := 16) (n := 5736) (Nat.le_of_ble_eq_true rfl) (Nat.le_of_ble_eq_true rfl) ?_
  refine q_pf X hR hin cf_11_64 kh_160 (by decide) rfl rfl rfl dX11_init_137 (fun H locs σ_33 eσ_33 hR => ?_)
  replace hf := z_l_e eσ_33 hf
  refine lv_aload_n hx hb dX11_init_140 rfl (lv_at hl 0 rfl) ?_
  refine lv_bipush (v := (14 : Int32)) hx hb dX11_init_141 (by decide) ?_
  refine q_newi X hR (kd_ltA ka_177 (by decide)) rfl ka_177 (by decide) (by decide) (by decide) (Nat.le_of_ble_eq_true rfl) (Nat.le_of_ble_eq_true rfl) dX11_init_143 (fun H σ_34 eσ_34 hR => ?_)
  replace hf := z_l_e eσ_34 hf
  have hR : Rp G 178 ff σ_34 s H _ := hR
  refine W.widen (k := 17) (n := 5750) (Nat.le_of_ble_eq_true rfl) (Nat.le_of_ble_eq_true rfl) ?_
  refine q_pf X hR hin cf_11_67 kh_160 (by decide) rfl rfl rfl dX11_init_145 (fun H locs σ_35 eσ_35 hR => ?_)
  replace hf := z_l_e eσ_35 hf
  refine lv_aload_n hx hb dX11_init_148 rfl (lv_at hl 0 rfl) ?_
  refine lv_iconst (v := (2 : Int32)) hx hb dX11_init_149 (by decide) ?_
  refine q_newi X hR (kd_ltA ka_178 (by decide)) rfl ka_178 (by decide) (by decide) (by decide) (Nat.le_of_ble_eq_true rfl) (Nat.le_of_ble_eq_true rfl) dX11_init_150 (fun H σ_36 eσ_36 hR => ?_)
  replace hf := z_l_e eσ_36 hf
  have hR : Rp G 179 ff σ_36 s H _ := hR
  refine W.widen (k := 18) (n := 5752) (Nat.le_of_ble_eq_true rfl) (Nat.le_of_ble_eq_true rfl) ?_
  refine q_pf X hR hin cf_11_70 kh_160 (by decide) rfl rfl rfl dX11_init_152 (fun H locs σ_37 eσ_37 hR => ?_)
  replace hf := z_l_e eσ_37 hf
  refine lv_aload_n hx hb dX11_init_155 rfl (lv_at hl 0 rfl) ?_
  refine lv_bipush (v := (24 : Int32)) hx hb dX11_init_156 (by decide) ?_
  refine q_newi X hR (kd_ltA ka_179 (by decide)) rfl ka_179 (by decide) (by decide) (by decide) (Nat.le_of_ble_eq_true rfl) (Nat.le_of_ble_eq_true rfl) dX11_init_158 (fun H σ_38 eσ_38 hR => ?_)
  replace hf := z_l_e eσ_38 hf
  have hR : Rp G 180 ff σ_38 s H _ := hR
  refine W.widen (k := 19) (n := 5776) (Nat.le_of_ble_eq_true rfl) (Nat.le_of_ble_eq_true rfl) ?_
  refine q_pf X hR hin cf_11_73 kh_160 (by decide) rfl rfl rfl dX11_init_160 (fun H locs σ_39 eσ_39 hR => ?_)
  replace hf := z_l_e eσ_39 hf
  refine lv_aload_n hx hb dX11_init_163 rfl (lv_at hl 0 rfl) ?_
  refine lv_bipush (v := (24 : Int32)) hx hb dX11_init_164 (by decide) ?_
  refine q_newi X hR (kd_ltA ka_180 (by decide)) rfl ka_180 (by decide) (by decide) (by decide) (Nat.le_of_ble_eq_true rfl) (Nat.le_of_ble_eq_true rfl) dX11_init_166 (fun H σ_40 eσ_40 hR => ?_)
  replace hf := z_l_e eσ_40 hf
  have hR : Rp G 181 ff σ_40 s H _ := hR
  refine W.widen (k := 20) (n := 5800) (Nat.le_of_ble_eq_true rfl) (Nat.le_of_ble_eq_true rfl) ?_
  refine q_pf X hR hin cf_11_76 kh_160 (by decide) rfl rfl rfl dX11_init_168 (fun H locs σ_41 eσ_41 hR => ?_)
  replace hf := z_l_e eσ_41 hf
  refine lv_aload_n hx hb dX11_init_171 rfl (lv_at hl 0 rfl) ?_
  refine lv_bipush (v := (24 : Int32)) hx hb dX11_init_172 (by decide) ?_
  refine q_newi X hR (kd_ltA ka_181 (by decide)) rfl ka_181 (by decide) (by decide) (by decide) (Nat.le_of_ble_eq_true rfl) (Nat.le_of_ble_eq_true rfl) dX11_init_174 (fun H σ_42 eσ_42 hR => ?_)
  replace hf := z_l_e eσ_42 hf
  have hR : Rp G 182 ff σ_42 s H _ := hR
  refine W.widen (k := 21) (n := 5824) (Nat.le_of_ble_eq_true rfl) (Nat.le_of_ble_eq_true rfl) ?_
  refine q_pf X hR hin cf_11_79 kh_160 (by decide) rfl rfl rfl dX11_init_176 (fun H locs σ_43 eσ_43 hR => ?_)
  replace hf := z_l_e eσ_43 hf
  refine lv_aload_n hx hb dX11_init_179 rfl (lv_at hl 0 rfl) ?_
  refine lv_bipush (v := (24 : Int32)) hx hb dX11_init_180 (by decide) ?_
  refine q_newi X hR (kd_ltA ka_182 (by decide)) rfl ka_182 (by decide) (by decide) (by decide) (Nat.le_of_ble_eq_true rfl) (Nat.le_of_ble_eq_true rfl) dX11_init_182 (fun H σ_44 eσ_44 hR => ?_)
  replace hf := z_l_e eσ_44 hf
  have hR : Rp G 183 ff σ_44 s H _ := hR
  refine W.widen (k := 22) (n := 5848) (Nat.le_of_ble_eq_true rfl) (Nat.le_of_ble_eq_true rfl) ?_
  refine q_pf X hR hin cf_11_82 kh_160 (by decide) rfl rfl rfl dX11_init_184 (fun H locs σ_45 eσ_45 hR => ?_)
  replace hf := z_l_e eσ_45 hf
  refine lv_aload_n hx hb dX11_init_187 rfl (lv_at hl 0 rfl) ?_
  refine lv_bipush (v := (24 : Int32)) hx hb dX11_init_188 (by decide) ?_
  refine q_newi X hR (kd_ltA ka_183 (by decide)) rfl ka_183 (by decide) (by decide) (by decide) (Nat.le_of_ble_eq_true rfl) (Nat.le_of_ble_eq_true rfl) dX11_init_190 (fun H σ_46 eσ_46 hR => ?_)
  replace hf := z_l_e eσ_46 hf
  have hR : Rp G 184 ff σ_46 s H _ := hR
  refine W.widen (k := 23) (n := 5872) (Nat.le_of_ble_eq_true rfl) (Nat.le_of_ble_eq_true rfl) ?_
  refine q_pf X hR hin cf_11_85 kh_160 (by decide) rfl rfl rfl dX11_init_192 (fun H locs σ_47 eσ_47 hR => ?_)
  replace hf := z_l_e eσ_47 hf
  refine lv_aload_n hx hb dX11_init_195 rfl (lv_at hl 0 rfl) ?_
  refine lv_iconst (v := (2 : Int32)) hx hb dX11_init_196 (by decide) ?_
  refine q_newi X hR (kd_ltA ka_184 (by decide)) rfl ka_184 (by decide) (by decide) (by decide) (Nat.le_of_ble_eq_true rfl) (Nat.le_of_ble_eq_true rfl) dX11_init_197 (fun H σ_48 eσ_48 hR => ?_)
  replace hf := z_l_e eσ_48 hf
  have hR : Rp G 185 ff σ_48 s H _ := hR
  refine W.widen (k := 24) (n := 5874) (Nat.le_of_ble_eq_true rfl) (Nat.le_of_ble_eq_true rfl) ?_
  refine q_pf X hR hin cf_11_88 kh_160 (by decide) rfl rfl rfl dX11_init_199 (fun H locs σ_49 eσ_49 hR => ?_)
  replace hf := z_l_e eσ_49 hf
  refine lv_aload_n hx hb dX11_init_202 rfl (lv_at hl 0 rfl) ?_
  refine lv_iconst (v := (2 : Int32)) hx hb dX11_init_203 (by decide) ?_
  refine q_newi X hR (kd_ltA ka_185 (by decide)) rfl ka_185 (by decide) (by decide) (by decide) (Nat.le_of_ble_eq_true rfl) (Nat.le_of_ble_eq_true rfl) dX11_init_204 (fun H σ_50 eσ_50 hR => ?_)
  replace hf := z_l_e eσ_50 hf
  have hR : Rp G 186 ff σ_50 s H _ := hR
  refine W.widen (k := 25) (n := 5876) (Nat.le_of_ble_eq_true rfl) (Nat.le_of_ble_eq_true rfl) ?_
  refine q_pf X hR hin cf_11_91 kh_160 (by decide) rfl rfl rfl dX11_init_206 (fun H locs σ_51 eσ_51 hR => ?_)
  replace hf := z_l_e eσ_51 hf
  refine lv_aload_n hx hb dX11_init_209 rfl (lv_at hl 0 rfl) ?_
  refine lv_bipush (v := (8 : Int32)) hx hb dX11_init_210 (by decide) ?_
  refine q_newi X hR (kd_ltA ka_186 (by decide)) rfl ka_186 (by decide) (by decide) (by decide) (Nat.le_of_ble_eq_true rfl) (Nat.le_of_ble_eq_true rfl) dX11_init_212 (fun H σ_52 eσ_52 hR => ?_)
  replace hf := z_l_e eσ_52 hf
  have hR : Rp G 187 ff σ_52 s H _ := hR
  refine W.widen (k := 26) (n := 5884) (Nat.le_of_ble_eq_true rfl) (Nat.le_of_ble_eq_true rfl) ?_
  refine q_pf X hR hin cf_11_94 kh_160 (by decide) rfl rfl rfl dX11_init_214 (fun H locs σ_53 eσ_53 hR => ?_)
  replace hf := z_l_e eσ_53 hf
  refine lv_aload_n hx hb dX11_init_217 rfl (lv_at hl 0 rfl) ?_
  refine lv_bipush (v := (8 : Int32)) hx hb dX11_init_218 (by decide) ?_
  refine q_newi X hR (kd_ltA ka_187 (by decide)) rfl ka_187 (by decide) (by decide) (by decide) (Nat.le_of_ble_eq_true rfl) (Nat.le_of_ble_eq_true rfl) dX11_init_220 (fun H σ_54 eσ_54 hR => ?_)
  replace hf := z_l_e eσ_54 hf
  have hR : Rp G 188 ff σ_54 s H _ := hR
  refine W.widen (k := 27) (n := 5892) (Nat.le_of_ble_eq_true rfl) (Nat.le_of_ble_eq_true rfl) ?_
  refine q_pf X hR hin cf_11_97 kh_160 (by decide) rfl rfl rfl dX11_init_222 (fun H locs σ_55 eσ_55 hR => ?_)
  replace hf := z_l_e eσ_55 hf
  refine lv_aload_n hx hb dX11_init_225 rfl (lv_at hl 0 rfl) ?_
  refine lv_sipush (v := (260 : Int32)) hx hb dX11_init_226 (by decide) ?_
  refine q_newz X hR (kd_ltA ka_188 (by decide)) rfl ka_188 (by decide) (by decide) (by decide) (Nat.le_of_ble_eq_true rfl) (Nat.le_of_ble_eq_true rfl) dX11_init_229 (fun H σ_56 eσ_56 hR => ?_)
  replace hf := z_l_e eσ_56 hf
  have hR : Rp G 189 ff σ_56 s H _ := hR
  refine W.widen (k := 28) (n := 6152) (Nat.le_of_ble_eq_true rfl) (Nat.le_of_ble_eq_true rfl) ?_
  refine q_pf X hR hin cf_11_100 kh_160 (by decide) rfl rfl rfl dX11_init_231 (fun H locs σ_57 eσ_57 hR => ?_)
  replace hf := z_l_e eσ_57 hf
  refine lv_aload_n hx hb dX11_init_234 rfl (lv_at hl 0 rfl) ?_
  refine lv_sipush (v := (260 : Int32)) hx hb dX11_init_235 (by decide) ?_
  refine q_newi X hR (kd_ltA ka_189 (by decide)) rfl ka_189 (by decide) (by decide) (by decide) (Nat.le_of_ble_eq_true rfl) (Nat.le_of_ble_eq_true rfl) dX11_init_238 (fun H σ_58 eσ_58 hR => ?_)
  replace hf := z_l_e eσ_58 hf
  have hR : Rp G 190 ff σ_58 s H _ := hR
  refine W.widen (k := 29) (n := 6412) (Nat.le_of_ble_eq_true rfl) (Nat.le_of_ble_eq_true rfl) ?_
  refine q_pf X hR hin cf_11_104 kh_160 (by decide) rfl rfl rfl dX11_init_240 (fun H locs σ_59 eσ_59 hR => ?_)
  replace hf := z_l_e eσ_59 hf
  refine lv_aload_n hx hb dX11_init_243 rfl (lv_at hl 0 rfl) ?_
  refine lv_sipush (v := (260 : Int32)) hx hb dX11_init_244 (by decide) ?_
  refine q_newi X hR (kd_ltA ka_190 (by decide)) rfl ka_190 (by decide) (by decide) (by decide) (Nat.le_of_ble_eq_true rfl) (Nat.le_of_ble_eq_true rfl) dX11_init_247 (fun H σ_60 eσ_60 hR => ?_)
  replace hf := z_l_e eσ_60 hf
  have hR : Rp G 191 ff σ_60 s H _ := hR
  refine W.widen (k := 30) (n := 6672) (Nat.le_of_ble_eq_true rfl) (Nat.le_of_ble_eq_true rfl) ?_
  refine q_pf X hR hin cf_11_107 kh_160 (by decide) rfl rfl rfl dX11_init_249 (fun H locs σ_61 eσ_61 hR => ?_)
  replace hf := z_l_e eσ_61 hf
  refine lv_aload_n hx hb dX11_init_252 rfl (lv_at hl 0 rfl) ?_
  refine lv_sipush (v := (260 : Int32)) hx hb dX11_init_253 (by decide) ?_
  refine q_newi X hR (kd_ltA ka_191 (by decide)) rfl ka_191 (by decide) (by decide) (by decide) (Nat.le_of_ble_eq_true rfl) (Nat.le_of_ble_eq_true rfl) dX11_init_256 (fun H σ_62 eσ_62 hR => ?_)
  replace hf := z_l_e eσ_62 hf
  have hR : Rp G 192 ff σ_62 s H _ := hR
  refine W.widen (k := 31) (n := 6932) (Nat.le_of_ble_eq_true rfl) (Nat.le_of_ble_eq_true rfl) ?_
  refine q_pf X hR hin cf_11_110 kh_160 (by decide) rfl rfl rfl dX11_init_258 (fun H locs σ_63 eσ_63 hR => ?_)
  replace hf := z_l_e eσ_63 hf
  refine lv_aload_n hx hb dX11_init_261 rfl (lv_at hl 0 rfl) ?_
  refine lv_sipush (v := (260 : Int32)) hx hb dX11_init_262 (by decide) ?_
  refine q_newi X hR (kd_ltA ka_192 (by decide)) rfl ka_192 (by decide) (by decide) (by decide) (Nat.le_of_ble_eq_true rfl) (Nat.le_of_ble_eq_true rfl) dX11_init_265 (fun H σ_64 eσ_64 hR => ?_)
  replace hf := z_l_e eσ_64 hf
  have hR : Rp G 193 ff σ_64 s H _ := hR
  refine W.widen (k := 32) (n := 7192) (Nat.le_of_ble_eq_true rfl) (Nat.le_of_ble_eq_true rfl) ?_
  refine q_pf X hR hin cf_11_113 kh_160 (by decide) rfl rfl rfl dX11_init_267 (fun H locs σ_65 eσ_65 hR => ?_)
  replace hf := z_l_e eσ_65 hf
  refine lv_aload_n hx hb dX11_init_270 rfl (lv_at hl 0 rfl) ?_
  refine lv_sipush (v := (840 : Int32)) hx hb dX11_init_271 (by decide) ?_
  refine q_newi X hR (kd_ltA ka_193 (by decide)) rfl ka_193 (by decide) (by decide) (by decide) (Nat.le_of_ble_eq_true rfl) (Nat.le_of_ble_eq_true rfl) dX11_init_274 (fun H σ_66 eσ_66 hR => ?_)
  replace hf := z_l_e eσ_66 hf
  have hR : Rp G 194 ff σ_66 s H _ := hR
  refine W.widen (k := 33) (n := 8032) (Nat.le_of_ble_eq_true rfl) (Nat.le_of_ble_eq_true rfl) ?_
  refine q_pf X hR hin cf_11_116 kh_160 (by decide) rfl rfl rfl dX11_init_276 (fun H locs σ_67 eσ_67 hR => ?_)
  replace hf := z_l_e eσ_67 hf
  refine lv_aload_n hx hb dX11_init_279 rfl (lv_at hl 0 rfl) ?_
  refine lv_sipush (v := (840 : Int32)) hx hb dX11_init_280 (by decide) ?_
  refine q_newi X hR (kd_ltA ka_194 (by decide)) rfl ka_194 (by decide) (by decide) (by decide) (Nat.le_of_ble_eq_true rfl) (Nat.le_of_ble_eq_true rfl) dX11_init_283 (fun H σ_68 eσ_68 hR => ?_)
  replace hf := z_l_e eσ_68 hf
  have hR : Rp G 195 ff σ_68 s H _ := hR
  refine W.widen (k := 34) (n := 8872) (Nat.le_of_ble_eq_true rfl) (Nat.le_of_ble_eq_true rfl) ?_
  refine q_pf X hR hin cf_11_119 kh_160 (by decide) rfl rfl rfl dX11_init_285 (fun H locs σ_69 eσ_69 hR => ?_)
  replace hf := z_l_e eσ_69 hf
  refine lv_aload_n hx hb dX11_init_288 rfl (lv_at hl 0 rfl) ?_
  refine lv_bipush (v := (64 : Int32)) hx hb dX11_init_289 (by decide) ?_
  refine q_newi X hR (kd_ltA ka_195 (by decide)) rfl ka_195 (by decide) (by decide) (by decide) (Nat.le_of_ble_eq_true rfl) (Nat.le_of_ble_eq_true rfl) dX11_init_291 (fun H σ_70 eσ_70 hR => ?_)
  replace hf := z_l_e eσ_70 hf
  have hR : Rp G 196 ff σ_70 s H _ := hR
  refine W.widen (k := 35) (n := 8936) (Nat.le_of_ble_eq_true rfl) (Nat.le_of_ble_eq_true rfl) ?_
  refine q_pf X hR hin cf_11_122 kh_160 (by decide) rfl rfl rfl dX11_init_293 (fun H locs σ_71 eσ_71 hR => ?_)
  replace hf := z_l_e eσ_71 hf
  refine lv_aload_n hx hb dX11_init_296 rfl (lv_at hl 0 rfl) ?_
  refine lv_bipush (v := (9 : Int32)) hx hb dX11_init_297 (by decide) ?_
  refine q_newi X hR (kd_ltA ka_196 (by decide)) rfl ka_196 (by decide) (by decide) (by decide) (Nat.le_of_ble_eq_true rfl) (Nat.le_of_ble_eq_true rfl) dX11_init_299 (fun H σ_72 eσ_72 hR => ?_)
  replace hf := z_l_e eσ_72 hf
  have hR : Rp G 197 ff σ_72 s H _ := hR
  refine W.widen (k := 36) (n := 8945) (Nat.le_of_ble_eq_true rfl) (Nat.le_of_ble_eq_true rfl) ?_
  refine q_pf X hR hin cf_11_125 kh_160 (by decide) rfl rfl rfl dX11_init_301 (fun H locs σ_73 eσ_73 hR => ?_)
  replace hf := z_l_e eσ_73 hf
  refine lv_aload_n hx hb dX11_init_304 rfl (lv_at hl 0 rfl) ?_
  refine lv_sipush (v := (400 : Int32)) hx hb dX11_init_305 (by decide) ?_
  refine q_newi X hR (kd_ltA ka_197 (by decide)) rfl ka_197 (by decide) (by decide) (by decide) (Nat.le_of_ble_eq_true rfl) (Nat.le_of_ble_eq_true rfl) dX11_init_308 (fun H σ_74 eσ_74 hR => ?_)
  replace hf := z_l_e eσ_74 hf
  have hR : Rp G 198 ff σ_74 s H _ := hR
  refine W.widen (k := 37) (n := 9345) (Nat.le_of_ble_eq_true rfl) (Nat.le_of_ble_eq_true rfl) ?_
  refine q_pf X hR hin cf_11_128 kh_160 (by decide) rfl rfl rfl dX11_init_310 (fun H locs σ_75 eσ_75 hR => ?_)
  replace hf := z_l_e eσ_75 hf
  refine lv_aload_n hx hb dX11_init_313 rfl (lv_at hl 0 rfl) ?_
  refine lv_bipush (v := (117 : Int32)) hx hb dX11_init_314 (by decide) ?_
  refine q_newi X hR (kd_ltA ka_198 (by decide)) rfl ka_198 (by decide) (by decide) (by decide) (Nat.le_of_ble_eq_true rfl) (Nat.le_of_ble_eq_true rfl) dX11_init_316 (fun H σ_76 eσ_76 hR => ?_)
  replace hf := z_l_e eσ_76 hf
  have hR : Rp G 199 ff σ_76 s H _ := hR
  refine W.widen (k := 38) (n := 9462) (Nat.le_of_ble_eq_true rfl) (Nat.le_of_ble_eq_true rfl) ?_
  refine q_pf X hR hin cf_11_131 kh_160 (by decide) rfl rfl rfl dX11_init_318 (fun H locs σ_77 eσ_77 hR => ?_)
  replace hf := z_l_e eσ_77 hf
  refine lv_aload_n hx hb dX11_init_321 rfl (lv_at hl 0 rfl) ?_
  refine lv_bipush (v := (117 : Int32)) hx hb dX11_init_322 (by decide) ?_
  refine q_newi X hR (kd_ltA ka_199 (by decide)) rfl ka_199 (by decide) (by decide) (by decide) (Nat.le_of_ble_eq_true rfl) (Nat.le_of_ble_eq_true rfl) dX11_init_324 (fun H σ_78 eσ_78 hR => ?_)
  replace hf := z_l_e eσ_78 hf
  have hR : Rp G 200 ff σ_78 s H _ := hR
  refine W.widen (k := 39) (n := 9579) (Nat.le_of_ble_eq_true rfl) (Nat.le_of_ble_eq_true rfl) ?_
  refine q_pf X hR hin cf_11_134 kh_160 (by decide) rfl rfl rfl dX11_init_326 (fun H locs σ_79 eσ_79 hR => ?_)
  replace hf := z_l_e eσ_79 hf
  refine lv_aload_n hx hb dX11_init_329 rfl (lv_at hl 0 rfl) ?_
  refine lv_bipush (v := (7 : Int32)) hx hb dX11_init_330 (by decide) ?_
  refine q_newi X hR (kd_ltA ka_200 (by decide)) rfl ka_200 (by decide) (by decide) (by decide) (Nat.le_of_ble_eq_true rfl) (Nat.le_of_ble_eq_true rfl) dX11_init_332 (fun H σ_80 eσ_80 hR => ?_)
  replace hf := z_l_e eσ_80 hf
  have hR : Rp G 201 ff σ_80 s H _ := hR
  refine W.widen (k := 40) (n := 9586) (Nat.le_of_ble_eq_true rfl) (Nat.le_of_ble_eq_true rfl) ?_
  refine q_pf X hR hin cf_11_137 kh_160 (by decide) rfl rfl rfl dX11_init_334 (fun H locs σ_81 eσ_81 hR => ?_)
  replace hf := z_l_e eσ_81 hf
  refine lv_aload_n hx hb dX11_init_337 rfl (lv_at hl 0 rfl) ?_
  refine lv_bipush (v := (20 : Int32)) hx hb dX11_init_338 (by decide) ?_
  refine q_newz X hR (kd_ltA ka_201 (by decide)) rfl ka_201 (by decide) (by decide) (by decide) (Nat.le_of_ble_eq_true rfl) (Nat.le_of_ble_eq_true rfl) dX11_init_340 (fun H σ_82 eσ_82 hR => ?_)
  replace hf := z_l_e eσ_82 hf
  have hR : Rp G 202 ff σ_82 s H _ := hR
  refine W.widen (k := 41) (n := 9606) (Nat.le_of_ble_eq_true rfl) (Nat.le_of_ble_eq_true rfl) ?_
  refine q_pf X hR hin cf_11_140 kh_160 (by decide) rfl rfl rfl dX11_init_342 (fun H locs σ_83 eσ_83 hR => ?_)
  replace hf := z_l_e eσ_83 hf
  refine lv_aload_n hx hb dX11_init_345 rfl (lv_at hl 0 rfl) ?_
  refine lv_bipush (v := (20 : Int32)) hx hb dX11_init_346 (by decide) ?_
  refine q_newz X hR (kd_ltA ka_202 (by decide)) rfl ka_202 (by decide) (by decide) (by decide) (Nat.le_of_ble_eq_true rfl) (Nat.le_of_ble_eq_true rfl) dX11_init_348 (fun H σ_84 eσ_84 hR => ?_)
  replace hf := z_l_e eσ_84 hf
  have hR : Rp G 203 ff σ_84 s H _ := hR
  refine W.widen (k := 42) (n := 9626) (Nat.le_of_ble_eq_true rfl) (Nat.le_of_ble_eq_true rfl) ?_
  refine q_pf X hR hin cf_11_143 kh_160 (by decide) rfl rfl rfl dX11_init_350 (fun H locs σ_85 eσ_85 hR => ?_)
  replace hf := z_l_e eσ_85 hf
  refine lv_aload_n hx hb dX11_init_353 rfl (lv_at hl 0 rfl) ?_
  refine lv_sipush (v := (3510 : Int32)) hx hb dX11_init_354 (by decide) ?_
  refine q_newi X hR (kd_ltA ka_203 (by decide)) rfl ka_203 (by decide) (by decide) (by decide) (Nat.le_of_ble_eq_true rfl) (Nat.le_of_ble_eq_true rfl) dX11_init_357 (fun H σ_86 eσ_86 hR => ?_)
  replace hf := z_l_e eσ_86 hf
  have hR : Rp G 204 ff σ_86 s H _ := hR
  refine W.widen (k := 43) (n := 13136) (Nat.le_of_ble_eq_true rfl) (Nat.le_of_ble_eq_true rfl) ?_
  refine q_pf X hR hin cf_11_146 kh_160 (by decide) rfl rfl rfl dX11_init_359 (fun H locs σ_87 eσ_87 hR => ?_)
  replace hf := z_l_e eσ_87 hf
  refine lv_aload_n hx hb dX11_init_362 rfl (lv_at hl 0 rfl) ?_
  refine lv_bipush (v := (7 : Int32)) hx hb dX11_init_363 (by decide) ?_
  refine q_newi X hR (kd_ltA ka_204 (by decide)) rfl ka_204 (by decide) (by decide) (by decide) (Nat.le_of_ble_eq_true rfl) (Nat.le_of_ble_eq_true rfl) dX11_init_365 (fun H σ_88 eσ_88 hR => ?_)
  replace hf := z_l_e eσ_88 hf
  have hR : Rp G 205 ff σ_88 s H _ := hR
  refine W.widen (k := 44) (n := 13143) (Nat.le_of_ble_eq_true rfl) (Nat.le_of_ble_eq_true rfl) ?_
  refine q_pf X hR hin cf_11_149 kh_160 (by decide) rfl rfl rfl dX11_init_367 (fun H locs σ_89 eσ_89 hR => ?_)
  replace hf := z_l_e eσ_89 hf
  refine lv_aload_n hx hb dX11_init_370 rfl (lv_at hl 0 rfl) ?_
  refine lv_sipush (v := (896 : Int32)) hx hb dX11_init_371 (by decide) ?_
  refine q_newi X hR (kd_ltA ka_205 (by decide)) rfl ka_205 (by decide) (by decide) (by decide) (Nat.le_of_ble_eq_true rfl) (Nat.le_of_ble_eq_true rfl) dX11_init_374 (fun H σ_90 eσ_90 hR => ?_)
  replace hf := z_l_e eσ_90 hf
  have hR : Rp G 206 ff σ_90 s H _ := hR
  refine W.widen (k := 45) (n := 14039) (Nat.le_of_ble_eq_true rfl) (Nat.le_of_ble_eq_true rfl) ?_
  refine q_pf X hR hin cf_11_152 kh_160 (by decide) rfl rfl rfl dX11_init_376 (fun H locs σ_91 eσ_91 hR => ?_)
  replace hf := z_l_e eσ_91 hf
  refine lv_aload_n hx hb dX11_init_379 rfl (lv_at hl 0 rfl) ?_
  refine lv_bipush (v := (49 : Int32)) hx hb dX11_init_380 (by decide) ?_
  refine q_newi X hR (kd_ltA ka_206 (by decide)) rfl ka_206 (by decide) (by decide) (by decide) (Nat.le_of_ble_eq_true rfl) (Nat.le_of_ble_eq_true rfl) dX11_init_382 (fun H σ_92 eσ_92 hR => ?_)
  replace hf := z_l_e eσ_92 hf
  have hR : Rp G 207 ff σ_92 s H _ := hR
  refine W.widen (k := 46) (n := 14088) (Nat.le_of_ble_eq_true rfl) (Nat.le_of_ble_eq_true rfl) ?_
  refine q_pf X hR hin cf_11_155 kh_160 (by decide) rfl rfl rfl dX11_init_384 (fun H locs σ_93 eσ_93 hR => ?_)
  replace hf := z_l_e eσ_93 hf
  refine lv_aload_n hx hb dX11_init_387 rfl (lv_at hl 0 rfl) ?_
  refine lv_bipush (v := (7 : Int32)) hx hb dX11_init_388 (by decide) ?_
  refine q_newi X hR (kd_ltA ka_207 (by decide)) rfl ka_207 (by decide) (by decide) (by decide) (Nat.le_of_ble_eq_true rfl) (Nat.le_of_ble_eq_true rfl) dX11_init_390 (fun H σ_94 eσ_94 hR => ?_)
  replace hf := z_l_e eσ_94 hf
  have hR : Rp G 208 ff σ_94 s H _ := hR
  refine W.widen (k := 47) (n := 14095) (Nat.le_of_ble_eq_true rfl) (Nat.le_of_ble_eq_true rfl) ?_
  refine q_pf X hR hin cf_11_158 kh_160 (by decide) rfl rfl rfl dX11_init_392 (fun H locs σ_95 eσ_95 hR => ?_)
  replace hf := z_l_e eσ_95 hf
  refine lv_aload_n hx hb dX11_init_395 rfl (lv_at hl 0 rfl) ?_
  refine lv_bipush (v := (20 : Int32)) hx hb dX11_init_396 (by decide) ?_
  refine q_newi X hR (kd_ltA ka_208 (by decide)) rfl ka_208 (by decide) (by decide) (by decide) (Nat.le_of_ble_eq_true rfl) (Nat.le_of_ble_eq_true rfl) dX11_init_398 (fun H σ_96 eσ_96 hR => ?_)
  replace hf := z_l_e eσ_96 hf
  have hR : Rp G 209 ff σ_96 s H _ := hR
  refine W.widen (k := 48) (n := 14115) (Nat.le_of_ble_eq_true rfl) (Nat.le_of_ble_eq_true rfl) ?_
  refine q_pf X hR hin cf_11_161 kh_160 (by decide) rfl rfl rfl dX11_init_400 (fun H locs σ_97 eσ_97 hR => ?_)
  replace hf := z_l_e eσ_97 hf
  refine lv_aload_n hx hb dX11_init_403 rfl (lv_at hl 0 rfl) ?_
  refine lv_bipush (v := (20 : Int32)) hx hb dX11_init_404 (by decide) ?_
  refine q_newi X hR (kd_ltA ka_209 (by decide)) rfl ka_209 (by decide) (by decide) (by decide) (Nat.le_of_ble_eq_true rfl) (Nat.le_of_ble_eq_true rfl) dX11_init_406 (fun H σ_98 eσ_98 hR => ?_)
  replace hf := z_l_e eσ_98 hf
  have hR : Rp G 210 ff σ_98 s H _ := hR
  refine W.widen (k := 49) (n := 14135) (Nat.le_of_ble_eq_true rfl) (Nat.le_of_ble_eq_true rfl) ?_
  refine q_pf X hR hin cf_11_164 kh_160 (by decide) rfl rfl rfl dX11_init_408 (fun H locs σ_99 eσ_99 hR => ?_)
  replace hf := z_l_e eσ_99 hf
  refine lv_aload_n hx hb dX11_init_411 rfl (lv_at hl 0 rfl) ?_
  refine lv_iconst (v := (3 : Int32)) hx hb dX11_init_412 (by decide) ?_
  refine q_newz X hR (kd_ltA ka_210 (by decide)) rfl ka_210 (by decide) (by decide) (by decide) (Nat.le_of_ble_eq_true rfl) (Nat.le_of_ble_eq_true rfl) dX11_init_413 (fun H σ_100 eσ_100 hR => ?_)
  replace hf := z_l_e eσ_100 hf
  have hR : Rp G 211 ff σ_100 s H _ := hR
  refine W.widen (k := 50) (n := 14138) (Nat.le_of_ble_eq_true rfl) (Nat.le_of_ble_eq_true rfl) ?_
  refine q_pf X hR hin cf_11_167 kh_160 (by decide) rfl rfl rfl dX11_init_415 (fun H locs σ_101 eσ_101 hR => ?_)
  replace hf := z_l_e eσ_101 hf
  refine lv_aload_n hx hb dX11_init_418 rfl (lv_at hl 0 rfl) ?_
  refine lv_sipush (v := (351 : Int32)) hx hb dX11_init_419 (by decide) ?_
  refine q_newi X hR (kd_ltA ka_211 (by decide)) rfl ka_211 (by decide) (by decide) (by decide) (Nat.le_of_ble_eq_true rfl) (Nat.le_of_ble_eq_true rfl) dX11_init_422 (fun H σ_102 eσ_102 hR => ?_)
  replace hf := z_l_e eσ_102 hf
  have hR : Rp G 212 ff σ_102 s H _ := hR
  refine W.widen (k := 51) (n := 14489) (Nat.le_of_ble_eq_true rfl) (Nat.le_of_ble_eq_true rfl) ?_
  refine q_pf X hR hin cf_11_170 kh_160 (by decide) rfl rfl rfl dX11_init_424 (fun H locs σ_103 eσ_103 hR => ?_)
  replace hf := z_l_e eσ_103 hf
  obtain ⟨ha, hf⟩ := z_c_e hf
  exact w11_init_427 X hr hlk N σ_103 _ _ _ hf (Rp_F hR (rfB_e ha)) hl
