section GEN
variable {p : Program} {l : Launch} {e : Env} {s : State} {m : MethodId} {args : Array Value} {below : List Frame} {meth : Method} {c : Code} {G : Gp} {r0 : Int32} {l0 : Int64} {u0 : Unit} {σ0 : Mm}

abbrev rm10_lapse : Room := { frames := 6, cells := 0, slots := 0, locals := 135 }
def f10_lapse (N : Nat) (x1 : Int32) (σ : Mm) : Option (Int32 × Mm) :=
  z_b (f10_noYears N x1 σ) fun r_1 σ_2 =>
  if r_1 = 0 then (
  z_r (gR σ_2 0 3) 3 fun t_5 =>
  z_b (f10_lookAhead N x1 (gI σ_2 t_5 5) σ_2) fun _ σ_8 =>
  z_b (f0_standing N 56 σ_8) fun r_10 σ_11 =>
  z_b (f0_standing N 58 σ_11) fun r_13 σ_14 =>
  some ((bitC (r_10 &&& (r_13 ^^^ (-1 : Int32)))), σ_14)) else (
  some ((-1 : Int32), σ_2))
set_option maxHeartbeats 4000000 in
set_option maxRecDepth 100000 in
theorem c10_lapse (l : Launch) (G : Gp) (N : Nat) {x1 : Int32} {σ σ0 : Mm} {r0 : Int32} (hf : f10_lapse N x1 σ = some (r0, σ0)) : Met l yX10_lapse (WS yX10_lapse cX10_lapse 2 (some .int)) rm10_lapse (va_Pc [.ref (G.2.2 + 0), .int x1] (Pd G 212 tt σ)) (P_i G 212 tt r0 σ0) 0 0 (Fr G) := by
  refine ct [(0, .ref (G.2.2 + 0)), (1, .int x1)] rfl (by decide) (Nat.le_of_ble_eq_true rfl) ?_
  intro p e s m below meth c ls X hr hlk hR hl
  have X : Cx p s m _ c cX10_lapse 2 RX10 G := X
  have hx := X.1
  have hb := X.2.1
  unfold f10_lapse at hf
  refine lv_iload_n hx hb dX10_lapse_0 rfl (lv_at hl 1 rfl) ?_
  obtain ⟨r_1, σ_2, hc_3, hf⟩ := z_b_e hf
  refine go_i hR (ms_run (As := [.int x1]) (rest := []) X hR ms_10_222 (c10_noYears l G N hc_3) ⟨rfl, rfl, Nat.le_of_ble_eq_true rfl, Nat.le_of_ble_eq_true rfl⟩ rfl hl.1 rfl (Nat.le_of_ble_eq_true rfl) dX10_lapse_1 ⟨Nat.zero_le _, Nat.zero_le _⟩) (fun H locs hR => ?_)
  refine lv_if_eq (tgt := 9) hx hb dX10_lapse_4 (by decide) (fun c_4 => ?_) (fun c_4 => ?_)
  · replace hf := z_t c_4 hf
    refine lv_aload_n hx hb dX10_lapse_9 rfl (lv_at hl 0 rfl) ?_
    refine lv_iload_n hx hb dX10_lapse_10 rfl (lv_at hl 1 rfl) ?_
    refine lv_aload_n hx hb dX10_lapse_11 rfl (lv_at hl 0 rfl) ?_
    obtain ⟨t_5, ht_6, kht_6, hf⟩ := z_r_e hf
    refine r_gd X hR fr_10_27 kh_0 ht_6 dX10_lapse_12 ?_
    refine r_gi X hR fi_10_225 kht_6 dX10_lapse_15 ?_
    obtain ⟨r_7, σ_8, hc_9, hf⟩ := z_b_e hf
    refine go_v hR (mv_run (As := [.int x1, .int (gI σ_2 t_5 5)]) (rest := []) X hR mv_10_275 kh_0 (kd_lt kh_0 (by decide)) (c10_lookAhead l G N hc_9) ⟨rfl, rfl, Nat.le_of_ble_eq_true rfl, Nat.le_of_ble_eq_true rfl⟩ rfl hl.1 rfl (Nat.le_of_ble_eq_true rfl) dX10_lapse_18 ⟨Nat.zero_le _, Nat.zero_le _⟩) (fun H locs hR => ?_)
    refine lv_aload_n hx hb dX10_lapse_21 rfl (lv_at hl 0 rfl) ?_
    refine r_gs (t := 60) X hR fr_10_72 kh_0 (sx_10_10 kh_0) dX10_lapse_22 ?_
    refine lv_aload_n hx hb dX10_lapse_25 rfl (lv_at hl 0 rfl) ?_
    refine r_gs (t := 56) X hR fr_10_60 kh_0 (sx_10_8 kh_0) dX10_lapse_26 ?_
    obtain ⟨r_10, σ_11, hc_12, hf⟩ := z_b_e hf
    refine go_i hR (mv_run (As := [.ref (G.2.2 + 56)]) (rest := []) X hR mv_10_292 kh_60 (kd_lt kh_60 (by decide)) (c0_standing l G N kh_56 hc_12) ⟨rfl, rfl, Nat.le_of_ble_eq_true rfl, Nat.le_of_ble_eq_true rfl⟩ rfl hl.1 rfl (Nat.le_of_ble_eq_true rfl) dX10_lapse_29 ⟨Nat.zero_le _, Nat.zero_le _⟩) (fun H locs hR => ?_)
    refine lv_aload_n hx hb dX10_lapse_32 rfl (lv_at hl 0 rfl) ?_
    refine r_gs (t := 60) X hR fr_10_72 kh_0 (sx_10_10 kh_0) dX10_lapse_33 ?_
    refine lv_aload_n hx hb dX10_lapse_36 rfl (lv_at hl 0 rfl) ?_
    refine r_gs (t := 58) X hR fr_10_64 kh_0 (sx_10_9 kh_0) dX10_lapse_37 ?_
    obtain ⟨r_13, σ_14, hc_15, hf⟩ := z_b_e hf
    refine go_i hR (mv_run (As := [.ref (G.2.2 + 58)]) (rest := [.int r_10]) X hR mv_10_292 kh_60 (kd_lt kh_60 (by decide)) (c0_standing l G N kh_58 hc_15) ⟨rfl, rfl, Nat.le_of_ble_eq_true rfl, Nat.le_of_ble_eq_true rfl⟩ rfl hl.1 rfl (Nat.le_of_ble_eq_true rfl) dX10_lapse_40 ⟨Nat.zero_le _, Nat.zero_le _⟩) (fun H locs hR => ?_)
    refine lv_iconst (v := (-1 : Int32)) hx hb dX10_lapse_43 (by decide) ?_
    refine lv_ixor hx hb dX10_lapse_44 ?_
    refine lv_iand hx hb dX10_lapse_45 ?_
    refine go_i hR (ms_run (As := [.int (r_10 &&& (r_13 ^^^ (-1 : Int32)))]) (rest := []) X hR jms_10_150 (cJ_bitC l G) ⟨rfl, rfl, Nat.le_of_ble_eq_true rfl, Nat.le_of_ble_eq_true rfl⟩ rfl hl.1 rfl (Nat.le_of_ble_eq_true rfl) dX10_lapse_46 ⟨Nat.zero_le _, Nat.zero_le _⟩) (fun H locs hR => ?_)
    exact e_i X hR hr hlk hf dX10_lapse_49
  · replace hf := z_f c_4 hf
    refine lv_iconst (v := (-1 : Int32)) hx hb dX10_lapse_7 (by decide) ?_
    exact e_i X hR hr hlk hf dX10_lapse_8
abbrev rm10_passes : Room := { frames := 5, cells := 0, slots := 0, locals := 127 }
def f10_passes_36 (N : Nat) (x1 : Int32) (x2 : Int32) : Nat → Int32 → Mm → Option (Int32 × Mm)
  | 0, _, _ => none
  | fu + 1, x3, σ => if (200 : Int32) < x3 then (
  some ((-2 : Int32), σ)) else (
  z_r (gR σ 0 3) 3 fun t_12 =>
  z_b (f0_passYear N 58 (gI σ t_12 5) σ) fun _ σ_15 =>
  z_b (f0_owner N 58 x1 σ_15) fun r_17 σ_18 =>
  if r_17 = x2 then (
  z_l (x3 + (1 : Int32)) fun x3_21 =>
  f10_passes_36 N x1 x2 fu x3_21 σ_18) else (
  some (x3, σ_18)))
def f10_passes (N : Nat) (x1 : Int32) (σ : Mm) : Option (Int32 × Mm) :=
  z_b (f10_noPlot N x1 σ) fun r_1 σ_2 =>
  if r_1 = 0 then (
  z_b (f0_owner N 56 x1 σ_2) fun r_5 σ_6 =>
  z_b (f5_become N 58 56 σ_6) fun _ σ_9 =>
  f10_passes_36 N x1 r_5 N (1 : Int32) σ_9) else (
  some ((-1 : Int32), σ_2))
set_option maxHeartbeats 4000000 in
set_option maxRecDepth 100000 in
theorem w10_passes_36 (X : Cx p s m args c cX10_passes 4 RX10 G) (hr : meth.sig.returnType = some .int) (hlk : meth.locks = false) (N : Nat) {x1 : Int32} {x2 : Int32} :
    ∀ (fu : Nat) (x3 : Int32) (σ : Mm) (H : Heap) (locs : List Loc) (ls : Array Slot), f10_passes_36 N x1 x2 fu x3 σ = some (r0, σ0) → Rp G 212 tt σ s H locs → lv_has ls 4 [(0, .ref (G.2.2 + 0)), (1, .int x1), (2, .int x2), (3, .int x3)] → W p l e rm10_passes s m args below meth c H locs 0 0 (MQ below (P_i G 212 tt r0 σ0) args s 0 0 (Fr G)) (F0 m 36 ls []) := by
  have hx := X.1
  have hb := X.2.1
  intro fu
  induction fu with
  | zero =>
    intro x3 σ H locs ls hf hR hl
    rw [f10_passes_36] at hf
    cases hf
  | succ fu ih =>
    intro x3 σ H locs ls hf hR hl
    rw [f10_passes_36] at hf
    refine lv_iload_n hx hb dX10_passes_36 rfl (lv_at hl 3 rfl) ?_
    refine lv_sipush (v := (200 : Int32)) hx hb dX10_passes_37 (by decide) ?_
    refine lv_icmp_gt (tgt := 85) hx hb dX10_passes_40 (by decide) (fun c_11 => ?_) (fun c_11 => ?_)
    · replace hf := z_t c_11 hf
      refine lv_bipush (v := (-2 : Int32)) hx hb dX10_passes_85 (by decide) ?_
      exact e_i X hR hr hlk hf dX10_passes_87
    · replace hf := z_f c_11 hf
      refine lv_aload_n hx hb dX10_passes_43 rfl (lv_at hl 0 rfl) ?_
      refine r_gs (t := 60) X hR fr_10_72 kh_0 (sx_10_10 kh_0) dX10_passes_44 ?_
      refine lv_aload_n hx hb dX10_passes_47 rfl (lv_at hl 0 rfl) ?_
      refine r_gs (t := 58) X hR fr_10_64 kh_0 (sx_10_9 kh_0) dX10_passes_48 ?_
      refine lv_aload_n hx hb dX10_passes_51 rfl (lv_at hl 0 rfl) ?_
      obtain ⟨t_12, ht_13, kht_13, hf⟩ := z_r_e hf
      refine r_gd X hR fr_10_27 kh_0 ht_13 dX10_passes_52 ?_
      refine r_gi X hR fi_10_225 kht_13 dX10_passes_55 ?_
      obtain ⟨r_14, σ_15, hc_16, hf⟩ := z_b_e hf
      refine go_v hR (mv_run (As := [.ref (G.2.2 + 58), .int (gI σ t_12 5)]) (rest := []) X hR mv_10_299 kh_60 (kd_lt kh_60 (by decide)) (c0_passYear l G N kh_58 hc_16) ⟨rfl, rfl, Nat.le_of_ble_eq_true rfl, Nat.le_of_ble_eq_true rfl⟩ rfl hl.1 rfl (Nat.le_of_ble_eq_true rfl) dX10_passes_58 ⟨Nat.zero_le _, Nat.zero_le _⟩) (fun H locs hR => ?_)
      refine lv_aload_n hx hb dX10_passes_61 rfl (lv_at hl 0 rfl) ?_
      refine r_gs (t := 60) X hR fr_10_72 kh_0 (sx_10_10 kh_0) dX10_passes_62 ?_
      refine lv_aload_n hx hb dX10_passes_65 rfl (lv_at hl 0 rfl) ?_
      refine r_gs (t := 58) X hR fr_10_64 kh_0 (sx_10_9 kh_0) dX10_passes_66 ?_
      refine lv_iload_n hx hb dX10_passes_69 rfl (lv_at hl 1 rfl) ?_
      obtain ⟨r_17, σ_18, hc_19, hf⟩ := z_b_e hf
      refine go_i hR (mv_run (As := [.ref (G.2.2 + 58), .int x1]) (rest := []) X hR mv_10_143 kh_60 (kd_lt kh_60 (by decide)) (c0_owner l G N kh_58 hc_19) ⟨rfl, rfl, Nat.le_of_ble_eq_true rfl, Nat.le_of_ble_eq_true rfl⟩ rfl hl.1 rfl (Nat.le_of_ble_eq_true rfl) dX10_passes_70 ⟨Nat.zero_le _, Nat.zero_le _⟩) (fun H locs hR => ?_)
      refine lv_iload_n hx hb dX10_passes_73 rfl (lv_at hl 2 rfl) ?_
      refine lv_icmp_eq (tgt := 79) hx hb dX10_passes_74 (by decide) (fun c_20 => ?_) (fun c_20 => ?_)
      · replace hf := z_t c_20 hf
        obtain ⟨x3_21, ex3_21⟩ : ∃ z : Int32, z = x3 + (1 : Int32) := ⟨_, rfl⟩
        replace hf := z_l_e ex3_21 hf
        refine lv_iinc (v := x3_21) (lv' := [(3, .int x3_21), (0, .ref (G.2.2 + 0)), (1, .int x1), (2, .int x2)]) hx hb dX10_passes_79 hl (k := 3) rfl (by rw [ex3_21]; rfl) (by decide) rfl (fun ls hl => ?_)
        refine lv_goto (tgt := 36) hx hb dX10_passes_82 (by decide) ?_
        exact ih x3_21 σ_18 _ _ _ hf hR (lv_sub hl [1, 2, 3, 0] rfl)
      · replace hf := z_f c_20 hf
        refine lv_iload_n hx hb dX10_passes_77 rfl (lv_at hl 3 rfl) ?_
        exact e_i X hR hr hlk hf dX10_passes_78
set_option maxHeartbeats 4000000 in
set_option maxRecDepth 100000 in
theorem c10_passes (l : Launch) (G : Gp) (N : Nat) {x1 : Int32} {σ σ0 : Mm} {r0 : Int32} (hf : f10_passes N x1 σ = some (r0, σ0)) : Met l yX10_passes (WS yX10_passes cX10_passes 4 (some .int)) rm10_passes (va_Pc [.ref (G.2.2 + 0), .int x1] (Pd G 212 tt σ)) (P_i G 212 tt r0 σ0) 0 0 (Fr G) := by
  refine ct [(0, .ref (G.2.2 + 0)), (1, .int x1)] rfl (by decide) (Nat.le_of_ble_eq_true rfl) ?_
  intro p e s m below meth c ls X hr hlk hR hl
  have X : Cx p s m _ c cX10_passes 4 RX10 G := X
  have hx := X.1
  have hb := X.2.1
  unfold f10_passes at hf
  refine lv_aload_n hx hb dX10_passes_0 rfl (lv_at hl 0 rfl) ?_
  refine lv_iload_n hx hb dX10_passes_1 rfl (lv_at hl 1 rfl) ?_
  obtain ⟨r_1, σ_2, hc_3, hf⟩ := z_b_e hf
  refine go_i hR (mv_run (As := [.int x1]) (rest := []) X hR mv_10_130 kh_0 (kd_lt kh_0 (by decide)) (c10_noPlot l G N hc_3) ⟨rfl, rfl, Nat.le_of_ble_eq_true rfl, Nat.le_of_ble_eq_true rfl⟩ rfl hl.1 rfl (Nat.le_of_ble_eq_true rfl) dX10_passes_2 ⟨Nat.zero_le _, Nat.zero_le _⟩) (fun H locs hR => ?_)
  refine lv_if_eq (tgt := 10) hx hb dX10_passes_5 (by decide) (fun c_4 => ?_) (fun c_4 => ?_)
  · replace hf := z_t c_4 hf
    refine lv_aload_n hx hb dX10_passes_10 rfl (lv_at hl 0 rfl) ?_
    refine r_gs (t := 60) X hR fr_10_72 kh_0 (sx_10_10 kh_0) dX10_passes_11 ?_
    refine lv_aload_n hx hb dX10_passes_14 rfl (lv_at hl 0 rfl) ?_
    refine r_gs (t := 56) X hR fr_10_60 kh_0 (sx_10_8 kh_0) dX10_passes_15 ?_
    refine lv_iload_n hx hb dX10_passes_18 rfl (lv_at hl 1 rfl) ?_
    obtain ⟨r_5, σ_6, hc_7, hf⟩ := z_b_e hf
    refine go_i hR (mv_run (As := [.ref (G.2.2 + 56), .int x1]) (rest := []) X hR mv_10_143 kh_60 (kd_lt kh_60 (by decide)) (c0_owner l G N kh_56 hc_7) ⟨rfl, rfl, Nat.le_of_ble_eq_true rfl, Nat.le_of_ble_eq_true rfl⟩ rfl hl.1 rfl (Nat.le_of_ble_eq_true rfl) dX10_passes_19 ⟨Nat.zero_le _, Nat.zero_le _⟩) (fun H locs hR => ?_)
    refine lv_istore_n (lv' := [(2, .int r_5), (0, .ref (G.2.2 + 0)), (1, .int x1)]) hx hb dX10_passes_22 rfl hl (by decide) rfl (fun ls hl => ?_)
    refine lv_aload_n hx hb dX10_passes_23 rfl (lv_at hl 1 rfl) ?_
    refine r_gs (t := 58) X hR fr_10_64 kh_0 (sx_10_9 kh_0) dX10_passes_24 ?_
    refine lv_aload_n hx hb dX10_passes_27 rfl (lv_at hl 1 rfl) ?_
    refine r_gs (t := 56) X hR fr_10_60 kh_0 (sx_10_8 kh_0) dX10_passes_28 ?_
    obtain ⟨r_8, σ_9, hc_10, hf⟩ := z_b_e hf
    refine go_v hR (mv_run (As := [.ref (G.2.2 + 56)]) (rest := []) X hR mv_10_236 kh_58 (kd_lt kh_58 (by decide)) (c5_become l G N kh_58 kh_56 hc_10) ⟨rfl, rfl, Nat.le_of_ble_eq_true rfl, Nat.le_of_ble_eq_true rfl⟩ rfl hl.1 rfl (Nat.le_of_ble_eq_true rfl) dX10_passes_31 ⟨Nat.zero_le _, Nat.zero_le _⟩) (fun H locs hR => ?_)
    refine lv_iconst (v := (1 : Int32)) hx hb dX10_passes_34 (by decide) ?_
    refine lv_istore_n (lv' := [(3, .int (1 : Int32)), (2, .int r_5), (0, .ref (G.2.2 + 0)), (1, .int x1)]) hx hb dX10_passes_35 rfl hl (by decide) rfl (fun ls hl => ?_)
    exact w10_passes_36 X hr hlk N  N (1 : Int32) σ_9 _ _ _ hf hR (lv_sub hl [2, 3, 1, 0] rfl)
  · replace hf := z_f c_4 hf
    refine lv_iconst (v := (-1 : Int32)) hx hb dX10_passes_8 (by decide) ?_
    exact e_i X hR hr hlk hf dX10_passes_9
abbrev rm10_weakest : Room := { frames := 6, cells := 0, slots := 0, locals := 151 }
def f10_weakest_95 (N : Nat) (x1 : Int32) (x3 : Int32) (x4 : Int32) (σ : Mm) : Option (Int32 × Mm) :=
  if x1 = 0 then (
  some (x3, σ)) else (
  some (x4, σ))
def f10_weakest_89 (N : Nat) (k33 : Int32 → Int32 → Int32 → Mm → Option (Int32 × Mm)) (x1 : Int32) (x2 : Int32) (x3 : Int32) (x4 : Int32) (x5 : Int32) (σ : Mm) : Option (Int32 × Mm) :=
  z_l (x5 + (1 : Int32)) fun x5_8 =>
  k33 x3 x4 x5_8 σ
def f10_weakest_82 (N : Nat) (k33 : Int32 → Int32 → Int32 → Mm → Option (Int32 × Mm)) (x1 : Int32) (x2 : Int32) (x5 : Int32) (x6 : Int32) (σ : Mm) : Option (Int32 × Mm) :=
  f10_weakest_89 N k33 x1 x2 x5 x6 x5 σ
def f10_weakest_33 (N : Nat) (x1 : Int32) (x2 : Int32) : Nat → Int32 → Int32 → Int32 → Mm → Option (Int32 × Mm)
  | 0, _, _, _, _ => none
  | fu + 1, x3, x4, x5, σ => if (gI σ 56 3) ≤ x5 then (
  f10_weakest_95 N x1 x3 x4 σ) else (
  if ((x2 >>> (x5 &&& 31)) &&& (1 : Int32)) = 0 then (
  f10_weakest_89 N (fun x3 x4 x5 σ => f10_weakest_33 N x1 x2 fu x3 x4 x5 σ) x1 x2 x3 x4 x5 σ) else (
  z_b (f0_howManySwear N 56 x5 σ) fun r_9 σ_10 =>
  if x3 = (-2 : Int32) then (
  f10_weakest_82 N (fun x3 x4 x5 σ => f10_weakest_33 N x1 x2 fu x3 x4 x5 σ) x1 x2 x5 r_9 σ_10) else (
  if x4 ≤ r_9 then (
  f10_weakest_89 N (fun x3 x4 x5 σ => f10_weakest_33 N x1 x2 fu x3 x4 x5 σ) x1 x2 x3 x4 x5 σ_10) else (
  f10_weakest_82 N (fun x3 x4 x5 σ => f10_weakest_33 N x1 x2 fu x3 x4 x5 σ) x1 x2 x5 r_9 σ_10))))
def f10_weakest_11 (N : Nat) (x1 : Int32) (σ : Mm) : Option (Int32 × Mm) :=
  z_b (f0_countingOfAll N 56 σ) fun r_2 σ_3 =>
  f10_weakest_33 N x1 r_2 N (-2 : Int32) (-2 : Int32) (0 : Int32) σ_3
def f10_weakest (N : Nat) (x1 : Int32) (σ : Mm) : Option (Int32 × Mm) :=
  if x1 = 0 then (
  f10_weakest_11 N x1 σ) else (
  if x1 = (1 : Int32) then (
  f10_weakest_11 N x1 σ) else (
  some ((-1 : Int32), σ)))
set_option maxHeartbeats 4000000 in
set_option maxRecDepth 100000 in
theorem w10_weakest_95 (X : Cx p s m args c cX10_weakest 7 RX10 G) (hr : meth.sig.returnType = some .int) (hlk : meth.locks = false) (N : Nat) :
    ∀ (x1 : Int32) (x3 : Int32) (x4 : Int32) (σ : Mm) (H : Heap) (locs : List Loc) (ls : Array Slot), f10_weakest_95 N x1 x3 x4 σ = some (r0, σ0) → Rp G 212 tt σ s H locs → lv_has ls 7 [(1, .int x1), (3, .int x3), (4, .int x4)] → W p l e rm10_weakest s m args below meth c H locs 0 0 (MQ below (P_i G 212 tt r0 σ0) args s 0 0 (Fr G)) (F0 m 95 ls []) := by
  have hx := X.1
  have hb := X.2.1
  intro x1 x3 x4 σ H locs ls hf hR hl
  unfold f10_weakest_95 at hf
  refine lv_iload_n hx hb dX10_weakest_95 rfl (lv_at hl 0 rfl) ?_
  refine lv_if_ne (tgt := 103) hx hb dX10_weakest_96 (by decide) (fun c_6 => ?_) (fun c_6 => ?_)
  · replace hf := z_f c_6 hf
    refine lv_iload hx hb dX10_weakest_103 (lv_at hl 2 rfl) ?_
    exact e_i X hR hr hlk hf dX10_weakest_105
  · replace hf := z_t c_6 hf
    refine lv_iload_n hx hb dX10_weakest_99 rfl (lv_at hl 1 rfl) ?_
    refine lv_goto (tgt := 105) hx hb dX10_weakest_100 (by decide) ?_
    exact e_i X hR hr hlk hf dX10_weakest_105
set_option maxHeartbeats 4000000 in
set_option maxRecDepth 100000 in
theorem w10_weakest_89 (X : Cx p s m args c cX10_weakest 7 RX10 G) (hr : meth.sig.returnType = some .int) (hlk : meth.locks = false) (N : Nat) {x1 : Int32} {x2 : Int32} {k33 : Int32 → Int32 → Int32 → Mm → Option (Int32 × Mm)} (hk33 : ∀ (x3 : Int32) (x4 : Int32) (x5 : Int32) (σ : Mm) (H : Heap) (locs : List Loc) (ls : Array Slot), k33 x3 x4 x5 σ = some (r0, σ0) → Rp G 212 tt σ s H locs → lv_has ls 7 [(0, .ref (G.2.2 + 0)), (1, .int x1), (2, .int x2), (3, .int x3), (4, .int x4), (5, .int x5)] → W p l e rm10_weakest s m args below meth c H locs 0 0 (MQ below (P_i G 212 tt r0 σ0) args s 0 0 (Fr G)) (F0 m 33 ls [])) :
    ∀ (x3 : Int32) (x4 : Int32) (x5 : Int32) (σ : Mm) (H : Heap) (locs : List Loc) (ls : Array Slot), f10_weakest_89 N k33 x1 x2 x3 x4 x5 σ = some (r0, σ0) → Rp G 212 tt σ s H locs → lv_has ls 7 [(0, .ref (G.2.2 + 0)), (1, .int x1), (2, .int x2), (3, .int x3), (4, .int x4), (5, .int x5)] → W p l e rm10_weakest s m args below meth c H locs 0 0 (MQ below (P_i G 212 tt r0 σ0) args s 0 0 (Fr G)) (F0 m 89 ls []) := by
  have hx := X.1
  have hb := X.2.1
  intro x3 x4 x5 σ H locs ls hf hR hl
  unfold f10_weakest_89 at hf
  obtain ⟨x5_8, ex5_8⟩ : ∃ z : Int32, z = x5 + (1 : Int32) := ⟨_, rfl⟩
  replace hf := z_l_e ex5_8 hf
  refine lv_iinc (v := x5_8) (lv' := [(5, .int x5_8), (0, .ref (G.2.2 + 0)), (1, .int x1), (2, .int x2), (3, .int x3), (4, .int x4)]) hx hb dX10_weakest_89 hl (k := 5) rfl (by rw [ex5_8]; rfl) (by decide) rfl (fun ls hl => ?_)
  refine lv_goto (tgt := 33) hx hb dX10_weakest_92 (by decide) ?_
  exact hk33 x3 x4 x5_8 σ _ _ _ hf hR (lv_sub hl [1, 2, 3, 4, 5, 0] rfl)
set_option maxHeartbeats 4000000 in
set_option maxRecDepth 100000 in
theorem w10_weakest_82 (X : Cx p s m args c cX10_weakest 7 RX10 G) (hr : meth.sig.returnType = some .int) (hlk : meth.locks = false) (N : Nat) {x1 : Int32} {x2 : Int32} {k33 : Int32 → Int32 → Int32 → Mm → Option (Int32 × Mm)} (hk33 : ∀ (x3 : Int32) (x4 : Int32) (x5 : Int32) (σ : Mm) (H : Heap) (locs : List Loc) (ls : Array Slot), k33 x3 x4 x5 σ = some (r0, σ0) → Rp G 212 tt σ s H locs → lv_has ls 7 [(0, .ref (G.2.2 + 0)), (1, .int x1), (2, .int x2), (3, .int x3), (4, .int x4), (5, .int x5)] → W p l e rm10_weakest s m args below meth c H locs 0 0 (MQ below (P_i G 212 tt r0 σ0) args s 0 0 (Fr G)) (F0 m 33 ls [])) :
    ∀ (x5 : Int32) (x6 : Int32) (σ : Mm) (H : Heap) (locs : List Loc) (ls : Array Slot), f10_weakest_82 N k33 x1 x2 x5 x6 σ = some (r0, σ0) → Rp G 212 tt σ s H locs → lv_has ls 7 [(0, .ref (G.2.2 + 0)), (1, .int x1), (2, .int x2), (5, .int x5), (6, .int x6)] → W p l e rm10_weakest s m args below meth c H locs 0 0 (MQ below (P_i G 212 tt r0 σ0) args s 0 0 (Fr G)) (F0 m 82 ls []) := by
  have hx := X.1
  have hb := X.2.1
  intro x5 x6 σ H locs ls hf hR hl
  unfold f10_weakest_82 at hf
  refine lv_iload hx hb dX10_weakest_82 (lv_at hl 4 rfl) ?_
  refine lv_istore (lv' := [(4, .int x6), (0, .ref (G.2.2 + 0)), (1, .int x1), (2, .int x2), (5, .int x5), (6, .int x6)]) hx hb dX10_weakest_84 hl (by decide) rfl (fun ls hl => ?_)
  refine lv_iload hx hb dX10_weakest_86 (lv_at hl 4 rfl) ?_
  refine lv_istore_n (lv' := [(3, .int x5), (4, .int x6), (0, .ref (G.2.2 + 0)), (1, .int x1), (2, .int x2), (5, .int x5), (6, .int x6)]) hx hb dX10_weakest_88 rfl hl (by decide) rfl (fun ls hl => ?_)
  exact w10_weakest_89 X hr hlk N hk33 x5 x6 x5 σ _ _ _ hf hR (lv_sub hl [2, 3, 4, 0, 1, 5] rfl)
set_option maxHeartbeats 4000000 in
set_option maxRecDepth 100000 in
theorem w10_weakest_33 (X : Cx p s m args c cX10_weakest 7 RX10 G) (hr : meth.sig.returnType = some .int) (hlk : meth.locks = false) (N : Nat) {x1 : Int32} {x2 : Int32} :
    ∀ (fu : Nat) (x3 : Int32) (x4 : Int32) (x5 : Int32) (σ : Mm) (H : Heap) (locs : List Loc) (ls : Array Slot), f10_weakest_33 N x1 x2 fu x3 x4 x5 σ = some (r0, σ0) → Rp G 212 tt σ s H locs → lv_has ls 7 [(0, .ref (G.2.2 + 0)), (1, .int x1), (2, .int x2), (3, .int x3), (4, .int x4), (5, .int x5)] → W p l e rm10_weakest s m args below meth c H locs 0 0 (MQ below (P_i G 212 tt r0 σ0) args s 0 0 (Fr G)) (F0 m 33 ls []) := by
  have hx := X.1
  have hb := X.2.1
  intro fu
  induction fu with
  | zero =>
    intro x3 x4 x5 σ H locs ls hf hR hl
    rw [f10_weakest_33] at hf
    cases hf
  | succ fu ih =>
    intro x3 x4 x5 σ H locs ls hf hR hl
    rw [f10_weakest_33] at hf
    refine lv_iload hx hb dX10_weakest_33 (lv_at hl 5 rfl) ?_
    refine lv_aload_n hx hb dX10_weakest_35 rfl (lv_at hl 0 rfl) ?_
    refine r_gs (t := 56) X hR fr_10_60 kh_0 (sx_10_8 kh_0) dX10_weakest_36 ?_
    refine r_gi X hR fi_10_212 kh_56 dX10_weakest_39 ?_
    refine lv_icmp_ge (tgt := 95) hx hb dX10_weakest_42 (by decide) (fun c_5 => ?_) (fun c_5 => ?_)
    · replace hf := z_t c_5 hf
      exact w10_weakest_95 X hr hlk N  x1 x3 x4 σ _ _ _ hf hR (lv_sub hl [1, 3, 4] rfl)
    · replace hf := z_f c_5 hf
      refine lv_iload_n hx hb dX10_weakest_45 rfl (lv_at hl 2 rfl) ?_
      refine lv_iload hx hb dX10_weakest_46 (lv_at hl 5 rfl) ?_
      refine lv_ishr hx hb dX10_weakest_48 ?_
      refine lv_iconst (v := (1 : Int32)) hx hb dX10_weakest_49 (by decide) ?_
      refine lv_iand hx hb dX10_weakest_50 ?_
      refine lv_if_eq (tgt := 89) hx hb dX10_weakest_51 (by decide) (fun c_7 => ?_) (fun c_7 => ?_)
      · replace hf := z_t c_7 hf
        exact w10_weakest_89 X hr hlk N ih x3 x4 x5 σ _ _ _ hf hR (lv_sub hl [0, 1, 2, 3, 4, 5] rfl)
      · replace hf := z_f c_7 hf
        refine lv_aload_n hx hb dX10_weakest_54 rfl (lv_at hl 0 rfl) ?_
        refine r_gs (t := 60) X hR fr_10_72 kh_0 (sx_10_10 kh_0) dX10_weakest_55 ?_
        refine lv_aload_n hx hb dX10_weakest_58 rfl (lv_at hl 0 rfl) ?_
        refine r_gs (t := 56) X hR fr_10_60 kh_0 (sx_10_8 kh_0) dX10_weakest_59 ?_
        refine lv_iload hx hb dX10_weakest_62 (lv_at hl 5 rfl) ?_
        obtain ⟨r_9, σ_10, hc_11, hf⟩ := z_b_e hf
        refine go_i hR (mv_run (As := [.ref (G.2.2 + 56), .int x5]) (rest := []) X hR mv_10_306 kh_60 (kd_lt kh_60 (by decide)) (c0_howManySwear l G N kh_56 hc_11) ⟨rfl, rfl, Nat.le_of_ble_eq_true rfl, Nat.le_of_ble_eq_true rfl⟩ rfl hl.1 rfl (Nat.le_of_ble_eq_true rfl) dX10_weakest_64 ⟨Nat.zero_le _, Nat.zero_le _⟩) (fun H locs hR => ?_)
        refine lv_istore (lv' := [(6, .int r_9), (0, .ref (G.2.2 + 0)), (1, .int x1), (2, .int x2), (3, .int x3), (4, .int x4), (5, .int x5)]) hx hb dX10_weakest_67 hl (by decide) rfl (fun ls hl => ?_)
        refine lv_iload_n hx hb dX10_weakest_69 rfl (lv_at hl 4 rfl) ?_
        refine lv_bipush (v := (-2 : Int32)) hx hb dX10_weakest_70 (by decide) ?_
        refine lv_icmp_eq (tgt := 82) hx hb dX10_weakest_72 (by decide) (fun c_12 => ?_) (fun c_12 => ?_)
        · replace hf := z_t c_12 hf
          exact w10_weakest_82 X hr hlk N ih x5 r_9 σ_10 _ _ _ hf hR (lv_sub hl [1, 2, 3, 6, 0] rfl)
        · replace hf := z_f c_12 hf
          refine lv_iload hx hb dX10_weakest_75 (lv_at hl 0 rfl) ?_
          refine lv_iload hx hb dX10_weakest_77 (lv_at hl 5 rfl) ?_
          refine lv_icmp_ge (tgt := 89) hx hb dX10_weakest_79 (by decide) (fun c_13 => ?_) (fun c_13 => ?_)
          · replace hf := z_t c_13 hf
            exact w10_weakest_89 X hr hlk N ih x3 x4 x5 σ_10 _ _ _ hf hR (lv_sub hl [1, 2, 3, 4, 5, 6] rfl)
          · replace hf := z_f c_13 hf
            exact w10_weakest_82 X hr hlk N ih x5 r_9 σ_10 _ _ _ hf hR (lv_sub hl [1, 2, 3, 6, 0] rfl)
set_option maxHeartbeats 4000000 in
set_option maxRecDepth 100000 in
theorem w10_weakest_11 (X : Cx p s m args c cX10_weakest 7 RX10 G) (hr : meth.sig.returnType = some .int) (hlk : meth.locks = false) (N : Nat) :
    ∀ (x1 : Int32) (σ : Mm) (H : Heap) (locs : List Loc) (ls : Array Slot), f10_weakest_11 N x1 σ = some (r0, σ0) → Rp G 212 tt σ s H locs → lv_has ls 7 [(0, .ref (G.2.2 + 0)), (1, .int x1)] → W p l e rm10_weakest s m args below meth c H locs 0 0 (MQ below (P_i G 212 tt r0 σ0) args s 0 0 (Fr G)) (F0 m 11 ls []) := by
  have hx := X.1
  have hb := X.2.1
  intro x1 σ H locs ls hf hR hl
  unfold f10_weakest_11 at hf
  refine lv_aload_n hx hb dX10_weakest_11 rfl (lv_at hl 0 rfl) ?_
  refine r_gs (t := 60) X hR fr_10_72 kh_0 (sx_10_10 kh_0) dX10_weakest_12 ?_
  refine lv_aload_n hx hb dX10_weakest_15 rfl (lv_at hl 0 rfl) ?_
  refine r_gs (t := 56) X hR fr_10_60 kh_0 (sx_10_8 kh_0) dX10_weakest_16 ?_
  obtain ⟨r_2, σ_3, hc_4, hf⟩ := z_b_e hf
  refine go_i hR (mv_run (As := [.ref (G.2.2 + 56)]) (rest := []) X hR mv_10_303 kh_60 (kd_lt kh_60 (by decide)) (c0_countingOfAll l G N kh_56 hc_4) ⟨rfl, rfl, Nat.le_of_ble_eq_true rfl, Nat.le_of_ble_eq_true rfl⟩ rfl hl.1 rfl (Nat.le_of_ble_eq_true rfl) dX10_weakest_19 ⟨Nat.zero_le _, Nat.zero_le _⟩) (fun H locs hR => ?_)
  refine lv_istore_n (lv' := [(2, .int r_2), (0, .ref (G.2.2 + 0)), (1, .int x1)]) hx hb dX10_weakest_22 rfl hl (by decide) rfl (fun ls hl => ?_)
  refine lv_bipush (v := (-2 : Int32)) hx hb dX10_weakest_23 (by decide) ?_
  refine lv_istore_n (lv' := [(3, .int (-2 : Int32)), (2, .int r_2), (0, .ref (G.2.2 + 0)), (1, .int x1)]) hx hb dX10_weakest_25 rfl hl (by decide) rfl (fun ls hl => ?_)
  refine lv_bipush (v := (-2 : Int32)) hx hb dX10_weakest_26 (by decide) ?_
  refine lv_istore (lv' := [(4, .int (-2 : Int32)), (3, .int (-2 : Int32)), (2, .int r_2), (0, .ref (G.2.2 + 0)), (1, .int x1)]) hx hb dX10_weakest_28 hl (by decide) rfl (fun ls hl => ?_)
  refine lv_iconst (v := (0 : Int32)) hx hb dX10_weakest_30 (by decide) ?_
  refine lv_istore (lv' := [(5, .int (0 : Int32)), (4, .int (-2 : Int32)), (3, .int (-2 : Int32)), (2, .int r_2), (0, .ref (G.2.2 + 0)), (1, .int x1)]) hx hb dX10_weakest_31 hl (by decide) rfl (fun ls hl => ?_)
  exact w10_weakest_33 X hr hlk N  N (-2 : Int32) (-2 : Int32) (0 : Int32) σ_3 _ _ _ hf hR (lv_sub hl [4, 5, 3, 2, 1, 0] rfl)
set_option maxHeartbeats 4000000 in
set_option maxRecDepth 100000 in
theorem c10_weakest (l : Launch) (G : Gp) (N : Nat) {x1 : Int32} {σ σ0 : Mm} {r0 : Int32} (hf : f10_weakest N x1 σ = some (r0, σ0)) : Met l yX10_weakest (WS yX10_weakest cX10_weakest 7 (some .int)) rm10_weakest (va_Pc [.ref (G.2.2 + 0), .int x1] (Pd G 212 tt σ)) (P_i G 212 tt r0 σ0) 0 0 (Fr G) := by
  refine ct [(0, .ref (G.2.2 + 0)), (1, .int x1)] rfl (by decide) (Nat.le_of_ble_eq_true rfl) ?_
  intro p e s m below meth c ls X hr hlk hR hl
  have X : Cx p s m _ c cX10_weakest 7 RX10 G := X
  have hx := X.1
  have hb := X.2.1
  unfold f10_weakest at hf
  refine lv_iload_n hx hb dX10_weakest_0 rfl (lv_at hl 1 rfl) ?_
  refine lv_if_eq (tgt := 11) hx hb dX10_weakest_1 (by decide) (fun c_1 => ?_) (fun c_1 => ?_)
  · replace hf := z_t c_1 hf
    exact w10_weakest_11 X hr hlk N  x1 σ _ _ _ hf hR (lv_sub hl [0, 1] rfl)
  · replace hf := z_f c_1 hf
    refine lv_iload_n hx hb dX10_weakest_4 rfl (lv_at hl 1 rfl) ?_
    refine lv_iconst (v := (1 : Int32)) hx hb dX10_weakest_5 (by decide) ?_
    refine lv_icmp_eq (tgt := 11) hx hb dX10_weakest_6 (by decide) (fun c_14 => ?_) (fun c_14 => ?_)
    · replace hf := z_t c_14 hf
      exact w10_weakest_11 X hr hlk N  x1 σ _ _ _ hf hR (lv_sub hl [0, 1] rfl)
    · replace hf := z_f c_14 hf
      refine lv_iconst (v := (-1 : Int32)) hx hb dX10_weakest_9 (by decide) ?_
      exact e_i X hR hr hlk hf dX10_weakest_10
abbrev rm10_ownerIn : Room := { frames := 6, cells := 0, slots := 0, locals := 135 }
def f10_ownerIn (N : Nat) (x1 : Int32) (x2 : Int32) (σ : Mm) : Option (Int32 × Mm) :=
  z_b (f10_noPlot N x1 σ) fun r_1 σ_2 =>
  if r_1 = 0 then (
  z_b (f10_noYears N x2 σ_2) fun r_5 σ_6 =>
  if r_5 = 0 then (
  z_r (gR σ_6 0 3) 3 fun t_9 =>
  z_b (f10_lookAhead N x2 (gI σ_6 t_9 5) σ_6) fun _ σ_12 =>
  z_b (f0_owner N 58 x1 σ_12) fun r_14 σ_15 =>
  some (r_14, σ_15)) else (
  some ((-1 : Int32), σ_6))) else (
  some ((-1 : Int32), σ_2))
set_option maxHeartbeats 4000000 in
set_option maxRecDepth 100000 in
theorem c10_ownerIn (l : Launch) (G : Gp) (N : Nat) {x1 : Int32} {x2 : Int32} {σ σ0 : Mm} {r0 : Int32} (hf : f10_ownerIn N x1 x2 σ = some (r0, σ0)) : Met l yX10_ownerIn (WS yX10_ownerIn cX10_ownerIn 3 (some .int)) rm10_ownerIn (va_Pc [.ref (G.2.2 + 0), .int x1, .int x2] (Pd G 212 tt σ)) (P_i G 212 tt r0 σ0) 0 0 (Fr G) := by
  refine ct [(0, .ref (G.2.2 + 0)), (1, .int x1), (2, .int x2)] rfl (by decide) (Nat.le_of_ble_eq_true rfl) ?_
  intro p e s m below meth c ls X hr hlk hR hl
  have X : Cx p s m _ c cX10_ownerIn 3 RX10 G := X
  have hx := X.1
  have hb := X.2.1
  unfold f10_ownerIn at hf
  refine lv_aload_n hx hb dX10_ownerIn_0 rfl (lv_at hl 0 rfl) ?_
  refine lv_iload_n hx hb dX10_ownerIn_1 rfl (lv_at hl 1 rfl) ?_
  obtain ⟨r_1, σ_2, hc_3, hf⟩ := z_b_e hf
  refine go_i hR (mv_run (As := [.int x1]) (rest := []) X hR mv_10_130 kh_0 (kd_lt kh_0 (by decide)) (c10_noPlot l G N hc_3) ⟨rfl, rfl, Nat.le_of_ble_eq_true rfl, Nat.le_of_ble_eq_true rfl⟩ rfl hl.1 rfl (Nat.le_of_ble_eq_true rfl) dX10_ownerIn_2 ⟨Nat.zero_le _, Nat.zero_le _⟩) (fun H locs hR => ?_)
  refine lv_if_ne (tgt := 15) hx hb dX10_ownerIn_5 (by decide) (fun c_4 => ?_) (fun c_4 => ?_)
  · replace hf := z_f c_4 hf
    refine lv_iconst (v := (-1 : Int32)) hx hb dX10_ownerIn_15 (by decide) ?_
    exact e_i X hR hr hlk hf dX10_ownerIn_16
  · replace hf := z_t c_4 hf
    refine lv_iload_n hx hb dX10_ownerIn_8 rfl (lv_at hl 2 rfl) ?_
    obtain ⟨r_5, σ_6, hc_7, hf⟩ := z_b_e hf
    refine go_i hR (ms_run (As := [.int x2]) (rest := []) X hR ms_10_222 (c10_noYears l G N hc_7) ⟨rfl, rfl, Nat.le_of_ble_eq_true rfl, Nat.le_of_ble_eq_true rfl⟩ rfl hl.1 rfl (Nat.le_of_ble_eq_true rfl) dX10_ownerIn_9 ⟨Nat.zero_le _, Nat.zero_le _⟩) (fun H locs hR => ?_)
    refine lv_if_eq (tgt := 17) hx hb dX10_ownerIn_12 (by decide) (fun c_8 => ?_) (fun c_8 => ?_)
    · replace hf := z_t c_8 hf
      refine lv_aload_n hx hb dX10_ownerIn_17 rfl (lv_at hl 0 rfl) ?_
      refine lv_iload_n hx hb dX10_ownerIn_18 rfl (lv_at hl 2 rfl) ?_
      refine lv_aload_n hx hb dX10_ownerIn_19 rfl (lv_at hl 0 rfl) ?_
      obtain ⟨t_9, ht_10, kht_10, hf⟩ := z_r_e hf
      refine r_gd X hR fr_10_27 kh_0 ht_10 dX10_ownerIn_20 ?_
      refine r_gi X hR fi_10_225 kht_10 dX10_ownerIn_23 ?_
      obtain ⟨r_11, σ_12, hc_13, hf⟩ := z_b_e hf
      refine go_v hR (mv_run (As := [.int x2, .int (gI σ_6 t_9 5)]) (rest := []) X hR mv_10_275 kh_0 (kd_lt kh_0 (by decide)) (c10_lookAhead l G N hc_13) ⟨rfl, rfl, Nat.le_of_ble_eq_true rfl, Nat.le_of_ble_eq_true rfl⟩ rfl hl.1 rfl (Nat.le_of_ble_eq_true rfl) dX10_ownerIn_26 ⟨Nat.zero_le _, Nat.zero_le _⟩) (fun H locs hR => ?_)
      refine lv_aload_n hx hb dX10_ownerIn_29 rfl (lv_at hl 0 rfl) ?_
      refine r_gs (t := 60) X hR fr_10_72 kh_0 (sx_10_10 kh_0) dX10_ownerIn_30 ?_
      refine lv_aload_n hx hb dX10_ownerIn_33 rfl (lv_at hl 0 rfl) ?_
      refine r_gs (t := 58) X hR fr_10_64 kh_0 (sx_10_9 kh_0) dX10_ownerIn_34 ?_
      refine lv_iload_n hx hb dX10_ownerIn_37 rfl (lv_at hl 1 rfl) ?_
      obtain ⟨r_14, σ_15, hc_16, hf⟩ := z_b_e hf
      refine go_i hR (mv_run (As := [.ref (G.2.2 + 58), .int x1]) (rest := []) X hR mv_10_143 kh_60 (kd_lt kh_60 (by decide)) (c0_owner l G N kh_58 hc_16) ⟨rfl, rfl, Nat.le_of_ble_eq_true rfl, Nat.le_of_ble_eq_true rfl⟩ rfl hl.1 rfl (Nat.le_of_ble_eq_true rfl) dX10_ownerIn_38 ⟨Nat.zero_le _, Nat.zero_le _⟩) (fun H locs hR => ?_)
      exact e_i X hR hr hlk hf dX10_ownerIn_41
    · replace hf := z_f c_8 hf
      refine lv_iconst (v := (-1 : Int32)) hx hb dX10_ownerIn_15 (by decide) ?_
      exact e_i X hR hr hlk hf dX10_ownerIn_16
abbrev rm10_then : Room := { frames := 6, cells := 0, slots := 0, locals := 135 }
def f10_then_26 (N : Nat) (x1 : Int32) (x2 : Int32) (x3 : Int32) (σ : Mm) : Option (Int32 × Mm) :=
  z_r (gR σ 0 3) 3 fun t_10 =>
  z_b (f10_lookAhead N x2 (gI σ t_10 5) σ) fun _ σ_13 =>
  if x3 = 0 then (
  z_c (inB x1 7) (
  some ((gI σ_13 59 (ix x1)), σ_13))) else (
  some ((((gI σ_13 58 1) >>> (x1 &&& 31)) &&& (1 : Int32)), σ_13))
def f10_then (N : Nat) (x1 : Int32) (x2 : Int32) (x3 : Int32) (σ : Mm) : Option (Int32 × Mm) :=
  z_b (f10_noWitness N x1 σ) fun r_1 σ_2 =>
  if r_1 = 0 then (
  z_b (f10_noYears N x2 σ_2) fun r_5 σ_6 =>
  if r_5 = 0 then (
  if x3 = 0 then (
  f10_then_26 N x1 x2 x3 σ_6) else (
  if x3 = (1 : Int32) then (
  f10_then_26 N x1 x2 x3 σ_6) else (
  some ((-1 : Int32), σ_6)))) else (
  some ((-1 : Int32), σ_6))) else (
  some ((-1 : Int32), σ_2))
set_option maxHeartbeats 4000000 in
set_option maxRecDepth 100000 in
theorem w10_then_26 (X : Cx p s m args c cX10_then 4 RX10 G) (hr : meth.sig.returnType = some .int) (hlk : meth.locks = false) (N : Nat) :
    ∀ (x1 : Int32) (x2 : Int32) (x3 : Int32) (σ : Mm) (H : Heap) (locs : List Loc) (ls : Array Slot), f10_then_26 N x1 x2 x3 σ = some (r0, σ0) → Rp G 212 tt σ s H locs → lv_has ls 4 [(0, .ref (G.2.2 + 0)), (1, .int x1), (2, .int x2), (3, .int x3)] → W p l e rm10_then s m args below meth c H locs 0 0 (MQ below (P_i G 212 tt r0 σ0) args s 0 0 (Fr G)) (F0 m 26 ls []) := by
  have hx := X.1
  have hb := X.2.1
  intro x1 x2 x3 σ H locs ls hf hR hl
  unfold f10_then_26 at hf
  refine lv_aload_n hx hb dX10_then_26 rfl (lv_at hl 0 rfl) ?_
  refine lv_iload_n hx hb dX10_then_27 rfl (lv_at hl 2 rfl) ?_
  refine lv_aload_n hx hb dX10_then_28 rfl (lv_at hl 0 rfl) ?_
  obtain ⟨t_10, ht_11, kht_11, hf⟩ := z_r_e hf
  refine r_gd X hR fr_10_27 kh_0 ht_11 dX10_then_29 ?_
  refine r_gi X hR fi_10_225 kht_11 dX10_then_32 ?_
  obtain ⟨r_12, σ_13, hc_14, hf⟩ := z_b_e hf
  refine go_v hR (mv_run (As := [.int x2, .int (gI σ t_10 5)]) (rest := []) X hR mv_10_275 kh_0 (kd_lt kh_0 (by decide)) (c10_lookAhead l G N hc_14) ⟨rfl, rfl, Nat.le_of_ble_eq_true rfl, Nat.le_of_ble_eq_true rfl⟩ rfl hl.1 rfl (Nat.le_of_ble_eq_true rfl) dX10_then_35 ⟨Nat.zero_le _, Nat.zero_le _⟩) (fun H locs hR => ?_)
  refine lv_iload_n hx hb dX10_then_38 rfl (lv_at hl 3 rfl) ?_
  refine lv_if_ne (tgt := 54) hx hb dX10_then_39 (by decide) (fun c_15 => ?_) (fun c_15 => ?_)
  · replace hf := z_f c_15 hf
    refine lv_aload_n hx hb dX10_then_54 rfl (lv_at hl 0 rfl) ?_
    refine r_gs (t := 58) X hR fr_10_64 kh_0 (sx_10_9 kh_0) dX10_then_55 ?_
    refine r_gi X hR fi_10_165 kh_58 dX10_then_58 ?_
    refine lv_iload_n hx hb dX10_then_61 rfl (lv_at hl 1 rfl) ?_
    refine lv_ishr hx hb dX10_then_62 ?_
    refine lv_iconst (v := (1 : Int32)) hx hb dX10_then_63 (by decide) ?_
    refine lv_iand hx hb dX10_then_64 ?_
    exact e_i X hR hr hlk hf dX10_then_65
  · replace hf := z_t c_15 hf
    refine lv_aload_n hx hb dX10_then_42 rfl (lv_at hl 0 rfl) ?_
    refine r_gs (t := 58) X hR fr_10_64 kh_0 (sx_10_9 kh_0) dX10_then_43 ?_
    refine r_gs (t := 59) X hR fr_10_159 kh_58 (sx_5_4 kh_58) dX10_then_46 ?_
    refine lv_iload_n hx hb dX10_then_49 rfl (lv_at hl 1 rfl) ?_
    obtain ⟨hi_16, hf⟩ := z_c_e hf
    refine r_ial X hR ka_59 hi_16 dX10_then_50 ?_
    refine lv_goto (tgt := 65) hx hb dX10_then_51 (by decide) ?_
    exact e_i X hR hr hlk hf dX10_then_65
set_option maxHeartbeats 4000000 in
set_option maxRecDepth 100000 in
theorem c10_then (l : Launch) (G : Gp) (N : Nat) {x1 : Int32} {x2 : Int32} {x3 : Int32} {σ σ0 : Mm} {r0 : Int32} (hf : f10_then N x1 x2 x3 σ = some (r0, σ0)) : Met l yX10_then (WS yX10_then cX10_then 4 (some .int)) rm10_then (va_Pc [.ref (G.2.2 + 0), .int x1, .int x2, .int x3] (Pd G 212 tt σ)) (P_i G 212 tt r0 σ0) 0 0 (Fr G) := by
  refine ct [(0, .ref (G.2.2 + 0)), (1, .int x1), (2, .int x2), (3, .int x3)] rfl (by decide) (Nat.le_of_ble_eq_true rfl) ?_
  intro p e s m below meth c ls X hr hlk hR hl
  have X : Cx p s m _ c cX10_then 4 RX10 G := X
  have hx := X.1
  have hb := X.2.1
  unfold f10_then at hf
  refine lv_aload_n hx hb dX10_then_0 rfl (lv_at hl 0 rfl) ?_
  refine lv_iload_n hx hb dX10_then_1 rfl (lv_at hl 1 rfl) ?_
  obtain ⟨r_1, σ_2, hc_3, hf⟩ := z_b_e hf
  refine go_i hR (mv_run (As := [.int x1]) (rest := []) X hR mv_10_156 kh_0 (kd_lt kh_0 (by decide)) (c10_noWitness l G N hc_3) ⟨rfl, rfl, Nat.le_of_ble_eq_true rfl, Nat.le_of_ble_eq_true rfl⟩ rfl hl.1 rfl (Nat.le_of_ble_eq_true rfl) dX10_then_2 ⟨Nat.zero_le _, Nat.zero_le _⟩) (fun H locs hR => ?_)
  refine lv_if_ne (tgt := 24) hx hb dX10_then_5 (by decide) (fun c_4 => ?_) (fun c_4 => ?_)
  · replace hf := z_f c_4 hf
    refine lv_iconst (v := (-1 : Int32)) hx hb dX10_then_24 (by decide) ?_
    exact e_i X hR hr hlk hf dX10_then_25
  · replace hf := z_t c_4 hf
    refine lv_iload_n hx hb dX10_then_8 rfl (lv_at hl 2 rfl) ?_
    obtain ⟨r_5, σ_6, hc_7, hf⟩ := z_b_e hf
    refine go_i hR (ms_run (As := [.int x2]) (rest := []) X hR ms_10_222 (c10_noYears l G N hc_7) ⟨rfl, rfl, Nat.le_of_ble_eq_true rfl, Nat.le_of_ble_eq_true rfl⟩ rfl hl.1 rfl (Nat.le_of_ble_eq_true rfl) dX10_then_9 ⟨Nat.zero_le _, Nat.zero_le _⟩) (fun H locs hR => ?_)
    refine lv_if_ne (tgt := 24) hx hb dX10_then_12 (by decide) (fun c_8 => ?_) (fun c_8 => ?_)
    · replace hf := z_f c_8 hf
      refine lv_iconst (v := (-1 : Int32)) hx hb dX10_then_24 (by decide) ?_
      exact e_i X hR hr hlk hf dX10_then_25
    · replace hf := z_t c_8 hf
      refine lv_iload_n hx hb dX10_then_15 rfl (lv_at hl 3 rfl) ?_
      refine lv_if_eq (tgt := 26) hx hb dX10_then_16 (by decide) (fun c_9 => ?_) (fun c_9 => ?_)
      · replace hf := z_t c_9 hf
        exact w10_then_26 X hr hlk N  x1 x2 x3 σ_6 _ _ _ hf hR (lv_sub hl [0, 1, 2, 3] rfl)
      · replace hf := z_f c_9 hf
        refine lv_iload_n hx hb dX10_then_19 rfl (lv_at hl 3 rfl) ?_
        refine lv_iconst (v := (1 : Int32)) hx hb dX10_then_20 (by decide) ?_
        refine lv_icmp_eq (tgt := 26) hx hb dX10_then_21 (by decide) (fun c_17 => ?_) (fun c_17 => ?_)
        · replace hf := z_t c_17 hf
          exact w10_then_26 X hr hlk N  x1 x2 x3 σ_6 _ _ _ hf hR (lv_sub hl [0, 1, 2, 3] rfl)
        · replace hf := z_f c_17 hf
          refine lv_iconst (v := (-1 : Int32)) hx hb dX10_then_24 (by decide) ?_
          exact e_i X hR hr hlk hf dX10_then_25
abbrev rm10_swearIn : Room := { frames := 6, cells := 0, slots := 0, locals := 135 }
def f10_swearIn (N : Nat) (x1 : Int32) (x2 : Int32) (σ : Mm) : Option (Int32 × Mm) :=
  z_b (f10_noGiving N x1 σ) fun r_1 σ_2 =>
  if r_1 = 0 then (
  z_b (f10_noYears N x2 σ_2) fun r_5 σ_6 =>
  if r_5 = 0 then (
  z_r (gR σ_6 0 3) 3 fun t_9 =>
  z_b (f10_lookAhead N x2 (gI σ_6 t_9 5) σ_6) fun _ σ_12 =>
  z_b (f0_howManySwear N 58 x1 σ_12) fun r_14 σ_15 =>
  some (r_14, σ_15)) else (
  some ((-1 : Int32), σ_6))) else (
  some ((-1 : Int32), σ_2))
set_option maxHeartbeats 4000000 in
set_option maxRecDepth 100000 in
theorem c10_swearIn (l : Launch) (G : Gp) (N : Nat) {x1 : Int32} {x2 : Int32} {σ σ0 : Mm} {r0 : Int32} (hf : f10_swearIn N x1 x2 σ = some (r0, σ0)) : Met l yX10_swearIn (WS yX10_swearIn cX10_swearIn 3 (some .int)) rm10_swearIn (va_Pc [.ref (G.2.2 + 0), .int x1, .int x2] (Pd G 212 tt σ)) (P_i G 212 tt r0 σ0) 0 0 (Fr G) := by
  refine ct [(0, .ref (G.2.2 + 0)), (1, .int x1), (2, .int x2)] rfl (by decide) (Nat.le_of_ble_eq_true rfl) ?_
  intro p e s m below meth c ls X hr hlk hR hl
  have X : Cx p s m _ c cX10_swearIn 3 RX10 G := X
  have hx := X.1
  have hb := X.2.1
  unfold f10_swearIn at hf
  refine lv_aload_n hx hb dX10_swearIn_0 rfl (lv_at hl 0 rfl) ?_
  refine lv_iload_n hx hb dX10_swearIn_1 rfl (lv_at hl 1 rfl) ?_
  obtain ⟨r_1, σ_2, hc_3, hf⟩ := z_b_e hf
  refine go_i hR (mv_run (As := [.int x1]) (rest := []) X hR mv_10_174 kh_0 (kd_lt kh_0 (by decide)) (c10_noGiving l G N hc_3) ⟨rfl, rfl, Nat.le_of_ble_eq_true rfl, Nat.le_of_ble_eq_true rfl⟩ rfl hl.1 rfl (Nat.le_of_ble_eq_true rfl) dX10_swearIn_2 ⟨Nat.zero_le _, Nat.zero_le _⟩) (fun H locs hR => ?_)
  refine lv_if_ne (tgt := 15) hx hb dX10_swearIn_5 (by decide) (fun c_4 => ?_) (fun c_4 => ?_)
  · replace hf := z_f c_4 hf
    refine lv_iconst (v := (-1 : Int32)) hx hb dX10_swearIn_15 (by decide) ?_
    exact e_i X hR hr hlk hf dX10_swearIn_16
  · replace hf := z_t c_4 hf
    refine lv_iload_n hx hb dX10_swearIn_8 rfl (lv_at hl 2 rfl) ?_
    obtain ⟨r_5, σ_6, hc_7, hf⟩ := z_b_e hf
    refine go_i hR (ms_run (As := [.int x2]) (rest := []) X hR ms_10_222 (c10_noYears l G N hc_7) ⟨rfl, rfl, Nat.le_of_ble_eq_true rfl, Nat.le_of_ble_eq_true rfl⟩ rfl hl.1 rfl (Nat.le_of_ble_eq_true rfl) dX10_swearIn_9 ⟨Nat.zero_le _, Nat.zero_le _⟩) (fun H locs hR => ?_)
    refine lv_if_eq (tgt := 17) hx hb dX10_swearIn_12 (by decide) (fun c_8 => ?_) (fun c_8 => ?_)
    · replace hf := z_t c_8 hf
      refine lv_aload_n hx hb dX10_swearIn_17 rfl (lv_at hl 0 rfl) ?_
      refine lv_iload_n hx hb dX10_swearIn_18 rfl (lv_at hl 2 rfl) ?_
      refine lv_aload_n hx hb dX10_swearIn_19 rfl (lv_at hl 0 rfl) ?_
      obtain ⟨t_9, ht_10, kht_10, hf⟩ := z_r_e hf
      refine r_gd X hR fr_10_27 kh_0 ht_10 dX10_swearIn_20 ?_
      refine r_gi X hR fi_10_225 kht_10 dX10_swearIn_23 ?_
      obtain ⟨r_11, σ_12, hc_13, hf⟩ := z_b_e hf
      refine go_v hR (mv_run (As := [.int x2, .int (gI σ_6 t_9 5)]) (rest := []) X hR mv_10_275 kh_0 (kd_lt kh_0 (by decide)) (c10_lookAhead l G N hc_13) ⟨rfl, rfl, Nat.le_of_ble_eq_true rfl, Nat.le_of_ble_eq_true rfl⟩ rfl hl.1 rfl (Nat.le_of_ble_eq_true rfl) dX10_swearIn_26 ⟨Nat.zero_le _, Nat.zero_le _⟩) (fun H locs hR => ?_)
      refine lv_aload_n hx hb dX10_swearIn_29 rfl (lv_at hl 0 rfl) ?_
      refine r_gs (t := 60) X hR fr_10_72 kh_0 (sx_10_10 kh_0) dX10_swearIn_30 ?_
      refine lv_aload_n hx hb dX10_swearIn_33 rfl (lv_at hl 0 rfl) ?_
      refine r_gs (t := 58) X hR fr_10_64 kh_0 (sx_10_9 kh_0) dX10_swearIn_34 ?_
      refine lv_iload_n hx hb dX10_swearIn_37 rfl (lv_at hl 1 rfl) ?_
      obtain ⟨r_14, σ_15, hc_16, hf⟩ := z_b_e hf
      refine go_i hR (mv_run (As := [.ref (G.2.2 + 58), .int x1]) (rest := []) X hR mv_10_306 kh_60 (kd_lt kh_60 (by decide)) (c0_howManySwear l G N kh_58 hc_16) ⟨rfl, rfl, Nat.le_of_ble_eq_true rfl, Nat.le_of_ble_eq_true rfl⟩ rfl hl.1 rfl (Nat.le_of_ble_eq_true rfl) dX10_swearIn_38 ⟨Nat.zero_le _, Nat.zero_le _⟩) (fun H locs hR => ?_)
      exact e_i X hR hr hlk hf dX10_swearIn_41
    · replace hf := z_f c_8 hf
      refine lv_iconst (v := (-1 : Int32)) hx hb dX10_swearIn_15 (by decide) ?_
      exact e_i X hR hr hlk hf dX10_swearIn_16
abbrev rm10_year : Room := { frames := 6, cells := 0, slots := 0, locals := 135 }
def f10_year_85 (N : Nat) (k44 : Int32 → Int32 → Mm → Option (Int32 × Mm)) (x1 : Int32) (x2 : Int32) (x3 : Int32) (x4 : Int32) (x5 : Int32) (x6 : Int32) (σ : Mm) : Option (Int32 × Mm) :=
  z_l (x6 + (1 : Int32)) fun x6_25 =>
  k44 x5 x6_25 σ
def f10_year_44 (N : Nat) (x1 : Int32) (x2 : Int32) (x3 : Int32) (x4 : Int32) : Nat → Int32 → Int32 → Mm → Option (Int32 × Mm)
  | 0, _, _, _ => none
  | fu + 1, x5, x6, σ => if x4 ≤ x6 then (
  some (x5, σ)) else (
  z_r (gR σ 0 3) 3 fun t_16 =>
  z_b (f10_lookAhead N x3 ((gI σ t_16 5) + x6) σ) fun _ σ_19 =>
  z_b (f0_owner N 58 x1 σ_19) fun r_21 σ_22 =>
  if r_21 = x2 then (
  z_l (x5 + (1 : Int32)) fun x5_26 =>
  f10_year_85 N (fun x5 x6 σ => f10_year_44 N x1 x2 x3 x4 fu x5 x6 σ) x1 x2 x3 x4 x5_26 x6 σ_22) else (
  f10_year_85 N (fun x5 x6 σ => f10_year_44 N x1 x2 x3 x4 fu x5 x6 σ) x1 x2 x3 x4 x5 x6 σ_22))
def f10_year (N : Nat) (x1 : Int32) (x2 : Int32) (x3 : Int32) (x4 : Int32) (σ : Mm) : Option (Int32 × Mm) :=
  z_b (f10_noPlot N x1 σ) fun r_1 σ_2 =>
  if r_1 = 0 then (
  z_b (f10_noPerson N x2 σ_2) fun r_5 σ_6 =>
  if r_5 = 0 then (
  z_b (f10_noYears N x3 σ_6) fun r_9 σ_10 =>
  if r_9 = 0 then (
  if x4 < (1 : Int32) then (
  some ((-1 : Int32), σ_10)) else (
  if x4 ≤ (20 : Int32) then (
  f10_year_44 N x1 x2 x3 x4 N (0 : Int32) (0 : Int32) σ_10) else (
  some ((-1 : Int32), σ_10)))) else (
  some ((-1 : Int32), σ_10))) else (
  some ((-1 : Int32), σ_6))) else (
  some ((-1 : Int32), σ_2))
set_option maxHeartbeats 4000000 in
set_option maxRecDepth 100000 in
theorem w10_year_85 (X : Cx p s m args c cX10_year 7 RX10 G) (hr : meth.sig.returnType = some .int) (hlk : meth.locks = false) (N : Nat) {x1 : Int32} {x2 : Int32} {x3 : Int32} {x4 : Int32} {k44 : Int32 → Int32 → Mm → Option (Int32 × Mm)} (hk44 : ∀ (x5 : Int32) (x6 : Int32) (σ : Mm) (H : Heap) (locs : List Loc) (ls : Array Slot), k44 x5 x6 σ = some (r0, σ0) → Rp G 212 tt σ s H locs → lv_has ls 7 [(0, .ref (G.2.2 + 0)), (1, .int x1), (2, .int x2), (3, .int x3), (4, .int x4), (5, .int x5), (6, .int x6)] → W p l e rm10_year s m args below meth c H locs 0 0 (MQ below (P_i G 212 tt r0 σ0) args s 0 0 (Fr G)) (F0 m 44 ls [])) :
    ∀ (x5 : Int32) (x6 : Int32) (σ : Mm) (H : Heap) (locs : List Loc) (ls : Array Slot), f10_year_85 N k44 x1 x2 x3 x4 x5 x6 σ = some (r0, σ0) → Rp G 212 tt σ s H locs → lv_has ls 7 [(0, .ref (G.2.2 + 0)), (1, .int x1), (2, .int x2), (3, .int x3), (4, .int x4), (5, .int x5), (6, .int x6)] → W p l e rm10_year s m args below meth c H locs 0 0 (MQ below (P_i G 212 tt r0 σ0) args s 0 0 (Fr G)) (F0 m 85 ls []) := by
  have hx := X.1
  have hb := X.2.1
  intro x5 x6 σ H locs ls hf hR hl
  unfold f10_year_85 at hf
  obtain ⟨x6_25, ex6_25⟩ : ∃ z : Int32, z = x6 + (1 : Int32) := ⟨_, rfl⟩
  replace hf := z_l_e ex6_25 hf
  refine lv_iinc (v := x6_25) (lv' := [(6, .int x6_25), (0, .ref (G.2.2 + 0)), (1, .int x1), (2, .int x2), (3, .int x3), (4, .int x4), (5, .int x5)]) hx hb dX10_year_85 hl (k := 6) rfl (by rw [ex6_25]; rfl) (by decide) rfl (fun ls hl => ?_)
  refine lv_goto (tgt := 44) hx hb dX10_year_88 (by decide) ?_
  exact hk44 x5 x6_25 σ _ _ _ hf hR (lv_sub hl [1, 2, 3, 4, 5, 6, 0] rfl)
set_option maxHeartbeats 4000000 in
set_option maxRecDepth 100000 in
theorem w10_year_44 (X : Cx p s m args c cX10_year 7 RX10 G) (hr : meth.sig.returnType = some .int) (hlk : meth.locks = false) (N : Nat) {x1 : Int32} {x2 : Int32} {x3 : Int32} {x4 : Int32} :
    ∀ (fu : Nat) (x5 : Int32) (x6 : Int32) (σ : Mm) (H : Heap) (locs : List Loc) (ls : Array Slot), f10_year_44 N x1 x2 x3 x4 fu x5 x6 σ = some (r0, σ0) → Rp G 212 tt σ s H locs → lv_has ls 7 [(0, .ref (G.2.2 + 0)), (1, .int x1), (2, .int x2), (3, .int x3), (4, .int x4), (5, .int x5), (6, .int x6)] → W p l e rm10_year s m args below meth c H locs 0 0 (MQ below (P_i G 212 tt r0 σ0) args s 0 0 (Fr G)) (F0 m 44 ls []) := by
  have hx := X.1
  have hb := X.2.1
  intro fu
  induction fu with
  | zero =>
    intro x5 x6 σ H locs ls hf hR hl
    rw [f10_year_44] at hf
    cases hf
  | succ fu ih =>
    intro x5 x6 σ H locs ls hf hR hl
    rw [f10_year_44] at hf
    refine lv_iload hx hb dX10_year_44 (lv_at hl 6 rfl) ?_
    refine lv_iload hx hb dX10_year_46 (lv_at hl 4 rfl) ?_
    refine lv_icmp_ge (tgt := 91) hx hb dX10_year_48 (by decide) (fun c_15 => ?_) (fun c_15 => ?_)
    · replace hf := z_t c_15 hf
      refine lv_iload hx hb dX10_year_91 (lv_at hl 5 rfl) ?_
      exact e_i X hR hr hlk hf dX10_year_93
    · replace hf := z_f c_15 hf
      refine lv_aload_n hx hb dX10_year_51 rfl (lv_at hl 0 rfl) ?_
      refine lv_iload_n hx hb dX10_year_52 rfl (lv_at hl 3 rfl) ?_
      refine lv_aload_n hx hb dX10_year_53 rfl (lv_at hl 0 rfl) ?_
      obtain ⟨t_16, ht_17, kht_17, hf⟩ := z_r_e hf
      refine r_gd X hR fr_10_27 kh_0 ht_17 dX10_year_54 ?_
      refine r_gi X hR fi_10_225 kht_17 dX10_year_57 ?_
      refine lv_iload hx hb dX10_year_60 (lv_at hl 6 rfl) ?_
      refine lv_iadd hx hb dX10_year_62 ?_
      obtain ⟨r_18, σ_19, hc_20, hf⟩ := z_b_e hf
      refine go_v hR (mv_run (As := [.int x3, .int ((gI σ t_16 5) + x6)]) (rest := []) X hR mv_10_275 kh_0 (kd_lt kh_0 (by decide)) (c10_lookAhead l G N hc_20) ⟨rfl, rfl, Nat.le_of_ble_eq_true rfl, Nat.le_of_ble_eq_true rfl⟩ rfl hl.1 rfl (Nat.le_of_ble_eq_true rfl) dX10_year_63 ⟨Nat.zero_le _, Nat.zero_le _⟩) (fun H locs hR => ?_)
      refine lv_aload_n hx hb dX10_year_66 rfl (lv_at hl 0 rfl) ?_
      refine r_gs (t := 60) X hR fr_10_72 kh_0 (sx_10_10 kh_0) dX10_year_67 ?_
      refine lv_aload_n hx hb dX10_year_70 rfl (lv_at hl 0 rfl) ?_
      refine r_gs (t := 58) X hR fr_10_64 kh_0 (sx_10_9 kh_0) dX10_year_71 ?_
      refine lv_iload_n hx hb dX10_year_74 rfl (lv_at hl 1 rfl) ?_
      obtain ⟨r_21, σ_22, hc_23, hf⟩ := z_b_e hf
      refine go_i hR (mv_run (As := [.ref (G.2.2 + 58), .int x1]) (rest := []) X hR mv_10_143 kh_60 (kd_lt kh_60 (by decide)) (c0_owner l G N kh_58 hc_23) ⟨rfl, rfl, Nat.le_of_ble_eq_true rfl, Nat.le_of_ble_eq_true rfl⟩ rfl hl.1 rfl (Nat.le_of_ble_eq_true rfl) dX10_year_75 ⟨Nat.zero_le _, Nat.zero_le _⟩) (fun H locs hR => ?_)
      refine lv_iload_n hx hb dX10_year_78 rfl (lv_at hl 2 rfl) ?_
      refine lv_icmp_ne (tgt := 85) hx hb dX10_year_79 (by decide) (fun c_24 => ?_) (fun c_24 => ?_)
      · replace hf := z_f c_24 hf
        exact w10_year_85 X hr hlk N ih x5 x6 σ_22 _ _ _ hf hR (lv_sub hl [0, 1, 2, 3, 4, 5, 6] rfl)
      · replace hf := z_t c_24 hf
        obtain ⟨x5_26, ex5_26⟩ : ∃ z : Int32, z = x5 + (1 : Int32) := ⟨_, rfl⟩
        replace hf := z_l_e ex5_26 hf
        refine lv_iinc (v := x5_26) (lv' := [(5, .int x5_26), (0, .ref (G.2.2 + 0)), (1, .int x1), (2, .int x2), (3, .int x3), (4, .int x4), (6, .int x6)]) hx hb dX10_year_82 hl (k := 5) rfl (by rw [ex5_26]; rfl) (by decide) rfl (fun ls hl => ?_)
        exact w10_year_85 X hr hlk N ih x5_26 x6 σ_22 _ _ _ hf hR (lv_sub hl [1, 2, 3, 4, 5, 0, 6] rfl)
set_option maxHeartbeats 4000000 in
set_option maxRecDepth 100000 in
theorem c10_year (l : Launch) (G : Gp) (N : Nat) {x1 : Int32} {x2 : Int32} {x3 : Int32} {x4 : Int32} {σ σ0 : Mm} {r0 : Int32} (hf : f10_year N x1 x2 x3 x4 σ = some (r0, σ0)) : Met l yX10_year (WS yX10_year cX10_year 7 (some .int)) rm10_year (va_Pc [.ref (G.2.2 + 0), .int x1, .int x2, .int x3, .int x4] (Pd G 212 tt σ)) (P_i G 212 tt r0 σ0) 0 0 (Fr G) := by
  refine ct [(0, .ref (G.2.2 + 0)), (1, .int x1), (2, .int x2), (3, .int x3), (4, .int x4)] rfl (by decide) (Nat.le_of_ble_eq_true rfl) ?_
  intro p e s m below meth c ls X hr hlk hR hl
  have X : Cx p s m _ c cX10_year 7 RX10 G := X
  have hx := X.1
  have hb := X.2.1
  unfold f10_year at hf
  refine lv_aload_n hx hb dX10_year_0 rfl (lv_at hl 0 rfl) ?_
  refine lv_iload_n hx hb dX10_year_1 rfl (lv_at hl 1 rfl) ?_
  obtain ⟨r_1, σ_2, hc_3, hf⟩ := z_b_e hf
  refine go_i hR (mv_run (As := [.int x1]) (rest := []) X hR mv_10_130 kh_0 (kd_lt kh_0 (by decide)) (c10_noPlot l G N hc_3) ⟨rfl, rfl, Nat.le_of_ble_eq_true rfl, Nat.le_of_ble_eq_true rfl⟩ rfl hl.1 rfl (Nat.le_of_ble_eq_true rfl) dX10_year_2 ⟨Nat.zero_le _, Nat.zero_le _⟩) (fun H locs hR => ?_)
  refine lv_if_ne (tgt := 36) hx hb dX10_year_5 (by decide) (fun c_4 => ?_) (fun c_4 => ?_)
  · replace hf := z_f c_4 hf
    refine lv_iconst (v := (-1 : Int32)) hx hb dX10_year_36 (by decide) ?_
    exact e_i X hR hr hlk hf dX10_year_37
  · replace hf := z_t c_4 hf
    refine lv_aload_n hx hb dX10_year_8 rfl (lv_at hl 0 rfl) ?_
    refine lv_iload_n hx hb dX10_year_9 rfl (lv_at hl 2 rfl) ?_
    obtain ⟨r_5, σ_6, hc_7, hf⟩ := z_b_e hf
    refine go_i hR (mv_run (As := [.int x2]) (rest := []) X hR mv_10_206 kh_0 (kd_lt kh_0 (by decide)) (c10_noPerson l G N hc_7) ⟨rfl, rfl, Nat.le_of_ble_eq_true rfl, Nat.le_of_ble_eq_true rfl⟩ rfl hl.1 rfl (Nat.le_of_ble_eq_true rfl) dX10_year_10 ⟨Nat.zero_le _, Nat.zero_le _⟩) (fun H locs hR => ?_)
    refine lv_if_ne (tgt := 36) hx hb dX10_year_13 (by decide) (fun c_8 => ?_) (fun c_8 => ?_)
    · replace hf := z_f c_8 hf
      refine lv_iconst (v := (-1 : Int32)) hx hb dX10_year_36 (by decide) ?_
      exact e_i X hR hr hlk hf dX10_year_37
    · replace hf := z_t c_8 hf
      refine lv_iload_n hx hb dX10_year_16 rfl (lv_at hl 3 rfl) ?_
      obtain ⟨r_9, σ_10, hc_11, hf⟩ := z_b_e hf
      refine go_i hR (ms_run (As := [.int x3]) (rest := []) X hR ms_10_222 (c10_noYears l G N hc_11) ⟨rfl, rfl, Nat.le_of_ble_eq_true rfl, Nat.le_of_ble_eq_true rfl⟩ rfl hl.1 rfl (Nat.le_of_ble_eq_true rfl) dX10_year_17 ⟨Nat.zero_le _, Nat.zero_le _⟩) (fun H locs hR => ?_)
      refine lv_if_ne (tgt := 36) hx hb dX10_year_20 (by decide) (fun c_12 => ?_) (fun c_12 => ?_)
      · replace hf := z_f c_12 hf
        refine lv_iconst (v := (-1 : Int32)) hx hb dX10_year_36 (by decide) ?_
        exact e_i X hR hr hlk hf dX10_year_37
      · replace hf := z_t c_12 hf
        refine lv_iload hx hb dX10_year_23 (lv_at hl 4 rfl) ?_
        refine lv_iconst (v := (1 : Int32)) hx hb dX10_year_25 (by decide) ?_
        refine lv_icmp_lt (tgt := 36) hx hb dX10_year_26 (by decide) (fun c_13 => ?_) (fun c_13 => ?_)
        · replace hf := z_t c_13 hf
          refine lv_iconst (v := (-1 : Int32)) hx hb dX10_year_36 (by decide) ?_
          exact e_i X hR hr hlk hf dX10_year_37
        · replace hf := z_f c_13 hf
          refine lv_iload hx hb dX10_year_29 (lv_at hl 4 rfl) ?_
          refine lv_bipush (v := (20 : Int32)) hx hb dX10_year_31 (by decide) ?_
          refine lv_icmp_le (tgt := 38) hx hb dX10_year_33 (by decide) (fun c_14 => ?_) (fun c_14 => ?_)
          · replace hf := z_t c_14 hf
            refine lv_iconst (v := (0 : Int32)) hx hb dX10_year_38 (by decide) ?_
            refine lv_istore (lv' := [(5, .int (0 : Int32)), (0, .ref (G.2.2 + 0)), (1, .int x1), (2, .int x2), (3, .int x3), (4, .int x4)]) hx hb dX10_year_39 hl (by decide) rfl (fun ls hl => ?_)
            refine lv_iconst (v := (0 : Int32)) hx hb dX10_year_41 (by decide) ?_
            refine lv_istore (lv' := [(6, .int (0 : Int32)), (5, .int (0 : Int32)), (0, .ref (G.2.2 + 0)), (1, .int x1), (2, .int x2), (3, .int x3), (4, .int x4)]) hx hb dX10_year_42 hl (by decide) rfl (fun ls hl => ?_)
            exact w10_year_44 X hr hlk N  N (0 : Int32) (0 : Int32) σ_10 _ _ _ hf hR (lv_sub hl [2, 3, 4, 5, 6, 1, 0] rfl)
          · replace hf := z_f c_14 hf
            refine lv_iconst (v := (-1 : Int32)) hx hb dX10_year_36 (by decide) ?_
            exact e_i X hR hr hlk hf dX10_year_37
abbrev rm10_tell : Room := { frames := 1, cells := 0, slots := 0, locals := 21 }
def f10_tell_57 (N : Nat) (x3 : Int32) (s1 : Int32) (σ : Mm) : Option (Int32 × Mm) :=
  z_l (sI σ 0 14 s1) fun σ_10 =>
  z_l (sI σ_10 0 15 (x3 + (1 : Int32))) fun σ_11 =>
  some (x3, σ_11)
def f10_tell (N : Nat) (x1 : Int32) (x2 : Int32) (σ : Mm) : Option (Int32 × Mm) :=
  z_b (f10_noWitness N x1 σ) fun r_1 σ_2 =>
  if r_1 = 0 then (
  if (gI σ_2 0 15) < (20 : Int32) then (
  z_l ((gI σ_2 0 15)) fun x3_6 =>
  z_c (inB x3_6 20) (z_l (sI σ_2 158 (ix x3_6) x1) fun σ_8 =>
  if x2 = 0 then (
  f10_tell_57 N x3_6 ((gI σ_8 0 14) &&& (((1 : Int32) <<< (x3_6 &&& 31)) ^^^ (-1 : Int32))) σ_8) else (
  f10_tell_57 N x3_6 ((gI σ_8 0 14) ||| ((1 : Int32) <<< (x3_6 &&& 31))) σ_8))) else (
  some ((-1 : Int32), σ_2))) else (
  some ((-1 : Int32), σ_2))
set_option maxHeartbeats 4000000 in
set_option maxRecDepth 100000 in
theorem w10_tell_57 (X : Cx p s m args c cX10_tell 4 RX10 G) (hr : meth.sig.returnType = some .int) (hlk : meth.locks = false) (N : Nat) :
    ∀ (x3 : Int32) (s1 : Int32) (σ : Mm) (H : Heap) (locs : List Loc) (ls : Array Slot), f10_tell_57 N x3 s1 σ = some (r0, σ0) → Rp G 212 tt σ s H locs → lv_has ls 4 [(0, .ref (G.2.2 + 0)), (3, .int x3)] → W p l e rm10_tell s m args below meth c H locs 0 0 (MQ below (P_i G 212 tt r0 σ0) args s 0 0 (Fr G)) (F0 m 57 ls [.int s1, .ref (G.2.2 + 0)]) := by
  have hx := X.1
  have hb := X.2.1
  intro x3 s1 σ H locs ls hf hR hl
  unfold f10_tell_57 at hf
  refine r_pi X hR pi_10_94 kh_0 dX10_tell_57 (fun H locs σ_10 eσ_10 hR => ?_)
  replace hf := z_l_e eσ_10 hf
  refine lv_aload_n hx hb dX10_tell_60 rfl (lv_at hl 0 rfl) ?_
  refine lv_iload_n hx hb dX10_tell_61 rfl (lv_at hl 1 rfl) ?_
  refine lv_iconst (v := (1 : Int32)) hx hb dX10_tell_62 (by decide) ?_
  refine lv_iadd hx hb dX10_tell_63 ?_
  refine r_pi X hR pi_10_97 kh_0 dX10_tell_64 (fun H locs σ_11 eσ_11 hR => ?_)
  replace hf := z_l_e eσ_11 hf
  refine lv_iload_n hx hb dX10_tell_67 rfl (lv_at hl 1 rfl) ?_
  exact e_i X hR hr hlk hf dX10_tell_68
set_option maxHeartbeats 4000000 in
set_option maxRecDepth 100000 in
theorem c10_tell (l : Launch) (G : Gp) (N : Nat) {x1 : Int32} {x2 : Int32} {σ σ0 : Mm} {r0 : Int32} (hf : f10_tell N x1 x2 σ = some (r0, σ0)) : Met l yX10_tell (WS yX10_tell cX10_tell 4 (some .int)) rm10_tell (va_Pc [.ref (G.2.2 + 0), .int x1, .int x2] (Pd G 212 tt σ)) (P_i G 212 tt r0 σ0) 0 0 (Fr G) := by
  refine ct [(0, .ref (G.2.2 + 0)), (1, .int x1), (2, .int x2)] rfl (by decide) (Nat.le_of_ble_eq_true rfl) ?_
  intro p e s m below meth c ls X hr hlk hR hl
  have X : Cx p s m _ c cX10_tell 4 RX10 G := X
  have hx := X.1
  have hb := X.2.1
  unfold f10_tell at hf
  refine lv_aload_n hx hb dX10_tell_0 rfl (lv_at hl 0 rfl) ?_
  refine lv_iload_n hx hb dX10_tell_1 rfl (lv_at hl 1 rfl) ?_
  obtain ⟨r_1, σ_2, hc_3, hf⟩ := z_b_e hf
  refine go_i hR (mv_run (As := [.int x1]) (rest := []) X hR mv_10_156 kh_0 (kd_lt kh_0 (by decide)) (c10_noWitness l G N hc_3) ⟨rfl, rfl, Nat.le_of_ble_eq_true rfl, Nat.le_of_ble_eq_true rfl⟩ rfl hl.1 rfl (Nat.le_of_ble_eq_true rfl) dX10_tell_2 ⟨Nat.zero_le _, Nat.zero_le _⟩) (fun H locs hR => ?_)
  refine lv_if_ne (tgt := 17) hx hb dX10_tell_5 (by decide) (fun c_4 => ?_) (fun c_4 => ?_)
  · replace hf := z_f c_4 hf
    refine lv_iconst (v := (-1 : Int32)) hx hb dX10_tell_17 (by decide) ?_
    exact e_i X hR hr hlk hf dX10_tell_18
  · replace hf := z_t c_4 hf
    refine lv_aload_n hx hb dX10_tell_8 rfl (lv_at hl 0 rfl) ?_
    refine r_gi X hR fi_10_97 kh_0 dX10_tell_9 ?_
    refine lv_bipush (v := (20 : Int32)) hx hb dX10_tell_12 (by decide) ?_
    refine lv_icmp_lt (tgt := 19) hx hb dX10_tell_14 (by decide) (fun c_5 => ?_) (fun c_5 => ?_)
    · replace hf := z_t c_5 hf
      refine lv_aload_n hx hb dX10_tell_19 rfl (lv_at hl 0 rfl) ?_
      refine r_gi X hR fi_10_97 kh_0 dX10_tell_20 ?_
      refine lv_topi (fun x3_6 ex3_6 => ?_)
      replace hf := z_l_e ex3_6 hf
      refine lv_istore_n (lv' := [(3, .int x3_6), (0, .ref (G.2.2 + 0)), (1, .int x1), (2, .int x2)]) hx hb dX10_tell_23 rfl hl (by decide) rfl (fun ls hl => ?_)
      refine lv_aload_n hx hb dX10_tell_24 rfl (lv_at hl 1 rfl) ?_
      refine r_gs (t := 158) X hR fr_10_90 kh_0 (sx_10_13 kh_0) dX10_tell_25 ?_
      refine lv_iload_n hx hb dX10_tell_28 rfl (lv_at hl 0 rfl) ?_
      refine lv_iload_n hx hb dX10_tell_29 rfl (lv_at hl 2 rfl) ?_
      obtain ⟨hi_7, hf⟩ := z_c_e hf
      refine r_ias X hR ka_158 hi_7 dX10_tell_30 (fun H locs σ_8 eσ_8 hR => ?_)
      replace hf := z_l_e eσ_8 hf
      refine lv_aload_n hx hb dX10_tell_31 rfl (lv_at hl 1 rfl) ?_
      refine lv_iload_n hx hb dX10_tell_32 rfl (lv_at hl 3 rfl) ?_
      refine lv_if_eq (tgt := 47) hx hb dX10_tell_33 (by decide) (fun c_9 => ?_) (fun c_9 => ?_)
      · replace hf := z_t c_9 hf
        refine lv_aload_n hx hb dX10_tell_47 rfl (lv_at hl 1 rfl) ?_
        refine r_gi X hR fi_10_94 kh_0 dX10_tell_48 ?_
        refine lv_iconst (v := (1 : Int32)) hx hb dX10_tell_51 (by decide) ?_
        refine lv_iload_n hx hb dX10_tell_52 rfl (lv_at hl 0 rfl) ?_
        refine lv_ishl hx hb dX10_tell_53 ?_
        refine lv_iconst (v := (-1 : Int32)) hx hb dX10_tell_54 (by decide) ?_
        refine lv_ixor hx hb dX10_tell_55 ?_
        refine lv_iand hx hb dX10_tell_56 ?_
        exact w10_tell_57 X hr hlk N  x3_6 ((gI σ_8 0 14) &&& (((1 : Int32) <<< (x3_6 &&& 31)) ^^^ (-1 : Int32))) σ_8 _ _ _ hf hR (lv_sub hl [1, 0] rfl)
      · replace hf := z_f c_9 hf
        refine lv_aload_n hx hb dX10_tell_36 rfl (lv_at hl 1 rfl) ?_
        refine r_gi X hR fi_10_94 kh_0 dX10_tell_37 ?_
        refine lv_iconst (v := (1 : Int32)) hx hb dX10_tell_40 (by decide) ?_
        refine lv_iload_n hx hb dX10_tell_41 rfl (lv_at hl 0 rfl) ?_
        refine lv_ishl hx hb dX10_tell_42 ?_
        refine lv_ior hx hb dX10_tell_43 ?_
        refine lv_goto (tgt := 57) hx hb dX10_tell_44 (by decide) ?_
        exact w10_tell_57 X hr hlk N  x3_6 ((gI σ_8 0 14) ||| ((1 : Int32) <<< (x3_6 &&& 31))) σ_8 _ _ _ hf hR (lv_sub hl [1, 0] rfl)
    · replace hf := z_f c_5 hf
      refine lv_iconst (v := (-1 : Int32)) hx hb dX10_tell_17 (by decide) ?_
      exact e_i X hR hr hlk hf dX10_tell_18
abbrev rm10_forget : Room := { frames := 0, cells := 0, slots := 0, locals := 0 }
def f10_forget (N : Nat) (σ : Mm) : Option (Int32 × Mm) :=
  z_l ((gI σ 0 15)) fun x1_1 =>
  z_l (sI σ 0 15 (0 : Int32)) fun σ_2 =>
  some (x1_1, σ_2)
set_option maxHeartbeats 4000000 in
set_option maxRecDepth 100000 in
theorem c10_forget (l : Launch) (G : Gp) (N : Nat) {σ σ0 : Mm} {r0 : Int32} (hf : f10_forget N σ = some (r0, σ0)) : Met l yX10_forget (WS yX10_forget cX10_forget 2 (some .int)) rm10_forget (va_Pc [.ref (G.2.2 + 0)] (Pd G 212 tt σ)) (P_i G 212 tt r0 σ0) 0 0 (Fr G) := by
  refine ct [(0, .ref (G.2.2 + 0))] rfl (by decide) (Nat.le_of_ble_eq_true rfl) ?_
  intro p e s m below meth c ls X hr hlk hR hl
  have X : Cx p s m _ c cX10_forget 2 RX10 G := X
  have hx := X.1
  have hb := X.2.1
  unfold f10_forget at hf
  refine lv_aload_n hx hb dX10_forget_0 rfl (lv_at hl 0 rfl) ?_
  refine r_gi X hR fi_10_97 kh_0 dX10_forget_1 ?_
  refine lv_topi (fun x1_1 ex1_1 => ?_)
  replace hf := z_l_e ex1_1 hf
  refine lv_istore_n (lv' := [(1, .int x1_1), (0, .ref (G.2.2 + 0))]) hx hb dX10_forget_4 rfl hl (by decide) rfl (fun ls hl => ?_)
  refine lv_aload_n hx hb dX10_forget_5 rfl (lv_at hl 1 rfl) ?_
  refine lv_iconst (v := (0 : Int32)) hx hb dX10_forget_6 (by decide) ?_
  refine r_pi X hR pi_10_97 kh_0 dX10_forget_7 (fun H locs σ_2 eσ_2 hR => ?_)
  replace hf := z_l_e eσ_2 hf
  refine lv_iload_n hx hb dX10_forget_10 rfl (lv_at hl 0 rfl) ?_
  exact e_i X hR hr hlk hf dX10_forget_11
abbrev rm10_leftBy : Room := { frames := 4, cells := 0, slots := 0, locals := 105 }
def f10_leftBy_68 (N : Nat) (k14 : Int32 → Int32 → Mm → Option (Int32 × Mm)) (x1 : Int32) (x3 : Int32) (s0 : Int32) (s1 : Int32) (σ : Mm) : Option (Int32 × Mm) :=
  z_l ((s0 &&& s1)) fun x2_9 =>
  z_l (x3 + (1 : Int32)) fun x3_10 =>
  k14 x2_9 x3_10 σ
def f10_leftBy_14 (N : Nat) (x1 : Int32) : Nat → Int32 → Int32 → Mm → Option (Int32 × Mm)
  | 0, _, _, _ => none
  | fu + 1, x2, x3, σ => if x1 ≤ x3 then (
  some (x2, σ)) else (
  if (20 : Int32) ≤ x3 then (
  some (x2, σ)) else (
  z_c (inB x3 20) (
  z_b (f0_swornToBy N 56 (gI σ 158 (ix x3)) σ) fun r_5 σ_6 =>
  if (((gI σ_6 0 14) >>> (x3 &&& 31)) &&& (1 : Int32)) = 0 then (
  f10_leftBy_68 N (fun x2 x3 σ => f10_leftBy_14 N x1 fu x2 x3 σ) x1 x3 x2 (r_5 ^^^ (-1 : Int32)) σ_6) else (
  f10_leftBy_68 N (fun x2 x3 σ => f10_leftBy_14 N x1 fu x2 x3 σ) x1 x3 x2 r_5 σ_6))))
def f10_leftBy (N : Nat) (x1 : Int32) (σ : Mm) : Option (Int32 × Mm) :=
  z_l ((((1 : Int32) <<< ((gI σ 56 3) &&& 31)) - (1 : Int32))) fun x2_1 =>
  f10_leftBy_14 N x1 N x2_1 (0 : Int32) σ
set_option maxHeartbeats 4000000 in
set_option maxRecDepth 100000 in
theorem w10_leftBy_68 (X : Cx p s m args c cX10_leftBy 5 RX10 G) (hr : meth.sig.returnType = some .int) (hlk : meth.locks = false) (N : Nat) {x1 : Int32} {k14 : Int32 → Int32 → Mm → Option (Int32 × Mm)} (hk14 : ∀ (x2 : Int32) (x3 : Int32) (σ : Mm) (H : Heap) (locs : List Loc) (ls : Array Slot), k14 x2 x3 σ = some (r0, σ0) → Rp G 212 tt σ s H locs → lv_has ls 5 [(0, .ref (G.2.2 + 0)), (1, .int x1), (2, .int x2), (3, .int x3)] → W p l e rm10_leftBy s m args below meth c H locs 0 0 (MQ below (P_i G 212 tt r0 σ0) args s 0 0 (Fr G)) (F0 m 14 ls [])) :
    ∀ (x3 : Int32) (s0 : Int32) (s1 : Int32) (σ : Mm) (H : Heap) (locs : List Loc) (ls : Array Slot), f10_leftBy_68 N k14 x1 x3 s0 s1 σ = some (r0, σ0) → Rp G 212 tt σ s H locs → lv_has ls 5 [(0, .ref (G.2.2 + 0)), (1, .int x1), (3, .int x3)] → W p l e rm10_leftBy s m args below meth c H locs 0 0 (MQ below (P_i G 212 tt r0 σ0) args s 0 0 (Fr G)) (F0 m 68 ls [.int s1, .int s0]) := by
  have hx := X.1
  have hb := X.2.1
  intro x3 s0 s1 σ H locs ls hf hR hl
  unfold f10_leftBy_68 at hf
  refine lv_iand hx hb dX10_leftBy_68 ?_
  refine lv_topi (fun x2_9 ex2_9 => ?_)
  replace hf := z_l_e ex2_9 hf
  refine lv_istore_n (lv' := [(2, .int x2_9), (0, .ref (G.2.2 + 0)), (1, .int x1), (3, .int x3)]) hx hb dX10_leftBy_69 rfl hl (by decide) rfl (fun ls hl => ?_)
  obtain ⟨x3_10, ex3_10⟩ : ∃ z : Int32, z = x3 + (1 : Int32) := ⟨_, rfl⟩
  replace hf := z_l_e ex3_10 hf
  refine lv_iinc (v := x3_10) (lv' := [(3, .int x3_10), (2, .int x2_9), (0, .ref (G.2.2 + 0)), (1, .int x1)]) hx hb dX10_leftBy_70 hl (k := 3) rfl (by rw [ex3_10]; rfl) (by decide) rfl (fun ls hl => ?_)
  refine lv_goto (tgt := 14) hx hb dX10_leftBy_73 (by decide) ?_
  exact hk14 x2_9 x3_10 σ _ _ _ hf hR (lv_sub hl [2, 3, 1, 0] rfl)
set_option maxHeartbeats 4000000 in
set_option maxRecDepth 100000 in
theorem w10_leftBy_14 (X : Cx p s m args c cX10_leftBy 5 RX10 G) (hr : meth.sig.returnType = some .int) (hlk : meth.locks = false) (N : Nat) {x1 : Int32} :
    ∀ (fu : Nat) (x2 : Int32) (x3 : Int32) (σ : Mm) (H : Heap) (locs : List Loc) (ls : Array Slot), f10_leftBy_14 N x1 fu x2 x3 σ = some (r0, σ0) → Rp G 212 tt σ s H locs → lv_has ls 5 [(0, .ref (G.2.2 + 0)), (1, .int x1), (2, .int x2), (3, .int x3)] → W p l e rm10_leftBy s m args below meth c H locs 0 0 (MQ below (P_i G 212 tt r0 σ0) args s 0 0 (Fr G)) (F0 m 14 ls []) := by
  have hx := X.1
  have hb := X.2.1
  intro fu
  induction fu with
  | zero =>
    intro x2 x3 σ H locs ls hf hR hl
    rw [f10_leftBy_14] at hf
    cases hf
  | succ fu ih =>
    intro x2 x3 σ H locs ls hf hR hl
    rw [f10_leftBy_14] at hf
    refine lv_iload_n hx hb dX10_leftBy_14 rfl (lv_at hl 3 rfl) ?_
    refine lv_iload_n hx hb dX10_leftBy_15 rfl (lv_at hl 1 rfl) ?_
    refine lv_icmp_ge (tgt := 76) hx hb dX10_leftBy_16 (by decide) (fun c_2 => ?_) (fun c_2 => ?_)
    · replace hf := z_t c_2 hf
      refine lv_iload_n hx hb dX10_leftBy_76 rfl (lv_at hl 2 rfl) ?_
      exact e_i X hR hr hlk hf dX10_leftBy_77
    · replace hf := z_f c_2 hf
      refine lv_iload_n hx hb dX10_leftBy_19 rfl (lv_at hl 3 rfl) ?_
      refine lv_aload_n hx hb dX10_leftBy_20 rfl (lv_at hl 0 rfl) ?_
      refine r_gs (t := 158) X hR fr_10_90 kh_0 (sx_10_13 kh_0) dX10_leftBy_21 ?_
      refine r_len (v := (20 : Int32)) X hR ka_158 (by decide) rfl dX10_leftBy_24 ?_
      refine lv_icmp_ge (tgt := 76) hx hb dX10_leftBy_25 (by decide) (fun c_3 => ?_) (fun c_3 => ?_)
      · replace hf := z_t c_3 hf
        refine lv_iload_n hx hb dX10_leftBy_76 rfl (lv_at hl 2 rfl) ?_
        exact e_i X hR hr hlk hf dX10_leftBy_77
      · replace hf := z_f c_3 hf
        refine lv_aload_n hx hb dX10_leftBy_28 rfl (lv_at hl 0 rfl) ?_
        refine r_gs (t := 60) X hR fr_10_72 kh_0 (sx_10_10 kh_0) dX10_leftBy_29 ?_
        refine lv_aload_n hx hb dX10_leftBy_32 rfl (lv_at hl 0 rfl) ?_
        refine r_gs (t := 56) X hR fr_10_60 kh_0 (sx_10_8 kh_0) dX10_leftBy_33 ?_
        refine lv_aload_n hx hb dX10_leftBy_36 rfl (lv_at hl 0 rfl) ?_
        refine r_gs (t := 158) X hR fr_10_90 kh_0 (sx_10_13 kh_0) dX10_leftBy_37 ?_
        refine lv_iload_n hx hb dX10_leftBy_40 rfl (lv_at hl 3 rfl) ?_
        obtain ⟨hi_4, hf⟩ := z_c_e hf
        refine r_ial X hR ka_158 hi_4 dX10_leftBy_41 ?_
        obtain ⟨r_5, σ_6, hc_7, hf⟩ := z_b_e hf
        refine go_i hR (mv_run (As := [.ref (G.2.2 + 56), .int (gI σ 158 (ix x3))]) (rest := []) X hR mv_10_168 kh_60 (kd_lt kh_60 (by decide)) (c0_swornToBy l G N kh_56 hc_7) ⟨rfl, rfl, Nat.le_of_ble_eq_true rfl, Nat.le_of_ble_eq_true rfl⟩ rfl hl.1 rfl (Nat.le_of_ble_eq_true rfl) dX10_leftBy_42 ⟨Nat.zero_le _, Nat.zero_le _⟩) (fun H locs hR => ?_)
        refine lv_istore (lv' := [(4, .int r_5), (0, .ref (G.2.2 + 0)), (1, .int x1), (2, .int x2), (3, .int x3)]) hx hb dX10_leftBy_45 hl (by decide) rfl (fun ls hl => ?_)
        refine lv_iload_n hx hb dX10_leftBy_47 rfl (lv_at hl 3 rfl) ?_
        refine lv_aload_n hx hb dX10_leftBy_48 rfl (lv_at hl 1 rfl) ?_
        refine r_gi X hR fi_10_94 kh_0 dX10_leftBy_49 ?_
        refine lv_iload_n hx hb dX10_leftBy_52 rfl (lv_at hl 4 rfl) ?_
        refine lv_ishr hx hb dX10_leftBy_53 ?_
        refine lv_iconst (v := (1 : Int32)) hx hb dX10_leftBy_54 (by decide) ?_
        refine lv_iand hx hb dX10_leftBy_55 ?_
        refine lv_if_eq (tgt := 64) hx hb dX10_leftBy_56 (by decide) (fun c_8 => ?_) (fun c_8 => ?_)
        · replace hf := z_t c_8 hf
          refine lv_iload hx hb dX10_leftBy_64 (lv_at hl 0 rfl) ?_
          refine lv_iconst (v := (-1 : Int32)) hx hb dX10_leftBy_66 (by decide) ?_
          refine lv_ixor hx hb dX10_leftBy_67 ?_
          exact w10_leftBy_68 X hr hlk N ih x3 x2 (r_5 ^^^ (-1 : Int32)) σ_6 _ _ _ hf hR (lv_sub hl [1, 2, 4] rfl)
        · replace hf := z_f c_8 hf
          refine lv_iload hx hb dX10_leftBy_59 (lv_at hl 0 rfl) ?_
          refine lv_goto (tgt := 68) hx hb dX10_leftBy_61 (by decide) ?_
          exact w10_leftBy_68 X hr hlk N ih x3 x2 r_5 σ_6 _ _ _ hf hR (lv_sub hl [1, 2, 4] rfl)
set_option maxHeartbeats 4000000 in
set_option maxRecDepth 100000 in
theorem c10_leftBy (l : Launch) (G : Gp) (N : Nat) {x1 : Int32} {σ σ0 : Mm} {r0 : Int32} (hf : f10_leftBy N x1 σ = some (r0, σ0)) : Met l yX10_leftBy (WS yX10_leftBy cX10_leftBy 5 (some .int)) rm10_leftBy (va_Pc [.ref (G.2.2 + 0), .int x1] (Pd G 212 tt σ)) (P_i G 212 tt r0 σ0) 0 0 (Fr G) := by
  refine ct [(0, .ref (G.2.2 + 0)), (1, .int x1)] rfl (by decide) (Nat.le_of_ble_eq_true rfl) ?_
  intro p e s m below meth c ls X hr hlk hR hl
  have X : Cx p s m _ c cX10_leftBy 5 RX10 G := X
  have hx := X.1
  have hb := X.2.1
  unfold f10_leftBy at hf
  refine lv_iconst (v := (1 : Int32)) hx hb dX10_leftBy_0 (by decide) ?_
  refine lv_aload_n hx hb dX10_leftBy_1 rfl (lv_at hl 0 rfl) ?_
  refine r_gs (t := 56) X hR fr_10_60 kh_0 (sx_10_8 kh_0) dX10_leftBy_2 ?_
  refine r_gi X hR fi_10_212 kh_56 dX10_leftBy_5 ?_
  refine lv_ishl hx hb dX10_leftBy_8 ?_
  refine lv_iconst (v := (1 : Int32)) hx hb dX10_leftBy_9 (by decide) ?_
  refine lv_isub hx hb dX10_leftBy_10 ?_
  refine lv_topi (fun x2_1 ex2_1 => ?_)
  replace hf := z_l_e ex2_1 hf
  refine lv_istore_n (lv' := [(2, .int x2_1), (0, .ref (G.2.2 + 0)), (1, .int x1)]) hx hb dX10_leftBy_11 rfl hl (by decide) rfl (fun ls hl => ?_)
  refine lv_iconst (v := (0 : Int32)) hx hb dX10_leftBy_12 (by decide) ?_
  refine lv_istore_n (lv' := [(3, .int (0 : Int32)), (2, .int x2_1), (0, .ref (G.2.2 + 0)), (1, .int x1)]) hx hb dX10_leftBy_13 rfl hl (by decide) rfl (fun ls hl => ?_)
  exact w10_leftBy_14 X hr hlk N  N x2_1 (0 : Int32) σ _ _ _ hf hR (lv_sub hl [2, 3, 1, 0] rfl)
abbrev rm10_which : Room := { frames := 5, cells := 0, slots := 0, locals := 129 }
def f10_which_23 (N : Nat) (x1 : Int32) (x2 : Int32) (σ : Mm) : Option (Int32 × Mm) :=
  z_b (f10_leftBy N x1 σ) fun r_4 σ_5 =>
  if x2 = 0 then (
  some ((bitC r_4), σ_5)) else (
  some (r_4, σ_5))
def f10_which (N : Nat) (x1 : Int32) (x2 : Int32) (σ : Mm) : Option (Int32 × Mm) :=
  if x1 < 0 then (
  some ((-1 : Int32), σ)) else (
  if (gI σ 0 15) < x1 then (
  some ((-1 : Int32), σ)) else (
  if x2 = 0 then (
  f10_which_23 N x1 x2 σ) else (
  if x2 = (1 : Int32) then (
  f10_which_23 N x1 x2 σ) else (
  some ((-1 : Int32), σ)))))
set_option maxHeartbeats 4000000 in
set_option maxRecDepth 100000 in
theorem w10_which_23 (X : Cx p s m args c cX10_which 4 RX10 G) (hr : meth.sig.returnType = some .int) (hlk : meth.locks = false) (N : Nat) :
    ∀ (x1 : Int32) (x2 : Int32) (σ : Mm) (H : Heap) (locs : List Loc) (ls : Array Slot), f10_which_23 N x1 x2 σ = some (r0, σ0) → Rp G 212 tt σ s H locs → lv_has ls 4 [(0, .ref (G.2.2 + 0)), (1, .int x1), (2, .int x2)] → W p l e rm10_which s m args below meth c H locs 0 0 (MQ below (P_i G 212 tt r0 σ0) args s 0 0 (Fr G)) (F0 m 23 ls []) := by
  have hx := X.1
  have hb := X.2.1
  intro x1 x2 σ H locs ls hf hR hl
  unfold f10_which_23 at hf
  refine lv_aload_n hx hb dX10_which_23 rfl (lv_at hl 0 rfl) ?_
  refine lv_iload_n hx hb dX10_which_24 rfl (lv_at hl 1 rfl) ?_
  obtain ⟨r_4, σ_5, hc_6, hf⟩ := z_b_e hf
  refine go_i hR (mv_run (As := [.int x1]) (rest := []) X hR mv_10_309 kh_0 (kd_lt kh_0 (by decide)) (c10_leftBy l G N hc_6) ⟨rfl, rfl, Nat.le_of_ble_eq_true rfl, Nat.le_of_ble_eq_true rfl⟩ rfl hl.1 rfl (Nat.le_of_ble_eq_true rfl) dX10_which_25 ⟨Nat.zero_le _, Nat.zero_le _⟩) (fun H locs hR => ?_)
  refine lv_istore_n (lv' := [(3, .int r_4), (0, .ref (G.2.2 + 0)), (1, .int x1), (2, .int x2)]) hx hb dX10_which_28 rfl hl (by decide) rfl (fun ls hl => ?_)
  refine lv_iload_n hx hb dX10_which_29 rfl (lv_at hl 3 rfl) ?_
  refine lv_if_ne (tgt := 40) hx hb dX10_which_30 (by decide) (fun c_7 => ?_) (fun c_7 => ?_)
  · replace hf := z_f c_7 hf
    refine lv_iload_n hx hb dX10_which_40 rfl (lv_at hl 0 rfl) ?_
    exact e_i X hR hr hlk hf dX10_which_41
  · replace hf := z_t c_7 hf
    refine lv_iload_n hx hb dX10_which_33 rfl (lv_at hl 0 rfl) ?_
    refine go_i hR (ms_run (As := [.int r_4]) (rest := []) X hR jms_10_150 (cJ_bitC l G) ⟨rfl, rfl, Nat.le_of_ble_eq_true rfl, Nat.le_of_ble_eq_true rfl⟩ rfl hl.1 rfl (Nat.le_of_ble_eq_true rfl) dX10_which_34 ⟨Nat.zero_le _, Nat.zero_le _⟩) (fun H locs hR => ?_)
    refine lv_goto (tgt := 41) hx hb dX10_which_37 (by decide) ?_
    exact e_i X hR hr hlk hf dX10_which_41
set_option maxHeartbeats 4000000 in
set_option maxRecDepth 100000 in
theorem c10_which (l : Launch) (G : Gp) (N : Nat) {x1 : Int32} {x2 : Int32} {σ σ0 : Mm} {r0 : Int32} (hf : f10_which N x1 x2 σ = some (r0, σ0)) : Met l yX10_which (WS yX10_which cX10_which 4 (some .int)) rm10_which (va_Pc [.ref (G.2.2 + 0), .int x1, .int x2] (Pd G 212 tt σ)) (P_i G 212 tt r0 σ0) 0 0 (Fr G) := by
  refine ct [(0, .ref (G.2.2 + 0)), (1, .int x1), (2, .int x2)] rfl (by decide) (Nat.le_of_ble_eq_true rfl) ?_
  intro p e s m below meth c ls X hr hlk hR hl
  have X : Cx p s m _ c cX10_which 4 RX10 G := X
  have hx := X.1
  have hb := X.2.1
  unfold f10_which at hf
  refine lv_iload_n hx hb dX10_which_0 rfl (lv_at hl 1 rfl) ?_
  refine lv_if_lt (tgt := 21) hx hb dX10_which_1 (by decide) (fun c_1 => ?_) (fun c_1 => ?_)
  · replace hf := z_t c_1 hf
    refine lv_iconst (v := (-1 : Int32)) hx hb dX10_which_21 (by decide) ?_
    exact e_i X hR hr hlk hf dX10_which_22
  · replace hf := z_f c_1 hf
    refine lv_iload_n hx hb dX10_which_4 rfl (lv_at hl 1 rfl) ?_
    refine lv_aload_n hx hb dX10_which_5 rfl (lv_at hl 0 rfl) ?_
    refine r_gi X hR fi_10_97 kh_0 dX10_which_6 ?_
    refine lv_icmp_gt (tgt := 21) hx hb dX10_which_9 (by decide) (fun c_2 => ?_) (fun c_2 => ?_)
    · replace hf := z_t c_2 hf
      refine lv_iconst (v := (-1 : Int32)) hx hb dX10_which_21 (by decide) ?_
      exact e_i X hR hr hlk hf dX10_which_22
    · replace hf := z_f c_2 hf
      refine lv_iload_n hx hb dX10_which_12 rfl (lv_at hl 2 rfl) ?_
      refine lv_if_eq (tgt := 23) hx hb dX10_which_13 (by decide) (fun c_3 => ?_) (fun c_3 => ?_)
      · replace hf := z_t c_3 hf
        exact w10_which_23 X hr hlk N  x1 x2 σ _ _ _ hf hR (lv_sub hl [0, 1, 2] rfl)
      · replace hf := z_f c_3 hf
        refine lv_iload_n hx hb dX10_which_16 rfl (lv_at hl 2 rfl) ?_
        refine lv_iconst (v := (1 : Int32)) hx hb dX10_which_17 (by decide) ?_
        refine lv_icmp_eq (tgt := 23) hx hb dX10_which_18 (by decide) (fun c_8 => ?_) (fun c_8 => ?_)
        · replace hf := z_t c_8 hf
          exact w10_which_23 X hr hlk N  x1 x2 σ _ _ _ hf hR (lv_sub hl [0, 1, 2] rfl)
        · replace hf := z_f c_8 hf
          refine lv_iconst (v := (-1 : Int32)) hx hb dX10_which_21 (by decide) ?_
          exact e_i X hR hr hlk hf dX10_which_22
abbrev rm10_ask : Room := { frames := 5, cells := 0, slots := 0, locals := 129 }
def f10_ask_97 (N : Nat) (k37 : Int32 → Int32 → Int32 → Mm → Option (Int32 × Mm)) (x2 : Int32) (x3 : Int32) (x4 : Int32) (x5 : Int32) (σ : Mm) : Option (Int32 × Mm) :=
  z_l (x5 + (1 : Int32)) fun x5_16 =>
  k37 x3 x4 x5_16 σ
def f10_ask_37 (N : Nat) (x2 : Int32) : Nat → Int32 → Int32 → Int32 → Mm → Option (Int32 × Mm)
  | 0, _, _, _, _ => none
  | fu + 1, x3, x4, x5, σ => z_r (gR σ 0 3) 3 fun t_7 =>
  if (gI σ t_7 2) ≤ x5 then (
  some (x3, σ)) else (
  z_b (f0_swornToBy N 56 x5 σ) fun r_10 σ_11 =>
  z_l ((bitC (x2 &&& r_10))) fun x6_13 =>
  z_l ((mxI x6_13 ((bitC x2) - x6_13))) fun x7_14 =>
  if x4 ≤ x7_14 then (
  f10_ask_97 N (fun x3 x4 x5 σ => f10_ask_37 N x2 fu x3 x4 x5 σ) x2 x3 x4 x5 σ_11) else (
  f10_ask_97 N (fun x3 x4 x5 σ => f10_ask_37 N x2 fu x3 x4 x5 σ) x2 x5 x7_14 x5 σ_11))
def f10_ask (N : Nat) (x1 : Int32) (σ : Mm) : Option (Int32 × Mm) :=
  if x1 < 0 then (
  some ((-1 : Int32), σ)) else (
  if x1 ≤ (gI σ 0 15) then (
  z_b (f10_leftBy N x1 σ) fun r_3 σ_4 =>
  if r_3 = 0 then (
  some ((-2 : Int32), σ_4)) else (
  f10_ask_37 N r_3 N (-2 : Int32) (21 : Int32) (0 : Int32) σ_4)) else (
  some ((-1 : Int32), σ)))
set_option maxHeartbeats 4000000 in
set_option maxRecDepth 100000 in
theorem w10_ask_97 (X : Cx p s m args c cX10_ask 8 RX10 G) (hr : meth.sig.returnType = some .int) (hlk : meth.locks = false) (N : Nat) {x2 : Int32} {k37 : Int32 → Int32 → Int32 → Mm → Option (Int32 × Mm)} (hk37 : ∀ (x3 : Int32) (x4 : Int32) (x5 : Int32) (σ : Mm) (H : Heap) (locs : List Loc) (ls : Array Slot), k37 x3 x4 x5 σ = some (r0, σ0) → Rp G 212 tt σ s H locs → lv_has ls 8 [(0, .ref (G.2.2 + 0)), (2, .int x2), (3, .int x3), (4, .int x4), (5, .int x5)] → W p l e rm10_ask s m args below meth c H locs 0 0 (MQ below (P_i G 212 tt r0 σ0) args s 0 0 (Fr G)) (F0 m 37 ls [])) :
    ∀ (x3 : Int32) (x4 : Int32) (x5 : Int32) (σ : Mm) (H : Heap) (locs : List Loc) (ls : Array Slot), f10_ask_97 N k37 x2 x3 x4 x5 σ = some (r0, σ0) → Rp G 212 tt σ s H locs → lv_has ls 8 [(0, .ref (G.2.2 + 0)), (2, .int x2), (3, .int x3), (4, .int x4), (5, .int x5)] → W p l e rm10_ask s m args below meth c H locs 0 0 (MQ below (P_i G 212 tt r0 σ0) args s 0 0 (Fr G)) (F0 m 97 ls []) := by
  have hx := X.1
  have hb := X.2.1
  intro x3 x4 x5 σ H locs ls hf hR hl
  unfold f10_ask_97 at hf
  obtain ⟨x5_16, ex5_16⟩ : ∃ z : Int32, z = x5 + (1 : Int32) := ⟨_, rfl⟩
  replace hf := z_l_e ex5_16 hf
  refine lv_iinc (v := x5_16) (lv' := [(5, .int x5_16), (0, .ref (G.2.2 + 0)), (2, .int x2), (3, .int x3), (4, .int x4)]) hx hb dX10_ask_97 hl (k := 4) rfl (by rw [ex5_16]; rfl) (by decide) rfl (fun ls hl => ?_)
  refine lv_goto (tgt := 37) hx hb dX10_ask_100 (by decide) ?_
  exact hk37 x3 x4 x5_16 σ _ _ _ hf hR (lv_sub hl [1, 2, 3, 4, 0] rfl)
set_option maxHeartbeats 4000000 in
set_option maxRecDepth 100000 in
theorem w10_ask_37 (X : Cx p s m args c cX10_ask 8 RX10 G) (hr : meth.sig.returnType = some .int) (hlk : meth.locks = false) (N : Nat) {x2 : Int32} :
    ∀ (fu : Nat) (x3 : Int32) (x4 : Int32) (x5 : Int32) (σ : Mm) (H : Heap) (locs : List Loc) (ls : Array Slot), f10_ask_37 N x2 fu x3 x4 x5 σ = some (r0, σ0) → Rp G 212 tt σ s H locs → lv_has ls 8 [(0, .ref (G.2.2 + 0)), (2, .int x2), (3, .int x3), (4, .int x4), (5, .int x5)] → W p l e rm10_ask s m args below meth c H locs 0 0 (MQ below (P_i G 212 tt r0 σ0) args s 0 0 (Fr G)) (F0 m 37 ls []) := by
  have hx := X.1
  have hb := X.2.1
  intro fu
  induction fu with
  | zero =>
    intro x3 x4 x5 σ H locs ls hf hR hl
    rw [f10_ask_37] at hf
    cases hf
  | succ fu ih =>
    intro x3 x4 x5 σ H locs ls hf hR hl
    rw [f10_ask_37] at hf
    refine lv_iload hx hb dX10_ask_37 (lv_at hl 4 rfl) ?_
    refine lv_aload_n hx hb dX10_ask_39 rfl (lv_at hl 0 rfl) ?_
    obtain ⟨t_7, ht_8, kht_8, hf⟩ := z_r_e hf
    refine r_gd X hR fr_10_27 kh_0 ht_8 dX10_ask_40 ?_
    refine r_gi X hR fi_10_209 kht_8 dX10_ask_43 ?_
    refine lv_icmp_ge (tgt := 103) hx hb dX10_ask_46 (by decide) (fun c_9 => ?_) (fun c_9 => ?_)
    · replace hf := z_t c_9 hf
      refine lv_iload_n hx hb dX10_ask_103 rfl (lv_at hl 2 rfl) ?_
      exact e_i X hR hr hlk hf dX10_ask_104
    · replace hf := z_f c_9 hf
      refine lv_iload_n hx hb dX10_ask_49 rfl (lv_at hl 1 rfl) ?_
      refine lv_aload_n hx hb dX10_ask_50 rfl (lv_at hl 0 rfl) ?_
      refine r_gs (t := 60) X hR fr_10_72 kh_0 (sx_10_10 kh_0) dX10_ask_51 ?_
      refine lv_aload_n hx hb dX10_ask_54 rfl (lv_at hl 0 rfl) ?_
      refine r_gs (t := 56) X hR fr_10_60 kh_0 (sx_10_8 kh_0) dX10_ask_55 ?_
      refine lv_iload hx hb dX10_ask_58 (lv_at hl 4 rfl) ?_
      obtain ⟨r_10, σ_11, hc_12, hf⟩ := z_b_e hf
      refine go_i hR (mv_run (As := [.ref (G.2.2 + 56), .int x5]) (rest := [.int x2]) X hR mv_10_168 kh_60 (kd_lt kh_60 (by decide)) (c0_swornToBy l G N kh_56 hc_12) ⟨rfl, rfl, Nat.le_of_ble_eq_true rfl, Nat.le_of_ble_eq_true rfl⟩ rfl hl.1 rfl (Nat.le_of_ble_eq_true rfl) dX10_ask_60 ⟨Nat.zero_le _, Nat.zero_le _⟩) (fun H locs hR => ?_)
      refine lv_iand hx hb dX10_ask_63 ?_
      refine go_i hR (ms_run (As := [.int (x2 &&& r_10)]) (rest := []) X hR jms_10_150 (cJ_bitC l G) ⟨rfl, rfl, Nat.le_of_ble_eq_true rfl, Nat.le_of_ble_eq_true rfl⟩ rfl hl.1 rfl (Nat.le_of_ble_eq_true rfl) dX10_ask_64 ⟨Nat.zero_le _, Nat.zero_le _⟩) (fun H locs hR => ?_)
      refine lv_topi (fun x6_13 ex6_13 => ?_)
      replace hf := z_l_e ex6_13 hf
      refine lv_istore (lv' := [(6, .int x6_13), (0, .ref (G.2.2 + 0)), (2, .int x2), (3, .int x3), (4, .int x4), (5, .int x5)]) hx hb dX10_ask_67 hl (by decide) rfl (fun ls hl => ?_)
      refine lv_iload hx hb dX10_ask_69 (lv_at hl 0 rfl) ?_
      refine lv_iload_n hx hb dX10_ask_71 rfl (lv_at hl 2 rfl) ?_
      refine go_i hR (ms_run (As := [.int x2]) (rest := [.int x6_13]) X hR jms_10_150 (cJ_bitC l G) ⟨rfl, rfl, Nat.le_of_ble_eq_true rfl, Nat.le_of_ble_eq_true rfl⟩ rfl hl.1 rfl (Nat.le_of_ble_eq_true rfl) dX10_ask_72 ⟨Nat.zero_le _, Nat.zero_le _⟩) (fun H locs hR => ?_)
      refine lv_iload hx hb dX10_ask_75 (lv_at hl 0 rfl) ?_
      refine lv_isub hx hb dX10_ask_77 ?_
      refine va_mmax hx hb (X.2.2.1.trans hl.1.symm) X.2.2.2.1 (X.2.2.2.2.1 _ jl_10_312) (X.2.2.2.2.1 _ jm_max_s) (X.2.2.2.2.1 _ jm_ini) (X.2.2.2.2.1 _ jm_max_c) (Nat.le_of_ble_eq_true rfl) (Nat.le_of_ble_eq_true rfl) (Nat.zero_le _) (Nat.zero_le _) dX10_ask_78 ?_
      refine lv_topi (fun x7_14 ex7_14 => ?_)
      replace hf := z_l_e ex7_14 hf
      refine lv_istore (lv' := [(7, .int x7_14), (6, .int x6_13), (0, .ref (G.2.2 + 0)), (2, .int x2), (3, .int x3), (4, .int x4), (5, .int x5)]) hx hb dX10_ask_81 hl (by decide) rfl (fun ls hl => ?_)
      refine lv_iload hx hb dX10_ask_83 (lv_at hl 0 rfl) ?_
      refine lv_iload hx hb dX10_ask_85 (lv_at hl 5 rfl) ?_
      refine lv_icmp_ge (tgt := 97) hx hb dX10_ask_87 (by decide) (fun c_15 => ?_) (fun c_15 => ?_)
      · replace hf := z_t c_15 hf
        exact w10_ask_97 X hr hlk N ih x3 x4 x5 σ_11 _ _ _ hf hR (lv_sub hl [2, 3, 4, 5, 6] rfl)
      · replace hf := z_f c_15 hf
        refine lv_iload hx hb dX10_ask_90 (lv_at hl 0 rfl) ?_
        refine lv_istore (lv' := [(4, .int x7_14), (7, .int x7_14), (6, .int x6_13), (0, .ref (G.2.2 + 0)), (2, .int x2), (3, .int x3), (5, .int x5)]) hx hb dX10_ask_92 hl (by decide) rfl (fun ls hl => ?_)
        refine lv_iload hx hb dX10_ask_94 (lv_at hl 6 rfl) ?_
        refine lv_istore_n (lv' := [(3, .int x5), (4, .int x7_14), (7, .int x7_14), (6, .int x6_13), (0, .ref (G.2.2 + 0)), (2, .int x2), (5, .int x5)]) hx hb dX10_ask_96 rfl hl (by decide) rfl (fun ls hl => ?_)
        exact w10_ask_97 X hr hlk N ih x5 x7_14 x5 σ_11 _ _ _ hf hR (lv_sub hl [4, 5, 0, 1, 6] rfl)
set_option maxHeartbeats 4000000 in
set_option maxRecDepth 100000 in
theorem c10_ask (l : Launch) (G : Gp) (N : Nat) {x1 : Int32} {σ σ0 : Mm} {r0 : Int32} (hf : f10_ask N x1 σ = some (r0, σ0)) : Met l yX10_ask (WS yX10_ask cX10_ask 8 (some .int)) rm10_ask (va_Pc [.ref (G.2.2 + 0), .int x1] (Pd G 212 tt σ)) (P_i G 212 tt r0 σ0) 0 0 (Fr G) := by
  refine ct [(0, .ref (G.2.2 + 0)), (1, .int x1)] rfl (by decide) (Nat.le_of_ble_eq_true rfl) ?_
  intro p e s m below meth c ls X hr hlk hR hl
  have X : Cx p s m _ c cX10_ask 8 RX10 G := X
  have hx := X.1
  have hb := X.2.1
  unfold f10_ask at hf
  refine lv_iload_n hx hb dX10_ask_0 rfl (lv_at hl 1 rfl) ?_
  refine lv_if_lt (tgt := 12) hx hb dX10_ask_1 (by decide) (fun c_1 => ?_) (fun c_1 => ?_)
  · replace hf := z_t c_1 hf
    refine lv_iconst (v := (-1 : Int32)) hx hb dX10_ask_12 (by decide) ?_
    exact e_i X hR hr hlk hf dX10_ask_13
  · replace hf := z_f c_1 hf
    refine lv_iload_n hx hb dX10_ask_4 rfl (lv_at hl 1 rfl) ?_
    refine lv_aload_n hx hb dX10_ask_5 rfl (lv_at hl 0 rfl) ?_
    refine r_gi X hR fi_10_97 kh_0 dX10_ask_6 ?_
    refine lv_icmp_le (tgt := 14) hx hb dX10_ask_9 (by decide) (fun c_2 => ?_) (fun c_2 => ?_)
    · replace hf := z_t c_2 hf
      refine lv_aload_n hx hb dX10_ask_14 rfl (lv_at hl 0 rfl) ?_
      refine lv_iload_n hx hb dX10_ask_15 rfl (lv_at hl 1 rfl) ?_
      obtain ⟨r_3, σ_4, hc_5, hf⟩ := z_b_e hf
      refine go_i hR (mv_run (As := [.int x1]) (rest := []) X hR mv_10_309 kh_0 (kd_lt kh_0 (by decide)) (c10_leftBy l G N hc_5) ⟨rfl, rfl, Nat.le_of_ble_eq_true rfl, Nat.le_of_ble_eq_true rfl⟩ rfl hl.1 rfl (Nat.le_of_ble_eq_true rfl) dX10_ask_16 ⟨Nat.zero_le _, Nat.zero_le _⟩) (fun H locs hR => ?_)
      refine lv_istore_n (lv' := [(2, .int r_3), (0, .ref (G.2.2 + 0)), (1, .int x1)]) hx hb dX10_ask_19 rfl hl (by decide) rfl (fun ls hl => ?_)
      refine lv_iload_n hx hb dX10_ask_20 rfl (lv_at hl 0 rfl) ?_
      refine lv_if_ne (tgt := 27) hx hb dX10_ask_21 (by decide) (fun c_6 => ?_) (fun c_6 => ?_)
      · replace hf := z_f c_6 hf
        refine lv_bipush (v := (-2 : Int32)) hx hb dX10_ask_27 (by decide) ?_
        refine lv_istore_n (lv' := [(3, .int (-2 : Int32)), (2, .int r_3), (0, .ref (G.2.2 + 0)), (1, .int x1)]) hx hb dX10_ask_29 rfl hl (by decide) rfl (fun ls hl => ?_)
        refine lv_bipush (v := (21 : Int32)) hx hb dX10_ask_30 (by decide) ?_
        refine lv_istore (lv' := [(4, .int (21 : Int32)), (3, .int (-2 : Int32)), (2, .int r_3), (0, .ref (G.2.2 + 0)), (1, .int x1)]) hx hb dX10_ask_32 hl (by decide) rfl (fun ls hl => ?_)
        refine lv_iconst (v := (0 : Int32)) hx hb dX10_ask_34 (by decide) ?_
        refine lv_istore (lv' := [(5, .int (0 : Int32)), (4, .int (21 : Int32)), (3, .int (-2 : Int32)), (2, .int r_3), (0, .ref (G.2.2 + 0)), (1, .int x1)]) hx hb dX10_ask_35 hl (by decide) rfl (fun ls hl => ?_)
        exact w10_ask_37 X hr hlk N  N (-2 : Int32) (21 : Int32) (0 : Int32) σ_4 _ _ _ hf hR (lv_sub hl [4, 3, 2, 1, 0] rfl)
      · replace hf := z_t c_6 hf
        refine lv_bipush (v := (-2 : Int32)) hx hb dX10_ask_24 (by decide) ?_
        exact e_i X hR hr hlk hf dX10_ask_26
    · replace hf := z_f c_2 hf
      refine lv_iconst (v := (-1 : Int32)) hx hb dX10_ask_12 (by decide) ?_
      exact e_i X hR hr hlk hf dX10_ask_13
abbrev rm10_hold : Room := { frames := 3, cells := 0, slots := 0, locals := 91 }
def f10_hold (N : Nat) (x1 : Int32) (σ : Mm) : Option (Int32 × Mm) :=
  if x1 < 0 then (
  some ((0 : Int32), σ)) else (
  if x1 < (3 : Int32) then (
  z_b (f6_holdIn N 56 50 x1 σ) fun _ σ_4 =>
  some ((1 : Int32), σ_4)) else (
  some ((0 : Int32), σ)))
set_option maxHeartbeats 4000000 in
set_option maxRecDepth 100000 in
theorem c10_hold (l : Launch) (G : Gp) (N : Nat) {x1 : Int32} {σ σ0 : Mm} {r0 : Int32} (hf : f10_hold N x1 σ = some (r0, σ0)) : Met l yX10_hold (WS yX10_hold cX10_hold 2 (some .boolean)) rm10_hold (va_Pc [.ref (G.2.2 + 0), .int x1] (Pd G 212 tt σ)) (P_i G 212 tt r0 σ0) 0 0 (Fr G) := by
  refine ct [(0, .ref (G.2.2 + 0)), (1, .int x1)] rfl (by decide) (Nat.le_of_ble_eq_true rfl) ?_
  intro p e s m below meth c ls X hr hlk hR hl
  have X : Cx p s m _ c cX10_hold 2 RX10 G := X
  have hx := X.1
  have hb := X.2.1
  unfold f10_hold at hf
  refine lv_iload_n hx hb dX10_hold_0 rfl (lv_at hl 1 rfl) ?_
  refine lv_if_lt (tgt := 9) hx hb dX10_hold_1 (by decide) (fun c_1 => ?_) (fun c_1 => ?_)
  · replace hf := z_t c_1 hf
    refine lv_iconst (v := (0 : Int32)) hx hb dX10_hold_9 (by decide) ?_
    exact e_z X hR hr hlk rfl hf dX10_hold_10
  · replace hf := z_f c_1 hf
    refine lv_iload_n hx hb dX10_hold_4 rfl (lv_at hl 1 rfl) ?_
    refine lv_iconst (v := (3 : Int32)) hx hb dX10_hold_5 (by decide) ?_
    refine lv_icmp_lt (tgt := 11) hx hb dX10_hold_6 (by decide) (fun c_2 => ?_) (fun c_2 => ?_)
    · replace hf := z_t c_2 hf
      refine lv_aload_n hx hb dX10_hold_11 rfl (lv_at hl 0 rfl) ?_
      refine r_gs (t := 70) X hR fr_10_86 kh_0 (sx_10_12 kh_0) dX10_hold_12 ?_
      refine lv_iload_n hx hb dX10_hold_15 rfl (lv_at hl 1 rfl) ?_
      refine lv_aload_n hx hb dX10_hold_16 rfl (lv_at hl 0 rfl) ?_
      refine r_gs (t := 56) X hR fr_10_60 kh_0 (sx_10_8 kh_0) dX10_hold_17 ?_
      refine lv_aload_n hx hb dX10_hold_20 rfl (lv_at hl 0 rfl) ?_
      refine r_gs (t := 50) X hR fr_10_53 kh_0 (sx_10_7 kh_0) dX10_hold_21 ?_
      obtain ⟨r_3, σ_4, hc_5, hf⟩ := z_b_e hf
      refine go_v hR (mv_run (As := [.int x1, .ref (G.2.2 + 56), .ref (G.2.2 + 50)]) (rest := []) X hR mv_10_317 kh_70 (kd_lt kh_70 (by decide)) (c6_holdIn l G N kh_56 kh_50 hc_5) ⟨rfl, rfl, Nat.le_of_ble_eq_true rfl, Nat.le_of_ble_eq_true rfl⟩ rfl hl.1 rfl (Nat.le_of_ble_eq_true rfl) dX10_hold_24 ⟨Nat.zero_le _, Nat.zero_le _⟩) (fun H locs hR => ?_)
      refine lv_iconst (v := (1 : Int32)) hx hb dX10_hold_27 (by decide) ?_
      exact e_z X hR hr hlk rfl hf dX10_hold_28
    · replace hf := z_f c_2 hf
      refine lv_iconst (v := (0 : Int32)) hx hb dX10_hold_9 (by decide) ?_
      exact e_z X hR hr hlk rfl hf dX10_hold_10
abbrev rm10_restore : Room := { frames := 3, cells := 0, slots := 0, locals := 91 }
def f10_restore (N : Nat) (x1 : Int32) (σ : Mm) : Option (Int32 × Mm) :=
  if x1 < 0 then (
  some ((0 : Int32), σ)) else (
  if x1 < (3 : Int32) then (
  z_b (f6_goOnFrom N 56 50 x1 σ) fun r_3 σ_4 =>
  z_c (isZ r_3) (some (r_3, σ_4))) else (
  some ((0 : Int32), σ)))
set_option maxHeartbeats 4000000 in
set_option maxRecDepth 100000 in
theorem c10_restore (l : Launch) (G : Gp) (N : Nat) {x1 : Int32} {σ σ0 : Mm} {r0 : Int32} (hf : f10_restore N x1 σ = some (r0, σ0)) : Met l yX10_restore (WS yX10_restore cX10_restore 2 (some .boolean)) rm10_restore (va_Pc [.ref (G.2.2 + 0), .int x1] (Pd G 212 tt σ)) (P_i G 212 tt r0 σ0) 0 0 (Fr G) := by
  refine ct [(0, .ref (G.2.2 + 0)), (1, .int x1)] rfl (by decide) (Nat.le_of_ble_eq_true rfl) ?_
  intro p e s m below meth c ls X hr hlk hR hl
  have X : Cx p s m _ c cX10_restore 2 RX10 G := X
  have hx := X.1
  have hb := X.2.1
  unfold f10_restore at hf
  refine lv_iload_n hx hb dX10_restore_0 rfl (lv_at hl 1 rfl) ?_
  refine lv_if_lt (tgt := 9) hx hb dX10_restore_1 (by decide) (fun c_1 => ?_) (fun c_1 => ?_)
  · replace hf := z_t c_1 hf
    refine lv_iconst (v := (0 : Int32)) hx hb dX10_restore_9 (by decide) ?_
    exact e_z X hR hr hlk rfl hf dX10_restore_10
  · replace hf := z_f c_1 hf
    refine lv_iload_n hx hb dX10_restore_4 rfl (lv_at hl 1 rfl) ?_
    refine lv_iconst (v := (3 : Int32)) hx hb dX10_restore_5 (by decide) ?_
    refine lv_icmp_lt (tgt := 11) hx hb dX10_restore_6 (by decide) (fun c_2 => ?_) (fun c_2 => ?_)
    · replace hf := z_t c_2 hf
      refine lv_aload_n hx hb dX10_restore_11 rfl (lv_at hl 0 rfl) ?_
      refine r_gs (t := 70) X hR fr_10_86 kh_0 (sx_10_12 kh_0) dX10_restore_12 ?_
      refine lv_iload_n hx hb dX10_restore_15 rfl (lv_at hl 1 rfl) ?_
      refine lv_aload_n hx hb dX10_restore_16 rfl (lv_at hl 0 rfl) ?_
      refine r_gs (t := 56) X hR fr_10_60 kh_0 (sx_10_8 kh_0) dX10_restore_17 ?_
      refine lv_aload_n hx hb dX10_restore_20 rfl (lv_at hl 0 rfl) ?_
      refine r_gs (t := 50) X hR fr_10_53 kh_0 (sx_10_7 kh_0) dX10_restore_21 ?_
      obtain ⟨r_3, σ_4, hc_5, hf⟩ := z_b_e hf
      refine go_i hR (mv_run (As := [.int x1, .ref (G.2.2 + 56), .ref (G.2.2 + 50)]) (rest := []) X hR mv_10_321 kh_70 (kd_lt kh_70 (by decide)) (c6_goOnFrom l G N kh_56 kh_50 hc_5) ⟨rfl, rfl, Nat.le_of_ble_eq_true rfl, Nat.le_of_ble_eq_true rfl⟩ rfl hl.1 rfl (Nat.le_of_ble_eq_true rfl) dX10_restore_24 ⟨Nat.zero_le _, Nat.zero_le _⟩) (fun H locs hR => ?_)
      obtain ⟨hz_6, hf⟩ := z_c_e hf
      exact e_z X hR hr hlk hz_6 hf dX10_restore_27
    · replace hf := z_f c_2 hf
      refine lv_iconst (v := (0 : Int32)) hx hb dX10_restore_9 (by decide) ?_
      exact e_z X hR hr hlk rfl hf dX10_restore_10
abbrev rm10_plotsPassed : Room := { frames := 5, cells := 0, slots := 0, locals := 127 }
def f10_plotsPassed_42 (N : Nat) (k4 : Int32 → Int32 → Mm → Option (Int32 × Mm)) (x1 : Int32) (x2 : Int32) (σ : Mm) : Option (Int32 × Mm) :=
  z_l (x2 + (1 : Int32)) fun x2_11 =>
  k4 x1 x2_11 σ
def f10_plotsPassed_4 (N : Nat) : Nat → Int32 → Int32 → Mm → Option (Int32 × Mm)
  | 0, _, _, _ => none
  | fu + 1, x1, x2, σ => z_r (gR σ 0 3) 3 fun t_1 =>
  if (gI σ t_1 1) ≤ x2 then (
  some (x1, σ)) else (
  z_b (f0_owner N 56 x2 σ) fun r_4 σ_5 =>
  z_r (gR σ_5 0 3) 3 fun t_7 =>
  z_c (inB x2 7) (
  if r_4 = (gI σ_5 (t_7 + 3) (ix x2)) then (
  f10_plotsPassed_42 N (fun x1 x2 σ => f10_plotsPassed_4 N fu x1 x2 σ) x1 x2 σ_5) else (
  z_l (x1 + (1 : Int32)) fun x1_12 =>
  f10_plotsPassed_42 N (fun x1 x2 σ => f10_plotsPassed_4 N fu x1 x2 σ) x1_12 x2 σ_5)))
def f10_plotsPassed (N : Nat) (σ : Mm) : Option (Int32 × Mm) :=
  f10_plotsPassed_4 N N (0 : Int32) (0 : Int32) σ
set_option maxHeartbeats 4000000 in
set_option maxRecDepth 100000 in
theorem w10_plotsPassed_42 (X : Cx p s m args c cX10_plotsPassed 3 RX10 G) (hr : meth.sig.returnType = some .int) (hlk : meth.locks = false) (N : Nat) {k4 : Int32 → Int32 → Mm → Option (Int32 × Mm)} (hk4 : ∀ (x1 : Int32) (x2 : Int32) (σ : Mm) (H : Heap) (locs : List Loc) (ls : Array Slot), k4 x1 x2 σ = some (r0, σ0) → Rp G 212 tt σ s H locs → lv_has ls 3 [(0, .ref (G.2.2 + 0)), (1, .int x1), (2, .int x2)] → W p l e rm10_plotsPassed s m args below meth c H locs 0 0 (MQ below (P_i G 212 tt r0 σ0) args s 0 0 (Fr G)) (F0 m 4 ls [])) :
    ∀ (x1 : Int32) (x2 : Int32) (σ : Mm) (H : Heap) (locs : List Loc) (ls : Array Slot), f10_plotsPassed_42 N k4 x1 x2 σ = some (r0, σ0) → Rp G 212 tt σ s H locs → lv_has ls 3 [(0, .ref (G.2.2 + 0)), (1, .int x1), (2, .int x2)] → W p l e rm10_plotsPassed s m args below meth c H locs 0 0 (MQ below (P_i G 212 tt r0 σ0) args s 0 0 (Fr G)) (F0 m 42 ls []) := by
  have hx := X.1
  have hb := X.2.1
  intro x1 x2 σ H locs ls hf hR hl
  unfold f10_plotsPassed_42 at hf
  obtain ⟨x2_11, ex2_11⟩ : ∃ z : Int32, z = x2 + (1 : Int32) := ⟨_, rfl⟩
  replace hf := z_l_e ex2_11 hf
  refine lv_iinc (v := x2_11) (lv' := [(2, .int x2_11), (0, .ref (G.2.2 + 0)), (1, .int x1)]) hx hb dX10_plotsPassed_42 hl (k := 2) rfl (by rw [ex2_11]; rfl) (by decide) rfl (fun ls hl => ?_)
  refine lv_goto (tgt := 4) hx hb dX10_plotsPassed_45 (by decide) ?_
  exact hk4 x1 x2_11 σ _ _ _ hf hR (lv_sub hl [1, 2, 0] rfl)
set_option maxHeartbeats 4000000 in
set_option maxRecDepth 100000 in
theorem w10_plotsPassed_4 (X : Cx p s m args c cX10_plotsPassed 3 RX10 G) (hr : meth.sig.returnType = some .int) (hlk : meth.locks = false) (N : Nat) :
    ∀ (fu : Nat) (x1 : Int32) (x2 : Int32) (σ : Mm) (H : Heap) (locs : List Loc) (ls : Array Slot), f10_plotsPassed_4 N fu x1 x2 σ = some (r0, σ0) → Rp G 212 tt σ s H locs → lv_has ls 3 [(0, .ref (G.2.2 + 0)), (1, .int x1), (2, .int x2)] → W p l e rm10_plotsPassed s m args below meth c H locs 0 0 (MQ below (P_i G 212 tt r0 σ0) args s 0 0 (Fr G)) (F0 m 4 ls []) := by
  have hx := X.1
  have hb := X.2.1
  intro fu
  induction fu with
  | zero =>
    intro x1 x2 σ H locs ls hf hR hl
    rw [f10_plotsPassed_4] at hf
    cases hf
  | succ fu ih =>
    intro x1 x2 σ H locs ls hf hR hl
    rw [f10_plotsPassed_4] at hf
    refine lv_iload_n hx hb dX10_plotsPassed_4 rfl (lv_at hl 2 rfl) ?_
    refine lv_aload_n hx hb dX10_plotsPassed_5 rfl (lv_at hl 0 rfl) ?_
    obtain ⟨t_1, ht_2, kht_2, hf⟩ := z_r_e hf
    refine r_gd X hR fr_10_27 kh_0 ht_2 dX10_plotsPassed_6 ?_
    refine r_gi X hR fi_10_242 kht_2 dX10_plotsPassed_9 ?_
    refine lv_icmp_ge (tgt := 48) hx hb dX10_plotsPassed_12 (by decide) (fun c_3 => ?_) (fun c_3 => ?_)
    · replace hf := z_t c_3 hf
      refine lv_iload_n hx hb dX10_plotsPassed_48 rfl (lv_at hl 1 rfl) ?_
      exact e_i X hR hr hlk hf dX10_plotsPassed_49
    · replace hf := z_f c_3 hf
      refine lv_aload_n hx hb dX10_plotsPassed_15 rfl (lv_at hl 0 rfl) ?_
      refine r_gs (t := 60) X hR fr_10_72 kh_0 (sx_10_10 kh_0) dX10_plotsPassed_16 ?_
      refine lv_aload_n hx hb dX10_plotsPassed_19 rfl (lv_at hl 0 rfl) ?_
      refine r_gs (t := 56) X hR fr_10_60 kh_0 (sx_10_8 kh_0) dX10_plotsPassed_20 ?_
      refine lv_iload_n hx hb dX10_plotsPassed_23 rfl (lv_at hl 2 rfl) ?_
      obtain ⟨r_4, σ_5, hc_6, hf⟩ := z_b_e hf
      refine go_i hR (mv_run (As := [.ref (G.2.2 + 56), .int x2]) (rest := []) X hR mv_10_143 kh_60 (kd_lt kh_60 (by decide)) (c0_owner l G N kh_56 hc_6) ⟨rfl, rfl, Nat.le_of_ble_eq_true rfl, Nat.le_of_ble_eq_true rfl⟩ rfl hl.1 rfl (Nat.le_of_ble_eq_true rfl) dX10_plotsPassed_24 ⟨Nat.zero_le _, Nat.zero_le _⟩) (fun H locs hR => ?_)
      refine lv_aload_n hx hb dX10_plotsPassed_27 rfl (lv_at hl 0 rfl) ?_
      obtain ⟨t_7, ht_8, kht_8, hf⟩ := z_r_e hf
      refine r_gd X hR fr_10_27 kh_0 ht_8 dX10_plotsPassed_28 ?_
      refine r_gs (t := (t_7 + 3)) X hR fr_10_140 kht_8 (sx_3_8 kht_8) dX10_plotsPassed_31 ?_
      refine lv_iload_n hx hb dX10_plotsPassed_34 rfl (lv_at hl 2 rfl) ?_
      obtain ⟨hi_9, hf⟩ := z_c_e hf
      refine r_ial X hR (kx_3_8 kht_8) hi_9 dX10_plotsPassed_35 ?_
      refine lv_icmp_eq (tgt := 42) hx hb dX10_plotsPassed_36 (by decide) (fun c_10 => ?_) (fun c_10 => ?_)
      · replace hf := z_t c_10 hf
        exact w10_plotsPassed_42 X hr hlk N ih x1 x2 σ_5 _ _ _ hf hR (lv_sub hl [0, 1, 2] rfl)
      · replace hf := z_f c_10 hf
        obtain ⟨x1_12, ex1_12⟩ : ∃ z : Int32, z = x1 + (1 : Int32) := ⟨_, rfl⟩
        replace hf := z_l_e ex1_12 hf
        refine lv_iinc (v := x1_12) (lv' := [(1, .int x1_12), (0, .ref (G.2.2 + 0)), (2, .int x2)]) hx hb dX10_plotsPassed_39 hl (k := 1) rfl (by rw [ex1_12]; rfl) (by decide) rfl (fun ls hl => ?_)
        exact w10_plotsPassed_42 X hr hlk N ih x1_12 x2 σ_5 _ _ _ hf hR (lv_sub hl [1, 0, 2] rfl)
set_option maxHeartbeats 4000000 in
set_option maxRecDepth 100000 in
theorem c10_plotsPassed (l : Launch) (G : Gp) (N : Nat) {σ σ0 : Mm} {r0 : Int32} (hf : f10_plotsPassed N σ = some (r0, σ0)) : Met l yX10_plotsPassed (WS yX10_plotsPassed cX10_plotsPassed 3 (some .int)) rm10_plotsPassed (va_Pc [.ref (G.2.2 + 0)] (Pd G 212 tt σ)) (P_i G 212 tt r0 σ0) 0 0 (Fr G) := by
  refine ct [(0, .ref (G.2.2 + 0))] rfl (by decide) (Nat.le_of_ble_eq_true rfl) ?_
  intro p e s m below meth c ls X hr hlk hR hl
  have X : Cx p s m _ c cX10_plotsPassed 3 RX10 G := X
  have hx := X.1
  have hb := X.2.1
  unfold f10_plotsPassed at hf
  refine lv_iconst (v := (0 : Int32)) hx hb dX10_plotsPassed_0 (by decide) ?_
  refine lv_istore_n (lv' := [(1, .int (0 : Int32)), (0, .ref (G.2.2 + 0))]) hx hb dX10_plotsPassed_1 rfl hl (by decide) rfl (fun ls hl => ?_)
  refine lv_iconst (v := (0 : Int32)) hx hb dX10_plotsPassed_2 (by decide) ?_
  refine lv_istore_n (lv' := [(2, .int (0 : Int32)), (1, .int (0 : Int32)), (0, .ref (G.2.2 + 0))]) hx hb dX10_plotsPassed_3 rfl hl (by decide) rfl (fun ls hl => ?_)
  exact w10_plotsPassed_4 X hr hlk N  N (0 : Int32) (0 : Int32) σ _ _ _ hf hR (lv_sub hl [2, 1, 0] rfl)
abbrev rm10_allSwearing : Room := { frames := 4, cells := 0, slots := 0, locals := 103 }
def f10_allSwearing_4 (N : Nat) : Nat → Int32 → Int32 → Mm → Option (Int32 × Mm)
  | 0, _, _, _ => none
  | fu + 1, x1, x2, σ => if (gI σ 56 3) ≤ x2 then (
  some (x1, σ)) else (
  z_b (f0_howManySwear N 56 x2 σ) fun r_2 σ_3 =>
  z_l ((x1 + r_2)) fun x1_5 =>
  z_l (x2 + (1 : Int32)) fun x2_6 =>
  f10_allSwearing_4 N fu x1_5 x2_6 σ_3)
def f10_allSwearing (N : Nat) (σ : Mm) : Option (Int32 × Mm) :=
  f10_allSwearing_4 N N (0 : Int32) (0 : Int32) σ
set_option maxHeartbeats 4000000 in
set_option maxRecDepth 100000 in
theorem w10_allSwearing_4 (X : Cx p s m args c cX10_allSwearing 3 RX10 G) (hr : meth.sig.returnType = some .int) (hlk : meth.locks = false) (N : Nat) :
    ∀ (fu : Nat) (x1 : Int32) (x2 : Int32) (σ : Mm) (H : Heap) (locs : List Loc) (ls : Array Slot), f10_allSwearing_4 N fu x1 x2 σ = some (r0, σ0) → Rp G 212 tt σ s H locs → lv_has ls 3 [(0, .ref (G.2.2 + 0)), (1, .int x1), (2, .int x2)] → W p l e rm10_allSwearing s m args below meth c H locs 0 0 (MQ below (P_i G 212 tt r0 σ0) args s 0 0 (Fr G)) (F0 m 4 ls []) := by
  have hx := X.1
  have hb := X.2.1
  intro fu
  induction fu with
  | zero =>
    intro x1 x2 σ H locs ls hf hR hl
    rw [f10_allSwearing_4] at hf
    cases hf
  | succ fu ih =>
    intro x1 x2 σ H locs ls hf hR hl
    rw [f10_allSwearing_4] at hf
    refine lv_iload_n hx hb dX10_allSwearing_4 rfl (lv_at hl 2 rfl) ?_
    refine lv_aload_n hx hb dX10_allSwearing_5 rfl (lv_at hl 0 rfl) ?_
    refine r_gs (t := 56) X hR fr_10_60 kh_0 (sx_10_8 kh_0) dX10_allSwearing_6 ?_
    refine r_gi X hR fi_10_212 kh_56 dX10_allSwearing_9 ?_
    refine lv_icmp_ge (tgt := 36) hx hb dX10_allSwearing_12 (by decide) (fun c_1 => ?_) (fun c_1 => ?_)
    · replace hf := z_t c_1 hf
      refine lv_iload_n hx hb dX10_allSwearing_36 rfl (lv_at hl 1 rfl) ?_
      exact e_i X hR hr hlk hf dX10_allSwearing_37
    · replace hf := z_f c_1 hf
      refine lv_iload_n hx hb dX10_allSwearing_15 rfl (lv_at hl 1 rfl) ?_
      refine lv_aload_n hx hb dX10_allSwearing_16 rfl (lv_at hl 0 rfl) ?_
      refine r_gs (t := 60) X hR fr_10_72 kh_0 (sx_10_10 kh_0) dX10_allSwearing_17 ?_
      refine lv_aload_n hx hb dX10_allSwearing_20 rfl (lv_at hl 0 rfl) ?_
      refine r_gs (t := 56) X hR fr_10_60 kh_0 (sx_10_8 kh_0) dX10_allSwearing_21 ?_
      refine lv_iload_n hx hb dX10_allSwearing_24 rfl (lv_at hl 2 rfl) ?_
      obtain ⟨r_2, σ_3, hc_4, hf⟩ := z_b_e hf
      refine go_i hR (mv_run (As := [.ref (G.2.2 + 56), .int x2]) (rest := [.int x1]) X hR mv_10_306 kh_60 (kd_lt kh_60 (by decide)) (c0_howManySwear l G N kh_56 hc_4) ⟨rfl, rfl, Nat.le_of_ble_eq_true rfl, Nat.le_of_ble_eq_true rfl⟩ rfl hl.1 rfl (Nat.le_of_ble_eq_true rfl) dX10_allSwearing_25 ⟨Nat.zero_le _, Nat.zero_le _⟩) (fun H locs hR => ?_)
      refine lv_iadd hx hb dX10_allSwearing_28 ?_
      refine lv_topi (fun x1_5 ex1_5 => ?_)
      replace hf := z_l_e ex1_5 hf
      refine lv_istore_n (lv' := [(1, .int x1_5), (0, .ref (G.2.2 + 0)), (2, .int x2)]) hx hb dX10_allSwearing_29 rfl hl (by decide) rfl (fun ls hl => ?_)
      obtain ⟨x2_6, ex2_6⟩ : ∃ z : Int32, z = x2 + (1 : Int32) := ⟨_, rfl⟩
      replace hf := z_l_e ex2_6 hf
      refine lv_iinc (v := x2_6) (lv' := [(2, .int x2_6), (1, .int x1_5), (0, .ref (G.2.2 + 0))]) hx hb dX10_allSwearing_30 hl (k := 2) rfl (by rw [ex2_6]; rfl) (by decide) rfl (fun ls hl => ?_)
      refine lv_goto (tgt := 4) hx hb dX10_allSwearing_33 (by decide) ?_
      exact ih x1_5 x2_6 σ_3 _ _ _ hf hR (lv_sub hl [2, 1, 0] rfl)
set_option maxHeartbeats 4000000 in
set_option maxRecDepth 100000 in
theorem c10_allSwearing (l : Launch) (G : Gp) (N : Nat) {σ σ0 : Mm} {r0 : Int32} (hf : f10_allSwearing N σ = some (r0, σ0)) : Met l yX10_allSwearing (WS yX10_allSwearing cX10_allSwearing 3 (some .int)) rm10_allSwearing (va_Pc [.ref (G.2.2 + 0)] (Pd G 212 tt σ)) (P_i G 212 tt r0 σ0) 0 0 (Fr G) := by
  refine ct [(0, .ref (G.2.2 + 0))] rfl (by decide) (Nat.le_of_ble_eq_true rfl) ?_
  intro p e s m below meth c ls X hr hlk hR hl
  have X : Cx p s m _ c cX10_allSwearing 3 RX10 G := X
  have hx := X.1
  have hb := X.2.1
  unfold f10_allSwearing at hf
  refine lv_iconst (v := (0 : Int32)) hx hb dX10_allSwearing_0 (by decide) ?_
  refine lv_istore_n (lv' := [(1, .int (0 : Int32)), (0, .ref (G.2.2 + 0))]) hx hb dX10_allSwearing_1 rfl hl (by decide) rfl (fun ls hl => ?_)
  refine lv_iconst (v := (0 : Int32)) hx hb dX10_allSwearing_2 (by decide) ?_
  refine lv_istore_n (lv' := [(2, .int (0 : Int32)), (1, .int (0 : Int32)), (0, .ref (G.2.2 + 0))]) hx hb dX10_allSwearing_3 rfl hl (by decide) rfl (fun ls hl => ?_)
  exact w10_allSwearing_4 X hr hlk N  N (0 : Int32) (0 : Int32) σ _ _ _ hf hR (lv_sub hl [2, 1, 0] rfl)
abbrev rm10_count : Room := { frames := 6, cells := 0, slots := 0, locals := 151 }
def f10_count (N : Nat) (x1 : Int32) (σ : Mm) : Option (Int32 × Mm) :=
  if x1 = (0 : Int32) then (
  z_r (gR σ 0 3) 3 fun t_1 =>
  some ((gI σ t_1 0), σ)) else (
  if x1 = (1 : Int32) then (
  z_r (gR σ 0 3) 3 fun t_4 =>
  some ((gI σ t_4 1), σ)) else (
  if x1 = (2 : Int32) then (
  z_r (gR σ 0 3) 3 fun t_7 =>
  some ((gI σ t_7 2), σ)) else (
  if x1 = (3 : Int32) then (
  some ((gI σ 56 3), σ)) else (
  if x1 = (4 : Int32) then (
  some ((gI σ 56 0), σ)) else (
  if x1 = (5 : Int32) then (
  some ((gI σ 56 1), σ)) else (
  if x1 = (6 : Int32) then (
  z_b (f0_standing N 56 σ) fun r_13 σ_14 =>
  some (r_13, σ_14)) else (
  if x1 = (7 : Int32) then (
  z_b (f0_countingOfAll N 56 σ) fun r_17 σ_18 =>
  some (r_17, σ_18)) else (
  if x1 = (8 : Int32) then (
  some ((gI σ 56 2), σ)) else (
  if x1 = (9 : Int32) then (
  some ((gI σ 0 1), σ)) else (
  if x1 = (10 : Int32) then (
  some ((gI σ 70 2), σ)) else (
  if x1 = (11 : Int32) then (
  some ((gI σ 0 15), σ)) else (
  if x1 = (12 : Int32) then (
  some ((bitC (gI σ 70 5)), σ)) else (
  if x1 = (13 : Int32) then (
  z_r (gR σ 0 3) 3 fun t_26 =>
  some ((gI σ t_26 4), σ)) else (
  if x1 = (14 : Int32) then (
  z_b (f10_plotsPassed N σ) fun r_29 σ_30 =>
  some (r_29, σ_30)) else (
  if x1 = (15 : Int32) then (
  z_b (f10_allSwearing N σ) fun r_33 σ_34 =>
  some (r_33, σ_34)) else (
  some ((-1 : Int32), σ)))))))))))))))))
set_option maxHeartbeats 4000000 in
set_option maxRecDepth 100000 in
theorem c10_count (l : Launch) (G : Gp) (N : Nat) {x1 : Int32} {σ σ0 : Mm} {r0 : Int32} (hf : f10_count N x1 σ = some (r0, σ0)) : Met l yX10_count (WS yX10_count cX10_count 2 (some .int)) rm10_count (va_Pc [.ref (G.2.2 + 0), .int x1] (Pd G 212 tt σ)) (P_i G 212 tt r0 σ0) 0 0 (Fr G) := by
  refine ct [(0, .ref (G.2.2 + 0)), (1, .int x1)] rfl (by decide) (Nat.le_of_ble_eq_true rfl) ?_
  intro p e s m below meth c ls X hr hlk hR hl
  have X : Cx p s m _ c cX10_count 2 RX10 G := X
  have hx := X.1
  have hb := X.2.1
  unfold f10_count at hf
  refine lv_iload_n hx hb dX10_count_0 rfl (lv_at hl 1 rfl) ?_
  by_cases c_3 : x1 = (0 : Int32)
  · replace hf := z_t c_3 hf
    refine lv_tableIn (off := 79) (tgt := 80) hx hb dX10_count_1 (by rw [c_3]; decide) (by rw [c_3]; decide) (by rw [c_3]; rfl) (by decide) ?_
    refine lv_aload_n hx hb dX10_count_80 rfl (lv_at hl 0 rfl) ?_
    obtain ⟨t_1, ht_2, kht_2, hf⟩ := z_r_e hf
    refine r_gd X hR fr_10_27 kh_0 ht_2 dX10_count_81 ?_
    refine r_gi X hR fi_10_289 kht_2 dX10_count_84 ?_
    exact e_i X hR hr hlk hf dX10_count_87
  replace hf := z_f c_3 hf
  by_cases c_6 : x1 = (1 : Int32)
  · replace hf := z_t c_6 hf
    refine lv_tableIn (off := 87) (tgt := 88) hx hb dX10_count_1 (by rw [c_6]; decide) (by rw [c_6]; decide) (by rw [c_6]; rfl) (by decide) ?_
    refine lv_aload_n hx hb dX10_count_88 rfl (lv_at hl 0 rfl) ?_
    obtain ⟨t_4, ht_5, kht_5, hf⟩ := z_r_e hf
    refine r_gd X hR fr_10_27 kh_0 ht_5 dX10_count_89 ?_
    refine r_gi X hR fi_10_242 kht_5 dX10_count_92 ?_
    exact e_i X hR hr hlk hf dX10_count_95
  replace hf := z_f c_6 hf
  by_cases c_9 : x1 = (2 : Int32)
  · replace hf := z_t c_9 hf
    refine lv_tableIn (off := 95) (tgt := 96) hx hb dX10_count_1 (by rw [c_9]; decide) (by rw [c_9]; decide) (by rw [c_9]; rfl) (by decide) ?_
    refine lv_aload_n hx hb dX10_count_96 rfl (lv_at hl 0 rfl) ?_
    obtain ⟨t_7, ht_8, kht_8, hf⟩ := z_r_e hf
    refine r_gd X hR fr_10_27 kh_0 ht_8 dX10_count_97 ?_
    refine r_gi X hR fi_10_209 kht_8 dX10_count_100 ?_
    exact e_i X hR hr hlk hf dX10_count_103
  replace hf := z_f c_9 hf
  by_cases c_10 : x1 = (3 : Int32)
  · replace hf := z_t c_10 hf
    refine lv_tableIn (off := 103) (tgt := 104) hx hb dX10_count_1 (by rw [c_10]; decide) (by rw [c_10]; decide) (by rw [c_10]; rfl) (by decide) ?_
    refine lv_aload_n hx hb dX10_count_104 rfl (lv_at hl 0 rfl) ?_
    refine r_gs (t := 56) X hR fr_10_60 kh_0 (sx_10_8 kh_0) dX10_count_105 ?_
    refine r_gi X hR fi_10_212 kh_56 dX10_count_108 ?_
    exact e_i X hR hr hlk hf dX10_count_111
  replace hf := z_f c_10 hf
  by_cases c_11 : x1 = (4 : Int32)
  · replace hf := z_t c_11 hf
    refine lv_tableIn (off := 111) (tgt := 112) hx hb dX10_count_1 (by rw [c_11]; decide) (by rw [c_11]; decide) (by rw [c_11]; rfl) (by decide) ?_
    refine lv_aload_n hx hb dX10_count_112 rfl (lv_at hl 0 rfl) ?_
    refine r_gs (t := 56) X hR fr_10_60 kh_0 (sx_10_8 kh_0) dX10_count_113 ?_
    refine r_gi X hR fi_10_186 kh_56 dX10_count_116 ?_
    exact e_i X hR hr hlk hf dX10_count_119
  replace hf := z_f c_11 hf
  by_cases c_12 : x1 = (5 : Int32)
  · replace hf := z_t c_12 hf
    refine lv_tableIn (off := 119) (tgt := 120) hx hb dX10_count_1 (by rw [c_12]; decide) (by rw [c_12]; decide) (by rw [c_12]; rfl) (by decide) ?_
    refine lv_aload_n hx hb dX10_count_120 rfl (lv_at hl 0 rfl) ?_
    refine r_gs (t := 56) X hR fr_10_60 kh_0 (sx_10_8 kh_0) dX10_count_121 ?_
    refine r_gi X hR fi_10_165 kh_56 dX10_count_124 ?_
    exact e_i X hR hr hlk hf dX10_count_127
  replace hf := z_f c_12 hf
  by_cases c_16 : x1 = (6 : Int32)
  · replace hf := z_t c_16 hf
    refine lv_tableIn (off := 127) (tgt := 128) hx hb dX10_count_1 (by rw [c_16]; decide) (by rw [c_16]; decide) (by rw [c_16]; rfl) (by decide) ?_
    refine lv_aload_n hx hb dX10_count_128 rfl (lv_at hl 0 rfl) ?_
    refine r_gs (t := 60) X hR fr_10_72 kh_0 (sx_10_10 kh_0) dX10_count_129 ?_
    refine lv_aload_n hx hb dX10_count_132 rfl (lv_at hl 0 rfl) ?_
    refine r_gs (t := 56) X hR fr_10_60 kh_0 (sx_10_8 kh_0) dX10_count_133 ?_
    obtain ⟨r_13, σ_14, hc_15, hf⟩ := z_b_e hf
    refine go_i hR (mv_run (As := [.ref (G.2.2 + 56)]) (rest := []) X hR mv_10_292 kh_60 (kd_lt kh_60 (by decide)) (c0_standing l G N kh_56 hc_15) ⟨rfl, rfl, Nat.le_of_ble_eq_true rfl, Nat.le_of_ble_eq_true rfl⟩ rfl hl.1 rfl (Nat.le_of_ble_eq_true rfl) dX10_count_136 ⟨Nat.zero_le _, Nat.zero_le _⟩) (fun H locs hR => ?_)
    exact e_i X hR hr hlk hf dX10_count_139
  replace hf := z_f c_16 hf
  by_cases c_20 : x1 = (7 : Int32)
  · replace hf := z_t c_20 hf
    refine lv_tableIn (off := 139) (tgt := 140) hx hb dX10_count_1 (by rw [c_20]; decide) (by rw [c_20]; decide) (by rw [c_20]; rfl) (by decide) ?_
    refine lv_aload_n hx hb dX10_count_140 rfl (lv_at hl 0 rfl) ?_
    refine r_gs (t := 60) X hR fr_10_72 kh_0 (sx_10_10 kh_0) dX10_count_141 ?_
    refine lv_aload_n hx hb dX10_count_144 rfl (lv_at hl 0 rfl) ?_
    refine r_gs (t := 56) X hR fr_10_60 kh_0 (sx_10_8 kh_0) dX10_count_145 ?_
    obtain ⟨r_17, σ_18, hc_19, hf⟩ := z_b_e hf
    refine go_i hR (mv_run (As := [.ref (G.2.2 + 56)]) (rest := []) X hR mv_10_303 kh_60 (kd_lt kh_60 (by decide)) (c0_countingOfAll l G N kh_56 hc_19) ⟨rfl, rfl, Nat.le_of_ble_eq_true rfl, Nat.le_of_ble_eq_true rfl⟩ rfl hl.1 rfl (Nat.le_of_ble_eq_true rfl) dX10_count_148 ⟨Nat.zero_le _, Nat.zero_le _⟩) (fun H locs hR => ?_)
    exact e_i X hR hr hlk hf dX10_count_151
  replace hf := z_f c_20 hf
  by_cases c_21 : x1 = (8 : Int32)
  · replace hf := z_t c_21 hf
    refine lv_tableIn (off := 151) (tgt := 152) hx hb dX10_count_1 (by rw [c_21]; decide) (by rw [c_21]; decide) (by rw [c_21]; rfl) (by decide) ?_
    refine lv_aload_n hx hb dX10_count_152 rfl (lv_at hl 0 rfl) ?_
    refine r_gs (t := 56) X hR fr_10_60 kh_0 (sx_10_8 kh_0) dX10_count_153 ?_
    refine r_gi X hR fi_10_203 kh_56 dX10_count_156 ?_
    exact e_i X hR hr hlk hf dX10_count_159
  replace hf := z_f c_21 hf
  by_cases c_22 : x1 = (9 : Int32)
  · replace hf := z_t c_22 hf
    refine lv_tableIn (off := 159) (tgt := 160) hx hb dX10_count_1 (by rw [c_22]; decide) (by rw [c_22]; decide) (by rw [c_22]; rfl) (by decide) ?_
    refine lv_aload_n hx hb dX10_count_160 rfl (lv_at hl 0 rfl) ?_
    refine r_gi X hR fi_10_13 kh_0 dX10_count_161 ?_
    exact e_i X hR hr hlk hf dX10_count_164
  replace hf := z_f c_22 hf
  by_cases c_23 : x1 = (10 : Int32)
  · replace hf := z_t c_23 hf
    refine lv_tableIn (off := 164) (tgt := 165) hx hb dX10_count_1 (by rw [c_23]; decide) (by rw [c_23]; decide) (by rw [c_23]; rfl) (by decide) ?_
    refine lv_aload_n hx hb dX10_count_165 rfl (lv_at hl 0 rfl) ?_
    refine r_gs (t := 70) X hR fr_10_86 kh_0 (sx_10_12 kh_0) dX10_count_166 ?_
    refine r_gi X hR fi_10_325 kh_70 dX10_count_169 ?_
    exact e_i X hR hr hlk hf dX10_count_172
  replace hf := z_f c_23 hf
  by_cases c_24 : x1 = (11 : Int32)
  · replace hf := z_t c_24 hf
    refine lv_tableIn (off := 172) (tgt := 173) hx hb dX10_count_1 (by rw [c_24]; decide) (by rw [c_24]; decide) (by rw [c_24]; rfl) (by decide) ?_
    refine lv_aload_n hx hb dX10_count_173 rfl (lv_at hl 0 rfl) ?_
    refine r_gi X hR fi_10_97 kh_0 dX10_count_174 ?_
    exact e_i X hR hr hlk hf dX10_count_177
  replace hf := z_f c_24 hf
  by_cases c_25 : x1 = (12 : Int32)
  · replace hf := z_t c_25 hf
    refine lv_tableIn (off := 177) (tgt := 178) hx hb dX10_count_1 (by rw [c_25]; decide) (by rw [c_25]; decide) (by rw [c_25]; rfl) (by decide) ?_
    refine lv_aload_n hx hb dX10_count_178 rfl (lv_at hl 0 rfl) ?_
    refine r_gs (t := 70) X hR fr_10_86 kh_0 (sx_10_12 kh_0) dX10_count_179 ?_
    refine r_gi X hR fi_10_328 kh_70 dX10_count_182 ?_
    refine go_i hR (ms_run (As := [.int (gI σ 70 5)]) (rest := []) X hR jms_10_150 (cJ_bitC l G) ⟨rfl, rfl, Nat.le_of_ble_eq_true rfl, Nat.le_of_ble_eq_true rfl⟩ rfl hl.1 rfl (Nat.le_of_ble_eq_true rfl) dX10_count_185 ⟨Nat.zero_le _, Nat.zero_le _⟩) (fun H locs hR => ?_)
    exact e_i X hR hr hlk hf dX10_count_188
  replace hf := z_f c_25 hf
  by_cases c_28 : x1 = (13 : Int32)
  · replace hf := z_t c_28 hf
    refine lv_tableIn (off := 188) (tgt := 189) hx hb dX10_count_1 (by rw [c_28]; decide) (by rw [c_28]; decide) (by rw [c_28]; rfl) (by decide) ?_
    refine lv_aload_n hx hb dX10_count_189 rfl (lv_at hl 0 rfl) ?_
    obtain ⟨t_26, ht_27, kht_27, hf⟩ := z_r_e hf
    refine r_gd X hR fr_10_27 kh_0 ht_27 dX10_count_190 ?_
    refine r_gi X hR fi_10_331 kht_27 dX10_count_193 ?_
    exact e_i X hR hr hlk hf dX10_count_196
  replace hf := z_f c_28 hf
  by_cases c_32 : x1 = (14 : Int32)
  · replace hf := z_t c_32 hf
    refine lv_tableIn (off := 196) (tgt := 197) hx hb dX10_count_1 (by rw [c_32]; decide) (by rw [c_32]; decide) (by rw [c_32]; rfl) (by decide) ?_
    refine lv_aload_n hx hb dX10_count_197 rfl (lv_at hl 0 rfl) ?_
    obtain ⟨r_29, σ_30, hc_31, hf⟩ := z_b_e hf
    refine go_i hR (mv_run (As := []) (rest := []) X hR mv_10_334 kh_0 (kd_lt kh_0 (by decide)) (c10_plotsPassed l G N hc_31) ⟨rfl, rfl, Nat.le_of_ble_eq_true rfl, Nat.le_of_ble_eq_true rfl⟩ rfl hl.1 rfl (Nat.le_of_ble_eq_true rfl) dX10_count_198 ⟨Nat.zero_le _, Nat.zero_le _⟩) (fun H locs hR => ?_)
    exact e_i X hR hr hlk hf dX10_count_201
  replace hf := z_f c_32 hf
  by_cases c_36 : x1 = (15 : Int32)
  · replace hf := z_t c_36 hf
    refine lv_tableIn (off := 201) (tgt := 202) hx hb dX10_count_1 (by rw [c_36]; decide) (by rw [c_36]; decide) (by rw [c_36]; rfl) (by decide) ?_
    refine lv_aload_n hx hb dX10_count_202 rfl (lv_at hl 0 rfl) ?_
    obtain ⟨r_33, σ_34, hc_35, hf⟩ := z_b_e hf
    refine go_i hR (mv_run (As := []) (rest := []) X hR mv_10_338 kh_0 (kd_lt kh_0 (by decide)) (c10_allSwearing l G N hc_35) ⟨rfl, rfl, Nat.le_of_ble_eq_true rfl, Nat.le_of_ble_eq_true rfl⟩ rfl hl.1 rfl (Nat.le_of_ble_eq_true rfl) dX10_count_203 ⟨Nat.zero_le _, Nat.zero_le _⟩) (fun H locs hR => ?_)
    exact e_i X hR hr hlk hf dX10_count_206
  replace hf := z_f c_36 hf
  refine lv_tableOut (tgt := 207) hx hb dX10_count_1 (sw_out x1 0 16 (by decide) (by decide) (fun j hj => ?_)) (by decide) ?_
  · rcases (show j = 0 ∨ j = 1 ∨ j = 2 ∨ j = 3 ∨ j = 4 ∨ j = 5 ∨ j = 6 ∨ j = 7 ∨ j = 8 ∨ j = 9 ∨ j = 10 ∨ j = 11 ∨ j = 12 ∨ j = 13 ∨ j = 14 ∨ j = 15 by omega) with rfl | rfl | rfl | rfl | rfl | rfl | rfl | rfl | rfl | rfl | rfl | rfl | rfl | rfl | rfl | rfl
    · exact fun h => c_3 (h.trans (by decide))
    · exact fun h => c_6 (h.trans (by decide))
    · exact fun h => c_9 (h.trans (by decide))
    · exact fun h => c_10 (h.trans (by decide))
    · exact fun h => c_11 (h.trans (by decide))
    · exact fun h => c_12 (h.trans (by decide))
    · exact fun h => c_16 (h.trans (by decide))
    · exact fun h => c_20 (h.trans (by decide))
    · exact fun h => c_21 (h.trans (by decide))
    · exact fun h => c_22 (h.trans (by decide))
    · exact fun h => c_23 (h.trans (by decide))
    · exact fun h => c_24 (h.trans (by decide))
    · exact fun h => c_25 (h.trans (by decide))
    · exact fun h => c_28 (h.trans (by decide))
    · exact fun h => c_32 (h.trans (by decide))
    · exact fun h => c_36 (h.trans (by decide))
  · refine lv_iconst (v := (-1 : Int32)) hx hb dX10_count_207 (by decide) ?_
    exact e_i X hR hr hlk hf dX10_count_208
end GEN
