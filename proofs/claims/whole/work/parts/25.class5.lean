section GEN
variable {p : Program} {l : Launch} {e : Env} {s : State} {m : MethodId} {args : Array Value} {below : List Frame} {meth : Method} {c : Code} {G : Gp} {r0 : Int32} {l0 : Int64} {u0 : Unit} {σ0 : Mm}

abbrev rm10_unsay : Room := { frames := 3, cells := 0, slots := 0, locals := 89 }
def f10_unsay_31 (N : Nat) (x2 : Int32) (x3 : Int32) (s0 : Int32) (σ : Mm) : Option (Int32 × Mm) :=
  if s0 = x2 then (
  some ((0 : Int32), σ)) else (
  z_b (f6_keep N 56 σ) fun _ σ_9 =>
  z_l (sI σ_9 56 2 ((gI σ_9 56 2) ^^^ x3)) fun σ_11 =>
  some ((1 : Int32), σ_11))
def f10_unsay (N : Nat) (x1 : Int32) (x2 : Int32) (σ : Mm) : Option (Int32 × Mm) :=
  z_b (f10_noGiving N x1 σ) fun r_1 σ_2 =>
  if r_1 = 0 then (
  z_l (((1 : Int32) <<< (x1 &&& 31))) fun x3_5 =>
  if ((gI σ_2 56 2) &&& x3_5) = 0 then (
  f10_unsay_31 N x2 x3_5 (0 : Int32) σ_2) else (
  f10_unsay_31 N x2 x3_5 (1 : Int32) σ_2)) else (
  some ((0 : Int32), σ_2))
set_option maxHeartbeats 4000000 in
set_option maxRecDepth 100000 in
theorem w10_unsay_31 (X : Cx p s m args c cX10_unsay 5 RX10 G) (hr : meth.sig.returnType = some .boolean) (hlk : meth.locks = false) (N : Nat) :
    ∀ (x2 : Int32) (x3 : Int32) (s0 : Int32) (σ : Mm) (H : Heap) (locs : List Loc) (ls : Array Slot), f10_unsay_31 N x2 x3 s0 σ = some (r0, σ0) → Rp G 212 tt σ s H locs → lv_has ls 5 [(0, .ref (G.2.2 + 0)), (2, .int x2), (3, .int x3)] → W p l e rm10_unsay s m args below meth c H locs 0 0 (MQ below (P_i G 212 tt r0 σ0) args s 0 0 (Fr G)) (F0 m 31 ls [.int s0]) := by
  have hx := X.1
  have hb := X.2.1
  intro x2 x3 s0 σ H locs ls hf hR hl
  unfold f10_unsay_31 at hf
  refine lv_istore (lv' := [(4, .int s0), (0, .ref (G.2.2 + 0)), (2, .int x2), (3, .int x3)]) hx hb dX10_unsay_31 hl (by decide) rfl (fun ls hl => ?_)
  refine lv_iload hx hb dX10_unsay_33 (lv_at hl 0 rfl) ?_
  refine lv_iload_n hx hb dX10_unsay_35 rfl (lv_at hl 2 rfl) ?_
  refine lv_icmp_ne (tgt := 41) hx hb dX10_unsay_36 (by decide) (fun c_7 => ?_) (fun c_7 => ?_)
  · replace hf := z_f c_7 hf
    refine lv_aload_n hx hb dX10_unsay_41 rfl (lv_at hl 1 rfl) ?_
    refine r_gs (t := 70) X hR fr_10_86 kh_0 (sx_10_12 kh_0) dX10_unsay_42 ?_
    refine lv_aload_n hx hb dX10_unsay_45 rfl (lv_at hl 1 rfl) ?_
    refine r_gs (t := 56) X hR fr_10_60 kh_0 (sx_10_8 kh_0) dX10_unsay_46 ?_
    obtain ⟨r_8, σ_9, hc_10, hf⟩ := z_b_e hf
    refine go_v hR (mv_run (As := [.ref (G.2.2 + 56)]) (rest := []) X hR mv_10_214 kh_70 (kd_lt kh_70 (by decide)) (c6_keep l G N kh_56 hc_10) ⟨rfl, rfl, Nat.le_of_ble_eq_true rfl, Nat.le_of_ble_eq_true rfl⟩ rfl hl.1 rfl (Nat.le_of_ble_eq_true rfl) dX10_unsay_49 ⟨Nat.zero_le _, Nat.zero_le _⟩) (fun H locs hR => ?_)
    refine lv_aload_n hx hb dX10_unsay_52 rfl (lv_at hl 1 rfl) ?_
    refine r_gs (t := 56) X hR fr_10_60 kh_0 (sx_10_8 kh_0) dX10_unsay_53 ?_
    refine lv_dup hx hb dX10_unsay_56 rfl ?_
    refine r_gi X hR fi_10_203 kh_56 dX10_unsay_57 ?_
    refine lv_iload_n hx hb dX10_unsay_60 rfl (lv_at hl 3 rfl) ?_
    refine lv_ixor hx hb dX10_unsay_61 ?_
    refine r_pi X hR pi_10_203 kh_56 dX10_unsay_62 (fun H locs σ_11 eσ_11 hR => ?_)
    replace hf := z_l_e eσ_11 hf
    refine lv_iconst (v := (1 : Int32)) hx hb dX10_unsay_65 (by decide) ?_
    exact e_z X hR hr hlk rfl hf dX10_unsay_66
  · replace hf := z_t c_7 hf
    refine lv_iconst (v := (0 : Int32)) hx hb dX10_unsay_39 (by decide) ?_
    exact e_z X hR hr hlk rfl hf dX10_unsay_40
set_option maxHeartbeats 4000000 in
set_option maxRecDepth 100000 in
theorem c10_unsay (l : Launch) (G : Gp) (N : Nat) {x1 : Int32} {x2 : Int32} {σ σ0 : Mm} {r0 : Int32} (hf : f10_unsay N x1 x2 σ = some (r0, σ0)) : Met l yX10_unsay (WS yX10_unsay cX10_unsay 5 (some .boolean)) rm10_unsay (va_Pc [.ref (G.2.2 + 0), .int x1, .int x2] (Pd G 212 tt σ)) (P_i G 212 tt r0 σ0) 0 0 (Fr G) := by
  refine ct [(0, .ref (G.2.2 + 0)), (1, .int x1), (2, .int x2)] rfl (by decide) (Nat.le_of_ble_eq_true rfl) ?_
  intro p e s m below meth c ls X hr hlk hR hl
  have X : Cx p s m _ c cX10_unsay 5 RX10 G := X
  have hx := X.1
  have hb := X.2.1
  unfold f10_unsay at hf
  refine lv_aload_n hx hb dX10_unsay_0 rfl (lv_at hl 0 rfl) ?_
  refine lv_iload_n hx hb dX10_unsay_1 rfl (lv_at hl 1 rfl) ?_
  obtain ⟨r_1, σ_2, hc_3, hf⟩ := z_b_e hf
  refine go_i hR (mv_run (As := [.int x1]) (rest := []) X hR mv_10_174 kh_0 (kd_lt kh_0 (by decide)) (c10_noGiving l G N hc_3) ⟨rfl, rfl, Nat.le_of_ble_eq_true rfl, Nat.le_of_ble_eq_true rfl⟩ rfl hl.1 rfl (Nat.le_of_ble_eq_true rfl) dX10_unsay_2 ⟨Nat.zero_le _, Nat.zero_le _⟩) (fun H locs hR => ?_)
  refine lv_if_eq (tgt := 10) hx hb dX10_unsay_5 (by decide) (fun c_4 => ?_) (fun c_4 => ?_)
  · replace hf := z_t c_4 hf
    refine lv_iconst (v := (1 : Int32)) hx hb dX10_unsay_10 (by decide) ?_
    refine lv_iload_n hx hb dX10_unsay_11 rfl (lv_at hl 1 rfl) ?_
    refine lv_ishl hx hb dX10_unsay_12 ?_
    refine lv_topi (fun x3_5 ex3_5 => ?_)
    replace hf := z_l_e ex3_5 hf
    refine lv_istore_n (lv' := [(3, .int x3_5), (0, .ref (G.2.2 + 0)), (1, .int x1), (2, .int x2)]) hx hb dX10_unsay_13 rfl hl (by decide) rfl (fun ls hl => ?_)
    refine lv_aload_n hx hb dX10_unsay_14 rfl (lv_at hl 1 rfl) ?_
    refine r_gs (t := 56) X hR fr_10_60 kh_0 (sx_10_8 kh_0) dX10_unsay_15 ?_
    refine r_gi X hR fi_10_203 kh_56 dX10_unsay_18 ?_
    refine lv_iload_n hx hb dX10_unsay_21 rfl (lv_at hl 0 rfl) ?_
    refine lv_iand hx hb dX10_unsay_22 ?_
    refine lv_if_eq (tgt := 30) hx hb dX10_unsay_23 (by decide) (fun c_6 => ?_) (fun c_6 => ?_)
    · replace hf := z_t c_6 hf
      refine lv_iconst (v := (0 : Int32)) hx hb dX10_unsay_30 (by decide) ?_
      exact w10_unsay_31 X hr hlk N  x2 x3_5 (0 : Int32) σ_2 _ _ _ hf hR (lv_sub hl [1, 3, 0] rfl)
    · replace hf := z_f c_6 hf
      refine lv_iconst (v := (1 : Int32)) hx hb dX10_unsay_26 (by decide) ?_
      refine lv_goto (tgt := 31) hx hb dX10_unsay_27 (by decide) ?_
      exact w10_unsay_31 X hr hlk N  x2 x3_5 (1 : Int32) σ_2 _ _ _ hf hR (lv_sub hl [1, 3, 0] rfl)
  · replace hf := z_f c_4 hf
    refine lv_iconst (v := (0 : Int32)) hx hb dX10_unsay_8 (by decide) ?_
    exact e_z X hR hr hlk rfl hf dX10_unsay_9
abbrev rm10_noYears : Room := { frames := 0, cells := 0, slots := 0, locals := 0 }
def f10_noYears (N : Nat) (x0 : Int32) (σ : Mm) : Option (Int32 × Mm) :=
  if x0 < 0 then (
  some ((1 : Int32), σ)) else (
  if x0 ≤ (60 : Int32) then (
  some ((0 : Int32), σ)) else (
  some ((1 : Int32), σ)))
set_option maxHeartbeats 4000000 in
set_option maxRecDepth 100000 in
theorem c10_noYears (l : Launch) (G : Gp) (N : Nat) {x0 : Int32} {σ σ0 : Mm} {r0 : Int32} (hf : f10_noYears N x0 σ = some (r0, σ0)) : Met l yX10_noYears (WS yX10_noYears cX10_noYears 1 (some .boolean)) rm10_noYears (va_Pc [.int x0] (Pd G 212 tt σ)) (P_i G 212 tt r0 σ0) 0 0 (Fr G) := by
  refine ct [(0, .int x0)] rfl (by decide) (Nat.le_of_ble_eq_true rfl) ?_
  intro p e s m below meth c ls X hr hlk hR hl
  have X : Cx p s m _ c cX10_noYears 1 RX10 G := X
  have hx := X.1
  have hb := X.2.1
  unfold f10_noYears at hf
  refine lv_iload_n hx hb dX10_noYears_0 rfl (lv_at hl 0 rfl) ?_
  refine lv_if_lt (tgt := 10) hx hb dX10_noYears_1 (by decide) (fun c_1 => ?_) (fun c_1 => ?_)
  · replace hf := z_t c_1 hf
    refine lv_iconst (v := (1 : Int32)) hx hb dX10_noYears_10 (by decide) ?_
    refine lv_goto (tgt := 15) hx hb dX10_noYears_11 (by decide) ?_
    exact e_z X hR hr hlk rfl hf dX10_noYears_15
  · replace hf := z_f c_1 hf
    refine lv_iload_n hx hb dX10_noYears_4 rfl (lv_at hl 0 rfl) ?_
    refine lv_bipush (v := (60 : Int32)) hx hb dX10_noYears_5 (by decide) ?_
    refine lv_icmp_le (tgt := 14) hx hb dX10_noYears_7 (by decide) (fun c_2 => ?_) (fun c_2 => ?_)
    · replace hf := z_t c_2 hf
      refine lv_iconst (v := (0 : Int32)) hx hb dX10_noYears_14 (by decide) ?_
      exact e_z X hR hr hlk rfl hf dX10_noYears_15
    · replace hf := z_f c_2 hf
      refine lv_iconst (v := (1 : Int32)) hx hb dX10_noYears_10 (by decide) ?_
      refine lv_goto (tgt := 15) hx hb dX10_noYears_11 (by decide) ?_
      exact e_z X hR hr hlk rfl hf dX10_noYears_15
abbrev rm10_years : Room := { frames := 5, cells := 0, slots := 0, locals := 113 }
def f10_years (N : Nat) (x1 : Int32) (σ : Mm) : Option (Int32 × Mm) :=
  z_b (f10_noYears N x1 σ) fun r_1 σ_2 =>
  if r_1 = 0 then (
  if x1 ≤ 0 then (
  some ((gI σ_2 56 0), σ_2)) else (
  z_b (f6_keep N 56 σ_2) fun _ σ_7 =>
  z_r (gR σ_7 0 3) 3 fun t_9 =>
  z_b (f0_passYears N 56 x1 (gI σ_7 t_9 5) σ_7) fun _ σ_12 =>
  some ((gI σ_12 56 0), σ_12))) else (
  some ((-1 : Int32), σ_2))
set_option maxHeartbeats 4000000 in
set_option maxRecDepth 100000 in
theorem c10_years (l : Launch) (G : Gp) (N : Nat) {x1 : Int32} {σ σ0 : Mm} {r0 : Int32} (hf : f10_years N x1 σ = some (r0, σ0)) : Met l yX10_years (WS yX10_years cX10_years 2 (some .int)) rm10_years (va_Pc [.ref (G.2.2 + 0), .int x1] (Pd G 212 tt σ)) (P_i G 212 tt r0 σ0) 0 0 (Fr G) := by
  refine ct [(0, .ref (G.2.2 + 0)), (1, .int x1)] rfl (by decide) (Nat.le_of_ble_eq_true rfl) ?_
  intro p e s m below meth c ls X hr hlk hR hl
  have X : Cx p s m _ c cX10_years 2 RX10 G := X
  have hx := X.1
  have hb := X.2.1
  unfold f10_years at hf
  refine lv_iload_n hx hb dX10_years_0 rfl (lv_at hl 1 rfl) ?_
  obtain ⟨r_1, σ_2, hc_3, hf⟩ := z_b_e hf
  refine go_i hR (ms_run (As := [.int x1]) (rest := []) X hR ms_10_222 (c10_noYears l G N hc_3) ⟨rfl, rfl, Nat.le_of_ble_eq_true rfl, Nat.le_of_ble_eq_true rfl⟩ rfl hl.1 rfl (Nat.le_of_ble_eq_true rfl) dX10_years_1 ⟨Nat.zero_le _, Nat.zero_le _⟩) (fun H locs hR => ?_)
  refine lv_if_eq (tgt := 9) hx hb dX10_years_4 (by decide) (fun c_4 => ?_) (fun c_4 => ?_)
  · replace hf := z_t c_4 hf
    refine lv_iload_n hx hb dX10_years_9 rfl (lv_at hl 1 rfl) ?_
    refine lv_if_le (tgt := 43) hx hb dX10_years_10 (by decide) (fun c_5 => ?_) (fun c_5 => ?_)
    · replace hf := z_t c_5 hf
      refine lv_aload_n hx hb dX10_years_43 rfl (lv_at hl 0 rfl) ?_
      refine r_gs (t := 56) X hR fr_10_60 kh_0 (sx_10_8 kh_0) dX10_years_44 ?_
      refine r_gi X hR fi_10_186 kh_56 dX10_years_47 ?_
      exact e_i X hR hr hlk hf dX10_years_50
    · replace hf := z_f c_5 hf
      refine lv_aload_n hx hb dX10_years_13 rfl (lv_at hl 0 rfl) ?_
      refine r_gs (t := 70) X hR fr_10_86 kh_0 (sx_10_12 kh_0) dX10_years_14 ?_
      refine lv_aload_n hx hb dX10_years_17 rfl (lv_at hl 0 rfl) ?_
      refine r_gs (t := 56) X hR fr_10_60 kh_0 (sx_10_8 kh_0) dX10_years_18 ?_
      obtain ⟨r_6, σ_7, hc_8, hf⟩ := z_b_e hf
      refine go_v hR (mv_run (As := [.ref (G.2.2 + 56)]) (rest := []) X hR mv_10_214 kh_70 (kd_lt kh_70 (by decide)) (c6_keep l G N kh_56 hc_8) ⟨rfl, rfl, Nat.le_of_ble_eq_true rfl, Nat.le_of_ble_eq_true rfl⟩ rfl hl.1 rfl (Nat.le_of_ble_eq_true rfl) dX10_years_21 ⟨Nat.zero_le _, Nat.zero_le _⟩) (fun H locs hR => ?_)
      refine lv_aload_n hx hb dX10_years_24 rfl (lv_at hl 0 rfl) ?_
      refine r_gs (t := 60) X hR fr_10_72 kh_0 (sx_10_10 kh_0) dX10_years_25 ?_
      refine lv_aload_n hx hb dX10_years_28 rfl (lv_at hl 0 rfl) ?_
      refine r_gs (t := 56) X hR fr_10_60 kh_0 (sx_10_8 kh_0) dX10_years_29 ?_
      refine lv_iload_n hx hb dX10_years_32 rfl (lv_at hl 1 rfl) ?_
      refine lv_aload_n hx hb dX10_years_33 rfl (lv_at hl 0 rfl) ?_
      obtain ⟨t_9, ht_10, kht_10, hf⟩ := z_r_e hf
      refine r_gd X hR fr_10_27 kh_0 ht_10 dX10_years_34 ?_
      refine r_gi X hR fi_10_225 kht_10 dX10_years_37 ?_
      obtain ⟨r_11, σ_12, hc_13, hf⟩ := z_b_e hf
      refine go_v hR (mv_run (As := [.ref (G.2.2 + 56), .int x1, .int (gI σ_7 t_9 5)]) (rest := []) X hR mv_10_228 kh_60 (kd_lt kh_60 (by decide)) (c0_passYears l G N kh_56 hc_13) ⟨rfl, rfl, Nat.le_of_ble_eq_true rfl, Nat.le_of_ble_eq_true rfl⟩ rfl hl.1 rfl (Nat.le_of_ble_eq_true rfl) dX10_years_40 ⟨Nat.zero_le _, Nat.zero_le _⟩) (fun H locs hR => ?_)
      refine lv_aload_n hx hb dX10_years_43 rfl (lv_at hl 0 rfl) ?_
      refine r_gs (t := 56) X hR fr_10_60 kh_0 (sx_10_8 kh_0) dX10_years_44 ?_
      refine r_gi X hR fi_10_186 kh_56 dX10_years_47 ?_
      exact e_i X hR hr hlk hf dX10_years_50
  · replace hf := z_f c_4 hf
    refine lv_iconst (v := (-1 : Int32)) hx hb dX10_years_7 (by decide) ?_
    exact e_i X hR hr hlk hf dX10_years_8
abbrev rm10_undo : Room := { frames := 3, cells := 0, slots := 0, locals := 89 }
def f10_undo (N : Nat) (σ : Mm) : Option (Int32 × Mm) :=
  z_b (f6_takeBack N 56 σ) fun r_1 σ_2 =>
  z_c (isZ r_1) (some (r_1, σ_2))
set_option maxHeartbeats 4000000 in
set_option maxRecDepth 100000 in
theorem c10_undo (l : Launch) (G : Gp) (N : Nat) {σ σ0 : Mm} {r0 : Int32} (hf : f10_undo N σ = some (r0, σ0)) : Met l yX10_undo (WS yX10_undo cX10_undo 1 (some .boolean)) rm10_undo (va_Pc [.ref (G.2.2 + 0)] (Pd G 212 tt σ)) (P_i G 212 tt r0 σ0) 0 0 (Fr G) := by
  refine ct [(0, .ref (G.2.2 + 0))] rfl (by decide) (Nat.le_of_ble_eq_true rfl) ?_
  intro p e s m below meth c ls X hr hlk hR hl
  have X : Cx p s m _ c cX10_undo 1 RX10 G := X
  have hx := X.1
  have hb := X.2.1
  unfold f10_undo at hf
  refine lv_aload_n hx hb dX10_undo_0 rfl (lv_at hl 0 rfl) ?_
  refine r_gs (t := 70) X hR fr_10_86 kh_0 (sx_10_12 kh_0) dX10_undo_1 ?_
  refine lv_aload_n hx hb dX10_undo_4 rfl (lv_at hl 0 rfl) ?_
  refine r_gs (t := 56) X hR fr_10_60 kh_0 (sx_10_8 kh_0) dX10_undo_5 ?_
  obtain ⟨r_1, σ_2, hc_3, hf⟩ := z_b_e hf
  refine go_i hR (mv_run (As := [.ref (G.2.2 + 56)]) (rest := []) X hR mv_10_232 kh_70 (kd_lt kh_70 (by decide)) (c6_takeBack l G N kh_56 hc_3) ⟨rfl, rfl, Nat.le_of_ble_eq_true rfl, Nat.le_of_ble_eq_true rfl⟩ rfl hl.1 rfl (Nat.le_of_ble_eq_true rfl) dX10_undo_8 ⟨Nat.zero_le _, Nat.zero_le _⟩) (fun H locs hR => ?_)
  obtain ⟨hz_4, hf⟩ := z_c_e hf
  exact e_z X hR hr hlk hz_4 hf dX10_undo_11
abbrev rm10_lasts : Room := { frames := 4, cells := 0, slots := 0, locals := 103 }
def f10_lasts_23 (N : Nat) (x1 : Int32) : Nat → Int32 → Mm → Option (Int32 × Mm)
  | 0, _, _ => none
  | fu + 1, x2, σ => if (200 : Int32) < x2 then (
  some ((-2 : Int32), σ)) else (
  z_b (f0_stands N 58 x1 σ) fun r_9 σ_10 =>
  if r_9 = 0 then (
  some (x2, σ_10)) else (
  z_b (f0_passQuietYear N 58 σ_10) fun _ σ_14 =>
  z_l (x2 + (1 : Int32)) fun x2_16 =>
  f10_lasts_23 N x1 fu x2_16 σ_14))
def f10_lasts (N : Nat) (x1 : Int32) (σ : Mm) : Option (Int32 × Mm) :=
  z_b (f10_noGiving N x1 σ) fun r_1 σ_2 =>
  if r_1 = 0 then (
  z_b (f5_become N 58 56 σ_2) fun _ σ_6 =>
  f10_lasts_23 N x1 N (0 : Int32) σ_6) else (
  some ((-1 : Int32), σ_2))
set_option maxHeartbeats 4000000 in
set_option maxRecDepth 100000 in
theorem w10_lasts_23 (X : Cx p s m args c cX10_lasts 3 RX10 G) (hr : meth.sig.returnType = some .int) (hlk : meth.locks = false) (N : Nat) {x1 : Int32} :
    ∀ (fu : Nat) (x2 : Int32) (σ : Mm) (H : Heap) (locs : List Loc) (ls : Array Slot), f10_lasts_23 N x1 fu x2 σ = some (r0, σ0) → Rp G 212 tt σ s H locs → lv_has ls 3 [(0, .ref (G.2.2 + 0)), (1, .int x1), (2, .int x2)] → W p l e rm10_lasts s m args below meth c H locs 0 0 (MQ below (P_i G 212 tt r0 σ0) args s 0 0 (Fr G)) (F0 m 23 ls []) := by
  have hx := X.1
  have hb := X.2.1
  intro fu
  induction fu with
  | zero =>
    intro x2 σ H locs ls hf hR hl
    rw [f10_lasts_23] at hf
    cases hf
  | succ fu ih =>
    intro x2 σ H locs ls hf hR hl
    rw [f10_lasts_23] at hf
    refine lv_iload_n hx hb dX10_lasts_23 rfl (lv_at hl 2 rfl) ?_
    refine lv_sipush (v := (200 : Int32)) hx hb dX10_lasts_24 (by decide) ?_
    refine lv_icmp_gt (tgt := 64) hx hb dX10_lasts_27 (by decide) (fun c_8 => ?_) (fun c_8 => ?_)
    · replace hf := z_t c_8 hf
      refine lv_bipush (v := (-2 : Int32)) hx hb dX10_lasts_64 (by decide) ?_
      exact e_i X hR hr hlk hf dX10_lasts_66
    · replace hf := z_f c_8 hf
      refine lv_aload_n hx hb dX10_lasts_30 rfl (lv_at hl 0 rfl) ?_
      refine r_gs (t := 60) X hR fr_10_72 kh_0 (sx_10_10 kh_0) dX10_lasts_31 ?_
      refine lv_aload_n hx hb dX10_lasts_34 rfl (lv_at hl 0 rfl) ?_
      refine r_gs (t := 58) X hR fr_10_64 kh_0 (sx_10_9 kh_0) dX10_lasts_35 ?_
      refine lv_iload_n hx hb dX10_lasts_38 rfl (lv_at hl 1 rfl) ?_
      obtain ⟨r_9, σ_10, hc_11, hf⟩ := z_b_e hf
      refine go_i hR (mv_run (As := [.ref (G.2.2 + 58), .int x1]) (rest := []) X hR mv_10_199 kh_60 (kd_lt kh_60 (by decide)) (c0_stands l G N kh_58 hc_11) ⟨rfl, rfl, Nat.le_of_ble_eq_true rfl, Nat.le_of_ble_eq_true rfl⟩ rfl hl.1 rfl (Nat.le_of_ble_eq_true rfl) dX10_lasts_39 ⟨Nat.zero_le _, Nat.zero_le _⟩) (fun H locs hR => ?_)
      refine lv_if_ne (tgt := 47) hx hb dX10_lasts_42 (by decide) (fun c_12 => ?_) (fun c_12 => ?_)
      · replace hf := z_f c_12 hf
        refine lv_aload_n hx hb dX10_lasts_47 rfl (lv_at hl 0 rfl) ?_
        refine r_gs (t := 60) X hR fr_10_72 kh_0 (sx_10_10 kh_0) dX10_lasts_48 ?_
        refine lv_aload_n hx hb dX10_lasts_51 rfl (lv_at hl 0 rfl) ?_
        refine r_gs (t := 58) X hR fr_10_64 kh_0 (sx_10_9 kh_0) dX10_lasts_52 ?_
        obtain ⟨r_13, σ_14, hc_15, hf⟩ := z_b_e hf
        refine go_v hR (mv_run (As := [.ref (G.2.2 + 58)]) (rest := []) X hR mv_10_239 kh_60 (kd_lt kh_60 (by decide)) (c0_passQuietYear l G N kh_58 hc_15) ⟨rfl, rfl, Nat.le_of_ble_eq_true rfl, Nat.le_of_ble_eq_true rfl⟩ rfl hl.1 rfl (Nat.le_of_ble_eq_true rfl) dX10_lasts_55 ⟨Nat.zero_le _, Nat.zero_le _⟩) (fun H locs hR => ?_)
        obtain ⟨x2_16, ex2_16⟩ : ∃ z : Int32, z = x2 + (1 : Int32) := ⟨_, rfl⟩
        replace hf := z_l_e ex2_16 hf
        refine lv_iinc (v := x2_16) (lv' := [(2, .int x2_16), (0, .ref (G.2.2 + 0)), (1, .int x1)]) hx hb dX10_lasts_58 hl (k := 2) rfl (by rw [ex2_16]; rfl) (by decide) rfl (fun ls hl => ?_)
        refine lv_goto (tgt := 23) hx hb dX10_lasts_61 (by decide) ?_
        exact ih x2_16 σ_14 _ _ _ hf hR (lv_sub hl [1, 2, 0] rfl)
      · replace hf := z_t c_12 hf
        refine lv_iload_n hx hb dX10_lasts_45 rfl (lv_at hl 2 rfl) ?_
        exact e_i X hR hr hlk hf dX10_lasts_46
set_option maxHeartbeats 4000000 in
set_option maxRecDepth 100000 in
theorem c10_lasts (l : Launch) (G : Gp) (N : Nat) {x1 : Int32} {σ σ0 : Mm} {r0 : Int32} (hf : f10_lasts N x1 σ = some (r0, σ0)) : Met l yX10_lasts (WS yX10_lasts cX10_lasts 3 (some .int)) rm10_lasts (va_Pc [.ref (G.2.2 + 0), .int x1] (Pd G 212 tt σ)) (P_i G 212 tt r0 σ0) 0 0 (Fr G) := by
  refine ct [(0, .ref (G.2.2 + 0)), (1, .int x1)] rfl (by decide) (Nat.le_of_ble_eq_true rfl) ?_
  intro p e s m below meth c ls X hr hlk hR hl
  have X : Cx p s m _ c cX10_lasts 3 RX10 G := X
  have hx := X.1
  have hb := X.2.1
  unfold f10_lasts at hf
  refine lv_aload_n hx hb dX10_lasts_0 rfl (lv_at hl 0 rfl) ?_
  refine lv_iload_n hx hb dX10_lasts_1 rfl (lv_at hl 1 rfl) ?_
  obtain ⟨r_1, σ_2, hc_3, hf⟩ := z_b_e hf
  refine go_i hR (mv_run (As := [.int x1]) (rest := []) X hR mv_10_174 kh_0 (kd_lt kh_0 (by decide)) (c10_noGiving l G N hc_3) ⟨rfl, rfl, Nat.le_of_ble_eq_true rfl, Nat.le_of_ble_eq_true rfl⟩ rfl hl.1 rfl (Nat.le_of_ble_eq_true rfl) dX10_lasts_2 ⟨Nat.zero_le _, Nat.zero_le _⟩) (fun H locs hR => ?_)
  refine lv_if_eq (tgt := 10) hx hb dX10_lasts_5 (by decide) (fun c_4 => ?_) (fun c_4 => ?_)
  · replace hf := z_t c_4 hf
    refine lv_aload_n hx hb dX10_lasts_10 rfl (lv_at hl 0 rfl) ?_
    refine r_gs (t := 58) X hR fr_10_64 kh_0 (sx_10_9 kh_0) dX10_lasts_11 ?_
    refine lv_aload_n hx hb dX10_lasts_14 rfl (lv_at hl 0 rfl) ?_
    refine r_gs (t := 56) X hR fr_10_60 kh_0 (sx_10_8 kh_0) dX10_lasts_15 ?_
    obtain ⟨r_5, σ_6, hc_7, hf⟩ := z_b_e hf
    refine go_v hR (mv_run (As := [.ref (G.2.2 + 56)]) (rest := []) X hR mv_10_236 kh_58 (kd_lt kh_58 (by decide)) (c5_become l G N kh_58 kh_56 hc_7) ⟨rfl, rfl, Nat.le_of_ble_eq_true rfl, Nat.le_of_ble_eq_true rfl⟩ rfl hl.1 rfl (Nat.le_of_ble_eq_true rfl) dX10_lasts_18 ⟨Nat.zero_le _, Nat.zero_le _⟩) (fun H locs hR => ?_)
    refine lv_iconst (v := (0 : Int32)) hx hb dX10_lasts_21 (by decide) ?_
    refine lv_istore_n (lv' := [(2, .int (0 : Int32)), (0, .ref (G.2.2 + 0)), (1, .int x1)]) hx hb dX10_lasts_22 rfl hl (by decide) rfl (fun ls hl => ?_)
    exact w10_lasts_23 X hr hlk N  N (0 : Int32) σ_6 _ _ _ hf hR (lv_sub hl [1, 2, 0] rfl)
  · replace hf := z_f c_4 hf
    refine lv_iconst (v := (-1 : Int32)) hx hb dX10_lasts_8 (by decide) ?_
    exact e_i X hR hr hlk hf dX10_lasts_9
abbrev rm10_book : Room := { frames := 5, cells := 0, slots := 0, locals := 127 }
def f10_book_45 (N : Nat) (k4 : Int32 → Int32 → Mm → Option (Int32 × Mm)) (x1 : Int32) (x2 : Int32) (σ : Mm) : Option (Int32 × Mm) :=
  z_l (x2 + (1 : Int32)) fun x2_11 =>
  k4 x1 x2_11 σ
def f10_book_4 (N : Nat) : Nat → Int32 → Int32 → Mm → Option (Int32 × Mm)
  | 0, _, _, _ => none
  | fu + 1, x1, x2, σ => z_r (gR σ 0 3) 3 fun t_1 =>
  if (gI σ t_1 1) ≤ x2 then (
  some (x1, σ)) else (
  z_b (f0_ownerByBook N 56 x2 σ) fun r_4 σ_5 =>
  z_b (f0_owner N 56 x2 σ_5) fun r_7 σ_8 =>
  if r_4 = r_7 then (
  f10_book_45 N (fun x1 x2 σ => f10_book_4 N fu x1 x2 σ) x1 x2 σ_8) else (
  z_l (x1 + (1 : Int32)) fun x1_12 =>
  f10_book_45 N (fun x1 x2 σ => f10_book_4 N fu x1 x2 σ) x1_12 x2 σ_8))
def f10_book (N : Nat) (σ : Mm) : Option (Int32 × Mm) :=
  f10_book_4 N N (0 : Int32) (0 : Int32) σ
set_option maxHeartbeats 4000000 in
set_option maxRecDepth 100000 in
theorem w10_book_45 (X : Cx p s m args c cX10_book 3 RX10 G) (hr : meth.sig.returnType = some .int) (hlk : meth.locks = false) (N : Nat) {k4 : Int32 → Int32 → Mm → Option (Int32 × Mm)} (hk4 : ∀ (x1 : Int32) (x2 : Int32) (σ : Mm) (H : Heap) (locs : List Loc) (ls : Array Slot), k4 x1 x2 σ = some (r0, σ0) → Rp G 212 tt σ s H locs → lv_has ls 3 [(0, .ref (G.2.2 + 0)), (1, .int x1), (2, .int x2)] → W p l e rm10_book s m args below meth c H locs 0 0 (MQ below (P_i G 212 tt r0 σ0) args s 0 0 (Fr G)) (F0 m 4 ls [])) :
    ∀ (x1 : Int32) (x2 : Int32) (σ : Mm) (H : Heap) (locs : List Loc) (ls : Array Slot), f10_book_45 N k4 x1 x2 σ = some (r0, σ0) → Rp G 212 tt σ s H locs → lv_has ls 3 [(0, .ref (G.2.2 + 0)), (1, .int x1), (2, .int x2)] → W p l e rm10_book s m args below meth c H locs 0 0 (MQ below (P_i G 212 tt r0 σ0) args s 0 0 (Fr G)) (F0 m 45 ls []) := by
  have hx := X.1
  have hb := X.2.1
  intro x1 x2 σ H locs ls hf hR hl
  unfold f10_book_45 at hf
  obtain ⟨x2_11, ex2_11⟩ : ∃ z : Int32, z = x2 + (1 : Int32) := ⟨_, rfl⟩
  replace hf := z_l_e ex2_11 hf
  refine lv_iinc (v := x2_11) (lv' := [(2, .int x2_11), (0, .ref (G.2.2 + 0)), (1, .int x1)]) hx hb dX10_book_45 hl (k := 2) rfl (by rw [ex2_11]; rfl) (by decide) rfl (fun ls hl => ?_)
  refine lv_goto (tgt := 4) hx hb dX10_book_48 (by decide) ?_
  exact hk4 x1 x2_11 σ _ _ _ hf hR (lv_sub hl [1, 2, 0] rfl)
set_option maxHeartbeats 4000000 in
set_option maxRecDepth 100000 in
theorem w10_book_4 (X : Cx p s m args c cX10_book 3 RX10 G) (hr : meth.sig.returnType = some .int) (hlk : meth.locks = false) (N : Nat) :
    ∀ (fu : Nat) (x1 : Int32) (x2 : Int32) (σ : Mm) (H : Heap) (locs : List Loc) (ls : Array Slot), f10_book_4 N fu x1 x2 σ = some (r0, σ0) → Rp G 212 tt σ s H locs → lv_has ls 3 [(0, .ref (G.2.2 + 0)), (1, .int x1), (2, .int x2)] → W p l e rm10_book s m args below meth c H locs 0 0 (MQ below (P_i G 212 tt r0 σ0) args s 0 0 (Fr G)) (F0 m 4 ls []) := by
  have hx := X.1
  have hb := X.2.1
  intro fu
  induction fu with
  | zero =>
    intro x1 x2 σ H locs ls hf hR hl
    rw [f10_book_4] at hf
    cases hf
  | succ fu ih =>
    intro x1 x2 σ H locs ls hf hR hl
    rw [f10_book_4] at hf
    refine lv_iload_n hx hb dX10_book_4 rfl (lv_at hl 2 rfl) ?_
    refine lv_aload_n hx hb dX10_book_5 rfl (lv_at hl 0 rfl) ?_
    obtain ⟨t_1, ht_2, kht_2, hf⟩ := z_r_e hf
    refine r_gd X hR fr_10_27 kh_0 ht_2 dX10_book_6 ?_
    refine r_gi X hR fi_10_242 kht_2 dX10_book_9 ?_
    refine lv_icmp_ge (tgt := 51) hx hb dX10_book_12 (by decide) (fun c_3 => ?_) (fun c_3 => ?_)
    · replace hf := z_t c_3 hf
      refine lv_iload_n hx hb dX10_book_51 rfl (lv_at hl 1 rfl) ?_
      exact e_i X hR hr hlk hf dX10_book_52
    · replace hf := z_f c_3 hf
      refine lv_aload_n hx hb dX10_book_15 rfl (lv_at hl 0 rfl) ?_
      refine r_gs (t := 60) X hR fr_10_72 kh_0 (sx_10_10 kh_0) dX10_book_16 ?_
      refine lv_aload_n hx hb dX10_book_19 rfl (lv_at hl 0 rfl) ?_
      refine r_gs (t := 56) X hR fr_10_60 kh_0 (sx_10_8 kh_0) dX10_book_20 ?_
      refine lv_iload_n hx hb dX10_book_23 rfl (lv_at hl 2 rfl) ?_
      obtain ⟨r_4, σ_5, hc_6, hf⟩ := z_b_e hf
      refine go_i hR (mv_run (As := [.ref (G.2.2 + 56), .int x2]) (rest := []) X hR mv_10_245 kh_60 (kd_lt kh_60 (by decide)) (c0_ownerByBook l G N kh_56 hc_6) ⟨rfl, rfl, Nat.le_of_ble_eq_true rfl, Nat.le_of_ble_eq_true rfl⟩ rfl hl.1 rfl (Nat.le_of_ble_eq_true rfl) dX10_book_24 ⟨Nat.zero_le _, Nat.zero_le _⟩) (fun H locs hR => ?_)
      refine lv_aload_n hx hb dX10_book_27 rfl (lv_at hl 0 rfl) ?_
      refine r_gs (t := 60) X hR fr_10_72 kh_0 (sx_10_10 kh_0) dX10_book_28 ?_
      refine lv_aload_n hx hb dX10_book_31 rfl (lv_at hl 0 rfl) ?_
      refine r_gs (t := 56) X hR fr_10_60 kh_0 (sx_10_8 kh_0) dX10_book_32 ?_
      refine lv_iload_n hx hb dX10_book_35 rfl (lv_at hl 2 rfl) ?_
      obtain ⟨r_7, σ_8, hc_9, hf⟩ := z_b_e hf
      refine go_i hR (mv_run (As := [.ref (G.2.2 + 56), .int x2]) (rest := [.int r_4]) X hR mv_10_143 kh_60 (kd_lt kh_60 (by decide)) (c0_owner l G N kh_56 hc_9) ⟨rfl, rfl, Nat.le_of_ble_eq_true rfl, Nat.le_of_ble_eq_true rfl⟩ rfl hl.1 rfl (Nat.le_of_ble_eq_true rfl) dX10_book_36 ⟨Nat.zero_le _, Nat.zero_le _⟩) (fun H locs hR => ?_)
      refine lv_icmp_eq (tgt := 45) hx hb dX10_book_39 (by decide) (fun c_10 => ?_) (fun c_10 => ?_)
      · replace hf := z_t c_10 hf
        exact w10_book_45 X hr hlk N ih x1 x2 σ_8 _ _ _ hf hR (lv_sub hl [0, 1, 2] rfl)
      · replace hf := z_f c_10 hf
        obtain ⟨x1_12, ex1_12⟩ : ∃ z : Int32, z = x1 + (1 : Int32) := ⟨_, rfl⟩
        replace hf := z_l_e ex1_12 hf
        refine lv_iinc (v := x1_12) (lv' := [(1, .int x1_12), (0, .ref (G.2.2 + 0)), (2, .int x2)]) hx hb dX10_book_42 hl (k := 1) rfl (by rw [ex1_12]; rfl) (by decide) rfl (fun ls hl => ?_)
        exact w10_book_45 X hr hlk N ih x1_12 x2 σ_8 _ _ _ hf hR (lv_sub hl [1, 0, 2] rfl)
set_option maxHeartbeats 4000000 in
set_option maxRecDepth 100000 in
theorem c10_book (l : Launch) (G : Gp) (N : Nat) {σ σ0 : Mm} {r0 : Int32} (hf : f10_book N σ = some (r0, σ0)) : Met l yX10_book (WS yX10_book cX10_book 3 (some .int)) rm10_book (va_Pc [.ref (G.2.2 + 0)] (Pd G 212 tt σ)) (P_i G 212 tt r0 σ0) 0 0 (Fr G) := by
  refine ct [(0, .ref (G.2.2 + 0))] rfl (by decide) (Nat.le_of_ble_eq_true rfl) ?_
  intro p e s m below meth c ls X hr hlk hR hl
  have X : Cx p s m _ c cX10_book 3 RX10 G := X
  have hx := X.1
  have hb := X.2.1
  unfold f10_book at hf
  refine lv_iconst (v := (0 : Int32)) hx hb dX10_book_0 (by decide) ?_
  refine lv_istore_n (lv' := [(1, .int (0 : Int32)), (0, .ref (G.2.2 + 0))]) hx hb dX10_book_1 rfl hl (by decide) rfl (fun ls hl => ?_)
  refine lv_iconst (v := (0 : Int32)) hx hb dX10_book_2 (by decide) ?_
  refine lv_istore_n (lv' := [(2, .int (0 : Int32)), (1, .int (0 : Int32)), (0, .ref (G.2.2 + 0))]) hx hb dX10_book_3 rfl hl (by decide) rfl (fun ls hl => ?_)
  exact w10_book_4 X hr hlk N  N (0 : Int32) (0 : Int32) σ _ _ _ hf hR (lv_sub hl [2, 1, 0] rfl)
abbrev rm10_hangs : Room := { frames := 6, cells := 0, slots := 0, locals := 151 }
def f10_hangs_113 (N : Nat) (x1 : Int32) (x2 : Int32) (x3 : Int32) (σ : Mm) : Option (Int32 × Mm) :=
  if x1 = 0 then (
  some (x2, σ)) else (
  some (x3, σ))
def f10_hangs_107 (N : Nat) (k20 : Int32 → Int32 → Int32 → Mm → Option (Int32 × Mm)) (x1 : Int32) (x2 : Int32) (x3 : Int32) (x4 : Int32) (σ : Mm) : Option (Int32 × Mm) :=
  z_l (x4 + (1 : Int32)) fun x4_8 =>
  k20 x2 x3 x4_8 σ
def f10_hangs_20 (N : Nat) (x1 : Int32) : Nat → Int32 → Int32 → Int32 → Mm → Option (Int32 × Mm)
  | 0, _, _, _, _ => none
  | fu + 1, x2, x3, x4, σ => z_r (gR σ 0 3) 3 fun t_2 =>
  if (gI σ t_2 2) ≤ x4 then (
  f10_hangs_113 N x1 x2 x3 σ) else (
  z_l (((1 : Int32) <<< (x4 &&& 31))) fun x5_6 =>
  if ((gI σ 56 1) &&& x5_6) = 0 then (
  f10_hangs_107 N (fun x2 x3 x4 σ => f10_hangs_20 N x1 fu x2 x3 x4 σ) x1 x2 x3 x4 σ) else (
  z_b (f5_become N 58 56 σ) fun _ σ_10 =>
  z_l (sI σ_10 58 1 ((gI σ_10 58 1) &&& (x5_6 ^^^ (-1 : Int32)))) fun σ_12 =>
  z_b (f0_plotsOfOthers N 56 58 σ_12) fun r_13 σ_14 =>
  if r_13 ≤ x3 then (
  f10_hangs_107 N (fun x2 x3 x4 σ => f10_hangs_20 N x1 fu x2 x3 x4 σ) x1 x2 x3 x4 σ_14) else (
  f10_hangs_107 N (fun x2 x3 x4 σ => f10_hangs_20 N x1 fu x2 x3 x4 σ) x1 x4 r_13 x4 σ_14)))
def f10_hangs_11 (N : Nat) (x1 : Int32) (σ : Mm) : Option (Int32 × Mm) :=
  f10_hangs_20 N x1 N (-2 : Int32) (-2 : Int32) (0 : Int32) σ
def f10_hangs (N : Nat) (x1 : Int32) (σ : Mm) : Option (Int32 × Mm) :=
  if x1 = 0 then (
  f10_hangs_11 N x1 σ) else (
  if x1 = (1 : Int32) then (
  f10_hangs_11 N x1 σ) else (
  some ((-1 : Int32), σ)))
set_option maxHeartbeats 4000000 in
set_option maxRecDepth 100000 in
theorem w10_hangs_113 (X : Cx p s m args c cX10_hangs 7 RX10 G) (hr : meth.sig.returnType = some .int) (hlk : meth.locks = false) (N : Nat) :
    ∀ (x1 : Int32) (x2 : Int32) (x3 : Int32) (σ : Mm) (H : Heap) (locs : List Loc) (ls : Array Slot), f10_hangs_113 N x1 x2 x3 σ = some (r0, σ0) → Rp G 212 tt σ s H locs → lv_has ls 7 [(1, .int x1), (2, .int x2), (3, .int x3)] → W p l e rm10_hangs s m args below meth c H locs 0 0 (MQ below (P_i G 212 tt r0 σ0) args s 0 0 (Fr G)) (F0 m 113 ls []) := by
  have hx := X.1
  have hb := X.2.1
  intro x1 x2 x3 σ H locs ls hf hR hl
  unfold f10_hangs_113 at hf
  refine lv_iload_n hx hb dX10_hangs_113 rfl (lv_at hl 0 rfl) ?_
  refine lv_if_ne (tgt := 121) hx hb dX10_hangs_114 (by decide) (fun c_5 => ?_) (fun c_5 => ?_)
  · replace hf := z_f c_5 hf
    refine lv_iload_n hx hb dX10_hangs_121 rfl (lv_at hl 2 rfl) ?_
    exact e_i X hR hr hlk hf dX10_hangs_122
  · replace hf := z_t c_5 hf
    refine lv_iload_n hx hb dX10_hangs_117 rfl (lv_at hl 1 rfl) ?_
    refine lv_goto (tgt := 122) hx hb dX10_hangs_118 (by decide) ?_
    exact e_i X hR hr hlk hf dX10_hangs_122
set_option maxHeartbeats 4000000 in
set_option maxRecDepth 100000 in
theorem w10_hangs_107 (X : Cx p s m args c cX10_hangs 7 RX10 G) (hr : meth.sig.returnType = some .int) (hlk : meth.locks = false) (N : Nat) {x1 : Int32} {k20 : Int32 → Int32 → Int32 → Mm → Option (Int32 × Mm)} (hk20 : ∀ (x2 : Int32) (x3 : Int32) (x4 : Int32) (σ : Mm) (H : Heap) (locs : List Loc) (ls : Array Slot), k20 x2 x3 x4 σ = some (r0, σ0) → Rp G 212 tt σ s H locs → lv_has ls 7 [(0, .ref (G.2.2 + 0)), (1, .int x1), (2, .int x2), (3, .int x3), (4, .int x4)] → W p l e rm10_hangs s m args below meth c H locs 0 0 (MQ below (P_i G 212 tt r0 σ0) args s 0 0 (Fr G)) (F0 m 20 ls [])) :
    ∀ (x2 : Int32) (x3 : Int32) (x4 : Int32) (σ : Mm) (H : Heap) (locs : List Loc) (ls : Array Slot), f10_hangs_107 N k20 x1 x2 x3 x4 σ = some (r0, σ0) → Rp G 212 tt σ s H locs → lv_has ls 7 [(0, .ref (G.2.2 + 0)), (1, .int x1), (2, .int x2), (3, .int x3), (4, .int x4)] → W p l e rm10_hangs s m args below meth c H locs 0 0 (MQ below (P_i G 212 tt r0 σ0) args s 0 0 (Fr G)) (F0 m 107 ls []) := by
  have hx := X.1
  have hb := X.2.1
  intro x2 x3 x4 σ H locs ls hf hR hl
  unfold f10_hangs_107 at hf
  obtain ⟨x4_8, ex4_8⟩ : ∃ z : Int32, z = x4 + (1 : Int32) := ⟨_, rfl⟩
  replace hf := z_l_e ex4_8 hf
  refine lv_iinc (v := x4_8) (lv' := [(4, .int x4_8), (0, .ref (G.2.2 + 0)), (1, .int x1), (2, .int x2), (3, .int x3)]) hx hb dX10_hangs_107 hl (k := 4) rfl (by rw [ex4_8]; rfl) (by decide) rfl (fun ls hl => ?_)
  refine lv_goto (tgt := 20) hx hb dX10_hangs_110 (by decide) ?_
  exact hk20 x2 x3 x4_8 σ _ _ _ hf hR (lv_sub hl [1, 2, 3, 4, 0] rfl)
set_option maxHeartbeats 4000000 in
set_option maxRecDepth 100000 in
theorem w10_hangs_20 (X : Cx p s m args c cX10_hangs 7 RX10 G) (hr : meth.sig.returnType = some .int) (hlk : meth.locks = false) (N : Nat) {x1 : Int32} :
    ∀ (fu : Nat) (x2 : Int32) (x3 : Int32) (x4 : Int32) (σ : Mm) (H : Heap) (locs : List Loc) (ls : Array Slot), f10_hangs_20 N x1 fu x2 x3 x4 σ = some (r0, σ0) → Rp G 212 tt σ s H locs → lv_has ls 7 [(0, .ref (G.2.2 + 0)), (1, .int x1), (2, .int x2), (3, .int x3), (4, .int x4)] → W p l e rm10_hangs s m args below meth c H locs 0 0 (MQ below (P_i G 212 tt r0 σ0) args s 0 0 (Fr G)) (F0 m 20 ls []) := by
  have hx := X.1
  have hb := X.2.1
  intro fu
  induction fu with
  | zero =>
    intro x2 x3 x4 σ H locs ls hf hR hl
    rw [f10_hangs_20] at hf
    cases hf
  | succ fu ih =>
    intro x2 x3 x4 σ H locs ls hf hR hl
    rw [f10_hangs_20] at hf
    refine lv_iload hx hb dX10_hangs_20 (lv_at hl 4 rfl) ?_
    refine lv_aload_n hx hb dX10_hangs_22 rfl (lv_at hl 0 rfl) ?_
    obtain ⟨t_2, ht_3, kht_3, hf⟩ := z_r_e hf
    refine r_gd X hR fr_10_27 kh_0 ht_3 dX10_hangs_23 ?_
    refine r_gi X hR fi_10_209 kht_3 dX10_hangs_26 ?_
    refine lv_icmp_ge (tgt := 113) hx hb dX10_hangs_29 (by decide) (fun c_4 => ?_) (fun c_4 => ?_)
    · replace hf := z_t c_4 hf
      exact w10_hangs_113 X hr hlk N  x1 x2 x3 σ _ _ _ hf hR (lv_sub hl [1, 2, 3] rfl)
    · replace hf := z_f c_4 hf
      refine lv_iconst (v := (1 : Int32)) hx hb dX10_hangs_32 (by decide) ?_
      refine lv_iload hx hb dX10_hangs_33 (lv_at hl 4 rfl) ?_
      refine lv_ishl hx hb dX10_hangs_35 ?_
      refine lv_topi (fun x5_6 ex5_6 => ?_)
      replace hf := z_l_e ex5_6 hf
      refine lv_istore (lv' := [(5, .int x5_6), (0, .ref (G.2.2 + 0)), (1, .int x1), (2, .int x2), (3, .int x3), (4, .int x4)]) hx hb dX10_hangs_36 hl (by decide) rfl (fun ls hl => ?_)
      refine lv_aload_n hx hb dX10_hangs_38 rfl (lv_at hl 1 rfl) ?_
      refine r_gs (t := 56) X hR fr_10_60 kh_0 (sx_10_8 kh_0) dX10_hangs_39 ?_
      refine r_gi X hR fi_10_165 kh_56 dX10_hangs_42 ?_
      refine lv_iload hx hb dX10_hangs_45 (lv_at hl 0 rfl) ?_
      refine lv_iand hx hb dX10_hangs_47 ?_
      refine lv_if_eq (tgt := 107) hx hb dX10_hangs_48 (by decide) (fun c_7 => ?_) (fun c_7 => ?_)
      · replace hf := z_t c_7 hf
        exact w10_hangs_107 X hr hlk N ih x2 x3 x4 σ _ _ _ hf hR (lv_sub hl [1, 2, 3, 4, 5] rfl)
      · replace hf := z_f c_7 hf
        refine lv_aload_n hx hb dX10_hangs_51 rfl (lv_at hl 1 rfl) ?_
        refine r_gs (t := 58) X hR fr_10_64 kh_0 (sx_10_9 kh_0) dX10_hangs_52 ?_
        refine lv_aload_n hx hb dX10_hangs_55 rfl (lv_at hl 1 rfl) ?_
        refine r_gs (t := 56) X hR fr_10_60 kh_0 (sx_10_8 kh_0) dX10_hangs_56 ?_
        obtain ⟨r_9, σ_10, hc_11, hf⟩ := z_b_e hf
        refine go_v hR (mv_run (As := [.ref (G.2.2 + 56)]) (rest := []) X hR mv_10_236 kh_58 (kd_lt kh_58 (by decide)) (c5_become l G N kh_58 kh_56 hc_11) ⟨rfl, rfl, Nat.le_of_ble_eq_true rfl, Nat.le_of_ble_eq_true rfl⟩ rfl hl.1 rfl (Nat.le_of_ble_eq_true rfl) dX10_hangs_59 ⟨Nat.zero_le _, Nat.zero_le _⟩) (fun H locs hR => ?_)
        refine lv_aload_n hx hb dX10_hangs_62 rfl (lv_at hl 1 rfl) ?_
        refine r_gs (t := 58) X hR fr_10_64 kh_0 (sx_10_9 kh_0) dX10_hangs_63 ?_
        refine lv_dup hx hb dX10_hangs_66 rfl ?_
        refine r_gi X hR fi_10_165 kh_58 dX10_hangs_67 ?_
        refine lv_iload hx hb dX10_hangs_70 (lv_at hl 0 rfl) ?_
        refine lv_iconst (v := (-1 : Int32)) hx hb dX10_hangs_72 (by decide) ?_
        refine lv_ixor hx hb dX10_hangs_73 ?_
        refine lv_iand hx hb dX10_hangs_74 ?_
        refine r_pi X hR pi_10_165 kh_58 dX10_hangs_75 (fun H locs σ_12 eσ_12 hR => ?_)
        replace hf := z_l_e eσ_12 hf
        refine lv_aload_n hx hb dX10_hangs_78 rfl (lv_at hl 1 rfl) ?_
        refine r_gs (t := 60) X hR fr_10_72 kh_0 (sx_10_10 kh_0) dX10_hangs_79 ?_
        refine lv_aload_n hx hb dX10_hangs_82 rfl (lv_at hl 1 rfl) ?_
        refine r_gs (t := 56) X hR fr_10_60 kh_0 (sx_10_8 kh_0) dX10_hangs_83 ?_
        refine lv_aload_n hx hb dX10_hangs_86 rfl (lv_at hl 1 rfl) ?_
        refine r_gs (t := 58) X hR fr_10_64 kh_0 (sx_10_9 kh_0) dX10_hangs_87 ?_
        obtain ⟨r_13, σ_14, hc_15, hf⟩ := z_b_e hf
        refine go_i hR (mv_run (As := [.ref (G.2.2 + 56), .ref (G.2.2 + 58)]) (rest := []) X hR mv_10_248 kh_60 (kd_lt kh_60 (by decide)) (c0_plotsOfOthers l G N kh_56 kh_58 hc_15) ⟨rfl, rfl, Nat.le_of_ble_eq_true rfl, Nat.le_of_ble_eq_true rfl⟩ rfl hl.1 rfl (Nat.le_of_ble_eq_true rfl) dX10_hangs_90 ⟨Nat.zero_le _, Nat.zero_le _⟩) (fun H locs hR => ?_)
        refine lv_istore (lv' := [(6, .int r_13), (5, .int x5_6), (0, .ref (G.2.2 + 0)), (1, .int x1), (2, .int x2), (3, .int x3), (4, .int x4)]) hx hb dX10_hangs_93 hl (by decide) rfl (fun ls hl => ?_)
        refine lv_iload hx hb dX10_hangs_95 (lv_at hl 0 rfl) ?_
        refine lv_iload_n hx hb dX10_hangs_97 rfl (lv_at hl 5 rfl) ?_
        refine lv_icmp_le (tgt := 107) hx hb dX10_hangs_98 (by decide) (fun c_16 => ?_) (fun c_16 => ?_)
        · replace hf := z_t c_16 hf
          exact w10_hangs_107 X hr hlk N ih x2 x3 x4 σ_14 _ _ _ hf hR (lv_sub hl [2, 3, 4, 5, 6] rfl)
        · replace hf := z_f c_16 hf
          refine lv_iload hx hb dX10_hangs_101 (lv_at hl 0 rfl) ?_
          refine lv_istore_n (lv' := [(3, .int r_13), (6, .int r_13), (5, .int x5_6), (0, .ref (G.2.2 + 0)), (1, .int x1), (2, .int x2), (4, .int x4)]) hx hb dX10_hangs_103 rfl hl (by decide) rfl (fun ls hl => ?_)
          refine lv_iload hx hb dX10_hangs_104 (lv_at hl 6 rfl) ?_
          refine lv_istore_n (lv' := [(2, .int x4), (3, .int r_13), (6, .int r_13), (5, .int x5_6), (0, .ref (G.2.2 + 0)), (1, .int x1), (4, .int x4)]) hx hb dX10_hangs_106 rfl hl (by decide) rfl (fun ls hl => ?_)
          exact w10_hangs_107 X hr hlk N ih x4 r_13 x4 σ_14 _ _ _ hf hR (lv_sub hl [4, 5, 0, 1, 6] rfl)
set_option maxHeartbeats 4000000 in
set_option maxRecDepth 100000 in
theorem w10_hangs_11 (X : Cx p s m args c cX10_hangs 7 RX10 G) (hr : meth.sig.returnType = some .int) (hlk : meth.locks = false) (N : Nat) :
    ∀ (x1 : Int32) (σ : Mm) (H : Heap) (locs : List Loc) (ls : Array Slot), f10_hangs_11 N x1 σ = some (r0, σ0) → Rp G 212 tt σ s H locs → lv_has ls 7 [(0, .ref (G.2.2 + 0)), (1, .int x1)] → W p l e rm10_hangs s m args below meth c H locs 0 0 (MQ below (P_i G 212 tt r0 σ0) args s 0 0 (Fr G)) (F0 m 11 ls []) := by
  have hx := X.1
  have hb := X.2.1
  intro x1 σ H locs ls hf hR hl
  unfold f10_hangs_11 at hf
  refine lv_bipush (v := (-2 : Int32)) hx hb dX10_hangs_11 (by decide) ?_
  refine lv_istore_n (lv' := [(2, .int (-2 : Int32)), (0, .ref (G.2.2 + 0)), (1, .int x1)]) hx hb dX10_hangs_13 rfl hl (by decide) rfl (fun ls hl => ?_)
  refine lv_bipush (v := (-2 : Int32)) hx hb dX10_hangs_14 (by decide) ?_
  refine lv_istore_n (lv' := [(3, .int (-2 : Int32)), (2, .int (-2 : Int32)), (0, .ref (G.2.2 + 0)), (1, .int x1)]) hx hb dX10_hangs_16 rfl hl (by decide) rfl (fun ls hl => ?_)
  refine lv_iconst (v := (0 : Int32)) hx hb dX10_hangs_17 (by decide) ?_
  refine lv_istore (lv' := [(4, .int (0 : Int32)), (3, .int (-2 : Int32)), (2, .int (-2 : Int32)), (0, .ref (G.2.2 + 0)), (1, .int x1)]) hx hb dX10_hangs_18 hl (by decide) rfl (fun ls hl => ?_)
  exact w10_hangs_20 X hr hlk N  N (-2 : Int32) (-2 : Int32) (0 : Int32) σ _ _ _ hf hR (lv_sub hl [3, 4, 2, 1, 0] rfl)
set_option maxHeartbeats 4000000 in
set_option maxRecDepth 100000 in
theorem c10_hangs (l : Launch) (G : Gp) (N : Nat) {x1 : Int32} {σ σ0 : Mm} {r0 : Int32} (hf : f10_hangs N x1 σ = some (r0, σ0)) : Met l yX10_hangs (WS yX10_hangs cX10_hangs 7 (some .int)) rm10_hangs (va_Pc [.ref (G.2.2 + 0), .int x1] (Pd G 212 tt σ)) (P_i G 212 tt r0 σ0) 0 0 (Fr G) := by
  refine ct [(0, .ref (G.2.2 + 0)), (1, .int x1)] rfl (by decide) (Nat.le_of_ble_eq_true rfl) ?_
  intro p e s m below meth c ls X hr hlk hR hl
  have X : Cx p s m _ c cX10_hangs 7 RX10 G := X
  have hx := X.1
  have hb := X.2.1
  unfold f10_hangs at hf
  refine lv_iload_n hx hb dX10_hangs_0 rfl (lv_at hl 1 rfl) ?_
  refine lv_if_eq (tgt := 11) hx hb dX10_hangs_1 (by decide) (fun c_1 => ?_) (fun c_1 => ?_)
  · replace hf := z_t c_1 hf
    exact w10_hangs_11 X hr hlk N  x1 σ _ _ _ hf hR (lv_sub hl [0, 1] rfl)
  · replace hf := z_f c_1 hf
    refine lv_iload_n hx hb dX10_hangs_4 rfl (lv_at hl 1 rfl) ?_
    refine lv_iconst (v := (1 : Int32)) hx hb dX10_hangs_5 (by decide) ?_
    refine lv_icmp_eq (tgt := 11) hx hb dX10_hangs_6 (by decide) (fun c_17 => ?_) (fun c_17 => ?_)
    · replace hf := z_t c_17 hf
      exact w10_hangs_11 X hr hlk N  x1 σ _ _ _ hf hR (lv_sub hl [0, 1] rfl)
    · replace hf := z_f c_17 hf
      refine lv_iconst (v := (-1 : Int32)) hx hb dX10_hangs_9 (by decide) ?_
      exact e_i X hR hr hlk hf dX10_hangs_10
abbrev rm10_seeWhoWouldSwear : Room := { frames := 2, cells := 0, slots := 0, locals := 68 }
def f10_seeWhoWouldSwear_13 (N : Nat) (x1 : Int32) (x2 : Int32) : Nat → Int32 → Mm → Option (Unit × Mm)
  | 0, _, _ => none
  | fu + 1, x3, σ => if x1 < x3 then (
  some ((), σ)) else (
  if (61 : Int32) ≤ x3 then (
  some ((), σ)) else (
  z_b (f0_swearersOf N 58 (gI σ 56 1) x3 x2 σ) fun r_6 σ_7 =>
  z_c (inB x3 61) (z_l (sI σ_7 159 (ix x3) r_6) fun σ_10 =>
  z_b (f0_passQuietYear N 58 σ_10) fun _ σ_12 =>
  z_l (x3 + (1 : Int32)) fun x3_14 =>
  f10_seeWhoWouldSwear_13 N x1 x2 fu x3_14 σ_12)))
def f10_seeWhoWouldSwear (N : Nat) (x1 : Int32) (x2 : Int32) (σ : Mm) : Option (Unit × Mm) :=
  z_b (f5_become N 58 56 σ) fun _ σ_2 =>
  f10_seeWhoWouldSwear_13 N x1 x2 N (0 : Int32) σ_2
set_option maxHeartbeats 4000000 in
set_option maxRecDepth 100000 in
theorem w10_seeWhoWouldSwear_13 (X : Cx p s m args c cX10_seeWhoWouldSwear 4 RX10 G) (hr : meth.sig.returnType = none) (hlk : meth.locks = false) (N : Nat) {x1 : Int32} {x2 : Int32} :
    ∀ (fu : Nat) (x3 : Int32) (σ : Mm) (H : Heap) (locs : List Loc) (ls : Array Slot), f10_seeWhoWouldSwear_13 N x1 x2 fu x3 σ = some (u0, σ0) → Rp G 212 tt σ s H locs → lv_has ls 4 [(0, .ref (G.2.2 + 0)), (1, .int x1), (2, .int x2), (3, .int x3)] → W p l e rm10_seeWhoWouldSwear s m args below meth c H locs 0 0 (MQ below (P_v G 212 tt u0 σ0) args s 0 0 (Fr G)) (F0 m 13 ls []) := by
  have hx := X.1
  have hb := X.2.1
  intro fu
  induction fu with
  | zero =>
    intro x3 σ H locs ls hf hR hl
    rw [f10_seeWhoWouldSwear_13] at hf
    cases hf
  | succ fu ih =>
    intro x3 σ H locs ls hf hR hl
    rw [f10_seeWhoWouldSwear_13] at hf
    refine lv_iload_n hx hb dX10_seeWhoWouldSwear_13 rfl (lv_at hl 3 rfl) ?_
    refine lv_iload_n hx hb dX10_seeWhoWouldSwear_14 rfl (lv_at hl 1 rfl) ?_
    refine lv_icmp_gt (tgt := 70) hx hb dX10_seeWhoWouldSwear_15 (by decide) (fun c_4 => ?_) (fun c_4 => ?_)
    · replace hf := z_t c_4 hf
      exact e_v X hR hr hlk hf dX10_seeWhoWouldSwear_70
    · replace hf := z_f c_4 hf
      refine lv_iload_n hx hb dX10_seeWhoWouldSwear_18 rfl (lv_at hl 3 rfl) ?_
      refine lv_aload_n hx hb dX10_seeWhoWouldSwear_19 rfl (lv_at hl 0 rfl) ?_
      refine r_gs (t := 159) X hR fr_10_100 kh_0 (sx_10_16 kh_0) dX10_seeWhoWouldSwear_20 ?_
      refine r_len (v := (61 : Int32)) X hR ka_159 (by decide) rfl dX10_seeWhoWouldSwear_23 ?_
      refine lv_icmp_ge (tgt := 70) hx hb dX10_seeWhoWouldSwear_24 (by decide) (fun c_5 => ?_) (fun c_5 => ?_)
      · replace hf := z_t c_5 hf
        exact e_v X hR hr hlk hf dX10_seeWhoWouldSwear_70
      · replace hf := z_f c_5 hf
        refine lv_aload_n hx hb dX10_seeWhoWouldSwear_27 rfl (lv_at hl 0 rfl) ?_
        refine r_gs (t := 159) X hR fr_10_100 kh_0 (sx_10_16 kh_0) dX10_seeWhoWouldSwear_28 ?_
        refine lv_iload_n hx hb dX10_seeWhoWouldSwear_31 rfl (lv_at hl 3 rfl) ?_
        refine lv_aload_n hx hb dX10_seeWhoWouldSwear_32 rfl (lv_at hl 0 rfl) ?_
        refine r_gs (t := 60) X hR fr_10_72 kh_0 (sx_10_10 kh_0) dX10_seeWhoWouldSwear_33 ?_
        refine lv_aload_n hx hb dX10_seeWhoWouldSwear_36 rfl (lv_at hl 0 rfl) ?_
        refine r_gs (t := 58) X hR fr_10_64 kh_0 (sx_10_9 kh_0) dX10_seeWhoWouldSwear_37 ?_
        refine lv_aload_n hx hb dX10_seeWhoWouldSwear_40 rfl (lv_at hl 0 rfl) ?_
        refine r_gs (t := 56) X hR fr_10_60 kh_0 (sx_10_8 kh_0) dX10_seeWhoWouldSwear_41 ?_
        refine r_gi X hR fi_10_165 kh_56 dX10_seeWhoWouldSwear_44 ?_
        refine lv_iload_n hx hb dX10_seeWhoWouldSwear_47 rfl (lv_at hl 3 rfl) ?_
        refine lv_iload_n hx hb dX10_seeWhoWouldSwear_48 rfl (lv_at hl 2 rfl) ?_
        obtain ⟨r_6, σ_7, hc_8, hf⟩ := z_b_e hf
        refine go_i hR (mv_run (As := [.ref (G.2.2 + 58), .int (gI σ 56 1), .int x3, .int x2]) (rest := [.int x3, .ref (G.2.2 + 159)]) X hR mv_10_364 kh_60 (kd_lt kh_60 (by decide)) (c0_swearersOf l G N kh_58 hc_8) ⟨rfl, rfl, Nat.le_of_ble_eq_true rfl, Nat.le_of_ble_eq_true rfl⟩ rfl hl.1 rfl (Nat.le_of_ble_eq_true rfl) dX10_seeWhoWouldSwear_49 ⟨Nat.zero_le _, Nat.zero_le _⟩) (fun H locs hR => ?_)
        obtain ⟨hi_9, hf⟩ := z_c_e hf
        refine r_ias X hR ka_159 hi_9 dX10_seeWhoWouldSwear_52 (fun H locs σ_10 eσ_10 hR => ?_)
        replace hf := z_l_e eσ_10 hf
        refine lv_aload_n hx hb dX10_seeWhoWouldSwear_53 rfl (lv_at hl 0 rfl) ?_
        refine r_gs (t := 60) X hR fr_10_72 kh_0 (sx_10_10 kh_0) dX10_seeWhoWouldSwear_54 ?_
        refine lv_aload_n hx hb dX10_seeWhoWouldSwear_57 rfl (lv_at hl 0 rfl) ?_
        refine r_gs (t := 58) X hR fr_10_64 kh_0 (sx_10_9 kh_0) dX10_seeWhoWouldSwear_58 ?_
        obtain ⟨r_11, σ_12, hc_13, hf⟩ := z_b_e hf
        refine go_v hR (mv_run (As := [.ref (G.2.2 + 58)]) (rest := []) X hR mv_10_239 kh_60 (kd_lt kh_60 (by decide)) (c0_passQuietYear l G N kh_58 hc_13) ⟨rfl, rfl, Nat.le_of_ble_eq_true rfl, Nat.le_of_ble_eq_true rfl⟩ rfl hl.1 rfl (Nat.le_of_ble_eq_true rfl) dX10_seeWhoWouldSwear_61 ⟨Nat.zero_le _, Nat.zero_le _⟩) (fun H locs hR => ?_)
        obtain ⟨x3_14, ex3_14⟩ : ∃ z : Int32, z = x3 + (1 : Int32) := ⟨_, rfl⟩
        replace hf := z_l_e ex3_14 hf
        refine lv_iinc (v := x3_14) (lv' := [(3, .int x3_14), (0, .ref (G.2.2 + 0)), (1, .int x1), (2, .int x2)]) hx hb dX10_seeWhoWouldSwear_64 hl (k := 3) rfl (by rw [ex3_14]; rfl) (by decide) rfl (fun ls hl => ?_)
        refine lv_goto (tgt := 13) hx hb dX10_seeWhoWouldSwear_67 (by decide) ?_
        exact ih x3_14 σ_12 _ _ _ hf hR (lv_sub hl [1, 2, 3, 0] rfl)
set_option maxHeartbeats 4000000 in
set_option maxRecDepth 100000 in
theorem c10_seeWhoWouldSwear (l : Launch) (G : Gp) (N : Nat) {x1 : Int32} {x2 : Int32} {σ σ0 : Mm} {u0 : Unit} (hf : f10_seeWhoWouldSwear N x1 x2 σ = some (u0, σ0)) : Met l yX10_seeWhoWouldSwear (WS yX10_seeWhoWouldSwear cX10_seeWhoWouldSwear 4 (none)) rm10_seeWhoWouldSwear (va_Pc [.ref (G.2.2 + 0), .int x1, .int x2] (Pd G 212 tt σ)) (P_v G 212 tt u0 σ0) 0 0 (Fr G) := by
  refine ct [(0, .ref (G.2.2 + 0)), (1, .int x1), (2, .int x2)] rfl (by decide) (Nat.le_of_ble_eq_true rfl) ?_
  intro p e s m below meth c ls X hr hlk hR hl
  have X : Cx p s m _ c cX10_seeWhoWouldSwear 4 RX10 G := X
  have hx := X.1
  have hb := X.2.1
  unfold f10_seeWhoWouldSwear at hf
  refine lv_aload_n hx hb dX10_seeWhoWouldSwear_0 rfl (lv_at hl 0 rfl) ?_
  refine r_gs (t := 58) X hR fr_10_64 kh_0 (sx_10_9 kh_0) dX10_seeWhoWouldSwear_1 ?_
  refine lv_aload_n hx hb dX10_seeWhoWouldSwear_4 rfl (lv_at hl 0 rfl) ?_
  refine r_gs (t := 56) X hR fr_10_60 kh_0 (sx_10_8 kh_0) dX10_seeWhoWouldSwear_5 ?_
  obtain ⟨r_1, σ_2, hc_3, hf⟩ := z_b_e hf
  refine go_v hR (mv_run (As := [.ref (G.2.2 + 56)]) (rest := []) X hR mv_10_236 kh_58 (kd_lt kh_58 (by decide)) (c5_become l G N kh_58 kh_56 hc_3) ⟨rfl, rfl, Nat.le_of_ble_eq_true rfl, Nat.le_of_ble_eq_true rfl⟩ rfl hl.1 rfl (Nat.le_of_ble_eq_true rfl) dX10_seeWhoWouldSwear_8 ⟨Nat.zero_le _, Nat.zero_le _⟩) (fun H locs hR => ?_)
  refine lv_iconst (v := (0 : Int32)) hx hb dX10_seeWhoWouldSwear_11 (by decide) ?_
  refine lv_istore_n (lv' := [(3, .int (0 : Int32)), (0, .ref (G.2.2 + 0)), (1, .int x1), (2, .int x2)]) hx hb dX10_seeWhoWouldSwear_12 rfl hl (by decide) rfl (fun ls hl => ?_)
  exact w10_seeWhoWouldSwear_13 X hr hlk N  N (0 : Int32) σ_2 _ _ _ hf hR (lv_sub hl [1, 2, 3, 0] rfl)
abbrev rm10_mirrored : Room := { frames := 0, cells := 0, slots := 0, locals := 0 }
def f10_mirrored_27 (N : Nat) (k4 : Int32 → Int32 → Mm → Option (Int32 × Mm)) (x0 : Int32) (x1 : Int32) (x2 : Int32) (σ : Mm) : Option (Int32 × Mm) :=
  z_l (x2 + (1 : Int32)) fun x2_3 =>
  k4 x1 x2_3 σ
def f10_mirrored_4 (N : Nat) (x0 : Int32) : Nat → Int32 → Int32 → Mm → Option (Int32 × Mm)
  | 0, _, _, _ => none
  | fu + 1, x1, x2, σ => if (7 : Int32) ≤ x2 then (
  some (x1, σ)) else (
  if ((x0 >>> (x2 &&& 31)) &&& (1 : Int32)) = 0 then (
  f10_mirrored_27 N (fun x1 x2 σ => f10_mirrored_4 N x0 fu x1 x2 σ) x0 x1 x2 σ) else (
  z_l ((x1 ||| ((1 : Int32) <<< (((6 : Int32) - x2) &&& 31)))) fun x1_4 =>
  f10_mirrored_27 N (fun x1 x2 σ => f10_mirrored_4 N x0 fu x1 x2 σ) x0 x1_4 x2 σ))
def f10_mirrored (N : Nat) (x0 : Int32) (σ : Mm) : Option (Int32 × Mm) :=
  f10_mirrored_4 N x0 N (0 : Int32) (0 : Int32) σ
set_option maxHeartbeats 4000000 in
set_option maxRecDepth 100000 in
theorem w10_mirrored_27 (X : Cx p s m args c cX10_mirrored 3 RX10 G) (hr : meth.sig.returnType = some .int) (hlk : meth.locks = false) (N : Nat) {x0 : Int32} {k4 : Int32 → Int32 → Mm → Option (Int32 × Mm)} (hk4 : ∀ (x1 : Int32) (x2 : Int32) (σ : Mm) (H : Heap) (locs : List Loc) (ls : Array Slot), k4 x1 x2 σ = some (r0, σ0) → Rp G 212 tt σ s H locs → lv_has ls 3 [(0, .int x0), (1, .int x1), (2, .int x2)] → W p l e rm10_mirrored s m args below meth c H locs 0 0 (MQ below (P_i G 212 tt r0 σ0) args s 0 0 (Fr G)) (F0 m 4 ls [])) :
    ∀ (x1 : Int32) (x2 : Int32) (σ : Mm) (H : Heap) (locs : List Loc) (ls : Array Slot), f10_mirrored_27 N k4 x0 x1 x2 σ = some (r0, σ0) → Rp G 212 tt σ s H locs → lv_has ls 3 [(0, .int x0), (1, .int x1), (2, .int x2)] → W p l e rm10_mirrored s m args below meth c H locs 0 0 (MQ below (P_i G 212 tt r0 σ0) args s 0 0 (Fr G)) (F0 m 27 ls []) := by
  have hx := X.1
  have hb := X.2.1
  intro x1 x2 σ H locs ls hf hR hl
  unfold f10_mirrored_27 at hf
  obtain ⟨x2_3, ex2_3⟩ : ∃ z : Int32, z = x2 + (1 : Int32) := ⟨_, rfl⟩
  replace hf := z_l_e ex2_3 hf
  refine lv_iinc (v := x2_3) (lv' := [(2, .int x2_3), (0, .int x0), (1, .int x1)]) hx hb dX10_mirrored_27 hl (k := 2) rfl (by rw [ex2_3]; rfl) (by decide) rfl (fun ls hl => ?_)
  refine lv_goto (tgt := 4) hx hb dX10_mirrored_30 (by decide) ?_
  exact hk4 x1 x2_3 σ _ _ _ hf hR (lv_sub hl [1, 2, 0] rfl)
set_option maxHeartbeats 4000000 in
set_option maxRecDepth 100000 in
theorem w10_mirrored_4 (X : Cx p s m args c cX10_mirrored 3 RX10 G) (hr : meth.sig.returnType = some .int) (hlk : meth.locks = false) (N : Nat) {x0 : Int32} :
    ∀ (fu : Nat) (x1 : Int32) (x2 : Int32) (σ : Mm) (H : Heap) (locs : List Loc) (ls : Array Slot), f10_mirrored_4 N x0 fu x1 x2 σ = some (r0, σ0) → Rp G 212 tt σ s H locs → lv_has ls 3 [(0, .int x0), (1, .int x1), (2, .int x2)] → W p l e rm10_mirrored s m args below meth c H locs 0 0 (MQ below (P_i G 212 tt r0 σ0) args s 0 0 (Fr G)) (F0 m 4 ls []) := by
  have hx := X.1
  have hb := X.2.1
  intro fu
  induction fu with
  | zero =>
    intro x1 x2 σ H locs ls hf hR hl
    rw [f10_mirrored_4] at hf
    cases hf
  | succ fu ih =>
    intro x1 x2 σ H locs ls hf hR hl
    rw [f10_mirrored_4] at hf
    refine lv_iload_n hx hb dX10_mirrored_4 rfl (lv_at hl 2 rfl) ?_
    refine lv_bipush (v := (7 : Int32)) hx hb dX10_mirrored_5 (by decide) ?_
    refine lv_icmp_ge (tgt := 33) hx hb dX10_mirrored_7 (by decide) (fun c_1 => ?_) (fun c_1 => ?_)
    · replace hf := z_t c_1 hf
      refine lv_iload_n hx hb dX10_mirrored_33 rfl (lv_at hl 1 rfl) ?_
      exact e_i X hR hr hlk hf dX10_mirrored_34
    · replace hf := z_f c_1 hf
      refine lv_iload_n hx hb dX10_mirrored_10 rfl (lv_at hl 0 rfl) ?_
      refine lv_iload_n hx hb dX10_mirrored_11 rfl (lv_at hl 2 rfl) ?_
      refine lv_ishr hx hb dX10_mirrored_12 ?_
      refine lv_iconst (v := (1 : Int32)) hx hb dX10_mirrored_13 (by decide) ?_
      refine lv_iand hx hb dX10_mirrored_14 ?_
      refine lv_if_eq (tgt := 27) hx hb dX10_mirrored_15 (by decide) (fun c_2 => ?_) (fun c_2 => ?_)
      · replace hf := z_t c_2 hf
        exact w10_mirrored_27 X hr hlk N ih x1 x2 σ _ _ _ hf hR (lv_sub hl [0, 1, 2] rfl)
      · replace hf := z_f c_2 hf
        refine lv_iload_n hx hb dX10_mirrored_18 rfl (lv_at hl 1 rfl) ?_
        refine lv_iconst (v := (1 : Int32)) hx hb dX10_mirrored_19 (by decide) ?_
        refine lv_bipush (v := (6 : Int32)) hx hb dX10_mirrored_20 (by decide) ?_
        refine lv_iload_n hx hb dX10_mirrored_22 rfl (lv_at hl 2 rfl) ?_
        refine lv_isub hx hb dX10_mirrored_23 ?_
        refine lv_ishl hx hb dX10_mirrored_24 ?_
        refine lv_ior hx hb dX10_mirrored_25 ?_
        refine lv_topi (fun x1_4 ex1_4 => ?_)
        replace hf := z_l_e ex1_4 hf
        refine lv_istore_n (lv' := [(1, .int x1_4), (0, .int x0), (2, .int x2)]) hx hb dX10_mirrored_26 rfl hl (by decide) rfl (fun ls hl => ?_)
        exact w10_mirrored_27 X hr hlk N ih x1_4 x2 σ _ _ _ hf hR (lv_sub hl [1, 0, 2] rfl)
set_option maxHeartbeats 4000000 in
set_option maxRecDepth 100000 in
theorem c10_mirrored (l : Launch) (G : Gp) (N : Nat) {x0 : Int32} {σ σ0 : Mm} {r0 : Int32} (hf : f10_mirrored N x0 σ = some (r0, σ0)) : Met l yX10_mirrored (WS yX10_mirrored cX10_mirrored 3 (some .int)) rm10_mirrored (va_Pc [.int x0] (Pd G 212 tt σ)) (P_i G 212 tt r0 σ0) 0 0 (Fr G) := by
  refine ct [(0, .int x0)] rfl (by decide) (Nat.le_of_ble_eq_true rfl) ?_
  intro p e s m below meth c ls X hr hlk hR hl
  have X : Cx p s m _ c cX10_mirrored 3 RX10 G := X
  have hx := X.1
  have hb := X.2.1
  unfold f10_mirrored at hf
  refine lv_iconst (v := (0 : Int32)) hx hb dX10_mirrored_0 (by decide) ?_
  refine lv_istore_n (lv' := [(1, .int (0 : Int32)), (0, .int x0)]) hx hb dX10_mirrored_1 rfl hl (by decide) rfl (fun ls hl => ?_)
  refine lv_iconst (v := (0 : Int32)) hx hb dX10_mirrored_2 (by decide) ?_
  refine lv_istore_n (lv' := [(2, .int (0 : Int32)), (1, .int (0 : Int32)), (0, .int x0)]) hx hb dX10_mirrored_3 rfl hl (by decide) rfl (fun ls hl => ?_)
  exact w10_mirrored_4 X hr hlk N  N (0 : Int32) (0 : Int32) σ _ _ _ hf hR (lv_sub hl [2, 1, 0] rfl)
abbrev rm10_coversYears : Room := { frames := 1, cells := 0, slots := 0, locals := 20 }
def f10_coversYears_2 (N : Nat) (x1 : Int32) (x2 : Int32) : Nat → Int32 → Mm → Option (Int32 × Mm)
  | 0, _, _ => none
  | fu + 1, x3, σ => if x2 < x3 then (
  some ((1 : Int32), σ)) else (
  if (61 : Int32) ≤ x3 then (
  some ((1 : Int32), σ)) else (
  z_c (inB x3 61) (
  z_r (gR σ 0 3) 3 fun t_4 =>
  if (gI σ t_4 4) ≤ (bitC ((gI σ 159 (ix x3)) &&& x1)) then (
  z_l (x3 + (1 : Int32)) fun x3_7 =>
  f10_coversYears_2 N x1 x2 fu x3_7 σ) else (
  some ((0 : Int32), σ)))))
def f10_coversYears (N : Nat) (x1 : Int32) (x2 : Int32) (σ : Mm) : Option (Int32 × Mm) :=
  f10_coversYears_2 N x1 x2 N (0 : Int32) σ
set_option maxHeartbeats 4000000 in
set_option maxRecDepth 100000 in
theorem w10_coversYears_2 (X : Cx p s m args c cX10_coversYears 4 RX10 G) (hr : meth.sig.returnType = some .boolean) (hlk : meth.locks = false) (N : Nat) {x1 : Int32} {x2 : Int32} :
    ∀ (fu : Nat) (x3 : Int32) (σ : Mm) (H : Heap) (locs : List Loc) (ls : Array Slot), f10_coversYears_2 N x1 x2 fu x3 σ = some (r0, σ0) → Rp G 212 tt σ s H locs → lv_has ls 4 [(0, .ref (G.2.2 + 0)), (1, .int x1), (2, .int x2), (3, .int x3)] → W p l e rm10_coversYears s m args below meth c H locs 0 0 (MQ below (P_i G 212 tt r0 σ0) args s 0 0 (Fr G)) (F0 m 2 ls []) := by
  have hx := X.1
  have hb := X.2.1
  intro fu
  induction fu with
  | zero =>
    intro x3 σ H locs ls hf hR hl
    rw [f10_coversYears_2] at hf
    cases hf
  | succ fu ih =>
    intro x3 σ H locs ls hf hR hl
    rw [f10_coversYears_2] at hf
    refine lv_iload_n hx hb dX10_coversYears_2 rfl (lv_at hl 3 rfl) ?_
    refine lv_iload_n hx hb dX10_coversYears_3 rfl (lv_at hl 2 rfl) ?_
    refine lv_icmp_gt (tgt := 45) hx hb dX10_coversYears_4 (by decide) (fun c_1 => ?_) (fun c_1 => ?_)
    · replace hf := z_t c_1 hf
      refine lv_iconst (v := (1 : Int32)) hx hb dX10_coversYears_45 (by decide) ?_
      exact e_z X hR hr hlk rfl hf dX10_coversYears_46
    · replace hf := z_f c_1 hf
      refine lv_iload_n hx hb dX10_coversYears_7 rfl (lv_at hl 3 rfl) ?_
      refine lv_aload_n hx hb dX10_coversYears_8 rfl (lv_at hl 0 rfl) ?_
      refine r_gs (t := 159) X hR fr_10_100 kh_0 (sx_10_16 kh_0) dX10_coversYears_9 ?_
      refine r_len (v := (61 : Int32)) X hR ka_159 (by decide) rfl dX10_coversYears_12 ?_
      refine lv_icmp_ge (tgt := 45) hx hb dX10_coversYears_13 (by decide) (fun c_2 => ?_) (fun c_2 => ?_)
      · replace hf := z_t c_2 hf
        refine lv_iconst (v := (1 : Int32)) hx hb dX10_coversYears_45 (by decide) ?_
        exact e_z X hR hr hlk rfl hf dX10_coversYears_46
      · replace hf := z_f c_2 hf
        refine lv_aload_n hx hb dX10_coversYears_16 rfl (lv_at hl 0 rfl) ?_
        refine r_gs (t := 159) X hR fr_10_100 kh_0 (sx_10_16 kh_0) dX10_coversYears_17 ?_
        refine lv_iload_n hx hb dX10_coversYears_20 rfl (lv_at hl 3 rfl) ?_
        obtain ⟨hi_3, hf⟩ := z_c_e hf
        refine r_ial X hR ka_159 hi_3 dX10_coversYears_21 ?_
        refine lv_iload_n hx hb dX10_coversYears_22 rfl (lv_at hl 1 rfl) ?_
        refine lv_iand hx hb dX10_coversYears_23 ?_
        refine go_i hR (ms_run (As := [.int ((gI σ 159 (ix x3)) &&& x1)]) (rest := []) X hR jms_10_150 (cJ_bitC l G) ⟨rfl, rfl, Nat.le_of_ble_eq_true rfl, Nat.le_of_ble_eq_true rfl⟩ rfl hl.1 rfl (Nat.le_of_ble_eq_true rfl) dX10_coversYears_24 ⟨Nat.zero_le _, Nat.zero_le _⟩) (fun H locs hR => ?_)
        refine lv_aload_n hx hb dX10_coversYears_27 rfl (lv_at hl 0 rfl) ?_
        obtain ⟨t_4, ht_5, kht_5, hf⟩ := z_r_e hf
        refine r_gd X hR fr_10_27 kh_0 ht_5 dX10_coversYears_28 ?_
        refine r_gi X hR fi_10_331 kht_5 dX10_coversYears_31 ?_
        refine lv_icmp_ge (tgt := 39) hx hb dX10_coversYears_34 (by decide) (fun c_6 => ?_) (fun c_6 => ?_)
        · replace hf := z_t c_6 hf
          obtain ⟨x3_7, ex3_7⟩ : ∃ z : Int32, z = x3 + (1 : Int32) := ⟨_, rfl⟩
          replace hf := z_l_e ex3_7 hf
          refine lv_iinc (v := x3_7) (lv' := [(3, .int x3_7), (0, .ref (G.2.2 + 0)), (1, .int x1), (2, .int x2)]) hx hb dX10_coversYears_39 hl (k := 3) rfl (by rw [ex3_7]; rfl) (by decide) rfl (fun ls hl => ?_)
          refine lv_goto (tgt := 2) hx hb dX10_coversYears_42 (by decide) ?_
          exact ih x3_7 σ _ _ _ hf hR (lv_sub hl [1, 2, 3, 0] rfl)
        · replace hf := z_f c_6 hf
          refine lv_iconst (v := (0 : Int32)) hx hb dX10_coversYears_37 (by decide) ?_
          exact e_z X hR hr hlk rfl hf dX10_coversYears_38
set_option maxHeartbeats 4000000 in
set_option maxRecDepth 100000 in
theorem c10_coversYears (l : Launch) (G : Gp) (N : Nat) {x1 : Int32} {x2 : Int32} {σ σ0 : Mm} {r0 : Int32} (hf : f10_coversYears N x1 x2 σ = some (r0, σ0)) : Met l yX10_coversYears (WS yX10_coversYears cX10_coversYears 4 (some .boolean)) rm10_coversYears (va_Pc [.ref (G.2.2 + 0), .int x1, .int x2] (Pd G 212 tt σ)) (P_i G 212 tt r0 σ0) 0 0 (Fr G) := by
  refine ct [(0, .ref (G.2.2 + 0)), (1, .int x1), (2, .int x2)] rfl (by decide) (Nat.le_of_ble_eq_true rfl) ?_
  intro p e s m below meth c ls X hr hlk hR hl
  have X : Cx p s m _ c cX10_coversYears 4 RX10 G := X
  have hx := X.1
  have hb := X.2.1
  unfold f10_coversYears at hf
  refine lv_iconst (v := (0 : Int32)) hx hb dX10_coversYears_0 (by decide) ?_
  refine lv_istore_n (lv' := [(3, .int (0 : Int32)), (0, .ref (G.2.2 + 0)), (1, .int x1), (2, .int x2)]) hx hb dX10_coversYears_1 rfl hl (by decide) rfl (fun ls hl => ?_)
  exact w10_coversYears_2 X hr hlk N  N (0 : Int32) σ _ _ _ hf hR (lv_sub hl [1, 2, 3, 0] rfl)
abbrev rm10_fewestWitnesses : Room := { frames := 3, cells := 0, slots := 0, locals := 91 }
def f10_fewestWitnesses_74 (N : Nat) (k8 : Int32 → Mm → Option (Int32 × Mm)) (x1 : Int32) (x2 : Int32) (σ : Mm) : Option (Int32 × Mm) :=
  z_l (x2 + (1 : Int32)) fun x2_9 =>
  k8 x2_9 σ
def f10_fewestWitnesses_68 (N : Nat) (k8 : Int32 → Mm → Option (Int32 × Mm)) (k22 : Int32 → Mm → Option (Int32 × Mm)) (x1 : Int32) (x2 : Int32) (x3 : Int32) (σ : Mm) : Option (Int32 × Mm) :=
  z_l (x3 + (-1 : Int32)) fun x3_11 =>
  k22 x3_11 σ
def f10_fewestWitnesses_22 (N : Nat) (k8 : Int32 → Mm → Option (Int32 × Mm)) (x1 : Int32) (x2 : Int32) : Nat → Int32 → Mm → Option (Int32 × Mm)
  | 0, _, _ => none
  | fu + 1, x3, σ => if x3 ≤ 0 then (
  f10_fewestWitnesses_74 N k8 x1 x2 σ) else (
  if (bitC x3) = x2 then (
  z_b (f10_mirrored N x3 σ) fun r_12 σ_13 =>
  if (r_12 &&& ((gI σ_13 56 1) ^^^ (-1 : Int32))) = 0 then (
  z_b (f10_coversYears N r_12 x1 σ_13) fun r_16 σ_17 =>
  if r_16 = 0 then (
  f10_fewestWitnesses_68 N k8 (fun x3 σ => f10_fewestWitnesses_22 N k8 x1 x2 fu x3 σ) x1 x2 x3 σ_17) else (
  some (r_12, σ_17))) else (
  f10_fewestWitnesses_68 N k8 (fun x3 σ => f10_fewestWitnesses_22 N k8 x1 x2 fu x3 σ) x1 x2 x3 σ_13)) else (
  f10_fewestWitnesses_68 N k8 (fun x3 σ => f10_fewestWitnesses_22 N k8 x1 x2 fu x3 σ) x1 x2 x3 σ))
def f10_fewestWitnesses_8 (N : Nat) (x1 : Int32) : Nat → Int32 → Mm → Option (Int32 × Mm)
  | 0, _, _ => none
  | fu + 1, x2, σ => if (4 : Int32) < x2 then (
  some ((0 : Int32), σ)) else (
  z_b (f10_seeWhoWouldSwear N x1 x2 σ) fun _ σ_6 =>
  f10_fewestWitnesses_22 N (fun x2 σ => f10_fewestWitnesses_8 N x1 fu x2 σ) x1 x2 N (127 : Int32) σ_6)
def f10_fewestWitnesses (N : Nat) (x1 : Int32) (σ : Mm) : Option (Int32 × Mm) :=
  z_r (gR σ 0 3) 3 fun t_1 =>
  z_l ((gI σ t_1 4)) fun x2_3 =>
  f10_fewestWitnesses_8 N x1 N x2_3 σ
set_option maxHeartbeats 4000000 in
set_option maxRecDepth 100000 in
theorem w10_fewestWitnesses_74 (X : Cx p s m args c cX10_fewestWitnesses 5 RX10 G) (hr : meth.sig.returnType = some .int) (hlk : meth.locks = false) (N : Nat) {x1 : Int32} {k8 : Int32 → Mm → Option (Int32 × Mm)} (hk8 : ∀ (x2 : Int32) (σ : Mm) (H : Heap) (locs : List Loc) (ls : Array Slot), k8 x2 σ = some (r0, σ0) → Rp G 212 tt σ s H locs → lv_has ls 5 [(0, .ref (G.2.2 + 0)), (1, .int x1), (2, .int x2)] → W p l e rm10_fewestWitnesses s m args below meth c H locs 0 0 (MQ below (P_i G 212 tt r0 σ0) args s 0 0 (Fr G)) (F0 m 8 ls [])) :
    ∀ (x2 : Int32) (σ : Mm) (H : Heap) (locs : List Loc) (ls : Array Slot), f10_fewestWitnesses_74 N k8 x1 x2 σ = some (r0, σ0) → Rp G 212 tt σ s H locs → lv_has ls 5 [(0, .ref (G.2.2 + 0)), (1, .int x1), (2, .int x2)] → W p l e rm10_fewestWitnesses s m args below meth c H locs 0 0 (MQ below (P_i G 212 tt r0 σ0) args s 0 0 (Fr G)) (F0 m 74 ls []) := by
  have hx := X.1
  have hb := X.2.1
  intro x2 σ H locs ls hf hR hl
  unfold f10_fewestWitnesses_74 at hf
  obtain ⟨x2_9, ex2_9⟩ : ∃ z : Int32, z = x2 + (1 : Int32) := ⟨_, rfl⟩
  replace hf := z_l_e ex2_9 hf
  refine lv_iinc (v := x2_9) (lv' := [(2, .int x2_9), (0, .ref (G.2.2 + 0)), (1, .int x1)]) hx hb dX10_fewestWitnesses_74 hl (k := 2) rfl (by rw [ex2_9]; rfl) (by decide) rfl (fun ls hl => ?_)
  refine lv_goto (tgt := 8) hx hb dX10_fewestWitnesses_77 (by decide) ?_
  exact hk8 x2_9 σ _ _ _ hf hR (lv_sub hl [1, 2, 0] rfl)
set_option maxHeartbeats 4000000 in
set_option maxRecDepth 100000 in
theorem w10_fewestWitnesses_68 (X : Cx p s m args c cX10_fewestWitnesses 5 RX10 G) (hr : meth.sig.returnType = some .int) (hlk : meth.locks = false) (N : Nat) {x1 : Int32} {x2 : Int32} {k8 : Int32 → Mm → Option (Int32 × Mm)} (hk8 : ∀ (x2 : Int32) (σ : Mm) (H : Heap) (locs : List Loc) (ls : Array Slot), k8 x2 σ = some (r0, σ0) → Rp G 212 tt σ s H locs → lv_has ls 5 [(0, .ref (G.2.2 + 0)), (1, .int x1), (2, .int x2)] → W p l e rm10_fewestWitnesses s m args below meth c H locs 0 0 (MQ below (P_i G 212 tt r0 σ0) args s 0 0 (Fr G)) (F0 m 8 ls [])) {k22 : Int32 → Mm → Option (Int32 × Mm)} (hk22 : ∀ (x3 : Int32) (σ : Mm) (H : Heap) (locs : List Loc) (ls : Array Slot), k22 x3 σ = some (r0, σ0) → Rp G 212 tt σ s H locs → lv_has ls 5 [(0, .ref (G.2.2 + 0)), (1, .int x1), (2, .int x2), (3, .int x3)] → W p l e rm10_fewestWitnesses s m args below meth c H locs 0 0 (MQ below (P_i G 212 tt r0 σ0) args s 0 0 (Fr G)) (F0 m 22 ls [])) :
    ∀ (x3 : Int32) (σ : Mm) (H : Heap) (locs : List Loc) (ls : Array Slot), f10_fewestWitnesses_68 N k8 k22 x1 x2 x3 σ = some (r0, σ0) → Rp G 212 tt σ s H locs → lv_has ls 5 [(0, .ref (G.2.2 + 0)), (1, .int x1), (2, .int x2), (3, .int x3)] → W p l e rm10_fewestWitnesses s m args below meth c H locs 0 0 (MQ below (P_i G 212 tt r0 σ0) args s 0 0 (Fr G)) (F0 m 68 ls []) := by
  have hx := X.1
  have hb := X.2.1
  intro x3 σ H locs ls hf hR hl
  unfold f10_fewestWitnesses_68 at hf
  obtain ⟨x3_11, ex3_11⟩ : ∃ z : Int32, z = x3 + (-1 : Int32) := ⟨_, rfl⟩
  replace hf := z_l_e ex3_11 hf
  refine lv_iinc (v := x3_11) (lv' := [(3, .int x3_11), (0, .ref (G.2.2 + 0)), (1, .int x1), (2, .int x2)]) hx hb dX10_fewestWitnesses_68 hl (k := 3) rfl (by rw [ex3_11]; rfl) (by decide) rfl (fun ls hl => ?_)
  refine lv_goto (tgt := 22) hx hb dX10_fewestWitnesses_71 (by decide) ?_
  exact hk22 x3_11 σ _ _ _ hf hR (lv_sub hl [1, 2, 3, 0] rfl)
set_option maxHeartbeats 4000000 in
set_option maxRecDepth 100000 in
theorem w10_fewestWitnesses_22 (X : Cx p s m args c cX10_fewestWitnesses 5 RX10 G) (hr : meth.sig.returnType = some .int) (hlk : meth.locks = false) (N : Nat) {x1 : Int32} {x2 : Int32} {k8 : Int32 → Mm → Option (Int32 × Mm)} (hk8 : ∀ (x2 : Int32) (σ : Mm) (H : Heap) (locs : List Loc) (ls : Array Slot), k8 x2 σ = some (r0, σ0) → Rp G 212 tt σ s H locs → lv_has ls 5 [(0, .ref (G.2.2 + 0)), (1, .int x1), (2, .int x2)] → W p l e rm10_fewestWitnesses s m args below meth c H locs 0 0 (MQ below (P_i G 212 tt r0 σ0) args s 0 0 (Fr G)) (F0 m 8 ls [])) :
    ∀ (fu : Nat) (x3 : Int32) (σ : Mm) (H : Heap) (locs : List Loc) (ls : Array Slot), f10_fewestWitnesses_22 N k8 x1 x2 fu x3 σ = some (r0, σ0) → Rp G 212 tt σ s H locs → lv_has ls 5 [(0, .ref (G.2.2 + 0)), (1, .int x1), (2, .int x2), (3, .int x3)] → W p l e rm10_fewestWitnesses s m args below meth c H locs 0 0 (MQ below (P_i G 212 tt r0 σ0) args s 0 0 (Fr G)) (F0 m 22 ls []) := by
  have hx := X.1
  have hb := X.2.1
  intro fu
  induction fu with
  | zero =>
    intro x3 σ H locs ls hf hR hl
    rw [f10_fewestWitnesses_22] at hf
    cases hf
  | succ fu ih =>
    intro x3 σ H locs ls hf hR hl
    rw [f10_fewestWitnesses_22] at hf
    refine lv_iload_n hx hb dX10_fewestWitnesses_22 rfl (lv_at hl 3 rfl) ?_
    refine lv_if_le (tgt := 74) hx hb dX10_fewestWitnesses_23 (by decide) (fun c_8 => ?_) (fun c_8 => ?_)
    · replace hf := z_t c_8 hf
      exact w10_fewestWitnesses_74 X hr hlk N hk8 x2 σ _ _ _ hf hR (lv_sub hl [0, 1, 2] rfl)
    · replace hf := z_f c_8 hf
      refine lv_iload_n hx hb dX10_fewestWitnesses_26 rfl (lv_at hl 3 rfl) ?_
      refine go_i hR (ms_run (As := [.int x3]) (rest := []) X hR jms_10_150 (cJ_bitC l G) ⟨rfl, rfl, Nat.le_of_ble_eq_true rfl, Nat.le_of_ble_eq_true rfl⟩ rfl hl.1 rfl (Nat.le_of_ble_eq_true rfl) dX10_fewestWitnesses_27 ⟨Nat.zero_le _, Nat.zero_le _⟩) (fun H locs hR => ?_)
      refine lv_iload_n hx hb dX10_fewestWitnesses_30 rfl (lv_at hl 2 rfl) ?_
      refine lv_icmp_ne (tgt := 68) hx hb dX10_fewestWitnesses_31 (by decide) (fun c_10 => ?_) (fun c_10 => ?_)
      · replace hf := z_f c_10 hf
        exact w10_fewestWitnesses_68 X hr hlk N hk8 ih x3 σ _ _ _ hf hR (lv_sub hl [0, 1, 2, 3] rfl)
      · replace hf := z_t c_10 hf
        refine lv_iload_n hx hb dX10_fewestWitnesses_34 rfl (lv_at hl 3 rfl) ?_
        obtain ⟨r_12, σ_13, hc_14, hf⟩ := z_b_e hf
        refine go_i hR (ms_run (As := [.int x3]) (rest := []) X hR ms_10_357 (c10_mirrored l G N hc_14) ⟨rfl, rfl, Nat.le_of_ble_eq_true rfl, Nat.le_of_ble_eq_true rfl⟩ rfl hl.1 rfl (Nat.le_of_ble_eq_true rfl) dX10_fewestWitnesses_35 ⟨Nat.zero_le _, Nat.zero_le _⟩) (fun H locs hR => ?_)
        refine lv_istore (lv' := [(4, .int r_12), (0, .ref (G.2.2 + 0)), (1, .int x1), (2, .int x2), (3, .int x3)]) hx hb dX10_fewestWitnesses_38 hl (by decide) rfl (fun ls hl => ?_)
        refine lv_iload hx hb dX10_fewestWitnesses_40 (lv_at hl 0 rfl) ?_
        refine lv_aload_n hx hb dX10_fewestWitnesses_42 rfl (lv_at hl 1 rfl) ?_
        refine r_gs (t := 56) X hR fr_10_60 kh_0 (sx_10_8 kh_0) dX10_fewestWitnesses_43 ?_
        refine r_gi X hR fi_10_165 kh_56 dX10_fewestWitnesses_46 ?_
        refine lv_iconst (v := (-1 : Int32)) hx hb dX10_fewestWitnesses_49 (by decide) ?_
        refine lv_ixor hx hb dX10_fewestWitnesses_50 ?_
        refine lv_iand hx hb dX10_fewestWitnesses_51 ?_
        refine lv_if_ne (tgt := 68) hx hb dX10_fewestWitnesses_52 (by decide) (fun c_15 => ?_) (fun c_15 => ?_)
        · replace hf := z_f c_15 hf
          exact w10_fewestWitnesses_68 X hr hlk N hk8 ih x3 σ_13 _ _ _ hf hR (lv_sub hl [1, 2, 3, 4] rfl)
        · replace hf := z_t c_15 hf
          refine lv_aload_n hx hb dX10_fewestWitnesses_55 rfl (lv_at hl 1 rfl) ?_
          refine lv_iload hx hb dX10_fewestWitnesses_56 (lv_at hl 0 rfl) ?_
          refine lv_iload_n hx hb dX10_fewestWitnesses_58 rfl (lv_at hl 2 rfl) ?_
          obtain ⟨r_16, σ_17, hc_18, hf⟩ := z_b_e hf
          refine go_i hR (mv_run (As := [.int r_12, .int x1]) (rest := []) X hR mv_10_360 kh_0 (kd_lt kh_0 (by decide)) (c10_coversYears l G N hc_18) ⟨rfl, rfl, Nat.le_of_ble_eq_true rfl, Nat.le_of_ble_eq_true rfl⟩ rfl hl.1 rfl (Nat.le_of_ble_eq_true rfl) dX10_fewestWitnesses_59 ⟨Nat.zero_le _, Nat.zero_le _⟩) (fun H locs hR => ?_)
          refine lv_if_eq (tgt := 68) hx hb dX10_fewestWitnesses_62 (by decide) (fun c_19 => ?_) (fun c_19 => ?_)
          · replace hf := z_t c_19 hf
            exact w10_fewestWitnesses_68 X hr hlk N hk8 ih x3 σ_17 _ _ _ hf hR (lv_sub hl [1, 2, 3, 4] rfl)
          · replace hf := z_f c_19 hf
            refine lv_iload hx hb dX10_fewestWitnesses_65 (lv_at hl 0 rfl) ?_
            exact e_i X hR hr hlk hf dX10_fewestWitnesses_67
set_option maxHeartbeats 4000000 in
set_option maxRecDepth 100000 in
theorem w10_fewestWitnesses_8 (X : Cx p s m args c cX10_fewestWitnesses 5 RX10 G) (hr : meth.sig.returnType = some .int) (hlk : meth.locks = false) (N : Nat) {x1 : Int32} :
    ∀ (fu : Nat) (x2 : Int32) (σ : Mm) (H : Heap) (locs : List Loc) (ls : Array Slot), f10_fewestWitnesses_8 N x1 fu x2 σ = some (r0, σ0) → Rp G 212 tt σ s H locs → lv_has ls 5 [(0, .ref (G.2.2 + 0)), (1, .int x1), (2, .int x2)] → W p l e rm10_fewestWitnesses s m args below meth c H locs 0 0 (MQ below (P_i G 212 tt r0 σ0) args s 0 0 (Fr G)) (F0 m 8 ls []) := by
  have hx := X.1
  have hb := X.2.1
  intro fu
  induction fu with
  | zero =>
    intro x2 σ H locs ls hf hR hl
    rw [f10_fewestWitnesses_8] at hf
    cases hf
  | succ fu ih =>
    intro x2 σ H locs ls hf hR hl
    rw [f10_fewestWitnesses_8] at hf
    refine lv_iload_n hx hb dX10_fewestWitnesses_8 rfl (lv_at hl 2 rfl) ?_
    refine lv_iconst (v := (4 : Int32)) hx hb dX10_fewestWitnesses_9 (by decide) ?_
    refine lv_icmp_gt (tgt := 80) hx hb dX10_fewestWitnesses_10 (by decide) (fun c_4 => ?_) (fun c_4 => ?_)
    · replace hf := z_t c_4 hf
      refine lv_iconst (v := (0 : Int32)) hx hb dX10_fewestWitnesses_80 (by decide) ?_
      exact e_i X hR hr hlk hf dX10_fewestWitnesses_81
    · replace hf := z_f c_4 hf
      refine lv_aload_n hx hb dX10_fewestWitnesses_13 rfl (lv_at hl 0 rfl) ?_
      refine lv_iload_n hx hb dX10_fewestWitnesses_14 rfl (lv_at hl 1 rfl) ?_
      refine lv_iload_n hx hb dX10_fewestWitnesses_15 rfl (lv_at hl 2 rfl) ?_
      obtain ⟨r_5, σ_6, hc_7, hf⟩ := z_b_e hf
      refine go_v hR (mv_run (As := [.int x1, .int x2]) (rest := []) X hR mv_10_354 kh_0 (kd_lt kh_0 (by decide)) (c10_seeWhoWouldSwear l G N hc_7) ⟨rfl, rfl, Nat.le_of_ble_eq_true rfl, Nat.le_of_ble_eq_true rfl⟩ rfl hl.1 rfl (Nat.le_of_ble_eq_true rfl) dX10_fewestWitnesses_16 ⟨Nat.zero_le _, Nat.zero_le _⟩) (fun H locs hR => ?_)
      refine lv_bipush (v := (127 : Int32)) hx hb dX10_fewestWitnesses_19 (by decide) ?_
      refine lv_istore_n (lv' := [(3, .int (127 : Int32)), (0, .ref (G.2.2 + 0)), (1, .int x1), (2, .int x2)]) hx hb dX10_fewestWitnesses_21 rfl hl (by decide) rfl (fun ls hl => ?_)
      exact w10_fewestWitnesses_22 X hr hlk N ih N (127 : Int32) σ_6 _ _ _ hf hR (lv_sub hl [1, 2, 3, 0] rfl)
set_option maxHeartbeats 4000000 in
set_option maxRecDepth 100000 in
theorem c10_fewestWitnesses (l : Launch) (G : Gp) (N : Nat) {x1 : Int32} {σ σ0 : Mm} {r0 : Int32} (hf : f10_fewestWitnesses N x1 σ = some (r0, σ0)) : Met l yX10_fewestWitnesses (WS yX10_fewestWitnesses cX10_fewestWitnesses 5 (some .int)) rm10_fewestWitnesses (va_Pc [.ref (G.2.2 + 0), .int x1] (Pd G 212 tt σ)) (P_i G 212 tt r0 σ0) 0 0 (Fr G) := by
  refine ct [(0, .ref (G.2.2 + 0)), (1, .int x1)] rfl (by decide) (Nat.le_of_ble_eq_true rfl) ?_
  intro p e s m below meth c ls X hr hlk hR hl
  have X : Cx p s m _ c cX10_fewestWitnesses 5 RX10 G := X
  have hx := X.1
  have hb := X.2.1
  unfold f10_fewestWitnesses at hf
  refine lv_aload_n hx hb dX10_fewestWitnesses_0 rfl (lv_at hl 0 rfl) ?_
  obtain ⟨t_1, ht_2, kht_2, hf⟩ := z_r_e hf
  refine r_gd X hR fr_10_27 kh_0 ht_2 dX10_fewestWitnesses_1 ?_
  refine r_gi X hR fi_10_331 kht_2 dX10_fewestWitnesses_4 ?_
  refine lv_topi (fun x2_3 ex2_3 => ?_)
  replace hf := z_l_e ex2_3 hf
  refine lv_istore_n (lv' := [(2, .int x2_3), (0, .ref (G.2.2 + 0)), (1, .int x1)]) hx hb dX10_fewestWitnesses_7 rfl hl (by decide) rfl (fun ls hl => ?_)
  exact w10_fewestWitnesses_8 X hr hlk N  N x2_3 σ _ _ _ hf hR (lv_sub hl [1, 2, 0] rfl)
abbrev rm10_bitAt : Room := { frames := 0, cells := 0, slots := 0, locals := 0 }
def f10_bitAt_28 (N : Nat) (k4 : Int32 → Int32 → Mm → Option (Int32 × Mm)) (x0 : Int32) (x1 : Int32) (x2 : Int32) (x3 : Int32) (σ : Mm) : Option (Int32 × Mm) :=
  z_l (x3 + (1 : Int32)) fun x3_3 =>
  k4 x2 x3_3 σ
def f10_bitAt_4 (N : Nat) (x0 : Int32) (x1 : Int32) : Nat → Int32 → Int32 → Mm → Option (Int32 × Mm)
  | 0, _, _, _ => none
  | fu + 1, x2, x3, σ => if (20 : Int32) ≤ x3 then (
  some ((-1 : Int32), σ)) else (
  if ((ush x0 x3) &&& (1 : Int32)) = 0 then (
  f10_bitAt_28 N (fun x2 x3 σ => f10_bitAt_4 N x0 x1 fu x2 x3 σ) x0 x1 x2 x3 σ) else (
  if x2 = x1 then (
  some (x3, σ)) else (
  z_l (x2 + (1 : Int32)) fun x2_5 =>
  f10_bitAt_28 N (fun x2 x3 σ => f10_bitAt_4 N x0 x1 fu x2 x3 σ) x0 x1 x2_5 x3 σ)))
def f10_bitAt (N : Nat) (x0 : Int32) (x1 : Int32) (σ : Mm) : Option (Int32 × Mm) :=
  f10_bitAt_4 N x0 x1 N (0 : Int32) (0 : Int32) σ
set_option maxHeartbeats 4000000 in
set_option maxRecDepth 100000 in
theorem w10_bitAt_28 (X : Cx p s m args c cX10_bitAt 4 RX10 G) (hr : meth.sig.returnType = some .int) (hlk : meth.locks = false) (N : Nat) {x0 : Int32} {x1 : Int32} {k4 : Int32 → Int32 → Mm → Option (Int32 × Mm)} (hk4 : ∀ (x2 : Int32) (x3 : Int32) (σ : Mm) (H : Heap) (locs : List Loc) (ls : Array Slot), k4 x2 x3 σ = some (r0, σ0) → Rp G 212 tt σ s H locs → lv_has ls 4 [(0, .int x0), (1, .int x1), (2, .int x2), (3, .int x3)] → W p l e rm10_bitAt s m args below meth c H locs 0 0 (MQ below (P_i G 212 tt r0 σ0) args s 0 0 (Fr G)) (F0 m 4 ls [])) :
    ∀ (x2 : Int32) (x3 : Int32) (σ : Mm) (H : Heap) (locs : List Loc) (ls : Array Slot), f10_bitAt_28 N k4 x0 x1 x2 x3 σ = some (r0, σ0) → Rp G 212 tt σ s H locs → lv_has ls 4 [(0, .int x0), (1, .int x1), (2, .int x2), (3, .int x3)] → W p l e rm10_bitAt s m args below meth c H locs 0 0 (MQ below (P_i G 212 tt r0 σ0) args s 0 0 (Fr G)) (F0 m 28 ls []) := by
  have hx := X.1
  have hb := X.2.1
  intro x2 x3 σ H locs ls hf hR hl
  unfold f10_bitAt_28 at hf
  obtain ⟨x3_3, ex3_3⟩ : ∃ z : Int32, z = x3 + (1 : Int32) := ⟨_, rfl⟩
  replace hf := z_l_e ex3_3 hf
  refine lv_iinc (v := x3_3) (lv' := [(3, .int x3_3), (0, .int x0), (1, .int x1), (2, .int x2)]) hx hb dX10_bitAt_28 hl (k := 3) rfl (by rw [ex3_3]; rfl) (by decide) rfl (fun ls hl => ?_)
  refine lv_goto (tgt := 4) hx hb dX10_bitAt_31 (by decide) ?_
  exact hk4 x2 x3_3 σ _ _ _ hf hR (lv_sub hl [1, 2, 3, 0] rfl)
set_option maxHeartbeats 4000000 in
set_option maxRecDepth 100000 in
theorem w10_bitAt_4 (X : Cx p s m args c cX10_bitAt 4 RX10 G) (hr : meth.sig.returnType = some .int) (hlk : meth.locks = false) (N : Nat) {x0 : Int32} {x1 : Int32} :
    ∀ (fu : Nat) (x2 : Int32) (x3 : Int32) (σ : Mm) (H : Heap) (locs : List Loc) (ls : Array Slot), f10_bitAt_4 N x0 x1 fu x2 x3 σ = some (r0, σ0) → Rp G 212 tt σ s H locs → lv_has ls 4 [(0, .int x0), (1, .int x1), (2, .int x2), (3, .int x3)] → W p l e rm10_bitAt s m args below meth c H locs 0 0 (MQ below (P_i G 212 tt r0 σ0) args s 0 0 (Fr G)) (F0 m 4 ls []) := by
  have hx := X.1
  have hb := X.2.1
  intro fu
  induction fu with
  | zero =>
    intro x2 x3 σ H locs ls hf hR hl
    rw [f10_bitAt_4] at hf
    cases hf
  | succ fu ih =>
    intro x2 x3 σ H locs ls hf hR hl
    rw [f10_bitAt_4] at hf
    refine lv_iload_n hx hb dX10_bitAt_4 rfl (lv_at hl 3 rfl) ?_
    refine lv_bipush (v := (20 : Int32)) hx hb dX10_bitAt_5 (by decide) ?_
    refine lv_icmp_ge (tgt := 34) hx hb dX10_bitAt_7 (by decide) (fun c_1 => ?_) (fun c_1 => ?_)
    · replace hf := z_t c_1 hf
      refine lv_iconst (v := (-1 : Int32)) hx hb dX10_bitAt_34 (by decide) ?_
      exact e_i X hR hr hlk hf dX10_bitAt_35
    · replace hf := z_f c_1 hf
      refine lv_iload_n hx hb dX10_bitAt_10 rfl (lv_at hl 0 rfl) ?_
      refine lv_iload_n hx hb dX10_bitAt_11 rfl (lv_at hl 3 rfl) ?_
      refine lv_iushr (v := (ush x0 x3)) hx hb dX10_bitAt_12 rfl ?_
      refine lv_iconst (v := (1 : Int32)) hx hb dX10_bitAt_13 (by decide) ?_
      refine lv_iand hx hb dX10_bitAt_14 ?_
      refine lv_if_eq (tgt := 28) hx hb dX10_bitAt_15 (by decide) (fun c_2 => ?_) (fun c_2 => ?_)
      · replace hf := z_t c_2 hf
        exact w10_bitAt_28 X hr hlk N ih x2 x3 σ _ _ _ hf hR (lv_sub hl [0, 1, 2, 3] rfl)
      · replace hf := z_f c_2 hf
        refine lv_iload_n hx hb dX10_bitAt_18 rfl (lv_at hl 2 rfl) ?_
        refine lv_iload_n hx hb dX10_bitAt_19 rfl (lv_at hl 1 rfl) ?_
        refine lv_icmp_ne (tgt := 25) hx hb dX10_bitAt_20 (by decide) (fun c_4 => ?_) (fun c_4 => ?_)
        · replace hf := z_f c_4 hf
          obtain ⟨x2_5, ex2_5⟩ : ∃ z : Int32, z = x2 + (1 : Int32) := ⟨_, rfl⟩
          replace hf := z_l_e ex2_5 hf
          refine lv_iinc (v := x2_5) (lv' := [(2, .int x2_5), (0, .int x0), (1, .int x1), (3, .int x3)]) hx hb dX10_bitAt_25 hl (k := 2) rfl (by rw [ex2_5]; rfl) (by decide) rfl (fun ls hl => ?_)
          exact w10_bitAt_28 X hr hlk N ih x2_5 x3 σ _ _ _ hf hR (lv_sub hl [1, 2, 0, 3] rfl)
        · replace hf := z_t c_4 hf
          refine lv_iload_n hx hb dX10_bitAt_23 rfl (lv_at hl 3 rfl) ?_
          exact e_i X hR hr hlk hf dX10_bitAt_24
set_option maxHeartbeats 4000000 in
set_option maxRecDepth 100000 in
theorem c10_bitAt (l : Launch) (G : Gp) (N : Nat) {x0 : Int32} {x1 : Int32} {σ σ0 : Mm} {r0 : Int32} (hf : f10_bitAt N x0 x1 σ = some (r0, σ0)) : Met l yX10_bitAt (WS yX10_bitAt cX10_bitAt 4 (some .int)) rm10_bitAt (va_Pc [.int x0, .int x1] (Pd G 212 tt σ)) (P_i G 212 tt r0 σ0) 0 0 (Fr G) := by
  refine ct [(0, .int x0), (1, .int x1)] rfl (by decide) (Nat.le_of_ble_eq_true rfl) ?_
  intro p e s m below meth c ls X hr hlk hR hl
  have X : Cx p s m _ c cX10_bitAt 4 RX10 G := X
  have hx := X.1
  have hb := X.2.1
  unfold f10_bitAt at hf
  refine lv_iconst (v := (0 : Int32)) hx hb dX10_bitAt_0 (by decide) ?_
  refine lv_istore_n (lv' := [(2, .int (0 : Int32)), (0, .int x0), (1, .int x1)]) hx hb dX10_bitAt_1 rfl hl (by decide) rfl (fun ls hl => ?_)
  refine lv_iconst (v := (0 : Int32)) hx hb dX10_bitAt_2 (by decide) ?_
  refine lv_istore_n (lv' := [(3, .int (0 : Int32)), (2, .int (0 : Int32)), (0, .int x0), (1, .int x1)]) hx hb dX10_bitAt_3 rfl hl (by decide) rfl (fun ls hl => ?_)
  exact w10_bitAt_4 X hr hlk N  N (0 : Int32) (0 : Int32) σ _ _ _ hf hR (lv_sub hl [2, 3, 1, 0] rfl)
abbrev rm10_cover : Room := { frames := 4, cells := 0, slots := 0, locals := 115 }
def f10_cover (N : Nat) (x1 : Int32) (x2 : Int32) (σ : Mm) : Option (Int32 × Mm) :=
  z_b (f10_noYears N x1 σ) fun r_1 σ_2 =>
  if r_1 = 0 then (
  if x2 < (-1 : Int32) then (
  some ((-1 : Int32), σ_2)) else (
  if x2 < (4 : Int32) then (
  z_b (f10_fewestWitnesses N x1 σ_2) fun r_7 σ_8 =>
  if r_7 = 0 then (
  some ((-2 : Int32), σ_8)) else (
  if x2 = (-1 : Int32) then (
  some ((bitC r_7), σ_8)) else (
  z_b (f10_bitAt N r_7 x2 σ_8) fun r_12 σ_13 =>
  some (r_12, σ_13)))) else (
  some ((-1 : Int32), σ_2)))) else (
  some ((-1 : Int32), σ_2))
set_option maxHeartbeats 4000000 in
set_option maxRecDepth 100000 in
theorem c10_cover (l : Launch) (G : Gp) (N : Nat) {x1 : Int32} {x2 : Int32} {σ σ0 : Mm} {r0 : Int32} (hf : f10_cover N x1 x2 σ = some (r0, σ0)) : Met l yX10_cover (WS yX10_cover cX10_cover 4 (some .int)) rm10_cover (va_Pc [.ref (G.2.2 + 0), .int x1, .int x2] (Pd G 212 tt σ)) (P_i G 212 tt r0 σ0) 0 0 (Fr G) := by
  refine ct [(0, .ref (G.2.2 + 0)), (1, .int x1), (2, .int x2)] rfl (by decide) (Nat.le_of_ble_eq_true rfl) ?_
  intro p e s m below meth c ls X hr hlk hR hl
  have X : Cx p s m _ c cX10_cover 4 RX10 G := X
  have hx := X.1
  have hb := X.2.1
  unfold f10_cover at hf
  refine lv_iload_n hx hb dX10_cover_0 rfl (lv_at hl 1 rfl) ?_
  obtain ⟨r_1, σ_2, hc_3, hf⟩ := z_b_e hf
  refine go_i hR (ms_run (As := [.int x1]) (rest := []) X hR ms_10_222 (c10_noYears l G N hc_3) ⟨rfl, rfl, Nat.le_of_ble_eq_true rfl, Nat.le_of_ble_eq_true rfl⟩ rfl hl.1 rfl (Nat.le_of_ble_eq_true rfl) dX10_cover_1 ⟨Nat.zero_le _, Nat.zero_le _⟩) (fun H locs hR => ?_)
  refine lv_if_ne (tgt := 17) hx hb dX10_cover_4 (by decide) (fun c_4 => ?_) (fun c_4 => ?_)
  · replace hf := z_f c_4 hf
    refine lv_iconst (v := (-1 : Int32)) hx hb dX10_cover_17 (by decide) ?_
    exact e_i X hR hr hlk hf dX10_cover_18
  · replace hf := z_t c_4 hf
    refine lv_iload_n hx hb dX10_cover_7 rfl (lv_at hl 2 rfl) ?_
    refine lv_iconst (v := (-1 : Int32)) hx hb dX10_cover_8 (by decide) ?_
    refine lv_icmp_lt (tgt := 17) hx hb dX10_cover_9 (by decide) (fun c_5 => ?_) (fun c_5 => ?_)
    · replace hf := z_t c_5 hf
      refine lv_iconst (v := (-1 : Int32)) hx hb dX10_cover_17 (by decide) ?_
      exact e_i X hR hr hlk hf dX10_cover_18
    · replace hf := z_f c_5 hf
      refine lv_iload_n hx hb dX10_cover_12 rfl (lv_at hl 2 rfl) ?_
      refine lv_iconst (v := (4 : Int32)) hx hb dX10_cover_13 (by decide) ?_
      refine lv_icmp_lt (tgt := 19) hx hb dX10_cover_14 (by decide) (fun c_6 => ?_) (fun c_6 => ?_)
      · replace hf := z_t c_6 hf
        refine lv_aload_n hx hb dX10_cover_19 rfl (lv_at hl 0 rfl) ?_
        refine lv_iload_n hx hb dX10_cover_20 rfl (lv_at hl 1 rfl) ?_
        obtain ⟨r_7, σ_8, hc_9, hf⟩ := z_b_e hf
        refine go_i hR (mv_run (As := [.int x1]) (rest := []) X hR mv_10_252 kh_0 (kd_lt kh_0 (by decide)) (c10_fewestWitnesses l G N hc_9) ⟨rfl, rfl, Nat.le_of_ble_eq_true rfl, Nat.le_of_ble_eq_true rfl⟩ rfl hl.1 rfl (Nat.le_of_ble_eq_true rfl) dX10_cover_21 ⟨Nat.zero_le _, Nat.zero_le _⟩) (fun H locs hR => ?_)
        refine lv_istore_n (lv' := [(3, .int r_7), (0, .ref (G.2.2 + 0)), (1, .int x1), (2, .int x2)]) hx hb dX10_cover_24 rfl hl (by decide) rfl (fun ls hl => ?_)
        refine lv_iload_n hx hb dX10_cover_25 rfl (lv_at hl 0 rfl) ?_
        refine lv_if_ne (tgt := 32) hx hb dX10_cover_26 (by decide) (fun c_10 => ?_) (fun c_10 => ?_)
        · replace hf := z_f c_10 hf
          refine lv_iload_n hx hb dX10_cover_32 rfl (lv_at hl 3 rfl) ?_
          refine lv_iconst (v := (-1 : Int32)) hx hb dX10_cover_33 (by decide) ?_
          refine lv_icmp_ne (tgt := 44) hx hb dX10_cover_34 (by decide) (fun c_11 => ?_) (fun c_11 => ?_)
          · replace hf := z_f c_11 hf
            refine lv_iload_n hx hb dX10_cover_44 rfl (lv_at hl 0 rfl) ?_
            refine lv_iload_n hx hb dX10_cover_45 rfl (lv_at hl 3 rfl) ?_
            obtain ⟨r_12, σ_13, hc_14, hf⟩ := z_b_e hf
            refine go_i hR (ms_run (As := [.int r_7, .int x2]) (rest := []) X hR ms_10_255 (c10_bitAt l G N hc_14) ⟨rfl, rfl, Nat.le_of_ble_eq_true rfl, Nat.le_of_ble_eq_true rfl⟩ rfl hl.1 rfl (Nat.le_of_ble_eq_true rfl) dX10_cover_46 ⟨Nat.zero_le _, Nat.zero_le _⟩) (fun H locs hR => ?_)
            exact e_i X hR hr hlk hf dX10_cover_49
          · replace hf := z_t c_11 hf
            refine lv_iload_n hx hb dX10_cover_37 rfl (lv_at hl 0 rfl) ?_
            refine go_i hR (ms_run (As := [.int r_7]) (rest := []) X hR jms_10_150 (cJ_bitC l G) ⟨rfl, rfl, Nat.le_of_ble_eq_true rfl, Nat.le_of_ble_eq_true rfl⟩ rfl hl.1 rfl (Nat.le_of_ble_eq_true rfl) dX10_cover_38 ⟨Nat.zero_le _, Nat.zero_le _⟩) (fun H locs hR => ?_)
            refine lv_goto (tgt := 49) hx hb dX10_cover_41 (by decide) ?_
            exact e_i X hR hr hlk hf dX10_cover_49
        · replace hf := z_t c_10 hf
          refine lv_bipush (v := (-2 : Int32)) hx hb dX10_cover_29 (by decide) ?_
          exact e_i X hR hr hlk hf dX10_cover_31
      · replace hf := z_f c_6 hf
        refine lv_iconst (v := (-1 : Int32)) hx hb dX10_cover_17 (by decide) ?_
        exact e_i X hR hr hlk hf dX10_cover_18
abbrev rm10_walk : Room := { frames := 3, cells := 0, slots := 0, locals := 65 }
def f10_walk (N : Nat) (x1 : Int32) (x2 : Int32) (σ : Mm) : Option (Int32 × Mm) :=
  z_b (f10_noPlot N x1 σ) fun r_1 σ_2 =>
  if r_1 = 0 then (
  z_b (f10_noPlot N x2 σ_2) fun r_5 σ_6 =>
  if r_5 = 0 then (
  z_b (f0_walking N 56 x1 x2 σ_6) fun r_9 σ_10 =>
  some (r_9, σ_10)) else (
  some ((-1 : Int32), σ_6))) else (
  some ((-1 : Int32), σ_2))
set_option maxHeartbeats 4000000 in
set_option maxRecDepth 100000 in
theorem c10_walk (l : Launch) (G : Gp) (N : Nat) {x1 : Int32} {x2 : Int32} {σ σ0 : Mm} {r0 : Int32} (hf : f10_walk N x1 x2 σ = some (r0, σ0)) : Met l yX10_walk (WS yX10_walk cX10_walk 3 (some .int)) rm10_walk (va_Pc [.ref (G.2.2 + 0), .int x1, .int x2] (Pd G 212 tt σ)) (P_i G 212 tt r0 σ0) 0 0 (Fr G) := by
  refine ct [(0, .ref (G.2.2 + 0)), (1, .int x1), (2, .int x2)] rfl (by decide) (Nat.le_of_ble_eq_true rfl) ?_
  intro p e s m below meth c ls X hr hlk hR hl
  have X : Cx p s m _ c cX10_walk 3 RX10 G := X
  have hx := X.1
  have hb := X.2.1
  unfold f10_walk at hf
  refine lv_aload_n hx hb dX10_walk_0 rfl (lv_at hl 0 rfl) ?_
  refine lv_iload_n hx hb dX10_walk_1 rfl (lv_at hl 1 rfl) ?_
  obtain ⟨r_1, σ_2, hc_3, hf⟩ := z_b_e hf
  refine go_i hR (mv_run (As := [.int x1]) (rest := []) X hR mv_10_130 kh_0 (kd_lt kh_0 (by decide)) (c10_noPlot l G N hc_3) ⟨rfl, rfl, Nat.le_of_ble_eq_true rfl, Nat.le_of_ble_eq_true rfl⟩ rfl hl.1 rfl (Nat.le_of_ble_eq_true rfl) dX10_walk_2 ⟨Nat.zero_le _, Nat.zero_le _⟩) (fun H locs hR => ?_)
  refine lv_if_ne (tgt := 16) hx hb dX10_walk_5 (by decide) (fun c_4 => ?_) (fun c_4 => ?_)
  · replace hf := z_f c_4 hf
    refine lv_iconst (v := (-1 : Int32)) hx hb dX10_walk_16 (by decide) ?_
    exact e_i X hR hr hlk hf dX10_walk_17
  · replace hf := z_t c_4 hf
    refine lv_aload_n hx hb dX10_walk_8 rfl (lv_at hl 0 rfl) ?_
    refine lv_iload_n hx hb dX10_walk_9 rfl (lv_at hl 2 rfl) ?_
    obtain ⟨r_5, σ_6, hc_7, hf⟩ := z_b_e hf
    refine go_i hR (mv_run (As := [.int x2]) (rest := []) X hR mv_10_130 kh_0 (kd_lt kh_0 (by decide)) (c10_noPlot l G N hc_7) ⟨rfl, rfl, Nat.le_of_ble_eq_true rfl, Nat.le_of_ble_eq_true rfl⟩ rfl hl.1 rfl (Nat.le_of_ble_eq_true rfl) dX10_walk_10 ⟨Nat.zero_le _, Nat.zero_le _⟩) (fun H locs hR => ?_)
    refine lv_if_eq (tgt := 18) hx hb dX10_walk_13 (by decide) (fun c_8 => ?_) (fun c_8 => ?_)
    · replace hf := z_t c_8 hf
      refine lv_aload_n hx hb dX10_walk_18 rfl (lv_at hl 0 rfl) ?_
      refine r_gs (t := 60) X hR fr_10_72 kh_0 (sx_10_10 kh_0) dX10_walk_19 ?_
      refine lv_aload_n hx hb dX10_walk_22 rfl (lv_at hl 0 rfl) ?_
      refine r_gs (t := 56) X hR fr_10_60 kh_0 (sx_10_8 kh_0) dX10_walk_23 ?_
      refine lv_iload_n hx hb dX10_walk_26 rfl (lv_at hl 1 rfl) ?_
      refine lv_iload_n hx hb dX10_walk_27 rfl (lv_at hl 2 rfl) ?_
      obtain ⟨r_9, σ_10, hc_11, hf⟩ := z_b_e hf
      refine go_i hR (mv_run (As := [.ref (G.2.2 + 56), .int x1, .int x2]) (rest := []) X hR mv_10_259 kh_60 (kd_lt kh_60 (by decide)) (c0_walking l G N kh_56 hc_11) ⟨rfl, rfl, Nat.le_of_ble_eq_true rfl, Nat.le_of_ble_eq_true rfl⟩ rfl hl.1 rfl (Nat.le_of_ble_eq_true rfl) dX10_walk_28 ⟨Nat.zero_le _, Nat.zero_le _⟩) (fun H locs hR => ?_)
      exact e_i X hR hr hlk hf dX10_walk_31
    · replace hf := z_f c_8 hf
      refine lv_iconst (v := (-1 : Int32)) hx hb dX10_walk_16 (by decide) ?_
      exact e_i X hR hr hlk hf dX10_walk_17
abbrev rm10_asks : Room := { frames := 3, cells := 0, slots := 0, locals := 64 }
def f10_asks (N : Nat) (x1 : Int32) (σ : Mm) : Option (Int32 × Mm) :=
  z_b (f10_noPlot N x1 σ) fun r_1 σ_2 =>
  if r_1 = 0 then (
  z_b (f0_asking N 56 x1 σ_2) fun r_5 σ_6 =>
  some (r_5, σ_6)) else (
  some ((-1 : Int32), σ_2))
set_option maxHeartbeats 4000000 in
set_option maxRecDepth 100000 in
theorem c10_asks (l : Launch) (G : Gp) (N : Nat) {x1 : Int32} {σ σ0 : Mm} {r0 : Int32} (hf : f10_asks N x1 σ = some (r0, σ0)) : Met l yX10_asks (WS yX10_asks cX10_asks 2 (some .int)) rm10_asks (va_Pc [.ref (G.2.2 + 0), .int x1] (Pd G 212 tt σ)) (P_i G 212 tt r0 σ0) 0 0 (Fr G) := by
  refine ct [(0, .ref (G.2.2 + 0)), (1, .int x1)] rfl (by decide) (Nat.le_of_ble_eq_true rfl) ?_
  intro p e s m below meth c ls X hr hlk hR hl
  have X : Cx p s m _ c cX10_asks 2 RX10 G := X
  have hx := X.1
  have hb := X.2.1
  unfold f10_asks at hf
  refine lv_aload_n hx hb dX10_asks_0 rfl (lv_at hl 0 rfl) ?_
  refine lv_iload_n hx hb dX10_asks_1 rfl (lv_at hl 1 rfl) ?_
  obtain ⟨r_1, σ_2, hc_3, hf⟩ := z_b_e hf
  refine go_i hR (mv_run (As := [.int x1]) (rest := []) X hR mv_10_130 kh_0 (kd_lt kh_0 (by decide)) (c10_noPlot l G N hc_3) ⟨rfl, rfl, Nat.le_of_ble_eq_true rfl, Nat.le_of_ble_eq_true rfl⟩ rfl hl.1 rfl (Nat.le_of_ble_eq_true rfl) dX10_asks_2 ⟨Nat.zero_le _, Nat.zero_le _⟩) (fun H locs hR => ?_)
  refine lv_if_eq (tgt := 10) hx hb dX10_asks_5 (by decide) (fun c_4 => ?_) (fun c_4 => ?_)
  · replace hf := z_t c_4 hf
    refine lv_aload_n hx hb dX10_asks_10 rfl (lv_at hl 0 rfl) ?_
    refine r_gs (t := 60) X hR fr_10_72 kh_0 (sx_10_10 kh_0) dX10_asks_11 ?_
    refine lv_aload_n hx hb dX10_asks_14 rfl (lv_at hl 0 rfl) ?_
    refine r_gs (t := 56) X hR fr_10_60 kh_0 (sx_10_8 kh_0) dX10_asks_15 ?_
    refine lv_iload_n hx hb dX10_asks_18 rfl (lv_at hl 1 rfl) ?_
    obtain ⟨r_5, σ_6, hc_7, hf⟩ := z_b_e hf
    refine go_i hR (mv_run (As := [.ref (G.2.2 + 56), .int x1]) (rest := []) X hR mv_10_262 kh_60 (kd_lt kh_60 (by decide)) (c0_asking l G N kh_56 hc_7) ⟨rfl, rfl, Nat.le_of_ble_eq_true rfl, Nat.le_of_ble_eq_true rfl⟩ rfl hl.1 rfl (Nat.le_of_ble_eq_true rfl) dX10_asks_19 ⟨Nat.zero_le _, Nat.zero_le _⟩) (fun H locs hR => ?_)
    exact e_i X hR hr hlk hf dX10_asks_22
  · replace hf := z_f c_4 hf
    refine lv_iconst (v := (-1 : Int32)) hx hb dX10_asks_8 (by decide) ?_
    exact e_i X hR hr hlk hf dX10_asks_9
abbrev rm10_round : Room := { frames := 4, cells := 0, slots := 0, locals := 99 }
def f10_round (N : Nat) (x1 : Int32) (x2 : Int32) (σ : Mm) : Option (Int32 × Mm) :=
  z_r (gR σ 0 3) 3 fun t_1 =>
  if (ush x1 (gI σ t_1 1)) = 0 then (
  if x2 < (-1 : Int32) then (
  some ((-1 : Int32), σ)) else (
  if x2 < (bitC x1) then (
  z_b (f7_measure N 56 x1 σ) fun _ σ_7 =>
  if x2 = (-1 : Int32) then (
  z_b (f7_shortest N x1 σ_7) fun r_13 σ_14 =>
  some (r_13, σ_14)) else (
  z_b (f7_plotAt N x1 x2 σ_7) fun r_10 σ_11 =>
  some (r_10, σ_11))) else (
  some ((-1 : Int32), σ)))) else (
  some ((-1 : Int32), σ))
set_option maxHeartbeats 4000000 in
set_option maxRecDepth 100000 in
theorem c10_round (l : Launch) (G : Gp) (N : Nat) {x1 : Int32} {x2 : Int32} {σ σ0 : Mm} {r0 : Int32} (hf : f10_round N x1 x2 σ = some (r0, σ0)) : Met l yX10_round (WS yX10_round cX10_round 3 (some .int)) rm10_round (va_Pc [.ref (G.2.2 + 0), .int x1, .int x2] (Pd G 212 tt σ)) (P_i G 212 tt r0 σ0) 0 0 (Fr G) := by
  refine ct [(0, .ref (G.2.2 + 0)), (1, .int x1), (2, .int x2)] rfl (by decide) (Nat.le_of_ble_eq_true rfl) ?_
  intro p e s m below meth c ls X hr hlk hR hl
  have X : Cx p s m _ c cX10_round 3 RX10 G := X
  have hx := X.1
  have hb := X.2.1
  unfold f10_round at hf
  refine lv_iload_n hx hb dX10_round_0 rfl (lv_at hl 1 rfl) ?_
  refine lv_aload_n hx hb dX10_round_1 rfl (lv_at hl 0 rfl) ?_
  obtain ⟨t_1, ht_2, kht_2, hf⟩ := z_r_e hf
  refine r_gd X hR fr_10_27 kh_0 ht_2 dX10_round_2 ?_
  refine r_gi X hR fi_10_242 kht_2 dX10_round_5 ?_
  refine lv_iushr (v := (ush x1 (gI σ t_1 1))) hx hb dX10_round_8 rfl ?_
  refine lv_if_ne (tgt := 25) hx hb dX10_round_9 (by decide) (fun c_3 => ?_) (fun c_3 => ?_)
  · replace hf := z_f c_3 hf
    refine lv_iconst (v := (-1 : Int32)) hx hb dX10_round_25 (by decide) ?_
    exact e_i X hR hr hlk hf dX10_round_26
  · replace hf := z_t c_3 hf
    refine lv_iload_n hx hb dX10_round_12 rfl (lv_at hl 2 rfl) ?_
    refine lv_iconst (v := (-1 : Int32)) hx hb dX10_round_13 (by decide) ?_
    refine lv_icmp_lt (tgt := 25) hx hb dX10_round_14 (by decide) (fun c_4 => ?_) (fun c_4 => ?_)
    · replace hf := z_t c_4 hf
      refine lv_iconst (v := (-1 : Int32)) hx hb dX10_round_25 (by decide) ?_
      exact e_i X hR hr hlk hf dX10_round_26
    · replace hf := z_f c_4 hf
      refine lv_iload_n hx hb dX10_round_17 rfl (lv_at hl 2 rfl) ?_
      refine lv_iload_n hx hb dX10_round_18 rfl (lv_at hl 1 rfl) ?_
      refine go_i hR (ms_run (As := [.int x1]) (rest := [.int x2]) X hR jms_10_150 (cJ_bitC l G) ⟨rfl, rfl, Nat.le_of_ble_eq_true rfl, Nat.le_of_ble_eq_true rfl⟩ rfl hl.1 rfl (Nat.le_of_ble_eq_true rfl) dX10_round_19 ⟨Nat.zero_le _, Nat.zero_le _⟩) (fun H locs hR => ?_)
      refine lv_icmp_lt (tgt := 27) hx hb dX10_round_22 (by decide) (fun c_5 => ?_) (fun c_5 => ?_)
      · replace hf := z_t c_5 hf
        refine lv_aload_n hx hb dX10_round_27 rfl (lv_at hl 0 rfl) ?_
        refine r_gs (t := 66) X hR fr_10_79 kh_0 (sx_10_11 kh_0) dX10_round_28 ?_
        refine lv_aload_n hx hb dX10_round_31 rfl (lv_at hl 0 rfl) ?_
        refine r_gs (t := 60) X hR fr_10_72 kh_0 (sx_10_10 kh_0) dX10_round_32 ?_
        refine lv_aload_n hx hb dX10_round_35 rfl (lv_at hl 0 rfl) ?_
        refine r_gs (t := 56) X hR fr_10_60 kh_0 (sx_10_8 kh_0) dX10_round_36 ?_
        refine lv_iload_n hx hb dX10_round_39 rfl (lv_at hl 1 rfl) ?_
        obtain ⟨r_6, σ_7, hc_8, hf⟩ := z_b_e hf
        refine go_v hR (mv_run (As := [.ref (G.2.2 + 60), .ref (G.2.2 + 56), .int x1]) (rest := []) X hR mv_10_265 kh_66 (kd_lt kh_66 (by decide)) (c7_measure l G N kh_56 hc_8) ⟨rfl, rfl, Nat.le_of_ble_eq_true rfl, Nat.le_of_ble_eq_true rfl⟩ rfl hl.1 rfl (Nat.le_of_ble_eq_true rfl) dX10_round_40 ⟨Nat.zero_le _, Nat.zero_le _⟩) (fun H locs hR => ?_)
        refine lv_iload_n hx hb dX10_round_43 rfl (lv_at hl 2 rfl) ?_
        refine lv_iconst (v := (-1 : Int32)) hx hb dX10_round_44 (by decide) ?_
        refine lv_icmp_ne (tgt := 59) hx hb dX10_round_45 (by decide) (fun c_9 => ?_) (fun c_9 => ?_)
        · replace hf := z_f c_9 hf
          refine lv_aload_n hx hb dX10_round_59 rfl (lv_at hl 0 rfl) ?_
          refine r_gs (t := 66) X hR fr_10_79 kh_0 (sx_10_11 kh_0) dX10_round_60 ?_
          refine lv_iload_n hx hb dX10_round_63 rfl (lv_at hl 1 rfl) ?_
          refine lv_iload_n hx hb dX10_round_64 rfl (lv_at hl 2 rfl) ?_
          obtain ⟨r_10, σ_11, hc_12, hf⟩ := z_b_e hf
          refine go_i hR (mv_run (As := [.int x1, .int x2]) (rest := []) X hR mv_10_272 kh_66 (kd_lt kh_66 (by decide)) (c7_plotAt l G N hc_12) ⟨rfl, rfl, Nat.le_of_ble_eq_true rfl, Nat.le_of_ble_eq_true rfl⟩ rfl hl.1 rfl (Nat.le_of_ble_eq_true rfl) dX10_round_65 ⟨Nat.zero_le _, Nat.zero_le _⟩) (fun H locs hR => ?_)
          exact e_i X hR hr hlk hf dX10_round_68
        · replace hf := z_t c_9 hf
          refine lv_aload_n hx hb dX10_round_48 rfl (lv_at hl 0 rfl) ?_
          refine r_gs (t := 66) X hR fr_10_79 kh_0 (sx_10_11 kh_0) dX10_round_49 ?_
          refine lv_iload_n hx hb dX10_round_52 rfl (lv_at hl 1 rfl) ?_
          obtain ⟨r_13, σ_14, hc_15, hf⟩ := z_b_e hf
          refine go_i hR (mv_run (As := [.int x1]) (rest := []) X hR mv_10_269 kh_66 (kd_lt kh_66 (by decide)) (c7_shortest l G N hc_15) ⟨rfl, rfl, Nat.le_of_ble_eq_true rfl, Nat.le_of_ble_eq_true rfl⟩ rfl hl.1 rfl (Nat.le_of_ble_eq_true rfl) dX10_round_53 ⟨Nat.zero_le _, Nat.zero_le _⟩) (fun H locs hR => ?_)
          refine lv_goto (tgt := 68) hx hb dX10_round_56 (by decide) ?_
          exact e_i X hR hr hlk hf dX10_round_68
      · replace hf := z_f c_5 hf
        refine lv_iconst (v := (-1 : Int32)) hx hb dX10_round_25 (by decide) ?_
        exact e_i X hR hr hlk hf dX10_round_26
abbrev rm10_lookAhead : Room := { frames := 5, cells := 0, slots := 0, locals := 113 }
def f10_lookAhead (N : Nat) (x1 : Int32) (x2 : Int32) (σ : Mm) : Option (Unit × Mm) :=
  z_b (f5_become N 58 56 σ) fun _ σ_2 =>
  z_b (f0_passYears N 58 x1 x2 σ_2) fun _ σ_5 =>
  some ((), σ_5)
set_option maxHeartbeats 4000000 in
set_option maxRecDepth 100000 in
theorem c10_lookAhead (l : Launch) (G : Gp) (N : Nat) {x1 : Int32} {x2 : Int32} {σ σ0 : Mm} {u0 : Unit} (hf : f10_lookAhead N x1 x2 σ = some (u0, σ0)) : Met l yX10_lookAhead (WS yX10_lookAhead cX10_lookAhead 3 (none)) rm10_lookAhead (va_Pc [.ref (G.2.2 + 0), .int x1, .int x2] (Pd G 212 tt σ)) (P_v G 212 tt u0 σ0) 0 0 (Fr G) := by
  refine ct [(0, .ref (G.2.2 + 0)), (1, .int x1), (2, .int x2)] rfl (by decide) (Nat.le_of_ble_eq_true rfl) ?_
  intro p e s m below meth c ls X hr hlk hR hl
  have X : Cx p s m _ c cX10_lookAhead 3 RX10 G := X
  have hx := X.1
  have hb := X.2.1
  unfold f10_lookAhead at hf
  refine lv_aload_n hx hb dX10_lookAhead_0 rfl (lv_at hl 0 rfl) ?_
  refine r_gs (t := 58) X hR fr_10_64 kh_0 (sx_10_9 kh_0) dX10_lookAhead_1 ?_
  refine lv_aload_n hx hb dX10_lookAhead_4 rfl (lv_at hl 0 rfl) ?_
  refine r_gs (t := 56) X hR fr_10_60 kh_0 (sx_10_8 kh_0) dX10_lookAhead_5 ?_
  obtain ⟨r_1, σ_2, hc_3, hf⟩ := z_b_e hf
  refine go_v hR (mv_run (As := [.ref (G.2.2 + 56)]) (rest := []) X hR mv_10_236 kh_58 (kd_lt kh_58 (by decide)) (c5_become l G N kh_58 kh_56 hc_3) ⟨rfl, rfl, Nat.le_of_ble_eq_true rfl, Nat.le_of_ble_eq_true rfl⟩ rfl hl.1 rfl (Nat.le_of_ble_eq_true rfl) dX10_lookAhead_8 ⟨Nat.zero_le _, Nat.zero_le _⟩) (fun H locs hR => ?_)
  refine lv_aload_n hx hb dX10_lookAhead_11 rfl (lv_at hl 0 rfl) ?_
  refine r_gs (t := 60) X hR fr_10_72 kh_0 (sx_10_10 kh_0) dX10_lookAhead_12 ?_
  refine lv_aload_n hx hb dX10_lookAhead_15 rfl (lv_at hl 0 rfl) ?_
  refine r_gs (t := 58) X hR fr_10_64 kh_0 (sx_10_9 kh_0) dX10_lookAhead_16 ?_
  refine lv_iload_n hx hb dX10_lookAhead_19 rfl (lv_at hl 1 rfl) ?_
  refine lv_iload_n hx hb dX10_lookAhead_20 rfl (lv_at hl 2 rfl) ?_
  obtain ⟨r_4, σ_5, hc_6, hf⟩ := z_b_e hf
  refine go_v hR (mv_run (As := [.ref (G.2.2 + 58), .int x1, .int x2]) (rest := []) X hR mv_10_228 kh_60 (kd_lt kh_60 (by decide)) (c0_passYears l G N kh_58 hc_6) ⟨rfl, rfl, Nat.le_of_ble_eq_true rfl, Nat.le_of_ble_eq_true rfl⟩ rfl hl.1 rfl (Nat.le_of_ble_eq_true rfl) dX10_lookAhead_21 ⟨Nat.zero_le _, Nat.zero_le _⟩) (fun H locs hR => ?_)
  exact e_v X hR hr hlk hf dX10_lookAhead_24
abbrev rm10_has : Room := { frames := 6, cells := 0, slots := 0, locals := 150 }
def f10_has (N : Nat) (x1 : Int32) (x2 : Int32) (σ : Mm) : Option (Int32 × Mm) :=
  z_b (f10_noPerson N x1 σ) fun r_1 σ_2 =>
  if r_1 = 0 then (
  z_b (f10_noYears N x2 σ_2) fun r_5 σ_6 =>
  if r_5 = 0 then (
  z_r (gR σ_6 0 3) 3 fun t_9 =>
  z_b (f10_lookAhead N x2 (gI σ_6 t_9 5) σ_6) fun _ σ_12 =>
  z_b (f0_countPlots N 58 σ_12) fun _ σ_15 =>
  z_c (inB x1 6) (
  some ((gI σ_15 65 (ix x1)), σ_15))) else (
  some ((-1 : Int32), σ_6))) else (
  some ((-1 : Int32), σ_2))
set_option maxHeartbeats 4000000 in
set_option maxRecDepth 100000 in
theorem c10_has (l : Launch) (G : Gp) (N : Nat) {x1 : Int32} {x2 : Int32} {σ σ0 : Mm} {r0 : Int32} (hf : f10_has N x1 x2 σ = some (r0, σ0)) : Met l yX10_has (WS yX10_has cX10_has 3 (some .int)) rm10_has (va_Pc [.ref (G.2.2 + 0), .int x1, .int x2] (Pd G 212 tt σ)) (P_i G 212 tt r0 σ0) 0 0 (Fr G) := by
  refine ct [(0, .ref (G.2.2 + 0)), (1, .int x1), (2, .int x2)] rfl (by decide) (Nat.le_of_ble_eq_true rfl) ?_
  intro p e s m below meth c ls X hr hlk hR hl
  have X : Cx p s m _ c cX10_has 3 RX10 G := X
  have hx := X.1
  have hb := X.2.1
  unfold f10_has at hf
  refine lv_aload_n hx hb dX10_has_0 rfl (lv_at hl 0 rfl) ?_
  refine lv_iload_n hx hb dX10_has_1 rfl (lv_at hl 1 rfl) ?_
  obtain ⟨r_1, σ_2, hc_3, hf⟩ := z_b_e hf
  refine go_i hR (mv_run (As := [.int x1]) (rest := []) X hR mv_10_206 kh_0 (kd_lt kh_0 (by decide)) (c10_noPerson l G N hc_3) ⟨rfl, rfl, Nat.le_of_ble_eq_true rfl, Nat.le_of_ble_eq_true rfl⟩ rfl hl.1 rfl (Nat.le_of_ble_eq_true rfl) dX10_has_2 ⟨Nat.zero_le _, Nat.zero_le _⟩) (fun H locs hR => ?_)
  refine lv_if_ne (tgt := 15) hx hb dX10_has_5 (by decide) (fun c_4 => ?_) (fun c_4 => ?_)
  · replace hf := z_f c_4 hf
    refine lv_iconst (v := (-1 : Int32)) hx hb dX10_has_15 (by decide) ?_
    exact e_i X hR hr hlk hf dX10_has_16
  · replace hf := z_t c_4 hf
    refine lv_iload_n hx hb dX10_has_8 rfl (lv_at hl 2 rfl) ?_
    obtain ⟨r_5, σ_6, hc_7, hf⟩ := z_b_e hf
    refine go_i hR (ms_run (As := [.int x2]) (rest := []) X hR ms_10_222 (c10_noYears l G N hc_7) ⟨rfl, rfl, Nat.le_of_ble_eq_true rfl, Nat.le_of_ble_eq_true rfl⟩ rfl hl.1 rfl (Nat.le_of_ble_eq_true rfl) dX10_has_9 ⟨Nat.zero_le _, Nat.zero_le _⟩) (fun H locs hR => ?_)
    refine lv_if_eq (tgt := 17) hx hb dX10_has_12 (by decide) (fun c_8 => ?_) (fun c_8 => ?_)
    · replace hf := z_t c_8 hf
      refine lv_aload_n hx hb dX10_has_17 rfl (lv_at hl 0 rfl) ?_
      refine lv_iload_n hx hb dX10_has_18 rfl (lv_at hl 2 rfl) ?_
      refine lv_aload_n hx hb dX10_has_19 rfl (lv_at hl 0 rfl) ?_
      obtain ⟨t_9, ht_10, kht_10, hf⟩ := z_r_e hf
      refine r_gd X hR fr_10_27 kh_0 ht_10 dX10_has_20 ?_
      refine r_gi X hR fi_10_225 kht_10 dX10_has_23 ?_
      obtain ⟨r_11, σ_12, hc_13, hf⟩ := z_b_e hf
      refine go_v hR (mv_run (As := [.int x2, .int (gI σ_6 t_9 5)]) (rest := []) X hR mv_10_275 kh_0 (kd_lt kh_0 (by decide)) (c10_lookAhead l G N hc_13) ⟨rfl, rfl, Nat.le_of_ble_eq_true rfl, Nat.le_of_ble_eq_true rfl⟩ rfl hl.1 rfl (Nat.le_of_ble_eq_true rfl) dX10_has_26 ⟨Nat.zero_le _, Nat.zero_le _⟩) (fun H locs hR => ?_)
      refine lv_aload_n hx hb dX10_has_29 rfl (lv_at hl 0 rfl) ?_
      refine r_gs (t := 60) X hR fr_10_72 kh_0 (sx_10_10 kh_0) dX10_has_30 ?_
      refine lv_aload_n hx hb dX10_has_33 rfl (lv_at hl 0 rfl) ?_
      refine r_gs (t := 58) X hR fr_10_64 kh_0 (sx_10_9 kh_0) dX10_has_34 ?_
      obtain ⟨r_14, σ_15, hc_16, hf⟩ := z_b_e hf
      refine go_v hR (mv_run (As := [.ref (G.2.2 + 58)]) (rest := []) X hR mv_10_279 kh_60 (kd_lt kh_60 (by decide)) (c0_countPlots l G N kh_58 hc_16) ⟨rfl, rfl, Nat.le_of_ble_eq_true rfl, Nat.le_of_ble_eq_true rfl⟩ rfl hl.1 rfl (Nat.le_of_ble_eq_true rfl) dX10_has_37 ⟨Nat.zero_le _, Nat.zero_le _⟩) (fun H locs hR => ?_)
      refine lv_aload_n hx hb dX10_has_40 rfl (lv_at hl 0 rfl) ?_
      refine r_gs (t := 60) X hR fr_10_72 kh_0 (sx_10_10 kh_0) dX10_has_41 ?_
      refine r_gs (t := 65) X hR fr_10_282 kh_60 (sx_0_6 kh_60) dX10_has_44 ?_
      refine lv_iload_n hx hb dX10_has_47 rfl (lv_at hl 1 rfl) ?_
      obtain ⟨hi_17, hf⟩ := z_c_e hf
      refine r_ial X hR ka_65 hi_17 dX10_has_48 ?_
      exact e_i X hR hr hlk hf dX10_has_49
    · replace hf := z_f c_8 hf
      refine lv_iconst (v := (-1 : Int32)) hx hb dX10_has_15 (by decide) ?_
      exact e_i X hR hr hlk hf dX10_has_16
abbrev rm10_within : Room := { frames := 4, cells := 0, slots := 0, locals := 99 }
def f10_within (N : Nat) (x1 : Int32) (x2 : Int32) (σ : Mm) : Option (Int32 × Mm) :=
  z_b (f10_noPlot N x1 σ) fun r_1 σ_2 =>
  if r_1 = 0 then (
  if x2 < 0 then (
  some ((-1 : Int32), σ_2)) else (
  if x2 ≤ (999 : Int32) then (
  z_r (gR σ_2 0 3) 3 fun t_7 =>
  z_l ((((1 : Int32) <<< ((gI σ_2 t_7 1) &&& 31)) - (1 : Int32))) fun x3_9 =>
  z_b (f7_measure N 56 x3_9 σ_2) fun _ σ_11 =>
  z_b (f7_mostFrom N x1 x3_9 x2 σ_11) fun r_13 σ_14 =>
  some (r_13, σ_14)) else (
  some ((-1 : Int32), σ_2)))) else (
  some ((-1 : Int32), σ_2))
set_option maxHeartbeats 4000000 in
set_option maxRecDepth 100000 in
theorem c10_within (l : Launch) (G : Gp) (N : Nat) {x1 : Int32} {x2 : Int32} {σ σ0 : Mm} {r0 : Int32} (hf : f10_within N x1 x2 σ = some (r0, σ0)) : Met l yX10_within (WS yX10_within cX10_within 4 (some .int)) rm10_within (va_Pc [.ref (G.2.2 + 0), .int x1, .int x2] (Pd G 212 tt σ)) (P_i G 212 tt r0 σ0) 0 0 (Fr G) := by
  refine ct [(0, .ref (G.2.2 + 0)), (1, .int x1), (2, .int x2)] rfl (by decide) (Nat.le_of_ble_eq_true rfl) ?_
  intro p e s m below meth c ls X hr hlk hR hl
  have X : Cx p s m _ c cX10_within 4 RX10 G := X
  have hx := X.1
  have hb := X.2.1
  unfold f10_within at hf
  refine lv_aload_n hx hb dX10_within_0 rfl (lv_at hl 0 rfl) ?_
  refine lv_iload_n hx hb dX10_within_1 rfl (lv_at hl 1 rfl) ?_
  obtain ⟨r_1, σ_2, hc_3, hf⟩ := z_b_e hf
  refine go_i hR (mv_run (As := [.int x1]) (rest := []) X hR mv_10_130 kh_0 (kd_lt kh_0 (by decide)) (c10_noPlot l G N hc_3) ⟨rfl, rfl, Nat.le_of_ble_eq_true rfl, Nat.le_of_ble_eq_true rfl⟩ rfl hl.1 rfl (Nat.le_of_ble_eq_true rfl) dX10_within_2 ⟨Nat.zero_le _, Nat.zero_le _⟩) (fun H locs hR => ?_)
  refine lv_if_ne (tgt := 19) hx hb dX10_within_5 (by decide) (fun c_4 => ?_) (fun c_4 => ?_)
  · replace hf := z_f c_4 hf
    refine lv_iconst (v := (-1 : Int32)) hx hb dX10_within_19 (by decide) ?_
    exact e_i X hR hr hlk hf dX10_within_20
  · replace hf := z_t c_4 hf
    refine lv_iload_n hx hb dX10_within_8 rfl (lv_at hl 2 rfl) ?_
    refine lv_if_lt (tgt := 19) hx hb dX10_within_9 (by decide) (fun c_5 => ?_) (fun c_5 => ?_)
    · replace hf := z_t c_5 hf
      refine lv_iconst (v := (-1 : Int32)) hx hb dX10_within_19 (by decide) ?_
      exact e_i X hR hr hlk hf dX10_within_20
    · replace hf := z_f c_5 hf
      refine lv_iload_n hx hb dX10_within_12 rfl (lv_at hl 2 rfl) ?_
      refine lv_sipush (v := (999 : Int32)) hx hb dX10_within_13 (by decide) ?_
      refine lv_icmp_le (tgt := 21) hx hb dX10_within_16 (by decide) (fun c_6 => ?_) (fun c_6 => ?_)
      · replace hf := z_t c_6 hf
        refine lv_iconst (v := (1 : Int32)) hx hb dX10_within_21 (by decide) ?_
        refine lv_aload_n hx hb dX10_within_22 rfl (lv_at hl 0 rfl) ?_
        obtain ⟨t_7, ht_8, kht_8, hf⟩ := z_r_e hf
        refine r_gd X hR fr_10_27 kh_0 ht_8 dX10_within_23 ?_
        refine r_gi X hR fi_10_242 kht_8 dX10_within_26 ?_
        refine lv_ishl hx hb dX10_within_29 ?_
        refine lv_iconst (v := (1 : Int32)) hx hb dX10_within_30 (by decide) ?_
        refine lv_isub hx hb dX10_within_31 ?_
        refine lv_topi (fun x3_9 ex3_9 => ?_)
        replace hf := z_l_e ex3_9 hf
        refine lv_istore_n (lv' := [(3, .int x3_9), (0, .ref (G.2.2 + 0)), (1, .int x1), (2, .int x2)]) hx hb dX10_within_32 rfl hl (by decide) rfl (fun ls hl => ?_)
        refine lv_aload_n hx hb dX10_within_33 rfl (lv_at hl 1 rfl) ?_
        refine r_gs (t := 66) X hR fr_10_79 kh_0 (sx_10_11 kh_0) dX10_within_34 ?_
        refine lv_aload_n hx hb dX10_within_37 rfl (lv_at hl 1 rfl) ?_
        refine r_gs (t := 60) X hR fr_10_72 kh_0 (sx_10_10 kh_0) dX10_within_38 ?_
        refine lv_aload_n hx hb dX10_within_41 rfl (lv_at hl 1 rfl) ?_
        refine r_gs (t := 56) X hR fr_10_60 kh_0 (sx_10_8 kh_0) dX10_within_42 ?_
        refine lv_iload_n hx hb dX10_within_45 rfl (lv_at hl 0 rfl) ?_
        obtain ⟨r_10, σ_11, hc_12, hf⟩ := z_b_e hf
        refine go_v hR (mv_run (As := [.ref (G.2.2 + 60), .ref (G.2.2 + 56), .int x3_9]) (rest := []) X hR mv_10_265 kh_66 (kd_lt kh_66 (by decide)) (c7_measure l G N kh_56 hc_12) ⟨rfl, rfl, Nat.le_of_ble_eq_true rfl, Nat.le_of_ble_eq_true rfl⟩ rfl hl.1 rfl (Nat.le_of_ble_eq_true rfl) dX10_within_46 ⟨Nat.zero_le _, Nat.zero_le _⟩) (fun H locs hR => ?_)
        refine lv_aload_n hx hb dX10_within_49 rfl (lv_at hl 1 rfl) ?_
        refine r_gs (t := 66) X hR fr_10_79 kh_0 (sx_10_11 kh_0) dX10_within_50 ?_
        refine lv_iload_n hx hb dX10_within_53 rfl (lv_at hl 2 rfl) ?_
        refine lv_iload_n hx hb dX10_within_54 rfl (lv_at hl 0 rfl) ?_
        refine lv_iload_n hx hb dX10_within_55 rfl (lv_at hl 3 rfl) ?_
        obtain ⟨r_13, σ_14, hc_15, hf⟩ := z_b_e hf
        refine go_i hR (mv_run (As := [.int x1, .int x3_9, .int x2]) (rest := []) X hR mv_10_285 kh_66 (kd_lt kh_66 (by decide)) (c7_mostFrom l G N hc_15) ⟨rfl, rfl, Nat.le_of_ble_eq_true rfl, Nat.le_of_ble_eq_true rfl⟩ rfl hl.1 rfl (Nat.le_of_ble_eq_true rfl) dX10_within_56 ⟨Nat.zero_le _, Nat.zero_le _⟩) (fun H locs hR => ?_)
        exact e_i X hR hr hlk hf dX10_within_59
      · replace hf := z_f c_6 hf
        refine lv_iconst (v := (-1 : Int32)) hx hb dX10_within_19 (by decide) ?_
        exact e_i X hR hr hlk hf dX10_within_20
abbrev rm10_rich : Room := { frames := 6, cells := 0, slots := 0, locals := 150 }
def f10_rich_99 (N : Nat) (x2 : Int32) (x3 : Int32) (x4 : Int32) (σ : Mm) : Option (Int32 × Mm) :=
  if x2 = 0 then (
  some (x3, σ)) else (
  some (x4, σ))
def f10_rich_93 (N : Nat) (k51 : Int32 → Int32 → Int32 → Mm → Option (Int32 × Mm)) (x2 : Int32) (x3 : Int32) (x4 : Int32) (x5 : Int32) (σ : Mm) : Option (Int32 × Mm) :=
  z_l (x5 + (1 : Int32)) fun x5_20 =>
  k51 x3 x4 x5_20 σ
def f10_rich_51 (N : Nat) (x2 : Int32) : Nat → Int32 → Int32 → Int32 → Mm → Option (Int32 × Mm)
  | 0, _, _, _, _ => none
  | fu + 1, x3, x4, x5, σ => z_r (gR σ 0 3) 3 fun t_14 =>
  if (gI σ t_14 0) ≤ x5 then (
  f10_rich_99 N x2 x3 x4 σ) else (
  z_c (inB x5 6) (
  if (gI σ 65 (ix x5)) ≤ x4 then (
  f10_rich_93 N (fun x3 x4 x5 σ => f10_rich_51 N x2 fu x3 x4 x5 σ) x2 x3 x4 x5 σ) else (
  z_c (inB x5 6) (
  z_l ((gI σ 65 (ix x5))) fun x4_22 =>
  f10_rich_93 N (fun x3 x4 x5 σ => f10_rich_51 N x2 fu x3 x4 x5 σ) x2 x5 x4_22 x5 σ))))
def f10_rich_18 (N : Nat) (x1 : Int32) (x2 : Int32) (σ : Mm) : Option (Int32 × Mm) :=
  z_r (gR σ 0 3) 3 fun t_6 =>
  z_b (f10_lookAhead N x1 (gI σ t_6 5) σ) fun _ σ_9 =>
  z_b (f0_countPlots N 58 σ_9) fun _ σ_12 =>
  f10_rich_51 N x2 N (-2 : Int32) (-2 : Int32) (0 : Int32) σ_12
def f10_rich (N : Nat) (x1 : Int32) (x2 : Int32) (σ : Mm) : Option (Int32 × Mm) :=
  z_b (f10_noYears N x1 σ) fun r_1 σ_2 =>
  if r_1 = 0 then (
  if x2 = 0 then (
  f10_rich_18 N x1 x2 σ_2) else (
  if x2 = (1 : Int32) then (
  f10_rich_18 N x1 x2 σ_2) else (
  some ((-1 : Int32), σ_2)))) else (
  some ((-1 : Int32), σ_2))
set_option maxHeartbeats 4000000 in
set_option maxRecDepth 100000 in
theorem w10_rich_99 (X : Cx p s m args c cX10_rich 6 RX10 G) (hr : meth.sig.returnType = some .int) (hlk : meth.locks = false) (N : Nat) :
    ∀ (x2 : Int32) (x3 : Int32) (x4 : Int32) (σ : Mm) (H : Heap) (locs : List Loc) (ls : Array Slot), f10_rich_99 N x2 x3 x4 σ = some (r0, σ0) → Rp G 212 tt σ s H locs → lv_has ls 6 [(2, .int x2), (3, .int x3), (4, .int x4)] → W p l e rm10_rich s m args below meth c H locs 0 0 (MQ below (P_i G 212 tt r0 σ0) args s 0 0 (Fr G)) (F0 m 99 ls []) := by
  have hx := X.1
  have hb := X.2.1
  intro x2 x3 x4 σ H locs ls hf hR hl
  unfold f10_rich_99 at hf
  refine lv_iload_n hx hb dX10_rich_99 rfl (lv_at hl 0 rfl) ?_
  refine lv_if_ne (tgt := 107) hx hb dX10_rich_100 (by decide) (fun c_17 => ?_) (fun c_17 => ?_)
  · replace hf := z_f c_17 hf
    refine lv_iload hx hb dX10_rich_107 (lv_at hl 2 rfl) ?_
    exact e_i X hR hr hlk hf dX10_rich_109
  · replace hf := z_t c_17 hf
    refine lv_iload_n hx hb dX10_rich_103 rfl (lv_at hl 1 rfl) ?_
    refine lv_goto (tgt := 109) hx hb dX10_rich_104 (by decide) ?_
    exact e_i X hR hr hlk hf dX10_rich_109
set_option maxHeartbeats 4000000 in
set_option maxRecDepth 100000 in
theorem w10_rich_93 (X : Cx p s m args c cX10_rich 6 RX10 G) (hr : meth.sig.returnType = some .int) (hlk : meth.locks = false) (N : Nat) {x2 : Int32} {k51 : Int32 → Int32 → Int32 → Mm → Option (Int32 × Mm)} (hk51 : ∀ (x3 : Int32) (x4 : Int32) (x5 : Int32) (σ : Mm) (H : Heap) (locs : List Loc) (ls : Array Slot), k51 x3 x4 x5 σ = some (r0, σ0) → Rp G 212 tt σ s H locs → lv_has ls 6 [(0, .ref (G.2.2 + 0)), (2, .int x2), (3, .int x3), (4, .int x4), (5, .int x5)] → W p l e rm10_rich s m args below meth c H locs 0 0 (MQ below (P_i G 212 tt r0 σ0) args s 0 0 (Fr G)) (F0 m 51 ls [])) :
    ∀ (x3 : Int32) (x4 : Int32) (x5 : Int32) (σ : Mm) (H : Heap) (locs : List Loc) (ls : Array Slot), f10_rich_93 N k51 x2 x3 x4 x5 σ = some (r0, σ0) → Rp G 212 tt σ s H locs → lv_has ls 6 [(0, .ref (G.2.2 + 0)), (2, .int x2), (3, .int x3), (4, .int x4), (5, .int x5)] → W p l e rm10_rich s m args below meth c H locs 0 0 (MQ below (P_i G 212 tt r0 σ0) args s 0 0 (Fr G)) (F0 m 93 ls []) := by
  have hx := X.1
  have hb := X.2.1
  intro x3 x4 x5 σ H locs ls hf hR hl
  unfold f10_rich_93 at hf
  obtain ⟨x5_20, ex5_20⟩ : ∃ z : Int32, z = x5 + (1 : Int32) := ⟨_, rfl⟩
  replace hf := z_l_e ex5_20 hf
  refine lv_iinc (v := x5_20) (lv' := [(5, .int x5_20), (0, .ref (G.2.2 + 0)), (2, .int x2), (3, .int x3), (4, .int x4)]) hx hb dX10_rich_93 hl (k := 4) rfl (by rw [ex5_20]; rfl) (by decide) rfl (fun ls hl => ?_)
  refine lv_goto (tgt := 51) hx hb dX10_rich_96 (by decide) ?_
  exact hk51 x3 x4 x5_20 σ _ _ _ hf hR (lv_sub hl [1, 2, 3, 4, 0] rfl)
set_option maxHeartbeats 4000000 in
set_option maxRecDepth 100000 in
theorem w10_rich_51 (X : Cx p s m args c cX10_rich 6 RX10 G) (hr : meth.sig.returnType = some .int) (hlk : meth.locks = false) (N : Nat) {x2 : Int32} :
    ∀ (fu : Nat) (x3 : Int32) (x4 : Int32) (x5 : Int32) (σ : Mm) (H : Heap) (locs : List Loc) (ls : Array Slot), f10_rich_51 N x2 fu x3 x4 x5 σ = some (r0, σ0) → Rp G 212 tt σ s H locs → lv_has ls 6 [(0, .ref (G.2.2 + 0)), (2, .int x2), (3, .int x3), (4, .int x4), (5, .int x5)] → W p l e rm10_rich s m args below meth c H locs 0 0 (MQ below (P_i G 212 tt r0 σ0) args s 0 0 (Fr G)) (F0 m 51 ls []) := by
  have hx := X.1
  have hb := X.2.1
  intro fu
  induction fu with
  | zero =>
    intro x3 x4 x5 σ H locs ls hf hR hl
    rw [f10_rich_51] at hf
    cases hf
  | succ fu ih =>
    intro x3 x4 x5 σ H locs ls hf hR hl
    rw [f10_rich_51] at hf
    refine lv_iload hx hb dX10_rich_51 (lv_at hl 4 rfl) ?_
    refine lv_aload_n hx hb dX10_rich_53 rfl (lv_at hl 0 rfl) ?_
    obtain ⟨t_14, ht_15, kht_15, hf⟩ := z_r_e hf
    refine r_gd X hR fr_10_27 kh_0 ht_15 dX10_rich_54 ?_
    refine r_gi X hR fi_10_289 kht_15 dX10_rich_57 ?_
    refine lv_icmp_ge (tgt := 99) hx hb dX10_rich_60 (by decide) (fun c_16 => ?_) (fun c_16 => ?_)
    · replace hf := z_t c_16 hf
      exact w10_rich_99 X hr hlk N  x2 x3 x4 σ _ _ _ hf hR (lv_sub hl [1, 2, 3] rfl)
    · replace hf := z_f c_16 hf
      refine lv_aload_n hx hb dX10_rich_63 rfl (lv_at hl 0 rfl) ?_
      refine r_gs (t := 60) X hR fr_10_72 kh_0 (sx_10_10 kh_0) dX10_rich_64 ?_
      refine r_gs (t := 65) X hR fr_10_282 kh_60 (sx_0_6 kh_60) dX10_rich_67 ?_
      refine lv_iload hx hb dX10_rich_70 (lv_at hl 4 rfl) ?_
      obtain ⟨hi_18, hf⟩ := z_c_e hf
      refine r_ial X hR ka_65 hi_18 dX10_rich_72 ?_
      refine lv_iload hx hb dX10_rich_73 (lv_at hl 3 rfl) ?_
      refine lv_icmp_le (tgt := 93) hx hb dX10_rich_75 (by decide) (fun c_19 => ?_) (fun c_19 => ?_)
      · replace hf := z_t c_19 hf
        exact w10_rich_93 X hr hlk N ih x3 x4 x5 σ _ _ _ hf hR (lv_sub hl [0, 1, 2, 3, 4] rfl)
      · replace hf := z_f c_19 hf
        refine lv_aload_n hx hb dX10_rich_78 rfl (lv_at hl 0 rfl) ?_
        refine r_gs (t := 60) X hR fr_10_72 kh_0 (sx_10_10 kh_0) dX10_rich_79 ?_
        refine r_gs (t := 65) X hR fr_10_282 kh_60 (sx_0_6 kh_60) dX10_rich_82 ?_
        refine lv_iload hx hb dX10_rich_85 (lv_at hl 4 rfl) ?_
        obtain ⟨hi_21, hf⟩ := z_c_e hf
        refine r_ial X hR ka_65 hi_21 dX10_rich_87 ?_
        refine lv_topi (fun x4_22 ex4_22 => ?_)
        replace hf := z_l_e ex4_22 hf
        refine lv_istore (lv' := [(4, .int x4_22), (0, .ref (G.2.2 + 0)), (2, .int x2), (3, .int x3), (5, .int x5)]) hx hb dX10_rich_88 hl (by decide) rfl (fun ls hl => ?_)
        refine lv_iload hx hb dX10_rich_90 (lv_at hl 4 rfl) ?_
        refine lv_istore_n (lv' := [(3, .int x5), (4, .int x4_22), (0, .ref (G.2.2 + 0)), (2, .int x2), (5, .int x5)]) hx hb dX10_rich_92 rfl hl (by decide) rfl (fun ls hl => ?_)
        exact w10_rich_93 X hr hlk N ih x5 x4_22 x5 σ _ _ _ hf hR (lv_sub hl [2, 3, 0, 1, 4] rfl)
set_option maxHeartbeats 4000000 in
set_option maxRecDepth 100000 in
theorem w10_rich_18 (X : Cx p s m args c cX10_rich 6 RX10 G) (hr : meth.sig.returnType = some .int) (hlk : meth.locks = false) (N : Nat) :
    ∀ (x1 : Int32) (x2 : Int32) (σ : Mm) (H : Heap) (locs : List Loc) (ls : Array Slot), f10_rich_18 N x1 x2 σ = some (r0, σ0) → Rp G 212 tt σ s H locs → lv_has ls 6 [(0, .ref (G.2.2 + 0)), (1, .int x1), (2, .int x2)] → W p l e rm10_rich s m args below meth c H locs 0 0 (MQ below (P_i G 212 tt r0 σ0) args s 0 0 (Fr G)) (F0 m 18 ls []) := by
  have hx := X.1
  have hb := X.2.1
  intro x1 x2 σ H locs ls hf hR hl
  unfold f10_rich_18 at hf
  refine lv_aload_n hx hb dX10_rich_18 rfl (lv_at hl 0 rfl) ?_
  refine lv_iload_n hx hb dX10_rich_19 rfl (lv_at hl 1 rfl) ?_
  refine lv_aload_n hx hb dX10_rich_20 rfl (lv_at hl 0 rfl) ?_
  obtain ⟨t_6, ht_7, kht_7, hf⟩ := z_r_e hf
  refine r_gd X hR fr_10_27 kh_0 ht_7 dX10_rich_21 ?_
  refine r_gi X hR fi_10_225 kht_7 dX10_rich_24 ?_
  obtain ⟨r_8, σ_9, hc_10, hf⟩ := z_b_e hf
  refine go_v hR (mv_run (As := [.int x1, .int (gI σ t_6 5)]) (rest := []) X hR mv_10_275 kh_0 (kd_lt kh_0 (by decide)) (c10_lookAhead l G N hc_10) ⟨rfl, rfl, Nat.le_of_ble_eq_true rfl, Nat.le_of_ble_eq_true rfl⟩ rfl hl.1 rfl (Nat.le_of_ble_eq_true rfl) dX10_rich_27 ⟨Nat.zero_le _, Nat.zero_le _⟩) (fun H locs hR => ?_)
  refine lv_aload_n hx hb dX10_rich_30 rfl (lv_at hl 0 rfl) ?_
  refine r_gs (t := 60) X hR fr_10_72 kh_0 (sx_10_10 kh_0) dX10_rich_31 ?_
  refine lv_aload_n hx hb dX10_rich_34 rfl (lv_at hl 0 rfl) ?_
  refine r_gs (t := 58) X hR fr_10_64 kh_0 (sx_10_9 kh_0) dX10_rich_35 ?_
  obtain ⟨r_11, σ_12, hc_13, hf⟩ := z_b_e hf
  refine go_v hR (mv_run (As := [.ref (G.2.2 + 58)]) (rest := []) X hR mv_10_279 kh_60 (kd_lt kh_60 (by decide)) (c0_countPlots l G N kh_58 hc_13) ⟨rfl, rfl, Nat.le_of_ble_eq_true rfl, Nat.le_of_ble_eq_true rfl⟩ rfl hl.1 rfl (Nat.le_of_ble_eq_true rfl) dX10_rich_38 ⟨Nat.zero_le _, Nat.zero_le _⟩) (fun H locs hR => ?_)
  refine lv_bipush (v := (-2 : Int32)) hx hb dX10_rich_41 (by decide) ?_
  refine lv_istore_n (lv' := [(3, .int (-2 : Int32)), (0, .ref (G.2.2 + 0)), (1, .int x1), (2, .int x2)]) hx hb dX10_rich_43 rfl hl (by decide) rfl (fun ls hl => ?_)
  refine lv_bipush (v := (-2 : Int32)) hx hb dX10_rich_44 (by decide) ?_
  refine lv_istore (lv' := [(4, .int (-2 : Int32)), (3, .int (-2 : Int32)), (0, .ref (G.2.2 + 0)), (1, .int x1), (2, .int x2)]) hx hb dX10_rich_46 hl (by decide) rfl (fun ls hl => ?_)
  refine lv_iconst (v := (0 : Int32)) hx hb dX10_rich_48 (by decide) ?_
  refine lv_istore (lv' := [(5, .int (0 : Int32)), (4, .int (-2 : Int32)), (3, .int (-2 : Int32)), (0, .ref (G.2.2 + 0)), (1, .int x1), (2, .int x2)]) hx hb dX10_rich_49 hl (by decide) rfl (fun ls hl => ?_)
  exact w10_rich_51 X hr hlk N  N (-2 : Int32) (-2 : Int32) (0 : Int32) σ_12 _ _ _ hf hR (lv_sub hl [3, 5, 2, 1, 0] rfl)
set_option maxHeartbeats 4000000 in
set_option maxRecDepth 100000 in
theorem c10_rich (l : Launch) (G : Gp) (N : Nat) {x1 : Int32} {x2 : Int32} {σ σ0 : Mm} {r0 : Int32} (hf : f10_rich N x1 x2 σ = some (r0, σ0)) : Met l yX10_rich (WS yX10_rich cX10_rich 6 (some .int)) rm10_rich (va_Pc [.ref (G.2.2 + 0), .int x1, .int x2] (Pd G 212 tt σ)) (P_i G 212 tt r0 σ0) 0 0 (Fr G) := by
  refine ct [(0, .ref (G.2.2 + 0)), (1, .int x1), (2, .int x2)] rfl (by decide) (Nat.le_of_ble_eq_true rfl) ?_
  intro p e s m below meth c ls X hr hlk hR hl
  have X : Cx p s m _ c cX10_rich 6 RX10 G := X
  have hx := X.1
  have hb := X.2.1
  unfold f10_rich at hf
  refine lv_iload_n hx hb dX10_rich_0 rfl (lv_at hl 1 rfl) ?_
  obtain ⟨r_1, σ_2, hc_3, hf⟩ := z_b_e hf
  refine go_i hR (ms_run (As := [.int x1]) (rest := []) X hR ms_10_222 (c10_noYears l G N hc_3) ⟨rfl, rfl, Nat.le_of_ble_eq_true rfl, Nat.le_of_ble_eq_true rfl⟩ rfl hl.1 rfl (Nat.le_of_ble_eq_true rfl) dX10_rich_1 ⟨Nat.zero_le _, Nat.zero_le _⟩) (fun H locs hR => ?_)
  refine lv_if_ne (tgt := 16) hx hb dX10_rich_4 (by decide) (fun c_4 => ?_) (fun c_4 => ?_)
  · replace hf := z_f c_4 hf
    refine lv_iconst (v := (-1 : Int32)) hx hb dX10_rich_16 (by decide) ?_
    exact e_i X hR hr hlk hf dX10_rich_17
  · replace hf := z_t c_4 hf
    refine lv_iload_n hx hb dX10_rich_7 rfl (lv_at hl 2 rfl) ?_
    refine lv_if_eq (tgt := 18) hx hb dX10_rich_8 (by decide) (fun c_5 => ?_) (fun c_5 => ?_)
    · replace hf := z_t c_5 hf
      exact w10_rich_18 X hr hlk N  x1 x2 σ_2 _ _ _ hf hR (lv_sub hl [0, 1, 2] rfl)
    · replace hf := z_f c_5 hf
      refine lv_iload_n hx hb dX10_rich_11 rfl (lv_at hl 2 rfl) ?_
      refine lv_iconst (v := (1 : Int32)) hx hb dX10_rich_12 (by decide) ?_
      refine lv_icmp_eq (tgt := 18) hx hb dX10_rich_13 (by decide) (fun c_23 => ?_) (fun c_23 => ?_)
      · replace hf := z_t c_23 hf
        exact w10_rich_18 X hr hlk N  x1 x2 σ_2 _ _ _ hf hR (lv_sub hl [0, 1, 2] rfl)
      · replace hf := z_f c_23 hf
        refine lv_iconst (v := (-1 : Int32)) hx hb dX10_rich_16 (by decide) ?_
        exact e_i X hR hr hlk hf dX10_rich_17
abbrev rm10_chain : Room := { frames := 5, cells := 0, slots := 0, locals := 128 }
def f10_chain (N : Nat) (x1 : Int32) (x2 : Int32) (σ : Mm) : Option (Int32 × Mm) :=
  z_b (f10_noPlot N x1 σ) fun r_1 σ_2 =>
  if r_1 = 0 then (
  if (-1 : Int32) ≤ x2 then (
  z_b (f0_counting N 56 x1 σ_2) fun r_6 σ_7 =>
  if x2 = (-1 : Int32) then (
  some (((bitC r_6) + (1 : Int32)), σ_7)) else (
  if x2 = 0 then (
  z_r (gR σ_7 0 3) 3 fun t_19 =>
  z_c (inB x1 7) (
  some ((gI σ_7 (t_19 + 3) (ix x1)), σ_7))) else (
  z_b (f10_bitAt N r_6 (x2 - (1 : Int32)) σ_7) fun r_11 σ_12 =>
  z_b (f10_noGiving N r_11 σ_12) fun r_14 σ_15 =>
  if r_14 = 0 then (
  z_c (inB r_11 20) (
  some ((gI σ_15 53 (ix r_11)), σ_15))) else (
  some ((-1 : Int32), σ_15))))) else (
  some ((-1 : Int32), σ_2))) else (
  some ((-1 : Int32), σ_2))
set_option maxHeartbeats 4000000 in
set_option maxRecDepth 100000 in
theorem c10_chain (l : Launch) (G : Gp) (N : Nat) {x1 : Int32} {x2 : Int32} {σ σ0 : Mm} {r0 : Int32} (hf : f10_chain N x1 x2 σ = some (r0, σ0)) : Met l yX10_chain (WS yX10_chain cX10_chain 5 (some .int)) rm10_chain (va_Pc [.ref (G.2.2 + 0), .int x1, .int x2] (Pd G 212 tt σ)) (P_i G 212 tt r0 σ0) 0 0 (Fr G) := by
  refine ct [(0, .ref (G.2.2 + 0)), (1, .int x1), (2, .int x2)] rfl (by decide) (Nat.le_of_ble_eq_true rfl) ?_
  intro p e s m below meth c ls X hr hlk hR hl
  have X : Cx p s m _ c cX10_chain 5 RX10 G := X
  have hx := X.1
  have hb := X.2.1
  unfold f10_chain at hf
  refine lv_aload_n hx hb dX10_chain_0 rfl (lv_at hl 0 rfl) ?_
  refine lv_iload_n hx hb dX10_chain_1 rfl (lv_at hl 1 rfl) ?_
  obtain ⟨r_1, σ_2, hc_3, hf⟩ := z_b_e hf
  refine go_i hR (mv_run (As := [.int x1]) (rest := []) X hR mv_10_130 kh_0 (kd_lt kh_0 (by decide)) (c10_noPlot l G N hc_3) ⟨rfl, rfl, Nat.le_of_ble_eq_true rfl, Nat.le_of_ble_eq_true rfl⟩ rfl hl.1 rfl (Nat.le_of_ble_eq_true rfl) dX10_chain_2 ⟨Nat.zero_le _, Nat.zero_le _⟩) (fun H locs hR => ?_)
  refine lv_if_ne (tgt := 13) hx hb dX10_chain_5 (by decide) (fun c_4 => ?_) (fun c_4 => ?_)
  · replace hf := z_f c_4 hf
    refine lv_iconst (v := (-1 : Int32)) hx hb dX10_chain_13 (by decide) ?_
    exact e_i X hR hr hlk hf dX10_chain_14
  · replace hf := z_t c_4 hf
    refine lv_iload_n hx hb dX10_chain_8 rfl (lv_at hl 2 rfl) ?_
    refine lv_iconst (v := (-1 : Int32)) hx hb dX10_chain_9 (by decide) ?_
    refine lv_icmp_ge (tgt := 15) hx hb dX10_chain_10 (by decide) (fun c_5 => ?_) (fun c_5 => ?_)
    · replace hf := z_t c_5 hf
      refine lv_aload_n hx hb dX10_chain_15 rfl (lv_at hl 0 rfl) ?_
      refine r_gs (t := 60) X hR fr_10_72 kh_0 (sx_10_10 kh_0) dX10_chain_16 ?_
      refine lv_aload_n hx hb dX10_chain_19 rfl (lv_at hl 0 rfl) ?_
      refine r_gs (t := 56) X hR fr_10_60 kh_0 (sx_10_8 kh_0) dX10_chain_20 ?_
      refine lv_iload_n hx hb dX10_chain_23 rfl (lv_at hl 1 rfl) ?_
      obtain ⟨r_6, σ_7, hc_8, hf⟩ := z_b_e hf
      refine go_i hR (mv_run (As := [.ref (G.2.2 + 56), .int x1]) (rest := []) X hR mv_10_147 kh_60 (kd_lt kh_60 (by decide)) (c0_counting l G N kh_56 hc_8) ⟨rfl, rfl, Nat.le_of_ble_eq_true rfl, Nat.le_of_ble_eq_true rfl⟩ rfl hl.1 rfl (Nat.le_of_ble_eq_true rfl) dX10_chain_24 ⟨Nat.zero_le _, Nat.zero_le _⟩) (fun H locs hR => ?_)
      refine lv_istore_n (lv' := [(3, .int r_6), (0, .ref (G.2.2 + 0)), (1, .int x1), (2, .int x2)]) hx hb dX10_chain_27 rfl hl (by decide) rfl (fun ls hl => ?_)
      refine lv_iload_n hx hb dX10_chain_28 rfl (lv_at hl 3 rfl) ?_
      refine lv_iconst (v := (-1 : Int32)) hx hb dX10_chain_29 (by decide) ?_
      refine lv_icmp_ne (tgt := 40) hx hb dX10_chain_30 (by decide) (fun c_9 => ?_) (fun c_9 => ?_)
      · replace hf := z_f c_9 hf
        refine lv_iload_n hx hb dX10_chain_40 rfl (lv_at hl 3 rfl) ?_
        refine lv_if_ne (tgt := 54) hx hb dX10_chain_41 (by decide) (fun c_10 => ?_) (fun c_10 => ?_)
        · replace hf := z_f c_10 hf
          refine lv_iload_n hx hb dX10_chain_54 rfl (lv_at hl 0 rfl) ?_
          refine lv_iload_n hx hb dX10_chain_55 rfl (lv_at hl 3 rfl) ?_
          refine lv_iconst (v := (1 : Int32)) hx hb dX10_chain_56 (by decide) ?_
          refine lv_isub hx hb dX10_chain_57 ?_
          obtain ⟨r_11, σ_12, hc_13, hf⟩ := z_b_e hf
          refine go_i hR (ms_run (As := [.int r_6, .int (x2 - (1 : Int32))]) (rest := []) X hR ms_10_255 (c10_bitAt l G N hc_13) ⟨rfl, rfl, Nat.le_of_ble_eq_true rfl, Nat.le_of_ble_eq_true rfl⟩ rfl hl.1 rfl (Nat.le_of_ble_eq_true rfl) dX10_chain_58 ⟨Nat.zero_le _, Nat.zero_le _⟩) (fun H locs hR => ?_)
          refine lv_istore (lv' := [(4, .int r_11), (3, .int r_6), (0, .ref (G.2.2 + 0)), (1, .int x1), (2, .int x2)]) hx hb dX10_chain_61 hl (by decide) rfl (fun ls hl => ?_)
          refine lv_aload_n hx hb dX10_chain_63 rfl (lv_at hl 2 rfl) ?_
          refine lv_iload hx hb dX10_chain_64 (lv_at hl 0 rfl) ?_
          obtain ⟨r_14, σ_15, hc_16, hf⟩ := z_b_e hf
          refine go_i hR (mv_run (As := [.int r_11]) (rest := []) X hR mv_10_174 kh_0 (kd_lt kh_0 (by decide)) (c10_noGiving l G N hc_16) ⟨rfl, rfl, Nat.le_of_ble_eq_true rfl, Nat.le_of_ble_eq_true rfl⟩ rfl hl.1 rfl (Nat.le_of_ble_eq_true rfl) dX10_chain_66 ⟨Nat.zero_le _, Nat.zero_le _⟩) (fun H locs hR => ?_)
          refine lv_if_eq (tgt := 76) hx hb dX10_chain_69 (by decide) (fun c_17 => ?_) (fun c_17 => ?_)
          · replace hf := z_t c_17 hf
            refine lv_aload_n hx hb dX10_chain_76 rfl (lv_at hl 2 rfl) ?_
            refine r_gs (t := 50) X hR fr_10_53 kh_0 (sx_10_7 kh_0) dX10_chain_77 ?_
            refine r_gs (t := 53) X hR fr_10_183 kh_50 (sx_1_2 kh_50) dX10_chain_80 ?_
            refine lv_iload hx hb dX10_chain_83 (lv_at hl 0 rfl) ?_
            obtain ⟨hi_18, hf⟩ := z_c_e hf
            refine r_ial X hR ka_53 hi_18 dX10_chain_85 ?_
            exact e_i X hR hr hlk hf dX10_chain_86
          · replace hf := z_f c_17 hf
            refine lv_iconst (v := (-1 : Int32)) hx hb dX10_chain_72 (by decide) ?_
            refine lv_goto (tgt := 86) hx hb dX10_chain_73 (by decide) ?_
            exact e_i X hR hr hlk hf dX10_chain_86
        · replace hf := z_t c_10 hf
          refine lv_aload_n hx hb dX10_chain_44 rfl (lv_at hl 1 rfl) ?_
          obtain ⟨t_19, ht_20, kht_20, hf⟩ := z_r_e hf
          refine r_gd X hR fr_10_27 kh_0 ht_20 dX10_chain_45 ?_
          refine r_gs (t := (t_19 + 3)) X hR fr_10_140 kht_20 (sx_3_8 kht_20) dX10_chain_48 ?_
          refine lv_iload_n hx hb dX10_chain_51 rfl (lv_at hl 2 rfl) ?_
          obtain ⟨hi_21, hf⟩ := z_c_e hf
          refine r_ial X hR (kx_3_8 kht_20) hi_21 dX10_chain_52 ?_
          exact e_i X hR hr hlk hf dX10_chain_53
      · replace hf := z_t c_9 hf
        refine lv_iload_n hx hb dX10_chain_33 rfl (lv_at hl 0 rfl) ?_
        refine go_i hR (ms_run (As := [.int r_6]) (rest := []) X hR jms_10_150 (cJ_bitC l G) ⟨rfl, rfl, Nat.le_of_ble_eq_true rfl, Nat.le_of_ble_eq_true rfl⟩ rfl hl.1 rfl (Nat.le_of_ble_eq_true rfl) dX10_chain_34 ⟨Nat.zero_le _, Nat.zero_le _⟩) (fun H locs hR => ?_)
        refine lv_iconst (v := (1 : Int32)) hx hb dX10_chain_37 (by decide) ?_
        refine lv_iadd hx hb dX10_chain_38 ?_
        exact e_i X hR hr hlk hf dX10_chain_39
    · replace hf := z_f c_5 hf
      refine lv_iconst (v := (-1 : Int32)) hx hb dX10_chain_13 (by decide) ?_
      exact e_i X hR hr hlk hf dX10_chain_14
abbrev rm10_idle : Room := { frames := 5, cells := 0, slots := 0, locals := 128 }
def f10_idle (N : Nat) (x1 : Int32) (σ : Mm) : Option (Int32 × Mm) :=
  z_b (f10_noPlot N x1 σ) fun r_1 σ_2 =>
  if r_1 = 0 then (
  z_b (f0_standing N 56 σ_2) fun r_5 σ_6 =>
  z_b (f1_ofPlot N 50 x1 (gI σ_6 56 3) σ_6) fun r_8 σ_9 =>
  z_b (f0_counting N 56 x1 σ_9) fun r_11 σ_12 =>
  some (((r_5 &&& r_8) &&& (r_11 ^^^ (-1 : Int32))), σ_12)) else (
  some ((-1 : Int32), σ_2))
set_option maxHeartbeats 4000000 in
set_option maxRecDepth 100000 in
theorem c10_idle (l : Launch) (G : Gp) (N : Nat) {x1 : Int32} {σ σ0 : Mm} {r0 : Int32} (hf : f10_idle N x1 σ = some (r0, σ0)) : Met l yX10_idle (WS yX10_idle cX10_idle 2 (some .int)) rm10_idle (va_Pc [.ref (G.2.2 + 0), .int x1] (Pd G 212 tt σ)) (P_i G 212 tt r0 σ0) 0 0 (Fr G) := by
  refine ct [(0, .ref (G.2.2 + 0)), (1, .int x1)] rfl (by decide) (Nat.le_of_ble_eq_true rfl) ?_
  intro p e s m below meth c ls X hr hlk hR hl
  have X : Cx p s m _ c cX10_idle 2 RX10 G := X
  have hx := X.1
  have hb := X.2.1
  unfold f10_idle at hf
  refine lv_aload_n hx hb dX10_idle_0 rfl (lv_at hl 0 rfl) ?_
  refine lv_iload_n hx hb dX10_idle_1 rfl (lv_at hl 1 rfl) ?_
  obtain ⟨r_1, σ_2, hc_3, hf⟩ := z_b_e hf
  refine go_i hR (mv_run (As := [.int x1]) (rest := []) X hR mv_10_130 kh_0 (kd_lt kh_0 (by decide)) (c10_noPlot l G N hc_3) ⟨rfl, rfl, Nat.le_of_ble_eq_true rfl, Nat.le_of_ble_eq_true rfl⟩ rfl hl.1 rfl (Nat.le_of_ble_eq_true rfl) dX10_idle_2 ⟨Nat.zero_le _, Nat.zero_le _⟩) (fun H locs hR => ?_)
  refine lv_if_eq (tgt := 10) hx hb dX10_idle_5 (by decide) (fun c_4 => ?_) (fun c_4 => ?_)
  · replace hf := z_t c_4 hf
    refine lv_aload_n hx hb dX10_idle_10 rfl (lv_at hl 0 rfl) ?_
    refine r_gs (t := 60) X hR fr_10_72 kh_0 (sx_10_10 kh_0) dX10_idle_11 ?_
    refine lv_aload_n hx hb dX10_idle_14 rfl (lv_at hl 0 rfl) ?_
    refine r_gs (t := 56) X hR fr_10_60 kh_0 (sx_10_8 kh_0) dX10_idle_15 ?_
    obtain ⟨r_5, σ_6, hc_7, hf⟩ := z_b_e hf
    refine go_i hR (mv_run (As := [.ref (G.2.2 + 56)]) (rest := []) X hR mv_10_292 kh_60 (kd_lt kh_60 (by decide)) (c0_standing l G N kh_56 hc_7) ⟨rfl, rfl, Nat.le_of_ble_eq_true rfl, Nat.le_of_ble_eq_true rfl⟩ rfl hl.1 rfl (Nat.le_of_ble_eq_true rfl) dX10_idle_18 ⟨Nat.zero_le _, Nat.zero_le _⟩) (fun H locs hR => ?_)
    refine lv_aload_n hx hb dX10_idle_21 rfl (lv_at hl 0 rfl) ?_
    refine r_gs (t := 50) X hR fr_10_53 kh_0 (sx_10_7 kh_0) dX10_idle_22 ?_
    refine lv_iload_n hx hb dX10_idle_25 rfl (lv_at hl 1 rfl) ?_
    refine lv_aload_n hx hb dX10_idle_26 rfl (lv_at hl 0 rfl) ?_
    refine r_gs (t := 56) X hR fr_10_60 kh_0 (sx_10_8 kh_0) dX10_idle_27 ?_
    refine r_gi X hR fi_10_212 kh_56 dX10_idle_30 ?_
    obtain ⟨r_8, σ_9, hc_10, hf⟩ := z_b_e hf
    refine go_i hR (mv_run (As := [.int x1, .int (gI σ_6 56 3)]) (rest := [.int r_5]) X hR mv_10_296 kh_50 (kd_lt kh_50 (by decide)) (c1_ofPlot l G N kh_50 hc_10) ⟨rfl, rfl, Nat.le_of_ble_eq_true rfl, Nat.le_of_ble_eq_true rfl⟩ rfl hl.1 rfl (Nat.le_of_ble_eq_true rfl) dX10_idle_33 ⟨Nat.zero_le _, Nat.zero_le _⟩) (fun H locs hR => ?_)
    refine lv_iand hx hb dX10_idle_36 ?_
    refine lv_aload_n hx hb dX10_idle_37 rfl (lv_at hl 0 rfl) ?_
    refine r_gs (t := 60) X hR fr_10_72 kh_0 (sx_10_10 kh_0) dX10_idle_38 ?_
    refine lv_aload_n hx hb dX10_idle_41 rfl (lv_at hl 0 rfl) ?_
    refine r_gs (t := 56) X hR fr_10_60 kh_0 (sx_10_8 kh_0) dX10_idle_42 ?_
    refine lv_iload_n hx hb dX10_idle_45 rfl (lv_at hl 1 rfl) ?_
    obtain ⟨r_11, σ_12, hc_13, hf⟩ := z_b_e hf
    refine go_i hR (mv_run (As := [.ref (G.2.2 + 56), .int x1]) (rest := [.int (r_5 &&& r_8)]) X hR mv_10_147 kh_60 (kd_lt kh_60 (by decide)) (c0_counting l G N kh_56 hc_13) ⟨rfl, rfl, Nat.le_of_ble_eq_true rfl, Nat.le_of_ble_eq_true rfl⟩ rfl hl.1 rfl (Nat.le_of_ble_eq_true rfl) dX10_idle_46 ⟨Nat.zero_le _, Nat.zero_le _⟩) (fun H locs hR => ?_)
    refine lv_iconst (v := (-1 : Int32)) hx hb dX10_idle_49 (by decide) ?_
    refine lv_ixor hx hb dX10_idle_50 ?_
    refine lv_iand hx hb dX10_idle_51 ?_
    exact e_i X hR hr hlk hf dX10_idle_52
  · replace hf := z_f c_4 hf
    refine lv_iconst (v := (-1 : Int32)) hx hb dX10_idle_8 (by decide) ?_
    exact e_i X hR hr hlk hf dX10_idle_9
abbrev rm10_eldest : Room := { frames := 0, cells := 0, slots := 0, locals := 0 }
def f10_eldest_81 (N : Nat) (x1 : Int32) (x2 : Int32) (x3 : Int32) (σ : Mm) : Option (Int32 × Mm) :=
  if x1 = 0 then (
  some (x2, σ)) else (
  some (x3, σ))
def f10_eldest_75 (N : Nat) (k20 : Int32 → Int32 → Int32 → Mm → Option (Int32 × Mm)) (x1 : Int32) (x2 : Int32) (x3 : Int32) (x4 : Int32) (σ : Mm) : Option (Int32 × Mm) :=
  z_l (x4 + (1 : Int32)) fun x4_7 =>
  k20 x2 x3 x4_7 σ
def f10_eldest_20 (N : Nat) (x1 : Int32) : Nat → Int32 → Int32 → Int32 → Mm → Option (Int32 × Mm)
  | 0, _, _, _, _ => none
  | fu + 1, x2, x3, x4, σ => z_r (gR σ 0 3) 3 fun t_2 =>
  if (gI σ t_2 2) ≤ x4 then (
  f10_eldest_81 N x1 x2 x3 σ) else (
  if (((gI σ 56 1) >>> (x4 &&& 31)) &&& (1 : Int32)) = 0 then (
  f10_eldest_75 N (fun x2 x3 x4 σ => f10_eldest_20 N x1 fu x2 x3 x4 σ) x1 x2 x3 x4 σ) else (
  z_c (inB x4 7) (
  if (gI σ 57 (ix x4)) ≤ x3 then (
  f10_eldest_75 N (fun x2 x3 x4 σ => f10_eldest_20 N x1 fu x2 x3 x4 σ) x1 x2 x3 x4 σ) else (
  z_c (inB x4 7) (
  z_l ((gI σ 57 (ix x4))) fun x3_11 =>
  f10_eldest_75 N (fun x2 x3 x4 σ => f10_eldest_20 N x1 fu x2 x3 x4 σ) x1 x4 x3_11 x4 σ)))))
def f10_eldest_11 (N : Nat) (x1 : Int32) (σ : Mm) : Option (Int32 × Mm) :=
  f10_eldest_20 N x1 N (-2 : Int32) (-2 : Int32) (0 : Int32) σ
def f10_eldest (N : Nat) (x1 : Int32) (σ : Mm) : Option (Int32 × Mm) :=
  if x1 = 0 then (
  f10_eldest_11 N x1 σ) else (
  if x1 = (1 : Int32) then (
  f10_eldest_11 N x1 σ) else (
  some ((-1 : Int32), σ)))
set_option maxHeartbeats 4000000 in
set_option maxRecDepth 100000 in
theorem w10_eldest_81 (X : Cx p s m args c cX10_eldest 5 RX10 G) (hr : meth.sig.returnType = some .int) (hlk : meth.locks = false) (N : Nat) :
    ∀ (x1 : Int32) (x2 : Int32) (x3 : Int32) (σ : Mm) (H : Heap) (locs : List Loc) (ls : Array Slot), f10_eldest_81 N x1 x2 x3 σ = some (r0, σ0) → Rp G 212 tt σ s H locs → lv_has ls 5 [(1, .int x1), (2, .int x2), (3, .int x3)] → W p l e rm10_eldest s m args below meth c H locs 0 0 (MQ below (P_i G 212 tt r0 σ0) args s 0 0 (Fr G)) (F0 m 81 ls []) := by
  have hx := X.1
  have hb := X.2.1
  intro x1 x2 x3 σ H locs ls hf hR hl
  unfold f10_eldest_81 at hf
  refine lv_iload_n hx hb dX10_eldest_81 rfl (lv_at hl 0 rfl) ?_
  refine lv_if_ne (tgt := 89) hx hb dX10_eldest_82 (by decide) (fun c_5 => ?_) (fun c_5 => ?_)
  · replace hf := z_f c_5 hf
    refine lv_iload_n hx hb dX10_eldest_89 rfl (lv_at hl 2 rfl) ?_
    exact e_i X hR hr hlk hf dX10_eldest_90
  · replace hf := z_t c_5 hf
    refine lv_iload_n hx hb dX10_eldest_85 rfl (lv_at hl 1 rfl) ?_
    refine lv_goto (tgt := 90) hx hb dX10_eldest_86 (by decide) ?_
    exact e_i X hR hr hlk hf dX10_eldest_90
set_option maxHeartbeats 4000000 in
set_option maxRecDepth 100000 in
theorem w10_eldest_75 (X : Cx p s m args c cX10_eldest 5 RX10 G) (hr : meth.sig.returnType = some .int) (hlk : meth.locks = false) (N : Nat) {x1 : Int32} {k20 : Int32 → Int32 → Int32 → Mm → Option (Int32 × Mm)} (hk20 : ∀ (x2 : Int32) (x3 : Int32) (x4 : Int32) (σ : Mm) (H : Heap) (locs : List Loc) (ls : Array Slot), k20 x2 x3 x4 σ = some (r0, σ0) → Rp G 212 tt σ s H locs → lv_has ls 5 [(0, .ref (G.2.2 + 0)), (1, .int x1), (2, .int x2), (3, .int x3), (4, .int x4)] → W p l e rm10_eldest s m args below meth c H locs 0 0 (MQ below (P_i G 212 tt r0 σ0) args s 0 0 (Fr G)) (F0 m 20 ls [])) :
    ∀ (x2 : Int32) (x3 : Int32) (x4 : Int32) (σ : Mm) (H : Heap) (locs : List Loc) (ls : Array Slot), f10_eldest_75 N k20 x1 x2 x3 x4 σ = some (r0, σ0) → Rp G 212 tt σ s H locs → lv_has ls 5 [(0, .ref (G.2.2 + 0)), (1, .int x1), (2, .int x2), (3, .int x3), (4, .int x4)] → W p l e rm10_eldest s m args below meth c H locs 0 0 (MQ below (P_i G 212 tt r0 σ0) args s 0 0 (Fr G)) (F0 m 75 ls []) := by
  have hx := X.1
  have hb := X.2.1
  intro x2 x3 x4 σ H locs ls hf hR hl
  unfold f10_eldest_75 at hf
  obtain ⟨x4_7, ex4_7⟩ : ∃ z : Int32, z = x4 + (1 : Int32) := ⟨_, rfl⟩
  replace hf := z_l_e ex4_7 hf
  refine lv_iinc (v := x4_7) (lv' := [(4, .int x4_7), (0, .ref (G.2.2 + 0)), (1, .int x1), (2, .int x2), (3, .int x3)]) hx hb dX10_eldest_75 hl (k := 4) rfl (by rw [ex4_7]; rfl) (by decide) rfl (fun ls hl => ?_)
  refine lv_goto (tgt := 20) hx hb dX10_eldest_78 (by decide) ?_
  exact hk20 x2 x3 x4_7 σ _ _ _ hf hR (lv_sub hl [1, 2, 3, 4, 0] rfl)
set_option maxHeartbeats 4000000 in
set_option maxRecDepth 100000 in
theorem w10_eldest_20 (X : Cx p s m args c cX10_eldest 5 RX10 G) (hr : meth.sig.returnType = some .int) (hlk : meth.locks = false) (N : Nat) {x1 : Int32} :
    ∀ (fu : Nat) (x2 : Int32) (x3 : Int32) (x4 : Int32) (σ : Mm) (H : Heap) (locs : List Loc) (ls : Array Slot), f10_eldest_20 N x1 fu x2 x3 x4 σ = some (r0, σ0) → Rp G 212 tt σ s H locs → lv_has ls 5 [(0, .ref (G.2.2 + 0)), (1, .int x1), (2, .int x2), (3, .int x3), (4, .int x4)] → W p l e rm10_eldest s m args below meth c H locs 0 0 (MQ below (P_i G 212 tt r0 σ0) args s 0 0 (Fr G)) (F0 m 20 ls []) := by
  have hx := X.1
  have hb := X.2.1
  intro fu
  induction fu with
  | zero =>
    intro x2 x3 x4 σ H locs ls hf hR hl
    rw [f10_eldest_20] at hf
    cases hf
  | succ fu ih =>
    intro x2 x3 x4 σ H locs ls hf hR hl
    rw [f10_eldest_20] at hf
    refine lv_iload hx hb dX10_eldest_20 (lv_at hl 4 rfl) ?_
    refine lv_aload_n hx hb dX10_eldest_22 rfl (lv_at hl 0 rfl) ?_
    obtain ⟨t_2, ht_3, kht_3, hf⟩ := z_r_e hf
    refine r_gd X hR fr_10_27 kh_0 ht_3 dX10_eldest_23 ?_
    refine r_gi X hR fi_10_209 kht_3 dX10_eldest_26 ?_
    refine lv_icmp_ge (tgt := 81) hx hb dX10_eldest_29 (by decide) (fun c_4 => ?_) (fun c_4 => ?_)
    · replace hf := z_t c_4 hf
      exact w10_eldest_81 X hr hlk N  x1 x2 x3 σ _ _ _ hf hR (lv_sub hl [1, 2, 3] rfl)
    · replace hf := z_f c_4 hf
      refine lv_aload_n hx hb dX10_eldest_32 rfl (lv_at hl 0 rfl) ?_
      refine r_gs (t := 56) X hR fr_10_60 kh_0 (sx_10_8 kh_0) dX10_eldest_33 ?_
      refine r_gi X hR fi_10_165 kh_56 dX10_eldest_36 ?_
      refine lv_iload hx hb dX10_eldest_39 (lv_at hl 4 rfl) ?_
      refine lv_ishr hx hb dX10_eldest_41 ?_
      refine lv_iconst (v := (1 : Int32)) hx hb dX10_eldest_42 (by decide) ?_
      refine lv_iand hx hb dX10_eldest_43 ?_
      refine lv_if_eq (tgt := 75) hx hb dX10_eldest_44 (by decide) (fun c_6 => ?_) (fun c_6 => ?_)
      · replace hf := z_t c_6 hf
        exact w10_eldest_75 X hr hlk N ih x2 x3 x4 σ _ _ _ hf hR (lv_sub hl [0, 1, 2, 3, 4] rfl)
      · replace hf := z_f c_6 hf
        refine lv_aload_n hx hb dX10_eldest_47 rfl (lv_at hl 0 rfl) ?_
        refine r_gs (t := 56) X hR fr_10_60 kh_0 (sx_10_8 kh_0) dX10_eldest_48 ?_
        refine r_gs (t := 57) X hR fr_10_159 kh_56 (sx_5_4 kh_56) dX10_eldest_51 ?_
        refine lv_iload hx hb dX10_eldest_54 (lv_at hl 4 rfl) ?_
        obtain ⟨hi_8, hf⟩ := z_c_e hf
        refine r_ial X hR ka_57 hi_8 dX10_eldest_56 ?_
        refine lv_iload_n hx hb dX10_eldest_57 rfl (lv_at hl 3 rfl) ?_
        refine lv_icmp_le (tgt := 75) hx hb dX10_eldest_58 (by decide) (fun c_9 => ?_) (fun c_9 => ?_)
        · replace hf := z_t c_9 hf
          exact w10_eldest_75 X hr hlk N ih x2 x3 x4 σ _ _ _ hf hR (lv_sub hl [0, 1, 2, 3, 4] rfl)
        · replace hf := z_f c_9 hf
          refine lv_aload_n hx hb dX10_eldest_61 rfl (lv_at hl 0 rfl) ?_
          refine r_gs (t := 56) X hR fr_10_60 kh_0 (sx_10_8 kh_0) dX10_eldest_62 ?_
          refine r_gs (t := 57) X hR fr_10_159 kh_56 (sx_5_4 kh_56) dX10_eldest_65 ?_
          refine lv_iload hx hb dX10_eldest_68 (lv_at hl 4 rfl) ?_
          obtain ⟨hi_10, hf⟩ := z_c_e hf
          refine r_ial X hR ka_57 hi_10 dX10_eldest_70 ?_
          refine lv_topi (fun x3_11 ex3_11 => ?_)
          replace hf := z_l_e ex3_11 hf
          refine lv_istore_n (lv' := [(3, .int x3_11), (0, .ref (G.2.2 + 0)), (1, .int x1), (2, .int x2), (4, .int x4)]) hx hb dX10_eldest_71 rfl hl (by decide) rfl (fun ls hl => ?_)
          refine lv_iload hx hb dX10_eldest_72 (lv_at hl 4 rfl) ?_
          refine lv_istore_n (lv' := [(2, .int x4), (3, .int x3_11), (0, .ref (G.2.2 + 0)), (1, .int x1), (4, .int x4)]) hx hb dX10_eldest_74 rfl hl (by decide) rfl (fun ls hl => ?_)
          exact w10_eldest_75 X hr hlk N ih x4 x3_11 x4 σ _ _ _ hf hR (lv_sub hl [2, 3, 0, 1, 4] rfl)
set_option maxHeartbeats 4000000 in
set_option maxRecDepth 100000 in
theorem w10_eldest_11 (X : Cx p s m args c cX10_eldest 5 RX10 G) (hr : meth.sig.returnType = some .int) (hlk : meth.locks = false) (N : Nat) :
    ∀ (x1 : Int32) (σ : Mm) (H : Heap) (locs : List Loc) (ls : Array Slot), f10_eldest_11 N x1 σ = some (r0, σ0) → Rp G 212 tt σ s H locs → lv_has ls 5 [(0, .ref (G.2.2 + 0)), (1, .int x1)] → W p l e rm10_eldest s m args below meth c H locs 0 0 (MQ below (P_i G 212 tt r0 σ0) args s 0 0 (Fr G)) (F0 m 11 ls []) := by
  have hx := X.1
  have hb := X.2.1
  intro x1 σ H locs ls hf hR hl
  unfold f10_eldest_11 at hf
  refine lv_bipush (v := (-2 : Int32)) hx hb dX10_eldest_11 (by decide) ?_
  refine lv_istore_n (lv' := [(2, .int (-2 : Int32)), (0, .ref (G.2.2 + 0)), (1, .int x1)]) hx hb dX10_eldest_13 rfl hl (by decide) rfl (fun ls hl => ?_)
  refine lv_bipush (v := (-2 : Int32)) hx hb dX10_eldest_14 (by decide) ?_
  refine lv_istore_n (lv' := [(3, .int (-2 : Int32)), (2, .int (-2 : Int32)), (0, .ref (G.2.2 + 0)), (1, .int x1)]) hx hb dX10_eldest_16 rfl hl (by decide) rfl (fun ls hl => ?_)
  refine lv_iconst (v := (0 : Int32)) hx hb dX10_eldest_17 (by decide) ?_
  refine lv_istore (lv' := [(4, .int (0 : Int32)), (3, .int (-2 : Int32)), (2, .int (-2 : Int32)), (0, .ref (G.2.2 + 0)), (1, .int x1)]) hx hb dX10_eldest_18 hl (by decide) rfl (fun ls hl => ?_)
  exact w10_eldest_20 X hr hlk N  N (-2 : Int32) (-2 : Int32) (0 : Int32) σ _ _ _ hf hR (lv_sub hl [3, 4, 2, 1, 0] rfl)
set_option maxHeartbeats 4000000 in
set_option maxRecDepth 100000 in
theorem c10_eldest (l : Launch) (G : Gp) (N : Nat) {x1 : Int32} {σ σ0 : Mm} {r0 : Int32} (hf : f10_eldest N x1 σ = some (r0, σ0)) : Met l yX10_eldest (WS yX10_eldest cX10_eldest 5 (some .int)) rm10_eldest (va_Pc [.ref (G.2.2 + 0), .int x1] (Pd G 212 tt σ)) (P_i G 212 tt r0 σ0) 0 0 (Fr G) := by
  refine ct [(0, .ref (G.2.2 + 0)), (1, .int x1)] rfl (by decide) (Nat.le_of_ble_eq_true rfl) ?_
  intro p e s m below meth c ls X hr hlk hR hl
  have X : Cx p s m _ c cX10_eldest 5 RX10 G := X
  have hx := X.1
  have hb := X.2.1
  unfold f10_eldest at hf
  refine lv_iload_n hx hb dX10_eldest_0 rfl (lv_at hl 1 rfl) ?_
  refine lv_if_eq (tgt := 11) hx hb dX10_eldest_1 (by decide) (fun c_1 => ?_) (fun c_1 => ?_)
  · replace hf := z_t c_1 hf
    exact w10_eldest_11 X hr hlk N  x1 σ _ _ _ hf hR (lv_sub hl [0, 1] rfl)
  · replace hf := z_f c_1 hf
    refine lv_iload_n hx hb dX10_eldest_4 rfl (lv_at hl 1 rfl) ?_
    refine lv_iconst (v := (1 : Int32)) hx hb dX10_eldest_5 (by decide) ?_
    refine lv_icmp_eq (tgt := 11) hx hb dX10_eldest_6 (by decide) (fun c_12 => ?_) (fun c_12 => ?_)
    · replace hf := z_t c_12 hf
      exact w10_eldest_11 X hr hlk N  x1 σ _ _ _ hf hR (lv_sub hl [0, 1] rfl)
    · replace hf := z_f c_12 hf
      refine lv_iconst (v := (-1 : Int32)) hx hb dX10_eldest_9 (by decide) ?_
      exact e_i X hR hr hlk hf dX10_eldest_10
end GEN
