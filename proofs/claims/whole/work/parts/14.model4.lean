section GEN
variable {p : Program} {l : Launch} {e : Env} {s : State} {m : MethodId} {args : Array Value} {below : List Frame} {meth : Method} {c : Code} {G : Gp} {r0 : Int32} {l0 : Int64} {u0 : Unit} {σ0 : Mm}

abbrev rm11_unsay : Room := { frames := 2, cells := 0, slots := 0, locals := 43 }
def f11_unsay_28 (N : Nat) (x1 : Int32) (x2 : Int32) (s0 : Int32) (σ : Mm) : Option (Int32 × Mm) :=
  if s0 = x2 then (
  some ((0 : Int32), σ)) else (
  z_b (f11_copies N σ) fun _ σ_9 =>
  z_c (inB (16 : Int32) 117) (
  z_c (inB (16 : Int32) 117) (z_l (sI σ_9 199 (ix (16 : Int32)) ((gI σ_9 199 (ix (16 : Int32))) ^^^ ((1 : Int32) <<< (x1 &&& 31)))) fun σ_13 =>
  z_b (f11_records N σ_13) fun _ σ_15 =>
  some ((1 : Int32), σ_15))))
def f11_unsay (N : Nat) (x1 : Int32) (x2 : Int32) (σ : Mm) : Option (Int32 × Mm) :=
  z_b (f11_isGiving N x1 σ) fun r_1 σ_2 =>
  if r_1 = 0 then (
  some ((0 : Int32), σ_2)) else (
  z_c (inB (16 : Int32) 117) (
  if (((gI σ_2 198 (ix (16 : Int32))) >>> (x1 &&& 31)) &&& (1 : Int32)) = (1 : Int32) then (
  f11_unsay_28 N x1 x2 (1 : Int32) σ_2) else (
  f11_unsay_28 N x1 x2 (0 : Int32) σ_2)))
set_option maxHeartbeats 4000000 in
set_option maxRecDepth 100000 in
theorem w11_unsay_28 (X : Cx p s m args c cX11_unsay 3 RX11 G) (hr : meth.sig.returnType = some .boolean) (hlk : meth.locks = false) (N : Nat) :
    ∀ (x1 : Int32) (x2 : Int32) (s0 : Int32) (σ : Mm) (H : Heap) (locs : List Loc) (ls : Array Slot), f11_unsay_28 N x1 x2 s0 σ = some (r0, σ0) → Rp G 212 tt σ s H locs → lv_has ls 3 [(0, .ref (G.2.2 + 160)), (1, .int x1), (2, .int x2)] → W p l e rm11_unsay s m args below meth c H locs 0 0 (MQ below (P_i G 212 tt r0 σ0) args s 0 0 (Fr G)) (F0 m 28 ls [.int s0]) := by
  have hx := X.1
  have hb := X.2.1
  intro x1 x2 s0 σ H locs ls hf hR hl
  unfold f11_unsay_28 at hf
  refine lv_iload_n hx hb dX11_unsay_28 rfl (lv_at hl 2 rfl) ?_
  refine lv_icmp_ne (tgt := 34) hx hb dX11_unsay_29 (by decide) (fun c_7 => ?_) (fun c_7 => ?_)
  · replace hf := z_f c_7 hf
    refine lv_aload_n hx hb dX11_unsay_34 rfl (lv_at hl 0 rfl) ?_
    obtain ⟨r_8, σ_9, hc_10, hf⟩ := z_b_e hf
    refine go_v hR (mv_run (As := []) (rest := []) X hR mv_11_400 kh_160 (kd_lt kh_160 (by decide)) (c11_copies l G N hc_10) ⟨rfl, rfl, Nat.le_of_ble_eq_true rfl, Nat.le_of_ble_eq_true rfl⟩ rfl hl.1 rfl (Nat.le_of_ble_eq_true rfl) dX11_unsay_35 ⟨Nat.zero_le _, Nat.zero_le _⟩) (fun H locs hR => ?_)
    refine lv_aload_n hx hb dX11_unsay_38 rfl (lv_at hl 0 rfl) ?_
    refine r_gs (t := 199) X hR fr_11_134 kh_160 (sx_11_56 kh_160) dX11_unsay_39 ?_
    refine lv_bipush (v := (16 : Int32)) hx hb dX11_unsay_42 (by decide) ?_
    refine lv_dup2_11 hx hb dX11_unsay_44 rfl rfl ?_
    obtain ⟨hi_11, hf⟩ := z_c_e hf
    refine r_ial X hR ka_199 hi_11 dX11_unsay_45 ?_
    refine lv_iconst (v := (1 : Int32)) hx hb dX11_unsay_46 (by decide) ?_
    refine lv_iload_n hx hb dX11_unsay_47 rfl (lv_at hl 1 rfl) ?_
    refine lv_ishl hx hb dX11_unsay_48 ?_
    refine lv_ixor hx hb dX11_unsay_49 ?_
    obtain ⟨hi_12, hf⟩ := z_c_e hf
    refine r_ias X hR ka_199 hi_12 dX11_unsay_50 (fun H locs σ_13 eσ_13 hR => ?_)
    replace hf := z_l_e eσ_13 hf
    refine lv_aload_n hx hb dX11_unsay_51 rfl (lv_at hl 0 rfl) ?_
    obtain ⟨r_14, σ_15, hc_16, hf⟩ := z_b_e hf
    refine go_v hR (mv_run (As := []) (rest := []) X hR mv_11_421 kh_160 (kd_lt kh_160 (by decide)) (c11_records l G N hc_16) ⟨rfl, rfl, Nat.le_of_ble_eq_true rfl, Nat.le_of_ble_eq_true rfl⟩ rfl hl.1 rfl (Nat.le_of_ble_eq_true rfl) dX11_unsay_52 ⟨Nat.zero_le _, Nat.zero_le _⟩) (fun H locs hR => ?_)
    refine lv_iconst (v := (1 : Int32)) hx hb dX11_unsay_55 (by decide) ?_
    exact e_z X hR hr hlk rfl hf dX11_unsay_56
  · replace hf := z_t c_7 hf
    refine lv_iconst (v := (0 : Int32)) hx hb dX11_unsay_32 (by decide) ?_
    exact e_z X hR hr hlk rfl hf dX11_unsay_33
set_option maxHeartbeats 4000000 in
set_option maxRecDepth 100000 in
theorem c11_unsay (l : Launch) (G : Gp) (N : Nat) {x1 : Int32} {x2 : Int32} {σ σ0 : Mm} {r0 : Int32} (hf : f11_unsay N x1 x2 σ = some (r0, σ0)) : Met l yX11_unsay (WS yX11_unsay cX11_unsay 3 (some .boolean)) rm11_unsay (va_Pc [.ref (G.2.2 + 160), .int x1, .int x2] (Pd G 212 tt σ)) (P_i G 212 tt r0 σ0) 0 0 (Fr G) := by
  refine ct [(0, .ref (G.2.2 + 160)), (1, .int x1), (2, .int x2)] rfl (by decide) (Nat.le_of_ble_eq_true rfl) ?_
  intro p e s m below meth c ls X hr hlk hR hl
  have X : Cx p s m _ c cX11_unsay 3 RX11 G := X
  have hx := X.1
  have hb := X.2.1
  unfold f11_unsay at hf
  refine lv_aload_n hx hb dX11_unsay_0 rfl (lv_at hl 0 rfl) ?_
  refine lv_iload_n hx hb dX11_unsay_1 rfl (lv_at hl 1 rfl) ?_
  obtain ⟨r_1, σ_2, hc_3, hf⟩ := z_b_e hf
  refine go_i hR (mv_run (As := [.int x1]) (rest := []) X hR mv_11_412 kh_160 (kd_lt kh_160 (by decide)) (c11_isGiving l G N hc_3) ⟨rfl, rfl, Nat.le_of_ble_eq_true rfl, Nat.le_of_ble_eq_true rfl⟩ rfl hl.1 rfl (Nat.le_of_ble_eq_true rfl) dX11_unsay_2 ⟨Nat.zero_le _, Nat.zero_le _⟩) (fun H locs hR => ?_)
  refine lv_if_eq (tgt := 32) hx hb dX11_unsay_5 (by decide) (fun c_4 => ?_) (fun c_4 => ?_)
  · replace hf := z_t c_4 hf
    refine lv_iconst (v := (0 : Int32)) hx hb dX11_unsay_32 (by decide) ?_
    exact e_z X hR hr hlk rfl hf dX11_unsay_33
  · replace hf := z_f c_4 hf
    refine lv_aload_n hx hb dX11_unsay_8 rfl (lv_at hl 0 rfl) ?_
    refine r_gs (t := 198) X hR fr_11_131 kh_160 (sx_11_55 kh_160) dX11_unsay_9 ?_
    refine lv_bipush (v := (16 : Int32)) hx hb dX11_unsay_12 (by decide) ?_
    obtain ⟨hi_5, hf⟩ := z_c_e hf
    refine r_ial X hR ka_198 hi_5 dX11_unsay_14 ?_
    refine lv_iload_n hx hb dX11_unsay_15 rfl (lv_at hl 1 rfl) ?_
    refine lv_ishr hx hb dX11_unsay_16 ?_
    refine lv_iconst (v := (1 : Int32)) hx hb dX11_unsay_17 (by decide) ?_
    refine lv_iand hx hb dX11_unsay_18 ?_
    refine lv_iconst (v := (1 : Int32)) hx hb dX11_unsay_19 (by decide) ?_
    refine lv_icmp_ne (tgt := 27) hx hb dX11_unsay_20 (by decide) (fun c_6 => ?_) (fun c_6 => ?_)
    · replace hf := z_f c_6 hf
      refine lv_iconst (v := (0 : Int32)) hx hb dX11_unsay_27 (by decide) ?_
      exact w11_unsay_28 X hr hlk N  x1 x2 (0 : Int32) σ_2 _ _ _ hf hR (lv_sub hl [0, 1, 2] rfl)
    · replace hf := z_t c_6 hf
      refine lv_iconst (v := (1 : Int32)) hx hb dX11_unsay_23 (by decide) ?_
      refine lv_goto (tgt := 28) hx hb dX11_unsay_24 (by decide) ?_
      exact w11_unsay_28 X hr hlk N  x1 x2 (1 : Int32) σ_2 _ _ _ hf hR (lv_sub hl [0, 1, 2] rfl)
abbrev rm11_years : Room := { frames := 5, cells := 0, slots := 0, locals := 117 }
def f11_years (N : Nat) (x1 : Int32) (σ : Mm) : Option (Int32 × Mm) :=
  z_b (f11_in N x1 (0 : Int32) (60 : Int32) σ) fun r_1 σ_2 =>
  if r_1 = 0 then (
  some ((-1 : Int32), σ_2)) else (
  if x1 = 0 then (
  z_c (inB (14 : Int32) 117) (
  some ((gI σ_2 198 (ix (14 : Int32))), σ_2))) else (
  z_b (f11_copies N σ_2) fun _ σ_7 =>
  z_b (f11_goes N x1 σ_7) fun _ σ_10 =>
  z_b (f11_records N σ_10) fun _ σ_13 =>
  z_c (inB (14 : Int32) 117) (
  some ((gI σ_13 198 (ix (14 : Int32))), σ_13))))
set_option maxHeartbeats 4000000 in
set_option maxRecDepth 100000 in
theorem c11_years (l : Launch) (G : Gp) (N : Nat) {x1 : Int32} {σ σ0 : Mm} {r0 : Int32} (hf : f11_years N x1 σ = some (r0, σ0)) : Met l yX11_years (WS yX11_years cX11_years 2 (some .int)) rm11_years (va_Pc [.ref (G.2.2 + 160), .int x1] (Pd G 212 tt σ)) (P_i G 212 tt r0 σ0) 0 0 (Fr G) := by
  refine ct [(0, .ref (G.2.2 + 160)), (1, .int x1)] rfl (by decide) (Nat.le_of_ble_eq_true rfl) ?_
  intro p e s m below meth c ls X hr hlk hR hl
  have X : Cx p s m _ c cX11_years 2 RX11 G := X
  have hx := X.1
  have hb := X.2.1
  unfold f11_years at hf
  refine lv_iload_n hx hb dX11_years_0 rfl (lv_at hl 1 rfl) ?_
  refine lv_iconst (v := (0 : Int32)) hx hb dX11_years_1 (by decide) ?_
  refine lv_bipush (v := (60 : Int32)) hx hb dX11_years_2 (by decide) ?_
  obtain ⟨r_1, σ_2, hc_3, hf⟩ := z_b_e hf
  refine go_i hR (ms_run (As := [.int x1, .int (0 : Int32), .int (60 : Int32)]) (rest := []) X hR ms_11_340 (c11_in l G N hc_3) ⟨rfl, rfl, Nat.le_of_ble_eq_true rfl, Nat.le_of_ble_eq_true rfl⟩ rfl hl.1 rfl (Nat.le_of_ble_eq_true rfl) dX11_years_4 ⟨Nat.zero_le _, Nat.zero_le _⟩) (fun H locs hR => ?_)
  refine lv_if_ne (tgt := 12) hx hb dX11_years_7 (by decide) (fun c_4 => ?_) (fun c_4 => ?_)
  · replace hf := z_f c_4 hf
    refine lv_iload_n hx hb dX11_years_12 rfl (lv_at hl 1 rfl) ?_
    refine lv_if_ne (tgt := 24) hx hb dX11_years_13 (by decide) (fun c_5 => ?_) (fun c_5 => ?_)
    · replace hf := z_f c_5 hf
      refine lv_aload_n hx hb dX11_years_24 rfl (lv_at hl 0 rfl) ?_
      obtain ⟨r_6, σ_7, hc_8, hf⟩ := z_b_e hf
      refine go_v hR (mv_run (As := []) (rest := []) X hR mv_11_400 kh_160 (kd_lt kh_160 (by decide)) (c11_copies l G N hc_8) ⟨rfl, rfl, Nat.le_of_ble_eq_true rfl, Nat.le_of_ble_eq_true rfl⟩ rfl hl.1 rfl (Nat.le_of_ble_eq_true rfl) dX11_years_25 ⟨Nat.zero_le _, Nat.zero_le _⟩) (fun H locs hR => ?_)
      refine lv_aload_n hx hb dX11_years_28 rfl (lv_at hl 0 rfl) ?_
      refine lv_iload_n hx hb dX11_years_29 rfl (lv_at hl 1 rfl) ?_
      obtain ⟨r_9, σ_10, hc_11, hf⟩ := z_b_e hf
      refine go_v hR (mv_run (As := [.int x1]) (rest := []) X hR mv_11_424 kh_160 (kd_lt kh_160 (by decide)) (c11_goes l G N hc_11) ⟨rfl, rfl, Nat.le_of_ble_eq_true rfl, Nat.le_of_ble_eq_true rfl⟩ rfl hl.1 rfl (Nat.le_of_ble_eq_true rfl) dX11_years_30 ⟨Nat.zero_le _, Nat.zero_le _⟩) (fun H locs hR => ?_)
      refine lv_aload_n hx hb dX11_years_33 rfl (lv_at hl 0 rfl) ?_
      obtain ⟨r_12, σ_13, hc_14, hf⟩ := z_b_e hf
      refine go_v hR (mv_run (As := []) (rest := []) X hR mv_11_421 kh_160 (kd_lt kh_160 (by decide)) (c11_records l G N hc_14) ⟨rfl, rfl, Nat.le_of_ble_eq_true rfl, Nat.le_of_ble_eq_true rfl⟩ rfl hl.1 rfl (Nat.le_of_ble_eq_true rfl) dX11_years_34 ⟨Nat.zero_le _, Nat.zero_le _⟩) (fun H locs hR => ?_)
      refine lv_aload_n hx hb dX11_years_37 rfl (lv_at hl 0 rfl) ?_
      refine r_gs (t := 198) X hR fr_11_131 kh_160 (sx_11_55 kh_160) dX11_years_38 ?_
      refine lv_bipush (v := (14 : Int32)) hx hb dX11_years_41 (by decide) ?_
      obtain ⟨hi_15, hf⟩ := z_c_e hf
      refine r_ial X hR ka_198 hi_15 dX11_years_43 ?_
      exact e_i X hR hr hlk hf dX11_years_44
    · replace hf := z_t c_5 hf
      refine lv_aload_n hx hb dX11_years_16 rfl (lv_at hl 0 rfl) ?_
      refine r_gs (t := 198) X hR fr_11_131 kh_160 (sx_11_55 kh_160) dX11_years_17 ?_
      refine lv_bipush (v := (14 : Int32)) hx hb dX11_years_20 (by decide) ?_
      obtain ⟨hi_16, hf⟩ := z_c_e hf
      refine r_ial X hR ka_198 hi_16 dX11_years_22 ?_
      exact e_i X hR hr hlk hf dX11_years_23
  · replace hf := z_t c_4 hf
    refine lv_iconst (v := (-1 : Int32)) hx hb dX11_years_10 (by decide) ?_
    exact e_i X hR hr hlk hf dX11_years_11
abbrev rm11_undo : Room := { frames := 0, cells := 0, slots := 0, locals := 0 }
def f11_undo_21 (N : Nat) : Nat → Int32 → Mm → Option (Int32 × Mm)
  | 0, _, _ => none
  | fu + 1, x1, σ => if (117 : Int32) ≤ x1 then (
  some ((1 : Int32), σ)) else (
  z_c (inB (((117 : Int32) * (gI σ 160 63)) + x1) 3510) (
  z_c (inB x1 117) (z_l (sI σ 198 (ix x1) (gI σ 203 (ix (((117 : Int32) * (gI σ 160 63)) + x1)))) fun σ_6 =>
  z_l (x1 + (1 : Int32)) fun x1_7 =>
  f11_undo_21 N fu x1_7 σ_6)))
def f11_undo (N : Nat) (σ : Mm) : Option (Int32 × Mm) :=
  if (gI σ 160 63) = 0 then (
  some ((0 : Int32), σ)) else (
  z_l (sI σ 160 63 ((gI σ 160 63) - (1 : Int32))) fun σ_2 =>
  f11_undo_21 N N (0 : Int32) σ_2)
set_option maxHeartbeats 4000000 in
set_option maxRecDepth 100000 in
theorem w11_undo_21 (X : Cx p s m args c cX11_undo 2 RX11 G) (hr : meth.sig.returnType = some .boolean) (hlk : meth.locks = false) (N : Nat) :
    ∀ (fu : Nat) (x1 : Int32) (σ : Mm) (H : Heap) (locs : List Loc) (ls : Array Slot), f11_undo_21 N fu x1 σ = some (r0, σ0) → Rp G 212 tt σ s H locs → lv_has ls 2 [(0, .ref (G.2.2 + 160)), (1, .int x1)] → W p l e rm11_undo s m args below meth c H locs 0 0 (MQ below (P_i G 212 tt r0 σ0) args s 0 0 (Fr G)) (F0 m 21 ls []) := by
  have hx := X.1
  have hb := X.2.1
  intro fu
  induction fu with
  | zero =>
    intro x1 σ H locs ls hf hR hl
    rw [f11_undo_21] at hf
    cases hf
  | succ fu ih =>
    intro x1 σ H locs ls hf hR hl
    rw [f11_undo_21] at hf
    refine lv_iload_n hx hb dX11_undo_21 rfl (lv_at hl 1 rfl) ?_
    refine lv_bipush (v := (117 : Int32)) hx hb dX11_undo_22 (by decide) ?_
    refine lv_icmp_ge (tgt := 53) hx hb dX11_undo_24 (by decide) (fun c_3 => ?_) (fun c_3 => ?_)
    · replace hf := z_t c_3 hf
      refine lv_iconst (v := (1 : Int32)) hx hb dX11_undo_53 (by decide) ?_
      exact e_z X hR hr hlk rfl hf dX11_undo_54
    · replace hf := z_f c_3 hf
      refine lv_aload_n hx hb dX11_undo_27 rfl (lv_at hl 0 rfl) ?_
      refine r_gs (t := 198) X hR fr_11_131 kh_160 (sx_11_55 kh_160) dX11_undo_28 ?_
      refine lv_iload_n hx hb dX11_undo_31 rfl (lv_at hl 1 rfl) ?_
      refine lv_aload_n hx hb dX11_undo_32 rfl (lv_at hl 0 rfl) ?_
      refine r_gs (t := 203) X hR fr_11_146 kh_160 (sx_11_64 kh_160) dX11_undo_33 ?_
      refine lv_bipush (v := (117 : Int32)) hx hb dX11_undo_36 (by decide) ?_
      refine lv_aload_n hx hb dX11_undo_38 rfl (lv_at hl 0 rfl) ?_
      refine r_gi X hR fi_11_272 kh_160 dX11_undo_39 ?_
      refine lv_imul hx hb dX11_undo_42 ?_
      refine lv_iload_n hx hb dX11_undo_43 rfl (lv_at hl 1 rfl) ?_
      refine lv_iadd hx hb dX11_undo_44 ?_
      obtain ⟨hi_4, hf⟩ := z_c_e hf
      refine r_ial X hR ka_203 hi_4 dX11_undo_45 ?_
      obtain ⟨hi_5, hf⟩ := z_c_e hf
      refine r_ias X hR ka_198 hi_5 dX11_undo_46 (fun H locs σ_6 eσ_6 hR => ?_)
      replace hf := z_l_e eσ_6 hf
      obtain ⟨x1_7, ex1_7⟩ : ∃ z : Int32, z = x1 + (1 : Int32) := ⟨_, rfl⟩
      replace hf := z_l_e ex1_7 hf
      refine lv_iinc (v := x1_7) (lv' := [(1, .int x1_7), (0, .ref (G.2.2 + 160))]) hx hb dX11_undo_47 hl (k := 1) rfl (by rw [ex1_7]; rfl) (by decide) rfl (fun ls hl => ?_)
      refine lv_goto (tgt := 21) hx hb dX11_undo_50 (by decide) ?_
      exact ih x1_7 σ_6 _ _ _ hf hR (lv_sub hl [1, 0] rfl)
set_option maxHeartbeats 4000000 in
set_option maxRecDepth 100000 in
theorem c11_undo (l : Launch) (G : Gp) (N : Nat) {σ σ0 : Mm} {r0 : Int32} (hf : f11_undo N σ = some (r0, σ0)) : Met l yX11_undo (WS yX11_undo cX11_undo 2 (some .boolean)) rm11_undo (va_Pc [.ref (G.2.2 + 160)] (Pd G 212 tt σ)) (P_i G 212 tt r0 σ0) 0 0 (Fr G) := by
  refine ct [(0, .ref (G.2.2 + 160))] rfl (by decide) (Nat.le_of_ble_eq_true rfl) ?_
  intro p e s m below meth c ls X hr hlk hR hl
  have X : Cx p s m _ c cX11_undo 2 RX11 G := X
  have hx := X.1
  have hb := X.2.1
  unfold f11_undo at hf
  refine lv_aload_n hx hb dX11_undo_0 rfl (lv_at hl 0 rfl) ?_
  refine r_gi X hR fi_11_272 kh_160 dX11_undo_1 ?_
  refine lv_if_ne (tgt := 9) hx hb dX11_undo_4 (by decide) (fun c_1 => ?_) (fun c_1 => ?_)
  · replace hf := z_f c_1 hf
    refine lv_aload_n hx hb dX11_undo_9 rfl (lv_at hl 0 rfl) ?_
    refine lv_dup hx hb dX11_undo_10 rfl ?_
    refine r_gi X hR fi_11_272 kh_160 dX11_undo_11 ?_
    refine lv_iconst (v := (1 : Int32)) hx hb dX11_undo_14 (by decide) ?_
    refine lv_isub hx hb dX11_undo_15 ?_
    refine r_pi X hR pi_11_272 kh_160 dX11_undo_16 (fun H locs σ_2 eσ_2 hR => ?_)
    replace hf := z_l_e eσ_2 hf
    refine lv_iconst (v := (0 : Int32)) hx hb dX11_undo_19 (by decide) ?_
    refine lv_istore_n (lv' := [(1, .int (0 : Int32)), (0, .ref (G.2.2 + 160))]) hx hb dX11_undo_20 rfl hl (by decide) rfl (fun ls hl => ?_)
    exact w11_undo_21 X hr hlk N  N (0 : Int32) σ_2 _ _ _ hf hR (lv_sub hl [1, 0] rfl)
  · replace hf := z_t c_1 hf
    refine lv_iconst (v := (0 : Int32)) hx hb dX11_undo_7 (by decide) ?_
    exact e_z X hR hr hlk rfl hf dX11_undo_8
abbrev rm11_lasts : Room := { frames := 5, cells := 0, slots := 0, locals := 119 }
def f11_lasts_21 (N : Nat) (x1 : Int32) : Nat → Int32 → Mm → Option (Int32 × Mm)
  | 0, _, _ => none
  | fu + 1, x2, σ => if (200 : Int32) < x2 then (
  some ((-2 : Int32), σ)) else (
  z_b (f11_doesStand N x1 σ) fun r_10 σ_11 =>
  if r_10 = 0 then (
  some (x2, σ_11)) else (
  z_b (f11_yearGoes N σ_11) fun _ σ_15 =>
  z_l (x2 + (1 : Int32)) fun x2_17 =>
  f11_lasts_21 N x1 fu x2_17 σ_15))
def f11_lasts (N : Nat) (x1 : Int32) (σ : Mm) : Option (Int32 × Mm) :=
  z_b (f11_isGiving N x1 σ) fun r_1 σ_2 =>
  if r_1 = 0 then (
  some ((-1 : Int32), σ_2)) else (
  z_b (f11_copies N σ_2) fun _ σ_6 =>
  z_l (sI σ_6 160 58 (1 : Int32)) fun σ_8 =>
  f11_lasts_21 N x1 N (0 : Int32) σ_8)
set_option maxHeartbeats 4000000 in
set_option maxRecDepth 100000 in
theorem w11_lasts_21 (X : Cx p s m args c cX11_lasts 3 RX11 G) (hr : meth.sig.returnType = some .int) (hlk : meth.locks = false) (N : Nat) {x1 : Int32} :
    ∀ (fu : Nat) (x2 : Int32) (σ : Mm) (H : Heap) (locs : List Loc) (ls : Array Slot), f11_lasts_21 N x1 fu x2 σ = some (r0, σ0) → Rp G 212 tt σ s H locs → lv_has ls 3 [(0, .ref (G.2.2 + 160)), (1, .int x1), (2, .int x2)] → W p l e rm11_lasts s m args below meth c H locs 0 0 (MQ below (P_i G 212 tt r0 σ0) args s 0 0 (Fr G)) (F0 m 21 ls []) := by
  have hx := X.1
  have hb := X.2.1
  intro fu
  induction fu with
  | zero =>
    intro x2 σ H locs ls hf hR hl
    rw [f11_lasts_21] at hf
    cases hf
  | succ fu ih =>
    intro x2 σ H locs ls hf hR hl
    rw [f11_lasts_21] at hf
    refine lv_iload_n hx hb dX11_lasts_21 rfl (lv_at hl 2 rfl) ?_
    refine lv_sipush (v := (200 : Int32)) hx hb dX11_lasts_22 (by decide) ?_
    refine lv_icmp_gt (tgt := 48) hx hb dX11_lasts_25 (by decide) (fun c_9 => ?_) (fun c_9 => ?_)
    · replace hf := z_t c_9 hf
      refine lv_bipush (v := (-2 : Int32)) hx hb dX11_lasts_48 (by decide) ?_
      exact e_i X hR hr hlk hf dX11_lasts_50
    · replace hf := z_f c_9 hf
      refine lv_aload_n hx hb dX11_lasts_28 rfl (lv_at hl 0 rfl) ?_
      refine lv_iload_n hx hb dX11_lasts_29 rfl (lv_at hl 1 rfl) ?_
      obtain ⟨r_10, σ_11, hc_12, hf⟩ := z_b_e hf
      refine go_i hR (mv_run (As := [.int x1]) (rest := []) X hR mv_11_385 kh_160 (kd_lt kh_160 (by decide)) (c11_doesStand l G N hc_12) ⟨rfl, rfl, Nat.le_of_ble_eq_true rfl, Nat.le_of_ble_eq_true rfl⟩ rfl hl.1 rfl (Nat.le_of_ble_eq_true rfl) dX11_lasts_30 ⟨Nat.zero_le _, Nat.zero_le _⟩) (fun H locs hR => ?_)
      refine lv_if_ne (tgt := 38) hx hb dX11_lasts_33 (by decide) (fun c_13 => ?_) (fun c_13 => ?_)
      · replace hf := z_f c_13 hf
        refine lv_aload_n hx hb dX11_lasts_38 rfl (lv_at hl 0 rfl) ?_
        obtain ⟨r_14, σ_15, hc_16, hf⟩ := z_b_e hf
        refine go_v hR (mv_run (As := []) (rest := []) X hR mv_11_394 kh_160 (kd_lt kh_160 (by decide)) (c11_yearGoes l G N hc_16) ⟨rfl, rfl, Nat.le_of_ble_eq_true rfl, Nat.le_of_ble_eq_true rfl⟩ rfl hl.1 rfl (Nat.le_of_ble_eq_true rfl) dX11_lasts_39 ⟨Nat.zero_le _, Nat.zero_le _⟩) (fun H locs hR => ?_)
        obtain ⟨x2_17, ex2_17⟩ : ∃ z : Int32, z = x2 + (1 : Int32) := ⟨_, rfl⟩
        replace hf := z_l_e ex2_17 hf
        refine lv_iinc (v := x2_17) (lv' := [(2, .int x2_17), (0, .ref (G.2.2 + 160)), (1, .int x1)]) hx hb dX11_lasts_42 hl (k := 2) rfl (by rw [ex2_17]; rfl) (by decide) rfl (fun ls hl => ?_)
        refine lv_goto (tgt := 21) hx hb dX11_lasts_45 (by decide) ?_
        exact ih x2_17 σ_15 _ _ _ hf hR (lv_sub hl [1, 2, 0] rfl)
      · replace hf := z_t c_13 hf
        refine lv_iload_n hx hb dX11_lasts_36 rfl (lv_at hl 2 rfl) ?_
        exact e_i X hR hr hlk hf dX11_lasts_37
set_option maxHeartbeats 4000000 in
set_option maxRecDepth 100000 in
theorem c11_lasts (l : Launch) (G : Gp) (N : Nat) {x1 : Int32} {σ σ0 : Mm} {r0 : Int32} (hf : f11_lasts N x1 σ = some (r0, σ0)) : Met l yX11_lasts (WS yX11_lasts cX11_lasts 3 (some .int)) rm11_lasts (va_Pc [.ref (G.2.2 + 160), .int x1] (Pd G 212 tt σ)) (P_i G 212 tt r0 σ0) 0 0 (Fr G) := by
  refine ct [(0, .ref (G.2.2 + 160)), (1, .int x1)] rfl (by decide) (Nat.le_of_ble_eq_true rfl) ?_
  intro p e s m below meth c ls X hr hlk hR hl
  have X : Cx p s m _ c cX11_lasts 3 RX11 G := X
  have hx := X.1
  have hb := X.2.1
  unfold f11_lasts at hf
  refine lv_aload_n hx hb dX11_lasts_0 rfl (lv_at hl 0 rfl) ?_
  refine lv_iload_n hx hb dX11_lasts_1 rfl (lv_at hl 1 rfl) ?_
  obtain ⟨r_1, σ_2, hc_3, hf⟩ := z_b_e hf
  refine go_i hR (mv_run (As := [.int x1]) (rest := []) X hR mv_11_412 kh_160 (kd_lt kh_160 (by decide)) (c11_isGiving l G N hc_3) ⟨rfl, rfl, Nat.le_of_ble_eq_true rfl, Nat.le_of_ble_eq_true rfl⟩ rfl hl.1 rfl (Nat.le_of_ble_eq_true rfl) dX11_lasts_2 ⟨Nat.zero_le _, Nat.zero_le _⟩) (fun H locs hR => ?_)
  refine lv_if_ne (tgt := 10) hx hb dX11_lasts_5 (by decide) (fun c_4 => ?_) (fun c_4 => ?_)
  · replace hf := z_f c_4 hf
    refine lv_aload_n hx hb dX11_lasts_10 rfl (lv_at hl 0 rfl) ?_
    obtain ⟨r_5, σ_6, hc_7, hf⟩ := z_b_e hf
    refine go_v hR (mv_run (As := []) (rest := []) X hR mv_11_400 kh_160 (kd_lt kh_160 (by decide)) (c11_copies l G N hc_7) ⟨rfl, rfl, Nat.le_of_ble_eq_true rfl, Nat.le_of_ble_eq_true rfl⟩ rfl hl.1 rfl (Nat.le_of_ble_eq_true rfl) dX11_lasts_11 ⟨Nat.zero_le _, Nat.zero_le _⟩) (fun H locs hR => ?_)
    refine lv_aload_n hx hb dX11_lasts_14 rfl (lv_at hl 0 rfl) ?_
    refine lv_iconst (v := (1 : Int32)) hx hb dX11_lasts_15 (by decide) ?_
    refine r_pz X hR pz_11_347 kh_160 rfl dX11_lasts_16 (fun H locs σ_8 eσ_8 hR => ?_)
    replace hf := z_l_e eσ_8 hf
    refine lv_iconst (v := (0 : Int32)) hx hb dX11_lasts_19 (by decide) ?_
    refine lv_istore_n (lv' := [(2, .int (0 : Int32)), (0, .ref (G.2.2 + 160)), (1, .int x1)]) hx hb dX11_lasts_20 rfl hl (by decide) rfl (fun ls hl => ?_)
    exact w11_lasts_21 X hr hlk N  N (0 : Int32) σ_8 _ _ _ hf hR (lv_sub hl [1, 2, 0] rfl)
  · replace hf := z_t c_4 hf
    refine lv_iconst (v := (-1 : Int32)) hx hb dX11_lasts_8 (by decide) ?_
    exact e_i X hR hr hlk hf dX11_lasts_9
abbrev rm11_keepsWhose : Room := { frames := 6, cells := 0, slots := 0, locals := 141 }
def f11_keepsWhose_10 (N : Nat) : Nat → Int32 → Mm → Option (Unit × Mm)
  | 0, _, _ => none
  | fu + 1, x1, σ => if (7 : Int32) ≤ x1 then (
  some ((), σ)) else (
  z_c (inB x1 7) (
  z_c (inB x1 7) (z_l (sI σ 204 (ix x1) (gI σ 200 (ix x1))) fun σ_10 =>
  z_l (x1 + (1 : Int32)) fun x1_11 =>
  f11_keepsWhose_10 N fu x1_11 σ_10)))
def f11_keepsWhose (N : Nat) (σ : Mm) : Option (Unit × Mm) :=
  z_b (f11_copies N σ) fun _ σ_2 =>
  z_b (f11_fillsWhose N σ_2) fun _ σ_5 =>
  f11_keepsWhose_10 N N (0 : Int32) σ_5
set_option maxHeartbeats 4000000 in
set_option maxRecDepth 100000 in
theorem w11_keepsWhose_10 (X : Cx p s m args c cX11_keepsWhose 2 RX11 G) (hr : meth.sig.returnType = none) (hlk : meth.locks = false) (N : Nat) :
    ∀ (fu : Nat) (x1 : Int32) (σ : Mm) (H : Heap) (locs : List Loc) (ls : Array Slot), f11_keepsWhose_10 N fu x1 σ = some (u0, σ0) → Rp G 212 tt σ s H locs → lv_has ls 2 [(0, .ref (G.2.2 + 160)), (1, .int x1)] → W p l e rm11_keepsWhose s m args below meth c H locs 0 0 (MQ below (P_v G 212 tt u0 σ0) args s 0 0 (Fr G)) (F0 m 10 ls []) := by
  have hx := X.1
  have hb := X.2.1
  intro fu
  induction fu with
  | zero =>
    intro x1 σ H locs ls hf hR hl
    rw [f11_keepsWhose_10] at hf
    cases hf
  | succ fu ih =>
    intro x1 σ H locs ls hf hR hl
    rw [f11_keepsWhose_10] at hf
    refine lv_iload_n hx hb dX11_keepsWhose_10 rfl (lv_at hl 1 rfl) ?_
    refine lv_bipush (v := (7 : Int32)) hx hb dX11_keepsWhose_11 (by decide) ?_
    refine lv_icmp_ge (tgt := 34) hx hb dX11_keepsWhose_13 (by decide) (fun c_7 => ?_) (fun c_7 => ?_)
    · replace hf := z_t c_7 hf
      exact e_v X hR hr hlk hf dX11_keepsWhose_34
    · replace hf := z_f c_7 hf
      refine lv_aload_n hx hb dX11_keepsWhose_16 rfl (lv_at hl 0 rfl) ?_
      refine r_gs (t := 204) X hR fr_11_149 kh_160 (sx_11_65 kh_160) dX11_keepsWhose_17 ?_
      refine lv_iload_n hx hb dX11_keepsWhose_20 rfl (lv_at hl 1 rfl) ?_
      refine lv_aload_n hx hb dX11_keepsWhose_21 rfl (lv_at hl 0 rfl) ?_
      refine r_gs (t := 200) X hR fr_11_137 kh_160 (sx_11_60 kh_160) dX11_keepsWhose_22 ?_
      refine lv_iload_n hx hb dX11_keepsWhose_25 rfl (lv_at hl 1 rfl) ?_
      obtain ⟨hi_8, hf⟩ := z_c_e hf
      refine r_ial X hR ka_200 hi_8 dX11_keepsWhose_26 ?_
      obtain ⟨hi_9, hf⟩ := z_c_e hf
      refine r_ias X hR ka_204 hi_9 dX11_keepsWhose_27 (fun H locs σ_10 eσ_10 hR => ?_)
      replace hf := z_l_e eσ_10 hf
      obtain ⟨x1_11, ex1_11⟩ : ∃ z : Int32, z = x1 + (1 : Int32) := ⟨_, rfl⟩
      replace hf := z_l_e ex1_11 hf
      refine lv_iinc (v := x1_11) (lv' := [(1, .int x1_11), (0, .ref (G.2.2 + 160))]) hx hb dX11_keepsWhose_28 hl (k := 1) rfl (by rw [ex1_11]; rfl) (by decide) rfl (fun ls hl => ?_)
      refine lv_goto (tgt := 10) hx hb dX11_keepsWhose_31 (by decide) ?_
      exact ih x1_11 σ_10 _ _ _ hf hR (lv_sub hl [1, 0] rfl)
set_option maxHeartbeats 4000000 in
set_option maxRecDepth 100000 in
theorem c11_keepsWhose (l : Launch) (G : Gp) (N : Nat) {σ σ0 : Mm} {u0 : Unit} (hf : f11_keepsWhose N σ = some (u0, σ0)) : Met l yX11_keepsWhose (WS yX11_keepsWhose cX11_keepsWhose 2 (none)) rm11_keepsWhose (va_Pc [.ref (G.2.2 + 160)] (Pd G 212 tt σ)) (P_v G 212 tt u0 σ0) 0 0 (Fr G) := by
  refine ct [(0, .ref (G.2.2 + 160))] rfl (by decide) (Nat.le_of_ble_eq_true rfl) ?_
  intro p e s m below meth c ls X hr hlk hR hl
  have X : Cx p s m _ c cX11_keepsWhose 2 RX11 G := X
  have hx := X.1
  have hb := X.2.1
  unfold f11_keepsWhose at hf
  refine lv_aload_n hx hb dX11_keepsWhose_0 rfl (lv_at hl 0 rfl) ?_
  obtain ⟨r_1, σ_2, hc_3, hf⟩ := z_b_e hf
  refine go_v hR (mv_run (As := []) (rest := []) X hR mv_11_400 kh_160 (kd_lt kh_160 (by decide)) (c11_copies l G N hc_3) ⟨rfl, rfl, Nat.le_of_ble_eq_true rfl, Nat.le_of_ble_eq_true rfl⟩ rfl hl.1 rfl (Nat.le_of_ble_eq_true rfl) dX11_keepsWhose_1 ⟨Nat.zero_le _, Nat.zero_le _⟩) (fun H locs hR => ?_)
  refine lv_aload_n hx hb dX11_keepsWhose_4 rfl (lv_at hl 0 rfl) ?_
  obtain ⟨r_4, σ_5, hc_6, hf⟩ := z_b_e hf
  refine go_v hR (mv_run (As := []) (rest := []) X hR mv_11_403 kh_160 (kd_lt kh_160 (by decide)) (c11_fillsWhose l G N hc_6) ⟨rfl, rfl, Nat.le_of_ble_eq_true rfl, Nat.le_of_ble_eq_true rfl⟩ rfl hl.1 rfl (Nat.le_of_ble_eq_true rfl) dX11_keepsWhose_5 ⟨Nat.zero_le _, Nat.zero_le _⟩) (fun H locs hR => ?_)
  refine lv_iconst (v := (0 : Int32)) hx hb dX11_keepsWhose_8 (by decide) ?_
  refine lv_istore_n (lv' := [(1, .int (0 : Int32)), (0, .ref (G.2.2 + 160))]) hx hb dX11_keepsWhose_9 rfl hl (by decide) rfl (fun ls hl => ?_)
  exact w11_keepsWhose_10 X hr hlk N  N (0 : Int32) σ_5 _ _ _ hf hR (lv_sub hl [1, 0] rfl)
abbrev rm11_othersNow : Room := { frames := 6, cells := 0, slots := 0, locals := 141 }
def f11_othersNow_39 (N : Nat) (k8 : Int32 → Int32 → Mm → Option (Int32 × Mm)) (x1 : Int32) (x2 : Int32) (σ : Mm) : Option (Int32 × Mm) :=
  z_l (x2 + (1 : Int32)) fun x2_9 =>
  k8 x1 x2_9 σ
def f11_othersNow_8 (N : Nat) : Nat → Int32 → Int32 → Mm → Option (Int32 × Mm)
  | 0, _, _, _ => none
  | fu + 1, x1, x2, σ => z_c (inB (gI σ 160 18) 2) (
  if (gI σ 171 (ix (gI σ 160 18))) ≤ x2 then (
  some (x1, σ)) else (
  z_c (inB x2 7) (
  z_c (inB x2 7) (
  if (gI σ 200 (ix x2)) = (gI σ 204 (ix x2)) then (
  f11_othersNow_39 N (fun x1 x2 σ => f11_othersNow_8 N fu x1 x2 σ) x1 x2 σ) else (
  z_l (x1 + (1 : Int32)) fun x1_10 =>
  f11_othersNow_39 N (fun x1 x2 σ => f11_othersNow_8 N fu x1 x2 σ) x1_10 x2 σ)))))
def f11_othersNow (N : Nat) (σ : Mm) : Option (Int32 × Mm) :=
  z_b (f11_fillsWhose N σ) fun _ σ_2 =>
  f11_othersNow_8 N N (0 : Int32) (0 : Int32) σ_2
set_option maxHeartbeats 4000000 in
set_option maxRecDepth 100000 in
theorem w11_othersNow_39 (X : Cx p s m args c cX11_othersNow 3 RX11 G) (hr : meth.sig.returnType = some .int) (hlk : meth.locks = false) (N : Nat) {k8 : Int32 → Int32 → Mm → Option (Int32 × Mm)} (hk8 : ∀ (x1 : Int32) (x2 : Int32) (σ : Mm) (H : Heap) (locs : List Loc) (ls : Array Slot), k8 x1 x2 σ = some (r0, σ0) → Rp G 212 tt σ s H locs → lv_has ls 3 [(0, .ref (G.2.2 + 160)), (1, .int x1), (2, .int x2)] → W p l e rm11_othersNow s m args below meth c H locs 0 0 (MQ below (P_i G 212 tt r0 σ0) args s 0 0 (Fr G)) (F0 m 8 ls [])) :
    ∀ (x1 : Int32) (x2 : Int32) (σ : Mm) (H : Heap) (locs : List Loc) (ls : Array Slot), f11_othersNow_39 N k8 x1 x2 σ = some (r0, σ0) → Rp G 212 tt σ s H locs → lv_has ls 3 [(0, .ref (G.2.2 + 160)), (1, .int x1), (2, .int x2)] → W p l e rm11_othersNow s m args below meth c H locs 0 0 (MQ below (P_i G 212 tt r0 σ0) args s 0 0 (Fr G)) (F0 m 39 ls []) := by
  have hx := X.1
  have hb := X.2.1
  intro x1 x2 σ H locs ls hf hR hl
  unfold f11_othersNow_39 at hf
  obtain ⟨x2_9, ex2_9⟩ : ∃ z : Int32, z = x2 + (1 : Int32) := ⟨_, rfl⟩
  replace hf := z_l_e ex2_9 hf
  refine lv_iinc (v := x2_9) (lv' := [(2, .int x2_9), (0, .ref (G.2.2 + 160)), (1, .int x1)]) hx hb dX11_othersNow_39 hl (k := 2) rfl (by rw [ex2_9]; rfl) (by decide) rfl (fun ls hl => ?_)
  refine lv_goto (tgt := 8) hx hb dX11_othersNow_42 (by decide) ?_
  exact hk8 x1 x2_9 σ _ _ _ hf hR (lv_sub hl [1, 2, 0] rfl)
set_option maxHeartbeats 4000000 in
set_option maxRecDepth 100000 in
theorem w11_othersNow_8 (X : Cx p s m args c cX11_othersNow 3 RX11 G) (hr : meth.sig.returnType = some .int) (hlk : meth.locks = false) (N : Nat) :
    ∀ (fu : Nat) (x1 : Int32) (x2 : Int32) (σ : Mm) (H : Heap) (locs : List Loc) (ls : Array Slot), f11_othersNow_8 N fu x1 x2 σ = some (r0, σ0) → Rp G 212 tt σ s H locs → lv_has ls 3 [(0, .ref (G.2.2 + 160)), (1, .int x1), (2, .int x2)] → W p l e rm11_othersNow s m args below meth c H locs 0 0 (MQ below (P_i G 212 tt r0 σ0) args s 0 0 (Fr G)) (F0 m 8 ls []) := by
  have hx := X.1
  have hb := X.2.1
  intro fu
  induction fu with
  | zero =>
    intro x1 x2 σ H locs ls hf hR hl
    rw [f11_othersNow_8] at hf
    cases hf
  | succ fu ih =>
    intro x1 x2 σ H locs ls hf hR hl
    rw [f11_othersNow_8] at hf
    refine lv_iload_n hx hb dX11_othersNow_8 rfl (lv_at hl 2 rfl) ?_
    refine lv_aload_n hx hb dX11_othersNow_9 rfl (lv_at hl 0 rfl) ?_
    refine r_gs (t := 171) X hR fr_11_49 kh_160 (sx_11_24 kh_160) dX11_othersNow_10 ?_
    refine lv_aload_n hx hb dX11_othersNow_13 rfl (lv_at hl 0 rfl) ?_
    refine r_gi X hR fi_11_254 kh_160 dX11_othersNow_14 ?_
    obtain ⟨hi_4, hf⟩ := z_c_e hf
    refine r_ial X hR ka_171 hi_4 dX11_othersNow_17 ?_
    refine lv_icmp_ge (tgt := 45) hx hb dX11_othersNow_18 (by decide) (fun c_5 => ?_) (fun c_5 => ?_)
    · replace hf := z_t c_5 hf
      refine lv_iload_n hx hb dX11_othersNow_45 rfl (lv_at hl 1 rfl) ?_
      exact e_i X hR hr hlk hf dX11_othersNow_46
    · replace hf := z_f c_5 hf
      refine lv_aload_n hx hb dX11_othersNow_21 rfl (lv_at hl 0 rfl) ?_
      refine r_gs (t := 200) X hR fr_11_137 kh_160 (sx_11_60 kh_160) dX11_othersNow_22 ?_
      refine lv_iload_n hx hb dX11_othersNow_25 rfl (lv_at hl 2 rfl) ?_
      obtain ⟨hi_6, hf⟩ := z_c_e hf
      refine r_ial X hR ka_200 hi_6 dX11_othersNow_26 ?_
      refine lv_aload_n hx hb dX11_othersNow_27 rfl (lv_at hl 0 rfl) ?_
      refine r_gs (t := 204) X hR fr_11_149 kh_160 (sx_11_65 kh_160) dX11_othersNow_28 ?_
      refine lv_iload_n hx hb dX11_othersNow_31 rfl (lv_at hl 2 rfl) ?_
      obtain ⟨hi_7, hf⟩ := z_c_e hf
      refine r_ial X hR ka_204 hi_7 dX11_othersNow_32 ?_
      refine lv_icmp_eq (tgt := 39) hx hb dX11_othersNow_33 (by decide) (fun c_8 => ?_) (fun c_8 => ?_)
      · replace hf := z_t c_8 hf
        exact w11_othersNow_39 X hr hlk N ih x1 x2 σ _ _ _ hf hR (lv_sub hl [0, 1, 2] rfl)
      · replace hf := z_f c_8 hf
        obtain ⟨x1_10, ex1_10⟩ : ∃ z : Int32, z = x1 + (1 : Int32) := ⟨_, rfl⟩
        replace hf := z_l_e ex1_10 hf
        refine lv_iinc (v := x1_10) (lv' := [(1, .int x1_10), (0, .ref (G.2.2 + 160)), (2, .int x2)]) hx hb dX11_othersNow_36 hl (k := 1) rfl (by rw [ex1_10]; rfl) (by decide) rfl (fun ls hl => ?_)
        exact w11_othersNow_39 X hr hlk N ih x1_10 x2 σ _ _ _ hf hR (lv_sub hl [1, 0, 2] rfl)
set_option maxHeartbeats 4000000 in
set_option maxRecDepth 100000 in
theorem c11_othersNow (l : Launch) (G : Gp) (N : Nat) {σ σ0 : Mm} {r0 : Int32} (hf : f11_othersNow N σ = some (r0, σ0)) : Met l yX11_othersNow (WS yX11_othersNow cX11_othersNow 3 (some .int)) rm11_othersNow (va_Pc [.ref (G.2.2 + 160)] (Pd G 212 tt σ)) (P_i G 212 tt r0 σ0) 0 0 (Fr G) := by
  refine ct [(0, .ref (G.2.2 + 160))] rfl (by decide) (Nat.le_of_ble_eq_true rfl) ?_
  intro p e s m below meth c ls X hr hlk hR hl
  have X : Cx p s m _ c cX11_othersNow 3 RX11 G := X
  have hx := X.1
  have hb := X.2.1
  unfold f11_othersNow at hf
  refine lv_aload_n hx hb dX11_othersNow_0 rfl (lv_at hl 0 rfl) ?_
  obtain ⟨r_1, σ_2, hc_3, hf⟩ := z_b_e hf
  refine go_v hR (mv_run (As := []) (rest := []) X hR mv_11_403 kh_160 (kd_lt kh_160 (by decide)) (c11_fillsWhose l G N hc_3) ⟨rfl, rfl, Nat.le_of_ble_eq_true rfl, Nat.le_of_ble_eq_true rfl⟩ rfl hl.1 rfl (Nat.le_of_ble_eq_true rfl) dX11_othersNow_1 ⟨Nat.zero_le _, Nat.zero_le _⟩) (fun H locs hR => ?_)
  refine lv_iconst (v := (0 : Int32)) hx hb dX11_othersNow_4 (by decide) ?_
  refine lv_istore_n (lv' := [(1, .int (0 : Int32)), (0, .ref (G.2.2 + 160))]) hx hb dX11_othersNow_5 rfl hl (by decide) rfl (fun ls hl => ?_)
  refine lv_iconst (v := (0 : Int32)) hx hb dX11_othersNow_6 (by decide) ?_
  refine lv_istore_n (lv' := [(2, .int (0 : Int32)), (1, .int (0 : Int32)), (0, .ref (G.2.2 + 160))]) hx hb dX11_othersNow_7 rfl hl (by decide) rfl (fun ls hl => ?_)
  exact w11_othersNow_8 X hr hlk N  N (0 : Int32) (0 : Int32) σ_2 _ _ _ hf hR (lv_sub hl [2, 1, 0] rfl)
abbrev rm11_book : Room := { frames := 7, cells := 0, slots := 0, locals := 163 }
def f11_book (N : Nat) (σ : Mm) : Option (Int32 × Mm) :=
  z_b (f11_keepsWhose N σ) fun _ σ_2 =>
  z_l (sI σ_2 160 59 (1 : Int32)) fun σ_4 =>
  z_b (f11_othersNow N σ_4) fun r_5 σ_6 =>
  some (r_5, σ_6)
set_option maxHeartbeats 4000000 in
set_option maxRecDepth 100000 in
theorem c11_book (l : Launch) (G : Gp) (N : Nat) {σ σ0 : Mm} {r0 : Int32} (hf : f11_book N σ = some (r0, σ0)) : Met l yX11_book (WS yX11_book cX11_book 1 (some .int)) rm11_book (va_Pc [.ref (G.2.2 + 160)] (Pd G 212 tt σ)) (P_i G 212 tt r0 σ0) 0 0 (Fr G) := by
  refine ct [(0, .ref (G.2.2 + 160))] rfl (by decide) (Nat.le_of_ble_eq_true rfl) ?_
  intro p e s m below meth c ls X hr hlk hR hl
  have X : Cx p s m _ c cX11_book 1 RX11 G := X
  have hx := X.1
  have hb := X.2.1
  unfold f11_book at hf
  refine lv_aload_n hx hb dX11_book_0 rfl (lv_at hl 0 rfl) ?_
  obtain ⟨r_1, σ_2, hc_3, hf⟩ := z_b_e hf
  refine go_v hR (mv_run (As := []) (rest := []) X hR mv_11_427 kh_160 (kd_lt kh_160 (by decide)) (c11_keepsWhose l G N hc_3) ⟨rfl, rfl, Nat.le_of_ble_eq_true rfl, Nat.le_of_ble_eq_true rfl⟩ rfl hl.1 rfl (Nat.le_of_ble_eq_true rfl) dX11_book_1 ⟨Nat.zero_le _, Nat.zero_le _⟩) (fun H locs hR => ?_)
  refine lv_aload_n hx hb dX11_book_4 rfl (lv_at hl 0 rfl) ?_
  refine lv_iconst (v := (1 : Int32)) hx hb dX11_book_5 (by decide) ?_
  refine r_pz X hR pz_11_350 kh_160 rfl dX11_book_6 (fun H locs σ_4 eσ_4 hR => ?_)
  replace hf := z_l_e eσ_4 hf
  refine lv_aload_n hx hb dX11_book_9 rfl (lv_at hl 0 rfl) ?_
  obtain ⟨r_5, σ_6, hc_7, hf⟩ := z_b_e hf
  refine go_i hR (mv_run (As := []) (rest := []) X hR mv_11_430 kh_160 (kd_lt kh_160 (by decide)) (c11_othersNow l G N hc_7) ⟨rfl, rfl, Nat.le_of_ble_eq_true rfl, Nat.le_of_ble_eq_true rfl⟩ rfl hl.1 rfl (Nat.le_of_ble_eq_true rfl) dX11_book_10 ⟨Nat.zero_le _, Nat.zero_le _⟩) (fun H locs hR => ?_)
  exact e_i X hR hr hlk hf dX11_book_13
abbrev rm11_hangs : Room := { frames := 7, cells := 0, slots := 0, locals := 163 }
def f11_hangs_96 (N : Nat) (x1 : Int32) (x2 : Int32) (x3 : Int32) (σ : Mm) : Option (Int32 × Mm) :=
  if x1 = 0 then (
  some (x2, σ)) else (
  some (x3, σ))
def f11_hangs_90 (N : Nat) (k24 : Int32 → Int32 → Int32 → Mm → Option (Int32 × Mm)) (x1 : Int32) (x2 : Int32) (x3 : Int32) (x4 : Int32) (σ : Mm) : Option (Int32 × Mm) :=
  z_l (x4 + (1 : Int32)) fun x4_22 =>
  k24 x2 x3 x4_22 σ
def f11_hangs_24 (N : Nat) (x1 : Int32) : Nat → Int32 → Int32 → Int32 → Mm → Option (Int32 × Mm)
  | 0, _, _, _, _ => none
  | fu + 1, x2, x3, x4, σ => z_c (inB (gI σ 160 18) 2) (
  if (gI σ 175 (ix (gI σ 160 18))) ≤ x4 then (
  f11_hangs_96 N x1 x2 x3 σ) else (
  z_b (f11_copies N σ) fun _ σ_12 =>
  z_c (inB ((7 : Int32) + x4) 117) (
  if (gI σ_12 199 (ix ((7 : Int32) + x4))) = 0 then (
  f11_hangs_90 N (fun x2 x3 x4 σ => f11_hangs_24 N x1 fu x2 x3 x4 σ) x1 x2 x3 x4 σ_12) else (
  z_c (inB ((7 : Int32) + x4) 117) (z_l (sI σ_12 199 (ix ((7 : Int32) + x4)) (0 : Int32)) fun σ_17 =>
  z_b (f11_othersNow N σ_17) fun r_18 σ_19 =>
  if x3 < r_18 then (
  f11_hangs_90 N (fun x2 x3 x4 σ => f11_hangs_24 N x1 fu x2 x3 x4 σ) x1 x4 r_18 x4 σ_19) else (
  f11_hangs_90 N (fun x2 x3 x4 σ => f11_hangs_24 N x1 fu x2 x3 x4 σ) x1 x2 x3 x4 σ_19))))))
def f11_hangs (N : Nat) (x1 : Int32) (σ : Mm) : Option (Int32 × Mm) :=
  z_b (f11_in N x1 (0 : Int32) (1 : Int32) σ) fun r_1 σ_2 =>
  if r_1 = 0 then (
  some ((-1 : Int32), σ_2)) else (
  z_b (f11_keepsWhose N σ_2) fun _ σ_6 =>
  f11_hangs_24 N x1 N (-2 : Int32) (-2 : Int32) (0 : Int32) σ_6)
set_option maxHeartbeats 4000000 in
set_option maxRecDepth 100000 in
theorem w11_hangs_96 (X : Cx p s m args c cX11_hangs 6 RX11 G) (hr : meth.sig.returnType = some .int) (hlk : meth.locks = false) (N : Nat) :
    ∀ (x1 : Int32) (x2 : Int32) (x3 : Int32) (σ : Mm) (H : Heap) (locs : List Loc) (ls : Array Slot), f11_hangs_96 N x1 x2 x3 σ = some (r0, σ0) → Rp G 212 tt σ s H locs → lv_has ls 6 [(1, .int x1), (2, .int x2), (3, .int x3)] → W p l e rm11_hangs s m args below meth c H locs 0 0 (MQ below (P_i G 212 tt r0 σ0) args s 0 0 (Fr G)) (F0 m 96 ls []) := by
  have hx := X.1
  have hb := X.2.1
  intro x1 x2 x3 σ H locs ls hf hR hl
  unfold f11_hangs_96 at hf
  refine lv_iload_n hx hb dX11_hangs_96 rfl (lv_at hl 0 rfl) ?_
  refine lv_if_ne (tgt := 104) hx hb dX11_hangs_97 (by decide) (fun c_10 => ?_) (fun c_10 => ?_)
  · replace hf := z_f c_10 hf
    refine lv_iload_n hx hb dX11_hangs_104 rfl (lv_at hl 2 rfl) ?_
    exact e_i X hR hr hlk hf dX11_hangs_105
  · replace hf := z_t c_10 hf
    refine lv_iload_n hx hb dX11_hangs_100 rfl (lv_at hl 1 rfl) ?_
    refine lv_goto (tgt := 105) hx hb dX11_hangs_101 (by decide) ?_
    exact e_i X hR hr hlk hf dX11_hangs_105
set_option maxHeartbeats 4000000 in
set_option maxRecDepth 100000 in
theorem w11_hangs_90 (X : Cx p s m args c cX11_hangs 6 RX11 G) (hr : meth.sig.returnType = some .int) (hlk : meth.locks = false) (N : Nat) {x1 : Int32} {k24 : Int32 → Int32 → Int32 → Mm → Option (Int32 × Mm)} (hk24 : ∀ (x2 : Int32) (x3 : Int32) (x4 : Int32) (σ : Mm) (H : Heap) (locs : List Loc) (ls : Array Slot), k24 x2 x3 x4 σ = some (r0, σ0) → Rp G 212 tt σ s H locs → lv_has ls 6 [(0, .ref (G.2.2 + 160)), (1, .int x1), (2, .int x2), (3, .int x3), (4, .int x4)] → W p l e rm11_hangs s m args below meth c H locs 0 0 (MQ below (P_i G 212 tt r0 σ0) args s 0 0 (Fr G)) (F0 m 24 ls [])) :
    ∀ (x2 : Int32) (x3 : Int32) (x4 : Int32) (σ : Mm) (H : Heap) (locs : List Loc) (ls : Array Slot), f11_hangs_90 N k24 x1 x2 x3 x4 σ = some (r0, σ0) → Rp G 212 tt σ s H locs → lv_has ls 6 [(0, .ref (G.2.2 + 160)), (1, .int x1), (2, .int x2), (3, .int x3), (4, .int x4)] → W p l e rm11_hangs s m args below meth c H locs 0 0 (MQ below (P_i G 212 tt r0 σ0) args s 0 0 (Fr G)) (F0 m 90 ls []) := by
  have hx := X.1
  have hb := X.2.1
  intro x2 x3 x4 σ H locs ls hf hR hl
  unfold f11_hangs_90 at hf
  obtain ⟨x4_22, ex4_22⟩ : ∃ z : Int32, z = x4 + (1 : Int32) := ⟨_, rfl⟩
  replace hf := z_l_e ex4_22 hf
  refine lv_iinc (v := x4_22) (lv' := [(4, .int x4_22), (0, .ref (G.2.2 + 160)), (1, .int x1), (2, .int x2), (3, .int x3)]) hx hb dX11_hangs_90 hl (k := 4) rfl (by rw [ex4_22]; rfl) (by decide) rfl (fun ls hl => ?_)
  refine lv_goto (tgt := 24) hx hb dX11_hangs_93 (by decide) ?_
  exact hk24 x2 x3 x4_22 σ _ _ _ hf hR (lv_sub hl [1, 2, 3, 4, 0] rfl)
set_option maxHeartbeats 4000000 in
set_option maxRecDepth 100000 in
theorem w11_hangs_24 (X : Cx p s m args c cX11_hangs 6 RX11 G) (hr : meth.sig.returnType = some .int) (hlk : meth.locks = false) (N : Nat) {x1 : Int32} :
    ∀ (fu : Nat) (x2 : Int32) (x3 : Int32) (x4 : Int32) (σ : Mm) (H : Heap) (locs : List Loc) (ls : Array Slot), f11_hangs_24 N x1 fu x2 x3 x4 σ = some (r0, σ0) → Rp G 212 tt σ s H locs → lv_has ls 6 [(0, .ref (G.2.2 + 160)), (1, .int x1), (2, .int x2), (3, .int x3), (4, .int x4)] → W p l e rm11_hangs s m args below meth c H locs 0 0 (MQ below (P_i G 212 tt r0 σ0) args s 0 0 (Fr G)) (F0 m 24 ls []) := by
  have hx := X.1
  have hb := X.2.1
  intro fu
  induction fu with
  | zero =>
    intro x2 x3 x4 σ H locs ls hf hR hl
    rw [f11_hangs_24] at hf
    cases hf
  | succ fu ih =>
    intro x2 x3 x4 σ H locs ls hf hR hl
    rw [f11_hangs_24] at hf
    refine lv_iload hx hb dX11_hangs_24 (lv_at hl 4 rfl) ?_
    refine lv_aload_n hx hb dX11_hangs_26 rfl (lv_at hl 0 rfl) ?_
    refine r_gs (t := 175) X hR fr_11_61 kh_160 (sx_11_28 kh_160) dX11_hangs_27 ?_
    refine lv_aload_n hx hb dX11_hangs_30 rfl (lv_at hl 0 rfl) ?_
    refine r_gi X hR fi_11_254 kh_160 dX11_hangs_31 ?_
    obtain ⟨hi_8, hf⟩ := z_c_e hf
    refine r_ial X hR ka_175 hi_8 dX11_hangs_34 ?_
    refine lv_icmp_ge (tgt := 96) hx hb dX11_hangs_35 (by decide) (fun c_9 => ?_) (fun c_9 => ?_)
    · replace hf := z_t c_9 hf
      exact w11_hangs_96 X hr hlk N  x1 x2 x3 σ _ _ _ hf hR (lv_sub hl [1, 2, 3] rfl)
    · replace hf := z_f c_9 hf
      refine lv_aload_n hx hb dX11_hangs_38 rfl (lv_at hl 0 rfl) ?_
      obtain ⟨r_11, σ_12, hc_13, hf⟩ := z_b_e hf
      refine go_v hR (mv_run (As := []) (rest := []) X hR mv_11_400 kh_160 (kd_lt kh_160 (by decide)) (c11_copies l G N hc_13) ⟨rfl, rfl, Nat.le_of_ble_eq_true rfl, Nat.le_of_ble_eq_true rfl⟩ rfl hl.1 rfl (Nat.le_of_ble_eq_true rfl) dX11_hangs_39 ⟨Nat.zero_le _, Nat.zero_le _⟩) (fun H locs hR => ?_)
      refine lv_aload_n hx hb dX11_hangs_42 rfl (lv_at hl 0 rfl) ?_
      refine r_gs (t := 199) X hR fr_11_134 kh_160 (sx_11_56 kh_160) dX11_hangs_43 ?_
      refine lv_bipush (v := (7 : Int32)) hx hb dX11_hangs_46 (by decide) ?_
      refine lv_iload hx hb dX11_hangs_48 (lv_at hl 4 rfl) ?_
      refine lv_iadd hx hb dX11_hangs_50 ?_
      obtain ⟨hi_14, hf⟩ := z_c_e hf
      refine r_ial X hR ka_199 hi_14 dX11_hangs_51 ?_
      refine lv_if_ne (tgt := 58) hx hb dX11_hangs_52 (by decide) (fun c_15 => ?_) (fun c_15 => ?_)
      · replace hf := z_f c_15 hf
        refine lv_aload_n hx hb dX11_hangs_58 rfl (lv_at hl 0 rfl) ?_
        refine r_gs (t := 199) X hR fr_11_134 kh_160 (sx_11_56 kh_160) dX11_hangs_59 ?_
        refine lv_bipush (v := (7 : Int32)) hx hb dX11_hangs_62 (by decide) ?_
        refine lv_iload hx hb dX11_hangs_64 (lv_at hl 4 rfl) ?_
        refine lv_iadd hx hb dX11_hangs_66 ?_
        refine lv_iconst (v := (0 : Int32)) hx hb dX11_hangs_67 (by decide) ?_
        obtain ⟨hi_16, hf⟩ := z_c_e hf
        refine r_ias X hR ka_199 hi_16 dX11_hangs_68 (fun H locs σ_17 eσ_17 hR => ?_)
        replace hf := z_l_e eσ_17 hf
        refine lv_aload_n hx hb dX11_hangs_69 rfl (lv_at hl 0 rfl) ?_
        obtain ⟨r_18, σ_19, hc_20, hf⟩ := z_b_e hf
        refine go_i hR (mv_run (As := []) (rest := []) X hR mv_11_430 kh_160 (kd_lt kh_160 (by decide)) (c11_othersNow l G N hc_20) ⟨rfl, rfl, Nat.le_of_ble_eq_true rfl, Nat.le_of_ble_eq_true rfl⟩ rfl hl.1 rfl (Nat.le_of_ble_eq_true rfl) dX11_hangs_70 ⟨Nat.zero_le _, Nat.zero_le _⟩) (fun H locs hR => ?_)
        refine lv_istore (lv' := [(5, .int r_18), (0, .ref (G.2.2 + 160)), (1, .int x1), (2, .int x2), (3, .int x3), (4, .int x4)]) hx hb dX11_hangs_73 hl (by decide) rfl (fun ls hl => ?_)
        refine lv_iload hx hb dX11_hangs_75 (lv_at hl 0 rfl) ?_
        refine lv_iload_n hx hb dX11_hangs_77 rfl (lv_at hl 4 rfl) ?_
        refine lv_icmp_gt (tgt := 84) hx hb dX11_hangs_78 (by decide) (fun c_21 => ?_) (fun c_21 => ?_)
        · replace hf := z_t c_21 hf
          refine lv_iload hx hb dX11_hangs_84 (lv_at hl 5 rfl) ?_
          refine lv_istore_n (lv' := [(2, .int x4), (5, .int r_18), (0, .ref (G.2.2 + 160)), (1, .int x1), (3, .int x3), (4, .int x4)]) hx hb dX11_hangs_86 rfl hl (by decide) rfl (fun ls hl => ?_)
          refine lv_iload hx hb dX11_hangs_87 (lv_at hl 1 rfl) ?_
          refine lv_istore_n (lv' := [(3, .int r_18), (2, .int x4), (5, .int r_18), (0, .ref (G.2.2 + 160)), (1, .int x1), (4, .int x4)]) hx hb dX11_hangs_89 rfl hl (by decide) rfl (fun ls hl => ?_)
          exact w11_hangs_90 X hr hlk N ih x4 r_18 x4 σ_19 _ _ _ hf hR (lv_sub hl [3, 4, 1, 0, 5] rfl)
        · replace hf := z_f c_21 hf
          refine lv_goto (tgt := 90) hx hb dX11_hangs_81 (by decide) ?_
          exact w11_hangs_90 X hr hlk N ih x2 x3 x4 σ_19 _ _ _ hf hR (lv_sub hl [1, 2, 3, 4, 5] rfl)
      · replace hf := z_t c_15 hf
        refine lv_goto (tgt := 90) hx hb dX11_hangs_55 (by decide) ?_
        exact w11_hangs_90 X hr hlk N ih x2 x3 x4 σ_12 _ _ _ hf hR (lv_sub hl [0, 1, 2, 3, 4] rfl)
set_option maxHeartbeats 4000000 in
set_option maxRecDepth 100000 in
theorem c11_hangs (l : Launch) (G : Gp) (N : Nat) {x1 : Int32} {σ σ0 : Mm} {r0 : Int32} (hf : f11_hangs N x1 σ = some (r0, σ0)) : Met l yX11_hangs (WS yX11_hangs cX11_hangs 6 (some .int)) rm11_hangs (va_Pc [.ref (G.2.2 + 160), .int x1] (Pd G 212 tt σ)) (P_i G 212 tt r0 σ0) 0 0 (Fr G) := by
  refine ct [(0, .ref (G.2.2 + 160)), (1, .int x1)] rfl (by decide) (Nat.le_of_ble_eq_true rfl) ?_
  intro p e s m below meth c ls X hr hlk hR hl
  have X : Cx p s m _ c cX11_hangs 6 RX11 G := X
  have hx := X.1
  have hb := X.2.1
  unfold f11_hangs at hf
  refine lv_iload_n hx hb dX11_hangs_0 rfl (lv_at hl 1 rfl) ?_
  refine lv_iconst (v := (0 : Int32)) hx hb dX11_hangs_1 (by decide) ?_
  refine lv_iconst (v := (1 : Int32)) hx hb dX11_hangs_2 (by decide) ?_
  obtain ⟨r_1, σ_2, hc_3, hf⟩ := z_b_e hf
  refine go_i hR (ms_run (As := [.int x1, .int (0 : Int32), .int (1 : Int32)]) (rest := []) X hR ms_11_340 (c11_in l G N hc_3) ⟨rfl, rfl, Nat.le_of_ble_eq_true rfl, Nat.le_of_ble_eq_true rfl⟩ rfl hl.1 rfl (Nat.le_of_ble_eq_true rfl) dX11_hangs_3 ⟨Nat.zero_le _, Nat.zero_le _⟩) (fun H locs hR => ?_)
  refine lv_if_ne (tgt := 11) hx hb dX11_hangs_6 (by decide) (fun c_4 => ?_) (fun c_4 => ?_)
  · replace hf := z_f c_4 hf
    refine lv_aload_n hx hb dX11_hangs_11 rfl (lv_at hl 0 rfl) ?_
    obtain ⟨r_5, σ_6, hc_7, hf⟩ := z_b_e hf
    refine go_v hR (mv_run (As := []) (rest := []) X hR mv_11_427 kh_160 (kd_lt kh_160 (by decide)) (c11_keepsWhose l G N hc_7) ⟨rfl, rfl, Nat.le_of_ble_eq_true rfl, Nat.le_of_ble_eq_true rfl⟩ rfl hl.1 rfl (Nat.le_of_ble_eq_true rfl) dX11_hangs_12 ⟨Nat.zero_le _, Nat.zero_le _⟩) (fun H locs hR => ?_)
    refine lv_bipush (v := (-2 : Int32)) hx hb dX11_hangs_15 (by decide) ?_
    refine lv_istore_n (lv' := [(2, .int (-2 : Int32)), (0, .ref (G.2.2 + 160)), (1, .int x1)]) hx hb dX11_hangs_17 rfl hl (by decide) rfl (fun ls hl => ?_)
    refine lv_bipush (v := (-2 : Int32)) hx hb dX11_hangs_18 (by decide) ?_
    refine lv_istore_n (lv' := [(3, .int (-2 : Int32)), (2, .int (-2 : Int32)), (0, .ref (G.2.2 + 160)), (1, .int x1)]) hx hb dX11_hangs_20 rfl hl (by decide) rfl (fun ls hl => ?_)
    refine lv_iconst (v := (0 : Int32)) hx hb dX11_hangs_21 (by decide) ?_
    refine lv_istore (lv' := [(4, .int (0 : Int32)), (3, .int (-2 : Int32)), (2, .int (-2 : Int32)), (0, .ref (G.2.2 + 160)), (1, .int x1)]) hx hb dX11_hangs_22 hl (by decide) rfl (fun ls hl => ?_)
    exact w11_hangs_24 X hr hlk N  N (-2 : Int32) (-2 : Int32) (0 : Int32) σ_6 _ _ _ hf hR (lv_sub hl [3, 4, 2, 1, 0] rfl)
  · replace hf := z_t c_4 hf
    refine lv_iconst (v := (-1 : Int32)) hx hb dX11_hangs_9 (by decide) ?_
    exact e_i X hR hr hlk hf dX11_hangs_10
abbrev rm11_wouldSwear : Room := { frames := 2, cells := 0, slots := 0, locals := 53 }
def f11_wouldSwear (N : Nat) (x1 : Int32) (x2 : Int32) (x3 : Int32) (σ : Mm) : Option (Int32 × Mm) :=
  z_b (f11_looksAt N x1 σ) fun _ σ_2 =>
  z_c (inB x1 117) (
  z_b (f11_held N ((gI σ_2 199 (ix x1)) + x3) (0 : Int32) (999 : Int32) σ_2) fun r_5 σ_6 =>
  z_c (inB (0 : Int32) 9) (z_l (sI σ_6 196 (ix (0 : Int32)) r_5) fun σ_9 =>
  z_c (inB (2 : Int32) 9) (z_l (sI σ_9 196 (ix (2 : Int32)) x3) fun σ_11 =>
  z_c (inB (14 : Int32) 117) (
  z_c (inB (3 : Int32) 9) (z_l (sI σ_11 196 (ix (3 : Int32)) ((gI σ_11 199 (ix (14 : Int32))) + x3)) fun σ_14 =>
  z_c (inB (5 : Int32) 9) (z_l (sI σ_14 196 (ix (5 : Int32)) x2) fun σ_16 =>
  z_c (inB (1 : Int32) 9) (
  z_b (f11_lawTells N (0 : Int32) ((gI σ_16 196 (ix (1 : Int32))) - x3) σ_16) fun r_18 σ_19 =>
  if r_18 ≤ 0 then (
  some ((0 : Int32), σ_19)) else (
  some ((1 : Int32), σ_19)))))))))
set_option maxHeartbeats 4000000 in
set_option maxRecDepth 100000 in
theorem c11_wouldSwear (l : Launch) (G : Gp) (N : Nat) {x1 : Int32} {x2 : Int32} {x3 : Int32} {σ σ0 : Mm} {r0 : Int32} (hf : f11_wouldSwear N x1 x2 x3 σ = some (r0, σ0)) : Met l yX11_wouldSwear (WS yX11_wouldSwear cX11_wouldSwear 4 (some .boolean)) rm11_wouldSwear (va_Pc [.ref (G.2.2 + 160), .int x1, .int x2, .int x3] (Pd G 212 tt σ)) (P_i G 212 tt r0 σ0) 0 0 (Fr G) := by
  refine ct [(0, .ref (G.2.2 + 160)), (1, .int x1), (2, .int x2), (3, .int x3)] rfl (by decide) (Nat.le_of_ble_eq_true rfl) ?_
  intro p e s m below meth c ls X hr hlk hR hl
  have X : Cx p s m _ c cX11_wouldSwear 4 RX11 G := X
  have hx := X.1
  have hb := X.2.1
  unfold f11_wouldSwear at hf
  refine lv_aload_n hx hb dX11_wouldSwear_0 rfl (lv_at hl 0 rfl) ?_
  refine lv_iload_n hx hb dX11_wouldSwear_1 rfl (lv_at hl 1 rfl) ?_
  obtain ⟨r_1, σ_2, hc_3, hf⟩ := z_b_e hf
  refine go_v hR (mv_run (As := [.int x1]) (rest := []) X hR mv_11_363 kh_160 (kd_lt kh_160 (by decide)) (c11_looksAt l G N hc_3) ⟨rfl, rfl, Nat.le_of_ble_eq_true rfl, Nat.le_of_ble_eq_true rfl⟩ rfl hl.1 rfl (Nat.le_of_ble_eq_true rfl) dX11_wouldSwear_2 ⟨Nat.zero_le _, Nat.zero_le _⟩) (fun H locs hR => ?_)
  refine lv_aload_n hx hb dX11_wouldSwear_5 rfl (lv_at hl 0 rfl) ?_
  refine r_gs (t := 196) X hR fr_11_125 kh_160 (sx_11_52 kh_160) dX11_wouldSwear_6 ?_
  refine lv_iconst (v := (0 : Int32)) hx hb dX11_wouldSwear_9 (by decide) ?_
  refine lv_aload_n hx hb dX11_wouldSwear_10 rfl (lv_at hl 0 rfl) ?_
  refine r_gs (t := 199) X hR fr_11_134 kh_160 (sx_11_56 kh_160) dX11_wouldSwear_11 ?_
  refine lv_iload_n hx hb dX11_wouldSwear_14 rfl (lv_at hl 1 rfl) ?_
  obtain ⟨hi_4, hf⟩ := z_c_e hf
  refine r_ial X hR ka_199 hi_4 dX11_wouldSwear_15 ?_
  refine lv_iload_n hx hb dX11_wouldSwear_16 rfl (lv_at hl 3 rfl) ?_
  refine lv_iadd hx hb dX11_wouldSwear_17 ?_
  refine lv_iconst (v := (0 : Int32)) hx hb dX11_wouldSwear_18 (by decide) ?_
  refine lv_sipush (v := (999 : Int32)) hx hb dX11_wouldSwear_19 (by decide) ?_
  obtain ⟨r_5, σ_6, hc_7, hf⟩ := z_b_e hf
  refine go_i hR (ms_run (As := [.int ((gI σ_2 199 (ix x1)) + x3), .int (0 : Int32), .int (999 : Int32)]) (rest := [.int (0 : Int32), .ref (G.2.2 + 196)]) X hR ms_11_372 (c11_held l G N hc_7) ⟨rfl, rfl, Nat.le_of_ble_eq_true rfl, Nat.le_of_ble_eq_true rfl⟩ rfl hl.1 rfl (Nat.le_of_ble_eq_true rfl) dX11_wouldSwear_22 ⟨Nat.zero_le _, Nat.zero_le _⟩) (fun H locs hR => ?_)
  obtain ⟨hi_8, hf⟩ := z_c_e hf
  refine r_ias X hR ka_196 hi_8 dX11_wouldSwear_25 (fun H locs σ_9 eσ_9 hR => ?_)
  replace hf := z_l_e eσ_9 hf
  refine lv_aload_n hx hb dX11_wouldSwear_26 rfl (lv_at hl 0 rfl) ?_
  refine r_gs (t := 196) X hR fr_11_125 kh_160 (sx_11_52 kh_160) dX11_wouldSwear_27 ?_
  refine lv_iconst (v := (2 : Int32)) hx hb dX11_wouldSwear_30 (by decide) ?_
  refine lv_iload_n hx hb dX11_wouldSwear_31 rfl (lv_at hl 3 rfl) ?_
  obtain ⟨hi_10, hf⟩ := z_c_e hf
  refine r_ias X hR ka_196 hi_10 dX11_wouldSwear_32 (fun H locs σ_11 eσ_11 hR => ?_)
  replace hf := z_l_e eσ_11 hf
  refine lv_aload_n hx hb dX11_wouldSwear_33 rfl (lv_at hl 0 rfl) ?_
  refine r_gs (t := 196) X hR fr_11_125 kh_160 (sx_11_52 kh_160) dX11_wouldSwear_34 ?_
  refine lv_iconst (v := (3 : Int32)) hx hb dX11_wouldSwear_37 (by decide) ?_
  refine lv_aload_n hx hb dX11_wouldSwear_38 rfl (lv_at hl 0 rfl) ?_
  refine r_gs (t := 199) X hR fr_11_134 kh_160 (sx_11_56 kh_160) dX11_wouldSwear_39 ?_
  refine lv_bipush (v := (14 : Int32)) hx hb dX11_wouldSwear_42 (by decide) ?_
  obtain ⟨hi_12, hf⟩ := z_c_e hf
  refine r_ial X hR ka_199 hi_12 dX11_wouldSwear_44 ?_
  refine lv_iload_n hx hb dX11_wouldSwear_45 rfl (lv_at hl 3 rfl) ?_
  refine lv_iadd hx hb dX11_wouldSwear_46 ?_
  obtain ⟨hi_13, hf⟩ := z_c_e hf
  refine r_ias X hR ka_196 hi_13 dX11_wouldSwear_47 (fun H locs σ_14 eσ_14 hR => ?_)
  replace hf := z_l_e eσ_14 hf
  refine lv_aload_n hx hb dX11_wouldSwear_48 rfl (lv_at hl 0 rfl) ?_
  refine r_gs (t := 196) X hR fr_11_125 kh_160 (sx_11_52 kh_160) dX11_wouldSwear_49 ?_
  refine lv_iconst (v := (5 : Int32)) hx hb dX11_wouldSwear_52 (by decide) ?_
  refine lv_iload_n hx hb dX11_wouldSwear_53 rfl (lv_at hl 2 rfl) ?_
  obtain ⟨hi_15, hf⟩ := z_c_e hf
  refine r_ias X hR ka_196 hi_15 dX11_wouldSwear_54 (fun H locs σ_16 eσ_16 hR => ?_)
  replace hf := z_l_e eσ_16 hf
  refine lv_aload_n hx hb dX11_wouldSwear_55 rfl (lv_at hl 0 rfl) ?_
  refine lv_iconst (v := (0 : Int32)) hx hb dX11_wouldSwear_56 (by decide) ?_
  refine lv_aload_n hx hb dX11_wouldSwear_57 rfl (lv_at hl 0 rfl) ?_
  refine r_gs (t := 196) X hR fr_11_125 kh_160 (sx_11_52 kh_160) dX11_wouldSwear_58 ?_
  refine lv_iconst (v := (1 : Int32)) hx hb dX11_wouldSwear_61 (by decide) ?_
  obtain ⟨hi_17, hf⟩ := z_c_e hf
  refine r_ial X hR ka_196 hi_17 dX11_wouldSwear_62 ?_
  refine lv_iload_n hx hb dX11_wouldSwear_63 rfl (lv_at hl 3 rfl) ?_
  refine lv_isub hx hb dX11_wouldSwear_64 ?_
  obtain ⟨r_18, σ_19, hc_20, hf⟩ := z_b_e hf
  refine go_i hR (mv_run (As := [.int (0 : Int32), .int ((gI σ_16 196 (ix (1 : Int32))) - x3)]) (rest := []) X hR mv_11_369 kh_160 (kd_lt kh_160 (by decide)) (c11_lawTells l G N hc_20) ⟨rfl, rfl, Nat.le_of_ble_eq_true rfl, Nat.le_of_ble_eq_true rfl⟩ rfl hl.1 rfl (Nat.le_of_ble_eq_true rfl) dX11_wouldSwear_65 ⟨Nat.zero_le _, Nat.zero_le _⟩) (fun H locs hR => ?_)
  refine lv_if_le (tgt := 75) hx hb dX11_wouldSwear_68 (by decide) (fun c_21 => ?_) (fun c_21 => ?_)
  · replace hf := z_t c_21 hf
    refine lv_iconst (v := (0 : Int32)) hx hb dX11_wouldSwear_75 (by decide) ?_
    exact e_z X hR hr hlk rfl hf dX11_wouldSwear_76
  · replace hf := z_f c_21 hf
    refine lv_iconst (v := (1 : Int32)) hx hb dX11_wouldSwear_71 (by decide) ?_
    refine lv_goto (tgt := 76) hx hb dX11_wouldSwear_72 (by decide) ?_
    exact e_z X hR hr hlk rfl hf dX11_wouldSwear_76
abbrev rm11_doesCover : Room := { frames := 3, cells := 0, slots := 0, locals := 76 }
def f11_doesCover_60 (N : Nat) (k2 : Int32 → Mm → Option (Int32 × Mm)) (x1 : Int32) (x2 : Int32) (x3 : Int32) (x4 : Int32) (σ : Mm) : Option (Int32 × Mm) :=
  z_c (inB (gI σ 160 18) 2) (
  if (gI σ 184 (ix (gI σ 160 18))) ≤ x4 then (
  z_l (x3 + (1 : Int32)) fun x3_6 =>
  k2 x3_6 σ) else (
  some ((0 : Int32), σ)))
def f11_doesCover_54 (N : Nat) (k2 : Int32 → Mm → Option (Int32 × Mm)) (k13 : Int32 → Int32 → Mm → Option (Int32 × Mm)) (x1 : Int32) (x2 : Int32) (x3 : Int32) (x4 : Int32) (x5 : Int32) (σ : Mm) : Option (Int32 × Mm) :=
  z_l (x5 + (1 : Int32)) fun x5_8 =>
  k13 x4 x5_8 σ
def f11_doesCover_13 (N : Nat) (k2 : Int32 → Mm → Option (Int32 × Mm)) (x1 : Int32) (x2 : Int32) (x3 : Int32) : Nat → Int32 → Int32 → Mm → Option (Int32 × Mm)
  | 0, _, _, _ => none
  | fu + 1, x4, x5, σ => z_c (inB (gI σ 160 18) 2) (
  if (gI σ 175 (ix (gI σ 160 18))) ≤ x5 then (
  f11_doesCover_60 N k2 x1 x2 x3 x4 σ) else (
  if ((x1 >>> (x5 &&& 31)) &&& (1 : Int32)) = (1 : Int32) then (
  z_b (f11_bits N x1 σ) fun r_9 σ_10 =>
  z_b (f11_wouldSwear N x5 r_9 x3 σ_10) fun r_12 σ_13 =>
  if r_12 = 0 then (
  f11_doesCover_54 N k2 (fun x4 x5 σ => f11_doesCover_13 N k2 x1 x2 x3 fu x4 x5 σ) x1 x2 x3 x4 x5 σ_13) else (
  z_l (x4 + (1 : Int32)) fun x4_16 =>
  f11_doesCover_54 N k2 (fun x4 x5 σ => f11_doesCover_13 N k2 x1 x2 x3 fu x4 x5 σ) x1 x2 x3 x4_16 x5 σ_13)) else (
  f11_doesCover_54 N k2 (fun x4 x5 σ => f11_doesCover_13 N k2 x1 x2 x3 fu x4 x5 σ) x1 x2 x3 x4 x5 σ)))
def f11_doesCover_2 (N : Nat) (x1 : Int32) (x2 : Int32) : Nat → Int32 → Mm → Option (Int32 × Mm)
  | 0, _, _ => none
  | fu + 1, x3, σ => if x2 < x3 then (
  some ((1 : Int32), σ)) else (
  f11_doesCover_13 N (fun x3 σ => f11_doesCover_2 N x1 x2 fu x3 σ) x1 x2 x3 N (0 : Int32) (0 : Int32) σ)
def f11_doesCover (N : Nat) (x1 : Int32) (x2 : Int32) (σ : Mm) : Option (Int32 × Mm) :=
  f11_doesCover_2 N x1 x2 N (0 : Int32) σ
set_option maxHeartbeats 4000000 in
set_option maxRecDepth 100000 in
theorem w11_doesCover_60 (X : Cx p s m args c cX11_doesCover 6 RX11 G) (hr : meth.sig.returnType = some .boolean) (hlk : meth.locks = false) (N : Nat) {x1 : Int32} {x2 : Int32} {k2 : Int32 → Mm → Option (Int32 × Mm)} (hk2 : ∀ (x3 : Int32) (σ : Mm) (H : Heap) (locs : List Loc) (ls : Array Slot), k2 x3 σ = some (r0, σ0) → Rp G 212 tt σ s H locs → lv_has ls 6 [(0, .ref (G.2.2 + 160)), (1, .int x1), (2, .int x2), (3, .int x3)] → W p l e rm11_doesCover s m args below meth c H locs 0 0 (MQ below (P_i G 212 tt r0 σ0) args s 0 0 (Fr G)) (F0 m 2 ls [])) :
    ∀ (x3 : Int32) (x4 : Int32) (σ : Mm) (H : Heap) (locs : List Loc) (ls : Array Slot), f11_doesCover_60 N k2 x1 x2 x3 x4 σ = some (r0, σ0) → Rp G 212 tt σ s H locs → lv_has ls 6 [(0, .ref (G.2.2 + 160)), (1, .int x1), (2, .int x2), (3, .int x3), (4, .int x4)] → W p l e rm11_doesCover s m args below meth c H locs 0 0 (MQ below (P_i G 212 tt r0 σ0) args s 0 0 (Fr G)) (F0 m 60 ls []) := by
  have hx := X.1
  have hb := X.2.1
  intro x3 x4 σ H locs ls hf hR hl
  unfold f11_doesCover_60 at hf
  refine lv_iload hx hb dX11_doesCover_60 (lv_at hl 4 rfl) ?_
  refine lv_aload_n hx hb dX11_doesCover_62 rfl (lv_at hl 0 rfl) ?_
  refine r_gs (t := 184) X hR fr_11_88 kh_160 (sx_11_37 kh_160) dX11_doesCover_63 ?_
  refine lv_aload_n hx hb dX11_doesCover_66 rfl (lv_at hl 0 rfl) ?_
  refine r_gi X hR fi_11_254 kh_160 dX11_doesCover_67 ?_
  obtain ⟨hi_4, hf⟩ := z_c_e hf
  refine r_ial X hR ka_184 hi_4 dX11_doesCover_70 ?_
  refine lv_icmp_ge (tgt := 76) hx hb dX11_doesCover_71 (by decide) (fun c_5 => ?_) (fun c_5 => ?_)
  · replace hf := z_t c_5 hf
    obtain ⟨x3_6, ex3_6⟩ : ∃ z : Int32, z = x3 + (1 : Int32) := ⟨_, rfl⟩
    replace hf := z_l_e ex3_6 hf
    refine lv_iinc (v := x3_6) (lv' := [(3, .int x3_6), (0, .ref (G.2.2 + 160)), (1, .int x1), (2, .int x2), (4, .int x4)]) hx hb dX11_doesCover_76 hl (k := 3) rfl (by rw [ex3_6]; rfl) (by decide) rfl (fun ls hl => ?_)
    refine lv_goto (tgt := 2) hx hb dX11_doesCover_79 (by decide) ?_
    exact hk2 x3_6 σ _ _ _ hf hR (lv_sub hl [1, 2, 3, 0] rfl)
  · replace hf := z_f c_5 hf
    refine lv_iconst (v := (0 : Int32)) hx hb dX11_doesCover_74 (by decide) ?_
    exact e_z X hR hr hlk rfl hf dX11_doesCover_75
set_option maxHeartbeats 4000000 in
set_option maxRecDepth 100000 in
theorem w11_doesCover_54 (X : Cx p s m args c cX11_doesCover 6 RX11 G) (hr : meth.sig.returnType = some .boolean) (hlk : meth.locks = false) (N : Nat) {x1 : Int32} {x2 : Int32} {x3 : Int32} {k2 : Int32 → Mm → Option (Int32 × Mm)} (hk2 : ∀ (x3 : Int32) (σ : Mm) (H : Heap) (locs : List Loc) (ls : Array Slot), k2 x3 σ = some (r0, σ0) → Rp G 212 tt σ s H locs → lv_has ls 6 [(0, .ref (G.2.2 + 160)), (1, .int x1), (2, .int x2), (3, .int x3)] → W p l e rm11_doesCover s m args below meth c H locs 0 0 (MQ below (P_i G 212 tt r0 σ0) args s 0 0 (Fr G)) (F0 m 2 ls [])) {k13 : Int32 → Int32 → Mm → Option (Int32 × Mm)} (hk13 : ∀ (x4 : Int32) (x5 : Int32) (σ : Mm) (H : Heap) (locs : List Loc) (ls : Array Slot), k13 x4 x5 σ = some (r0, σ0) → Rp G 212 tt σ s H locs → lv_has ls 6 [(0, .ref (G.2.2 + 160)), (1, .int x1), (2, .int x2), (3, .int x3), (4, .int x4), (5, .int x5)] → W p l e rm11_doesCover s m args below meth c H locs 0 0 (MQ below (P_i G 212 tt r0 σ0) args s 0 0 (Fr G)) (F0 m 13 ls [])) :
    ∀ (x4 : Int32) (x5 : Int32) (σ : Mm) (H : Heap) (locs : List Loc) (ls : Array Slot), f11_doesCover_54 N k2 k13 x1 x2 x3 x4 x5 σ = some (r0, σ0) → Rp G 212 tt σ s H locs → lv_has ls 6 [(0, .ref (G.2.2 + 160)), (1, .int x1), (2, .int x2), (3, .int x3), (4, .int x4), (5, .int x5)] → W p l e rm11_doesCover s m args below meth c H locs 0 0 (MQ below (P_i G 212 tt r0 σ0) args s 0 0 (Fr G)) (F0 m 54 ls []) := by
  have hx := X.1
  have hb := X.2.1
  intro x4 x5 σ H locs ls hf hR hl
  unfold f11_doesCover_54 at hf
  obtain ⟨x5_8, ex5_8⟩ : ∃ z : Int32, z = x5 + (1 : Int32) := ⟨_, rfl⟩
  replace hf := z_l_e ex5_8 hf
  refine lv_iinc (v := x5_8) (lv' := [(5, .int x5_8), (0, .ref (G.2.2 + 160)), (1, .int x1), (2, .int x2), (3, .int x3), (4, .int x4)]) hx hb dX11_doesCover_54 hl (k := 5) rfl (by rw [ex5_8]; rfl) (by decide) rfl (fun ls hl => ?_)
  refine lv_goto (tgt := 13) hx hb dX11_doesCover_57 (by decide) ?_
  exact hk13 x4 x5_8 σ _ _ _ hf hR (lv_sub hl [1, 2, 3, 4, 5, 0] rfl)
set_option maxHeartbeats 4000000 in
set_option maxRecDepth 100000 in
theorem w11_doesCover_13 (X : Cx p s m args c cX11_doesCover 6 RX11 G) (hr : meth.sig.returnType = some .boolean) (hlk : meth.locks = false) (N : Nat) {x1 : Int32} {x2 : Int32} {x3 : Int32} {k2 : Int32 → Mm → Option (Int32 × Mm)} (hk2 : ∀ (x3 : Int32) (σ : Mm) (H : Heap) (locs : List Loc) (ls : Array Slot), k2 x3 σ = some (r0, σ0) → Rp G 212 tt σ s H locs → lv_has ls 6 [(0, .ref (G.2.2 + 160)), (1, .int x1), (2, .int x2), (3, .int x3)] → W p l e rm11_doesCover s m args below meth c H locs 0 0 (MQ below (P_i G 212 tt r0 σ0) args s 0 0 (Fr G)) (F0 m 2 ls [])) :
    ∀ (fu : Nat) (x4 : Int32) (x5 : Int32) (σ : Mm) (H : Heap) (locs : List Loc) (ls : Array Slot), f11_doesCover_13 N k2 x1 x2 x3 fu x4 x5 σ = some (r0, σ0) → Rp G 212 tt σ s H locs → lv_has ls 6 [(0, .ref (G.2.2 + 160)), (1, .int x1), (2, .int x2), (3, .int x3), (4, .int x4), (5, .int x5)] → W p l e rm11_doesCover s m args below meth c H locs 0 0 (MQ below (P_i G 212 tt r0 σ0) args s 0 0 (Fr G)) (F0 m 13 ls []) := by
  have hx := X.1
  have hb := X.2.1
  intro fu
  induction fu with
  | zero =>
    intro x4 x5 σ H locs ls hf hR hl
    rw [f11_doesCover_13] at hf
    cases hf
  | succ fu ih =>
    intro x4 x5 σ H locs ls hf hR hl
    rw [f11_doesCover_13] at hf
    refine lv_iload hx hb dX11_doesCover_13 (lv_at hl 5 rfl) ?_
    refine lv_aload_n hx hb dX11_doesCover_15 rfl (lv_at hl 0 rfl) ?_
    refine r_gs (t := 175) X hR fr_11_61 kh_160 (sx_11_28 kh_160) dX11_doesCover_16 ?_
    refine lv_aload_n hx hb dX11_doesCover_19 rfl (lv_at hl 0 rfl) ?_
    refine r_gi X hR fi_11_254 kh_160 dX11_doesCover_20 ?_
    obtain ⟨hi_2, hf⟩ := z_c_e hf
    refine r_ial X hR ka_175 hi_2 dX11_doesCover_23 ?_
    refine lv_icmp_ge (tgt := 60) hx hb dX11_doesCover_24 (by decide) (fun c_3 => ?_) (fun c_3 => ?_)
    · replace hf := z_t c_3 hf
      exact w11_doesCover_60 X hr hlk N hk2 x3 x4 σ _ _ _ hf hR (lv_sub hl [0, 1, 2, 3, 4] rfl)
    · replace hf := z_f c_3 hf
      refine lv_iload_n hx hb dX11_doesCover_27 rfl (lv_at hl 1 rfl) ?_
      refine lv_iload hx hb dX11_doesCover_28 (lv_at hl 5 rfl) ?_
      refine lv_ishr hx hb dX11_doesCover_30 ?_
      refine lv_iconst (v := (1 : Int32)) hx hb dX11_doesCover_31 (by decide) ?_
      refine lv_iand hx hb dX11_doesCover_32 ?_
      refine lv_iconst (v := (1 : Int32)) hx hb dX11_doesCover_33 (by decide) ?_
      refine lv_icmp_ne (tgt := 54) hx hb dX11_doesCover_34 (by decide) (fun c_7 => ?_) (fun c_7 => ?_)
      · replace hf := z_f c_7 hf
        exact w11_doesCover_54 X hr hlk N hk2 ih x4 x5 σ _ _ _ hf hR (lv_sub hl [0, 1, 2, 3, 4, 5] rfl)
      · replace hf := z_t c_7 hf
        refine lv_aload_n hx hb dX11_doesCover_37 rfl (lv_at hl 0 rfl) ?_
        refine lv_iload hx hb dX11_doesCover_38 (lv_at hl 5 rfl) ?_
        refine lv_iload_n hx hb dX11_doesCover_40 rfl (lv_at hl 1 rfl) ?_
        obtain ⟨r_9, σ_10, hc_11, hf⟩ := z_b_e hf
        refine go_i hR (ms_run (As := [.int x1]) (rest := [.int x5, .ref (G.2.2 + 160)]) X hR ms_11_366 (c11_bits l G N hc_11) ⟨rfl, rfl, Nat.le_of_ble_eq_true rfl, Nat.le_of_ble_eq_true rfl⟩ rfl hl.1 rfl (Nat.le_of_ble_eq_true rfl) dX11_doesCover_41 ⟨Nat.zero_le _, Nat.zero_le _⟩) (fun H locs hR => ?_)
        refine lv_iload_n hx hb dX11_doesCover_44 rfl (lv_at hl 3 rfl) ?_
        obtain ⟨r_12, σ_13, hc_14, hf⟩ := z_b_e hf
        refine go_i hR (mv_run (As := [.int x5, .int r_9, .int x3]) (rest := []) X hR mv_11_433 kh_160 (kd_lt kh_160 (by decide)) (c11_wouldSwear l G N hc_14) ⟨rfl, rfl, Nat.le_of_ble_eq_true rfl, Nat.le_of_ble_eq_true rfl⟩ rfl hl.1 rfl (Nat.le_of_ble_eq_true rfl) dX11_doesCover_45 ⟨Nat.zero_le _, Nat.zero_le _⟩) (fun H locs hR => ?_)
        refine lv_if_eq (tgt := 54) hx hb dX11_doesCover_48 (by decide) (fun c_15 => ?_) (fun c_15 => ?_)
        · replace hf := z_t c_15 hf
          exact w11_doesCover_54 X hr hlk N hk2 ih x4 x5 σ_13 _ _ _ hf hR (lv_sub hl [0, 1, 2, 3, 4, 5] rfl)
        · replace hf := z_f c_15 hf
          obtain ⟨x4_16, ex4_16⟩ : ∃ z : Int32, z = x4 + (1 : Int32) := ⟨_, rfl⟩
          replace hf := z_l_e ex4_16 hf
          refine lv_iinc (v := x4_16) (lv' := [(4, .int x4_16), (0, .ref (G.2.2 + 160)), (1, .int x1), (2, .int x2), (3, .int x3), (5, .int x5)]) hx hb dX11_doesCover_51 hl (k := 4) rfl (by rw [ex4_16]; rfl) (by decide) rfl (fun ls hl => ?_)
          exact w11_doesCover_54 X hr hlk N hk2 ih x4_16 x5 σ_13 _ _ _ hf hR (lv_sub hl [1, 2, 3, 4, 0, 5] rfl)
set_option maxHeartbeats 4000000 in
set_option maxRecDepth 100000 in
theorem w11_doesCover_2 (X : Cx p s m args c cX11_doesCover 6 RX11 G) (hr : meth.sig.returnType = some .boolean) (hlk : meth.locks = false) (N : Nat) {x1 : Int32} {x2 : Int32} :
    ∀ (fu : Nat) (x3 : Int32) (σ : Mm) (H : Heap) (locs : List Loc) (ls : Array Slot), f11_doesCover_2 N x1 x2 fu x3 σ = some (r0, σ0) → Rp G 212 tt σ s H locs → lv_has ls 6 [(0, .ref (G.2.2 + 160)), (1, .int x1), (2, .int x2), (3, .int x3)] → W p l e rm11_doesCover s m args below meth c H locs 0 0 (MQ below (P_i G 212 tt r0 σ0) args s 0 0 (Fr G)) (F0 m 2 ls []) := by
  have hx := X.1
  have hb := X.2.1
  intro fu
  induction fu with
  | zero =>
    intro x3 σ H locs ls hf hR hl
    rw [f11_doesCover_2] at hf
    cases hf
  | succ fu ih =>
    intro x3 σ H locs ls hf hR hl
    rw [f11_doesCover_2] at hf
    refine lv_iload_n hx hb dX11_doesCover_2 rfl (lv_at hl 3 rfl) ?_
    refine lv_iload_n hx hb dX11_doesCover_3 rfl (lv_at hl 2 rfl) ?_
    refine lv_icmp_gt (tgt := 82) hx hb dX11_doesCover_4 (by decide) (fun c_1 => ?_) (fun c_1 => ?_)
    · replace hf := z_t c_1 hf
      refine lv_iconst (v := (1 : Int32)) hx hb dX11_doesCover_82 (by decide) ?_
      exact e_z X hR hr hlk rfl hf dX11_doesCover_83
    · replace hf := z_f c_1 hf
      refine lv_iconst (v := (0 : Int32)) hx hb dX11_doesCover_7 (by decide) ?_
      refine lv_istore (lv' := [(4, .int (0 : Int32)), (0, .ref (G.2.2 + 160)), (1, .int x1), (2, .int x2), (3, .int x3)]) hx hb dX11_doesCover_8 hl (by decide) rfl (fun ls hl => ?_)
      refine lv_iconst (v := (0 : Int32)) hx hb dX11_doesCover_10 (by decide) ?_
      refine lv_istore (lv' := [(5, .int (0 : Int32)), (4, .int (0 : Int32)), (0, .ref (G.2.2 + 160)), (1, .int x1), (2, .int x2), (3, .int x3)]) hx hb dX11_doesCover_11 hl (by decide) rfl (fun ls hl => ?_)
      exact w11_doesCover_13 X hr hlk N ih N (0 : Int32) (0 : Int32) σ _ _ _ hf hR (lv_sub hl [2, 3, 4, 5, 1, 0] rfl)
set_option maxHeartbeats 4000000 in
set_option maxRecDepth 100000 in
theorem c11_doesCover (l : Launch) (G : Gp) (N : Nat) {x1 : Int32} {x2 : Int32} {σ σ0 : Mm} {r0 : Int32} (hf : f11_doesCover N x1 x2 σ = some (r0, σ0)) : Met l yX11_doesCover (WS yX11_doesCover cX11_doesCover 6 (some .boolean)) rm11_doesCover (va_Pc [.ref (G.2.2 + 160), .int x1, .int x2] (Pd G 212 tt σ)) (P_i G 212 tt r0 σ0) 0 0 (Fr G) := by
  refine ct [(0, .ref (G.2.2 + 160)), (1, .int x1), (2, .int x2)] rfl (by decide) (Nat.le_of_ble_eq_true rfl) ?_
  intro p e s m below meth c ls X hr hlk hR hl
  have X : Cx p s m _ c cX11_doesCover 6 RX11 G := X
  have hx := X.1
  have hb := X.2.1
  unfold f11_doesCover at hf
  refine lv_iconst (v := (0 : Int32)) hx hb dX11_doesCover_0 (by decide) ?_
  refine lv_istore_n (lv' := [(3, .int (0 : Int32)), (0, .ref (G.2.2 + 160)), (1, .int x1), (2, .int x2)]) hx hb dX11_doesCover_1 rfl hl (by decide) rfl (fun ls hl => ?_)
  exact w11_doesCover_2 X hr hlk N  N (0 : Int32) σ _ _ _ hf hR (lv_sub hl [1, 2, 3, 0] rfl)
abbrev rm11_ithOf : Room := { frames := 0, cells := 0, slots := 0, locals := 0 }
def f11_ithOf_31 (N : Nat) (k4 : Int32 → Int32 → Mm → Option (Int32 × Mm)) (x0 : Int32) (x1 : Int32) (x2 : Int32) (x3 : Int32) (σ : Mm) : Option (Int32 × Mm) :=
  z_l (x3 + (1 : Int32)) fun x3_5 =>
  k4 x2 x3_5 σ
def f11_ithOf_4 (N : Nat) (x0 : Int32) (x1 : Int32) : Nat → Int32 → Int32 → Mm → Option (Int32 × Mm)
  | 0, _, _, _ => none
  | fu + 1, x2, x3, σ => if (7 : Int32) ≤ x3 then (
  some ((-1 : Int32), σ)) else (
  if ((x0 >>> (x3 &&& 31)) &&& (1 : Int32)) = 0 then (
  f11_ithOf_31 N (fun x2 x3 σ => f11_ithOf_4 N x0 x1 fu x2 x3 σ) x0 x1 x2 x3 σ) else (
  if x2 = x1 then (
  some (x3, σ)) else (
  z_l (x2 + (1 : Int32)) fun x2_4 =>
  f11_ithOf_31 N (fun x2 x3 σ => f11_ithOf_4 N x0 x1 fu x2 x3 σ) x0 x1 x2_4 x3 σ)))
def f11_ithOf (N : Nat) (x0 : Int32) (x1 : Int32) (σ : Mm) : Option (Int32 × Mm) :=
  f11_ithOf_4 N x0 x1 N (0 : Int32) (0 : Int32) σ
set_option maxHeartbeats 4000000 in
set_option maxRecDepth 100000 in
theorem w11_ithOf_31 (X : Cx p s m args c cX11_ithOf 4 RX11 G) (hr : meth.sig.returnType = some .int) (hlk : meth.locks = false) (N : Nat) {x0 : Int32} {x1 : Int32} {k4 : Int32 → Int32 → Mm → Option (Int32 × Mm)} (hk4 : ∀ (x2 : Int32) (x3 : Int32) (σ : Mm) (H : Heap) (locs : List Loc) (ls : Array Slot), k4 x2 x3 σ = some (r0, σ0) → Rp G 212 tt σ s H locs → lv_has ls 4 [(0, .int x0), (1, .int x1), (2, .int x2), (3, .int x3)] → W p l e rm11_ithOf s m args below meth c H locs 0 0 (MQ below (P_i G 212 tt r0 σ0) args s 0 0 (Fr G)) (F0 m 4 ls [])) :
    ∀ (x2 : Int32) (x3 : Int32) (σ : Mm) (H : Heap) (locs : List Loc) (ls : Array Slot), f11_ithOf_31 N k4 x0 x1 x2 x3 σ = some (r0, σ0) → Rp G 212 tt σ s H locs → lv_has ls 4 [(0, .int x0), (1, .int x1), (2, .int x2), (3, .int x3)] → W p l e rm11_ithOf s m args below meth c H locs 0 0 (MQ below (P_i G 212 tt r0 σ0) args s 0 0 (Fr G)) (F0 m 31 ls []) := by
  have hx := X.1
  have hb := X.2.1
  intro x2 x3 σ H locs ls hf hR hl
  unfold f11_ithOf_31 at hf
  obtain ⟨x3_5, ex3_5⟩ : ∃ z : Int32, z = x3 + (1 : Int32) := ⟨_, rfl⟩
  replace hf := z_l_e ex3_5 hf
  refine lv_iinc (v := x3_5) (lv' := [(3, .int x3_5), (0, .int x0), (1, .int x1), (2, .int x2)]) hx hb dX11_ithOf_31 hl (k := 3) rfl (by rw [ex3_5]; rfl) (by decide) rfl (fun ls hl => ?_)
  refine lv_goto (tgt := 4) hx hb dX11_ithOf_34 (by decide) ?_
  exact hk4 x2 x3_5 σ _ _ _ hf hR (lv_sub hl [1, 2, 3, 0] rfl)
set_option maxHeartbeats 4000000 in
set_option maxRecDepth 100000 in
theorem w11_ithOf_4 (X : Cx p s m args c cX11_ithOf 4 RX11 G) (hr : meth.sig.returnType = some .int) (hlk : meth.locks = false) (N : Nat) {x0 : Int32} {x1 : Int32} :
    ∀ (fu : Nat) (x2 : Int32) (x3 : Int32) (σ : Mm) (H : Heap) (locs : List Loc) (ls : Array Slot), f11_ithOf_4 N x0 x1 fu x2 x3 σ = some (r0, σ0) → Rp G 212 tt σ s H locs → lv_has ls 4 [(0, .int x0), (1, .int x1), (2, .int x2), (3, .int x3)] → W p l e rm11_ithOf s m args below meth c H locs 0 0 (MQ below (P_i G 212 tt r0 σ0) args s 0 0 (Fr G)) (F0 m 4 ls []) := by
  have hx := X.1
  have hb := X.2.1
  intro fu
  induction fu with
  | zero =>
    intro x2 x3 σ H locs ls hf hR hl
    rw [f11_ithOf_4] at hf
    cases hf
  | succ fu ih =>
    intro x2 x3 σ H locs ls hf hR hl
    rw [f11_ithOf_4] at hf
    refine lv_iload_n hx hb dX11_ithOf_4 rfl (lv_at hl 3 rfl) ?_
    refine lv_bipush (v := (7 : Int32)) hx hb dX11_ithOf_5 (by decide) ?_
    refine lv_icmp_ge (tgt := 37) hx hb dX11_ithOf_7 (by decide) (fun c_1 => ?_) (fun c_1 => ?_)
    · replace hf := z_t c_1 hf
      refine lv_iconst (v := (-1 : Int32)) hx hb dX11_ithOf_37 (by decide) ?_
      exact e_i X hR hr hlk hf dX11_ithOf_38
    · replace hf := z_f c_1 hf
      refine lv_iload_n hx hb dX11_ithOf_10 rfl (lv_at hl 0 rfl) ?_
      refine lv_iload_n hx hb dX11_ithOf_11 rfl (lv_at hl 3 rfl) ?_
      refine lv_ishr hx hb dX11_ithOf_12 ?_
      refine lv_iconst (v := (1 : Int32)) hx hb dX11_ithOf_13 (by decide) ?_
      refine lv_iand hx hb dX11_ithOf_14 ?_
      refine lv_if_ne (tgt := 21) hx hb dX11_ithOf_15 (by decide) (fun c_2 => ?_) (fun c_2 => ?_)
      · replace hf := z_f c_2 hf
        refine lv_iload_n hx hb dX11_ithOf_21 rfl (lv_at hl 2 rfl) ?_
        refine lv_iload_n hx hb dX11_ithOf_22 rfl (lv_at hl 1 rfl) ?_
        refine lv_icmp_ne (tgt := 28) hx hb dX11_ithOf_23 (by decide) (fun c_3 => ?_) (fun c_3 => ?_)
        · replace hf := z_f c_3 hf
          obtain ⟨x2_4, ex2_4⟩ : ∃ z : Int32, z = x2 + (1 : Int32) := ⟨_, rfl⟩
          replace hf := z_l_e ex2_4 hf
          refine lv_iinc (v := x2_4) (lv' := [(2, .int x2_4), (0, .int x0), (1, .int x1), (3, .int x3)]) hx hb dX11_ithOf_28 hl (k := 2) rfl (by rw [ex2_4]; rfl) (by decide) rfl (fun ls hl => ?_)
          exact w11_ithOf_31 X hr hlk N ih x2_4 x3 σ _ _ _ hf hR (lv_sub hl [1, 2, 0, 3] rfl)
        · replace hf := z_t c_3 hf
          refine lv_iload_n hx hb dX11_ithOf_26 rfl (lv_at hl 3 rfl) ?_
          exact e_i X hR hr hlk hf dX11_ithOf_27
      · replace hf := z_t c_2 hf
        refine lv_goto (tgt := 31) hx hb dX11_ithOf_18 (by decide) ?_
        exact w11_ithOf_31 X hr hlk N ih x2 x3 σ _ _ _ hf hR (lv_sub hl [0, 1, 2, 3] rfl)
set_option maxHeartbeats 4000000 in
set_option maxRecDepth 100000 in
theorem c11_ithOf (l : Launch) (G : Gp) (N : Nat) {x0 : Int32} {x1 : Int32} {σ σ0 : Mm} {r0 : Int32} (hf : f11_ithOf N x0 x1 σ = some (r0, σ0)) : Met l yX11_ithOf (WS yX11_ithOf cX11_ithOf 4 (some .int)) rm11_ithOf (va_Pc [.int x0, .int x1] (Pd G 212 tt σ)) (P_i G 212 tt r0 σ0) 0 0 (Fr G) := by
  refine ct [(0, .int x0), (1, .int x1)] rfl (by decide) (Nat.le_of_ble_eq_true rfl) ?_
  intro p e s m below meth c ls X hr hlk hR hl
  have X : Cx p s m _ c cX11_ithOf 4 RX11 G := X
  have hx := X.1
  have hb := X.2.1
  unfold f11_ithOf at hf
  refine lv_iconst (v := (0 : Int32)) hx hb dX11_ithOf_0 (by decide) ?_
  refine lv_istore_n (lv' := [(2, .int (0 : Int32)), (0, .int x0), (1, .int x1)]) hx hb dX11_ithOf_1 rfl hl (by decide) rfl (fun ls hl => ?_)
  refine lv_iconst (v := (0 : Int32)) hx hb dX11_ithOf_2 (by decide) ?_
  refine lv_istore_n (lv' := [(3, .int (0 : Int32)), (2, .int (0 : Int32)), (0, .int x0), (1, .int x1)]) hx hb dX11_ithOf_3 rfl hl (by decide) rfl (fun ls hl => ?_)
  exact w11_ithOf_4 X hr hlk N  N (0 : Int32) (0 : Int32) σ _ _ _ hf hR (lv_sub hl [2, 3, 1, 0] rfl)
abbrev rm11_isEarlier : Room := { frames := 1, cells := 0, slots := 0, locals := 23 }
def f11_isEarlier_20 (N : Nat) (x0 : Int32) (x1 : Int32) (x2 : Int32) (σ : Mm) : Option (Int32 × Mm) :=
  z_b (f11_ithOf N x0 x2 σ) fun r_10 σ_11 =>
  z_b (f11_ithOf N x1 x2 σ_11) fun r_13 σ_14 =>
  if r_13 ≤ r_10 then (
  some ((0 : Int32), σ_14)) else (
  some ((1 : Int32), σ_14))
def f11_isEarlier_2 (N : Nat) (x0 : Int32) (x1 : Int32) : Nat → Int32 → Mm → Option (Int32 × Mm)
  | 0, _, _ => none
  | fu + 1, x2, σ => if (4 : Int32) ≤ x2 then (
  some ((0 : Int32), σ)) else (
  z_b (f11_ithOf N x0 x2 σ) fun r_2 σ_3 =>
  z_b (f11_ithOf N x1 x2 σ_3) fun r_5 σ_6 =>
  if r_2 = r_5 then (
  z_l (x2 + (1 : Int32)) fun x2_9 =>
  f11_isEarlier_2 N x0 x1 fu x2_9 σ_6) else (
  f11_isEarlier_20 N x0 x1 x2 σ_6))
def f11_isEarlier (N : Nat) (x0 : Int32) (x1 : Int32) (σ : Mm) : Option (Int32 × Mm) :=
  f11_isEarlier_2 N x0 x1 N (0 : Int32) σ
set_option maxHeartbeats 4000000 in
set_option maxRecDepth 100000 in
theorem w11_isEarlier_20 (X : Cx p s m args c cX11_isEarlier 3 RX11 G) (hr : meth.sig.returnType = some .boolean) (hlk : meth.locks = false) (N : Nat) :
    ∀ (x0 : Int32) (x1 : Int32) (x2 : Int32) (σ : Mm) (H : Heap) (locs : List Loc) (ls : Array Slot), f11_isEarlier_20 N x0 x1 x2 σ = some (r0, σ0) → Rp G 212 tt σ s H locs → lv_has ls 3 [(0, .int x0), (1, .int x1), (2, .int x2)] → W p l e rm11_isEarlier s m args below meth c H locs 0 0 (MQ below (P_i G 212 tt r0 σ0) args s 0 0 (Fr G)) (F0 m 20 ls []) := by
  have hx := X.1
  have hb := X.2.1
  intro x0 x1 x2 σ H locs ls hf hR hl
  unfold f11_isEarlier_20 at hf
  refine lv_iload_n hx hb dX11_isEarlier_20 rfl (lv_at hl 0 rfl) ?_
  refine lv_iload_n hx hb dX11_isEarlier_21 rfl (lv_at hl 2 rfl) ?_
  obtain ⟨r_10, σ_11, hc_12, hf⟩ := z_b_e hf
  refine go_i hR (ms_run (As := [.int x0, .int x2]) (rest := []) X hR ms_11_436 (c11_ithOf l G N hc_12) ⟨rfl, rfl, Nat.le_of_ble_eq_true rfl, Nat.le_of_ble_eq_true rfl⟩ rfl hl.1 rfl (Nat.le_of_ble_eq_true rfl) dX11_isEarlier_22 ⟨Nat.zero_le _, Nat.zero_le _⟩) (fun H locs hR => ?_)
  refine lv_iload_n hx hb dX11_isEarlier_25 rfl (lv_at hl 1 rfl) ?_
  refine lv_iload_n hx hb dX11_isEarlier_26 rfl (lv_at hl 2 rfl) ?_
  obtain ⟨r_13, σ_14, hc_15, hf⟩ := z_b_e hf
  refine go_i hR (ms_run (As := [.int x1, .int x2]) (rest := [.int r_10]) X hR ms_11_436 (c11_ithOf l G N hc_15) ⟨rfl, rfl, Nat.le_of_ble_eq_true rfl, Nat.le_of_ble_eq_true rfl⟩ rfl hl.1 rfl (Nat.le_of_ble_eq_true rfl) dX11_isEarlier_27 ⟨Nat.zero_le _, Nat.zero_le _⟩) (fun H locs hR => ?_)
  refine lv_icmp_ge (tgt := 37) hx hb dX11_isEarlier_30 (by decide) (fun c_16 => ?_) (fun c_16 => ?_)
  · replace hf := z_t c_16 hf
    refine lv_iconst (v := (0 : Int32)) hx hb dX11_isEarlier_37 (by decide) ?_
    exact e_z X hR hr hlk rfl hf dX11_isEarlier_38
  · replace hf := z_f c_16 hf
    refine lv_iconst (v := (1 : Int32)) hx hb dX11_isEarlier_33 (by decide) ?_
    refine lv_goto (tgt := 38) hx hb dX11_isEarlier_34 (by decide) ?_
    exact e_z X hR hr hlk rfl hf dX11_isEarlier_38
set_option maxHeartbeats 4000000 in
set_option maxRecDepth 100000 in
theorem w11_isEarlier_2 (X : Cx p s m args c cX11_isEarlier 3 RX11 G) (hr : meth.sig.returnType = some .boolean) (hlk : meth.locks = false) (N : Nat) {x0 : Int32} {x1 : Int32} :
    ∀ (fu : Nat) (x2 : Int32) (σ : Mm) (H : Heap) (locs : List Loc) (ls : Array Slot), f11_isEarlier_2 N x0 x1 fu x2 σ = some (r0, σ0) → Rp G 212 tt σ s H locs → lv_has ls 3 [(0, .int x0), (1, .int x1), (2, .int x2)] → W p l e rm11_isEarlier s m args below meth c H locs 0 0 (MQ below (P_i G 212 tt r0 σ0) args s 0 0 (Fr G)) (F0 m 2 ls []) := by
  have hx := X.1
  have hb := X.2.1
  intro fu
  induction fu with
  | zero =>
    intro x2 σ H locs ls hf hR hl
    rw [f11_isEarlier_2] at hf
    cases hf
  | succ fu ih =>
    intro x2 σ H locs ls hf hR hl
    rw [f11_isEarlier_2] at hf
    refine lv_iload_n hx hb dX11_isEarlier_2 rfl (lv_at hl 2 rfl) ?_
    refine lv_iconst (v := (4 : Int32)) hx hb dX11_isEarlier_3 (by decide) ?_
    refine lv_icmp_ge (tgt := 45) hx hb dX11_isEarlier_4 (by decide) (fun c_1 => ?_) (fun c_1 => ?_)
    · replace hf := z_t c_1 hf
      refine lv_iconst (v := (0 : Int32)) hx hb dX11_isEarlier_45 (by decide) ?_
      exact e_z X hR hr hlk rfl hf dX11_isEarlier_46
    · replace hf := z_f c_1 hf
      refine lv_iload_n hx hb dX11_isEarlier_7 rfl (lv_at hl 0 rfl) ?_
      refine lv_iload_n hx hb dX11_isEarlier_8 rfl (lv_at hl 2 rfl) ?_
      obtain ⟨r_2, σ_3, hc_4, hf⟩ := z_b_e hf
      refine go_i hR (ms_run (As := [.int x0, .int x2]) (rest := []) X hR ms_11_436 (c11_ithOf l G N hc_4) ⟨rfl, rfl, Nat.le_of_ble_eq_true rfl, Nat.le_of_ble_eq_true rfl⟩ rfl hl.1 rfl (Nat.le_of_ble_eq_true rfl) dX11_isEarlier_9 ⟨Nat.zero_le _, Nat.zero_le _⟩) (fun H locs hR => ?_)
      refine lv_iload_n hx hb dX11_isEarlier_12 rfl (lv_at hl 1 rfl) ?_
      refine lv_iload_n hx hb dX11_isEarlier_13 rfl (lv_at hl 2 rfl) ?_
      obtain ⟨r_5, σ_6, hc_7, hf⟩ := z_b_e hf
      refine go_i hR (ms_run (As := [.int x1, .int x2]) (rest := [.int r_2]) X hR ms_11_436 (c11_ithOf l G N hc_7) ⟨rfl, rfl, Nat.le_of_ble_eq_true rfl, Nat.le_of_ble_eq_true rfl⟩ rfl hl.1 rfl (Nat.le_of_ble_eq_true rfl) dX11_isEarlier_14 ⟨Nat.zero_le _, Nat.zero_le _⟩) (fun H locs hR => ?_)
      refine lv_icmp_eq (tgt := 39) hx hb dX11_isEarlier_17 (by decide) (fun c_8 => ?_) (fun c_8 => ?_)
      · replace hf := z_t c_8 hf
        obtain ⟨x2_9, ex2_9⟩ : ∃ z : Int32, z = x2 + (1 : Int32) := ⟨_, rfl⟩
        replace hf := z_l_e ex2_9 hf
        refine lv_iinc (v := x2_9) (lv' := [(2, .int x2_9), (0, .int x0), (1, .int x1)]) hx hb dX11_isEarlier_39 hl (k := 2) rfl (by rw [ex2_9]; rfl) (by decide) rfl (fun ls hl => ?_)
        refine lv_goto (tgt := 2) hx hb dX11_isEarlier_42 (by decide) ?_
        exact ih x2_9 σ_6 _ _ _ hf hR (lv_sub hl [1, 2, 0] rfl)
      · replace hf := z_f c_8 hf
        exact w11_isEarlier_20 X hr hlk N  x0 x1 x2 σ_6 _ _ _ hf hR (lv_sub hl [0, 1, 2] rfl)
set_option maxHeartbeats 4000000 in
set_option maxRecDepth 100000 in
theorem c11_isEarlier (l : Launch) (G : Gp) (N : Nat) {x0 : Int32} {x1 : Int32} {σ σ0 : Mm} {r0 : Int32} (hf : f11_isEarlier N x0 x1 σ = some (r0, σ0)) : Met l yX11_isEarlier (WS yX11_isEarlier cX11_isEarlier 3 (some .boolean)) rm11_isEarlier (va_Pc [.int x0, .int x1] (Pd G 212 tt σ)) (P_i G 212 tt r0 σ0) 0 0 (Fr G) := by
  refine ct [(0, .int x0), (1, .int x1)] rfl (by decide) (Nat.le_of_ble_eq_true rfl) ?_
  intro p e s m below meth c ls X hr hlk hR hl
  have X : Cx p s m _ c cX11_isEarlier 3 RX11 G := X
  have hx := X.1
  have hb := X.2.1
  unfold f11_isEarlier at hf
  refine lv_iconst (v := (0 : Int32)) hx hb dX11_isEarlier_0 (by decide) ?_
  refine lv_istore_n (lv' := [(2, .int (0 : Int32)), (0, .int x0), (1, .int x1)]) hx hb dX11_isEarlier_1 rfl hl (by decide) rfl (fun ls hl => ?_)
  exact w11_isEarlier_2 X hr hlk N  N (0 : Int32) σ _ _ _ hf hR (lv_sub hl [1, 2, 0] rfl)
abbrev rm11_isLong : Room := { frames := 1, cells := 0, slots := 0, locals := 22 }
def f11_isLong (N : Nat) (x0 : Int32) (σ : Mm) : Option (Int32 × Mm) :=
  z_b (f11_in N x0 (0 : Int32) (60 : Int32) σ) fun r_1 σ_2 =>
  z_c (isZ r_1) (some (r_1, σ_2))
set_option maxHeartbeats 4000000 in
set_option maxRecDepth 100000 in
theorem c11_isLong (l : Launch) (G : Gp) (N : Nat) {x0 : Int32} {σ σ0 : Mm} {r0 : Int32} (hf : f11_isLong N x0 σ = some (r0, σ0)) : Met l yX11_isLong (WS yX11_isLong cX11_isLong 1 (some .boolean)) rm11_isLong (va_Pc [.int x0] (Pd G 212 tt σ)) (P_i G 212 tt r0 σ0) 0 0 (Fr G) := by
  refine ct [(0, .int x0)] rfl (by decide) (Nat.le_of_ble_eq_true rfl) ?_
  intro p e s m below meth c ls X hr hlk hR hl
  have X : Cx p s m _ c cX11_isLong 1 RX11 G := X
  have hx := X.1
  have hb := X.2.1
  unfold f11_isLong at hf
  refine lv_iload_n hx hb dX11_isLong_0 rfl (lv_at hl 0 rfl) ?_
  refine lv_iconst (v := (0 : Int32)) hx hb dX11_isLong_1 (by decide) ?_
  refine lv_bipush (v := (60 : Int32)) hx hb dX11_isLong_2 (by decide) ?_
  obtain ⟨r_1, σ_2, hc_3, hf⟩ := z_b_e hf
  refine go_i hR (ms_run (As := [.int x0, .int (0 : Int32), .int (60 : Int32)]) (rest := []) X hR ms_11_340 (c11_in l G N hc_3) ⟨rfl, rfl, Nat.le_of_ble_eq_true rfl, Nat.le_of_ble_eq_true rfl⟩ rfl hl.1 rfl (Nat.le_of_ble_eq_true rfl) dX11_isLong_4 ⟨Nat.zero_le _, Nat.zero_le _⟩) (fun H locs hR => ?_)
  obtain ⟨hz_4, hf⟩ := z_c_e hf
  exact e_z X hR hr hlk hz_4 hf dX11_isLong_7
abbrev rm11_cover : Room := { frames := 4, cells := 0, slots := 0, locals := 101 }
def f11_cover_120 (N : Nat) (x2 : Int32) (x3 : Int32) (σ : Mm) : Option (Int32 × Mm) :=
  if 0 ≤ x3 then (
  if x2 = (-1 : Int32) then (
  z_b (f11_bits N x3 σ) fun r_19 σ_20 =>
  some (r_19, σ_20)) else (
  z_b (f11_ithOf N x3 x2 σ) fun r_16 σ_17 =>
  some (r_16, σ_17))) else (
  some ((-2 : Int32), σ))
def f11_cover_114 (N : Nat) (k27 : Int32 → Int32 → Mm → Option (Int32 × Mm)) (x1 : Int32) (x2 : Int32) (x3 : Int32) (x4 : Int32) (σ : Mm) : Option (Int32 × Mm) :=
  z_l (x4 + (1 : Int32)) fun x4_26 =>
  k27 x3 x4_26 σ
def f11_cover_111 (N : Nat) (k27 : Int32 → Int32 → Mm → Option (Int32 × Mm)) (x1 : Int32) (x2 : Int32) (x4 : Int32) (σ : Mm) : Option (Int32 × Mm) :=
  f11_cover_114 N k27 x1 x2 x4 x4 σ
def f11_cover_27 (N : Nat) (x1 : Int32) (x2 : Int32) : Nat → Int32 → Int32 → Mm → Option (Int32 × Mm)
  | 0, _, _, _ => none
  | fu + 1, x3, x4, σ => z_c (inB (gI σ 160 18) 2) (
  if ((1 : Int32) <<< ((gI σ 175 (ix (gI σ 160 18))) &&& 31)) ≤ x4 then (
  f11_cover_120 N x2 x3 σ) else (
  z_b (f11_bits N x4 σ) fun r_22 σ_23 =>
  if (4 : Int32) < r_22 then (
  f11_cover_114 N (fun x3 x4 σ => f11_cover_27 N x1 x2 fu x3 x4 σ) x1 x2 x3 x4 σ_23) else (
  z_b (f11_areAlive N x4 σ_23) fun r_27 σ_28 =>
  if r_27 = 0 then (
  f11_cover_114 N (fun x3 x4 σ => f11_cover_27 N x1 x2 fu x3 x4 σ) x1 x2 x3 x4 σ_28) else (
  z_b (f11_doesCover N x4 x1 σ_28) fun r_31 σ_32 =>
  if r_31 = 0 then (
  f11_cover_114 N (fun x3 x4 σ => f11_cover_27 N x1 x2 fu x3 x4 σ) x1 x2 x3 x4 σ_32) else (
  if x3 < 0 then (
  f11_cover_111 N (fun x3 x4 σ => f11_cover_27 N x1 x2 fu x3 x4 σ) x1 x2 x4 σ_32) else (
  z_b (f11_bits N x4 σ_32) fun r_36 σ_37 =>
  z_b (f11_bits N x3 σ_37) fun r_39 σ_40 =>
  if r_36 < r_39 then (
  f11_cover_111 N (fun x3 x4 σ => f11_cover_27 N x1 x2 fu x3 x4 σ) x1 x2 x4 σ_40) else (
  z_b (f11_bits N x4 σ_40) fun r_43 σ_44 =>
  z_b (f11_bits N x3 σ_44) fun r_46 σ_47 =>
  if r_43 = r_46 then (
  z_b (f11_isEarlier N x4 x3 σ_47) fun r_50 σ_51 =>
  if r_50 = 0 then (
  f11_cover_114 N (fun x3 x4 σ => f11_cover_27 N x1 x2 fu x3 x4 σ) x1 x2 x3 x4 σ_51) else (
  f11_cover_111 N (fun x3 x4 σ => f11_cover_27 N x1 x2 fu x3 x4 σ) x1 x2 x4 σ_51)) else (
  f11_cover_114 N (fun x3 x4 σ => f11_cover_27 N x1 x2 fu x3 x4 σ) x1 x2 x3 x4 σ_47))))))))
def f11_cover (N : Nat) (x1 : Int32) (x2 : Int32) (σ : Mm) : Option (Int32 × Mm) :=
  z_b (f11_isLong N x1 σ) fun r_1 σ_2 =>
  if r_1 = 0 then (
  some ((-1 : Int32), σ_2)) else (
  z_b (f11_in N x2 (-1 : Int32) (3 : Int32) σ_2) fun r_5 σ_6 =>
  if r_5 = 0 then (
  some ((-1 : Int32), σ_6)) else (
  z_b (f11_copies N σ_6) fun _ σ_10 =>
  f11_cover_27 N x1 x2 N (-1 : Int32) (0 : Int32) σ_10))
set_option maxHeartbeats 4000000 in
set_option maxRecDepth 100000 in
theorem w11_cover_120 (X : Cx p s m args c cX11_cover 5 RX11 G) (hr : meth.sig.returnType = some .int) (hlk : meth.locks = false) (N : Nat) :
    ∀ (x2 : Int32) (x3 : Int32) (σ : Mm) (H : Heap) (locs : List Loc) (ls : Array Slot), f11_cover_120 N x2 x3 σ = some (r0, σ0) → Rp G 212 tt σ s H locs → lv_has ls 5 [(2, .int x2), (3, .int x3)] → W p l e rm11_cover s m args below meth c H locs 0 0 (MQ below (P_i G 212 tt r0 σ0) args s 0 0 (Fr G)) (F0 m 120 ls []) := by
  have hx := X.1
  have hb := X.2.1
  intro x2 x3 σ H locs ls hf hR hl
  unfold f11_cover_120 at hf
  refine lv_iload_n hx hb dX11_cover_120 rfl (lv_at hl 1 rfl) ?_
  refine lv_if_ge (tgt := 127) hx hb dX11_cover_121 (by decide) (fun c_14 => ?_) (fun c_14 => ?_)
  · replace hf := z_t c_14 hf
    refine lv_iload_n hx hb dX11_cover_127 rfl (lv_at hl 0 rfl) ?_
    refine lv_iconst (v := (-1 : Int32)) hx hb dX11_cover_128 (by decide) ?_
    refine lv_icmp_ne (tgt := 139) hx hb dX11_cover_129 (by decide) (fun c_15 => ?_) (fun c_15 => ?_)
    · replace hf := z_f c_15 hf
      refine lv_iload_n hx hb dX11_cover_139 rfl (lv_at hl 1 rfl) ?_
      refine lv_iload_n hx hb dX11_cover_140 rfl (lv_at hl 0 rfl) ?_
      obtain ⟨r_16, σ_17, hc_18, hf⟩ := z_b_e hf
      refine go_i hR (ms_run (As := [.int x3, .int x2]) (rest := []) X hR ms_11_436 (c11_ithOf l G N hc_18) ⟨rfl, rfl, Nat.le_of_ble_eq_true rfl, Nat.le_of_ble_eq_true rfl⟩ rfl hl.1 rfl (Nat.le_of_ble_eq_true rfl) dX11_cover_141 ⟨Nat.zero_le _, Nat.zero_le _⟩) (fun H locs hR => ?_)
      exact e_i X hR hr hlk hf dX11_cover_144
    · replace hf := z_t c_15 hf
      refine lv_iload_n hx hb dX11_cover_132 rfl (lv_at hl 1 rfl) ?_
      obtain ⟨r_19, σ_20, hc_21, hf⟩ := z_b_e hf
      refine go_i hR (ms_run (As := [.int x3]) (rest := []) X hR ms_11_366 (c11_bits l G N hc_21) ⟨rfl, rfl, Nat.le_of_ble_eq_true rfl, Nat.le_of_ble_eq_true rfl⟩ rfl hl.1 rfl (Nat.le_of_ble_eq_true rfl) dX11_cover_133 ⟨Nat.zero_le _, Nat.zero_le _⟩) (fun H locs hR => ?_)
      refine lv_goto (tgt := 144) hx hb dX11_cover_136 (by decide) ?_
      exact e_i X hR hr hlk hf dX11_cover_144
  · replace hf := z_f c_14 hf
    refine lv_bipush (v := (-2 : Int32)) hx hb dX11_cover_124 (by decide) ?_
    exact e_i X hR hr hlk hf dX11_cover_126
set_option maxHeartbeats 4000000 in
set_option maxRecDepth 100000 in
theorem w11_cover_114 (X : Cx p s m args c cX11_cover 5 RX11 G) (hr : meth.sig.returnType = some .int) (hlk : meth.locks = false) (N : Nat) {x1 : Int32} {x2 : Int32} {k27 : Int32 → Int32 → Mm → Option (Int32 × Mm)} (hk27 : ∀ (x3 : Int32) (x4 : Int32) (σ : Mm) (H : Heap) (locs : List Loc) (ls : Array Slot), k27 x3 x4 σ = some (r0, σ0) → Rp G 212 tt σ s H locs → lv_has ls 5 [(0, .ref (G.2.2 + 160)), (1, .int x1), (2, .int x2), (3, .int x3), (4, .int x4)] → W p l e rm11_cover s m args below meth c H locs 0 0 (MQ below (P_i G 212 tt r0 σ0) args s 0 0 (Fr G)) (F0 m 27 ls [])) :
    ∀ (x3 : Int32) (x4 : Int32) (σ : Mm) (H : Heap) (locs : List Loc) (ls : Array Slot), f11_cover_114 N k27 x1 x2 x3 x4 σ = some (r0, σ0) → Rp G 212 tt σ s H locs → lv_has ls 5 [(0, .ref (G.2.2 + 160)), (1, .int x1), (2, .int x2), (3, .int x3), (4, .int x4)] → W p l e rm11_cover s m args below meth c H locs 0 0 (MQ below (P_i G 212 tt r0 σ0) args s 0 0 (Fr G)) (F0 m 114 ls []) := by
  have hx := X.1
  have hb := X.2.1
  intro x3 x4 σ H locs ls hf hR hl
  unfold f11_cover_114 at hf
  obtain ⟨x4_26, ex4_26⟩ : ∃ z : Int32, z = x4 + (1 : Int32) := ⟨_, rfl⟩
  replace hf := z_l_e ex4_26 hf
  refine lv_iinc (v := x4_26) (lv' := [(4, .int x4_26), (0, .ref (G.2.2 + 160)), (1, .int x1), (2, .int x2), (3, .int x3)]) hx hb dX11_cover_114 hl (k := 4) rfl (by rw [ex4_26]; rfl) (by decide) rfl (fun ls hl => ?_)
  refine lv_goto (tgt := 27) hx hb dX11_cover_117 (by decide) ?_
  exact hk27 x3 x4_26 σ _ _ _ hf hR (lv_sub hl [1, 2, 3, 4, 0] rfl)
set_option maxHeartbeats 4000000 in
set_option maxRecDepth 100000 in
theorem w11_cover_111 (X : Cx p s m args c cX11_cover 5 RX11 G) (hr : meth.sig.returnType = some .int) (hlk : meth.locks = false) (N : Nat) {x1 : Int32} {x2 : Int32} {k27 : Int32 → Int32 → Mm → Option (Int32 × Mm)} (hk27 : ∀ (x3 : Int32) (x4 : Int32) (σ : Mm) (H : Heap) (locs : List Loc) (ls : Array Slot), k27 x3 x4 σ = some (r0, σ0) → Rp G 212 tt σ s H locs → lv_has ls 5 [(0, .ref (G.2.2 + 160)), (1, .int x1), (2, .int x2), (3, .int x3), (4, .int x4)] → W p l e rm11_cover s m args below meth c H locs 0 0 (MQ below (P_i G 212 tt r0 σ0) args s 0 0 (Fr G)) (F0 m 27 ls [])) :
    ∀ (x4 : Int32) (σ : Mm) (H : Heap) (locs : List Loc) (ls : Array Slot), f11_cover_111 N k27 x1 x2 x4 σ = some (r0, σ0) → Rp G 212 tt σ s H locs → lv_has ls 5 [(0, .ref (G.2.2 + 160)), (1, .int x1), (2, .int x2), (4, .int x4)] → W p l e rm11_cover s m args below meth c H locs 0 0 (MQ below (P_i G 212 tt r0 σ0) args s 0 0 (Fr G)) (F0 m 111 ls []) := by
  have hx := X.1
  have hb := X.2.1
  intro x4 σ H locs ls hf hR hl
  unfold f11_cover_111 at hf
  refine lv_iload hx hb dX11_cover_111 (lv_at hl 3 rfl) ?_
  refine lv_istore_n (lv' := [(3, .int x4), (0, .ref (G.2.2 + 160)), (1, .int x1), (2, .int x2), (4, .int x4)]) hx hb dX11_cover_113 rfl hl (by decide) rfl (fun ls hl => ?_)
  exact w11_cover_114 X hr hlk N hk27 x4 x4 σ _ _ _ hf hR (lv_sub hl [1, 2, 3, 0, 4] rfl)
set_option maxHeartbeats 4000000 in
set_option maxRecDepth 100000 in
theorem w11_cover_27 (X : Cx p s m args c cX11_cover 5 RX11 G) (hr : meth.sig.returnType = some .int) (hlk : meth.locks = false) (N : Nat) {x1 : Int32} {x2 : Int32} :
    ∀ (fu : Nat) (x3 : Int32) (x4 : Int32) (σ : Mm) (H : Heap) (locs : List Loc) (ls : Array Slot), f11_cover_27 N x1 x2 fu x3 x4 σ = some (r0, σ0) → Rp G 212 tt σ s H locs → lv_has ls 5 [(0, .ref (G.2.2 + 160)), (1, .int x1), (2, .int x2), (3, .int x3), (4, .int x4)] → W p l e rm11_cover s m args below meth c H locs 0 0 (MQ below (P_i G 212 tt r0 σ0) args s 0 0 (Fr G)) (F0 m 27 ls []) := by
  have hx := X.1
  have hb := X.2.1
  intro fu
  induction fu with
  | zero =>
    intro x3 x4 σ H locs ls hf hR hl
    rw [f11_cover_27] at hf
    cases hf
  | succ fu ih =>
    intro x3 x4 σ H locs ls hf hR hl
    rw [f11_cover_27] at hf
    refine lv_iload hx hb dX11_cover_27 (lv_at hl 4 rfl) ?_
    refine lv_iconst (v := (1 : Int32)) hx hb dX11_cover_29 (by decide) ?_
    refine lv_aload_n hx hb dX11_cover_30 rfl (lv_at hl 0 rfl) ?_
    refine r_gs (t := 175) X hR fr_11_61 kh_160 (sx_11_28 kh_160) dX11_cover_31 ?_
    refine lv_aload_n hx hb dX11_cover_34 rfl (lv_at hl 0 rfl) ?_
    refine r_gi X hR fi_11_254 kh_160 dX11_cover_35 ?_
    obtain ⟨hi_12, hf⟩ := z_c_e hf
    refine r_ial X hR ka_175 hi_12 dX11_cover_38 ?_
    refine lv_ishl hx hb dX11_cover_39 ?_
    refine lv_icmp_ge (tgt := 120) hx hb dX11_cover_40 (by decide) (fun c_13 => ?_) (fun c_13 => ?_)
    · replace hf := z_t c_13 hf
      exact w11_cover_120 X hr hlk N  x2 x3 σ _ _ _ hf hR (lv_sub hl [2, 3] rfl)
    · replace hf := z_f c_13 hf
      refine lv_iload hx hb dX11_cover_43 (lv_at hl 4 rfl) ?_
      obtain ⟨r_22, σ_23, hc_24, hf⟩ := z_b_e hf
      refine go_i hR (ms_run (As := [.int x4]) (rest := []) X hR ms_11_366 (c11_bits l G N hc_24) ⟨rfl, rfl, Nat.le_of_ble_eq_true rfl, Nat.le_of_ble_eq_true rfl⟩ rfl hl.1 rfl (Nat.le_of_ble_eq_true rfl) dX11_cover_45 ⟨Nat.zero_le _, Nat.zero_le _⟩) (fun H locs hR => ?_)
      refine lv_iconst (v := (4 : Int32)) hx hb dX11_cover_48 (by decide) ?_
      refine lv_icmp_gt (tgt := 114) hx hb dX11_cover_49 (by decide) (fun c_25 => ?_) (fun c_25 => ?_)
      · replace hf := z_t c_25 hf
        exact w11_cover_114 X hr hlk N ih x3 x4 σ_23 _ _ _ hf hR (lv_sub hl [0, 1, 2, 3, 4] rfl)
      · replace hf := z_f c_25 hf
        refine lv_aload_n hx hb dX11_cover_52 rfl (lv_at hl 0 rfl) ?_
        refine lv_iload hx hb dX11_cover_53 (lv_at hl 4 rfl) ?_
        obtain ⟨r_27, σ_28, hc_29, hf⟩ := z_b_e hf
        refine go_i hR (mv_run (As := [.int x4]) (rest := []) X hR mv_11_418 kh_160 (kd_lt kh_160 (by decide)) (c11_areAlive l G N hc_29) ⟨rfl, rfl, Nat.le_of_ble_eq_true rfl, Nat.le_of_ble_eq_true rfl⟩ rfl hl.1 rfl (Nat.le_of_ble_eq_true rfl) dX11_cover_55 ⟨Nat.zero_le _, Nat.zero_le _⟩) (fun H locs hR => ?_)
        refine lv_if_eq (tgt := 114) hx hb dX11_cover_58 (by decide) (fun c_30 => ?_) (fun c_30 => ?_)
        · replace hf := z_t c_30 hf
          exact w11_cover_114 X hr hlk N ih x3 x4 σ_28 _ _ _ hf hR (lv_sub hl [0, 1, 2, 3, 4] rfl)
        · replace hf := z_f c_30 hf
          refine lv_aload_n hx hb dX11_cover_61 rfl (lv_at hl 0 rfl) ?_
          refine lv_iload hx hb dX11_cover_62 (lv_at hl 4 rfl) ?_
          refine lv_iload_n hx hb dX11_cover_64 rfl (lv_at hl 1 rfl) ?_
          obtain ⟨r_31, σ_32, hc_33, hf⟩ := z_b_e hf
          refine go_i hR (mv_run (As := [.int x4, .int x1]) (rest := []) X hR mv_11_442 kh_160 (kd_lt kh_160 (by decide)) (c11_doesCover l G N hc_33) ⟨rfl, rfl, Nat.le_of_ble_eq_true rfl, Nat.le_of_ble_eq_true rfl⟩ rfl hl.1 rfl (Nat.le_of_ble_eq_true rfl) dX11_cover_65 ⟨Nat.zero_le _, Nat.zero_le _⟩) (fun H locs hR => ?_)
          refine lv_if_ne (tgt := 74) hx hb dX11_cover_68 (by decide) (fun c_34 => ?_) (fun c_34 => ?_)
          · replace hf := z_f c_34 hf
            refine lv_iload_n hx hb dX11_cover_74 rfl (lv_at hl 3 rfl) ?_
            refine lv_if_lt (tgt := 111) hx hb dX11_cover_75 (by decide) (fun c_35 => ?_) (fun c_35 => ?_)
            · replace hf := z_t c_35 hf
              exact w11_cover_111 X hr hlk N ih x4 σ_32 _ _ _ hf hR (lv_sub hl [0, 1, 2, 4] rfl)
            · replace hf := z_f c_35 hf
              refine lv_iload hx hb dX11_cover_78 (lv_at hl 4 rfl) ?_
              obtain ⟨r_36, σ_37, hc_38, hf⟩ := z_b_e hf
              refine go_i hR (ms_run (As := [.int x4]) (rest := []) X hR ms_11_366 (c11_bits l G N hc_38) ⟨rfl, rfl, Nat.le_of_ble_eq_true rfl, Nat.le_of_ble_eq_true rfl⟩ rfl hl.1 rfl (Nat.le_of_ble_eq_true rfl) dX11_cover_80 ⟨Nat.zero_le _, Nat.zero_le _⟩) (fun H locs hR => ?_)
              refine lv_iload_n hx hb dX11_cover_83 rfl (lv_at hl 3 rfl) ?_
              obtain ⟨r_39, σ_40, hc_41, hf⟩ := z_b_e hf
              refine go_i hR (ms_run (As := [.int x3]) (rest := [.int r_36]) X hR ms_11_366 (c11_bits l G N hc_41) ⟨rfl, rfl, Nat.le_of_ble_eq_true rfl, Nat.le_of_ble_eq_true rfl⟩ rfl hl.1 rfl (Nat.le_of_ble_eq_true rfl) dX11_cover_84 ⟨Nat.zero_le _, Nat.zero_le _⟩) (fun H locs hR => ?_)
              refine lv_icmp_lt (tgt := 111) hx hb dX11_cover_87 (by decide) (fun c_42 => ?_) (fun c_42 => ?_)
              · replace hf := z_t c_42 hf
                exact w11_cover_111 X hr hlk N ih x4 σ_40 _ _ _ hf hR (lv_sub hl [0, 1, 2, 4] rfl)
              · replace hf := z_f c_42 hf
                refine lv_iload hx hb dX11_cover_90 (lv_at hl 4 rfl) ?_
                obtain ⟨r_43, σ_44, hc_45, hf⟩ := z_b_e hf
                refine go_i hR (ms_run (As := [.int x4]) (rest := []) X hR ms_11_366 (c11_bits l G N hc_45) ⟨rfl, rfl, Nat.le_of_ble_eq_true rfl, Nat.le_of_ble_eq_true rfl⟩ rfl hl.1 rfl (Nat.le_of_ble_eq_true rfl) dX11_cover_92 ⟨Nat.zero_le _, Nat.zero_le _⟩) (fun H locs hR => ?_)
                refine lv_iload_n hx hb dX11_cover_95 rfl (lv_at hl 3 rfl) ?_
                obtain ⟨r_46, σ_47, hc_48, hf⟩ := z_b_e hf
                refine go_i hR (ms_run (As := [.int x3]) (rest := [.int r_43]) X hR ms_11_366 (c11_bits l G N hc_48) ⟨rfl, rfl, Nat.le_of_ble_eq_true rfl, Nat.le_of_ble_eq_true rfl⟩ rfl hl.1 rfl (Nat.le_of_ble_eq_true rfl) dX11_cover_96 ⟨Nat.zero_le _, Nat.zero_le _⟩) (fun H locs hR => ?_)
                refine lv_icmp_ne (tgt := 114) hx hb dX11_cover_99 (by decide) (fun c_49 => ?_) (fun c_49 => ?_)
                · replace hf := z_f c_49 hf
                  exact w11_cover_114 X hr hlk N ih x3 x4 σ_47 _ _ _ hf hR (lv_sub hl [0, 1, 2, 3, 4] rfl)
                · replace hf := z_t c_49 hf
                  refine lv_iload hx hb dX11_cover_102 (lv_at hl 4 rfl) ?_
                  refine lv_iload_n hx hb dX11_cover_104 rfl (lv_at hl 3 rfl) ?_
                  obtain ⟨r_50, σ_51, hc_52, hf⟩ := z_b_e hf
                  refine go_i hR (ms_run (As := [.int x4, .int x3]) (rest := []) X hR ms_11_445 (c11_isEarlier l G N hc_52) ⟨rfl, rfl, Nat.le_of_ble_eq_true rfl, Nat.le_of_ble_eq_true rfl⟩ rfl hl.1 rfl (Nat.le_of_ble_eq_true rfl) dX11_cover_105 ⟨Nat.zero_le _, Nat.zero_le _⟩) (fun H locs hR => ?_)
                  refine lv_if_eq (tgt := 114) hx hb dX11_cover_108 (by decide) (fun c_53 => ?_) (fun c_53 => ?_)
                  · replace hf := z_t c_53 hf
                    exact w11_cover_114 X hr hlk N ih x3 x4 σ_51 _ _ _ hf hR (lv_sub hl [0, 1, 2, 3, 4] rfl)
                  · replace hf := z_f c_53 hf
                    exact w11_cover_111 X hr hlk N ih x4 σ_51 _ _ _ hf hR (lv_sub hl [0, 1, 2, 4] rfl)
          · replace hf := z_t c_34 hf
            refine lv_goto (tgt := 114) hx hb dX11_cover_71 (by decide) ?_
            exact w11_cover_114 X hr hlk N ih x3 x4 σ_32 _ _ _ hf hR (lv_sub hl [0, 1, 2, 3, 4] rfl)
set_option maxHeartbeats 4000000 in
set_option maxRecDepth 100000 in
theorem c11_cover (l : Launch) (G : Gp) (N : Nat) {x1 : Int32} {x2 : Int32} {σ σ0 : Mm} {r0 : Int32} (hf : f11_cover N x1 x2 σ = some (r0, σ0)) : Met l yX11_cover (WS yX11_cover cX11_cover 5 (some .int)) rm11_cover (va_Pc [.ref (G.2.2 + 160), .int x1, .int x2] (Pd G 212 tt σ)) (P_i G 212 tt r0 σ0) 0 0 (Fr G) := by
  refine ct [(0, .ref (G.2.2 + 160)), (1, .int x1), (2, .int x2)] rfl (by decide) (Nat.le_of_ble_eq_true rfl) ?_
  intro p e s m below meth c ls X hr hlk hR hl
  have X : Cx p s m _ c cX11_cover 5 RX11 G := X
  have hx := X.1
  have hb := X.2.1
  unfold f11_cover at hf
  refine lv_iload_n hx hb dX11_cover_0 rfl (lv_at hl 1 rfl) ?_
  obtain ⟨r_1, σ_2, hc_3, hf⟩ := z_b_e hf
  refine go_i hR (ms_run (As := [.int x1]) (rest := []) X hR ms_11_439 (c11_isLong l G N hc_3) ⟨rfl, rfl, Nat.le_of_ble_eq_true rfl, Nat.le_of_ble_eq_true rfl⟩ rfl hl.1 rfl (Nat.le_of_ble_eq_true rfl) dX11_cover_1 ⟨Nat.zero_le _, Nat.zero_le _⟩) (fun H locs hR => ?_)
  refine lv_if_eq (tgt := 16) hx hb dX11_cover_4 (by decide) (fun c_4 => ?_) (fun c_4 => ?_)
  · replace hf := z_t c_4 hf
    refine lv_iconst (v := (-1 : Int32)) hx hb dX11_cover_16 (by decide) ?_
    exact e_i X hR hr hlk hf dX11_cover_17
  · replace hf := z_f c_4 hf
    refine lv_iload_n hx hb dX11_cover_7 rfl (lv_at hl 2 rfl) ?_
    refine lv_iconst (v := (-1 : Int32)) hx hb dX11_cover_8 (by decide) ?_
    refine lv_iconst (v := (3 : Int32)) hx hb dX11_cover_9 (by decide) ?_
    obtain ⟨r_5, σ_6, hc_7, hf⟩ := z_b_e hf
    refine go_i hR (ms_run (As := [.int x2, .int (-1 : Int32), .int (3 : Int32)]) (rest := []) X hR ms_11_340 (c11_in l G N hc_7) ⟨rfl, rfl, Nat.le_of_ble_eq_true rfl, Nat.le_of_ble_eq_true rfl⟩ rfl hl.1 rfl (Nat.le_of_ble_eq_true rfl) dX11_cover_10 ⟨Nat.zero_le _, Nat.zero_le _⟩) (fun H locs hR => ?_)
    refine lv_if_ne (tgt := 18) hx hb dX11_cover_13 (by decide) (fun c_8 => ?_) (fun c_8 => ?_)
    · replace hf := z_f c_8 hf
      refine lv_aload_n hx hb dX11_cover_18 rfl (lv_at hl 0 rfl) ?_
      obtain ⟨r_9, σ_10, hc_11, hf⟩ := z_b_e hf
      refine go_v hR (mv_run (As := []) (rest := []) X hR mv_11_400 kh_160 (kd_lt kh_160 (by decide)) (c11_copies l G N hc_11) ⟨rfl, rfl, Nat.le_of_ble_eq_true rfl, Nat.le_of_ble_eq_true rfl⟩ rfl hl.1 rfl (Nat.le_of_ble_eq_true rfl) dX11_cover_19 ⟨Nat.zero_le _, Nat.zero_le _⟩) (fun H locs hR => ?_)
      refine lv_iconst (v := (-1 : Int32)) hx hb dX11_cover_22 (by decide) ?_
      refine lv_istore_n (lv' := [(3, .int (-1 : Int32)), (0, .ref (G.2.2 + 160)), (1, .int x1), (2, .int x2)]) hx hb dX11_cover_23 rfl hl (by decide) rfl (fun ls hl => ?_)
      refine lv_iconst (v := (0 : Int32)) hx hb dX11_cover_24 (by decide) ?_
      refine lv_istore (lv' := [(4, .int (0 : Int32)), (3, .int (-1 : Int32)), (0, .ref (G.2.2 + 160)), (1, .int x1), (2, .int x2)]) hx hb dX11_cover_25 hl (by decide) rfl (fun ls hl => ?_)
      exact w11_cover_27 X hr hlk N  N (-1 : Int32) (0 : Int32) σ_10 _ _ _ hf hR (lv_sub hl [2, 3, 4, 1, 0] rfl)
    · replace hf := z_t c_8 hf
      refine lv_iconst (v := (-1 : Int32)) hx hb dX11_cover_16 (by decide) ?_
      exact e_i X hR hr hlk hf dX11_cover_17
abbrev rm11_walk : Room := { frames := 3, cells := 0, slots := 0, locals := 76 }
def f11_walk (N : Nat) (x1 : Int32) (x2 : Int32) (σ : Mm) : Option (Int32 × Mm) :=
  z_b (f11_isPlot N x1 σ) fun r_1 σ_2 =>
  if r_1 = 0 then (
  some ((-1 : Int32), σ_2)) else (
  z_b (f11_isPlot N x2 σ_2) fun r_5 σ_6 =>
  if r_5 = 0 then (
  some ((-1 : Int32), σ_6)) else (
  z_b (f11_copies N σ_6) fun _ σ_10 =>
  z_b (f11_walksTo N x1 x2 σ_10) fun r_12 σ_13 =>
  some (r_12, σ_13)))
set_option maxHeartbeats 4000000 in
set_option maxRecDepth 100000 in
theorem c11_walk (l : Launch) (G : Gp) (N : Nat) {x1 : Int32} {x2 : Int32} {σ σ0 : Mm} {r0 : Int32} (hf : f11_walk N x1 x2 σ = some (r0, σ0)) : Met l yX11_walk (WS yX11_walk cX11_walk 3 (some .int)) rm11_walk (va_Pc [.ref (G.2.2 + 160), .int x1, .int x2] (Pd G 212 tt σ)) (P_i G 212 tt r0 σ0) 0 0 (Fr G) := by
  refine ct [(0, .ref (G.2.2 + 160)), (1, .int x1), (2, .int x2)] rfl (by decide) (Nat.le_of_ble_eq_true rfl) ?_
  intro p e s m below meth c ls X hr hlk hR hl
  have X : Cx p s m _ c cX11_walk 3 RX11 G := X
  have hx := X.1
  have hb := X.2.1
  unfold f11_walk at hf
  refine lv_aload_n hx hb dX11_walk_0 rfl (lv_at hl 0 rfl) ?_
  refine lv_iload_n hx hb dX11_walk_1 rfl (lv_at hl 1 rfl) ?_
  obtain ⟨r_1, σ_2, hc_3, hf⟩ := z_b_e hf
  refine go_i hR (mv_run (As := [.int x1]) (rest := []) X hR mv_11_397 kh_160 (kd_lt kh_160 (by decide)) (c11_isPlot l G N hc_3) ⟨rfl, rfl, Nat.le_of_ble_eq_true rfl, Nat.le_of_ble_eq_true rfl⟩ rfl hl.1 rfl (Nat.le_of_ble_eq_true rfl) dX11_walk_2 ⟨Nat.zero_le _, Nat.zero_le _⟩) (fun H locs hR => ?_)
  refine lv_if_eq (tgt := 16) hx hb dX11_walk_5 (by decide) (fun c_4 => ?_) (fun c_4 => ?_)
  · replace hf := z_t c_4 hf
    refine lv_iconst (v := (-1 : Int32)) hx hb dX11_walk_16 (by decide) ?_
    exact e_i X hR hr hlk hf dX11_walk_17
  · replace hf := z_f c_4 hf
    refine lv_aload_n hx hb dX11_walk_8 rfl (lv_at hl 0 rfl) ?_
    refine lv_iload_n hx hb dX11_walk_9 rfl (lv_at hl 2 rfl) ?_
    obtain ⟨r_5, σ_6, hc_7, hf⟩ := z_b_e hf
    refine go_i hR (mv_run (As := [.int x2]) (rest := []) X hR mv_11_397 kh_160 (kd_lt kh_160 (by decide)) (c11_isPlot l G N hc_7) ⟨rfl, rfl, Nat.le_of_ble_eq_true rfl, Nat.le_of_ble_eq_true rfl⟩ rfl hl.1 rfl (Nat.le_of_ble_eq_true rfl) dX11_walk_10 ⟨Nat.zero_le _, Nat.zero_le _⟩) (fun H locs hR => ?_)
    refine lv_if_ne (tgt := 18) hx hb dX11_walk_13 (by decide) (fun c_8 => ?_) (fun c_8 => ?_)
    · replace hf := z_f c_8 hf
      refine lv_aload_n hx hb dX11_walk_18 rfl (lv_at hl 0 rfl) ?_
      obtain ⟨r_9, σ_10, hc_11, hf⟩ := z_b_e hf
      refine go_v hR (mv_run (As := []) (rest := []) X hR mv_11_400 kh_160 (kd_lt kh_160 (by decide)) (c11_copies l G N hc_11) ⟨rfl, rfl, Nat.le_of_ble_eq_true rfl, Nat.le_of_ble_eq_true rfl⟩ rfl hl.1 rfl (Nat.le_of_ble_eq_true rfl) dX11_walk_19 ⟨Nat.zero_le _, Nat.zero_le _⟩) (fun H locs hR => ?_)
      refine lv_aload_n hx hb dX11_walk_22 rfl (lv_at hl 0 rfl) ?_
      refine lv_iload_n hx hb dX11_walk_23 rfl (lv_at hl 1 rfl) ?_
      refine lv_iload_n hx hb dX11_walk_24 rfl (lv_at hl 2 rfl) ?_
      obtain ⟨r_12, σ_13, hc_14, hf⟩ := z_b_e hf
      refine go_i hR (mv_run (As := [.int x1, .int x2]) (rest := []) X hR mv_11_448 kh_160 (kd_lt kh_160 (by decide)) (c11_walksTo l G N hc_14) ⟨rfl, rfl, Nat.le_of_ble_eq_true rfl, Nat.le_of_ble_eq_true rfl⟩ rfl hl.1 rfl (Nat.le_of_ble_eq_true rfl) dX11_walk_25 ⟨Nat.zero_le _, Nat.zero_le _⟩) (fun H locs hR => ?_)
      exact e_i X hR hr hlk hf dX11_walk_28
    · replace hf := z_t c_8 hf
      refine lv_iconst (v := (-1 : Int32)) hx hb dX11_walk_16 (by decide) ?_
      exact e_i X hR hr hlk hf dX11_walk_17
abbrev rm11_asks : Room := { frames := 3, cells := 0, slots := 0, locals := 74 }
def f11_asks (N : Nat) (x1 : Int32) (σ : Mm) : Option (Int32 × Mm) :=
  z_b (f11_isPlot N x1 σ) fun r_1 σ_2 =>
  if r_1 = 0 then (
  some ((-1 : Int32), σ_2)) else (
  z_b (f11_copies N σ_2) fun _ σ_6 =>
  z_b (f11_asksAt N x1 σ_6) fun r_8 σ_9 =>
  some (r_8, σ_9))
set_option maxHeartbeats 4000000 in
set_option maxRecDepth 100000 in
theorem c11_asks (l : Launch) (G : Gp) (N : Nat) {x1 : Int32} {σ σ0 : Mm} {r0 : Int32} (hf : f11_asks N x1 σ = some (r0, σ0)) : Met l yX11_asks (WS yX11_asks cX11_asks 2 (some .int)) rm11_asks (va_Pc [.ref (G.2.2 + 160), .int x1] (Pd G 212 tt σ)) (P_i G 212 tt r0 σ0) 0 0 (Fr G) := by
  refine ct [(0, .ref (G.2.2 + 160)), (1, .int x1)] rfl (by decide) (Nat.le_of_ble_eq_true rfl) ?_
  intro p e s m below meth c ls X hr hlk hR hl
  have X : Cx p s m _ c cX11_asks 2 RX11 G := X
  have hx := X.1
  have hb := X.2.1
  unfold f11_asks at hf
  refine lv_aload_n hx hb dX11_asks_0 rfl (lv_at hl 0 rfl) ?_
  refine lv_iload_n hx hb dX11_asks_1 rfl (lv_at hl 1 rfl) ?_
  obtain ⟨r_1, σ_2, hc_3, hf⟩ := z_b_e hf
  refine go_i hR (mv_run (As := [.int x1]) (rest := []) X hR mv_11_397 kh_160 (kd_lt kh_160 (by decide)) (c11_isPlot l G N hc_3) ⟨rfl, rfl, Nat.le_of_ble_eq_true rfl, Nat.le_of_ble_eq_true rfl⟩ rfl hl.1 rfl (Nat.le_of_ble_eq_true rfl) dX11_asks_2 ⟨Nat.zero_le _, Nat.zero_le _⟩) (fun H locs hR => ?_)
  refine lv_if_ne (tgt := 10) hx hb dX11_asks_5 (by decide) (fun c_4 => ?_) (fun c_4 => ?_)
  · replace hf := z_f c_4 hf
    refine lv_aload_n hx hb dX11_asks_10 rfl (lv_at hl 0 rfl) ?_
    obtain ⟨r_5, σ_6, hc_7, hf⟩ := z_b_e hf
    refine go_v hR (mv_run (As := []) (rest := []) X hR mv_11_400 kh_160 (kd_lt kh_160 (by decide)) (c11_copies l G N hc_7) ⟨rfl, rfl, Nat.le_of_ble_eq_true rfl, Nat.le_of_ble_eq_true rfl⟩ rfl hl.1 rfl (Nat.le_of_ble_eq_true rfl) dX11_asks_11 ⟨Nat.zero_le _, Nat.zero_le _⟩) (fun H locs hR => ?_)
    refine lv_aload_n hx hb dX11_asks_14 rfl (lv_at hl 0 rfl) ?_
    refine lv_iload_n hx hb dX11_asks_15 rfl (lv_at hl 1 rfl) ?_
    obtain ⟨r_8, σ_9, hc_10, hf⟩ := z_b_e hf
    refine go_i hR (mv_run (As := [.int x1]) (rest := []) X hR mv_11_451 kh_160 (kd_lt kh_160 (by decide)) (c11_asksAt l G N hc_10) ⟨rfl, rfl, Nat.le_of_ble_eq_true rfl, Nat.le_of_ble_eq_true rfl⟩ rfl hl.1 rfl (Nat.le_of_ble_eq_true rfl) dX11_asks_16 ⟨Nat.zero_le _, Nat.zero_le _⟩) (fun H locs hR => ?_)
    exact e_i X hR hr hlk hf dX11_asks_19
  · replace hf := z_t c_4 hf
    refine lv_iconst (v := (-1 : Int32)) hx hb dX11_asks_8 (by decide) ?_
    exact e_i X hR hr hlk hf dX11_asks_9
abbrev rm11_fillsWalks : Room := { frames := 3, cells := 0, slots := 0, locals := 76 }
def f11_fillsWalks_68 (N : Nat) (k6 : Int32 → Mm → Option (Unit × Mm)) (x1 : Int32) (σ : Mm) : Option (Unit × Mm) :=
  z_l (x1 + (1 : Int32)) fun x1_13 =>
  k6 x1_13 σ
def f11_fillsWalks_32 (N : Nat) (k6 : Int32 → Mm → Option (Unit × Mm)) (x1 : Int32) : Nat → Int32 → Mm → Option (Unit × Mm)
  | 0, _, _ => none
  | fu + 1, x2, σ => z_c (inB (gI σ 160 18) 2) (
  if (gI σ 171 (ix (gI σ 160 18))) ≤ x2 then (
  f11_fillsWalks_68 N k6 x1 σ) else (
  z_b (f11_walksTo N x1 x2 σ) fun r_14 σ_15 =>
  z_c (inB (((7 : Int32) * x1) + x2) 49) (z_l (sI σ_15 206 (ix (((7 : Int32) * x1) + x2)) r_14) fun σ_18 =>
  z_l (x2 + (1 : Int32)) fun x2_19 =>
  f11_fillsWalks_32 N k6 x1 fu x2_19 σ_18)))
def f11_fillsWalks_6 (N : Nat) : Nat → Int32 → Mm → Option (Unit × Mm)
  | 0, _, _ => none
  | fu + 1, x1, σ => z_c (inB (gI σ 160 18) 2) (
  if (gI σ 171 (ix (gI σ 160 18))) ≤ x1 then (
  some ((), σ)) else (
  z_b (f11_asksAt N x1 σ) fun r_6 σ_7 =>
  z_c (inB x1 7) (z_l (sI σ_7 207 (ix x1) r_6) fun σ_10 =>
  f11_fillsWalks_32 N (fun x1 σ => f11_fillsWalks_6 N fu x1 σ) x1 N (0 : Int32) σ_10)))
def f11_fillsWalks (N : Nat) (σ : Mm) : Option (Unit × Mm) :=
  z_b (f11_copies N σ) fun _ σ_2 =>
  f11_fillsWalks_6 N N (0 : Int32) σ_2
set_option maxHeartbeats 4000000 in
set_option maxRecDepth 100000 in
theorem w11_fillsWalks_68 (X : Cx p s m args c cX11_fillsWalks 3 RX11 G) (hr : meth.sig.returnType = none) (hlk : meth.locks = false) (N : Nat) {k6 : Int32 → Mm → Option (Unit × Mm)} (hk6 : ∀ (x1 : Int32) (σ : Mm) (H : Heap) (locs : List Loc) (ls : Array Slot), k6 x1 σ = some (u0, σ0) → Rp G 212 tt σ s H locs → lv_has ls 3 [(0, .ref (G.2.2 + 160)), (1, .int x1)] → W p l e rm11_fillsWalks s m args below meth c H locs 0 0 (MQ below (P_v G 212 tt u0 σ0) args s 0 0 (Fr G)) (F0 m 6 ls [])) :
    ∀ (x1 : Int32) (σ : Mm) (H : Heap) (locs : List Loc) (ls : Array Slot), f11_fillsWalks_68 N k6 x1 σ = some (u0, σ0) → Rp G 212 tt σ s H locs → lv_has ls 3 [(0, .ref (G.2.2 + 160)), (1, .int x1)] → W p l e rm11_fillsWalks s m args below meth c H locs 0 0 (MQ below (P_v G 212 tt u0 σ0) args s 0 0 (Fr G)) (F0 m 68 ls []) := by
  have hx := X.1
  have hb := X.2.1
  intro x1 σ H locs ls hf hR hl
  unfold f11_fillsWalks_68 at hf
  obtain ⟨x1_13, ex1_13⟩ : ∃ z : Int32, z = x1 + (1 : Int32) := ⟨_, rfl⟩
  replace hf := z_l_e ex1_13 hf
  refine lv_iinc (v := x1_13) (lv' := [(1, .int x1_13), (0, .ref (G.2.2 + 160))]) hx hb dX11_fillsWalks_68 hl (k := 1) rfl (by rw [ex1_13]; rfl) (by decide) rfl (fun ls hl => ?_)
  refine lv_goto (tgt := 6) hx hb dX11_fillsWalks_71 (by decide) ?_
  exact hk6 x1_13 σ _ _ _ hf hR (lv_sub hl [1, 0] rfl)
set_option maxHeartbeats 4000000 in
set_option maxRecDepth 100000 in
theorem w11_fillsWalks_32 (X : Cx p s m args c cX11_fillsWalks 3 RX11 G) (hr : meth.sig.returnType = none) (hlk : meth.locks = false) (N : Nat) {x1 : Int32} {k6 : Int32 → Mm → Option (Unit × Mm)} (hk6 : ∀ (x1 : Int32) (σ : Mm) (H : Heap) (locs : List Loc) (ls : Array Slot), k6 x1 σ = some (u0, σ0) → Rp G 212 tt σ s H locs → lv_has ls 3 [(0, .ref (G.2.2 + 160)), (1, .int x1)] → W p l e rm11_fillsWalks s m args below meth c H locs 0 0 (MQ below (P_v G 212 tt u0 σ0) args s 0 0 (Fr G)) (F0 m 6 ls [])) :
    ∀ (fu : Nat) (x2 : Int32) (σ : Mm) (H : Heap) (locs : List Loc) (ls : Array Slot), f11_fillsWalks_32 N k6 x1 fu x2 σ = some (u0, σ0) → Rp G 212 tt σ s H locs → lv_has ls 3 [(0, .ref (G.2.2 + 160)), (1, .int x1), (2, .int x2)] → W p l e rm11_fillsWalks s m args below meth c H locs 0 0 (MQ below (P_v G 212 tt u0 σ0) args s 0 0 (Fr G)) (F0 m 32 ls []) := by
  have hx := X.1
  have hb := X.2.1
  intro fu
  induction fu with
  | zero =>
    intro x2 σ H locs ls hf hR hl
    rw [f11_fillsWalks_32] at hf
    cases hf
  | succ fu ih =>
    intro x2 σ H locs ls hf hR hl
    rw [f11_fillsWalks_32] at hf
    refine lv_iload_n hx hb dX11_fillsWalks_32 rfl (lv_at hl 2 rfl) ?_
    refine lv_aload_n hx hb dX11_fillsWalks_33 rfl (lv_at hl 0 rfl) ?_
    refine r_gs (t := 171) X hR fr_11_49 kh_160 (sx_11_24 kh_160) dX11_fillsWalks_34 ?_
    refine lv_aload_n hx hb dX11_fillsWalks_37 rfl (lv_at hl 0 rfl) ?_
    refine r_gi X hR fi_11_254 kh_160 dX11_fillsWalks_38 ?_
    obtain ⟨hi_11, hf⟩ := z_c_e hf
    refine r_ial X hR ka_171 hi_11 dX11_fillsWalks_41 ?_
    refine lv_icmp_ge (tgt := 68) hx hb dX11_fillsWalks_42 (by decide) (fun c_12 => ?_) (fun c_12 => ?_)
    · replace hf := z_t c_12 hf
      exact w11_fillsWalks_68 X hr hlk N hk6 x1 σ _ _ _ hf hR (lv_sub hl [0, 1] rfl)
    · replace hf := z_f c_12 hf
      refine lv_aload_n hx hb dX11_fillsWalks_45 rfl (lv_at hl 0 rfl) ?_
      refine r_gs (t := 206) X hR fr_11_155 kh_160 (sx_11_67 kh_160) dX11_fillsWalks_46 ?_
      refine lv_bipush (v := (7 : Int32)) hx hb dX11_fillsWalks_49 (by decide) ?_
      refine lv_iload_n hx hb dX11_fillsWalks_51 rfl (lv_at hl 1 rfl) ?_
      refine lv_imul hx hb dX11_fillsWalks_52 ?_
      refine lv_iload_n hx hb dX11_fillsWalks_53 rfl (lv_at hl 2 rfl) ?_
      refine lv_iadd hx hb dX11_fillsWalks_54 ?_
      refine lv_aload_n hx hb dX11_fillsWalks_55 rfl (lv_at hl 0 rfl) ?_
      refine lv_iload_n hx hb dX11_fillsWalks_56 rfl (lv_at hl 1 rfl) ?_
      refine lv_iload_n hx hb dX11_fillsWalks_57 rfl (lv_at hl 2 rfl) ?_
      obtain ⟨r_14, σ_15, hc_16, hf⟩ := z_b_e hf
      refine go_i hR (mv_run (As := [.int x1, .int x2]) (rest := [.int (((7 : Int32) * x1) + x2), .ref (G.2.2 + 206)]) X hR mv_11_448 kh_160 (kd_lt kh_160 (by decide)) (c11_walksTo l G N hc_16) ⟨rfl, rfl, Nat.le_of_ble_eq_true rfl, Nat.le_of_ble_eq_true rfl⟩ rfl hl.1 rfl (Nat.le_of_ble_eq_true rfl) dX11_fillsWalks_58 ⟨Nat.zero_le _, Nat.zero_le _⟩) (fun H locs hR => ?_)
      obtain ⟨hi_17, hf⟩ := z_c_e hf
      refine r_ias X hR ka_206 hi_17 dX11_fillsWalks_61 (fun H locs σ_18 eσ_18 hR => ?_)
      replace hf := z_l_e eσ_18 hf
      obtain ⟨x2_19, ex2_19⟩ : ∃ z : Int32, z = x2 + (1 : Int32) := ⟨_, rfl⟩
      replace hf := z_l_e ex2_19 hf
      refine lv_iinc (v := x2_19) (lv' := [(2, .int x2_19), (0, .ref (G.2.2 + 160)), (1, .int x1)]) hx hb dX11_fillsWalks_62 hl (k := 2) rfl (by rw [ex2_19]; rfl) (by decide) rfl (fun ls hl => ?_)
      refine lv_goto (tgt := 32) hx hb dX11_fillsWalks_65 (by decide) ?_
      exact ih x2_19 σ_18 _ _ _ hf hR (lv_sub hl [1, 2, 0] rfl)
set_option maxHeartbeats 4000000 in
set_option maxRecDepth 100000 in
theorem w11_fillsWalks_6 (X : Cx p s m args c cX11_fillsWalks 3 RX11 G) (hr : meth.sig.returnType = none) (hlk : meth.locks = false) (N : Nat) :
    ∀ (fu : Nat) (x1 : Int32) (σ : Mm) (H : Heap) (locs : List Loc) (ls : Array Slot), f11_fillsWalks_6 N fu x1 σ = some (u0, σ0) → Rp G 212 tt σ s H locs → lv_has ls 3 [(0, .ref (G.2.2 + 160)), (1, .int x1)] → W p l e rm11_fillsWalks s m args below meth c H locs 0 0 (MQ below (P_v G 212 tt u0 σ0) args s 0 0 (Fr G)) (F0 m 6 ls []) := by
  have hx := X.1
  have hb := X.2.1
  intro fu
  induction fu with
  | zero =>
    intro x1 σ H locs ls hf hR hl
    rw [f11_fillsWalks_6] at hf
    cases hf
  | succ fu ih =>
    intro x1 σ H locs ls hf hR hl
    rw [f11_fillsWalks_6] at hf
    refine lv_iload_n hx hb dX11_fillsWalks_6 rfl (lv_at hl 1 rfl) ?_
    refine lv_aload_n hx hb dX11_fillsWalks_7 rfl (lv_at hl 0 rfl) ?_
    refine r_gs (t := 171) X hR fr_11_49 kh_160 (sx_11_24 kh_160) dX11_fillsWalks_8 ?_
    refine lv_aload_n hx hb dX11_fillsWalks_11 rfl (lv_at hl 0 rfl) ?_
    refine r_gi X hR fi_11_254 kh_160 dX11_fillsWalks_12 ?_
    obtain ⟨hi_4, hf⟩ := z_c_e hf
    refine r_ial X hR ka_171 hi_4 dX11_fillsWalks_15 ?_
    refine lv_icmp_ge (tgt := 74) hx hb dX11_fillsWalks_16 (by decide) (fun c_5 => ?_) (fun c_5 => ?_)
    · replace hf := z_t c_5 hf
      exact e_v X hR hr hlk hf dX11_fillsWalks_74
    · replace hf := z_f c_5 hf
      refine lv_aload_n hx hb dX11_fillsWalks_19 rfl (lv_at hl 0 rfl) ?_
      refine r_gs (t := 207) X hR fr_11_158 kh_160 (sx_11_68 kh_160) dX11_fillsWalks_20 ?_
      refine lv_iload_n hx hb dX11_fillsWalks_23 rfl (lv_at hl 1 rfl) ?_
      refine lv_aload_n hx hb dX11_fillsWalks_24 rfl (lv_at hl 0 rfl) ?_
      refine lv_iload_n hx hb dX11_fillsWalks_25 rfl (lv_at hl 1 rfl) ?_
      obtain ⟨r_6, σ_7, hc_8, hf⟩ := z_b_e hf
      refine go_i hR (mv_run (As := [.int x1]) (rest := [.int x1, .ref (G.2.2 + 207)]) X hR mv_11_451 kh_160 (kd_lt kh_160 (by decide)) (c11_asksAt l G N hc_8) ⟨rfl, rfl, Nat.le_of_ble_eq_true rfl, Nat.le_of_ble_eq_true rfl⟩ rfl hl.1 rfl (Nat.le_of_ble_eq_true rfl) dX11_fillsWalks_26 ⟨Nat.zero_le _, Nat.zero_le _⟩) (fun H locs hR => ?_)
      obtain ⟨hi_9, hf⟩ := z_c_e hf
      refine r_ias X hR ka_207 hi_9 dX11_fillsWalks_29 (fun H locs σ_10 eσ_10 hR => ?_)
      replace hf := z_l_e eσ_10 hf
      refine lv_iconst (v := (0 : Int32)) hx hb dX11_fillsWalks_30 (by decide) ?_
      refine lv_istore_n (lv' := [(2, .int (0 : Int32)), (0, .ref (G.2.2 + 160)), (1, .int x1)]) hx hb dX11_fillsWalks_31 rfl hl (by decide) rfl (fun ls hl => ?_)
      exact w11_fillsWalks_32 X hr hlk N ih N (0 : Int32) σ_10 _ _ _ hf hR (lv_sub hl [1, 2, 0] rfl)
set_option maxHeartbeats 4000000 in
set_option maxRecDepth 100000 in
theorem c11_fillsWalks (l : Launch) (G : Gp) (N : Nat) {σ σ0 : Mm} {u0 : Unit} (hf : f11_fillsWalks N σ = some (u0, σ0)) : Met l yX11_fillsWalks (WS yX11_fillsWalks cX11_fillsWalks 3 (none)) rm11_fillsWalks (va_Pc [.ref (G.2.2 + 160)] (Pd G 212 tt σ)) (P_v G 212 tt u0 σ0) 0 0 (Fr G) := by
  refine ct [(0, .ref (G.2.2 + 160))] rfl (by decide) (Nat.le_of_ble_eq_true rfl) ?_
  intro p e s m below meth c ls X hr hlk hR hl
  have X : Cx p s m _ c cX11_fillsWalks 3 RX11 G := X
  have hx := X.1
  have hb := X.2.1
  unfold f11_fillsWalks at hf
  refine lv_aload_n hx hb dX11_fillsWalks_0 rfl (lv_at hl 0 rfl) ?_
  obtain ⟨r_1, σ_2, hc_3, hf⟩ := z_b_e hf
  refine go_v hR (mv_run (As := []) (rest := []) X hR mv_11_400 kh_160 (kd_lt kh_160 (by decide)) (c11_copies l G N hc_3) ⟨rfl, rfl, Nat.le_of_ble_eq_true rfl, Nat.le_of_ble_eq_true rfl⟩ rfl hl.1 rfl (Nat.le_of_ble_eq_true rfl) dX11_fillsWalks_1 ⟨Nat.zero_le _, Nat.zero_le _⟩) (fun H locs hR => ?_)
  refine lv_iconst (v := (0 : Int32)) hx hb dX11_fillsWalks_4 (by decide) ?_
  refine lv_istore_n (lv' := [(1, .int (0 : Int32)), (0, .ref (G.2.2 + 160))]) hx hb dX11_fillsWalks_5 rfl hl (by decide) rfl (fun ls hl => ?_)
  exact w11_fillsWalks_6 X hr hlk N  N (0 : Int32) σ_2 _ _ _ hf hR (lv_sub hl [1, 0] rfl)
abbrev rm11_nextOf : Room := { frames := 0, cells := 0, slots := 0, locals := 0 }
def f11_nextOf_100 (N : Nat) (k14 : Int32 → Int32 → Mm → Option (Int32 × Mm)) (x2 : Int32) (x3 : Int32) (x4 : Int32) (x5 : Int32) (σ : Mm) : Option (Int32 × Mm) :=
  z_l (x5 + (1 : Int32)) fun x5_5 =>
  k14 x4 x5_5 σ
def f11_nextOf_96 (N : Nat) (k14 : Int32 → Int32 → Mm → Option (Int32 × Mm)) (x2 : Int32) (x3 : Int32) (x5 : Int32) (σ : Mm) : Option (Int32 × Mm) :=
  f11_nextOf_100 N k14 x2 x3 x5 x5 σ
def f11_nextOf_14 (N : Nat) (x2 : Int32) (x3 : Int32) : Nat → Int32 → Int32 → Mm → Option (Int32 × Mm)
  | 0, _, _, _ => none
  | fu + 1, x4, x5, σ => z_c (inB (gI σ 160 18) 2) (
  if (gI σ 171 (ix (gI σ 160 18))) ≤ x5 then (
  some (x4, σ)) else (
  if ((x3 >>> (x5 &&& 31)) &&& (1 : Int32)) = (1 : Int32) then (
  if x4 < 0 then (
  f11_nextOf_96 N (fun x4 x5 σ => f11_nextOf_14 N x2 x3 fu x4 x5 σ) x2 x3 x5 σ) else (
  z_c (inB (((7 : Int32) * x2) + x5) 49) (
  z_c (inB (((7 : Int32) * x3) + x5) 896) (
  z_c (inB (((7 : Int32) * x2) + x4) 49) (
  z_c (inB (((7 : Int32) * x3) + x4) 896) (
  if ((gI σ 206 (ix (((7 : Int32) * x2) + x4))) + (gI σ 205 (ix (((7 : Int32) * x3) + x4)))) ≤ ((gI σ 206 (ix (((7 : Int32) * x2) + x5))) + (gI σ 205 (ix (((7 : Int32) * x3) + x5)))) then (
  f11_nextOf_100 N (fun x4 x5 σ => f11_nextOf_14 N x2 x3 fu x4 x5 σ) x2 x3 x4 x5 σ) else (
  f11_nextOf_96 N (fun x4 x5 σ => f11_nextOf_14 N x2 x3 fu x4 x5 σ) x2 x3 x5 σ))))))) else (
  f11_nextOf_100 N (fun x4 x5 σ => f11_nextOf_14 N x2 x3 fu x4 x5 σ) x2 x3 x4 x5 σ)))
def f11_nextOf (N : Nat) (x1 : Int32) (x2 : Int32) (σ : Mm) : Option (Int32 × Mm) :=
  z_l ((x1 &&& (((1 : Int32) <<< (x2 &&& 31)) ^^^ (-1 : Int32)))) fun x3_1 =>
  f11_nextOf_14 N x2 x3_1 N (-1 : Int32) (0 : Int32) σ
set_option maxHeartbeats 4000000 in
set_option maxRecDepth 100000 in
theorem w11_nextOf_100 (X : Cx p s m args c cX11_nextOf 6 RX11 G) (hr : meth.sig.returnType = some .int) (hlk : meth.locks = false) (N : Nat) {x2 : Int32} {x3 : Int32} {k14 : Int32 → Int32 → Mm → Option (Int32 × Mm)} (hk14 : ∀ (x4 : Int32) (x5 : Int32) (σ : Mm) (H : Heap) (locs : List Loc) (ls : Array Slot), k14 x4 x5 σ = some (r0, σ0) → Rp G 212 tt σ s H locs → lv_has ls 6 [(0, .ref (G.2.2 + 160)), (2, .int x2), (3, .int x3), (4, .int x4), (5, .int x5)] → W p l e rm11_nextOf s m args below meth c H locs 0 0 (MQ below (P_i G 212 tt r0 σ0) args s 0 0 (Fr G)) (F0 m 14 ls [])) :
    ∀ (x4 : Int32) (x5 : Int32) (σ : Mm) (H : Heap) (locs : List Loc) (ls : Array Slot), f11_nextOf_100 N k14 x2 x3 x4 x5 σ = some (r0, σ0) → Rp G 212 tt σ s H locs → lv_has ls 6 [(0, .ref (G.2.2 + 160)), (2, .int x2), (3, .int x3), (4, .int x4), (5, .int x5)] → W p l e rm11_nextOf s m args below meth c H locs 0 0 (MQ below (P_i G 212 tt r0 σ0) args s 0 0 (Fr G)) (F0 m 100 ls []) := by
  have hx := X.1
  have hb := X.2.1
  intro x4 x5 σ H locs ls hf hR hl
  unfold f11_nextOf_100 at hf
  obtain ⟨x5_5, ex5_5⟩ : ∃ z : Int32, z = x5 + (1 : Int32) := ⟨_, rfl⟩
  replace hf := z_l_e ex5_5 hf
  refine lv_iinc (v := x5_5) (lv' := [(5, .int x5_5), (0, .ref (G.2.2 + 160)), (2, .int x2), (3, .int x3), (4, .int x4)]) hx hb dX11_nextOf_100 hl (k := 4) rfl (by rw [ex5_5]; rfl) (by decide) rfl (fun ls hl => ?_)
  refine lv_goto (tgt := 14) hx hb dX11_nextOf_103 (by decide) ?_
  exact hk14 x4 x5_5 σ _ _ _ hf hR (lv_sub hl [1, 2, 3, 4, 0] rfl)
set_option maxHeartbeats 4000000 in
set_option maxRecDepth 100000 in
theorem w11_nextOf_96 (X : Cx p s m args c cX11_nextOf 6 RX11 G) (hr : meth.sig.returnType = some .int) (hlk : meth.locks = false) (N : Nat) {x2 : Int32} {x3 : Int32} {k14 : Int32 → Int32 → Mm → Option (Int32 × Mm)} (hk14 : ∀ (x4 : Int32) (x5 : Int32) (σ : Mm) (H : Heap) (locs : List Loc) (ls : Array Slot), k14 x4 x5 σ = some (r0, σ0) → Rp G 212 tt σ s H locs → lv_has ls 6 [(0, .ref (G.2.2 + 160)), (2, .int x2), (3, .int x3), (4, .int x4), (5, .int x5)] → W p l e rm11_nextOf s m args below meth c H locs 0 0 (MQ below (P_i G 212 tt r0 σ0) args s 0 0 (Fr G)) (F0 m 14 ls [])) :
    ∀ (x5 : Int32) (σ : Mm) (H : Heap) (locs : List Loc) (ls : Array Slot), f11_nextOf_96 N k14 x2 x3 x5 σ = some (r0, σ0) → Rp G 212 tt σ s H locs → lv_has ls 6 [(0, .ref (G.2.2 + 160)), (2, .int x2), (3, .int x3), (5, .int x5)] → W p l e rm11_nextOf s m args below meth c H locs 0 0 (MQ below (P_i G 212 tt r0 σ0) args s 0 0 (Fr G)) (F0 m 96 ls []) := by
  have hx := X.1
  have hb := X.2.1
  intro x5 σ H locs ls hf hR hl
  unfold f11_nextOf_96 at hf
  refine lv_iload hx hb dX11_nextOf_96 (lv_at hl 3 rfl) ?_
  refine lv_istore (lv' := [(4, .int x5), (0, .ref (G.2.2 + 160)), (2, .int x2), (3, .int x3), (5, .int x5)]) hx hb dX11_nextOf_98 hl (by decide) rfl (fun ls hl => ?_)
  exact w11_nextOf_100 X hr hlk N hk14 x5 x5 σ _ _ _ hf hR (lv_sub hl [1, 2, 3, 0, 4] rfl)
set_option maxHeartbeats 4000000 in
set_option maxRecDepth 100000 in
theorem w11_nextOf_14 (X : Cx p s m args c cX11_nextOf 6 RX11 G) (hr : meth.sig.returnType = some .int) (hlk : meth.locks = false) (N : Nat) {x2 : Int32} {x3 : Int32} :
    ∀ (fu : Nat) (x4 : Int32) (x5 : Int32) (σ : Mm) (H : Heap) (locs : List Loc) (ls : Array Slot), f11_nextOf_14 N x2 x3 fu x4 x5 σ = some (r0, σ0) → Rp G 212 tt σ s H locs → lv_has ls 6 [(0, .ref (G.2.2 + 160)), (2, .int x2), (3, .int x3), (4, .int x4), (5, .int x5)] → W p l e rm11_nextOf s m args below meth c H locs 0 0 (MQ below (P_i G 212 tt r0 σ0) args s 0 0 (Fr G)) (F0 m 14 ls []) := by
  have hx := X.1
  have hb := X.2.1
  intro fu
  induction fu with
  | zero =>
    intro x4 x5 σ H locs ls hf hR hl
    rw [f11_nextOf_14] at hf
    cases hf
  | succ fu ih =>
    intro x4 x5 σ H locs ls hf hR hl
    rw [f11_nextOf_14] at hf
    refine lv_iload hx hb dX11_nextOf_14 (lv_at hl 4 rfl) ?_
    refine lv_aload_n hx hb dX11_nextOf_16 rfl (lv_at hl 0 rfl) ?_
    refine r_gs (t := 171) X hR fr_11_49 kh_160 (sx_11_24 kh_160) dX11_nextOf_17 ?_
    refine lv_aload_n hx hb dX11_nextOf_20 rfl (lv_at hl 0 rfl) ?_
    refine r_gi X hR fi_11_254 kh_160 dX11_nextOf_21 ?_
    obtain ⟨hi_2, hf⟩ := z_c_e hf
    refine r_ial X hR ka_171 hi_2 dX11_nextOf_24 ?_
    refine lv_icmp_ge (tgt := 106) hx hb dX11_nextOf_25 (by decide) (fun c_3 => ?_) (fun c_3 => ?_)
    · replace hf := z_t c_3 hf
      refine lv_iload hx hb dX11_nextOf_106 (lv_at hl 3 rfl) ?_
      exact e_i X hR hr hlk hf dX11_nextOf_108
    · replace hf := z_f c_3 hf
      refine lv_iload_n hx hb dX11_nextOf_28 rfl (lv_at hl 2 rfl) ?_
      refine lv_iload hx hb dX11_nextOf_29 (lv_at hl 4 rfl) ?_
      refine lv_ishr hx hb dX11_nextOf_31 ?_
      refine lv_iconst (v := (1 : Int32)) hx hb dX11_nextOf_32 (by decide) ?_
      refine lv_iand hx hb dX11_nextOf_33 ?_
      refine lv_iconst (v := (1 : Int32)) hx hb dX11_nextOf_34 (by decide) ?_
      refine lv_icmp_ne (tgt := 100) hx hb dX11_nextOf_35 (by decide) (fun c_4 => ?_) (fun c_4 => ?_)
      · replace hf := z_f c_4 hf
        exact w11_nextOf_100 X hr hlk N ih x4 x5 σ _ _ _ hf hR (lv_sub hl [0, 1, 2, 3, 4] rfl)
      · replace hf := z_t c_4 hf
        refine lv_iload hx hb dX11_nextOf_38 (lv_at hl 3 rfl) ?_
        refine lv_if_lt (tgt := 96) hx hb dX11_nextOf_40 (by decide) (fun c_6 => ?_) (fun c_6 => ?_)
        · replace hf := z_t c_6 hf
          exact w11_nextOf_96 X hr hlk N ih x5 σ _ _ _ hf hR (lv_sub hl [0, 1, 2, 4] rfl)
        · replace hf := z_f c_6 hf
          refine lv_aload_n hx hb dX11_nextOf_43 rfl (lv_at hl 0 rfl) ?_
          refine r_gs (t := 206) X hR fr_11_155 kh_160 (sx_11_67 kh_160) dX11_nextOf_44 ?_
          refine lv_bipush (v := (7 : Int32)) hx hb dX11_nextOf_47 (by decide) ?_
          refine lv_iload_n hx hb dX11_nextOf_49 rfl (lv_at hl 1 rfl) ?_
          refine lv_imul hx hb dX11_nextOf_50 ?_
          refine lv_iload hx hb dX11_nextOf_51 (lv_at hl 4 rfl) ?_
          refine lv_iadd hx hb dX11_nextOf_53 ?_
          obtain ⟨hi_7, hf⟩ := z_c_e hf
          refine r_ial X hR ka_206 hi_7 dX11_nextOf_54 ?_
          refine lv_aload_n hx hb dX11_nextOf_55 rfl (lv_at hl 0 rfl) ?_
          refine r_gs (t := 205) X hR fr_11_152 kh_160 (sx_11_66 kh_160) dX11_nextOf_56 ?_
          refine lv_bipush (v := (7 : Int32)) hx hb dX11_nextOf_59 (by decide) ?_
          refine lv_iload_n hx hb dX11_nextOf_61 rfl (lv_at hl 2 rfl) ?_
          refine lv_imul hx hb dX11_nextOf_62 ?_
          refine lv_iload hx hb dX11_nextOf_63 (lv_at hl 4 rfl) ?_
          refine lv_iadd hx hb dX11_nextOf_65 ?_
          obtain ⟨hi_8, hf⟩ := z_c_e hf
          refine r_ial X hR ka_205 hi_8 dX11_nextOf_66 ?_
          refine lv_iadd hx hb dX11_nextOf_67 ?_
          refine lv_aload_n hx hb dX11_nextOf_68 rfl (lv_at hl 0 rfl) ?_
          refine r_gs (t := 206) X hR fr_11_155 kh_160 (sx_11_67 kh_160) dX11_nextOf_69 ?_
          refine lv_bipush (v := (7 : Int32)) hx hb dX11_nextOf_72 (by decide) ?_
          refine lv_iload_n hx hb dX11_nextOf_74 rfl (lv_at hl 1 rfl) ?_
          refine lv_imul hx hb dX11_nextOf_75 ?_
          refine lv_iload hx hb dX11_nextOf_76 (lv_at hl 3 rfl) ?_
          refine lv_iadd hx hb dX11_nextOf_78 ?_
          obtain ⟨hi_9, hf⟩ := z_c_e hf
          refine r_ial X hR ka_206 hi_9 dX11_nextOf_79 ?_
          refine lv_aload_n hx hb dX11_nextOf_80 rfl (lv_at hl 0 rfl) ?_
          refine r_gs (t := 205) X hR fr_11_152 kh_160 (sx_11_66 kh_160) dX11_nextOf_81 ?_
          refine lv_bipush (v := (7 : Int32)) hx hb dX11_nextOf_84 (by decide) ?_
          refine lv_iload_n hx hb dX11_nextOf_86 rfl (lv_at hl 2 rfl) ?_
          refine lv_imul hx hb dX11_nextOf_87 ?_
          refine lv_iload hx hb dX11_nextOf_88 (lv_at hl 3 rfl) ?_
          refine lv_iadd hx hb dX11_nextOf_90 ?_
          obtain ⟨hi_10, hf⟩ := z_c_e hf
          refine r_ial X hR ka_205 hi_10 dX11_nextOf_91 ?_
          refine lv_iadd hx hb dX11_nextOf_92 ?_
          refine lv_icmp_ge (tgt := 100) hx hb dX11_nextOf_93 (by decide) (fun c_11 => ?_) (fun c_11 => ?_)
          · replace hf := z_t c_11 hf
            exact w11_nextOf_100 X hr hlk N ih x4 x5 σ _ _ _ hf hR (lv_sub hl [0, 1, 2, 3, 4] rfl)
          · replace hf := z_f c_11 hf
            exact w11_nextOf_96 X hr hlk N ih x5 σ _ _ _ hf hR (lv_sub hl [0, 1, 2, 4] rfl)
set_option maxHeartbeats 4000000 in
set_option maxRecDepth 100000 in
theorem c11_nextOf (l : Launch) (G : Gp) (N : Nat) {x1 : Int32} {x2 : Int32} {σ σ0 : Mm} {r0 : Int32} (hf : f11_nextOf N x1 x2 σ = some (r0, σ0)) : Met l yX11_nextOf (WS yX11_nextOf cX11_nextOf 6 (some .int)) rm11_nextOf (va_Pc [.ref (G.2.2 + 160), .int x1, .int x2] (Pd G 212 tt σ)) (P_i G 212 tt r0 σ0) 0 0 (Fr G) := by
  refine ct [(0, .ref (G.2.2 + 160)), (1, .int x1), (2, .int x2)] rfl (by decide) (Nat.le_of_ble_eq_true rfl) ?_
  intro p e s m below meth c ls X hr hlk hR hl
  have X : Cx p s m _ c cX11_nextOf 6 RX11 G := X
  have hx := X.1
  have hb := X.2.1
  unfold f11_nextOf at hf
  refine lv_iload_n hx hb dX11_nextOf_0 rfl (lv_at hl 1 rfl) ?_
  refine lv_iconst (v := (1 : Int32)) hx hb dX11_nextOf_1 (by decide) ?_
  refine lv_iload_n hx hb dX11_nextOf_2 rfl (lv_at hl 2 rfl) ?_
  refine lv_ishl hx hb dX11_nextOf_3 ?_
  refine lv_iconst (v := (-1 : Int32)) hx hb dX11_nextOf_4 (by decide) ?_
  refine lv_ixor hx hb dX11_nextOf_5 ?_
  refine lv_iand hx hb dX11_nextOf_6 ?_
  refine lv_topi (fun x3_1 ex3_1 => ?_)
  replace hf := z_l_e ex3_1 hf
  refine lv_istore_n (lv' := [(3, .int x3_1), (0, .ref (G.2.2 + 160)), (1, .int x1), (2, .int x2)]) hx hb dX11_nextOf_7 rfl hl (by decide) rfl (fun ls hl => ?_)
  refine lv_iconst (v := (-1 : Int32)) hx hb dX11_nextOf_8 (by decide) ?_
  refine lv_istore (lv' := [(4, .int (-1 : Int32)), (3, .int x3_1), (0, .ref (G.2.2 + 160)), (1, .int x1), (2, .int x2)]) hx hb dX11_nextOf_9 hl (by decide) rfl (fun ls hl => ?_)
  refine lv_iconst (v := (0 : Int32)) hx hb dX11_nextOf_11 (by decide) ?_
  refine lv_istore (lv' := [(5, .int (0 : Int32)), (4, .int (-1 : Int32)), (3, .int x3_1), (0, .ref (G.2.2 + 160)), (1, .int x1), (2, .int x2)]) hx hb dX11_nextOf_12 hl (by decide) rfl (fun ls hl => ?_)
  exact w11_nextOf_14 X hr hlk N  N (-1 : Int32) (0 : Int32) σ _ _ _ hf hR (lv_sub hl [3, 5, 2, 1, 0] rfl)
abbrev rm11_fillsTakes : Room := { frames := 4, cells := 0, slots := 0, locals := 98 }
def f11_fillsTakes_129 (N : Nat) (k6 : Int32 → Mm → Option (Unit × Mm)) (x1 : Int32) (σ : Mm) : Option (Unit × Mm) :=
  z_l (x1 + (1 : Int32)) fun x1_8 =>
  k6 x1_8 σ
def f11_fillsTakes_123 (N : Nat) (k6 : Int32 → Mm → Option (Unit × Mm)) (k23 : Int32 → Mm → Option (Unit × Mm)) (x1 : Int32) (x2 : Int32) (σ : Mm) : Option (Unit × Mm) :=
  z_l (x2 + (1 : Int32)) fun x2_21 =>
  k23 x2_21 σ
def f11_fillsTakes_121 (N : Nat) (k6 : Int32 → Mm → Option (Unit × Mm)) (k23 : Int32 → Mm → Option (Unit × Mm)) (x1 : Int32) (x2 : Int32) (s1 : Int32) (s2 : Int32) (s3 : Int32) (σ : Mm) : Option (Unit × Mm) :=
  z_c (inB s1 896) (z_l (sI σ 205 (ix s1) (s2 + s3)) fun σ_20 =>
  f11_fillsTakes_123 N k6 k23 x1 x2 σ_20)
def f11_fillsTakes_23 (N : Nat) (k6 : Int32 → Mm → Option (Unit × Mm)) (x1 : Int32) : Nat → Int32 → Mm → Option (Unit × Mm)
  | 0, _, _ => none
  | fu + 1, x2, σ => z_c (inB (gI σ 160 18) 2) (
  if (gI σ 171 (ix (gI σ 160 18))) ≤ x2 then (
  f11_fillsTakes_129 N k6 x1 σ) else (
  z_c (inB (((7 : Int32) * x1) + x2) 896) (z_l (sI σ 205 (ix (((7 : Int32) * x1) + x2)) (99999 : Int32)) fun σ_10 =>
  if ((x1 >>> (x2 &&& 31)) &&& (1 : Int32)) = 0 then (
  f11_fillsTakes_123 N k6 (fun x2 σ => f11_fillsTakes_23 N k6 x1 fu x2 σ) x1 x2 σ_10) else (
  z_b (f11_nextOf N x1 x2 σ_10) fun r_12 σ_13 =>
  z_c (inB x2 7) (
  if 0 ≤ r_12 then (
  z_c (inB (((7 : Int32) * x2) + r_12) 49) (
  z_c (inB (((7 : Int32) * (x1 &&& (((1 : Int32) <<< (x2 &&& 31)) ^^^ (-1 : Int32)))) + r_12) 896) (
  f11_fillsTakes_121 N k6 (fun x2 σ => f11_fillsTakes_23 N k6 x1 fu x2 σ) x1 x2 (((7 : Int32) * x1) + x2) (gI σ_13 207 (ix x2)) ((gI σ_13 206 (ix (((7 : Int32) * x2) + r_12))) + (gI σ_13 205 (ix (((7 : Int32) * (x1 &&& (((1 : Int32) <<< (x2 &&& 31)) ^^^ (-1 : Int32)))) + r_12)))) σ_13))) else (
  f11_fillsTakes_121 N k6 (fun x2 σ => f11_fillsTakes_23 N k6 x1 fu x2 σ) x1 x2 (((7 : Int32) * x1) + x2) (gI σ_13 207 (ix x2)) (0 : Int32) σ_13))))))
def f11_fillsTakes_6 (N : Nat) : Nat → Int32 → Mm → Option (Unit × Mm)
  | 0, _, _ => none
  | fu + 1, x1, σ => z_c (inB (gI σ 160 18) 2) (
  if ((1 : Int32) <<< ((gI σ 171 (ix (gI σ 160 18))) &&& 31)) ≤ x1 then (
  some ((), σ)) else (
  f11_fillsTakes_23 N (fun x1 σ => f11_fillsTakes_6 N fu x1 σ) x1 N (0 : Int32) σ))
def f11_fillsTakes (N : Nat) (σ : Mm) : Option (Unit × Mm) :=
  z_b (f11_fillsWalks N σ) fun _ σ_2 =>
  f11_fillsTakes_6 N N (0 : Int32) σ_2
set_option maxHeartbeats 4000000 in
set_option maxRecDepth 100000 in
theorem w11_fillsTakes_129 (X : Cx p s m args c cX11_fillsTakes 4 RX11 G) (hr : meth.sig.returnType = none) (hlk : meth.locks = false) (N : Nat) {k6 : Int32 → Mm → Option (Unit × Mm)} (hk6 : ∀ (x1 : Int32) (σ : Mm) (H : Heap) (locs : List Loc) (ls : Array Slot), k6 x1 σ = some (u0, σ0) → Rp G 212 tt σ s H locs → lv_has ls 4 [(0, .ref (G.2.2 + 160)), (1, .int x1)] → W p l e rm11_fillsTakes s m args below meth c H locs 0 0 (MQ below (P_v G 212 tt u0 σ0) args s 0 0 (Fr G)) (F0 m 6 ls [])) :
    ∀ (x1 : Int32) (σ : Mm) (H : Heap) (locs : List Loc) (ls : Array Slot), f11_fillsTakes_129 N k6 x1 σ = some (u0, σ0) → Rp G 212 tt σ s H locs → lv_has ls 4 [(0, .ref (G.2.2 + 160)), (1, .int x1)] → W p l e rm11_fillsTakes s m args below meth c H locs 0 0 (MQ below (P_v G 212 tt u0 σ0) args s 0 0 (Fr G)) (F0 m 129 ls []) := by
  have hx := X.1
  have hb := X.2.1
  intro x1 σ H locs ls hf hR hl
  unfold f11_fillsTakes_129 at hf
  obtain ⟨x1_8, ex1_8⟩ : ∃ z : Int32, z = x1 + (1 : Int32) := ⟨_, rfl⟩
  replace hf := z_l_e ex1_8 hf
  refine lv_iinc (v := x1_8) (lv' := [(1, .int x1_8), (0, .ref (G.2.2 + 160))]) hx hb dX11_fillsTakes_129 hl (k := 1) rfl (by rw [ex1_8]; rfl) (by decide) rfl (fun ls hl => ?_)
  refine lv_goto (tgt := 6) hx hb dX11_fillsTakes_132 (by decide) ?_
  exact hk6 x1_8 σ _ _ _ hf hR (lv_sub hl [1, 0] rfl)
set_option maxHeartbeats 4000000 in
set_option maxRecDepth 100000 in
theorem w11_fillsTakes_123 (X : Cx p s m args c cX11_fillsTakes 4 RX11 G) (hr : meth.sig.returnType = none) (hlk : meth.locks = false) (N : Nat) {x1 : Int32} {k6 : Int32 → Mm → Option (Unit × Mm)} (hk6 : ∀ (x1 : Int32) (σ : Mm) (H : Heap) (locs : List Loc) (ls : Array Slot), k6 x1 σ = some (u0, σ0) → Rp G 212 tt σ s H locs → lv_has ls 4 [(0, .ref (G.2.2 + 160)), (1, .int x1)] → W p l e rm11_fillsTakes s m args below meth c H locs 0 0 (MQ below (P_v G 212 tt u0 σ0) args s 0 0 (Fr G)) (F0 m 6 ls [])) {k23 : Int32 → Mm → Option (Unit × Mm)} (hk23 : ∀ (x2 : Int32) (σ : Mm) (H : Heap) (locs : List Loc) (ls : Array Slot), k23 x2 σ = some (u0, σ0) → Rp G 212 tt σ s H locs → lv_has ls 4 [(0, .ref (G.2.2 + 160)), (1, .int x1), (2, .int x2)] → W p l e rm11_fillsTakes s m args below meth c H locs 0 0 (MQ below (P_v G 212 tt u0 σ0) args s 0 0 (Fr G)) (F0 m 23 ls [])) :
    ∀ (x2 : Int32) (σ : Mm) (H : Heap) (locs : List Loc) (ls : Array Slot), f11_fillsTakes_123 N k6 k23 x1 x2 σ = some (u0, σ0) → Rp G 212 tt σ s H locs → lv_has ls 4 [(0, .ref (G.2.2 + 160)), (1, .int x1), (2, .int x2)] → W p l e rm11_fillsTakes s m args below meth c H locs 0 0 (MQ below (P_v G 212 tt u0 σ0) args s 0 0 (Fr G)) (F0 m 123 ls []) := by
  have hx := X.1
  have hb := X.2.1
  intro x2 σ H locs ls hf hR hl
  unfold f11_fillsTakes_123 at hf
  obtain ⟨x2_21, ex2_21⟩ : ∃ z : Int32, z = x2 + (1 : Int32) := ⟨_, rfl⟩
  replace hf := z_l_e ex2_21 hf
  refine lv_iinc (v := x2_21) (lv' := [(2, .int x2_21), (0, .ref (G.2.2 + 160)), (1, .int x1)]) hx hb dX11_fillsTakes_123 hl (k := 2) rfl (by rw [ex2_21]; rfl) (by decide) rfl (fun ls hl => ?_)
  refine lv_goto (tgt := 23) hx hb dX11_fillsTakes_126 (by decide) ?_
  exact hk23 x2_21 σ _ _ _ hf hR (lv_sub hl [1, 2, 0] rfl)
set_option maxHeartbeats 4000000 in
set_option maxRecDepth 100000 in
theorem w11_fillsTakes_121 (X : Cx p s m args c cX11_fillsTakes 4 RX11 G) (hr : meth.sig.returnType = none) (hlk : meth.locks = false) (N : Nat) {x1 : Int32} {k6 : Int32 → Mm → Option (Unit × Mm)} (hk6 : ∀ (x1 : Int32) (σ : Mm) (H : Heap) (locs : List Loc) (ls : Array Slot), k6 x1 σ = some (u0, σ0) → Rp G 212 tt σ s H locs → lv_has ls 4 [(0, .ref (G.2.2 + 160)), (1, .int x1)] → W p l e rm11_fillsTakes s m args below meth c H locs 0 0 (MQ below (P_v G 212 tt u0 σ0) args s 0 0 (Fr G)) (F0 m 6 ls [])) {k23 : Int32 → Mm → Option (Unit × Mm)} (hk23 : ∀ (x2 : Int32) (σ : Mm) (H : Heap) (locs : List Loc) (ls : Array Slot), k23 x2 σ = some (u0, σ0) → Rp G 212 tt σ s H locs → lv_has ls 4 [(0, .ref (G.2.2 + 160)), (1, .int x1), (2, .int x2)] → W p l e rm11_fillsTakes s m args below meth c H locs 0 0 (MQ below (P_v G 212 tt u0 σ0) args s 0 0 (Fr G)) (F0 m 23 ls [])) :
    ∀ (x2 : Int32) (s1 : Int32) (s2 : Int32) (s3 : Int32) (σ : Mm) (H : Heap) (locs : List Loc) (ls : Array Slot), f11_fillsTakes_121 N k6 k23 x1 x2 s1 s2 s3 σ = some (u0, σ0) → Rp G 212 tt σ s H locs → lv_has ls 4 [(0, .ref (G.2.2 + 160)), (1, .int x1), (2, .int x2)] → W p l e rm11_fillsTakes s m args below meth c H locs 0 0 (MQ below (P_v G 212 tt u0 σ0) args s 0 0 (Fr G)) (F0 m 121 ls [.int s3, .int s2, .int s1, .ref (G.2.2 + 205)]) := by
  have hx := X.1
  have hb := X.2.1
  intro x2 s1 s2 s3 σ H locs ls hf hR hl
  unfold f11_fillsTakes_121 at hf
  refine lv_iadd hx hb dX11_fillsTakes_121 ?_
  obtain ⟨hi_19, hf⟩ := z_c_e hf
  refine r_ias X hR ka_205 hi_19 dX11_fillsTakes_122 (fun H locs σ_20 eσ_20 hR => ?_)
  replace hf := z_l_e eσ_20 hf
  exact w11_fillsTakes_123 X hr hlk N hk6 hk23 x2 σ_20 _ _ _ hf hR (lv_sub hl [0, 1, 2] rfl)
set_option maxHeartbeats 4000000 in
set_option maxRecDepth 100000 in
theorem w11_fillsTakes_23 (X : Cx p s m args c cX11_fillsTakes 4 RX11 G) (hr : meth.sig.returnType = none) (hlk : meth.locks = false) (N : Nat) {x1 : Int32} {k6 : Int32 → Mm → Option (Unit × Mm)} (hk6 : ∀ (x1 : Int32) (σ : Mm) (H : Heap) (locs : List Loc) (ls : Array Slot), k6 x1 σ = some (u0, σ0) → Rp G 212 tt σ s H locs → lv_has ls 4 [(0, .ref (G.2.2 + 160)), (1, .int x1)] → W p l e rm11_fillsTakes s m args below meth c H locs 0 0 (MQ below (P_v G 212 tt u0 σ0) args s 0 0 (Fr G)) (F0 m 6 ls [])) :
    ∀ (fu : Nat) (x2 : Int32) (σ : Mm) (H : Heap) (locs : List Loc) (ls : Array Slot), f11_fillsTakes_23 N k6 x1 fu x2 σ = some (u0, σ0) → Rp G 212 tt σ s H locs → lv_has ls 4 [(0, .ref (G.2.2 + 160)), (1, .int x1), (2, .int x2)] → W p l e rm11_fillsTakes s m args below meth c H locs 0 0 (MQ below (P_v G 212 tt u0 σ0) args s 0 0 (Fr G)) (F0 m 23 ls []) := by
  have hx := X.1
  have hb := X.2.1
  intro fu
  induction fu with
  | zero =>
    intro x2 σ H locs ls hf hR hl
    rw [f11_fillsTakes_23] at hf
    cases hf
  | succ fu ih =>
    intro x2 σ H locs ls hf hR hl
    rw [f11_fillsTakes_23] at hf
    refine lv_iload_n hx hb dX11_fillsTakes_23 rfl (lv_at hl 2 rfl) ?_
    refine lv_aload_n hx hb dX11_fillsTakes_24 rfl (lv_at hl 0 rfl) ?_
    refine r_gs (t := 171) X hR fr_11_49 kh_160 (sx_11_24 kh_160) dX11_fillsTakes_25 ?_
    refine lv_aload_n hx hb dX11_fillsTakes_28 rfl (lv_at hl 0 rfl) ?_
    refine r_gi X hR fi_11_254 kh_160 dX11_fillsTakes_29 ?_
    obtain ⟨hi_6, hf⟩ := z_c_e hf
    refine r_ial X hR ka_171 hi_6 dX11_fillsTakes_32 ?_
    refine lv_icmp_ge (tgt := 129) hx hb dX11_fillsTakes_33 (by decide) (fun c_7 => ?_) (fun c_7 => ?_)
    · replace hf := z_t c_7 hf
      exact w11_fillsTakes_129 X hr hlk N hk6 x1 σ _ _ _ hf hR (lv_sub hl [0, 1] rfl)
    · replace hf := z_f c_7 hf
      refine lv_aload_n hx hb dX11_fillsTakes_36 rfl (lv_at hl 0 rfl) ?_
      refine r_gs (t := 205) X hR fr_11_152 kh_160 (sx_11_66 kh_160) dX11_fillsTakes_37 ?_
      refine lv_bipush (v := (7 : Int32)) hx hb dX11_fillsTakes_40 (by decide) ?_
      refine lv_iload_n hx hb dX11_fillsTakes_42 rfl (lv_at hl 1 rfl) ?_
      refine lv_imul hx hb dX11_fillsTakes_43 ?_
      refine lv_iload_n hx hb dX11_fillsTakes_44 rfl (lv_at hl 2 rfl) ?_
      refine lv_iadd hx hb dX11_fillsTakes_45 ?_
      refine lv_ldcw hx hb X.2.2.2.1 (X.2.2.2.2.1 _ co_11_457) dX11_fillsTakes_46 ?_
      obtain ⟨hi_9, hf⟩ := z_c_e hf
      refine r_ias X hR ka_205 hi_9 dX11_fillsTakes_49 (fun H locs σ_10 eσ_10 hR => ?_)
      replace hf := z_l_e eσ_10 hf
      refine lv_iload_n hx hb dX11_fillsTakes_50 rfl (lv_at hl 1 rfl) ?_
      refine lv_iload_n hx hb dX11_fillsTakes_51 rfl (lv_at hl 2 rfl) ?_
      refine lv_ishr hx hb dX11_fillsTakes_52 ?_
      refine lv_iconst (v := (1 : Int32)) hx hb dX11_fillsTakes_53 (by decide) ?_
      refine lv_iand hx hb dX11_fillsTakes_54 ?_
      refine lv_if_ne (tgt := 61) hx hb dX11_fillsTakes_55 (by decide) (fun c_11 => ?_) (fun c_11 => ?_)
      · replace hf := z_f c_11 hf
        refine lv_aload_n hx hb dX11_fillsTakes_61 rfl (lv_at hl 0 rfl) ?_
        refine lv_iload_n hx hb dX11_fillsTakes_62 rfl (lv_at hl 1 rfl) ?_
        refine lv_iload_n hx hb dX11_fillsTakes_63 rfl (lv_at hl 2 rfl) ?_
        obtain ⟨r_12, σ_13, hc_14, hf⟩ := z_b_e hf
        refine go_i hR (mv_run (As := [.int x1, .int x2]) (rest := []) X hR mv_11_458 kh_160 (kd_lt kh_160 (by decide)) (c11_nextOf l G N hc_14) ⟨rfl, rfl, Nat.le_of_ble_eq_true rfl, Nat.le_of_ble_eq_true rfl⟩ rfl hl.1 rfl (Nat.le_of_ble_eq_true rfl) dX11_fillsTakes_64 ⟨Nat.zero_le _, Nat.zero_le _⟩) (fun H locs hR => ?_)
        refine lv_istore_n (lv' := [(3, .int r_12), (0, .ref (G.2.2 + 160)), (1, .int x1), (2, .int x2)]) hx hb dX11_fillsTakes_67 rfl hl (by decide) rfl (fun ls hl => ?_)
        refine lv_aload_n hx hb dX11_fillsTakes_68 rfl (lv_at hl 1 rfl) ?_
        refine r_gs (t := 205) X hR fr_11_152 kh_160 (sx_11_66 kh_160) dX11_fillsTakes_69 ?_
        refine lv_bipush (v := (7 : Int32)) hx hb dX11_fillsTakes_72 (by decide) ?_
        refine lv_iload_n hx hb dX11_fillsTakes_74 rfl (lv_at hl 2 rfl) ?_
        refine lv_imul hx hb dX11_fillsTakes_75 ?_
        refine lv_iload_n hx hb dX11_fillsTakes_76 rfl (lv_at hl 3 rfl) ?_
        refine lv_iadd hx hb dX11_fillsTakes_77 ?_
        refine lv_aload_n hx hb dX11_fillsTakes_78 rfl (lv_at hl 1 rfl) ?_
        refine r_gs (t := 207) X hR fr_11_158 kh_160 (sx_11_68 kh_160) dX11_fillsTakes_79 ?_
        refine lv_iload_n hx hb dX11_fillsTakes_82 rfl (lv_at hl 3 rfl) ?_
        obtain ⟨hi_15, hf⟩ := z_c_e hf
        refine r_ial X hR ka_207 hi_15 dX11_fillsTakes_83 ?_
        refine lv_iload_n hx hb dX11_fillsTakes_84 rfl (lv_at hl 0 rfl) ?_
        refine lv_if_ge (tgt := 92) hx hb dX11_fillsTakes_85 (by decide) (fun c_16 => ?_) (fun c_16 => ?_)
        · replace hf := z_t c_16 hf
          refine lv_aload_n hx hb dX11_fillsTakes_92 rfl (lv_at hl 1 rfl) ?_
          refine r_gs (t := 206) X hR fr_11_155 kh_160 (sx_11_67 kh_160) dX11_fillsTakes_93 ?_
          refine lv_bipush (v := (7 : Int32)) hx hb dX11_fillsTakes_96 (by decide) ?_
          refine lv_iload_n hx hb dX11_fillsTakes_98 rfl (lv_at hl 3 rfl) ?_
          refine lv_imul hx hb dX11_fillsTakes_99 ?_
          refine lv_iload_n hx hb dX11_fillsTakes_100 rfl (lv_at hl 0 rfl) ?_
          refine lv_iadd hx hb dX11_fillsTakes_101 ?_
          obtain ⟨hi_17, hf⟩ := z_c_e hf
          refine r_ial X hR ka_206 hi_17 dX11_fillsTakes_102 ?_
          refine lv_aload_n hx hb dX11_fillsTakes_103 rfl (lv_at hl 1 rfl) ?_
          refine r_gs (t := 205) X hR fr_11_152 kh_160 (sx_11_66 kh_160) dX11_fillsTakes_104 ?_
          refine lv_bipush (v := (7 : Int32)) hx hb dX11_fillsTakes_107 (by decide) ?_
          refine lv_iload_n hx hb dX11_fillsTakes_109 rfl (lv_at hl 2 rfl) ?_
          refine lv_iconst (v := (1 : Int32)) hx hb dX11_fillsTakes_110 (by decide) ?_
          refine lv_iload_n hx hb dX11_fillsTakes_111 rfl (lv_at hl 3 rfl) ?_
          refine lv_ishl hx hb dX11_fillsTakes_112 ?_
          refine lv_iconst (v := (-1 : Int32)) hx hb dX11_fillsTakes_113 (by decide) ?_
          refine lv_ixor hx hb dX11_fillsTakes_114 ?_
          refine lv_iand hx hb dX11_fillsTakes_115 ?_
          refine lv_imul hx hb dX11_fillsTakes_116 ?_
          refine lv_iload_n hx hb dX11_fillsTakes_117 rfl (lv_at hl 0 rfl) ?_
          refine lv_iadd hx hb dX11_fillsTakes_118 ?_
          obtain ⟨hi_18, hf⟩ := z_c_e hf
          refine r_ial X hR ka_205 hi_18 dX11_fillsTakes_119 ?_
          refine lv_iadd hx hb dX11_fillsTakes_120 ?_
          exact w11_fillsTakes_121 X hr hlk N hk6 ih x2 (((7 : Int32) * x1) + x2) (gI σ_13 207 (ix x2)) ((gI σ_13 206 (ix (((7 : Int32) * x2) + r_12))) + (gI σ_13 205 (ix (((7 : Int32) * (x1 &&& (((1 : Int32) <<< (x2 &&& 31)) ^^^ (-1 : Int32)))) + r_12)))) σ_13 _ _ _ hf hR (lv_sub hl [1, 2, 3] rfl)
        · replace hf := z_f c_16 hf
          refine lv_iconst (v := (0 : Int32)) hx hb dX11_fillsTakes_88 (by decide) ?_
          refine lv_goto (tgt := 121) hx hb dX11_fillsTakes_89 (by decide) ?_
          exact w11_fillsTakes_121 X hr hlk N hk6 ih x2 (((7 : Int32) * x1) + x2) (gI σ_13 207 (ix x2)) (0 : Int32) σ_13 _ _ _ hf hR (lv_sub hl [1, 2, 3] rfl)
      · replace hf := z_t c_11 hf
        refine lv_goto (tgt := 123) hx hb dX11_fillsTakes_58 (by decide) ?_
        exact w11_fillsTakes_123 X hr hlk N hk6 ih x2 σ_10 _ _ _ hf hR (lv_sub hl [0, 1, 2] rfl)
set_option maxHeartbeats 4000000 in
set_option maxRecDepth 100000 in
theorem w11_fillsTakes_6 (X : Cx p s m args c cX11_fillsTakes 4 RX11 G) (hr : meth.sig.returnType = none) (hlk : meth.locks = false) (N : Nat) :
    ∀ (fu : Nat) (x1 : Int32) (σ : Mm) (H : Heap) (locs : List Loc) (ls : Array Slot), f11_fillsTakes_6 N fu x1 σ = some (u0, σ0) → Rp G 212 tt σ s H locs → lv_has ls 4 [(0, .ref (G.2.2 + 160)), (1, .int x1)] → W p l e rm11_fillsTakes s m args below meth c H locs 0 0 (MQ below (P_v G 212 tt u0 σ0) args s 0 0 (Fr G)) (F0 m 6 ls []) := by
  have hx := X.1
  have hb := X.2.1
  intro fu
  induction fu with
  | zero =>
    intro x1 σ H locs ls hf hR hl
    rw [f11_fillsTakes_6] at hf
    cases hf
  | succ fu ih =>
    intro x1 σ H locs ls hf hR hl
    rw [f11_fillsTakes_6] at hf
    refine lv_iload_n hx hb dX11_fillsTakes_6 rfl (lv_at hl 1 rfl) ?_
    refine lv_iconst (v := (1 : Int32)) hx hb dX11_fillsTakes_7 (by decide) ?_
    refine lv_aload_n hx hb dX11_fillsTakes_8 rfl (lv_at hl 0 rfl) ?_
    refine r_gs (t := 171) X hR fr_11_49 kh_160 (sx_11_24 kh_160) dX11_fillsTakes_9 ?_
    refine lv_aload_n hx hb dX11_fillsTakes_12 rfl (lv_at hl 0 rfl) ?_
    refine r_gi X hR fi_11_254 kh_160 dX11_fillsTakes_13 ?_
    obtain ⟨hi_4, hf⟩ := z_c_e hf
    refine r_ial X hR ka_171 hi_4 dX11_fillsTakes_16 ?_
    refine lv_ishl hx hb dX11_fillsTakes_17 ?_
    refine lv_icmp_ge (tgt := 135) hx hb dX11_fillsTakes_18 (by decide) (fun c_5 => ?_) (fun c_5 => ?_)
    · replace hf := z_t c_5 hf
      exact e_v X hR hr hlk hf dX11_fillsTakes_135
    · replace hf := z_f c_5 hf
      refine lv_iconst (v := (0 : Int32)) hx hb dX11_fillsTakes_21 (by decide) ?_
      refine lv_istore_n (lv' := [(2, .int (0 : Int32)), (0, .ref (G.2.2 + 160)), (1, .int x1)]) hx hb dX11_fillsTakes_22 rfl hl (by decide) rfl (fun ls hl => ?_)
      exact w11_fillsTakes_23 X hr hlk N ih N (0 : Int32) σ _ _ _ hf hR (lv_sub hl [1, 2, 0] rfl)
set_option maxHeartbeats 4000000 in
set_option maxRecDepth 100000 in
theorem c11_fillsTakes (l : Launch) (G : Gp) (N : Nat) {σ σ0 : Mm} {u0 : Unit} (hf : f11_fillsTakes N σ = some (u0, σ0)) : Met l yX11_fillsTakes (WS yX11_fillsTakes cX11_fillsTakes 4 (none)) rm11_fillsTakes (va_Pc [.ref (G.2.2 + 160)] (Pd G 212 tt σ)) (P_v G 212 tt u0 σ0) 0 0 (Fr G) := by
  refine ct [(0, .ref (G.2.2 + 160))] rfl (by decide) (Nat.le_of_ble_eq_true rfl) ?_
  intro p e s m below meth c ls X hr hlk hR hl
  have X : Cx p s m _ c cX11_fillsTakes 4 RX11 G := X
  have hx := X.1
  have hb := X.2.1
  unfold f11_fillsTakes at hf
  refine lv_aload_n hx hb dX11_fillsTakes_0 rfl (lv_at hl 0 rfl) ?_
  obtain ⟨r_1, σ_2, hc_3, hf⟩ := z_b_e hf
  refine go_v hR (mv_run (As := []) (rest := []) X hR mv_11_454 kh_160 (kd_lt kh_160 (by decide)) (c11_fillsWalks l G N hc_3) ⟨rfl, rfl, Nat.le_of_ble_eq_true rfl, Nat.le_of_ble_eq_true rfl⟩ rfl hl.1 rfl (Nat.le_of_ble_eq_true rfl) dX11_fillsTakes_1 ⟨Nat.zero_le _, Nat.zero_le _⟩) (fun H locs hR => ?_)
  refine lv_iconst (v := (0 : Int32)) hx hb dX11_fillsTakes_4 (by decide) ?_
  refine lv_istore_n (lv' := [(1, .int (0 : Int32)), (0, .ref (G.2.2 + 160))]) hx hb dX11_fillsTakes_5 rfl hl (by decide) rfl (fun ls hl => ?_)
  exact w11_fillsTakes_6 X hr hlk N  N (0 : Int32) σ_2 _ _ _ hf hR (lv_sub hl [1, 0] rfl)
abbrev rm11_round : Room := { frames := 5, cells := 0, slots := 0, locals := 121 }
def f11_round_138 (N : Nat) (x2 : Int32) : Nat → Int32 → Int32 → Int32 → Mm → Option (Int32 × Mm)
  | 0, _, _, _, _ => none
  | fu + 1, x3, x4, x5, σ => if x2 ≤ x5 then (
  some (x3, σ)) else (
  z_b (f11_nextOf N x4 x3 σ) fun r_21 σ_22 =>
  z_l ((x4 &&& (((1 : Int32) <<< (x3 &&& 31)) ^^^ (-1 : Int32)))) fun x4_24 =>
  z_l (x5 + (1 : Int32)) fun x5_25 =>
  f11_round_138 N x2 fu r_21 x4_24 x5_25 σ_22)
def f11_round_115 (N : Nat) (x1 : Int32) (x2 : Int32) (x3 : Int32) (σ : Mm) : Option (Int32 × Mm) :=
  if x2 = (-1 : Int32) then (
  z_c (inB (((7 : Int32) * x1) + x3) 896) (
  some ((gI σ 205 (ix (((7 : Int32) * x1) + x3))), σ))) else (
  f11_round_138 N x2 N x3 x1 (0 : Int32) σ)
def f11_round_109 (N : Nat) (k52 : Int32 → Int32 → Mm → Option (Int32 × Mm)) (x1 : Int32) (x2 : Int32) (x3 : Int32) (x4 : Int32) (σ : Mm) : Option (Int32 × Mm) :=
  z_l (x4 + (1 : Int32)) fun x4_28 =>
  k52 x3 x4_28 σ
def f11_round_106 (N : Nat) (k52 : Int32 → Int32 → Mm → Option (Int32 × Mm)) (x1 : Int32) (x2 : Int32) (x4 : Int32) (σ : Mm) : Option (Int32 × Mm) :=
  f11_round_109 N k52 x1 x2 x4 x4 σ
def f11_round_52 (N : Nat) (x1 : Int32) (x2 : Int32) : Nat → Int32 → Int32 → Mm → Option (Int32 × Mm)
  | 0, _, _, _ => none
  | fu + 1, x3, x4, σ => z_c (inB (gI σ 160 18) 2) (
  if (gI σ 171 (ix (gI σ 160 18))) ≤ x4 then (
  f11_round_115 N x1 x2 x3 σ) else (
  if ((x1 >>> (x4 &&& 31)) &&& (1 : Int32)) = (1 : Int32) then (
  if x3 < 0 then (
  f11_round_106 N (fun x3 x4 σ => f11_round_52 N x1 x2 fu x3 x4 σ) x1 x2 x4 σ) else (
  z_c (inB (((7 : Int32) * x1) + x4) 896) (
  z_c (inB (((7 : Int32) * x1) + x3) 896) (
  if (gI σ 205 (ix (((7 : Int32) * x1) + x3))) ≤ (gI σ 205 (ix (((7 : Int32) * x1) + x4))) then (
  f11_round_109 N (fun x3 x4 σ => f11_round_52 N x1 x2 fu x3 x4 σ) x1 x2 x3 x4 σ) else (
  f11_round_106 N (fun x3 x4 σ => f11_round_52 N x1 x2 fu x3 x4 σ) x1 x2 x4 σ))))) else (
  f11_round_109 N (fun x3 x4 σ => f11_round_52 N x1 x2 fu x3 x4 σ) x1 x2 x3 x4 σ)))
def f11_round (N : Nat) (x1 : Int32) (x2 : Int32) (σ : Mm) : Option (Int32 × Mm) :=
  z_c (inB (gI σ 160 18) 2) (
  z_b (f11_in N x1 (0 : Int32) (((1 : Int32) <<< ((gI σ 171 (ix (gI σ 160 18))) &&& 31)) - (1 : Int32)) σ) fun r_2 σ_3 =>
  if r_2 = 0 then (
  some ((-1 : Int32), σ_3)) else (
  z_b (f11_bits N x1 σ_3) fun r_6 σ_7 =>
  z_b (f11_in N x2 (-1 : Int32) (r_6 - (1 : Int32)) σ_7) fun r_9 σ_10 =>
  if r_9 = 0 then (
  some ((-1 : Int32), σ_10)) else (
  if x1 = 0 then (
  some ((0 : Int32), σ_10)) else (
  z_b (f11_fillsTakes N σ_10) fun _ σ_15 =>
  f11_round_52 N x1 x2 N (-1 : Int32) (0 : Int32) σ_15))))
set_option maxHeartbeats 4000000 in
set_option maxRecDepth 100000 in
theorem w11_round_138 (X : Cx p s m args c cX11_round 7 RX11 G) (hr : meth.sig.returnType = some .int) (hlk : meth.locks = false) (N : Nat) {x2 : Int32} :
    ∀ (fu : Nat) (x3 : Int32) (x4 : Int32) (x5 : Int32) (σ : Mm) (H : Heap) (locs : List Loc) (ls : Array Slot), f11_round_138 N x2 fu x3 x4 x5 σ = some (r0, σ0) → Rp G 212 tt σ s H locs → lv_has ls 7 [(0, .ref (G.2.2 + 160)), (2, .int x2), (3, .int x3), (4, .int x4), (5, .int x5)] → W p l e rm11_round s m args below meth c H locs 0 0 (MQ below (P_i G 212 tt r0 σ0) args s 0 0 (Fr G)) (F0 m 138 ls []) := by
  have hx := X.1
  have hb := X.2.1
  intro fu
  induction fu with
  | zero =>
    intro x3 x4 x5 σ H locs ls hf hR hl
    rw [f11_round_138] at hf
    cases hf
  | succ fu ih =>
    intro x3 x4 x5 σ H locs ls hf hR hl
    rw [f11_round_138] at hf
    refine lv_iload hx hb dX11_round_138 (lv_at hl 4 rfl) ?_
    refine lv_iload_n hx hb dX11_round_140 rfl (lv_at hl 1 rfl) ?_
    refine lv_icmp_ge (tgt := 172) hx hb dX11_round_141 (by decide) (fun c_20 => ?_) (fun c_20 => ?_)
    · replace hf := z_t c_20 hf
      refine lv_iload_n hx hb dX11_round_172 rfl (lv_at hl 2 rfl) ?_
      exact e_i X hR hr hlk hf dX11_round_173
    · replace hf := z_f c_20 hf
      refine lv_aload_n hx hb dX11_round_144 rfl (lv_at hl 0 rfl) ?_
      refine lv_iload hx hb dX11_round_145 (lv_at hl 3 rfl) ?_
      refine lv_iload_n hx hb dX11_round_147 rfl (lv_at hl 2 rfl) ?_
      obtain ⟨r_21, σ_22, hc_23, hf⟩ := z_b_e hf
      refine go_i hR (mv_run (As := [.int x4, .int x3]) (rest := []) X hR mv_11_458 kh_160 (kd_lt kh_160 (by decide)) (c11_nextOf l G N hc_23) ⟨rfl, rfl, Nat.le_of_ble_eq_true rfl, Nat.le_of_ble_eq_true rfl⟩ rfl hl.1 rfl (Nat.le_of_ble_eq_true rfl) dX11_round_148 ⟨Nat.zero_le _, Nat.zero_le _⟩) (fun H locs hR => ?_)
      refine lv_istore (lv' := [(6, .int r_21), (0, .ref (G.2.2 + 160)), (2, .int x2), (3, .int x3), (4, .int x4), (5, .int x5)]) hx hb dX11_round_151 hl (by decide) rfl (fun ls hl => ?_)
      refine lv_iload hx hb dX11_round_153 (lv_at hl 4 rfl) ?_
      refine lv_iconst (v := (1 : Int32)) hx hb dX11_round_155 (by decide) ?_
      refine lv_iload_n hx hb dX11_round_156 rfl (lv_at hl 3 rfl) ?_
      refine lv_ishl hx hb dX11_round_157 ?_
      refine lv_iconst (v := (-1 : Int32)) hx hb dX11_round_158 (by decide) ?_
      refine lv_ixor hx hb dX11_round_159 ?_
      refine lv_iand hx hb dX11_round_160 ?_
      refine lv_topi (fun x4_24 ex4_24 => ?_)
      replace hf := z_l_e ex4_24 hf
      refine lv_istore (lv' := [(4, .int x4_24), (6, .int r_21), (0, .ref (G.2.2 + 160)), (2, .int x2), (3, .int x3), (5, .int x5)]) hx hb dX11_round_161 hl (by decide) rfl (fun ls hl => ?_)
      refine lv_iload hx hb dX11_round_163 (lv_at hl 1 rfl) ?_
      refine lv_istore_n (lv' := [(3, .int r_21), (4, .int x4_24), (6, .int r_21), (0, .ref (G.2.2 + 160)), (2, .int x2), (5, .int x5)]) hx hb dX11_round_165 rfl hl (by decide) rfl (fun ls hl => ?_)
      obtain ⟨x5_25, ex5_25⟩ : ∃ z : Int32, z = x5 + (1 : Int32) := ⟨_, rfl⟩
      replace hf := z_l_e ex5_25 hf
      refine lv_iinc (v := x5_25) (lv' := [(5, .int x5_25), (3, .int r_21), (4, .int x4_24), (6, .int r_21), (0, .ref (G.2.2 + 160)), (2, .int x2)]) hx hb dX11_round_166 hl (k := 5) rfl (by rw [ex5_25]; rfl) (by decide) rfl (fun ls hl => ?_)
      refine lv_goto (tgt := 138) hx hb dX11_round_169 (by decide) ?_
      exact ih r_21 x4_24 x5_25 σ_22 _ _ _ hf hR (lv_sub hl [4, 5, 1, 2, 0] rfl)
set_option maxHeartbeats 4000000 in
set_option maxRecDepth 100000 in
theorem w11_round_115 (X : Cx p s m args c cX11_round 7 RX11 G) (hr : meth.sig.returnType = some .int) (hlk : meth.locks = false) (N : Nat) :
    ∀ (x1 : Int32) (x2 : Int32) (x3 : Int32) (σ : Mm) (H : Heap) (locs : List Loc) (ls : Array Slot), f11_round_115 N x1 x2 x3 σ = some (r0, σ0) → Rp G 212 tt σ s H locs → lv_has ls 7 [(0, .ref (G.2.2 + 160)), (1, .int x1), (2, .int x2), (3, .int x3)] → W p l e rm11_round s m args below meth c H locs 0 0 (MQ below (P_i G 212 tt r0 σ0) args s 0 0 (Fr G)) (F0 m 115 ls []) := by
  have hx := X.1
  have hb := X.2.1
  intro x1 x2 x3 σ H locs ls hf hR hl
  unfold f11_round_115 at hf
  refine lv_iload_n hx hb dX11_round_115 rfl (lv_at hl 2 rfl) ?_
  refine lv_iconst (v := (-1 : Int32)) hx hb dX11_round_116 (by decide) ?_
  refine lv_icmp_ne (tgt := 132) hx hb dX11_round_117 (by decide) (fun c_19 => ?_) (fun c_19 => ?_)
  · replace hf := z_f c_19 hf
    refine lv_iload_n hx hb dX11_round_132 rfl (lv_at hl 1 rfl) ?_
    refine lv_istore (lv' := [(4, .int x1), (0, .ref (G.2.2 + 160)), (1, .int x1), (2, .int x2), (3, .int x3)]) hx hb dX11_round_133 hl (by decide) rfl (fun ls hl => ?_)
    refine lv_iconst (v := (0 : Int32)) hx hb dX11_round_135 (by decide) ?_
    refine lv_istore (lv' := [(5, .int (0 : Int32)), (4, .int x1), (0, .ref (G.2.2 + 160)), (1, .int x1), (2, .int x2), (3, .int x3)]) hx hb dX11_round_136 hl (by decide) rfl (fun ls hl => ?_)
    exact w11_round_138 X hr hlk N  N x3 x1 (0 : Int32) σ _ _ _ hf hR (lv_sub hl [2, 4, 5, 1, 0] rfl)
  · replace hf := z_t c_19 hf
    refine lv_aload_n hx hb dX11_round_120 rfl (lv_at hl 0 rfl) ?_
    refine r_gs (t := 205) X hR fr_11_152 kh_160 (sx_11_66 kh_160) dX11_round_121 ?_
    refine lv_bipush (v := (7 : Int32)) hx hb dX11_round_124 (by decide) ?_
    refine lv_iload_n hx hb dX11_round_126 rfl (lv_at hl 1 rfl) ?_
    refine lv_imul hx hb dX11_round_127 ?_
    refine lv_iload_n hx hb dX11_round_128 rfl (lv_at hl 3 rfl) ?_
    refine lv_iadd hx hb dX11_round_129 ?_
    obtain ⟨hi_26, hf⟩ := z_c_e hf
    refine r_ial X hR ka_205 hi_26 dX11_round_130 ?_
    exact e_i X hR hr hlk hf dX11_round_131
set_option maxHeartbeats 4000000 in
set_option maxRecDepth 100000 in
theorem w11_round_109 (X : Cx p s m args c cX11_round 7 RX11 G) (hr : meth.sig.returnType = some .int) (hlk : meth.locks = false) (N : Nat) {x1 : Int32} {x2 : Int32} {k52 : Int32 → Int32 → Mm → Option (Int32 × Mm)} (hk52 : ∀ (x3 : Int32) (x4 : Int32) (σ : Mm) (H : Heap) (locs : List Loc) (ls : Array Slot), k52 x3 x4 σ = some (r0, σ0) → Rp G 212 tt σ s H locs → lv_has ls 7 [(0, .ref (G.2.2 + 160)), (1, .int x1), (2, .int x2), (3, .int x3), (4, .int x4)] → W p l e rm11_round s m args below meth c H locs 0 0 (MQ below (P_i G 212 tt r0 σ0) args s 0 0 (Fr G)) (F0 m 52 ls [])) :
    ∀ (x3 : Int32) (x4 : Int32) (σ : Mm) (H : Heap) (locs : List Loc) (ls : Array Slot), f11_round_109 N k52 x1 x2 x3 x4 σ = some (r0, σ0) → Rp G 212 tt σ s H locs → lv_has ls 7 [(0, .ref (G.2.2 + 160)), (1, .int x1), (2, .int x2), (3, .int x3), (4, .int x4)] → W p l e rm11_round s m args below meth c H locs 0 0 (MQ below (P_i G 212 tt r0 σ0) args s 0 0 (Fr G)) (F0 m 109 ls []) := by
  have hx := X.1
  have hb := X.2.1
  intro x3 x4 σ H locs ls hf hR hl
  unfold f11_round_109 at hf
  obtain ⟨x4_28, ex4_28⟩ : ∃ z : Int32, z = x4 + (1 : Int32) := ⟨_, rfl⟩
  replace hf := z_l_e ex4_28 hf
  refine lv_iinc (v := x4_28) (lv' := [(4, .int x4_28), (0, .ref (G.2.2 + 160)), (1, .int x1), (2, .int x2), (3, .int x3)]) hx hb dX11_round_109 hl (k := 4) rfl (by rw [ex4_28]; rfl) (by decide) rfl (fun ls hl => ?_)
  refine lv_goto (tgt := 52) hx hb dX11_round_112 (by decide) ?_
  exact hk52 x3 x4_28 σ _ _ _ hf hR (lv_sub hl [1, 2, 3, 4, 0] rfl)
set_option maxHeartbeats 4000000 in
set_option maxRecDepth 100000 in
theorem w11_round_106 (X : Cx p s m args c cX11_round 7 RX11 G) (hr : meth.sig.returnType = some .int) (hlk : meth.locks = false) (N : Nat) {x1 : Int32} {x2 : Int32} {k52 : Int32 → Int32 → Mm → Option (Int32 × Mm)} (hk52 : ∀ (x3 : Int32) (x4 : Int32) (σ : Mm) (H : Heap) (locs : List Loc) (ls : Array Slot), k52 x3 x4 σ = some (r0, σ0) → Rp G 212 tt σ s H locs → lv_has ls 7 [(0, .ref (G.2.2 + 160)), (1, .int x1), (2, .int x2), (3, .int x3), (4, .int x4)] → W p l e rm11_round s m args below meth c H locs 0 0 (MQ below (P_i G 212 tt r0 σ0) args s 0 0 (Fr G)) (F0 m 52 ls [])) :
    ∀ (x4 : Int32) (σ : Mm) (H : Heap) (locs : List Loc) (ls : Array Slot), f11_round_106 N k52 x1 x2 x4 σ = some (r0, σ0) → Rp G 212 tt σ s H locs → lv_has ls 7 [(0, .ref (G.2.2 + 160)), (1, .int x1), (2, .int x2), (4, .int x4)] → W p l e rm11_round s m args below meth c H locs 0 0 (MQ below (P_i G 212 tt r0 σ0) args s 0 0 (Fr G)) (F0 m 106 ls []) := by
  have hx := X.1
  have hb := X.2.1
  intro x4 σ H locs ls hf hR hl
  unfold f11_round_106 at hf
  refine lv_iload hx hb dX11_round_106 (lv_at hl 3 rfl) ?_
  refine lv_istore_n (lv' := [(3, .int x4), (0, .ref (G.2.2 + 160)), (1, .int x1), (2, .int x2), (4, .int x4)]) hx hb dX11_round_108 rfl hl (by decide) rfl (fun ls hl => ?_)
  exact w11_round_109 X hr hlk N hk52 x4 x4 σ _ _ _ hf hR (lv_sub hl [1, 2, 3, 0, 4] rfl)
set_option maxHeartbeats 4000000 in
set_option maxRecDepth 100000 in
theorem w11_round_52 (X : Cx p s m args c cX11_round 7 RX11 G) (hr : meth.sig.returnType = some .int) (hlk : meth.locks = false) (N : Nat) {x1 : Int32} {x2 : Int32} :
    ∀ (fu : Nat) (x3 : Int32) (x4 : Int32) (σ : Mm) (H : Heap) (locs : List Loc) (ls : Array Slot), f11_round_52 N x1 x2 fu x3 x4 σ = some (r0, σ0) → Rp G 212 tt σ s H locs → lv_has ls 7 [(0, .ref (G.2.2 + 160)), (1, .int x1), (2, .int x2), (3, .int x3), (4, .int x4)] → W p l e rm11_round s m args below meth c H locs 0 0 (MQ below (P_i G 212 tt r0 σ0) args s 0 0 (Fr G)) (F0 m 52 ls []) := by
  have hx := X.1
  have hb := X.2.1
  intro fu
  induction fu with
  | zero =>
    intro x3 x4 σ H locs ls hf hR hl
    rw [f11_round_52] at hf
    cases hf
  | succ fu ih =>
    intro x3 x4 σ H locs ls hf hR hl
    rw [f11_round_52] at hf
    refine lv_iload hx hb dX11_round_52 (lv_at hl 4 rfl) ?_
    refine lv_aload_n hx hb dX11_round_54 rfl (lv_at hl 0 rfl) ?_
    refine r_gs (t := 171) X hR fr_11_49 kh_160 (sx_11_24 kh_160) dX11_round_55 ?_
    refine lv_aload_n hx hb dX11_round_58 rfl (lv_at hl 0 rfl) ?_
    refine r_gi X hR fi_11_254 kh_160 dX11_round_59 ?_
    obtain ⟨hi_17, hf⟩ := z_c_e hf
    refine r_ial X hR ka_171 hi_17 dX11_round_62 ?_
    refine lv_icmp_ge (tgt := 115) hx hb dX11_round_63 (by decide) (fun c_18 => ?_) (fun c_18 => ?_)
    · replace hf := z_t c_18 hf
      exact w11_round_115 X hr hlk N  x1 x2 x3 σ _ _ _ hf hR (lv_sub hl [0, 1, 2, 3] rfl)
    · replace hf := z_f c_18 hf
      refine lv_iload_n hx hb dX11_round_66 rfl (lv_at hl 1 rfl) ?_
      refine lv_iload hx hb dX11_round_67 (lv_at hl 4 rfl) ?_
      refine lv_ishr hx hb dX11_round_69 ?_
      refine lv_iconst (v := (1 : Int32)) hx hb dX11_round_70 (by decide) ?_
      refine lv_iand hx hb dX11_round_71 ?_
      refine lv_iconst (v := (1 : Int32)) hx hb dX11_round_72 (by decide) ?_
      refine lv_icmp_ne (tgt := 109) hx hb dX11_round_73 (by decide) (fun c_27 => ?_) (fun c_27 => ?_)
      · replace hf := z_f c_27 hf
        exact w11_round_109 X hr hlk N ih x3 x4 σ _ _ _ hf hR (lv_sub hl [0, 1, 2, 3, 4] rfl)
      · replace hf := z_t c_27 hf
        refine lv_iload_n hx hb dX11_round_76 rfl (lv_at hl 3 rfl) ?_
        refine lv_if_lt (tgt := 106) hx hb dX11_round_77 (by decide) (fun c_29 => ?_) (fun c_29 => ?_)
        · replace hf := z_t c_29 hf
          exact w11_round_106 X hr hlk N ih x4 σ _ _ _ hf hR (lv_sub hl [0, 1, 2, 4] rfl)
        · replace hf := z_f c_29 hf
          refine lv_aload_n hx hb dX11_round_80 rfl (lv_at hl 0 rfl) ?_
          refine r_gs (t := 205) X hR fr_11_152 kh_160 (sx_11_66 kh_160) dX11_round_81 ?_
          refine lv_bipush (v := (7 : Int32)) hx hb dX11_round_84 (by decide) ?_
          refine lv_iload_n hx hb dX11_round_86 rfl (lv_at hl 1 rfl) ?_
          refine lv_imul hx hb dX11_round_87 ?_
          refine lv_iload hx hb dX11_round_88 (lv_at hl 4 rfl) ?_
          refine lv_iadd hx hb dX11_round_90 ?_
          obtain ⟨hi_30, hf⟩ := z_c_e hf
          refine r_ial X hR ka_205 hi_30 dX11_round_91 ?_
          refine lv_aload_n hx hb dX11_round_92 rfl (lv_at hl 0 rfl) ?_
          refine r_gs (t := 205) X hR fr_11_152 kh_160 (sx_11_66 kh_160) dX11_round_93 ?_
          refine lv_bipush (v := (7 : Int32)) hx hb dX11_round_96 (by decide) ?_
          refine lv_iload_n hx hb dX11_round_98 rfl (lv_at hl 1 rfl) ?_
          refine lv_imul hx hb dX11_round_99 ?_
          refine lv_iload_n hx hb dX11_round_100 rfl (lv_at hl 3 rfl) ?_
          refine lv_iadd hx hb dX11_round_101 ?_
          obtain ⟨hi_31, hf⟩ := z_c_e hf
          refine r_ial X hR ka_205 hi_31 dX11_round_102 ?_
          refine lv_icmp_ge (tgt := 109) hx hb dX11_round_103 (by decide) (fun c_32 => ?_) (fun c_32 => ?_)
          · replace hf := z_t c_32 hf
            exact w11_round_109 X hr hlk N ih x3 x4 σ _ _ _ hf hR (lv_sub hl [0, 1, 2, 3, 4] rfl)
          · replace hf := z_f c_32 hf
            exact w11_round_106 X hr hlk N ih x4 σ _ _ _ hf hR (lv_sub hl [0, 1, 2, 4] rfl)
set_option maxHeartbeats 4000000 in
set_option maxRecDepth 100000 in
theorem c11_round (l : Launch) (G : Gp) (N : Nat) {x1 : Int32} {x2 : Int32} {σ σ0 : Mm} {r0 : Int32} (hf : f11_round N x1 x2 σ = some (r0, σ0)) : Met l yX11_round (WS yX11_round cX11_round 7 (some .int)) rm11_round (va_Pc [.ref (G.2.2 + 160), .int x1, .int x2] (Pd G 212 tt σ)) (P_i G 212 tt r0 σ0) 0 0 (Fr G) := by
  refine ct [(0, .ref (G.2.2 + 160)), (1, .int x1), (2, .int x2)] rfl (by decide) (Nat.le_of_ble_eq_true rfl) ?_
  intro p e s m below meth c ls X hr hlk hR hl
  have X : Cx p s m _ c cX11_round 7 RX11 G := X
  have hx := X.1
  have hb := X.2.1
  unfold f11_round at hf
  refine lv_iload_n hx hb dX11_round_0 rfl (lv_at hl 1 rfl) ?_
  refine lv_iconst (v := (0 : Int32)) hx hb dX11_round_1 (by decide) ?_
  refine lv_iconst (v := (1 : Int32)) hx hb dX11_round_2 (by decide) ?_
  refine lv_aload_n hx hb dX11_round_3 rfl (lv_at hl 0 rfl) ?_
  refine r_gs (t := 171) X hR fr_11_49 kh_160 (sx_11_24 kh_160) dX11_round_4 ?_
  refine lv_aload_n hx hb dX11_round_7 rfl (lv_at hl 0 rfl) ?_
  refine r_gi X hR fi_11_254 kh_160 dX11_round_8 ?_
  obtain ⟨hi_1, hf⟩ := z_c_e hf
  refine r_ial X hR ka_171 hi_1 dX11_round_11 ?_
  refine lv_ishl hx hb dX11_round_12 ?_
  refine lv_iconst (v := (1 : Int32)) hx hb dX11_round_13 (by decide) ?_
  refine lv_isub hx hb dX11_round_14 ?_
  obtain ⟨r_2, σ_3, hc_4, hf⟩ := z_b_e hf
  refine go_i hR (ms_run (As := [.int x1, .int (0 : Int32), .int (((1 : Int32) <<< ((gI σ 171 (ix (gI σ 160 18))) &&& 31)) - (1 : Int32))]) (rest := []) X hR ms_11_340 (c11_in l G N hc_4) ⟨rfl, rfl, Nat.le_of_ble_eq_true rfl, Nat.le_of_ble_eq_true rfl⟩ rfl hl.1 rfl (Nat.le_of_ble_eq_true rfl) dX11_round_15 ⟨Nat.zero_le _, Nat.zero_le _⟩) (fun H locs hR => ?_)
  refine lv_if_eq (tgt := 35) hx hb dX11_round_18 (by decide) (fun c_5 => ?_) (fun c_5 => ?_)
  · replace hf := z_t c_5 hf
    refine lv_iconst (v := (-1 : Int32)) hx hb dX11_round_35 (by decide) ?_
    exact e_i X hR hr hlk hf dX11_round_36
  · replace hf := z_f c_5 hf
    refine lv_iload_n hx hb dX11_round_21 rfl (lv_at hl 2 rfl) ?_
    refine lv_iconst (v := (-1 : Int32)) hx hb dX11_round_22 (by decide) ?_
    refine lv_iload_n hx hb dX11_round_23 rfl (lv_at hl 1 rfl) ?_
    obtain ⟨r_6, σ_7, hc_8, hf⟩ := z_b_e hf
    refine go_i hR (ms_run (As := [.int x1]) (rest := [.int (-1 : Int32), .int x2]) X hR ms_11_366 (c11_bits l G N hc_8) ⟨rfl, rfl, Nat.le_of_ble_eq_true rfl, Nat.le_of_ble_eq_true rfl⟩ rfl hl.1 rfl (Nat.le_of_ble_eq_true rfl) dX11_round_24 ⟨Nat.zero_le _, Nat.zero_le _⟩) (fun H locs hR => ?_)
    refine lv_iconst (v := (1 : Int32)) hx hb dX11_round_27 (by decide) ?_
    refine lv_isub hx hb dX11_round_28 ?_
    obtain ⟨r_9, σ_10, hc_11, hf⟩ := z_b_e hf
    refine go_i hR (ms_run (As := [.int x2, .int (-1 : Int32), .int (r_6 - (1 : Int32))]) (rest := []) X hR ms_11_340 (c11_in l G N hc_11) ⟨rfl, rfl, Nat.le_of_ble_eq_true rfl, Nat.le_of_ble_eq_true rfl⟩ rfl hl.1 rfl (Nat.le_of_ble_eq_true rfl) dX11_round_29 ⟨Nat.zero_le _, Nat.zero_le _⟩) (fun H locs hR => ?_)
    refine lv_if_ne (tgt := 37) hx hb dX11_round_32 (by decide) (fun c_12 => ?_) (fun c_12 => ?_)
    · replace hf := z_f c_12 hf
      refine lv_iload_n hx hb dX11_round_37 rfl (lv_at hl 1 rfl) ?_
      refine lv_if_ne (tgt := 43) hx hb dX11_round_38 (by decide) (fun c_13 => ?_) (fun c_13 => ?_)
      · replace hf := z_f c_13 hf
        refine lv_aload_n hx hb dX11_round_43 rfl (lv_at hl 0 rfl) ?_
        obtain ⟨r_14, σ_15, hc_16, hf⟩ := z_b_e hf
        refine go_v hR (mv_run (As := []) (rest := []) X hR mv_11_461 kh_160 (kd_lt kh_160 (by decide)) (c11_fillsTakes l G N hc_16) ⟨rfl, rfl, Nat.le_of_ble_eq_true rfl, Nat.le_of_ble_eq_true rfl⟩ rfl hl.1 rfl (Nat.le_of_ble_eq_true rfl) dX11_round_44 ⟨Nat.zero_le _, Nat.zero_le _⟩) (fun H locs hR => ?_)
        refine lv_iconst (v := (-1 : Int32)) hx hb dX11_round_47 (by decide) ?_
        refine lv_istore_n (lv' := [(3, .int (-1 : Int32)), (0, .ref (G.2.2 + 160)), (1, .int x1), (2, .int x2)]) hx hb dX11_round_48 rfl hl (by decide) rfl (fun ls hl => ?_)
        refine lv_iconst (v := (0 : Int32)) hx hb dX11_round_49 (by decide) ?_
        refine lv_istore (lv' := [(4, .int (0 : Int32)), (3, .int (-1 : Int32)), (0, .ref (G.2.2 + 160)), (1, .int x1), (2, .int x2)]) hx hb dX11_round_50 hl (by decide) rfl (fun ls hl => ?_)
        exact w11_round_52 X hr hlk N  N (-1 : Int32) (0 : Int32) σ_15 _ _ _ hf hR (lv_sub hl [2, 3, 4, 1, 0] rfl)
      · replace hf := z_t c_13 hf
        refine lv_iconst (v := (0 : Int32)) hx hb dX11_round_41 (by decide) ?_
        exact e_i X hR hr hlk hf dX11_round_42
    · replace hf := z_t c_12 hf
      refine lv_iconst (v := (-1 : Int32)) hx hb dX11_round_35 (by decide) ?_
      exact e_i X hR hr hlk hf dX11_round_36
end GEN
