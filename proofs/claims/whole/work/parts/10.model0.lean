section GEN
variable {p : Program} {l : Launch} {e : Env} {s : State} {m : MethodId} {args : Array Value} {below : List Frame} {meth : Method} {c : Code} {G : Gp} {r0 : Int32} {l0 : Int64} {u0 : Unit} {σ0 : Mm}

abbrev rm11_put : Room := { frames := 0, cells := 0, slots := 0, locals := 0 }
def f11_put_3 (N : Nat) (x1 : Int32) : Nat → Int32 → Mm → Option (Unit × Mm)
  | 0, _, _ => none
  | fu + 1, x2, σ => if x2 < 0 then (
  some ((), σ)) else (
  z_c (inB (gI σ 160 2) 2000) (z_l (sI σ 161 (ix (gI σ 160 2)) (vp_nar .byte (((x1 >>> (x2 &&& 31))).toInt8.toInt32))) fun σ_3 =>
  z_l (sI σ_3 160 2 ((gI σ_3 160 2) + (1 : Int32))) fun σ_4 =>
  z_l (x2 + (-8 : Int32)) fun x2_5 =>
  f11_put_3 N x1 fu x2_5 σ_4))
def f11_put (N : Nat) (x1 : Int32) (σ : Mm) : Option (Unit × Mm) :=
  f11_put_3 N x1 N (24 : Int32) σ
set_option maxHeartbeats 4000000 in
set_option maxRecDepth 100000 in
theorem w11_put_3 (X : Cx p s m args c cX11_put 3 RX11 G) (hr : meth.sig.returnType = none) (hlk : meth.locks = false) (N : Nat) {x1 : Int32} :
    ∀ (fu : Nat) (x2 : Int32) (σ : Mm) (H : Heap) (locs : List Loc) (ls : Array Slot), f11_put_3 N x1 fu x2 σ = some (u0, σ0) → Rp G 212 tt σ s H locs → lv_has ls 3 [(0, .ref (G.2.2 + 160)), (1, .int x1), (2, .int x2)] → W p l e rm11_put s m args below meth c H locs 0 0 (MQ below (P_v G 212 tt u0 σ0) args s 0 0 (Fr G)) (F0 m 3 ls []) := by
  have hx := X.1
  have hb := X.2.1
  intro fu
  induction fu with
  | zero =>
    intro x2 σ H locs ls hf hR hl
    rw [f11_put_3] at hf
    cases hf
  | succ fu ih =>
    intro x2 σ H locs ls hf hR hl
    rw [f11_put_3] at hf
    refine lv_iload_n hx hb dX11_put_3 rfl (lv_at hl 2 rfl) ?_
    refine lv_if_lt (tgt := 36) hx hb dX11_put_4 (by decide) (fun c_1 => ?_) (fun c_1 => ?_)
    · replace hf := z_t c_1 hf
      exact e_v X hR hr hlk hf dX11_put_36
    · replace hf := z_f c_1 hf
      refine lv_aload_n hx hb dX11_put_7 rfl (lv_at hl 0 rfl) ?_
      refine r_gs (t := 161) X hR fr_11_13 kh_160 (sx_11_1 kh_160) dX11_put_8 ?_
      refine lv_aload_n hx hb dX11_put_11 rfl (lv_at hl 0 rfl) ?_
      refine r_gi X hR fi_11_187 kh_160 dX11_put_12 ?_
      refine lv_iload_n hx hb dX11_put_15 rfl (lv_at hl 1 rfl) ?_
      refine lv_iload_n hx hb dX11_put_16 rfl (lv_at hl 2 rfl) ?_
      refine lv_ishr hx hb dX11_put_17 ?_
      refine lv_i2b (v := (((x1 >>> (x2 &&& 31))).toInt8.toInt32)) hx hb dX11_put_18 rfl ?_
      obtain ⟨hi_2, hf⟩ := z_c_e hf
      refine r_bas X hR ka_161 hi_2 dX11_put_19 (fun H locs σ_3 eσ_3 hR => ?_)
      replace hf := z_l_e eσ_3 hf
      refine lv_aload_n hx hb dX11_put_20 rfl (lv_at hl 0 rfl) ?_
      refine lv_dup hx hb dX11_put_21 rfl ?_
      refine r_gi X hR fi_11_187 kh_160 dX11_put_22 ?_
      refine lv_iconst (v := (1 : Int32)) hx hb dX11_put_25 (by decide) ?_
      refine lv_iadd hx hb dX11_put_26 ?_
      refine r_pi X hR pi_11_187 kh_160 dX11_put_27 (fun H locs σ_4 eσ_4 hR => ?_)
      replace hf := z_l_e eσ_4 hf
      obtain ⟨x2_5, ex2_5⟩ : ∃ z : Int32, z = x2 + (-8 : Int32) := ⟨_, rfl⟩
      replace hf := z_l_e ex2_5 hf
      refine lv_iinc (v := x2_5) (lv' := [(2, .int x2_5), (0, .ref (G.2.2 + 160)), (1, .int x1)]) hx hb dX11_put_30 hl (k := 2) rfl (by rw [ex2_5]; rfl) (by decide) rfl (fun ls hl => ?_)
      refine lv_goto (tgt := 3) hx hb dX11_put_33 (by decide) ?_
      exact ih x2_5 σ_4 _ _ _ hf hR (lv_sub hl [1, 2, 0] rfl)
set_option maxHeartbeats 4000000 in
set_option maxRecDepth 100000 in
theorem c11_put (l : Launch) (G : Gp) (N : Nat) {x1 : Int32} {σ σ0 : Mm} {u0 : Unit} (hf : f11_put N x1 σ = some (u0, σ0)) : Met l yX11_put (WS yX11_put cX11_put 3 (none)) rm11_put (va_Pc [.ref (G.2.2 + 160), .int x1] (Pd G 212 tt σ)) (P_v G 212 tt u0 σ0) 0 0 (Fr G) := by
  refine ct [(0, .ref (G.2.2 + 160)), (1, .int x1)] rfl (by decide) (Nat.le_of_ble_eq_true rfl) ?_
  intro p e s m below meth c ls X hr hlk hR hl
  have X : Cx p s m _ c cX11_put 3 RX11 G := X
  have hx := X.1
  have hb := X.2.1
  unfold f11_put at hf
  refine lv_bipush (v := (24 : Int32)) hx hb dX11_put_0 (by decide) ?_
  refine lv_istore_n (lv' := [(2, .int (24 : Int32)), (0, .ref (G.2.2 + 160)), (1, .int x1)]) hx hb dX11_put_2 rfl hl (by decide) rfl (fun ls hl => ?_)
  exact w11_put_3 X hr hlk N  N (24 : Int32) σ _ _ _ hf hR (lv_sub hl [1, 2, 0] rfl)
abbrev rm11_feed : Room := { frames := 1, cells := 0, slots := 0, locals := 22 }
def f11_feed (N : Nat) (x1 : Int32) (x2 : Int32) (x3 : Int32) (x4 : Int32) (x5 : Int32) (σ : Mm) : Option (Int32 × Mm) :=
  if ((gI σ 160 2) + (20 : Int32)) ≤ (2000 : Int32) then (
  z_b (f11_put N x1 σ) fun _ σ_3 =>
  z_b (f11_put N x2 σ_3) fun _ σ_6 =>
  z_b (f11_put N x3 σ_6) fun _ σ_9 =>
  z_b (f11_put N x4 σ_9) fun _ σ_12 =>
  z_b (f11_put N x5 σ_12) fun _ σ_15 =>
  some ((gI σ_15 160 2), σ_15)) else (
  some ((-1 : Int32), σ))
set_option maxHeartbeats 4000000 in
set_option maxRecDepth 100000 in
theorem c11_feed (l : Launch) (G : Gp) (N : Nat) {x1 : Int32} {x2 : Int32} {x3 : Int32} {x4 : Int32} {x5 : Int32} {σ σ0 : Mm} {r0 : Int32} (hf : f11_feed N x1 x2 x3 x4 x5 σ = some (r0, σ0)) : Met l yX11_feed (WS yX11_feed cX11_feed 6 (some .int)) rm11_feed (va_Pc [.ref (G.2.2 + 160), .int x1, .int x2, .int x3, .int x4, .int x5] (Pd G 212 tt σ)) (P_i G 212 tt r0 σ0) 0 0 (Fr G) := by
  refine ct [(0, .ref (G.2.2 + 160)), (1, .int x1), (2, .int x2), (3, .int x3), (4, .int x4), (5, .int x5)] rfl (by decide) (Nat.le_of_ble_eq_true rfl) ?_
  intro p e s m below meth c ls X hr hlk hR hl
  have X : Cx p s m _ c cX11_feed 6 RX11 G := X
  have hx := X.1
  have hb := X.2.1
  unfold f11_feed at hf
  refine lv_aload_n hx hb dX11_feed_0 rfl (lv_at hl 0 rfl) ?_
  refine r_gi X hR fi_11_187 kh_160 dX11_feed_1 ?_
  refine lv_bipush (v := (20 : Int32)) hx hb dX11_feed_4 (by decide) ?_
  refine lv_iadd hx hb dX11_feed_6 ?_
  refine lv_sipush (v := (2000 : Int32)) hx hb dX11_feed_7 (by decide) ?_
  refine lv_icmp_le (tgt := 15) hx hb dX11_feed_10 (by decide) (fun c_1 => ?_) (fun c_1 => ?_)
  · replace hf := z_t c_1 hf
    refine lv_aload_n hx hb dX11_feed_15 rfl (lv_at hl 0 rfl) ?_
    refine lv_iload_n hx hb dX11_feed_16 rfl (lv_at hl 1 rfl) ?_
    obtain ⟨r_2, σ_3, hc_4, hf⟩ := z_b_e hf
    refine go_v hR (mv_run (As := [.int x1]) (rest := []) X hR mv_11_190 kh_160 (kd_lt kh_160 (by decide)) (c11_put l G N hc_4) ⟨rfl, rfl, Nat.le_of_ble_eq_true rfl, Nat.le_of_ble_eq_true rfl⟩ rfl hl.1 rfl (Nat.le_of_ble_eq_true rfl) dX11_feed_17 ⟨Nat.zero_le _, Nat.zero_le _⟩) (fun H locs hR => ?_)
    refine lv_aload_n hx hb dX11_feed_20 rfl (lv_at hl 0 rfl) ?_
    refine lv_iload_n hx hb dX11_feed_21 rfl (lv_at hl 2 rfl) ?_
    obtain ⟨r_5, σ_6, hc_7, hf⟩ := z_b_e hf
    refine go_v hR (mv_run (As := [.int x2]) (rest := []) X hR mv_11_190 kh_160 (kd_lt kh_160 (by decide)) (c11_put l G N hc_7) ⟨rfl, rfl, Nat.le_of_ble_eq_true rfl, Nat.le_of_ble_eq_true rfl⟩ rfl hl.1 rfl (Nat.le_of_ble_eq_true rfl) dX11_feed_22 ⟨Nat.zero_le _, Nat.zero_le _⟩) (fun H locs hR => ?_)
    refine lv_aload_n hx hb dX11_feed_25 rfl (lv_at hl 0 rfl) ?_
    refine lv_iload_n hx hb dX11_feed_26 rfl (lv_at hl 3 rfl) ?_
    obtain ⟨r_8, σ_9, hc_10, hf⟩ := z_b_e hf
    refine go_v hR (mv_run (As := [.int x3]) (rest := []) X hR mv_11_190 kh_160 (kd_lt kh_160 (by decide)) (c11_put l G N hc_10) ⟨rfl, rfl, Nat.le_of_ble_eq_true rfl, Nat.le_of_ble_eq_true rfl⟩ rfl hl.1 rfl (Nat.le_of_ble_eq_true rfl) dX11_feed_27 ⟨Nat.zero_le _, Nat.zero_le _⟩) (fun H locs hR => ?_)
    refine lv_aload_n hx hb dX11_feed_30 rfl (lv_at hl 0 rfl) ?_
    refine lv_iload hx hb dX11_feed_31 (lv_at hl 4 rfl) ?_
    obtain ⟨r_11, σ_12, hc_13, hf⟩ := z_b_e hf
    refine go_v hR (mv_run (As := [.int x4]) (rest := []) X hR mv_11_190 kh_160 (kd_lt kh_160 (by decide)) (c11_put l G N hc_13) ⟨rfl, rfl, Nat.le_of_ble_eq_true rfl, Nat.le_of_ble_eq_true rfl⟩ rfl hl.1 rfl (Nat.le_of_ble_eq_true rfl) dX11_feed_33 ⟨Nat.zero_le _, Nat.zero_le _⟩) (fun H locs hR => ?_)
    refine lv_aload_n hx hb dX11_feed_36 rfl (lv_at hl 0 rfl) ?_
    refine lv_iload hx hb dX11_feed_37 (lv_at hl 5 rfl) ?_
    obtain ⟨r_14, σ_15, hc_16, hf⟩ := z_b_e hf
    refine go_v hR (mv_run (As := [.int x5]) (rest := []) X hR mv_11_190 kh_160 (kd_lt kh_160 (by decide)) (c11_put l G N hc_16) ⟨rfl, rfl, Nat.le_of_ble_eq_true rfl, Nat.le_of_ble_eq_true rfl⟩ rfl hl.1 rfl (Nat.le_of_ble_eq_true rfl) dX11_feed_39 ⟨Nat.zero_le _, Nat.zero_le _⟩) (fun H locs hR => ?_)
    refine lv_aload_n hx hb dX11_feed_42 rfl (lv_at hl 0 rfl) ?_
    refine r_gi X hR fi_11_187 kh_160 dX11_feed_43 ?_
    exact e_i X hR hr hlk hf dX11_feed_46
  · replace hf := z_f c_1 hf
    refine lv_iconst (v := (-1 : Int32)) hx hb dX11_feed_13 (by decide) ?_
    exact e_i X hR hr hlk hf dX11_feed_14
abbrev rm11_back : Room := { frames := 0, cells := 0, slots := 0, locals := 0 }
def f11_back (N : Nat) (x1 : Int32) (σ : Mm) : Option (Int32 × Mm) :=
  if x1 < 0 then (
  some ((-1 : Int32), σ)) else (
  if x1 ≤ (gI σ 160 2) then (
  z_l (sI σ 160 2 ((gI σ 160 2) - x1)) fun σ_3 =>
  some ((gI σ_3 160 2), σ_3)) else (
  some ((-1 : Int32), σ)))
set_option maxHeartbeats 4000000 in
set_option maxRecDepth 100000 in
theorem c11_back (l : Launch) (G : Gp) (N : Nat) {x1 : Int32} {σ σ0 : Mm} {r0 : Int32} (hf : f11_back N x1 σ = some (r0, σ0)) : Met l yX11_back (WS yX11_back cX11_back 2 (some .int)) rm11_back (va_Pc [.ref (G.2.2 + 160), .int x1] (Pd G 212 tt σ)) (P_i G 212 tt r0 σ0) 0 0 (Fr G) := by
  refine ct [(0, .ref (G.2.2 + 160)), (1, .int x1)] rfl (by decide) (Nat.le_of_ble_eq_true rfl) ?_
  intro p e s m below meth c ls X hr hlk hR hl
  have X : Cx p s m _ c cX11_back 2 RX11 G := X
  have hx := X.1
  have hb := X.2.1
  unfold f11_back at hf
  refine lv_iload_n hx hb dX11_back_0 rfl (lv_at hl 1 rfl) ?_
  refine lv_if_lt (tgt := 12) hx hb dX11_back_1 (by decide) (fun c_1 => ?_) (fun c_1 => ?_)
  · replace hf := z_t c_1 hf
    refine lv_iconst (v := (-1 : Int32)) hx hb dX11_back_12 (by decide) ?_
    exact e_i X hR hr hlk hf dX11_back_13
  · replace hf := z_f c_1 hf
    refine lv_iload_n hx hb dX11_back_4 rfl (lv_at hl 1 rfl) ?_
    refine lv_aload_n hx hb dX11_back_5 rfl (lv_at hl 0 rfl) ?_
    refine r_gi X hR fi_11_187 kh_160 dX11_back_6 ?_
    refine lv_icmp_le (tgt := 14) hx hb dX11_back_9 (by decide) (fun c_2 => ?_) (fun c_2 => ?_)
    · replace hf := z_t c_2 hf
      refine lv_aload_n hx hb dX11_back_14 rfl (lv_at hl 0 rfl) ?_
      refine lv_dup hx hb dX11_back_15 rfl ?_
      refine r_gi X hR fi_11_187 kh_160 dX11_back_16 ?_
      refine lv_iload_n hx hb dX11_back_19 rfl (lv_at hl 1 rfl) ?_
      refine lv_isub hx hb dX11_back_20 ?_
      refine r_pi X hR pi_11_187 kh_160 dX11_back_21 (fun H locs σ_3 eσ_3 hR => ?_)
      replace hf := z_l_e eσ_3 hf
      refine lv_aload_n hx hb dX11_back_24 rfl (lv_at hl 0 rfl) ?_
      refine r_gi X hR fi_11_187 kh_160 dX11_back_25 ?_
      exact e_i X hR hr hlk hf dX11_back_28
    · replace hf := z_f c_2 hf
      refine lv_iconst (v := (-1 : Int32)) hx hb dX11_back_12 (by decide) ?_
      exact e_i X hR hr hlk hf dX11_back_13
abbrev rm11_byteAt : Room := { frames := 0, cells := 0, slots := 0, locals := 0 }
def f11_byteAt (N : Nat) (x1 : Int32) (σ : Mm) : Option (Int32 × Mm) :=
  if (gI σ 160 4) ≤ x1 then (
  some ((0 : Int32), σ)) else (
  z_c (inB x1 2000) (
  some (((gI σ 162 (ix x1)) &&& (255 : Int32)), σ)))
set_option maxHeartbeats 4000000 in
set_option maxRecDepth 100000 in
theorem c11_byteAt (l : Launch) (G : Gp) (N : Nat) {x1 : Int32} {σ σ0 : Mm} {r0 : Int32} (hf : f11_byteAt N x1 σ = some (r0, σ0)) : Met l yX11_byteAt (WS yX11_byteAt cX11_byteAt 2 (some .int)) rm11_byteAt (va_Pc [.ref (G.2.2 + 160), .int x1] (Pd G 212 tt σ)) (P_i G 212 tt r0 σ0) 0 0 (Fr G) := by
  refine ct [(0, .ref (G.2.2 + 160)), (1, .int x1)] rfl (by decide) (Nat.le_of_ble_eq_true rfl) ?_
  intro p e s m below meth c ls X hr hlk hR hl
  have X : Cx p s m _ c cX11_byteAt 2 RX11 G := X
  have hx := X.1
  have hb := X.2.1
  unfold f11_byteAt at hf
  refine lv_iload_n hx hb dX11_byteAt_0 rfl (lv_at hl 1 rfl) ?_
  refine lv_aload_n hx hb dX11_byteAt_1 rfl (lv_at hl 0 rfl) ?_
  refine r_gi X hR fi_11_193 kh_160 dX11_byteAt_2 ?_
  refine lv_icmp_ge (tgt := 21) hx hb dX11_byteAt_5 (by decide) (fun c_1 => ?_) (fun c_1 => ?_)
  · replace hf := z_t c_1 hf
    refine lv_iconst (v := (0 : Int32)) hx hb dX11_byteAt_21 (by decide) ?_
    exact e_i X hR hr hlk hf dX11_byteAt_22
  · replace hf := z_f c_1 hf
    refine lv_aload_n hx hb dX11_byteAt_8 rfl (lv_at hl 0 rfl) ?_
    refine r_gs (t := 162) X hR fr_11_17 kh_160 (sx_11_3 kh_160) dX11_byteAt_9 ?_
    refine lv_iload_n hx hb dX11_byteAt_12 rfl (lv_at hl 1 rfl) ?_
    obtain ⟨hi_2, hf⟩ := z_c_e hf
    refine r_bal X hR ka_162 hi_2 dX11_byteAt_13 ?_
    refine lv_sipush (v := (255 : Int32)) hx hb dX11_byteAt_14 (by decide) ?_
    refine lv_iand hx hb dX11_byteAt_17 ?_
    refine lv_goto (tgt := 22) hx hb dX11_byteAt_18 (by decide) ?_
    exact e_i X hR hr hlk hf dX11_byteAt_22
abbrev rm11_isDigit : Room := { frames := 0, cells := 0, slots := 0, locals := 0 }
def f11_isDigit (N : Nat) (x0 : Int32) (σ : Mm) : Option (Int32 × Mm) :=
  if x0 < (48 : Int32) then (
  some ((0 : Int32), σ)) else (
  if (57 : Int32) < x0 then (
  some ((0 : Int32), σ)) else (
  some ((1 : Int32), σ)))
set_option maxHeartbeats 4000000 in
set_option maxRecDepth 100000 in
theorem c11_isDigit (l : Launch) (G : Gp) (N : Nat) {x0 : Int32} {σ σ0 : Mm} {r0 : Int32} (hf : f11_isDigit N x0 σ = some (r0, σ0)) : Met l yX11_isDigit (WS yX11_isDigit cX11_isDigit 1 (some .boolean)) rm11_isDigit (va_Pc [.int x0] (Pd G 212 tt σ)) (P_i G 212 tt r0 σ0) 0 0 (Fr G) := by
  refine ct [(0, .int x0)] rfl (by decide) (Nat.le_of_ble_eq_true rfl) ?_
  intro p e s m below meth c ls X hr hlk hR hl
  have X : Cx p s m _ c cX11_isDigit 1 RX11 G := X
  have hx := X.1
  have hb := X.2.1
  unfold f11_isDigit at hf
  refine lv_iload_n hx hb dX11_isDigit_0 rfl (lv_at hl 0 rfl) ?_
  refine lv_bipush (v := (48 : Int32)) hx hb dX11_isDigit_1 (by decide) ?_
  refine lv_icmp_lt (tgt := 16) hx hb dX11_isDigit_3 (by decide) (fun c_1 => ?_) (fun c_1 => ?_)
  · replace hf := z_t c_1 hf
    refine lv_iconst (v := (0 : Int32)) hx hb dX11_isDigit_16 (by decide) ?_
    exact e_z X hR hr hlk rfl hf dX11_isDigit_17
  · replace hf := z_f c_1 hf
    refine lv_iload_n hx hb dX11_isDigit_6 rfl (lv_at hl 0 rfl) ?_
    refine lv_bipush (v := (57 : Int32)) hx hb dX11_isDigit_7 (by decide) ?_
    refine lv_icmp_gt (tgt := 16) hx hb dX11_isDigit_9 (by decide) (fun c_2 => ?_) (fun c_2 => ?_)
    · replace hf := z_t c_2 hf
      refine lv_iconst (v := (0 : Int32)) hx hb dX11_isDigit_16 (by decide) ?_
      exact e_z X hR hr hlk rfl hf dX11_isDigit_17
    · replace hf := z_f c_2 hf
      refine lv_iconst (v := (1 : Int32)) hx hb dX11_isDigit_12 (by decide) ?_
      refine lv_goto (tgt := 17) hx hb dX11_isDigit_13 (by decide) ?_
      exact e_z X hR hr hlk rfl hf dX11_isDigit_17
abbrev rm11_isLetter : Room := { frames := 0, cells := 0, slots := 0, locals := 0 }
def f11_isLetter (N : Nat) (x0 : Int32) (σ : Mm) : Option (Int32 × Mm) :=
  if x0 < (97 : Int32) then (
  some ((0 : Int32), σ)) else (
  if (122 : Int32) < x0 then (
  some ((0 : Int32), σ)) else (
  some ((1 : Int32), σ)))
set_option maxHeartbeats 4000000 in
set_option maxRecDepth 100000 in
theorem c11_isLetter (l : Launch) (G : Gp) (N : Nat) {x0 : Int32} {σ σ0 : Mm} {r0 : Int32} (hf : f11_isLetter N x0 σ = some (r0, σ0)) : Met l yX11_isLetter (WS yX11_isLetter cX11_isLetter 1 (some .boolean)) rm11_isLetter (va_Pc [.int x0] (Pd G 212 tt σ)) (P_i G 212 tt r0 σ0) 0 0 (Fr G) := by
  refine ct [(0, .int x0)] rfl (by decide) (Nat.le_of_ble_eq_true rfl) ?_
  intro p e s m below meth c ls X hr hlk hR hl
  have X : Cx p s m _ c cX11_isLetter 1 RX11 G := X
  have hx := X.1
  have hb := X.2.1
  unfold f11_isLetter at hf
  refine lv_iload_n hx hb dX11_isLetter_0 rfl (lv_at hl 0 rfl) ?_
  refine lv_bipush (v := (97 : Int32)) hx hb dX11_isLetter_1 (by decide) ?_
  refine lv_icmp_lt (tgt := 16) hx hb dX11_isLetter_3 (by decide) (fun c_1 => ?_) (fun c_1 => ?_)
  · replace hf := z_t c_1 hf
    refine lv_iconst (v := (0 : Int32)) hx hb dX11_isLetter_16 (by decide) ?_
    exact e_z X hR hr hlk rfl hf dX11_isLetter_17
  · replace hf := z_f c_1 hf
    refine lv_iload_n hx hb dX11_isLetter_6 rfl (lv_at hl 0 rfl) ?_
    refine lv_bipush (v := (122 : Int32)) hx hb dX11_isLetter_7 (by decide) ?_
    refine lv_icmp_gt (tgt := 16) hx hb dX11_isLetter_9 (by decide) (fun c_2 => ?_) (fun c_2 => ?_)
    · replace hf := z_t c_2 hf
      refine lv_iconst (v := (0 : Int32)) hx hb dX11_isLetter_16 (by decide) ?_
      exact e_z X hR hr hlk rfl hf dX11_isLetter_17
    · replace hf := z_f c_2 hf
      refine lv_iconst (v := (1 : Int32)) hx hb dX11_isLetter_12 (by decide) ?_
      refine lv_goto (tgt := 17) hx hb dX11_isLetter_13 (by decide) ?_
      exact e_z X hR hr hlk rfl hf dX11_isLetter_17
abbrev rm11_appends : Room := { frames := 0, cells := 0, slots := 0, locals := 0 }
def f11_appends (N : Nat) (x0 : Int64) (x2 : Int32) (σ : Mm) : Option (Int64 × Mm) :=
  if x2 = 0 then (
  some (x0, σ)) else (
  some ((((27 : Int64) * x0) + ((((x2 - (97 : Int32)) + (1 : Int32))).toInt64)), σ))
set_option maxHeartbeats 4000000 in
set_option maxRecDepth 100000 in
theorem c11_appends (l : Launch) (G : Gp) (N : Nat) {x0 : Int64} {x2 : Int32} {σ σ0 : Mm} {l0 : Int64} (hf : f11_appends N x0 x2 σ = some (l0, σ0)) : Met l yX11_appends (WS yX11_appends cX11_appends 3 (some .long)) rm11_appends (va_Pc [.long x0, .int x2] (Pd G 212 tt σ)) (P_l G 212 tt l0 σ0) 0 0 (Fr G) := by
  refine ct [(0, .long x0), (2, .int x2)] rfl (by decide) (Nat.le_of_ble_eq_true rfl) ?_
  intro p e s m below meth c ls X hr hlk hR hl
  have X : Cx p s m _ c cX11_appends 3 RX11 G := X
  have hx := X.1
  have hb := X.2.1
  unfold f11_appends at hf
  refine lv_iload_n hx hb dX11_appends_0 rfl (lv_at hl 1 rfl) ?_
  refine lv_if_ne (tgt := 8) hx hb dX11_appends_1 (by decide) (fun c_1 => ?_) (fun c_1 => ?_)
  · replace hf := z_f c_1 hf
    refine lv_ldc2 hx hb X.2.2.2.1 (X.2.2.2.2.1 _ col_11_196) dX11_appends_8 ?_
    refine lv_lload_n hx hb dX11_appends_11 rfl (lv_at hl 0 rfl) ?_
    refine lv_lmul hx hb dX11_appends_12 ?_
    refine lv_iload_n hx hb dX11_appends_13 rfl (lv_at hl 1 rfl) ?_
    refine lv_bipush (v := (97 : Int32)) hx hb dX11_appends_14 (by decide) ?_
    refine lv_isub hx hb dX11_appends_16 ?_
    refine lv_iconst (v := (1 : Int32)) hx hb dX11_appends_17 (by decide) ?_
    refine lv_iadd hx hb dX11_appends_18 ?_
    refine lv_i2l (v := ((((x2 - (97 : Int32)) + (1 : Int32))).toInt64)) hx hb dX11_appends_19 rfl ?_
    refine lv_ladd hx hb dX11_appends_20 ?_
    exact e_l X hR hr hlk hf dX11_appends_21
  · replace hf := z_t c_1 hf
    refine lv_lload_n hx hb dX11_appends_4 rfl (lv_at hl 0 rfl) ?_
    refine lv_goto (tgt := 21) hx hb dX11_appends_5 (by decide) ?_
    exact e_l X hR hr hlk hf dX11_appends_21
abbrev rm11_word : Room := { frames := 1, cells := 0, slots := 0, locals := 22 }
def f11_word (N : Nat) (x0 : Int32) (x1 : Int32) (x2 : Int32) (x3 : Int32) (x4 : Int32) (x5 : Int32) (x6 : Int32) (σ : Mm) : Option (Int64 × Mm) :=
  z_b (f11_appends N (0 : Int64) x0 σ) fun r_1 σ_2 =>
  z_b (f11_appends N r_1 x1 σ_2) fun r_4 σ_5 =>
  z_b (f11_appends N r_4 x2 σ_5) fun r_7 σ_8 =>
  z_b (f11_appends N r_7 x3 σ_8) fun r_10 σ_11 =>
  z_b (f11_appends N r_10 x4 σ_11) fun r_13 σ_14 =>
  z_b (f11_appends N r_13 x5 σ_14) fun r_16 σ_17 =>
  z_b (f11_appends N r_16 x6 σ_17) fun r_19 σ_20 =>
  some (r_19, σ_20)
set_option maxHeartbeats 4000000 in
set_option maxRecDepth 100000 in
theorem c11_word (l : Launch) (G : Gp) (N : Nat) {x0 : Int32} {x1 : Int32} {x2 : Int32} {x3 : Int32} {x4 : Int32} {x5 : Int32} {x6 : Int32} {σ σ0 : Mm} {l0 : Int64} (hf : f11_word N x0 x1 x2 x3 x4 x5 x6 σ = some (l0, σ0)) : Met l yX11_word (WS yX11_word cX11_word 7 (some .long)) rm11_word (va_Pc [.int x0, .int x1, .int x2, .int x3, .int x4, .int x5, .int x6] (Pd G 212 tt σ)) (P_l G 212 tt l0 σ0) 0 0 (Fr G) := by
  refine ct [(0, .int x0), (1, .int x1), (2, .int x2), (3, .int x3), (4, .int x4), (5, .int x5), (6, .int x6)] rfl (by decide) (Nat.le_of_ble_eq_true rfl) ?_
  intro p e s m below meth c ls X hr hlk hR hl
  have X : Cx p s m _ c cX11_word 7 RX11 G := X
  have hx := X.1
  have hb := X.2.1
  unfold f11_word at hf
  refine lv_lconst (v := (0 : Int64)) hx hb dX11_word_0 (by decide) ?_
  refine lv_iload_n hx hb dX11_word_1 rfl (lv_at hl 0 rfl) ?_
  obtain ⟨r_1, σ_2, hc_3, hf⟩ := z_b_e hf
  refine go_l hR (ms_run (As := [.long (0 : Int64), .int x0]) (rest := []) X hR ms_11_198 (c11_appends l G N hc_3) ⟨rfl, rfl, Nat.le_of_ble_eq_true rfl, Nat.le_of_ble_eq_true rfl⟩ rfl hl.1 rfl (Nat.le_of_ble_eq_true rfl) dX11_word_2 ⟨Nat.zero_le _, Nat.zero_le _⟩) (fun H locs hR => ?_)
  refine lv_iload_n hx hb dX11_word_5 rfl (lv_at hl 1 rfl) ?_
  obtain ⟨r_4, σ_5, hc_6, hf⟩ := z_b_e hf
  refine go_l hR (ms_run (As := [.long r_1, .int x1]) (rest := []) X hR ms_11_198 (c11_appends l G N hc_6) ⟨rfl, rfl, Nat.le_of_ble_eq_true rfl, Nat.le_of_ble_eq_true rfl⟩ rfl hl.1 rfl (Nat.le_of_ble_eq_true rfl) dX11_word_6 ⟨Nat.zero_le _, Nat.zero_le _⟩) (fun H locs hR => ?_)
  refine lv_iload_n hx hb dX11_word_9 rfl (lv_at hl 2 rfl) ?_
  obtain ⟨r_7, σ_8, hc_9, hf⟩ := z_b_e hf
  refine go_l hR (ms_run (As := [.long r_4, .int x2]) (rest := []) X hR ms_11_198 (c11_appends l G N hc_9) ⟨rfl, rfl, Nat.le_of_ble_eq_true rfl, Nat.le_of_ble_eq_true rfl⟩ rfl hl.1 rfl (Nat.le_of_ble_eq_true rfl) dX11_word_10 ⟨Nat.zero_le _, Nat.zero_le _⟩) (fun H locs hR => ?_)
  refine lv_iload_n hx hb dX11_word_13 rfl (lv_at hl 3 rfl) ?_
  obtain ⟨r_10, σ_11, hc_12, hf⟩ := z_b_e hf
  refine go_l hR (ms_run (As := [.long r_7, .int x3]) (rest := []) X hR ms_11_198 (c11_appends l G N hc_12) ⟨rfl, rfl, Nat.le_of_ble_eq_true rfl, Nat.le_of_ble_eq_true rfl⟩ rfl hl.1 rfl (Nat.le_of_ble_eq_true rfl) dX11_word_14 ⟨Nat.zero_le _, Nat.zero_le _⟩) (fun H locs hR => ?_)
  refine lv_iload hx hb dX11_word_17 (lv_at hl 4 rfl) ?_
  obtain ⟨r_13, σ_14, hc_15, hf⟩ := z_b_e hf
  refine go_l hR (ms_run (As := [.long r_10, .int x4]) (rest := []) X hR ms_11_198 (c11_appends l G N hc_15) ⟨rfl, rfl, Nat.le_of_ble_eq_true rfl, Nat.le_of_ble_eq_true rfl⟩ rfl hl.1 rfl (Nat.le_of_ble_eq_true rfl) dX11_word_19 ⟨Nat.zero_le _, Nat.zero_le _⟩) (fun H locs hR => ?_)
  refine lv_iload hx hb dX11_word_22 (lv_at hl 5 rfl) ?_
  obtain ⟨r_16, σ_17, hc_18, hf⟩ := z_b_e hf
  refine go_l hR (ms_run (As := [.long r_13, .int x5]) (rest := []) X hR ms_11_198 (c11_appends l G N hc_18) ⟨rfl, rfl, Nat.le_of_ble_eq_true rfl, Nat.le_of_ble_eq_true rfl⟩ rfl hl.1 rfl (Nat.le_of_ble_eq_true rfl) dX11_word_24 ⟨Nat.zero_le _, Nat.zero_le _⟩) (fun H locs hR => ?_)
  refine lv_iload hx hb dX11_word_27 (lv_at hl 6 rfl) ?_
  obtain ⟨r_19, σ_20, hc_21, hf⟩ := z_b_e hf
  refine go_l hR (ms_run (As := [.long r_16, .int x6]) (rest := []) X hR ms_11_198 (c11_appends l G N hc_21) ⟨rfl, rfl, Nat.le_of_ble_eq_true rfl, Nat.le_of_ble_eq_true rfl⟩ rfl hl.1 rfl (Nat.le_of_ble_eq_true rfl) dX11_word_29 ⟨Nat.zero_le _, Nat.zero_le _⟩) (fun H locs hR => ?_)
  exact e_l X hR hr hlk hf dX11_word_32
abbrev rm11_token : Room := { frames := 0, cells := 0, slots := 0, locals := 0 }
def f11_token (N : Nat) (x1 : Int32) (x2 : Int32) (x3 : Int32) (x4 : Int64) (σ : Mm) : Option (Unit × Mm) :=
  z_c (inB (gI σ 160 10) 403) (z_l (sI σ 163 (ix (gI σ 160 10)) x1) fun σ_2 =>
  z_c (inB (gI σ_2 160 10) 403) (z_l (sI σ_2 164 (ix (gI σ_2 160 10)) x2) fun σ_4 =>
  z_c (inB (gI σ_4 160 10) 403) (z_l (sI σ_4 165 (ix (gI σ_4 160 10)) x3) fun σ_6 =>
  z_c (inB (gI σ_6 160 10) 403) (z_l (sL σ_6 166 (ix (gI σ_6 160 10)) x4) fun σ_8 =>
  z_l (sI σ_8 160 10 ((gI σ_8 160 10) + (1 : Int32))) fun σ_9 =>
  some ((), σ_9)))))
set_option maxHeartbeats 4000000 in
set_option maxRecDepth 100000 in
theorem c11_token (l : Launch) (G : Gp) (N : Nat) {x1 : Int32} {x2 : Int32} {x3 : Int32} {x4 : Int64} {σ σ0 : Mm} {u0 : Unit} (hf : f11_token N x1 x2 x3 x4 σ = some (u0, σ0)) : Met l yX11_token (WS yX11_token cX11_token 6 (none)) rm11_token (va_Pc [.ref (G.2.2 + 160), .int x1, .int x2, .int x3, .long x4] (Pd G 212 tt σ)) (P_v G 212 tt u0 σ0) 0 0 (Fr G) := by
  refine ct [(0, .ref (G.2.2 + 160)), (1, .int x1), (2, .int x2), (3, .int x3), (4, .long x4)] rfl (by decide) (Nat.le_of_ble_eq_true rfl) ?_
  intro p e s m below meth c ls X hr hlk hR hl
  have X : Cx p s m _ c cX11_token 6 RX11 G := X
  have hx := X.1
  have hb := X.2.1
  unfold f11_token at hf
  refine lv_aload_n hx hb dX11_token_0 rfl (lv_at hl 0 rfl) ?_
  refine r_gs (t := 163) X hR fr_11_20 kh_160 (sx_11_5 kh_160) dX11_token_1 ?_
  refine lv_aload_n hx hb dX11_token_4 rfl (lv_at hl 0 rfl) ?_
  refine r_gi X hR fi_11_202 kh_160 dX11_token_5 ?_
  refine lv_iload_n hx hb dX11_token_8 rfl (lv_at hl 1 rfl) ?_
  obtain ⟨hi_1, hf⟩ := z_c_e hf
  refine r_ias X hR ka_163 hi_1 dX11_token_9 (fun H locs σ_2 eσ_2 hR => ?_)
  replace hf := z_l_e eσ_2 hf
  refine lv_aload_n hx hb dX11_token_10 rfl (lv_at hl 0 rfl) ?_
  refine r_gs (t := 164) X hR fr_11_24 kh_160 (sx_11_6 kh_160) dX11_token_11 ?_
  refine lv_aload_n hx hb dX11_token_14 rfl (lv_at hl 0 rfl) ?_
  refine r_gi X hR fi_11_202 kh_160 dX11_token_15 ?_
  refine lv_iload_n hx hb dX11_token_18 rfl (lv_at hl 2 rfl) ?_
  obtain ⟨hi_3, hf⟩ := z_c_e hf
  refine r_ias X hR ka_164 hi_3 dX11_token_19 (fun H locs σ_4 eσ_4 hR => ?_)
  replace hf := z_l_e eσ_4 hf
  refine lv_aload_n hx hb dX11_token_20 rfl (lv_at hl 0 rfl) ?_
  refine r_gs (t := 165) X hR fr_11_27 kh_160 (sx_11_7 kh_160) dX11_token_21 ?_
  refine lv_aload_n hx hb dX11_token_24 rfl (lv_at hl 0 rfl) ?_
  refine r_gi X hR fi_11_202 kh_160 dX11_token_25 ?_
  refine lv_iload_n hx hb dX11_token_28 rfl (lv_at hl 3 rfl) ?_
  obtain ⟨hi_5, hf⟩ := z_c_e hf
  refine r_ias X hR ka_165 hi_5 dX11_token_29 (fun H locs σ_6 eσ_6 hR => ?_)
  replace hf := z_l_e eσ_6 hf
  refine lv_aload_n hx hb dX11_token_30 rfl (lv_at hl 0 rfl) ?_
  refine r_gs (t := 166) X hR fr_11_30 kh_160 (sx_11_8 kh_160) dX11_token_31 ?_
  refine lv_aload_n hx hb dX11_token_34 rfl (lv_at hl 0 rfl) ?_
  refine r_gi X hR fi_11_202 kh_160 dX11_token_35 ?_
  refine lv_lload hx hb dX11_token_38 (lv_at hl 4 rfl) ?_
  obtain ⟨hi_7, hf⟩ := z_c_e hf
  refine r_las X hR ka_166 hi_7 dX11_token_40 (fun H locs σ_8 eσ_8 hR => ?_)
  replace hf := z_l_e eσ_8 hf
  refine lv_aload_n hx hb dX11_token_41 rfl (lv_at hl 0 rfl) ?_
  refine lv_dup hx hb dX11_token_42 rfl ?_
  refine r_gi X hR fi_11_202 kh_160 dX11_token_43 ?_
  refine lv_iconst (v := (1 : Int32)) hx hb dX11_token_46 (by decide) ?_
  refine lv_iadd hx hb dX11_token_47 ?_
  refine r_pi X hR pi_11_202 kh_160 dX11_token_48 (fun H locs σ_9 eσ_9 hR => ?_)
  replace hf := z_l_e eσ_9 hf
  exact e_v X hR hr hlk hf dX11_token_51
abbrev rm11_sign : Room := { frames := 1, cells := 0, slots := 0, locals := 25 }
def f11_sign_95 (N : Nat) (x1 : Int32) (x4 : Int32) (σ : Mm) : Option (Int32 × Mm) :=
  z_b (f11_token N x4 x1 (0 : Int32) (0 : Int64) σ) fun _ σ_11 =>
  some ((1 : Int32), σ_11)
def f11_sign_85 (N : Nat) (x1 : Int32) (x2 : Int32) (x4 : Int32) (σ : Mm) : Option (Int32 × Mm) :=
  if x2 = (60 : Int32) then (
  f11_sign_95 N x1 (13 : Int32) σ) else (
  f11_sign_95 N x1 x4 σ)
def f11_sign_75 (N : Nat) (x1 : Int32) (x2 : Int32) (x4 : Int32) (σ : Mm) : Option (Int32 × Mm) :=
  if x2 = (47 : Int32) then (
  f11_sign_85 N x1 x2 (15 : Int32) σ) else (
  f11_sign_85 N x1 x2 x4 σ)
def f11_sign_65 (N : Nat) (x1 : Int32) (x2 : Int32) (x4 : Int32) (σ : Mm) : Option (Int32 × Mm) :=
  if x2 = (42 : Int32) then (
  f11_sign_75 N x1 x2 (10 : Int32) σ) else (
  f11_sign_75 N x1 x2 x4 σ)
def f11_sign_55 (N : Nat) (x1 : Int32) (x2 : Int32) (x4 : Int32) (σ : Mm) : Option (Int32 × Mm) :=
  if x2 = (45 : Int32) then (
  f11_sign_65 N x1 x2 (9 : Int32) σ) else (
  f11_sign_65 N x1 x2 x4 σ)
def f11_sign_43 (N : Nat) (x1 : Int32) (x2 : Int32) (s0 : Int32) (σ : Mm) : Option (Int32 × Mm) :=
  if x2 = (43 : Int32) then (
  f11_sign_55 N x1 x2 (8 : Int32) σ) else (
  f11_sign_55 N x1 x2 s0 σ)
def f11_sign (N : Nat) (x1 : Int32) (x2 : Int32) (x3 : Int32) (σ : Mm) : Option (Int32 × Mm) :=
  if x2 = (59 : Int32) then (
  f11_sign_43 N x1 x2 (4 : Int32) σ) else (
  if x2 = (61 : Int32) then (
  f11_sign_43 N x1 x2 (5 : Int32) σ) else (
  if x2 = (40 : Int32) then (
  f11_sign_43 N x1 x2 (6 : Int32) σ) else (
  if x2 = (41 : Int32) then (
  f11_sign_43 N x1 x2 (7 : Int32) σ) else (
  f11_sign_43 N x1 x2 (3 : Int32) σ))))
set_option maxHeartbeats 4000000 in
set_option maxRecDepth 100000 in
theorem w11_sign_95 (X : Cx p s m args c cX11_sign 5 RX11 G) (hr : meth.sig.returnType = some .int) (hlk : meth.locks = false) (N : Nat) :
    ∀ (x1 : Int32) (x4 : Int32) (σ : Mm) (H : Heap) (locs : List Loc) (ls : Array Slot), f11_sign_95 N x1 x4 σ = some (r0, σ0) → Rp G 212 tt σ s H locs → lv_has ls 5 [(0, .ref (G.2.2 + 160)), (1, .int x1), (4, .int x4)] → W p l e rm11_sign s m args below meth c H locs 0 0 (MQ below (P_i G 212 tt r0 σ0) args s 0 0 (Fr G)) (F0 m 95 ls []) := by
  have hx := X.1
  have hb := X.2.1
  intro x1 x4 σ H locs ls hf hR hl
  unfold f11_sign_95 at hf
  refine lv_aload_n hx hb dX11_sign_95 rfl (lv_at hl 0 rfl) ?_
  refine lv_iload hx hb dX11_sign_96 (lv_at hl 2 rfl) ?_
  refine lv_iload_n hx hb dX11_sign_98 rfl (lv_at hl 1 rfl) ?_
  refine lv_iconst (v := (0 : Int32)) hx hb dX11_sign_99 (by decide) ?_
  refine lv_lconst (v := (0 : Int64)) hx hb dX11_sign_100 (by decide) ?_
  obtain ⟨r_10, σ_11, hc_12, hf⟩ := z_b_e hf
  refine go_v hR (mv_run (As := [.int x4, .int x1, .int (0 : Int32), .long (0 : Int64)]) (rest := []) X hR mv_11_209 kh_160 (kd_lt kh_160 (by decide)) (c11_token l G N hc_12) ⟨rfl, rfl, Nat.le_of_ble_eq_true rfl, Nat.le_of_ble_eq_true rfl⟩ rfl hl.1 rfl (Nat.le_of_ble_eq_true rfl) dX11_sign_101 ⟨Nat.zero_le _, Nat.zero_le _⟩) (fun H locs hR => ?_)
  refine lv_iconst (v := (1 : Int32)) hx hb dX11_sign_104 (by decide) ?_
  exact e_i X hR hr hlk hf dX11_sign_105
set_option maxHeartbeats 4000000 in
set_option maxRecDepth 100000 in
theorem w11_sign_85 (X : Cx p s m args c cX11_sign 5 RX11 G) (hr : meth.sig.returnType = some .int) (hlk : meth.locks = false) (N : Nat) :
    ∀ (x1 : Int32) (x2 : Int32) (x4 : Int32) (σ : Mm) (H : Heap) (locs : List Loc) (ls : Array Slot), f11_sign_85 N x1 x2 x4 σ = some (r0, σ0) → Rp G 212 tt σ s H locs → lv_has ls 5 [(0, .ref (G.2.2 + 160)), (1, .int x1), (2, .int x2), (4, .int x4)] → W p l e rm11_sign s m args below meth c H locs 0 0 (MQ below (P_i G 212 tt r0 σ0) args s 0 0 (Fr G)) (F0 m 85 ls []) := by
  have hx := X.1
  have hb := X.2.1
  intro x1 x2 x4 σ H locs ls hf hR hl
  unfold f11_sign_85 at hf
  refine lv_iload_n hx hb dX11_sign_85 rfl (lv_at hl 2 rfl) ?_
  refine lv_bipush (v := (60 : Int32)) hx hb dX11_sign_86 (by decide) ?_
  refine lv_icmp_ne (tgt := 95) hx hb dX11_sign_88 (by decide) (fun c_9 => ?_) (fun c_9 => ?_)
  · replace hf := z_f c_9 hf
    exact w11_sign_95 X hr hlk N  x1 x4 σ _ _ _ hf hR (lv_sub hl [0, 1, 3] rfl)
  · replace hf := z_t c_9 hf
    refine lv_bipush (v := (13 : Int32)) hx hb dX11_sign_91 (by decide) ?_
    refine lv_istore (lv' := [(4, .int (13 : Int32)), (0, .ref (G.2.2 + 160)), (1, .int x1), (2, .int x2)]) hx hb dX11_sign_93 hl (by decide) rfl (fun ls hl => ?_)
    exact w11_sign_95 X hr hlk N  x1 (13 : Int32) σ _ _ _ hf hR (lv_sub hl [1, 2, 0] rfl)
set_option maxHeartbeats 4000000 in
set_option maxRecDepth 100000 in
theorem w11_sign_75 (X : Cx p s m args c cX11_sign 5 RX11 G) (hr : meth.sig.returnType = some .int) (hlk : meth.locks = false) (N : Nat) :
    ∀ (x1 : Int32) (x2 : Int32) (x4 : Int32) (σ : Mm) (H : Heap) (locs : List Loc) (ls : Array Slot), f11_sign_75 N x1 x2 x4 σ = some (r0, σ0) → Rp G 212 tt σ s H locs → lv_has ls 5 [(0, .ref (G.2.2 + 160)), (1, .int x1), (2, .int x2), (4, .int x4)] → W p l e rm11_sign s m args below meth c H locs 0 0 (MQ below (P_i G 212 tt r0 σ0) args s 0 0 (Fr G)) (F0 m 75 ls []) := by
  have hx := X.1
  have hb := X.2.1
  intro x1 x2 x4 σ H locs ls hf hR hl
  unfold f11_sign_75 at hf
  refine lv_iload_n hx hb dX11_sign_75 rfl (lv_at hl 2 rfl) ?_
  refine lv_bipush (v := (47 : Int32)) hx hb dX11_sign_76 (by decide) ?_
  refine lv_icmp_ne (tgt := 85) hx hb dX11_sign_78 (by decide) (fun c_8 => ?_) (fun c_8 => ?_)
  · replace hf := z_f c_8 hf
    exact w11_sign_85 X hr hlk N  x1 x2 x4 σ _ _ _ hf hR (lv_sub hl [0, 1, 2, 3] rfl)
  · replace hf := z_t c_8 hf
    refine lv_bipush (v := (15 : Int32)) hx hb dX11_sign_81 (by decide) ?_
    refine lv_istore (lv' := [(4, .int (15 : Int32)), (0, .ref (G.2.2 + 160)), (1, .int x1), (2, .int x2)]) hx hb dX11_sign_83 hl (by decide) rfl (fun ls hl => ?_)
    exact w11_sign_85 X hr hlk N  x1 x2 (15 : Int32) σ _ _ _ hf hR (lv_sub hl [1, 2, 3, 0] rfl)
set_option maxHeartbeats 4000000 in
set_option maxRecDepth 100000 in
theorem w11_sign_65 (X : Cx p s m args c cX11_sign 5 RX11 G) (hr : meth.sig.returnType = some .int) (hlk : meth.locks = false) (N : Nat) :
    ∀ (x1 : Int32) (x2 : Int32) (x4 : Int32) (σ : Mm) (H : Heap) (locs : List Loc) (ls : Array Slot), f11_sign_65 N x1 x2 x4 σ = some (r0, σ0) → Rp G 212 tt σ s H locs → lv_has ls 5 [(0, .ref (G.2.2 + 160)), (1, .int x1), (2, .int x2), (4, .int x4)] → W p l e rm11_sign s m args below meth c H locs 0 0 (MQ below (P_i G 212 tt r0 σ0) args s 0 0 (Fr G)) (F0 m 65 ls []) := by
  have hx := X.1
  have hb := X.2.1
  intro x1 x2 x4 σ H locs ls hf hR hl
  unfold f11_sign_65 at hf
  refine lv_iload_n hx hb dX11_sign_65 rfl (lv_at hl 2 rfl) ?_
  refine lv_bipush (v := (42 : Int32)) hx hb dX11_sign_66 (by decide) ?_
  refine lv_icmp_ne (tgt := 75) hx hb dX11_sign_68 (by decide) (fun c_7 => ?_) (fun c_7 => ?_)
  · replace hf := z_f c_7 hf
    exact w11_sign_75 X hr hlk N  x1 x2 x4 σ _ _ _ hf hR (lv_sub hl [0, 1, 2, 3] rfl)
  · replace hf := z_t c_7 hf
    refine lv_bipush (v := (10 : Int32)) hx hb dX11_sign_71 (by decide) ?_
    refine lv_istore (lv' := [(4, .int (10 : Int32)), (0, .ref (G.2.2 + 160)), (1, .int x1), (2, .int x2)]) hx hb dX11_sign_73 hl (by decide) rfl (fun ls hl => ?_)
    exact w11_sign_75 X hr hlk N  x1 x2 (10 : Int32) σ _ _ _ hf hR (lv_sub hl [1, 2, 3, 0] rfl)
set_option maxHeartbeats 4000000 in
set_option maxRecDepth 100000 in
theorem w11_sign_55 (X : Cx p s m args c cX11_sign 5 RX11 G) (hr : meth.sig.returnType = some .int) (hlk : meth.locks = false) (N : Nat) :
    ∀ (x1 : Int32) (x2 : Int32) (x4 : Int32) (σ : Mm) (H : Heap) (locs : List Loc) (ls : Array Slot), f11_sign_55 N x1 x2 x4 σ = some (r0, σ0) → Rp G 212 tt σ s H locs → lv_has ls 5 [(0, .ref (G.2.2 + 160)), (1, .int x1), (2, .int x2), (4, .int x4)] → W p l e rm11_sign s m args below meth c H locs 0 0 (MQ below (P_i G 212 tt r0 σ0) args s 0 0 (Fr G)) (F0 m 55 ls []) := by
  have hx := X.1
  have hb := X.2.1
  intro x1 x2 x4 σ H locs ls hf hR hl
  unfold f11_sign_55 at hf
  refine lv_iload_n hx hb dX11_sign_55 rfl (lv_at hl 2 rfl) ?_
  refine lv_bipush (v := (45 : Int32)) hx hb dX11_sign_56 (by decide) ?_
  refine lv_icmp_ne (tgt := 65) hx hb dX11_sign_58 (by decide) (fun c_6 => ?_) (fun c_6 => ?_)
  · replace hf := z_f c_6 hf
    exact w11_sign_65 X hr hlk N  x1 x2 x4 σ _ _ _ hf hR (lv_sub hl [0, 1, 2, 3] rfl)
  · replace hf := z_t c_6 hf
    refine lv_bipush (v := (9 : Int32)) hx hb dX11_sign_61 (by decide) ?_
    refine lv_istore (lv' := [(4, .int (9 : Int32)), (0, .ref (G.2.2 + 160)), (1, .int x1), (2, .int x2)]) hx hb dX11_sign_63 hl (by decide) rfl (fun ls hl => ?_)
    exact w11_sign_65 X hr hlk N  x1 x2 (9 : Int32) σ _ _ _ hf hR (lv_sub hl [1, 2, 3, 0] rfl)
set_option maxHeartbeats 4000000 in
set_option maxRecDepth 100000 in
theorem w11_sign_43 (X : Cx p s m args c cX11_sign 5 RX11 G) (hr : meth.sig.returnType = some .int) (hlk : meth.locks = false) (N : Nat) :
    ∀ (x1 : Int32) (x2 : Int32) (s0 : Int32) (σ : Mm) (H : Heap) (locs : List Loc) (ls : Array Slot), f11_sign_43 N x1 x2 s0 σ = some (r0, σ0) → Rp G 212 tt σ s H locs → lv_has ls 5 [(0, .ref (G.2.2 + 160)), (1, .int x1), (2, .int x2)] → W p l e rm11_sign s m args below meth c H locs 0 0 (MQ below (P_i G 212 tt r0 σ0) args s 0 0 (Fr G)) (F0 m 43 ls [.int s0]) := by
  have hx := X.1
  have hb := X.2.1
  intro x1 x2 s0 σ H locs ls hf hR hl
  unfold f11_sign_43 at hf
  refine lv_istore (lv' := [(4, .int s0), (0, .ref (G.2.2 + 160)), (1, .int x1), (2, .int x2)]) hx hb dX11_sign_43 hl (by decide) rfl (fun ls hl => ?_)
  refine lv_iload_n hx hb dX11_sign_45 rfl (lv_at hl 3 rfl) ?_
  refine lv_bipush (v := (43 : Int32)) hx hb dX11_sign_46 (by decide) ?_
  refine lv_icmp_ne (tgt := 55) hx hb dX11_sign_48 (by decide) (fun c_5 => ?_) (fun c_5 => ?_)
  · replace hf := z_f c_5 hf
    exact w11_sign_55 X hr hlk N  x1 x2 s0 σ _ _ _ hf hR (lv_sub hl [1, 2, 3, 0] rfl)
  · replace hf := z_t c_5 hf
    refine lv_bipush (v := (8 : Int32)) hx hb dX11_sign_51 (by decide) ?_
    refine lv_istore (lv' := [(4, .int (8 : Int32)), (0, .ref (G.2.2 + 160)), (1, .int x1), (2, .int x2)]) hx hb dX11_sign_53 hl (by decide) rfl (fun ls hl => ?_)
    exact w11_sign_55 X hr hlk N  x1 x2 (8 : Int32) σ _ _ _ hf hR (lv_sub hl [1, 2, 3, 0] rfl)
set_option maxHeartbeats 4000000 in
set_option maxRecDepth 100000 in
theorem c11_sign (l : Launch) (G : Gp) (N : Nat) {x1 : Int32} {x2 : Int32} {x3 : Int32} {σ σ0 : Mm} {r0 : Int32} (hf : f11_sign N x1 x2 x3 σ = some (r0, σ0)) : Met l yX11_sign (WS yX11_sign cX11_sign 5 (some .int)) rm11_sign (va_Pc [.ref (G.2.2 + 160), .int x1, .int x2, .int x3] (Pd G 212 tt σ)) (P_i G 212 tt r0 σ0) 0 0 (Fr G) := by
  refine ct [(0, .ref (G.2.2 + 160)), (1, .int x1), (2, .int x2), (3, .int x3)] rfl (by decide) (Nat.le_of_ble_eq_true rfl) ?_
  intro p e s m below meth c ls X hr hlk hR hl
  have X : Cx p s m _ c cX11_sign 5 RX11 G := X
  have hx := X.1
  have hb := X.2.1
  unfold f11_sign at hf
  refine lv_iload_n hx hb dX11_sign_0 rfl (lv_at hl 2 rfl) ?_
  refine lv_bipush (v := (59 : Int32)) hx hb dX11_sign_1 (by decide) ?_
  refine lv_icmp_ne (tgt := 10) hx hb dX11_sign_3 (by decide) (fun c_1 => ?_) (fun c_1 => ?_)
  · replace hf := z_f c_1 hf
    refine lv_iload_n hx hb dX11_sign_10 rfl (lv_at hl 2 rfl) ?_
    refine lv_bipush (v := (61 : Int32)) hx hb dX11_sign_11 (by decide) ?_
    refine lv_icmp_ne (tgt := 20) hx hb dX11_sign_13 (by decide) (fun c_2 => ?_) (fun c_2 => ?_)
    · replace hf := z_f c_2 hf
      refine lv_iload_n hx hb dX11_sign_20 rfl (lv_at hl 2 rfl) ?_
      refine lv_bipush (v := (40 : Int32)) hx hb dX11_sign_21 (by decide) ?_
      refine lv_icmp_ne (tgt := 31) hx hb dX11_sign_23 (by decide) (fun c_3 => ?_) (fun c_3 => ?_)
      · replace hf := z_f c_3 hf
        refine lv_iload_n hx hb dX11_sign_31 rfl (lv_at hl 2 rfl) ?_
        refine lv_bipush (v := (41 : Int32)) hx hb dX11_sign_32 (by decide) ?_
        refine lv_icmp_ne (tgt := 42) hx hb dX11_sign_34 (by decide) (fun c_4 => ?_) (fun c_4 => ?_)
        · replace hf := z_f c_4 hf
          refine lv_iconst (v := (3 : Int32)) hx hb dX11_sign_42 (by decide) ?_
          exact w11_sign_43 X hr hlk N  x1 x2 (3 : Int32) σ _ _ _ hf hR (lv_sub hl [0, 1, 2] rfl)
        · replace hf := z_t c_4 hf
          refine lv_bipush (v := (7 : Int32)) hx hb dX11_sign_37 (by decide) ?_
          refine lv_goto (tgt := 43) hx hb dX11_sign_39 (by decide) ?_
          exact w11_sign_43 X hr hlk N  x1 x2 (7 : Int32) σ _ _ _ hf hR (lv_sub hl [0, 1, 2] rfl)
      · replace hf := z_t c_3 hf
        refine lv_bipush (v := (6 : Int32)) hx hb dX11_sign_26 (by decide) ?_
        refine lv_goto (tgt := 43) hx hb dX11_sign_28 (by decide) ?_
        exact w11_sign_43 X hr hlk N  x1 x2 (6 : Int32) σ _ _ _ hf hR (lv_sub hl [0, 1, 2] rfl)
    · replace hf := z_t c_2 hf
      refine lv_iconst (v := (5 : Int32)) hx hb dX11_sign_16 (by decide) ?_
      refine lv_goto (tgt := 43) hx hb dX11_sign_17 (by decide) ?_
      exact w11_sign_43 X hr hlk N  x1 x2 (5 : Int32) σ _ _ _ hf hR (lv_sub hl [0, 1, 2] rfl)
  · replace hf := z_t c_1 hf
    refine lv_iconst (v := (4 : Int32)) hx hb dX11_sign_6 (by decide) ?_
    refine lv_goto (tgt := 43) hx hb dX11_sign_7 (by decide) ?_
    exact w11_sign_43 X hr hlk N  x1 x2 (4 : Int32) σ _ _ _ hf hR (lv_sub hl [0, 1, 2] rfl)
abbrev rm11_cut : Room := { frames := 2, cells := 0, slots := 0, locals := 49 }
def f11_cut_291 (N : Nat) (k7 : Int32 → Mm → Option (Unit × Mm)) (x1 : Int32) (σ : Mm) : Option (Unit × Mm) :=
  k7 x1 σ
def f11_cut_67 (N : Nat) (k7 : Int32 → Mm → Option (Unit × Mm)) (x1 : Int32) (σ : Mm) : Option (Unit × Mm) :=
  z_l (x1 + (1 : Int32)) fun x1_8 =>
  f11_cut_291 N k7 x1_8 σ
def f11_cut_261 (N : Nat) (k7 : Int32 → Mm → Option (Unit × Mm)) (x1 : Int32) (x3 : Int32) (x4 : Int32) (s1 : Int32) (σ : Mm) : Option (Unit × Mm) :=
  z_b (f11_token N s1 x1 x4 (0 : Int64) σ) fun _ σ_36 =>
  z_l ((x1 + x3)) fun x1_38 =>
  f11_cut_291 N k7 x1_38 σ_36
def f11_cut_250 (N : Nat) (k7 : Int32 → Mm → Option (Unit × Mm)) (x1 : Int32) (x3 : Int32) (x4 : Int32) (σ : Mm) : Option (Unit × Mm) :=
  if x3 ≤ (4 : Int32) then (
  f11_cut_261 N k7 x1 x3 x4 (2 : Int32) σ) else (
  f11_cut_261 N k7 x1 x3 x4 (3 : Int32) σ)
def f11_cut_244 (N : Nat) (k7 : Int32 → Mm → Option (Unit × Mm)) (k208 : Int32 → Int32 → Mm → Option (Unit × Mm)) (x1 : Int32) (x3 : Int32) (x4 : Int32) (σ : Mm) : Option (Unit × Mm) :=
  z_l (x3 + (1 : Int32)) fun x3_40 =>
  k208 x3_40 x4 σ
def f11_cut_208 (N : Nat) (k7 : Int32 → Mm → Option (Unit × Mm)) (x1 : Int32) : Nat → Int32 → Int32 → Mm → Option (Unit × Mm)
  | 0, _, _, _ => none
  | fu + 1, x3, x4, σ => z_b (f11_byteAt N (x1 + x3) σ) fun r_27 σ_28 =>
  z_b (f11_isDigit N r_27 σ_28) fun r_30 σ_31 =>
  if r_30 = 0 then (
  f11_cut_250 N k7 x1 x3 x4 σ_31) else (
  if (4 : Int32) ≤ x3 then (
  f11_cut_244 N k7 (fun x3 x4 σ => f11_cut_208 N k7 x1 fu x3 x4 σ) x1 x3 x4 σ_31) else (
  z_b (f11_byteAt N (x1 + x3) σ_31) fun r_41 σ_42 =>
  z_l (((((10 : Int32) * x4) + r_41) - (48 : Int32))) fun x4_44 =>
  f11_cut_244 N k7 (fun x3 x4 σ => f11_cut_208 N k7 x1 fu x3 x4 σ) x1 x3 x4_44 σ_42))
def f11_cut_179 (N : Nat) (k7 : Int32 → Mm → Option (Unit × Mm)) (x1 : Int32) (x3 : Int32) (x4 : Int64) (x6 : Int32) (σ : Mm) : Option (Unit × Mm) :=
  z_b (f11_token N x6 x1 (0 : Int32) x4 σ) fun _ σ_55 =>
  z_l ((x1 + x3)) fun x1_57 =>
  f11_cut_291 N k7 x1_57 σ_55
def f11_cut_173 (N : Nat) (k7 : Int32 → Mm → Option (Unit × Mm)) (k146 : Int32 → Int32 → Mm → Option (Unit × Mm)) (x1 : Int32) (x3 : Int32) (x4 : Int64) (x6 : Int32) (x7 : Int32) (σ : Mm) : Option (Unit × Mm) :=
  z_l (x7 + (1 : Int32)) fun x7_61 =>
  k146 x6 x7_61 σ
def f11_cut_146 (N : Nat) (k7 : Int32 → Mm → Option (Unit × Mm)) (x1 : Int32) (x3 : Int32) (x4 : Int64) : Nat → Int32 → Int32 → Mm → Option (Unit × Mm)
  | 0, _, _, _ => none
  | fu + 1, x6, x7, σ => if (22 : Int32) ≤ x7 then (
  f11_cut_179 N k7 x1 x3 x4 x6 σ) else (
  z_c (inB x7 22) (
  if (lg_cmp (gL σ 167 (ix x7)) x4) = 0 then (
  z_l (((20 : Int32) + x7)) fun x6_62 =>
  f11_cut_173 N k7 (fun x6 x7 σ => f11_cut_146 N k7 x1 x3 x4 fu x6 x7 σ) x1 x3 x4 x6_62 x7 σ) else (
  f11_cut_173 N k7 (fun x6 x7 σ => f11_cut_146 N k7 x1 x3 x4 fu x6 x7 σ) x1 x3 x4 x6 x7 σ)))
def f11_cut_135 (N : Nat) (k7 : Int32 → Mm → Option (Unit × Mm)) (x1 : Int32) (x3 : Int32) (x4 : Int64) (s0 : Int32) (σ : Mm) : Option (Unit × Mm) :=
  if (8 : Int32) < x3 then (
  f11_cut_179 N k7 x1 x3 x4 s0 σ) else (
  f11_cut_146 N k7 x1 x3 x4 N s0 (0 : Int32) σ)
def f11_cut_124 (N : Nat) (k7 : Int32 → Mm → Option (Unit × Mm)) (x1 : Int32) (x3 : Int32) (x4 : Int64) (σ : Mm) : Option (Unit × Mm) :=
  if x3 ≤ (8 : Int32) then (
  f11_cut_135 N k7 x1 x3 x4 (1 : Int32) σ) else (
  f11_cut_135 N k7 x1 x3 x4 (3 : Int32) σ)
def f11_cut_118 (N : Nat) (k7 : Int32 → Mm → Option (Unit × Mm)) (k85 : Int32 → Int64 → Mm → Option (Unit × Mm)) (x1 : Int32) (x3 : Int32) (x4 : Int64) (σ : Mm) : Option (Unit × Mm) :=
  z_l (x3 + (1 : Int32)) fun x3_64 =>
  k85 x3_64 x4 σ
def f11_cut_85 (N : Nat) (k7 : Int32 → Mm → Option (Unit × Mm)) (x1 : Int32) : Nat → Int32 → Int64 → Mm → Option (Unit × Mm)
  | 0, _, _, _ => none
  | fu + 1, x3, x4, σ => z_b (f11_byteAt N (x1 + x3) σ) fun r_45 σ_46 =>
  z_b (f11_isLetter N r_45 σ_46) fun r_48 σ_49 =>
  if r_48 = 0 then (
  f11_cut_124 N k7 x1 x3 x4 σ_49) else (
  if (8 : Int32) ≤ x3 then (
  f11_cut_118 N k7 (fun x3 x4 σ => f11_cut_85 N k7 x1 fu x3 x4 σ) x1 x3 x4 σ_49) else (
  z_b (f11_byteAt N (x1 + x3) σ_49) fun r_65 σ_66 =>
  z_b (f11_appends N x4 r_65 σ_66) fun r_68 σ_69 =>
  f11_cut_118 N k7 (fun x3 x4 σ => f11_cut_85 N k7 x1 fu x3 x4 σ) x1 x3 r_68 σ_69))
def f11_cut_31 (N : Nat) (σ : Mm) : Option (Unit × Mm) :=
  z_b (f11_token N (0 : Int32) (gI σ 160 4) (0 : Int32) (0 : Int64) σ) fun _ σ_72 =>
  some ((), σ_72)
def f11_cut_7 (N : Nat) : Nat → Int32 → Mm → Option (Unit × Mm)
  | 0, _, _ => none
  | fu + 1, x1, σ => if (400 : Int32) < (gI σ 160 10) then (
  some ((), σ)) else (
  z_b (f11_byteAt N x1 σ) fun r_3 σ_4 =>
  if x1 < (gI σ_4 160 4) then (
  if r_3 = (9 : Int32) then (
  f11_cut_67 N (fun x1 σ => f11_cut_7 N fu x1 σ) x1 σ_4) else (
  if r_3 = (10 : Int32) then (
  f11_cut_67 N (fun x1 σ => f11_cut_7 N fu x1 σ) x1 σ_4) else (
  if r_3 = (13 : Int32) then (
  f11_cut_67 N (fun x1 σ => f11_cut_7 N fu x1 σ) x1 σ_4) else (
  if r_3 = (32 : Int32) then (
  f11_cut_67 N (fun x1 σ => f11_cut_7 N fu x1 σ) x1 σ_4) else (
  z_b (f11_isLetter N r_3 σ_4) fun r_12 σ_13 =>
  if r_12 = 0 then (
  z_b (f11_isDigit N r_3 σ_13) fun r_16 σ_17 =>
  if r_16 = 0 then (
  z_b (f11_byteAt N (x1 + (1 : Int32)) σ_17) fun r_20 σ_21 =>
  z_b (f11_sign N x1 r_3 r_20 σ_21) fun r_23 σ_24 =>
  z_l ((x1 + r_23)) fun x1_26 =>
  f11_cut_291 N (fun x1 σ => f11_cut_7 N fu x1 σ) x1_26 σ_24) else (
  f11_cut_208 N (fun x1 σ => f11_cut_7 N fu x1 σ) x1 N (0 : Int32) (0 : Int32) σ_17)) else (
  f11_cut_85 N (fun x1 σ => f11_cut_7 N fu x1 σ) x1 N (0 : Int32) (0 : Int64) σ_13)))))) else (
  f11_cut_31 N σ_4))
def f11_cut (N : Nat) (σ : Mm) : Option (Unit × Mm) :=
  z_l (sI σ 160 10 (0 : Int32)) fun σ_1 =>
  f11_cut_7 N N (0 : Int32) σ_1
set_option maxHeartbeats 4000000 in
set_option maxRecDepth 100000 in
theorem w11_cut_291 (X : Cx p s m args c cX11_cut 8 RX11 G) (hr : meth.sig.returnType = none) (hlk : meth.locks = false) (N : Nat) {k7 : Int32 → Mm → Option (Unit × Mm)} (hk7 : ∀ (x1 : Int32) (σ : Mm) (H : Heap) (locs : List Loc) (ls : Array Slot), k7 x1 σ = some (u0, σ0) → Rp G 212 tt σ s H locs → lv_has ls 8 [(0, .ref (G.2.2 + 160)), (1, .int x1)] → W p l e rm11_cut s m args below meth c H locs 0 0 (MQ below (P_v G 212 tt u0 σ0) args s 0 0 (Fr G)) (F0 m 7 ls [])) :
    ∀ (x1 : Int32) (σ : Mm) (H : Heap) (locs : List Loc) (ls : Array Slot), f11_cut_291 N k7 x1 σ = some (u0, σ0) → Rp G 212 tt σ s H locs → lv_has ls 8 [(0, .ref (G.2.2 + 160)), (1, .int x1)] → W p l e rm11_cut s m args below meth c H locs 0 0 (MQ below (P_v G 212 tt u0 σ0) args s 0 0 (Fr G)) (F0 m 291 ls []) := by
  have hx := X.1
  have hb := X.2.1
  intro x1 σ H locs ls hf hR hl
  unfold f11_cut_291 at hf
  refine lv_goto (tgt := 7) hx hb dX11_cut_291 (by decide) ?_
  exact hk7 x1 σ _ _ _ hf hR (lv_sub hl [0, 1] rfl)
set_option maxHeartbeats 4000000 in
set_option maxRecDepth 100000 in
theorem w11_cut_67 (X : Cx p s m args c cX11_cut 8 RX11 G) (hr : meth.sig.returnType = none) (hlk : meth.locks = false) (N : Nat) {k7 : Int32 → Mm → Option (Unit × Mm)} (hk7 : ∀ (x1 : Int32) (σ : Mm) (H : Heap) (locs : List Loc) (ls : Array Slot), k7 x1 σ = some (u0, σ0) → Rp G 212 tt σ s H locs → lv_has ls 8 [(0, .ref (G.2.2 + 160)), (1, .int x1)] → W p l e rm11_cut s m args below meth c H locs 0 0 (MQ below (P_v G 212 tt u0 σ0) args s 0 0 (Fr G)) (F0 m 7 ls [])) :
    ∀ (x1 : Int32) (σ : Mm) (H : Heap) (locs : List Loc) (ls : Array Slot), f11_cut_67 N k7 x1 σ = some (u0, σ0) → Rp G 212 tt σ s H locs → lv_has ls 8 [(0, .ref (G.2.2 + 160)), (1, .int x1)] → W p l e rm11_cut s m args below meth c H locs 0 0 (MQ below (P_v G 212 tt u0 σ0) args s 0 0 (Fr G)) (F0 m 67 ls []) := by
  have hx := X.1
  have hb := X.2.1
  intro x1 σ H locs ls hf hR hl
  unfold f11_cut_67 at hf
  obtain ⟨x1_8, ex1_8⟩ : ∃ z : Int32, z = x1 + (1 : Int32) := ⟨_, rfl⟩
  replace hf := z_l_e ex1_8 hf
  refine lv_iinc (v := x1_8) (lv' := [(1, .int x1_8), (0, .ref (G.2.2 + 160))]) hx hb dX11_cut_67 hl (k := 1) rfl (by rw [ex1_8]; rfl) (by decide) rfl (fun ls hl => ?_)
  refine lv_goto (tgt := 291) hx hb dX11_cut_70 (by decide) ?_
  exact w11_cut_291 X hr hlk N hk7 x1_8 σ _ _ _ hf hR (lv_sub hl [1, 0] rfl)
set_option maxHeartbeats 4000000 in
set_option maxRecDepth 100000 in
theorem w11_cut_261 (X : Cx p s m args c cX11_cut 8 RX11 G) (hr : meth.sig.returnType = none) (hlk : meth.locks = false) (N : Nat) {k7 : Int32 → Mm → Option (Unit × Mm)} (hk7 : ∀ (x1 : Int32) (σ : Mm) (H : Heap) (locs : List Loc) (ls : Array Slot), k7 x1 σ = some (u0, σ0) → Rp G 212 tt σ s H locs → lv_has ls 8 [(0, .ref (G.2.2 + 160)), (1, .int x1)] → W p l e rm11_cut s m args below meth c H locs 0 0 (MQ below (P_v G 212 tt u0 σ0) args s 0 0 (Fr G)) (F0 m 7 ls [])) :
    ∀ (x1 : Int32) (x3 : Int32) (x4 : Int32) (s1 : Int32) (σ : Mm) (H : Heap) (locs : List Loc) (ls : Array Slot), f11_cut_261 N k7 x1 x3 x4 s1 σ = some (u0, σ0) → Rp G 212 tt σ s H locs → lv_has ls 8 [(0, .ref (G.2.2 + 160)), (1, .int x1), (3, .int x3), (4, .int x4)] → W p l e rm11_cut s m args below meth c H locs 0 0 (MQ below (P_v G 212 tt u0 σ0) args s 0 0 (Fr G)) (F0 m 261 ls [.int s1, .ref (G.2.2 + 160)]) := by
  have hx := X.1
  have hb := X.2.1
  intro x1 x3 x4 s1 σ H locs ls hf hR hl
  unfold f11_cut_261 at hf
  refine lv_iload_n hx hb dX11_cut_261 rfl (lv_at hl 1 rfl) ?_
  refine lv_iload hx hb dX11_cut_262 (lv_at hl 3 rfl) ?_
  refine lv_lconst (v := (0 : Int64)) hx hb dX11_cut_264 (by decide) ?_
  obtain ⟨r_35, σ_36, hc_37, hf⟩ := z_b_e hf
  refine go_v hR (mv_run (As := [.int s1, .int x1, .int x4, .long (0 : Int64)]) (rest := []) X hR mv_11_209 kh_160 (kd_lt kh_160 (by decide)) (c11_token l G N hc_37) ⟨rfl, rfl, Nat.le_of_ble_eq_true rfl, Nat.le_of_ble_eq_true rfl⟩ rfl hl.1 rfl (Nat.le_of_ble_eq_true rfl) dX11_cut_265 ⟨Nat.zero_le _, Nat.zero_le _⟩) (fun H locs hR => ?_)
  refine lv_iload_n hx hb dX11_cut_268 rfl (lv_at hl 1 rfl) ?_
  refine lv_iload_n hx hb dX11_cut_269 rfl (lv_at hl 2 rfl) ?_
  refine lv_iadd hx hb dX11_cut_270 ?_
  refine lv_topi (fun x1_38 ex1_38 => ?_)
  replace hf := z_l_e ex1_38 hf
  refine lv_istore_n (lv' := [(1, .int x1_38), (0, .ref (G.2.2 + 160)), (3, .int x3), (4, .int x4)]) hx hb dX11_cut_271 rfl hl (by decide) rfl (fun ls hl => ?_)
  refine lv_goto (tgt := 291) hx hb dX11_cut_272 (by decide) ?_
  exact w11_cut_291 X hr hlk N hk7 x1_38 σ_36 _ _ _ hf hR (lv_sub hl [1, 0] rfl)
set_option maxHeartbeats 4000000 in
set_option maxRecDepth 100000 in
theorem w11_cut_250 (X : Cx p s m args c cX11_cut 8 RX11 G) (hr : meth.sig.returnType = none) (hlk : meth.locks = false) (N : Nat) {k7 : Int32 → Mm → Option (Unit × Mm)} (hk7 : ∀ (x1 : Int32) (σ : Mm) (H : Heap) (locs : List Loc) (ls : Array Slot), k7 x1 σ = some (u0, σ0) → Rp G 212 tt σ s H locs → lv_has ls 8 [(0, .ref (G.2.2 + 160)), (1, .int x1)] → W p l e rm11_cut s m args below meth c H locs 0 0 (MQ below (P_v G 212 tt u0 σ0) args s 0 0 (Fr G)) (F0 m 7 ls [])) :
    ∀ (x1 : Int32) (x3 : Int32) (x4 : Int32) (σ : Mm) (H : Heap) (locs : List Loc) (ls : Array Slot), f11_cut_250 N k7 x1 x3 x4 σ = some (u0, σ0) → Rp G 212 tt σ s H locs → lv_has ls 8 [(0, .ref (G.2.2 + 160)), (1, .int x1), (3, .int x3), (4, .int x4)] → W p l e rm11_cut s m args below meth c H locs 0 0 (MQ below (P_v G 212 tt u0 σ0) args s 0 0 (Fr G)) (F0 m 250 ls []) := by
  have hx := X.1
  have hb := X.2.1
  intro x1 x3 x4 σ H locs ls hf hR hl
  unfold f11_cut_250 at hf
  refine lv_aload_n hx hb dX11_cut_250 rfl (lv_at hl 0 rfl) ?_
  refine lv_iload_n hx hb dX11_cut_251 rfl (lv_at hl 2 rfl) ?_
  refine lv_iconst (v := (4 : Int32)) hx hb dX11_cut_252 (by decide) ?_
  refine lv_icmp_le (tgt := 260) hx hb dX11_cut_253 (by decide) (fun c_34 => ?_) (fun c_34 => ?_)
  · replace hf := z_t c_34 hf
    refine lv_iconst (v := (2 : Int32)) hx hb dX11_cut_260 (by decide) ?_
    exact w11_cut_261 X hr hlk N hk7 x1 x3 x4 (2 : Int32) σ _ _ _ hf hR (lv_sub hl [0, 1, 2, 3] rfl)
  · replace hf := z_f c_34 hf
    refine lv_iconst (v := (3 : Int32)) hx hb dX11_cut_256 (by decide) ?_
    refine lv_goto (tgt := 261) hx hb dX11_cut_257 (by decide) ?_
    exact w11_cut_261 X hr hlk N hk7 x1 x3 x4 (3 : Int32) σ _ _ _ hf hR (lv_sub hl [0, 1, 2, 3] rfl)
set_option maxHeartbeats 4000000 in
set_option maxRecDepth 100000 in
theorem w11_cut_244 (X : Cx p s m args c cX11_cut 8 RX11 G) (hr : meth.sig.returnType = none) (hlk : meth.locks = false) (N : Nat) {x1 : Int32} {k7 : Int32 → Mm → Option (Unit × Mm)} (hk7 : ∀ (x1 : Int32) (σ : Mm) (H : Heap) (locs : List Loc) (ls : Array Slot), k7 x1 σ = some (u0, σ0) → Rp G 212 tt σ s H locs → lv_has ls 8 [(0, .ref (G.2.2 + 160)), (1, .int x1)] → W p l e rm11_cut s m args below meth c H locs 0 0 (MQ below (P_v G 212 tt u0 σ0) args s 0 0 (Fr G)) (F0 m 7 ls [])) {k208 : Int32 → Int32 → Mm → Option (Unit × Mm)} (hk208 : ∀ (x3 : Int32) (x4 : Int32) (σ : Mm) (H : Heap) (locs : List Loc) (ls : Array Slot), k208 x3 x4 σ = some (u0, σ0) → Rp G 212 tt σ s H locs → lv_has ls 8 [(0, .ref (G.2.2 + 160)), (1, .int x1), (3, .int x3), (4, .int x4)] → W p l e rm11_cut s m args below meth c H locs 0 0 (MQ below (P_v G 212 tt u0 σ0) args s 0 0 (Fr G)) (F0 m 208 ls [])) :
    ∀ (x3 : Int32) (x4 : Int32) (σ : Mm) (H : Heap) (locs : List Loc) (ls : Array Slot), f11_cut_244 N k7 k208 x1 x3 x4 σ = some (u0, σ0) → Rp G 212 tt σ s H locs → lv_has ls 8 [(0, .ref (G.2.2 + 160)), (1, .int x1), (3, .int x3), (4, .int x4)] → W p l e rm11_cut s m args below meth c H locs 0 0 (MQ below (P_v G 212 tt u0 σ0) args s 0 0 (Fr G)) (F0 m 244 ls []) := by
  have hx := X.1
  have hb := X.2.1
  intro x3 x4 σ H locs ls hf hR hl
  unfold f11_cut_244 at hf
  obtain ⟨x3_40, ex3_40⟩ : ∃ z : Int32, z = x3 + (1 : Int32) := ⟨_, rfl⟩
  replace hf := z_l_e ex3_40 hf
  refine lv_iinc (v := x3_40) (lv' := [(3, .int x3_40), (0, .ref (G.2.2 + 160)), (1, .int x1), (4, .int x4)]) hx hb dX11_cut_244 hl (k := 2) rfl (by rw [ex3_40]; rfl) (by decide) rfl (fun ls hl => ?_)
  refine lv_goto (tgt := 208) hx hb dX11_cut_247 (by decide) ?_
  exact hk208 x3_40 x4 σ _ _ _ hf hR (lv_sub hl [1, 2, 0, 3] rfl)
set_option maxHeartbeats 4000000 in
set_option maxRecDepth 100000 in
theorem w11_cut_208 (X : Cx p s m args c cX11_cut 8 RX11 G) (hr : meth.sig.returnType = none) (hlk : meth.locks = false) (N : Nat) {x1 : Int32} {k7 : Int32 → Mm → Option (Unit × Mm)} (hk7 : ∀ (x1 : Int32) (σ : Mm) (H : Heap) (locs : List Loc) (ls : Array Slot), k7 x1 σ = some (u0, σ0) → Rp G 212 tt σ s H locs → lv_has ls 8 [(0, .ref (G.2.2 + 160)), (1, .int x1)] → W p l e rm11_cut s m args below meth c H locs 0 0 (MQ below (P_v G 212 tt u0 σ0) args s 0 0 (Fr G)) (F0 m 7 ls [])) :
    ∀ (fu : Nat) (x3 : Int32) (x4 : Int32) (σ : Mm) (H : Heap) (locs : List Loc) (ls : Array Slot), f11_cut_208 N k7 x1 fu x3 x4 σ = some (u0, σ0) → Rp G 212 tt σ s H locs → lv_has ls 8 [(0, .ref (G.2.2 + 160)), (1, .int x1), (3, .int x3), (4, .int x4)] → W p l e rm11_cut s m args below meth c H locs 0 0 (MQ below (P_v G 212 tt u0 σ0) args s 0 0 (Fr G)) (F0 m 208 ls []) := by
  have hx := X.1
  have hb := X.2.1
  intro fu
  induction fu with
  | zero =>
    intro x3 x4 σ H locs ls hf hR hl
    rw [f11_cut_208] at hf
    cases hf
  | succ fu ih =>
    intro x3 x4 σ H locs ls hf hR hl
    rw [f11_cut_208] at hf
    refine lv_aload_n hx hb dX11_cut_208 rfl (lv_at hl 0 rfl) ?_
    refine lv_iload_n hx hb dX11_cut_209 rfl (lv_at hl 1 rfl) ?_
    refine lv_iload_n hx hb dX11_cut_210 rfl (lv_at hl 2 rfl) ?_
    refine lv_iadd hx hb dX11_cut_211 ?_
    obtain ⟨r_27, σ_28, hc_29, hf⟩ := z_b_e hf
    refine go_i hR (mv_run (As := [.int (x1 + x3)]) (rest := []) X hR mv_11_205 kh_160 (kd_lt kh_160 (by decide)) (c11_byteAt l G N hc_29) ⟨rfl, rfl, Nat.le_of_ble_eq_true rfl, Nat.le_of_ble_eq_true rfl⟩ rfl hl.1 rfl (Nat.le_of_ble_eq_true rfl) dX11_cut_212 ⟨Nat.zero_le _, Nat.zero_le _⟩) (fun H locs hR => ?_)
    obtain ⟨r_30, σ_31, hc_32, hf⟩ := z_b_e hf
    refine go_i hR (ms_run (As := [.int r_27]) (rest := []) X hR ms_11_217 (c11_isDigit l G N hc_32) ⟨rfl, rfl, Nat.le_of_ble_eq_true rfl, Nat.le_of_ble_eq_true rfl⟩ rfl hl.1 rfl (Nat.le_of_ble_eq_true rfl) dX11_cut_215 ⟨Nat.zero_le _, Nat.zero_le _⟩) (fun H locs hR => ?_)
    refine lv_if_eq (tgt := 250) hx hb dX11_cut_218 (by decide) (fun c_33 => ?_) (fun c_33 => ?_)
    · replace hf := z_t c_33 hf
      exact w11_cut_250 X hr hlk N hk7 x1 x3 x4 σ_31 _ _ _ hf hR (lv_sub hl [0, 1, 2, 3] rfl)
    · replace hf := z_f c_33 hf
      refine lv_iload_n hx hb dX11_cut_221 rfl (lv_at hl 2 rfl) ?_
      refine lv_iconst (v := (4 : Int32)) hx hb dX11_cut_222 (by decide) ?_
      refine lv_icmp_ge (tgt := 244) hx hb dX11_cut_223 (by decide) (fun c_39 => ?_) (fun c_39 => ?_)
      · replace hf := z_t c_39 hf
        exact w11_cut_244 X hr hlk N hk7 ih x3 x4 σ_31 _ _ _ hf hR (lv_sub hl [0, 1, 2, 3] rfl)
      · replace hf := z_f c_39 hf
        refine lv_bipush (v := (10 : Int32)) hx hb dX11_cut_226 (by decide) ?_
        refine lv_iload hx hb dX11_cut_228 (lv_at hl 3 rfl) ?_
        refine lv_imul hx hb dX11_cut_230 ?_
        refine lv_aload_n hx hb dX11_cut_231 rfl (lv_at hl 0 rfl) ?_
        refine lv_iload_n hx hb dX11_cut_232 rfl (lv_at hl 1 rfl) ?_
        refine lv_iload_n hx hb dX11_cut_233 rfl (lv_at hl 2 rfl) ?_
        refine lv_iadd hx hb dX11_cut_234 ?_
        obtain ⟨r_41, σ_42, hc_43, hf⟩ := z_b_e hf
        refine go_i hR (mv_run (As := [.int (x1 + x3)]) (rest := [.int ((10 : Int32) * x4)]) X hR mv_11_205 kh_160 (kd_lt kh_160 (by decide)) (c11_byteAt l G N hc_43) ⟨rfl, rfl, Nat.le_of_ble_eq_true rfl, Nat.le_of_ble_eq_true rfl⟩ rfl hl.1 rfl (Nat.le_of_ble_eq_true rfl) dX11_cut_235 ⟨Nat.zero_le _, Nat.zero_le _⟩) (fun H locs hR => ?_)
        refine lv_iadd hx hb dX11_cut_238 ?_
        refine lv_bipush (v := (48 : Int32)) hx hb dX11_cut_239 (by decide) ?_
        refine lv_isub hx hb dX11_cut_241 ?_
        refine lv_topi (fun x4_44 ex4_44 => ?_)
        replace hf := z_l_e ex4_44 hf
        refine lv_istore (lv' := [(4, .int x4_44), (0, .ref (G.2.2 + 160)), (1, .int x1), (3, .int x3)]) hx hb dX11_cut_242 hl (by decide) rfl (fun ls hl => ?_)
        exact w11_cut_244 X hr hlk N hk7 ih x3 x4_44 σ_42 _ _ _ hf hR (lv_sub hl [1, 2, 3, 0] rfl)
set_option maxHeartbeats 4000000 in
set_option maxRecDepth 100000 in
theorem w11_cut_179 (X : Cx p s m args c cX11_cut 8 RX11 G) (hr : meth.sig.returnType = none) (hlk : meth.locks = false) (N : Nat) {k7 : Int32 → Mm → Option (Unit × Mm)} (hk7 : ∀ (x1 : Int32) (σ : Mm) (H : Heap) (locs : List Loc) (ls : Array Slot), k7 x1 σ = some (u0, σ0) → Rp G 212 tt σ s H locs → lv_has ls 8 [(0, .ref (G.2.2 + 160)), (1, .int x1)] → W p l e rm11_cut s m args below meth c H locs 0 0 (MQ below (P_v G 212 tt u0 σ0) args s 0 0 (Fr G)) (F0 m 7 ls [])) :
    ∀ (x1 : Int32) (x3 : Int32) (x4 : Int64) (x6 : Int32) (σ : Mm) (H : Heap) (locs : List Loc) (ls : Array Slot), f11_cut_179 N k7 x1 x3 x4 x6 σ = some (u0, σ0) → Rp G 212 tt σ s H locs → lv_has ls 8 [(0, .ref (G.2.2 + 160)), (1, .int x1), (3, .int x3), (4, .long x4), (6, .int x6)] → W p l e rm11_cut s m args below meth c H locs 0 0 (MQ below (P_v G 212 tt u0 σ0) args s 0 0 (Fr G)) (F0 m 179 ls []) := by
  have hx := X.1
  have hb := X.2.1
  intro x1 x3 x4 x6 σ H locs ls hf hR hl
  unfold f11_cut_179 at hf
  refine lv_aload_n hx hb dX11_cut_179 rfl (lv_at hl 0 rfl) ?_
  refine lv_iload hx hb dX11_cut_180 (lv_at hl 4 rfl) ?_
  refine lv_iload_n hx hb dX11_cut_182 rfl (lv_at hl 1 rfl) ?_
  refine lv_iconst (v := (0 : Int32)) hx hb dX11_cut_183 (by decide) ?_
  refine lv_lload hx hb dX11_cut_184 (lv_at hl 3 rfl) ?_
  obtain ⟨r_54, σ_55, hc_56, hf⟩ := z_b_e hf
  refine go_v hR (mv_run (As := [.int x6, .int x1, .int (0 : Int32), .long x4]) (rest := []) X hR mv_11_209 kh_160 (kd_lt kh_160 (by decide)) (c11_token l G N hc_56) ⟨rfl, rfl, Nat.le_of_ble_eq_true rfl, Nat.le_of_ble_eq_true rfl⟩ rfl hl.1 rfl (Nat.le_of_ble_eq_true rfl) dX11_cut_186 ⟨Nat.zero_le _, Nat.zero_le _⟩) (fun H locs hR => ?_)
  refine lv_iload_n hx hb dX11_cut_189 rfl (lv_at hl 1 rfl) ?_
  refine lv_iload_n hx hb dX11_cut_190 rfl (lv_at hl 2 rfl) ?_
  refine lv_iadd hx hb dX11_cut_191 ?_
  refine lv_topi (fun x1_57 ex1_57 => ?_)
  replace hf := z_l_e ex1_57 hf
  refine lv_istore_n (lv' := [(1, .int x1_57), (0, .ref (G.2.2 + 160)), (3, .int x3), (4, .long x4), (6, .int x6)]) hx hb dX11_cut_192 rfl hl (by decide) rfl (fun ls hl => ?_)
  refine lv_goto (tgt := 291) hx hb dX11_cut_193 (by decide) ?_
  exact w11_cut_291 X hr hlk N hk7 x1_57 σ_55 _ _ _ hf hR (lv_sub hl [1, 0] rfl)
set_option maxHeartbeats 4000000 in
set_option maxRecDepth 100000 in
theorem w11_cut_173 (X : Cx p s m args c cX11_cut 8 RX11 G) (hr : meth.sig.returnType = none) (hlk : meth.locks = false) (N : Nat) {x1 : Int32} {x3 : Int32} {x4 : Int64} {k7 : Int32 → Mm → Option (Unit × Mm)} (hk7 : ∀ (x1 : Int32) (σ : Mm) (H : Heap) (locs : List Loc) (ls : Array Slot), k7 x1 σ = some (u0, σ0) → Rp G 212 tt σ s H locs → lv_has ls 8 [(0, .ref (G.2.2 + 160)), (1, .int x1)] → W p l e rm11_cut s m args below meth c H locs 0 0 (MQ below (P_v G 212 tt u0 σ0) args s 0 0 (Fr G)) (F0 m 7 ls [])) {k146 : Int32 → Int32 → Mm → Option (Unit × Mm)} (hk146 : ∀ (x6 : Int32) (x7 : Int32) (σ : Mm) (H : Heap) (locs : List Loc) (ls : Array Slot), k146 x6 x7 σ = some (u0, σ0) → Rp G 212 tt σ s H locs → lv_has ls 8 [(0, .ref (G.2.2 + 160)), (1, .int x1), (3, .int x3), (4, .long x4), (6, .int x6), (7, .int x7)] → W p l e rm11_cut s m args below meth c H locs 0 0 (MQ below (P_v G 212 tt u0 σ0) args s 0 0 (Fr G)) (F0 m 146 ls [])) :
    ∀ (x6 : Int32) (x7 : Int32) (σ : Mm) (H : Heap) (locs : List Loc) (ls : Array Slot), f11_cut_173 N k7 k146 x1 x3 x4 x6 x7 σ = some (u0, σ0) → Rp G 212 tt σ s H locs → lv_has ls 8 [(0, .ref (G.2.2 + 160)), (1, .int x1), (3, .int x3), (4, .long x4), (6, .int x6), (7, .int x7)] → W p l e rm11_cut s m args below meth c H locs 0 0 (MQ below (P_v G 212 tt u0 σ0) args s 0 0 (Fr G)) (F0 m 173 ls []) := by
  have hx := X.1
  have hb := X.2.1
  intro x6 x7 σ H locs ls hf hR hl
  unfold f11_cut_173 at hf
  obtain ⟨x7_61, ex7_61⟩ : ∃ z : Int32, z = x7 + (1 : Int32) := ⟨_, rfl⟩
  replace hf := z_l_e ex7_61 hf
  refine lv_iinc (v := x7_61) (lv' := [(7, .int x7_61), (0, .ref (G.2.2 + 160)), (1, .int x1), (3, .int x3), (4, .long x4), (6, .int x6)]) hx hb dX11_cut_173 hl (k := 5) rfl (by rw [ex7_61]; rfl) (by decide) rfl (fun ls hl => ?_)
  refine lv_goto (tgt := 146) hx hb dX11_cut_176 (by decide) ?_
  exact hk146 x6 x7_61 σ _ _ _ hf hR (lv_sub hl [1, 2, 3, 4, 5, 0] rfl)
set_option maxHeartbeats 4000000 in
set_option maxRecDepth 100000 in
theorem w11_cut_146 (X : Cx p s m args c cX11_cut 8 RX11 G) (hr : meth.sig.returnType = none) (hlk : meth.locks = false) (N : Nat) {x1 : Int32} {x3 : Int32} {x4 : Int64} {k7 : Int32 → Mm → Option (Unit × Mm)} (hk7 : ∀ (x1 : Int32) (σ : Mm) (H : Heap) (locs : List Loc) (ls : Array Slot), k7 x1 σ = some (u0, σ0) → Rp G 212 tt σ s H locs → lv_has ls 8 [(0, .ref (G.2.2 + 160)), (1, .int x1)] → W p l e rm11_cut s m args below meth c H locs 0 0 (MQ below (P_v G 212 tt u0 σ0) args s 0 0 (Fr G)) (F0 m 7 ls [])) :
    ∀ (fu : Nat) (x6 : Int32) (x7 : Int32) (σ : Mm) (H : Heap) (locs : List Loc) (ls : Array Slot), f11_cut_146 N k7 x1 x3 x4 fu x6 x7 σ = some (u0, σ0) → Rp G 212 tt σ s H locs → lv_has ls 8 [(0, .ref (G.2.2 + 160)), (1, .int x1), (3, .int x3), (4, .long x4), (6, .int x6), (7, .int x7)] → W p l e rm11_cut s m args below meth c H locs 0 0 (MQ below (P_v G 212 tt u0 σ0) args s 0 0 (Fr G)) (F0 m 146 ls []) := by
  have hx := X.1
  have hb := X.2.1
  intro fu
  induction fu with
  | zero =>
    intro x6 x7 σ H locs ls hf hR hl
    rw [f11_cut_146] at hf
    cases hf
  | succ fu ih =>
    intro x6 x7 σ H locs ls hf hR hl
    rw [f11_cut_146] at hf
    refine lv_iload hx hb dX11_cut_146 (lv_at hl 5 rfl) ?_
    refine lv_bipush (v := (22 : Int32)) hx hb dX11_cut_148 (by decide) ?_
    refine lv_icmp_ge (tgt := 179) hx hb dX11_cut_150 (by decide) (fun c_58 => ?_) (fun c_58 => ?_)
    · replace hf := z_t c_58 hf
      exact w11_cut_179 X hr hlk N hk7 x1 x3 x4 x6 σ _ _ _ hf hR (lv_sub hl [0, 1, 2, 3, 4] rfl)
    · replace hf := z_f c_58 hf
      refine lv_aload_n hx hb dX11_cut_153 rfl (lv_at hl 0 rfl) ?_
      refine r_gs (t := 167) X hR fr_11_34 kh_160 (sx_11_9 kh_160) dX11_cut_154 ?_
      refine lv_iload hx hb dX11_cut_157 (lv_at hl 5 rfl) ?_
      obtain ⟨hi_59, hf⟩ := z_c_e hf
      refine r_lal X hR ka_167 hi_59 dX11_cut_159 ?_
      refine lv_lload hx hb dX11_cut_160 (lv_at hl 3 rfl) ?_
      refine W.lcmp hx hb dX11_cut_162 ?_
      refine lv_if_ne (tgt := 173) hx hb dX11_cut_163 (by decide) (fun c_60 => ?_) (fun c_60 => ?_)
      · replace hf := z_f c_60 hf
        exact w11_cut_173 X hr hlk N hk7 ih x6 x7 σ _ _ _ hf hR (lv_sub hl [0, 1, 2, 3, 4, 5] rfl)
      · replace hf := z_t c_60 hf
        refine lv_bipush (v := (20 : Int32)) hx hb dX11_cut_166 (by decide) ?_
        refine lv_iload hx hb dX11_cut_168 (lv_at hl 5 rfl) ?_
        refine lv_iadd hx hb dX11_cut_170 ?_
        refine lv_topi (fun x6_62 ex6_62 => ?_)
        replace hf := z_l_e ex6_62 hf
        refine lv_istore (lv' := [(6, .int x6_62), (0, .ref (G.2.2 + 160)), (1, .int x1), (3, .int x3), (4, .long x4), (7, .int x7)]) hx hb dX11_cut_171 hl (by decide) rfl (fun ls hl => ?_)
        exact w11_cut_173 X hr hlk N hk7 ih x6_62 x7 σ _ _ _ hf hR (lv_sub hl [1, 2, 3, 4, 0, 5] rfl)
set_option maxHeartbeats 4000000 in
set_option maxRecDepth 100000 in
theorem w11_cut_135 (X : Cx p s m args c cX11_cut 8 RX11 G) (hr : meth.sig.returnType = none) (hlk : meth.locks = false) (N : Nat) {k7 : Int32 → Mm → Option (Unit × Mm)} (hk7 : ∀ (x1 : Int32) (σ : Mm) (H : Heap) (locs : List Loc) (ls : Array Slot), k7 x1 σ = some (u0, σ0) → Rp G 212 tt σ s H locs → lv_has ls 8 [(0, .ref (G.2.2 + 160)), (1, .int x1)] → W p l e rm11_cut s m args below meth c H locs 0 0 (MQ below (P_v G 212 tt u0 σ0) args s 0 0 (Fr G)) (F0 m 7 ls [])) :
    ∀ (x1 : Int32) (x3 : Int32) (x4 : Int64) (s0 : Int32) (σ : Mm) (H : Heap) (locs : List Loc) (ls : Array Slot), f11_cut_135 N k7 x1 x3 x4 s0 σ = some (u0, σ0) → Rp G 212 tt σ s H locs → lv_has ls 8 [(0, .ref (G.2.2 + 160)), (1, .int x1), (3, .int x3), (4, .long x4)] → W p l e rm11_cut s m args below meth c H locs 0 0 (MQ below (P_v G 212 tt u0 σ0) args s 0 0 (Fr G)) (F0 m 135 ls [.int s0]) := by
  have hx := X.1
  have hb := X.2.1
  intro x1 x3 x4 s0 σ H locs ls hf hR hl
  unfold f11_cut_135 at hf
  refine lv_istore (lv' := [(6, .int s0), (0, .ref (G.2.2 + 160)), (1, .int x1), (3, .int x3), (4, .long x4)]) hx hb dX11_cut_135 hl (by decide) rfl (fun ls hl => ?_)
  refine lv_iload_n hx hb dX11_cut_137 rfl (lv_at hl 3 rfl) ?_
  refine lv_bipush (v := (8 : Int32)) hx hb dX11_cut_138 (by decide) ?_
  refine lv_icmp_gt (tgt := 179) hx hb dX11_cut_140 (by decide) (fun c_53 => ?_) (fun c_53 => ?_)
  · replace hf := z_t c_53 hf
    exact w11_cut_179 X hr hlk N hk7 x1 x3 x4 s0 σ _ _ _ hf hR (lv_sub hl [1, 2, 3, 4, 0] rfl)
  · replace hf := z_f c_53 hf
    refine lv_iconst (v := (0 : Int32)) hx hb dX11_cut_143 (by decide) ?_
    refine lv_istore (lv' := [(7, .int (0 : Int32)), (6, .int s0), (0, .ref (G.2.2 + 160)), (1, .int x1), (3, .int x3), (4, .long x4)]) hx hb dX11_cut_144 hl (by decide) rfl (fun ls hl => ?_)
    exact w11_cut_146 X hr hlk N hk7 N s0 (0 : Int32) σ _ _ _ hf hR (lv_sub hl [2, 3, 4, 5, 1, 0] rfl)
set_option maxHeartbeats 4000000 in
set_option maxRecDepth 100000 in
theorem w11_cut_124 (X : Cx p s m args c cX11_cut 8 RX11 G) (hr : meth.sig.returnType = none) (hlk : meth.locks = false) (N : Nat) {k7 : Int32 → Mm → Option (Unit × Mm)} (hk7 : ∀ (x1 : Int32) (σ : Mm) (H : Heap) (locs : List Loc) (ls : Array Slot), k7 x1 σ = some (u0, σ0) → Rp G 212 tt σ s H locs → lv_has ls 8 [(0, .ref (G.2.2 + 160)), (1, .int x1)] → W p l e rm11_cut s m args below meth c H locs 0 0 (MQ below (P_v G 212 tt u0 σ0) args s 0 0 (Fr G)) (F0 m 7 ls [])) :
    ∀ (x1 : Int32) (x3 : Int32) (x4 : Int64) (σ : Mm) (H : Heap) (locs : List Loc) (ls : Array Slot), f11_cut_124 N k7 x1 x3 x4 σ = some (u0, σ0) → Rp G 212 tt σ s H locs → lv_has ls 8 [(0, .ref (G.2.2 + 160)), (1, .int x1), (3, .int x3), (4, .long x4)] → W p l e rm11_cut s m args below meth c H locs 0 0 (MQ below (P_v G 212 tt u0 σ0) args s 0 0 (Fr G)) (F0 m 124 ls []) := by
  have hx := X.1
  have hb := X.2.1
  intro x1 x3 x4 σ H locs ls hf hR hl
  unfold f11_cut_124 at hf
  refine lv_iload_n hx hb dX11_cut_124 rfl (lv_at hl 2 rfl) ?_
  refine lv_bipush (v := (8 : Int32)) hx hb dX11_cut_125 (by decide) ?_
  refine lv_icmp_le (tgt := 134) hx hb dX11_cut_127 (by decide) (fun c_52 => ?_) (fun c_52 => ?_)
  · replace hf := z_t c_52 hf
    refine lv_iconst (v := (1 : Int32)) hx hb dX11_cut_134 (by decide) ?_
    exact w11_cut_135 X hr hlk N hk7 x1 x3 x4 (1 : Int32) σ _ _ _ hf hR (lv_sub hl [0, 1, 2, 3] rfl)
  · replace hf := z_f c_52 hf
    refine lv_iconst (v := (3 : Int32)) hx hb dX11_cut_130 (by decide) ?_
    refine lv_goto (tgt := 135) hx hb dX11_cut_131 (by decide) ?_
    exact w11_cut_135 X hr hlk N hk7 x1 x3 x4 (3 : Int32) σ _ _ _ hf hR (lv_sub hl [0, 1, 2, 3] rfl)
set_option maxHeartbeats 4000000 in
set_option maxRecDepth 100000 in
theorem w11_cut_118 (X : Cx p s m args c cX11_cut 8 RX11 G) (hr : meth.sig.returnType = none) (hlk : meth.locks = false) (N : Nat) {x1 : Int32} {k7 : Int32 → Mm → Option (Unit × Mm)} (hk7 : ∀ (x1 : Int32) (σ : Mm) (H : Heap) (locs : List Loc) (ls : Array Slot), k7 x1 σ = some (u0, σ0) → Rp G 212 tt σ s H locs → lv_has ls 8 [(0, .ref (G.2.2 + 160)), (1, .int x1)] → W p l e rm11_cut s m args below meth c H locs 0 0 (MQ below (P_v G 212 tt u0 σ0) args s 0 0 (Fr G)) (F0 m 7 ls [])) {k85 : Int32 → Int64 → Mm → Option (Unit × Mm)} (hk85 : ∀ (x3 : Int32) (x4 : Int64) (σ : Mm) (H : Heap) (locs : List Loc) (ls : Array Slot), k85 x3 x4 σ = some (u0, σ0) → Rp G 212 tt σ s H locs → lv_has ls 8 [(0, .ref (G.2.2 + 160)), (1, .int x1), (3, .int x3), (4, .long x4)] → W p l e rm11_cut s m args below meth c H locs 0 0 (MQ below (P_v G 212 tt u0 σ0) args s 0 0 (Fr G)) (F0 m 85 ls [])) :
    ∀ (x3 : Int32) (x4 : Int64) (σ : Mm) (H : Heap) (locs : List Loc) (ls : Array Slot), f11_cut_118 N k7 k85 x1 x3 x4 σ = some (u0, σ0) → Rp G 212 tt σ s H locs → lv_has ls 8 [(0, .ref (G.2.2 + 160)), (1, .int x1), (3, .int x3), (4, .long x4)] → W p l e rm11_cut s m args below meth c H locs 0 0 (MQ below (P_v G 212 tt u0 σ0) args s 0 0 (Fr G)) (F0 m 118 ls []) := by
  have hx := X.1
  have hb := X.2.1
  intro x3 x4 σ H locs ls hf hR hl
  unfold f11_cut_118 at hf
  obtain ⟨x3_64, ex3_64⟩ : ∃ z : Int32, z = x3 + (1 : Int32) := ⟨_, rfl⟩
  replace hf := z_l_e ex3_64 hf
  refine lv_iinc (v := x3_64) (lv' := [(3, .int x3_64), (0, .ref (G.2.2 + 160)), (1, .int x1), (4, .long x4)]) hx hb dX11_cut_118 hl (k := 2) rfl (by rw [ex3_64]; rfl) (by decide) rfl (fun ls hl => ?_)
  refine lv_goto (tgt := 85) hx hb dX11_cut_121 (by decide) ?_
  exact hk85 x3_64 x4 σ _ _ _ hf hR (lv_sub hl [1, 2, 0, 3] rfl)
set_option maxHeartbeats 4000000 in
set_option maxRecDepth 100000 in
theorem w11_cut_85 (X : Cx p s m args c cX11_cut 8 RX11 G) (hr : meth.sig.returnType = none) (hlk : meth.locks = false) (N : Nat) {x1 : Int32} {k7 : Int32 → Mm → Option (Unit × Mm)} (hk7 : ∀ (x1 : Int32) (σ : Mm) (H : Heap) (locs : List Loc) (ls : Array Slot), k7 x1 σ = some (u0, σ0) → Rp G 212 tt σ s H locs → lv_has ls 8 [(0, .ref (G.2.2 + 160)), (1, .int x1)] → W p l e rm11_cut s m args below meth c H locs 0 0 (MQ below (P_v G 212 tt u0 σ0) args s 0 0 (Fr G)) (F0 m 7 ls [])) :
    ∀ (fu : Nat) (x3 : Int32) (x4 : Int64) (σ : Mm) (H : Heap) (locs : List Loc) (ls : Array Slot), f11_cut_85 N k7 x1 fu x3 x4 σ = some (u0, σ0) → Rp G 212 tt σ s H locs → lv_has ls 8 [(0, .ref (G.2.2 + 160)), (1, .int x1), (3, .int x3), (4, .long x4)] → W p l e rm11_cut s m args below meth c H locs 0 0 (MQ below (P_v G 212 tt u0 σ0) args s 0 0 (Fr G)) (F0 m 85 ls []) := by
  have hx := X.1
  have hb := X.2.1
  intro fu
  induction fu with
  | zero =>
    intro x3 x4 σ H locs ls hf hR hl
    rw [f11_cut_85] at hf
    cases hf
  | succ fu ih =>
    intro x3 x4 σ H locs ls hf hR hl
    rw [f11_cut_85] at hf
    refine lv_aload_n hx hb dX11_cut_85 rfl (lv_at hl 0 rfl) ?_
    refine lv_iload_n hx hb dX11_cut_86 rfl (lv_at hl 1 rfl) ?_
    refine lv_iload_n hx hb dX11_cut_87 rfl (lv_at hl 2 rfl) ?_
    refine lv_iadd hx hb dX11_cut_88 ?_
    obtain ⟨r_45, σ_46, hc_47, hf⟩ := z_b_e hf
    refine go_i hR (mv_run (As := [.int (x1 + x3)]) (rest := []) X hR mv_11_205 kh_160 (kd_lt kh_160 (by decide)) (c11_byteAt l G N hc_47) ⟨rfl, rfl, Nat.le_of_ble_eq_true rfl, Nat.le_of_ble_eq_true rfl⟩ rfl hl.1 rfl (Nat.le_of_ble_eq_true rfl) dX11_cut_89 ⟨Nat.zero_le _, Nat.zero_le _⟩) (fun H locs hR => ?_)
    obtain ⟨r_48, σ_49, hc_50, hf⟩ := z_b_e hf
    refine go_i hR (ms_run (As := [.int r_45]) (rest := []) X hR ms_11_213 (c11_isLetter l G N hc_50) ⟨rfl, rfl, Nat.le_of_ble_eq_true rfl, Nat.le_of_ble_eq_true rfl⟩ rfl hl.1 rfl (Nat.le_of_ble_eq_true rfl) dX11_cut_92 ⟨Nat.zero_le _, Nat.zero_le _⟩) (fun H locs hR => ?_)
    refine lv_if_eq (tgt := 124) hx hb dX11_cut_95 (by decide) (fun c_51 => ?_) (fun c_51 => ?_)
    · replace hf := z_t c_51 hf
      exact w11_cut_124 X hr hlk N hk7 x1 x3 x4 σ_49 _ _ _ hf hR (lv_sub hl [0, 1, 2, 3] rfl)
    · replace hf := z_f c_51 hf
      refine lv_iload_n hx hb dX11_cut_98 rfl (lv_at hl 2 rfl) ?_
      refine lv_bipush (v := (8 : Int32)) hx hb dX11_cut_99 (by decide) ?_
      refine lv_icmp_ge (tgt := 118) hx hb dX11_cut_101 (by decide) (fun c_63 => ?_) (fun c_63 => ?_)
      · replace hf := z_t c_63 hf
        exact w11_cut_118 X hr hlk N hk7 ih x3 x4 σ_49 _ _ _ hf hR (lv_sub hl [0, 1, 2, 3] rfl)
      · replace hf := z_f c_63 hf
        refine lv_lload hx hb dX11_cut_104 (lv_at hl 3 rfl) ?_
        refine lv_aload_n hx hb dX11_cut_106 rfl (lv_at hl 0 rfl) ?_
        refine lv_iload_n hx hb dX11_cut_107 rfl (lv_at hl 1 rfl) ?_
        refine lv_iload_n hx hb dX11_cut_108 rfl (lv_at hl 2 rfl) ?_
        refine lv_iadd hx hb dX11_cut_109 ?_
        obtain ⟨r_65, σ_66, hc_67, hf⟩ := z_b_e hf
        refine go_i hR (mv_run (As := [.int (x1 + x3)]) (rest := [.long x4]) X hR mv_11_205 kh_160 (kd_lt kh_160 (by decide)) (c11_byteAt l G N hc_67) ⟨rfl, rfl, Nat.le_of_ble_eq_true rfl, Nat.le_of_ble_eq_true rfl⟩ rfl hl.1 rfl (Nat.le_of_ble_eq_true rfl) dX11_cut_110 ⟨Nat.zero_le _, Nat.zero_le _⟩) (fun H locs hR => ?_)
        obtain ⟨r_68, σ_69, hc_70, hf⟩ := z_b_e hf
        refine go_l hR (ms_run (As := [.long x4, .int r_65]) (rest := []) X hR ms_11_198 (c11_appends l G N hc_70) ⟨rfl, rfl, Nat.le_of_ble_eq_true rfl, Nat.le_of_ble_eq_true rfl⟩ rfl hl.1 rfl (Nat.le_of_ble_eq_true rfl) dX11_cut_113 ⟨Nat.zero_le _, Nat.zero_le _⟩) (fun H locs hR => ?_)
        refine lv_lstore (lv' := [(4, .long r_68), (0, .ref (G.2.2 + 160)), (1, .int x1), (3, .int x3)]) hx hb dX11_cut_116 hl (by decide) rfl (fun ls hl => ?_)
        exact w11_cut_118 X hr hlk N hk7 ih x3 r_68 σ_69 _ _ _ hf hR (lv_sub hl [1, 2, 3, 0] rfl)
set_option maxHeartbeats 4000000 in
set_option maxRecDepth 100000 in
theorem w11_cut_31 (X : Cx p s m args c cX11_cut 8 RX11 G) (hr : meth.sig.returnType = none) (hlk : meth.locks = false) (N : Nat) :
    ∀ (σ : Mm) (H : Heap) (locs : List Loc) (ls : Array Slot), f11_cut_31 N σ = some (u0, σ0) → Rp G 212 tt σ s H locs → lv_has ls 8 [(0, .ref (G.2.2 + 160))] → W p l e rm11_cut s m args below meth c H locs 0 0 (MQ below (P_v G 212 tt u0 σ0) args s 0 0 (Fr G)) (F0 m 31 ls []) := by
  have hx := X.1
  have hb := X.2.1
  intro σ H locs ls hf hR hl
  unfold f11_cut_31 at hf
  refine lv_aload_n hx hb dX11_cut_31 rfl (lv_at hl 0 rfl) ?_
  refine lv_iconst (v := (0 : Int32)) hx hb dX11_cut_32 (by decide) ?_
  refine lv_aload_n hx hb dX11_cut_33 rfl (lv_at hl 0 rfl) ?_
  refine r_gi X hR fi_11_193 kh_160 dX11_cut_34 ?_
  refine lv_iconst (v := (0 : Int32)) hx hb dX11_cut_37 (by decide) ?_
  refine lv_lconst (v := (0 : Int64)) hx hb dX11_cut_38 (by decide) ?_
  obtain ⟨r_71, σ_72, hc_73, hf⟩ := z_b_e hf
  refine go_v hR (mv_run (As := [.int (0 : Int32), .int (gI σ 160 4), .int (0 : Int32), .long (0 : Int64)]) (rest := []) X hR mv_11_209 kh_160 (kd_lt kh_160 (by decide)) (c11_token l G N hc_73) ⟨rfl, rfl, Nat.le_of_ble_eq_true rfl, Nat.le_of_ble_eq_true rfl⟩ rfl hl.1 rfl (Nat.le_of_ble_eq_true rfl) dX11_cut_39 ⟨Nat.zero_le _, Nat.zero_le _⟩) (fun H locs hR => ?_)
  exact e_v X hR hr hlk hf dX11_cut_42
set_option maxHeartbeats 4000000 in
set_option maxRecDepth 100000 in
theorem w11_cut_7 (X : Cx p s m args c cX11_cut 8 RX11 G) (hr : meth.sig.returnType = none) (hlk : meth.locks = false) (N : Nat) :
    ∀ (fu : Nat) (x1 : Int32) (σ : Mm) (H : Heap) (locs : List Loc) (ls : Array Slot), f11_cut_7 N fu x1 σ = some (u0, σ0) → Rp G 212 tt σ s H locs → lv_has ls 8 [(0, .ref (G.2.2 + 160)), (1, .int x1)] → W p l e rm11_cut s m args below meth c H locs 0 0 (MQ below (P_v G 212 tt u0 σ0) args s 0 0 (Fr G)) (F0 m 7 ls []) := by
  have hx := X.1
  have hb := X.2.1
  intro fu
  induction fu with
  | zero =>
    intro x1 σ H locs ls hf hR hl
    rw [f11_cut_7] at hf
    cases hf
  | succ fu ih =>
    intro x1 σ H locs ls hf hR hl
    rw [f11_cut_7] at hf
    refine lv_aload_n hx hb dX11_cut_7 rfl (lv_at hl 0 rfl) ?_
    refine r_gi X hR fi_11_202 kh_160 dX11_cut_8 ?_
    refine lv_sipush (v := (400 : Int32)) hx hb dX11_cut_11 (by decide) ?_
    refine lv_icmp_gt (tgt := 294) hx hb dX11_cut_14 (by decide) (fun c_2 => ?_) (fun c_2 => ?_)
    · replace hf := z_t c_2 hf
      exact e_v X hR hr hlk hf dX11_cut_294
    · replace hf := z_f c_2 hf
      refine lv_aload_n hx hb dX11_cut_17 rfl (lv_at hl 0 rfl) ?_
      refine lv_iload_n hx hb dX11_cut_18 rfl (lv_at hl 1 rfl) ?_
      obtain ⟨r_3, σ_4, hc_5, hf⟩ := z_b_e hf
      refine go_i hR (mv_run (As := [.int x1]) (rest := []) X hR mv_11_205 kh_160 (kd_lt kh_160 (by decide)) (c11_byteAt l G N hc_5) ⟨rfl, rfl, Nat.le_of_ble_eq_true rfl, Nat.le_of_ble_eq_true rfl⟩ rfl hl.1 rfl (Nat.le_of_ble_eq_true rfl) dX11_cut_19 ⟨Nat.zero_le _, Nat.zero_le _⟩) (fun H locs hR => ?_)
      refine lv_istore_n (lv' := [(2, .int r_3), (0, .ref (G.2.2 + 160)), (1, .int x1)]) hx hb dX11_cut_22 rfl hl (by decide) rfl (fun ls hl => ?_)
      refine lv_iload_n hx hb dX11_cut_23 rfl (lv_at hl 2 rfl) ?_
      refine lv_aload_n hx hb dX11_cut_24 rfl (lv_at hl 1 rfl) ?_
      refine r_gi X hR fi_11_193 kh_160 dX11_cut_25 ?_
      refine lv_icmp_lt (tgt := 43) hx hb dX11_cut_28 (by decide) (fun c_6 => ?_) (fun c_6 => ?_)
      · replace hf := z_t c_6 hf
        refine lv_iload_n hx hb dX11_cut_43 rfl (lv_at hl 0 rfl) ?_
        refine lv_bipush (v := (9 : Int32)) hx hb dX11_cut_44 (by decide) ?_
        refine lv_icmp_eq (tgt := 67) hx hb dX11_cut_46 (by decide) (fun c_7 => ?_) (fun c_7 => ?_)
        · replace hf := z_t c_7 hf
          exact w11_cut_67 X hr hlk N ih x1 σ_4 _ _ _ hf hR (lv_sub hl [1, 2] rfl)
        · replace hf := z_f c_7 hf
          refine lv_iload_n hx hb dX11_cut_49 rfl (lv_at hl 0 rfl) ?_
          refine lv_bipush (v := (10 : Int32)) hx hb dX11_cut_50 (by decide) ?_
          refine lv_icmp_eq (tgt := 67) hx hb dX11_cut_52 (by decide) (fun c_9 => ?_) (fun c_9 => ?_)
          · replace hf := z_t c_9 hf
            exact w11_cut_67 X hr hlk N ih x1 σ_4 _ _ _ hf hR (lv_sub hl [1, 2] rfl)
          · replace hf := z_f c_9 hf
            refine lv_iload_n hx hb dX11_cut_55 rfl (lv_at hl 0 rfl) ?_
            refine lv_bipush (v := (13 : Int32)) hx hb dX11_cut_56 (by decide) ?_
            refine lv_icmp_eq (tgt := 67) hx hb dX11_cut_58 (by decide) (fun c_10 => ?_) (fun c_10 => ?_)
            · replace hf := z_t c_10 hf
              exact w11_cut_67 X hr hlk N ih x1 σ_4 _ _ _ hf hR (lv_sub hl [1, 2] rfl)
            · replace hf := z_f c_10 hf
              refine lv_iload_n hx hb dX11_cut_61 rfl (lv_at hl 0 rfl) ?_
              refine lv_bipush (v := (32 : Int32)) hx hb dX11_cut_62 (by decide) ?_
              refine lv_icmp_ne (tgt := 73) hx hb dX11_cut_64 (by decide) (fun c_11 => ?_) (fun c_11 => ?_)
              · replace hf := z_f c_11 hf
                refine lv_iload_n hx hb dX11_cut_73 rfl (lv_at hl 0 rfl) ?_
                obtain ⟨r_12, σ_13, hc_14, hf⟩ := z_b_e hf
                refine go_i hR (ms_run (As := [.int r_3]) (rest := []) X hR ms_11_213 (c11_isLetter l G N hc_14) ⟨rfl, rfl, Nat.le_of_ble_eq_true rfl, Nat.le_of_ble_eq_true rfl⟩ rfl hl.1 rfl (Nat.le_of_ble_eq_true rfl) dX11_cut_74 ⟨Nat.zero_le _, Nat.zero_le _⟩) (fun H locs hR => ?_)
                refine lv_if_eq (tgt := 196) hx hb dX11_cut_77 (by decide) (fun c_15 => ?_) (fun c_15 => ?_)
                · replace hf := z_t c_15 hf
                  refine lv_iload_n hx hb dX11_cut_196 rfl (lv_at hl 0 rfl) ?_
                  obtain ⟨r_16, σ_17, hc_18, hf⟩ := z_b_e hf
                  refine go_i hR (ms_run (As := [.int r_3]) (rest := []) X hR ms_11_217 (c11_isDigit l G N hc_18) ⟨rfl, rfl, Nat.le_of_ble_eq_true rfl, Nat.le_of_ble_eq_true rfl⟩ rfl hl.1 rfl (Nat.le_of_ble_eq_true rfl) dX11_cut_197 ⟨Nat.zero_le _, Nat.zero_le _⟩) (fun H locs hR => ?_)
                  refine lv_if_eq (tgt := 275) hx hb dX11_cut_200 (by decide) (fun c_19 => ?_) (fun c_19 => ?_)
                  · replace hf := z_t c_19 hf
                    refine lv_iload_n hx hb dX11_cut_275 rfl (lv_at hl 2 rfl) ?_
                    refine lv_aload_n hx hb dX11_cut_276 rfl (lv_at hl 1 rfl) ?_
                    refine lv_iload_n hx hb dX11_cut_277 rfl (lv_at hl 2 rfl) ?_
                    refine lv_iload_n hx hb dX11_cut_278 rfl (lv_at hl 0 rfl) ?_
                    refine lv_aload_n hx hb dX11_cut_279 rfl (lv_at hl 1 rfl) ?_
                    refine lv_iload_n hx hb dX11_cut_280 rfl (lv_at hl 2 rfl) ?_
                    refine lv_iconst (v := (1 : Int32)) hx hb dX11_cut_281 (by decide) ?_
                    refine lv_iadd hx hb dX11_cut_282 ?_
                    obtain ⟨r_20, σ_21, hc_22, hf⟩ := z_b_e hf
                    refine go_i hR (mv_run (As := [.int (x1 + (1 : Int32))]) (rest := [.int r_3, .int x1, .ref (G.2.2 + 160), .int x1]) X hR mv_11_205 kh_160 (kd_lt kh_160 (by decide)) (c11_byteAt l G N hc_22) ⟨rfl, rfl, Nat.le_of_ble_eq_true rfl, Nat.le_of_ble_eq_true rfl⟩ rfl hl.1 rfl (Nat.le_of_ble_eq_true rfl) dX11_cut_283 ⟨Nat.zero_le _, Nat.zero_le _⟩) (fun H locs hR => ?_)
                    obtain ⟨r_23, σ_24, hc_25, hf⟩ := z_b_e hf
                    refine go_i hR (mv_run (As := [.int x1, .int r_3, .int r_20]) (rest := [.int x1]) X hR mv_11_220 kh_160 (kd_lt kh_160 (by decide)) (c11_sign l G N hc_25) ⟨rfl, rfl, Nat.le_of_ble_eq_true rfl, Nat.le_of_ble_eq_true rfl⟩ rfl hl.1 rfl (Nat.le_of_ble_eq_true rfl) dX11_cut_286 ⟨Nat.zero_le _, Nat.zero_le _⟩) (fun H locs hR => ?_)
                    refine lv_iadd hx hb dX11_cut_289 ?_
                    refine lv_topi (fun x1_26 ex1_26 => ?_)
                    replace hf := z_l_e ex1_26 hf
                    refine lv_istore_n (lv' := [(1, .int x1_26), (2, .int r_3), (0, .ref (G.2.2 + 160))]) hx hb dX11_cut_290 rfl hl (by decide) rfl (fun ls hl => ?_)
                    exact w11_cut_291 X hr hlk N ih x1_26 σ_24 _ _ _ hf hR (lv_sub hl [2, 0] rfl)
                  · replace hf := z_f c_19 hf
                    refine lv_iconst (v := (0 : Int32)) hx hb dX11_cut_203 (by decide) ?_
                    refine lv_istore_n (lv' := [(3, .int (0 : Int32)), (2, .int r_3), (0, .ref (G.2.2 + 160)), (1, .int x1)]) hx hb dX11_cut_204 rfl hl (by decide) rfl (fun ls hl => ?_)
                    refine lv_iconst (v := (0 : Int32)) hx hb dX11_cut_205 (by decide) ?_
                    refine lv_istore (lv' := [(4, .int (0 : Int32)), (3, .int (0 : Int32)), (2, .int r_3), (0, .ref (G.2.2 + 160)), (1, .int x1)]) hx hb dX11_cut_206 hl (by decide) rfl (fun ls hl => ?_)
                    exact w11_cut_208 X hr hlk N ih N (0 : Int32) (0 : Int32) σ_17 _ _ _ hf hR (lv_sub hl [3, 4, 1, 0] rfl)
                · replace hf := z_f c_15 hf
                  refine lv_iconst (v := (0 : Int32)) hx hb dX11_cut_80 (by decide) ?_
                  refine lv_istore_n (lv' := [(3, .int (0 : Int32)), (2, .int r_3), (0, .ref (G.2.2 + 160)), (1, .int x1)]) hx hb dX11_cut_81 rfl hl (by decide) rfl (fun ls hl => ?_)
                  refine lv_lconst (v := (0 : Int64)) hx hb dX11_cut_82 (by decide) ?_
                  refine lv_lstore (lv' := [(4, .long (0 : Int64)), (3, .int (0 : Int32)), (2, .int r_3), (0, .ref (G.2.2 + 160)), (1, .int x1)]) hx hb dX11_cut_83 hl (by decide) rfl (fun ls hl => ?_)
                  exact w11_cut_85 X hr hlk N ih N (0 : Int32) (0 : Int64) σ_13 _ _ _ hf hR (lv_sub hl [3, 4, 1, 0] rfl)
              · replace hf := z_t c_11 hf
                exact w11_cut_67 X hr hlk N ih x1 σ_4 _ _ _ hf hR (lv_sub hl [1, 2] rfl)
      · replace hf := z_f c_6 hf
        exact w11_cut_31 X hr hlk N   σ_4 _ _ _ hf hR (lv_sub hl [1] rfl)
set_option maxHeartbeats 4000000 in
set_option maxRecDepth 100000 in
theorem c11_cut (l : Launch) (G : Gp) (N : Nat) {σ σ0 : Mm} {u0 : Unit} (hf : f11_cut N σ = some (u0, σ0)) : Met l yX11_cut (WS yX11_cut cX11_cut 8 (none)) rm11_cut (va_Pc [.ref (G.2.2 + 160)] (Pd G 212 tt σ)) (P_v G 212 tt u0 σ0) 0 0 (Fr G) := by
  refine ct [(0, .ref (G.2.2 + 160))] rfl (by decide) (Nat.le_of_ble_eq_true rfl) ?_
  intro p e s m below meth c ls X hr hlk hR hl
  have X : Cx p s m _ c cX11_cut 8 RX11 G := X
  have hx := X.1
  have hb := X.2.1
  unfold f11_cut at hf
  refine lv_aload_n hx hb dX11_cut_0 rfl (lv_at hl 0 rfl) ?_
  refine lv_iconst (v := (0 : Int32)) hx hb dX11_cut_1 (by decide) ?_
  refine r_pi X hR pi_11_202 kh_160 dX11_cut_2 (fun H locs σ_1 eσ_1 hR => ?_)
  replace hf := z_l_e eσ_1 hf
  refine lv_iconst (v := (0 : Int32)) hx hb dX11_cut_5 (by decide) ?_
  refine lv_istore_n (lv' := [(1, .int (0 : Int32)), (0, .ref (G.2.2 + 160))]) hx hb dX11_cut_6 rfl hl (by decide) rfl (fun ls hl => ?_)
  exact w11_cut_7 X hr hlk N  N (0 : Int32) σ_1 _ _ _ hf hR (lv_sub hl [1, 0] rfl)
abbrev rm11_is : Room := { frames := 0, cells := 0, slots := 0, locals := 0 }
def f11_is (N : Nat) (x1 : Int32) (σ : Mm) : Option (Int32 × Mm) :=
  if (gI σ 160 13) = 0 then (
  z_c (inB (gI σ 160 11) 403) (
  if (gI σ 163 (ix (gI σ 160 11))) = x1 then (
  some ((1 : Int32), σ)) else (
  some ((0 : Int32), σ)))) else (
  some ((0 : Int32), σ))
set_option maxHeartbeats 4000000 in
set_option maxRecDepth 100000 in
theorem c11_is (l : Launch) (G : Gp) (N : Nat) {x1 : Int32} {σ σ0 : Mm} {r0 : Int32} (hf : f11_is N x1 σ = some (r0, σ0)) : Met l yX11_is (WS yX11_is cX11_is 2 (some .boolean)) rm11_is (va_Pc [.ref (G.2.2 + 160), .int x1] (Pd G 212 tt σ)) (P_i G 212 tt r0 σ0) 0 0 (Fr G) := by
  refine ct [(0, .ref (G.2.2 + 160)), (1, .int x1)] rfl (by decide) (Nat.le_of_ble_eq_true rfl) ?_
  intro p e s m below meth c ls X hr hlk hR hl
  have X : Cx p s m _ c cX11_is 2 RX11 G := X
  have hx := X.1
  have hb := X.2.1
  unfold f11_is at hf
  refine lv_aload_n hx hb dX11_is_0 rfl (lv_at hl 0 rfl) ?_
  refine r_gi X hR fi_11_224 kh_160 dX11_is_1 ?_
  refine lv_if_ne (tgt := 24) hx hb dX11_is_4 (by decide) (fun c_1 => ?_) (fun c_1 => ?_)
  · replace hf := z_f c_1 hf
    refine lv_iconst (v := (0 : Int32)) hx hb dX11_is_24 (by decide) ?_
    exact e_z X hR hr hlk rfl hf dX11_is_25
  · replace hf := z_t c_1 hf
    refine lv_aload_n hx hb dX11_is_7 rfl (lv_at hl 0 rfl) ?_
    refine r_gs (t := 163) X hR fr_11_20 kh_160 (sx_11_5 kh_160) dX11_is_8 ?_
    refine lv_aload_n hx hb dX11_is_11 rfl (lv_at hl 0 rfl) ?_
    refine r_gi X hR fi_11_227 kh_160 dX11_is_12 ?_
    obtain ⟨hi_2, hf⟩ := z_c_e hf
    refine r_ial X hR ka_163 hi_2 dX11_is_15 ?_
    refine lv_iload_n hx hb dX11_is_16 rfl (lv_at hl 1 rfl) ?_
    refine lv_icmp_ne (tgt := 24) hx hb dX11_is_17 (by decide) (fun c_3 => ?_) (fun c_3 => ?_)
    · replace hf := z_f c_3 hf
      refine lv_iconst (v := (0 : Int32)) hx hb dX11_is_24 (by decide) ?_
      exact e_z X hR hr hlk rfl hf dX11_is_25
    · replace hf := z_t c_3 hf
      refine lv_iconst (v := (1 : Int32)) hx hb dX11_is_20 (by decide) ?_
      refine lv_goto (tgt := 25) hx hb dX11_is_21 (by decide) ?_
      exact e_z X hR hr hlk rfl hf dX11_is_25
abbrev rm11_fail : Room := { frames := 0, cells := 0, slots := 0, locals := 0 }
def f11_fail (N : Nat) (x1 : Int32) (σ : Mm) : Option (Unit × Mm) :=
  if (gI σ 160 13) ≤ 0 then (
  z_l (sI σ 160 13 x1) fun σ_2 =>
  z_c (inB (gI σ_2 160 11) 403) (
  z_l (sI σ_2 160 14 (gI σ_2 164 (ix (gI σ_2 160 11)))) fun σ_4 =>
  some ((), σ_4))) else (
  some ((), σ))
set_option maxHeartbeats 4000000 in
set_option maxRecDepth 100000 in
theorem c11_fail (l : Launch) (G : Gp) (N : Nat) {x1 : Int32} {σ σ0 : Mm} {u0 : Unit} (hf : f11_fail N x1 σ = some (u0, σ0)) : Met l yX11_fail (WS yX11_fail cX11_fail 2 (none)) rm11_fail (va_Pc [.ref (G.2.2 + 160), .int x1] (Pd G 212 tt σ)) (P_v G 212 tt u0 σ0) 0 0 (Fr G) := by
  refine ct [(0, .ref (G.2.2 + 160)), (1, .int x1)] rfl (by decide) (Nat.le_of_ble_eq_true rfl) ?_
  intro p e s m below meth c ls X hr hlk hR hl
  have X : Cx p s m _ c cX11_fail 2 RX11 G := X
  have hx := X.1
  have hb := X.2.1
  unfold f11_fail at hf
  refine lv_aload_n hx hb dX11_fail_0 rfl (lv_at hl 0 rfl) ?_
  refine r_gi X hR fi_11_224 kh_160 dX11_fail_1 ?_
  refine lv_if_le (tgt := 8) hx hb dX11_fail_4 (by decide) (fun c_1 => ?_) (fun c_1 => ?_)
  · replace hf := z_t c_1 hf
    refine lv_aload_n hx hb dX11_fail_8 rfl (lv_at hl 0 rfl) ?_
    refine lv_iload_n hx hb dX11_fail_9 rfl (lv_at hl 1 rfl) ?_
    refine r_pi X hR pi_11_224 kh_160 dX11_fail_10 (fun H locs σ_2 eσ_2 hR => ?_)
    replace hf := z_l_e eσ_2 hf
    refine lv_aload_n hx hb dX11_fail_13 rfl (lv_at hl 0 rfl) ?_
    refine lv_aload_n hx hb dX11_fail_14 rfl (lv_at hl 0 rfl) ?_
    refine r_gs (t := 164) X hR fr_11_24 kh_160 (sx_11_6 kh_160) dX11_fail_15 ?_
    refine lv_aload_n hx hb dX11_fail_18 rfl (lv_at hl 0 rfl) ?_
    refine r_gi X hR fi_11_227 kh_160 dX11_fail_19 ?_
    obtain ⟨hi_3, hf⟩ := z_c_e hf
    refine r_ial X hR ka_164 hi_3 dX11_fail_22 ?_
    refine r_pi X hR pi_11_230 kh_160 dX11_fail_23 (fun H locs σ_4 eσ_4 hR => ?_)
    replace hf := z_l_e eσ_4 hf
    exact e_v X hR hr hlk hf dX11_fail_26
  · replace hf := z_f c_1 hf
    exact e_v X hR hr hlk hf dX11_fail_7
abbrev rm11_wrong : Room := { frames := 0, cells := 0, slots := 0, locals := 0 }
def f11_wrong_46 (N : Nat) (x1 : Int32) (x3 : Int32) (σ : Mm) : Option (Unit × Mm) :=
  z_l (sI σ 160 15 x1) fun σ_5 =>
  z_l (sI σ_5 160 16 x3) fun σ_6 =>
  some ((), σ_6)
def f11_wrong (N : Nat) (x1 : Int32) (x2 : Int32) (σ : Mm) : Option (Unit × Mm) :=
  z_c (inB x2 403) (
  z_l ((gI σ 164 (ix x2))) fun x3_2 =>
  if 0 < (gI σ 160 13) then (
  some ((), σ)) else (
  if (gI σ 160 15) = 0 then (
  f11_wrong_46 N x1 x3_2 σ) else (
  if (gI σ 160 16) < x3_2 then (
  some ((), σ)) else (
  if x3_2 = (gI σ 160 16) then (
  if x1 < (gI σ 160 15) then (
  f11_wrong_46 N x1 x3_2 σ) else (
  some ((), σ))) else (
  f11_wrong_46 N x1 x3_2 σ)))))
set_option maxHeartbeats 4000000 in
set_option maxRecDepth 100000 in
theorem w11_wrong_46 (X : Cx p s m args c cX11_wrong 4 RX11 G) (hr : meth.sig.returnType = none) (hlk : meth.locks = false) (N : Nat) :
    ∀ (x1 : Int32) (x3 : Int32) (σ : Mm) (H : Heap) (locs : List Loc) (ls : Array Slot), f11_wrong_46 N x1 x3 σ = some (u0, σ0) → Rp G 212 tt σ s H locs → lv_has ls 4 [(0, .ref (G.2.2 + 160)), (1, .int x1), (3, .int x3)] → W p l e rm11_wrong s m args below meth c H locs 0 0 (MQ below (P_v G 212 tt u0 σ0) args s 0 0 (Fr G)) (F0 m 46 ls []) := by
  have hx := X.1
  have hb := X.2.1
  intro x1 x3 σ H locs ls hf hR hl
  unfold f11_wrong_46 at hf
  refine lv_aload_n hx hb dX11_wrong_46 rfl (lv_at hl 0 rfl) ?_
  refine lv_iload_n hx hb dX11_wrong_47 rfl (lv_at hl 1 rfl) ?_
  refine r_pi X hR pi_11_233 kh_160 dX11_wrong_48 (fun H locs σ_5 eσ_5 hR => ?_)
  replace hf := z_l_e eσ_5 hf
  refine lv_aload_n hx hb dX11_wrong_51 rfl (lv_at hl 0 rfl) ?_
  refine lv_iload_n hx hb dX11_wrong_52 rfl (lv_at hl 2 rfl) ?_
  refine r_pi X hR pi_11_236 kh_160 dX11_wrong_53 (fun H locs σ_6 eσ_6 hR => ?_)
  replace hf := z_l_e eσ_6 hf
  exact e_v X hR hr hlk hf dX11_wrong_56
set_option maxHeartbeats 4000000 in
set_option maxRecDepth 100000 in
theorem c11_wrong (l : Launch) (G : Gp) (N : Nat) {x1 : Int32} {x2 : Int32} {σ σ0 : Mm} {u0 : Unit} (hf : f11_wrong N x1 x2 σ = some (u0, σ0)) : Met l yX11_wrong (WS yX11_wrong cX11_wrong 4 (none)) rm11_wrong (va_Pc [.ref (G.2.2 + 160), .int x1, .int x2] (Pd G 212 tt σ)) (P_v G 212 tt u0 σ0) 0 0 (Fr G) := by
  refine ct [(0, .ref (G.2.2 + 160)), (1, .int x1), (2, .int x2)] rfl (by decide) (Nat.le_of_ble_eq_true rfl) ?_
  intro p e s m below meth c ls X hr hlk hR hl
  have X : Cx p s m _ c cX11_wrong 4 RX11 G := X
  have hx := X.1
  have hb := X.2.1
  unfold f11_wrong at hf
  refine lv_aload_n hx hb dX11_wrong_0 rfl (lv_at hl 0 rfl) ?_
  refine r_gs (t := 164) X hR fr_11_24 kh_160 (sx_11_6 kh_160) dX11_wrong_1 ?_
  refine lv_iload_n hx hb dX11_wrong_4 rfl (lv_at hl 2 rfl) ?_
  obtain ⟨hi_1, hf⟩ := z_c_e hf
  refine r_ial X hR ka_164 hi_1 dX11_wrong_5 ?_
  refine lv_topi (fun x3_2 ex3_2 => ?_)
  replace hf := z_l_e ex3_2 hf
  refine lv_istore_n (lv' := [(3, .int x3_2), (0, .ref (G.2.2 + 160)), (1, .int x1), (2, .int x2)]) hx hb dX11_wrong_6 rfl hl (by decide) rfl (fun ls hl => ?_)
  refine lv_aload_n hx hb dX11_wrong_7 rfl (lv_at hl 1 rfl) ?_
  refine r_gi X hR fi_11_224 kh_160 dX11_wrong_8 ?_
  refine lv_if_gt (tgt := 45) hx hb dX11_wrong_11 (by decide) (fun c_3 => ?_) (fun c_3 => ?_)
  · replace hf := z_t c_3 hf
    exact e_v X hR hr hlk hf dX11_wrong_45
  · replace hf := z_f c_3 hf
    refine lv_aload_n hx hb dX11_wrong_14 rfl (lv_at hl 1 rfl) ?_
    refine r_gi X hR fi_11_233 kh_160 dX11_wrong_15 ?_
    refine lv_if_eq (tgt := 46) hx hb dX11_wrong_18 (by decide) (fun c_4 => ?_) (fun c_4 => ?_)
    · replace hf := z_t c_4 hf
      exact w11_wrong_46 X hr hlk N  x1 x3_2 σ _ _ _ hf hR (lv_sub hl [1, 2, 0] rfl)
    · replace hf := z_f c_4 hf
      refine lv_iload_n hx hb dX11_wrong_21 rfl (lv_at hl 0 rfl) ?_
      refine lv_aload_n hx hb dX11_wrong_22 rfl (lv_at hl 1 rfl) ?_
      refine r_gi X hR fi_11_236 kh_160 dX11_wrong_23 ?_
      refine lv_icmp_gt (tgt := 45) hx hb dX11_wrong_26 (by decide) (fun c_7 => ?_) (fun c_7 => ?_)
      · replace hf := z_t c_7 hf
        exact e_v X hR hr hlk hf dX11_wrong_45
      · replace hf := z_f c_7 hf
        refine lv_iload_n hx hb dX11_wrong_29 rfl (lv_at hl 0 rfl) ?_
        refine lv_aload_n hx hb dX11_wrong_30 rfl (lv_at hl 1 rfl) ?_
        refine r_gi X hR fi_11_236 kh_160 dX11_wrong_31 ?_
        refine lv_icmp_ne (tgt := 46) hx hb dX11_wrong_34 (by decide) (fun c_8 => ?_) (fun c_8 => ?_)
        · replace hf := z_f c_8 hf
          exact w11_wrong_46 X hr hlk N  x1 x3_2 σ _ _ _ hf hR (lv_sub hl [1, 2, 0] rfl)
        · replace hf := z_t c_8 hf
          refine lv_iload_n hx hb dX11_wrong_37 rfl (lv_at hl 2 rfl) ?_
          refine lv_aload_n hx hb dX11_wrong_38 rfl (lv_at hl 1 rfl) ?_
          refine r_gi X hR fi_11_233 kh_160 dX11_wrong_39 ?_
          refine lv_icmp_lt (tgt := 46) hx hb dX11_wrong_42 (by decide) (fun c_9 => ?_) (fun c_9 => ?_)
          · replace hf := z_t c_9 hf
            exact w11_wrong_46 X hr hlk N  x1 x3_2 σ _ _ _ hf hR (lv_sub hl [1, 2, 0] rfl)
          · replace hf := z_f c_9 hf
            exact e_v X hR hr hlk hf dX11_wrong_45
abbrev rm11_goesOn : Room := { frames := 1, cells := 0, slots := 0, locals := 21 }
def f11_goesOn (N : Nat) (σ : Mm) : Option (Unit × Mm) :=
  if (gI σ 160 11) = (400 : Int32) then (
  z_b (f11_fail N (2 : Int32) σ) fun _ σ_4 =>
  some ((), σ_4)) else (
  z_l (sI σ 160 11 ((gI σ 160 11) + (1 : Int32))) fun σ_2 =>
  some ((), σ_2))
set_option maxHeartbeats 4000000 in
set_option maxRecDepth 100000 in
theorem c11_goesOn (l : Launch) (G : Gp) (N : Nat) {σ σ0 : Mm} {u0 : Unit} (hf : f11_goesOn N σ = some (u0, σ0)) : Met l yX11_goesOn (WS yX11_goesOn cX11_goesOn 1 (none)) rm11_goesOn (va_Pc [.ref (G.2.2 + 160)] (Pd G 212 tt σ)) (P_v G 212 tt u0 σ0) 0 0 (Fr G) := by
  refine ct [(0, .ref (G.2.2 + 160))] rfl (by decide) (Nat.le_of_ble_eq_true rfl) ?_
  intro p e s m below meth c ls X hr hlk hR hl
  have X : Cx p s m _ c cX11_goesOn 1 RX11 G := X
  have hx := X.1
  have hb := X.2.1
  unfold f11_goesOn at hf
  refine lv_aload_n hx hb dX11_goesOn_0 rfl (lv_at hl 0 rfl) ?_
  refine r_gi X hR fi_11_227 kh_160 dX11_goesOn_1 ?_
  refine lv_sipush (v := (400 : Int32)) hx hb dX11_goesOn_4 (by decide) ?_
  refine lv_icmp_ne (tgt := 18) hx hb dX11_goesOn_7 (by decide) (fun c_1 => ?_) (fun c_1 => ?_)
  · replace hf := z_f c_1 hf
    refine lv_aload_n hx hb dX11_goesOn_18 rfl (lv_at hl 0 rfl) ?_
    refine lv_dup hx hb dX11_goesOn_19 rfl ?_
    refine r_gi X hR fi_11_227 kh_160 dX11_goesOn_20 ?_
    refine lv_iconst (v := (1 : Int32)) hx hb dX11_goesOn_23 (by decide) ?_
    refine lv_iadd hx hb dX11_goesOn_24 ?_
    refine r_pi X hR pi_11_227 kh_160 dX11_goesOn_25 (fun H locs σ_2 eσ_2 hR => ?_)
    replace hf := z_l_e eσ_2 hf
    exact e_v X hR hr hlk hf dX11_goesOn_28
  · replace hf := z_t c_1 hf
    refine lv_aload_n hx hb dX11_goesOn_10 rfl (lv_at hl 0 rfl) ?_
    refine lv_iconst (v := (2 : Int32)) hx hb dX11_goesOn_11 (by decide) ?_
    obtain ⟨r_3, σ_4, hc_5, hf⟩ := z_b_e hf
    refine go_v hR (mv_run (As := [.int (2 : Int32)]) (rest := []) X hR mv_11_239 kh_160 (kd_lt kh_160 (by decide)) (c11_fail l G N hc_5) ⟨rfl, rfl, Nat.le_of_ble_eq_true rfl, Nat.le_of_ble_eq_true rfl⟩ rfl hl.1 rfl (Nat.le_of_ble_eq_true rfl) dX11_goesOn_12 ⟨Nat.zero_le _, Nat.zero_le _⟩) (fun H locs hR => ?_)
    refine lv_goto (tgt := 28) hx hb dX11_goesOn_15 (by decide) ?_
    exact e_v X hR hr hlk hf dX11_goesOn_28
abbrev rm11_must : Room := { frames := 2, cells := 0, slots := 0, locals := 41 }
def f11_must (N : Nat) (x1 : Int32) (σ : Mm) : Option (Unit × Mm) :=
  z_b (f11_is N x1 σ) fun r_1 σ_2 =>
  if r_1 = 0 then (
  z_b (f11_fail N (1 : Int32) σ_2) fun _ σ_6 =>
  some ((), σ_6)) else (
  z_b (f11_goesOn N σ_2) fun _ σ_9 =>
  some ((), σ_9))
set_option maxHeartbeats 4000000 in
set_option maxRecDepth 100000 in
theorem c11_must (l : Launch) (G : Gp) (N : Nat) {x1 : Int32} {σ σ0 : Mm} {u0 : Unit} (hf : f11_must N x1 σ = some (u0, σ0)) : Met l yX11_must (WS yX11_must cX11_must 2 (none)) rm11_must (va_Pc [.ref (G.2.2 + 160), .int x1] (Pd G 212 tt σ)) (P_v G 212 tt u0 σ0) 0 0 (Fr G) := by
  refine ct [(0, .ref (G.2.2 + 160)), (1, .int x1)] rfl (by decide) (Nat.le_of_ble_eq_true rfl) ?_
  intro p e s m below meth c ls X hr hlk hR hl
  have X : Cx p s m _ c cX11_must 2 RX11 G := X
  have hx := X.1
  have hb := X.2.1
  unfold f11_must at hf
  refine lv_aload_n hx hb dX11_must_0 rfl (lv_at hl 0 rfl) ?_
  refine lv_iload_n hx hb dX11_must_1 rfl (lv_at hl 1 rfl) ?_
  obtain ⟨r_1, σ_2, hc_3, hf⟩ := z_b_e hf
  refine go_i hR (mv_run (As := [.int x1]) (rest := []) X hR mv_11_242 kh_160 (kd_lt kh_160 (by decide)) (c11_is l G N hc_3) ⟨rfl, rfl, Nat.le_of_ble_eq_true rfl, Nat.le_of_ble_eq_true rfl⟩ rfl hl.1 rfl (Nat.le_of_ble_eq_true rfl) dX11_must_2 ⟨Nat.zero_le _, Nat.zero_le _⟩) (fun H locs hR => ?_)
  refine lv_if_eq (tgt := 15) hx hb dX11_must_5 (by decide) (fun c_4 => ?_) (fun c_4 => ?_)
  · replace hf := z_t c_4 hf
    refine lv_aload_n hx hb dX11_must_15 rfl (lv_at hl 0 rfl) ?_
    refine lv_iconst (v := (1 : Int32)) hx hb dX11_must_16 (by decide) ?_
    obtain ⟨r_5, σ_6, hc_7, hf⟩ := z_b_e hf
    refine go_v hR (mv_run (As := [.int (1 : Int32)]) (rest := []) X hR mv_11_239 kh_160 (kd_lt kh_160 (by decide)) (c11_fail l G N hc_7) ⟨rfl, rfl, Nat.le_of_ble_eq_true rfl, Nat.le_of_ble_eq_true rfl⟩ rfl hl.1 rfl (Nat.le_of_ble_eq_true rfl) dX11_must_17 ⟨Nat.zero_le _, Nat.zero_le _⟩) (fun H locs hR => ?_)
    exact e_v X hR hr hlk hf dX11_must_20
  · replace hf := z_f c_4 hf
    refine lv_aload_n hx hb dX11_must_8 rfl (lv_at hl 0 rfl) ?_
    obtain ⟨r_8, σ_9, hc_10, hf⟩ := z_b_e hf
    refine go_v hR (mv_run (As := []) (rest := []) X hR mv_11_245 kh_160 (kd_lt kh_160 (by decide)) (c11_goesOn l G N hc_10) ⟨rfl, rfl, Nat.le_of_ble_eq_true rfl, Nat.le_of_ble_eq_true rfl⟩ rfl hl.1 rfl (Nat.le_of_ble_eq_true rfl) dX11_must_9 ⟨Nat.zero_le _, Nat.zero_le _⟩) (fun H locs hR => ?_)
    refine lv_goto (tgt := 20) hx hb dX11_must_12 (by decide) ?_
    exact e_v X hR hr hlk hf dX11_must_20
abbrev rm11_plain : Room := { frames := 0, cells := 0, slots := 0, locals := 0 }
def f11_plain_44 (N : Nat) (x1 : Int32) : Nat → Int32 → Mm → Option (Unit × Mm)
  | 0, _, _ => none
  | fu + 1, x2, σ => if (4 : Int32) ≤ x2 then (
  some ((), σ)) else (
  z_c (inB (((4 : Int32) * x1) + x2) 8) (z_l (sI σ 186 (ix (((4 : Int32) * x1) + x2)) (0 : Int32)) fun σ_15 =>
  z_c (inB (((4 : Int32) * x1) + x2) 8) (z_l (sI σ_15 187 (ix (((4 : Int32) * x1) + x2)) (0 : Int32)) fun σ_17 =>
  z_l (x2 + (1 : Int32)) fun x2_18 =>
  f11_plain_44 N x1 fu x2_18 σ_17)))
def f11_plain (N : Nat) (x1 : Int32) (σ : Mm) : Option (Unit × Mm) :=
  z_c (inB x1 2) (z_l (sI σ 170 (ix x1) (0 : Int32)) fun σ_2 =>
  z_c (inB x1 2) (z_l (sI σ_2 171 (ix x1) (0 : Int32)) fun σ_4 =>
  z_c (inB x1 2) (z_l (sI σ_4 175 (ix x1) (0 : Int32)) fun σ_6 =>
  z_c (inB x1 2) (z_l (sI σ_6 178 (ix x1) (0 : Int32)) fun σ_8 =>
  z_c (inB x1 2) (z_l (sI σ_8 184 (ix x1) (1 : Int32)) fun σ_10 =>
  z_c (inB x1 2) (z_l (sI σ_10 185 (ix x1) (0 : Int32)) fun σ_12 =>
  f11_plain_44 N x1 N (0 : Int32) σ_12))))))
set_option maxHeartbeats 4000000 in
set_option maxRecDepth 100000 in
theorem w11_plain_44 (X : Cx p s m args c cX11_plain 3 RX11 G) (hr : meth.sig.returnType = none) (hlk : meth.locks = false) (N : Nat) {x1 : Int32} :
    ∀ (fu : Nat) (x2 : Int32) (σ : Mm) (H : Heap) (locs : List Loc) (ls : Array Slot), f11_plain_44 N x1 fu x2 σ = some (u0, σ0) → Rp G 212 tt σ s H locs → lv_has ls 3 [(0, .ref (G.2.2 + 160)), (1, .int x1), (2, .int x2)] → W p l e rm11_plain s m args below meth c H locs 0 0 (MQ below (P_v G 212 tt u0 σ0) args s 0 0 (Fr G)) (F0 m 44 ls []) := by
  have hx := X.1
  have hb := X.2.1
  intro fu
  induction fu with
  | zero =>
    intro x2 σ H locs ls hf hR hl
    rw [f11_plain_44] at hf
    cases hf
  | succ fu ih =>
    intro x2 σ H locs ls hf hR hl
    rw [f11_plain_44] at hf
    refine lv_iload_n hx hb dX11_plain_44 rfl (lv_at hl 2 rfl) ?_
    refine lv_iconst (v := (4 : Int32)) hx hb dX11_plain_45 (by decide) ?_
    refine lv_icmp_ge (tgt := 77) hx hb dX11_plain_46 (by decide) (fun c_13 => ?_) (fun c_13 => ?_)
    · replace hf := z_t c_13 hf
      exact e_v X hR hr hlk hf dX11_plain_77
    · replace hf := z_f c_13 hf
      refine lv_aload_n hx hb dX11_plain_49 rfl (lv_at hl 0 rfl) ?_
      refine r_gs (t := 186) X hR fr_11_94 kh_160 (sx_11_39 kh_160) dX11_plain_50 ?_
      refine lv_iconst (v := (4 : Int32)) hx hb dX11_plain_53 (by decide) ?_
      refine lv_iload_n hx hb dX11_plain_54 rfl (lv_at hl 1 rfl) ?_
      refine lv_imul hx hb dX11_plain_55 ?_
      refine lv_iload_n hx hb dX11_plain_56 rfl (lv_at hl 2 rfl) ?_
      refine lv_iadd hx hb dX11_plain_57 ?_
      refine lv_iconst (v := (0 : Int32)) hx hb dX11_plain_58 (by decide) ?_
      obtain ⟨hi_14, hf⟩ := z_c_e hf
      refine r_ias X hR ka_186 hi_14 dX11_plain_59 (fun H locs σ_15 eσ_15 hR => ?_)
      replace hf := z_l_e eσ_15 hf
      refine lv_aload_n hx hb dX11_plain_60 rfl (lv_at hl 0 rfl) ?_
      refine r_gs (t := 187) X hR fr_11_97 kh_160 (sx_11_40 kh_160) dX11_plain_61 ?_
      refine lv_iconst (v := (4 : Int32)) hx hb dX11_plain_64 (by decide) ?_
      refine lv_iload_n hx hb dX11_plain_65 rfl (lv_at hl 1 rfl) ?_
      refine lv_imul hx hb dX11_plain_66 ?_
      refine lv_iload_n hx hb dX11_plain_67 rfl (lv_at hl 2 rfl) ?_
      refine lv_iadd hx hb dX11_plain_68 ?_
      refine lv_iconst (v := (0 : Int32)) hx hb dX11_plain_69 (by decide) ?_
      obtain ⟨hi_16, hf⟩ := z_c_e hf
      refine r_ias X hR ka_187 hi_16 dX11_plain_70 (fun H locs σ_17 eσ_17 hR => ?_)
      replace hf := z_l_e eσ_17 hf
      obtain ⟨x2_18, ex2_18⟩ : ∃ z : Int32, z = x2 + (1 : Int32) := ⟨_, rfl⟩
      replace hf := z_l_e ex2_18 hf
      refine lv_iinc (v := x2_18) (lv' := [(2, .int x2_18), (0, .ref (G.2.2 + 160)), (1, .int x1)]) hx hb dX11_plain_71 hl (k := 2) rfl (by rw [ex2_18]; rfl) (by decide) rfl (fun ls hl => ?_)
      refine lv_goto (tgt := 44) hx hb dX11_plain_74 (by decide) ?_
      exact ih x2_18 σ_17 _ _ _ hf hR (lv_sub hl [1, 2, 0] rfl)
set_option maxHeartbeats 4000000 in
set_option maxRecDepth 100000 in
theorem c11_plain (l : Launch) (G : Gp) (N : Nat) {x1 : Int32} {σ σ0 : Mm} {u0 : Unit} (hf : f11_plain N x1 σ = some (u0, σ0)) : Met l yX11_plain (WS yX11_plain cX11_plain 3 (none)) rm11_plain (va_Pc [.ref (G.2.2 + 160), .int x1] (Pd G 212 tt σ)) (P_v G 212 tt u0 σ0) 0 0 (Fr G) := by
  refine ct [(0, .ref (G.2.2 + 160)), (1, .int x1)] rfl (by decide) (Nat.le_of_ble_eq_true rfl) ?_
  intro p e s m below meth c ls X hr hlk hR hl
  have X : Cx p s m _ c cX11_plain 3 RX11 G := X
  have hx := X.1
  have hb := X.2.1
  unfold f11_plain at hf
  refine lv_aload_n hx hb dX11_plain_0 rfl (lv_at hl 0 rfl) ?_
  refine r_gs (t := 170) X hR fr_11_46 kh_160 (sx_11_23 kh_160) dX11_plain_1 ?_
  refine lv_iload_n hx hb dX11_plain_4 rfl (lv_at hl 1 rfl) ?_
  refine lv_iconst (v := (0 : Int32)) hx hb dX11_plain_5 (by decide) ?_
  obtain ⟨hi_1, hf⟩ := z_c_e hf
  refine r_ias X hR ka_170 hi_1 dX11_plain_6 (fun H locs σ_2 eσ_2 hR => ?_)
  replace hf := z_l_e eσ_2 hf
  refine lv_aload_n hx hb dX11_plain_7 rfl (lv_at hl 0 rfl) ?_
  refine r_gs (t := 171) X hR fr_11_49 kh_160 (sx_11_24 kh_160) dX11_plain_8 ?_
  refine lv_iload_n hx hb dX11_plain_11 rfl (lv_at hl 1 rfl) ?_
  refine lv_iconst (v := (0 : Int32)) hx hb dX11_plain_12 (by decide) ?_
  obtain ⟨hi_3, hf⟩ := z_c_e hf
  refine r_ias X hR ka_171 hi_3 dX11_plain_13 (fun H locs σ_4 eσ_4 hR => ?_)
  replace hf := z_l_e eσ_4 hf
  refine lv_aload_n hx hb dX11_plain_14 rfl (lv_at hl 0 rfl) ?_
  refine r_gs (t := 175) X hR fr_11_61 kh_160 (sx_11_28 kh_160) dX11_plain_15 ?_
  refine lv_iload_n hx hb dX11_plain_18 rfl (lv_at hl 1 rfl) ?_
  refine lv_iconst (v := (0 : Int32)) hx hb dX11_plain_19 (by decide) ?_
  obtain ⟨hi_5, hf⟩ := z_c_e hf
  refine r_ias X hR ka_175 hi_5 dX11_plain_20 (fun H locs σ_6 eσ_6 hR => ?_)
  replace hf := z_l_e eσ_6 hf
  refine lv_aload_n hx hb dX11_plain_21 rfl (lv_at hl 0 rfl) ?_
  refine r_gs (t := 178) X hR fr_11_70 kh_160 (sx_11_31 kh_160) dX11_plain_22 ?_
  refine lv_iload_n hx hb dX11_plain_25 rfl (lv_at hl 1 rfl) ?_
  refine lv_iconst (v := (0 : Int32)) hx hb dX11_plain_26 (by decide) ?_
  obtain ⟨hi_7, hf⟩ := z_c_e hf
  refine r_ias X hR ka_178 hi_7 dX11_plain_27 (fun H locs σ_8 eσ_8 hR => ?_)
  replace hf := z_l_e eσ_8 hf
  refine lv_aload_n hx hb dX11_plain_28 rfl (lv_at hl 0 rfl) ?_
  refine r_gs (t := 184) X hR fr_11_88 kh_160 (sx_11_37 kh_160) dX11_plain_29 ?_
  refine lv_iload_n hx hb dX11_plain_32 rfl (lv_at hl 1 rfl) ?_
  refine lv_iconst (v := (1 : Int32)) hx hb dX11_plain_33 (by decide) ?_
  obtain ⟨hi_9, hf⟩ := z_c_e hf
  refine r_ias X hR ka_184 hi_9 dX11_plain_34 (fun H locs σ_10 eσ_10 hR => ?_)
  replace hf := z_l_e eσ_10 hf
  refine lv_aload_n hx hb dX11_plain_35 rfl (lv_at hl 0 rfl) ?_
  refine r_gs (t := 185) X hR fr_11_91 kh_160 (sx_11_38 kh_160) dX11_plain_36 ?_
  refine lv_iload_n hx hb dX11_plain_39 rfl (lv_at hl 1 rfl) ?_
  refine lv_iconst (v := (0 : Int32)) hx hb dX11_plain_40 (by decide) ?_
  obtain ⟨hi_11, hf⟩ := z_c_e hf
  refine r_ias X hR ka_185 hi_11 dX11_plain_41 (fun H locs σ_12 eσ_12 hR => ?_)
  replace hf := z_l_e eσ_12 hf
  refine lv_iconst (v := (0 : Int32)) hx hb dX11_plain_42 (by decide) ?_
  refine lv_istore_n (lv' := [(2, .int (0 : Int32)), (0, .ref (G.2.2 + 160)), (1, .int x1)]) hx hb dX11_plain_43 rfl hl (by decide) rfl (fun ls hl => ?_)
  exact w11_plain_44 X hr hlk N  N (0 : Int32) σ_12 _ _ _ hf hR (lv_sub hl [1, 2, 0] rfl)
abbrev rm11_roomFor : Room := { frames := 2, cells := 0, slots := 0, locals := 41 }
def f11_roomFor_10 (N : Nat) (σ : Mm) : Option (Unit × Mm) :=
  if (gI σ 160 13) = 0 then (
  z_b (f11_goesOn N σ) fun _ σ_4 =>
  some ((), σ_4)) else (
  some ((), σ))
def f11_roomFor (N : Nat) (x1 : Int32) (x2 : Int32) (σ : Mm) : Option (Unit × Mm) :=
  if x1 = x2 then (
  z_b (f11_fail N (2 : Int32) σ) fun _ σ_7 =>
  f11_roomFor_10 N σ_7) else (
  f11_roomFor_10 N σ)
set_option maxHeartbeats 4000000 in
set_option maxRecDepth 100000 in
theorem w11_roomFor_10 (X : Cx p s m args c cX11_roomFor 3 RX11 G) (hr : meth.sig.returnType = none) (hlk : meth.locks = false) (N : Nat) :
    ∀ (σ : Mm) (H : Heap) (locs : List Loc) (ls : Array Slot), f11_roomFor_10 N σ = some (u0, σ0) → Rp G 212 tt σ s H locs → lv_has ls 3 [(0, .ref (G.2.2 + 160))] → W p l e rm11_roomFor s m args below meth c H locs 0 0 (MQ below (P_v G 212 tt u0 σ0) args s 0 0 (Fr G)) (F0 m 10 ls []) := by
  have hx := X.1
  have hb := X.2.1
  intro σ H locs ls hf hR hl
  unfold f11_roomFor_10 at hf
  refine lv_aload_n hx hb dX11_roomFor_10 rfl (lv_at hl 0 rfl) ?_
  refine r_gi X hR fi_11_224 kh_160 dX11_roomFor_11 ?_
  refine lv_if_ne (tgt := 21) hx hb dX11_roomFor_14 (by decide) (fun c_2 => ?_) (fun c_2 => ?_)
  · replace hf := z_f c_2 hf
    exact e_v X hR hr hlk hf dX11_roomFor_21
  · replace hf := z_t c_2 hf
    refine lv_aload_n hx hb dX11_roomFor_17 rfl (lv_at hl 0 rfl) ?_
    obtain ⟨r_3, σ_4, hc_5, hf⟩ := z_b_e hf
    refine go_v hR (mv_run (As := []) (rest := []) X hR mv_11_245 kh_160 (kd_lt kh_160 (by decide)) (c11_goesOn l G N hc_5) ⟨rfl, rfl, Nat.le_of_ble_eq_true rfl, Nat.le_of_ble_eq_true rfl⟩ rfl hl.1 rfl (Nat.le_of_ble_eq_true rfl) dX11_roomFor_18 ⟨Nat.zero_le _, Nat.zero_le _⟩) (fun H locs hR => ?_)
    exact e_v X hR hr hlk hf dX11_roomFor_21
set_option maxHeartbeats 4000000 in
set_option maxRecDepth 100000 in
theorem c11_roomFor (l : Launch) (G : Gp) (N : Nat) {x1 : Int32} {x2 : Int32} {σ σ0 : Mm} {u0 : Unit} (hf : f11_roomFor N x1 x2 σ = some (u0, σ0)) : Met l yX11_roomFor (WS yX11_roomFor cX11_roomFor 3 (none)) rm11_roomFor (va_Pc [.ref (G.2.2 + 160), .int x1, .int x2] (Pd G 212 tt σ)) (P_v G 212 tt u0 σ0) 0 0 (Fr G) := by
  refine ct [(0, .ref (G.2.2 + 160)), (1, .int x1), (2, .int x2)] rfl (by decide) (Nat.le_of_ble_eq_true rfl) ?_
  intro p e s m below meth c ls X hr hlk hR hl
  have X : Cx p s m _ c cX11_roomFor 3 RX11 G := X
  have hx := X.1
  have hb := X.2.1
  unfold f11_roomFor at hf
  refine lv_iload_n hx hb dX11_roomFor_0 rfl (lv_at hl 1 rfl) ?_
  refine lv_iload_n hx hb dX11_roomFor_1 rfl (lv_at hl 2 rfl) ?_
  refine lv_icmp_ne (tgt := 10) hx hb dX11_roomFor_2 (by decide) (fun c_1 => ?_) (fun c_1 => ?_)
  · replace hf := z_f c_1 hf
    exact w11_roomFor_10 X hr hlk N   σ _ _ _ hf hR (lv_sub hl [0] rfl)
  · replace hf := z_t c_1 hf
    refine lv_aload_n hx hb dX11_roomFor_5 rfl (lv_at hl 0 rfl) ?_
    refine lv_iconst (v := (2 : Int32)) hx hb dX11_roomFor_6 (by decide) ?_
    obtain ⟨r_6, σ_7, hc_8, hf⟩ := z_b_e hf
    refine go_v hR (mv_run (As := [.int (2 : Int32)]) (rest := []) X hR mv_11_239 kh_160 (kd_lt kh_160 (by decide)) (c11_fail l G N hc_8) ⟨rfl, rfl, Nat.le_of_ble_eq_true rfl, Nat.le_of_ble_eq_true rfl⟩ rfl hl.1 rfl (Nat.le_of_ble_eq_true rfl) dX11_roomFor_7 ⟨Nat.zero_le _, Nat.zero_le _⟩) (fun H locs hR => ?_)
    exact w11_roomFor_10 X hr hlk N   σ_7 _ _ _ hf hR (lv_sub hl [0] rfl)
abbrev rm11_named : Room := { frames := 3, cells := 0, slots := 0, locals := 62 }
def f11_named_49 (N : Nat) (k12 : Int32 → Mm → Option (Int32 × Mm)) (x1 : Int32) (x2 : Int32) (σ : Mm) : Option (Int32 × Mm) :=
  z_l (x2 + (1 : Int32)) fun x2_10 =>
  k12 x2_10 σ
def f11_named_12 (N : Nat) (x1 : Int32) : Nat → Int32 → Mm → Option (Int32 × Mm)
  | 0, _, _ => none
  | fu + 1, x2, σ => if (gI σ 160 20) ≤ x2 then (
  some (x1, σ)) else (
  if (gI σ 160 13) = 0 then (
  z_c (inB x2 20) (
  z_c (inB x1 403) (
  if (lg_cmp (gL σ 168 (ix x2)) (gL σ 166 (ix x1))) = 0 then (
  z_b (f11_wrong N (3 : Int32) x1 σ) fun _ σ_12 =>
  f11_named_49 N (fun x2 σ => f11_named_12 N x1 fu x2 σ) x1 x2 σ_12) else (
  f11_named_49 N (fun x2 σ => f11_named_12 N x1 fu x2 σ) x1 x2 σ)))) else (
  some (x1, σ)))
def f11_named (N : Nat) (σ : Mm) : Option (Int32 × Mm) :=
  z_l ((gI σ 160 11)) fun x1_1 =>
  z_b (f11_must N (1 : Int32) σ) fun _ σ_3 =>
  f11_named_12 N x1_1 N (0 : Int32) σ_3
set_option maxHeartbeats 4000000 in
set_option maxRecDepth 100000 in
theorem w11_named_49 (X : Cx p s m args c cX11_named 3 RX11 G) (hr : meth.sig.returnType = some .int) (hlk : meth.locks = false) (N : Nat) {x1 : Int32} {k12 : Int32 → Mm → Option (Int32 × Mm)} (hk12 : ∀ (x2 : Int32) (σ : Mm) (H : Heap) (locs : List Loc) (ls : Array Slot), k12 x2 σ = some (r0, σ0) → Rp G 212 tt σ s H locs → lv_has ls 3 [(0, .ref (G.2.2 + 160)), (1, .int x1), (2, .int x2)] → W p l e rm11_named s m args below meth c H locs 0 0 (MQ below (P_i G 212 tt r0 σ0) args s 0 0 (Fr G)) (F0 m 12 ls [])) :
    ∀ (x2 : Int32) (σ : Mm) (H : Heap) (locs : List Loc) (ls : Array Slot), f11_named_49 N k12 x1 x2 σ = some (r0, σ0) → Rp G 212 tt σ s H locs → lv_has ls 3 [(0, .ref (G.2.2 + 160)), (1, .int x1), (2, .int x2)] → W p l e rm11_named s m args below meth c H locs 0 0 (MQ below (P_i G 212 tt r0 σ0) args s 0 0 (Fr G)) (F0 m 49 ls []) := by
  have hx := X.1
  have hb := X.2.1
  intro x2 σ H locs ls hf hR hl
  unfold f11_named_49 at hf
  obtain ⟨x2_10, ex2_10⟩ : ∃ z : Int32, z = x2 + (1 : Int32) := ⟨_, rfl⟩
  replace hf := z_l_e ex2_10 hf
  refine lv_iinc (v := x2_10) (lv' := [(2, .int x2_10), (0, .ref (G.2.2 + 160)), (1, .int x1)]) hx hb dX11_named_49 hl (k := 2) rfl (by rw [ex2_10]; rfl) (by decide) rfl (fun ls hl => ?_)
  refine lv_goto (tgt := 12) hx hb dX11_named_52 (by decide) ?_
  exact hk12 x2_10 σ _ _ _ hf hR (lv_sub hl [1, 2, 0] rfl)
set_option maxHeartbeats 4000000 in
set_option maxRecDepth 100000 in
theorem w11_named_12 (X : Cx p s m args c cX11_named 3 RX11 G) (hr : meth.sig.returnType = some .int) (hlk : meth.locks = false) (N : Nat) {x1 : Int32} :
    ∀ (fu : Nat) (x2 : Int32) (σ : Mm) (H : Heap) (locs : List Loc) (ls : Array Slot), f11_named_12 N x1 fu x2 σ = some (r0, σ0) → Rp G 212 tt σ s H locs → lv_has ls 3 [(0, .ref (G.2.2 + 160)), (1, .int x1), (2, .int x2)] → W p l e rm11_named s m args below meth c H locs 0 0 (MQ below (P_i G 212 tt r0 σ0) args s 0 0 (Fr G)) (F0 m 12 ls []) := by
  have hx := X.1
  have hb := X.2.1
  intro fu
  induction fu with
  | zero =>
    intro x2 σ H locs ls hf hR hl
    rw [f11_named_12] at hf
    cases hf
  | succ fu ih =>
    intro x2 σ H locs ls hf hR hl
    rw [f11_named_12] at hf
    refine lv_iload_n hx hb dX11_named_12 rfl (lv_at hl 2 rfl) ?_
    refine lv_aload_n hx hb dX11_named_13 rfl (lv_at hl 0 rfl) ?_
    refine r_gi X hR fi_11_260 kh_160 dX11_named_14 ?_
    refine lv_icmp_ge (tgt := 55) hx hb dX11_named_17 (by decide) (fun c_5 => ?_) (fun c_5 => ?_)
    · replace hf := z_t c_5 hf
      refine lv_iload_n hx hb dX11_named_55 rfl (lv_at hl 1 rfl) ?_
      exact e_i X hR hr hlk hf dX11_named_56
    · replace hf := z_f c_5 hf
      refine lv_aload_n hx hb dX11_named_20 rfl (lv_at hl 0 rfl) ?_
      refine r_gi X hR fi_11_224 kh_160 dX11_named_21 ?_
      refine lv_if_ne (tgt := 55) hx hb dX11_named_24 (by decide) (fun c_6 => ?_) (fun c_6 => ?_)
      · replace hf := z_f c_6 hf
        refine lv_iload_n hx hb dX11_named_55 rfl (lv_at hl 1 rfl) ?_
        exact e_i X hR hr hlk hf dX11_named_56
      · replace hf := z_t c_6 hf
        refine lv_aload_n hx hb dX11_named_27 rfl (lv_at hl 0 rfl) ?_
        refine r_gs (t := 168) X hR fr_11_40 kh_160 (sx_11_21 kh_160) dX11_named_28 ?_
        refine lv_iload_n hx hb dX11_named_31 rfl (lv_at hl 2 rfl) ?_
        obtain ⟨hi_7, hf⟩ := z_c_e hf
        refine r_lal X hR ka_168 hi_7 dX11_named_32 ?_
        refine lv_aload_n hx hb dX11_named_33 rfl (lv_at hl 0 rfl) ?_
        refine r_gs (t := 166) X hR fr_11_30 kh_160 (sx_11_8 kh_160) dX11_named_34 ?_
        refine lv_iload_n hx hb dX11_named_37 rfl (lv_at hl 1 rfl) ?_
        obtain ⟨hi_8, hf⟩ := z_c_e hf
        refine r_lal X hR ka_166 hi_8 dX11_named_38 ?_
        refine W.lcmp hx hb dX11_named_39 ?_
        refine lv_if_ne (tgt := 49) hx hb dX11_named_40 (by decide) (fun c_9 => ?_) (fun c_9 => ?_)
        · replace hf := z_f c_9 hf
          exact w11_named_49 X hr hlk N ih x2 σ _ _ _ hf hR (lv_sub hl [0, 1, 2] rfl)
        · replace hf := z_t c_9 hf
          refine lv_aload_n hx hb dX11_named_43 rfl (lv_at hl 0 rfl) ?_
          refine lv_iconst (v := (3 : Int32)) hx hb dX11_named_44 (by decide) ?_
          refine lv_iload_n hx hb dX11_named_45 rfl (lv_at hl 1 rfl) ?_
          obtain ⟨r_11, σ_12, hc_13, hf⟩ := z_b_e hf
          refine go_v hR (mv_run (As := [.int (3 : Int32), .int x1]) (rest := []) X hR mv_11_311 kh_160 (kd_lt kh_160 (by decide)) (c11_wrong l G N hc_13) ⟨rfl, rfl, Nat.le_of_ble_eq_true rfl, Nat.le_of_ble_eq_true rfl⟩ rfl hl.1 rfl (Nat.le_of_ble_eq_true rfl) dX11_named_46 ⟨Nat.zero_le _, Nat.zero_le _⟩) (fun H locs hR => ?_)
          exact w11_named_49 X hr hlk N ih x2 σ_12 _ _ _ hf hR (lv_sub hl [0, 1, 2] rfl)
set_option maxHeartbeats 4000000 in
set_option maxRecDepth 100000 in
theorem c11_named (l : Launch) (G : Gp) (N : Nat) {σ σ0 : Mm} {r0 : Int32} (hf : f11_named N σ = some (r0, σ0)) : Met l yX11_named (WS yX11_named cX11_named 3 (some .int)) rm11_named (va_Pc [.ref (G.2.2 + 160)] (Pd G 212 tt σ)) (P_i G 212 tt r0 σ0) 0 0 (Fr G) := by
  refine ct [(0, .ref (G.2.2 + 160))] rfl (by decide) (Nat.le_of_ble_eq_true rfl) ?_
  intro p e s m below meth c ls X hr hlk hR hl
  have X : Cx p s m _ c cX11_named 3 RX11 G := X
  have hx := X.1
  have hb := X.2.1
  unfold f11_named at hf
  refine lv_aload_n hx hb dX11_named_0 rfl (lv_at hl 0 rfl) ?_
  refine r_gi X hR fi_11_227 kh_160 dX11_named_1 ?_
  refine lv_topi (fun x1_1 ex1_1 => ?_)
  replace hf := z_l_e ex1_1 hf
  refine lv_istore_n (lv' := [(1, .int x1_1), (0, .ref (G.2.2 + 160))]) hx hb dX11_named_4 rfl hl (by decide) rfl (fun ls hl => ?_)
  refine lv_aload_n hx hb dX11_named_5 rfl (lv_at hl 1 rfl) ?_
  refine lv_iconst (v := (1 : Int32)) hx hb dX11_named_6 (by decide) ?_
  obtain ⟨r_2, σ_3, hc_4, hf⟩ := z_b_e hf
  refine go_v hR (mv_run (As := [.int (1 : Int32)]) (rest := []) X hR mv_11_282 kh_160 (kd_lt kh_160 (by decide)) (c11_must l G N hc_4) ⟨rfl, rfl, Nat.le_of_ble_eq_true rfl, Nat.le_of_ble_eq_true rfl⟩ rfl hl.1 rfl (Nat.le_of_ble_eq_true rfl) dX11_named_7 ⟨Nat.zero_le _, Nat.zero_le _⟩) (fun H locs hR => ?_)
  refine lv_iconst (v := (0 : Int32)) hx hb dX11_named_10 (by decide) ?_
  refine lv_istore_n (lv' := [(2, .int (0 : Int32)), (1, .int x1_1), (0, .ref (G.2.2 + 160))]) hx hb dX11_named_11 rfl hl (by decide) rfl (fun ls hl => ?_)
  exact w11_named_12 X hr hlk N  N (0 : Int32) σ_3 _ _ _ hf hR (lv_sub hl [2, 1, 0] rfl)
abbrev rm11_ends : Room := { frames := 3, cells := 0, slots := 0, locals := 62 }
def f11_ends (N : Nat) (x1 : Int32) (x2 : Int32) (σ : Mm) : Option (Unit × Mm) :=
  z_b (f11_must N (4 : Int32) σ) fun _ σ_2 =>
  if (gI σ_2 160 13) ≤ 0 then (
  z_c (inB x1 403) (
  z_c (inB (gI σ_2 160 20) 20) (z_l (sL σ_2 168 (ix (gI σ_2 160 20)) (gL σ_2 166 (ix x1))) fun σ_7 =>
  z_c (inB (gI σ_7 160 20) 20) (z_l (sI σ_7 169 (ix (gI σ_7 160 20)) x2) fun σ_9 =>
  z_l (sI σ_9 160 20 ((gI σ_9 160 20) + (1 : Int32))) fun σ_10 =>
  some ((), σ_10))))) else (
  some ((), σ_2))
set_option maxHeartbeats 4000000 in
set_option maxRecDepth 100000 in
theorem c11_ends (l : Launch) (G : Gp) (N : Nat) {x1 : Int32} {x2 : Int32} {σ σ0 : Mm} {u0 : Unit} (hf : f11_ends N x1 x2 σ = some (u0, σ0)) : Met l yX11_ends (WS yX11_ends cX11_ends 3 (none)) rm11_ends (va_Pc [.ref (G.2.2 + 160), .int x1, .int x2] (Pd G 212 tt σ)) (P_v G 212 tt u0 σ0) 0 0 (Fr G) := by
  refine ct [(0, .ref (G.2.2 + 160)), (1, .int x1), (2, .int x2)] rfl (by decide) (Nat.le_of_ble_eq_true rfl) ?_
  intro p e s m below meth c ls X hr hlk hR hl
  have X : Cx p s m _ c cX11_ends 3 RX11 G := X
  have hx := X.1
  have hb := X.2.1
  unfold f11_ends at hf
  refine lv_aload_n hx hb dX11_ends_0 rfl (lv_at hl 0 rfl) ?_
  refine lv_iconst (v := (4 : Int32)) hx hb dX11_ends_1 (by decide) ?_
  obtain ⟨r_1, σ_2, hc_3, hf⟩ := z_b_e hf
  refine go_v hR (mv_run (As := [.int (4 : Int32)]) (rest := []) X hR mv_11_282 kh_160 (kd_lt kh_160 (by decide)) (c11_must l G N hc_3) ⟨rfl, rfl, Nat.le_of_ble_eq_true rfl, Nat.le_of_ble_eq_true rfl⟩ rfl hl.1 rfl (Nat.le_of_ble_eq_true rfl) dX11_ends_2 ⟨Nat.zero_le _, Nat.zero_le _⟩) (fun H locs hR => ?_)
  refine lv_aload_n hx hb dX11_ends_5 rfl (lv_at hl 0 rfl) ?_
  refine r_gi X hR fi_11_224 kh_160 dX11_ends_6 ?_
  refine lv_if_le (tgt := 13) hx hb dX11_ends_9 (by decide) (fun c_4 => ?_) (fun c_4 => ?_)
  · replace hf := z_t c_4 hf
    refine lv_aload_n hx hb dX11_ends_13 rfl (lv_at hl 0 rfl) ?_
    refine r_gs (t := 168) X hR fr_11_40 kh_160 (sx_11_21 kh_160) dX11_ends_14 ?_
    refine lv_aload_n hx hb dX11_ends_17 rfl (lv_at hl 0 rfl) ?_
    refine r_gi X hR fi_11_260 kh_160 dX11_ends_18 ?_
    refine lv_aload_n hx hb dX11_ends_21 rfl (lv_at hl 0 rfl) ?_
    refine r_gs (t := 166) X hR fr_11_30 kh_160 (sx_11_8 kh_160) dX11_ends_22 ?_
    refine lv_iload_n hx hb dX11_ends_25 rfl (lv_at hl 1 rfl) ?_
    obtain ⟨hi_5, hf⟩ := z_c_e hf
    refine r_lal X hR ka_166 hi_5 dX11_ends_26 ?_
    obtain ⟨hi_6, hf⟩ := z_c_e hf
    refine r_las X hR ka_168 hi_6 dX11_ends_27 (fun H locs σ_7 eσ_7 hR => ?_)
    replace hf := z_l_e eσ_7 hf
    refine lv_aload_n hx hb dX11_ends_28 rfl (lv_at hl 0 rfl) ?_
    refine r_gs (t := 169) X hR fr_11_43 kh_160 (sx_11_22 kh_160) dX11_ends_29 ?_
    refine lv_aload_n hx hb dX11_ends_32 rfl (lv_at hl 0 rfl) ?_
    refine r_gi X hR fi_11_260 kh_160 dX11_ends_33 ?_
    refine lv_iload_n hx hb dX11_ends_36 rfl (lv_at hl 2 rfl) ?_
    obtain ⟨hi_8, hf⟩ := z_c_e hf
    refine r_ias X hR ka_169 hi_8 dX11_ends_37 (fun H locs σ_9 eσ_9 hR => ?_)
    replace hf := z_l_e eσ_9 hf
    refine lv_aload_n hx hb dX11_ends_38 rfl (lv_at hl 0 rfl) ?_
    refine lv_dup hx hb dX11_ends_39 rfl ?_
    refine r_gi X hR fi_11_260 kh_160 dX11_ends_40 ?_
    refine lv_iconst (v := (1 : Int32)) hx hb dX11_ends_43 (by decide) ?_
    refine lv_iadd hx hb dX11_ends_44 ?_
    refine r_pi X hR pi_11_260 kh_160 dX11_ends_45 (fun H locs σ_10 eσ_10 hR => ?_)
    replace hf := z_l_e eσ_10 hf
    exact e_v X hR hr hlk hf dX11_ends_48
  · replace hf := z_f c_4 hf
    exact e_v X hR hr hlk hf dX11_ends_12
abbrev rm11_bounded : Room := { frames := 2, cells := 0, slots := 0, locals := 41 }
def f11_bounded_15 (N : Nat) (x1 : Int32) (σ : Mm) : Option (Int32 × Mm) :=
  z_b (f11_fail N (1 : Int32) σ) fun _ σ_3 =>
  some (x1, σ_3)
def f11_bounded_51 (N : Nat) (x3 : Int32) (σ : Mm) : Option (Int32 × Mm) :=
  z_b (f11_goesOn N σ) fun _ σ_16 =>
  some (x3, σ_16)
def f11_bounded_42 (N : Nat) (x3 : Int32) (σ : Mm) : Option (Int32 × Mm) :=
  z_b (f11_wrong N (5 : Int32) (gI σ 160 11) σ) fun _ σ_13 =>
  f11_bounded_51 N x3 σ_13
def f11_bounded (N : Nat) (x1 : Int32) (x2 : Int32) (σ : Mm) : Option (Int32 × Mm) :=
  if 0 < (gI σ 160 13) then (
  f11_bounded_15 N x1 σ) else (
  z_b (f11_is N (2 : Int32) σ) fun r_5 σ_6 =>
  if r_5 = 0 then (
  f11_bounded_15 N x1 σ_6) else (
  z_c (inB (gI σ_6 160 11) 403) (
  z_l ((gI σ_6 165 (ix (gI σ_6 160 11)))) fun x3_10 =>
  if x3_10 < x1 then (
  f11_bounded_42 N x3_10 σ_6) else (
  if x3_10 ≤ x2 then (
  f11_bounded_51 N x3_10 σ_6) else (
  f11_bounded_42 N x3_10 σ_6)))))
set_option maxHeartbeats 4000000 in
set_option maxRecDepth 100000 in
theorem w11_bounded_15 (X : Cx p s m args c cX11_bounded 4 RX11 G) (hr : meth.sig.returnType = some .int) (hlk : meth.locks = false) (N : Nat) :
    ∀ (x1 : Int32) (σ : Mm) (H : Heap) (locs : List Loc) (ls : Array Slot), f11_bounded_15 N x1 σ = some (r0, σ0) → Rp G 212 tt σ s H locs → lv_has ls 4 [(0, .ref (G.2.2 + 160)), (1, .int x1)] → W p l e rm11_bounded s m args below meth c H locs 0 0 (MQ below (P_i G 212 tt r0 σ0) args s 0 0 (Fr G)) (F0 m 15 ls []) := by
  have hx := X.1
  have hb := X.2.1
  intro x1 σ H locs ls hf hR hl
  unfold f11_bounded_15 at hf
  refine lv_aload_n hx hb dX11_bounded_15 rfl (lv_at hl 0 rfl) ?_
  refine lv_iconst (v := (1 : Int32)) hx hb dX11_bounded_16 (by decide) ?_
  obtain ⟨r_2, σ_3, hc_4, hf⟩ := z_b_e hf
  refine go_v hR (mv_run (As := [.int (1 : Int32)]) (rest := []) X hR mv_11_239 kh_160 (kd_lt kh_160 (by decide)) (c11_fail l G N hc_4) ⟨rfl, rfl, Nat.le_of_ble_eq_true rfl, Nat.le_of_ble_eq_true rfl⟩ rfl hl.1 rfl (Nat.le_of_ble_eq_true rfl) dX11_bounded_17 ⟨Nat.zero_le _, Nat.zero_le _⟩) (fun H locs hR => ?_)
  refine lv_iload_n hx hb dX11_bounded_20 rfl (lv_at hl 1 rfl) ?_
  exact e_i X hR hr hlk hf dX11_bounded_21
set_option maxHeartbeats 4000000 in
set_option maxRecDepth 100000 in
theorem w11_bounded_51 (X : Cx p s m args c cX11_bounded 4 RX11 G) (hr : meth.sig.returnType = some .int) (hlk : meth.locks = false) (N : Nat) :
    ∀ (x3 : Int32) (σ : Mm) (H : Heap) (locs : List Loc) (ls : Array Slot), f11_bounded_51 N x3 σ = some (r0, σ0) → Rp G 212 tt σ s H locs → lv_has ls 4 [(0, .ref (G.2.2 + 160)), (3, .int x3)] → W p l e rm11_bounded s m args below meth c H locs 0 0 (MQ below (P_i G 212 tt r0 σ0) args s 0 0 (Fr G)) (F0 m 51 ls []) := by
  have hx := X.1
  have hb := X.2.1
  intro x3 σ H locs ls hf hR hl
  unfold f11_bounded_51 at hf
  refine lv_aload_n hx hb dX11_bounded_51 rfl (lv_at hl 0 rfl) ?_
  obtain ⟨r_15, σ_16, hc_17, hf⟩ := z_b_e hf
  refine go_v hR (mv_run (As := []) (rest := []) X hR mv_11_245 kh_160 (kd_lt kh_160 (by decide)) (c11_goesOn l G N hc_17) ⟨rfl, rfl, Nat.le_of_ble_eq_true rfl, Nat.le_of_ble_eq_true rfl⟩ rfl hl.1 rfl (Nat.le_of_ble_eq_true rfl) dX11_bounded_52 ⟨Nat.zero_le _, Nat.zero_le _⟩) (fun H locs hR => ?_)
  refine lv_iload_n hx hb dX11_bounded_55 rfl (lv_at hl 1 rfl) ?_
  exact e_i X hR hr hlk hf dX11_bounded_56
set_option maxHeartbeats 4000000 in
set_option maxRecDepth 100000 in
theorem w11_bounded_42 (X : Cx p s m args c cX11_bounded 4 RX11 G) (hr : meth.sig.returnType = some .int) (hlk : meth.locks = false) (N : Nat) :
    ∀ (x3 : Int32) (σ : Mm) (H : Heap) (locs : List Loc) (ls : Array Slot), f11_bounded_42 N x3 σ = some (r0, σ0) → Rp G 212 tt σ s H locs → lv_has ls 4 [(0, .ref (G.2.2 + 160)), (3, .int x3)] → W p l e rm11_bounded s m args below meth c H locs 0 0 (MQ below (P_i G 212 tt r0 σ0) args s 0 0 (Fr G)) (F0 m 42 ls []) := by
  have hx := X.1
  have hb := X.2.1
  intro x3 σ H locs ls hf hR hl
  unfold f11_bounded_42 at hf
  refine lv_aload_n hx hb dX11_bounded_42 rfl (lv_at hl 0 rfl) ?_
  refine lv_iconst (v := (5 : Int32)) hx hb dX11_bounded_43 (by decide) ?_
  refine lv_aload_n hx hb dX11_bounded_44 rfl (lv_at hl 0 rfl) ?_
  refine r_gi X hR fi_11_227 kh_160 dX11_bounded_45 ?_
  obtain ⟨r_12, σ_13, hc_14, hf⟩ := z_b_e hf
  refine go_v hR (mv_run (As := [.int (5 : Int32), .int (gI σ 160 11)]) (rest := []) X hR mv_11_311 kh_160 (kd_lt kh_160 (by decide)) (c11_wrong l G N hc_14) ⟨rfl, rfl, Nat.le_of_ble_eq_true rfl, Nat.le_of_ble_eq_true rfl⟩ rfl hl.1 rfl (Nat.le_of_ble_eq_true rfl) dX11_bounded_48 ⟨Nat.zero_le _, Nat.zero_le _⟩) (fun H locs hR => ?_)
  exact w11_bounded_51 X hr hlk N  x3 σ_13 _ _ _ hf hR (lv_sub hl [0, 1] rfl)
set_option maxHeartbeats 4000000 in
set_option maxRecDepth 100000 in
theorem c11_bounded (l : Launch) (G : Gp) (N : Nat) {x1 : Int32} {x2 : Int32} {σ σ0 : Mm} {r0 : Int32} (hf : f11_bounded N x1 x2 σ = some (r0, σ0)) : Met l yX11_bounded (WS yX11_bounded cX11_bounded 4 (some .int)) rm11_bounded (va_Pc [.ref (G.2.2 + 160), .int x1, .int x2] (Pd G 212 tt σ)) (P_i G 212 tt r0 σ0) 0 0 (Fr G) := by
  refine ct [(0, .ref (G.2.2 + 160)), (1, .int x1), (2, .int x2)] rfl (by decide) (Nat.le_of_ble_eq_true rfl) ?_
  intro p e s m below meth c ls X hr hlk hR hl
  have X : Cx p s m _ c cX11_bounded 4 RX11 G := X
  have hx := X.1
  have hb := X.2.1
  unfold f11_bounded at hf
  refine lv_aload_n hx hb dX11_bounded_0 rfl (lv_at hl 0 rfl) ?_
  refine r_gi X hR fi_11_224 kh_160 dX11_bounded_1 ?_
  refine lv_if_gt (tgt := 15) hx hb dX11_bounded_4 (by decide) (fun c_1 => ?_) (fun c_1 => ?_)
  · replace hf := z_t c_1 hf
    exact w11_bounded_15 X hr hlk N  x1 σ _ _ _ hf hR (lv_sub hl [0, 1] rfl)
  · replace hf := z_f c_1 hf
    refine lv_aload_n hx hb dX11_bounded_7 rfl (lv_at hl 0 rfl) ?_
    refine lv_iconst (v := (2 : Int32)) hx hb dX11_bounded_8 (by decide) ?_
    obtain ⟨r_5, σ_6, hc_7, hf⟩ := z_b_e hf
    refine go_i hR (mv_run (As := [.int (2 : Int32)]) (rest := []) X hR mv_11_242 kh_160 (kd_lt kh_160 (by decide)) (c11_is l G N hc_7) ⟨rfl, rfl, Nat.le_of_ble_eq_true rfl, Nat.le_of_ble_eq_true rfl⟩ rfl hl.1 rfl (Nat.le_of_ble_eq_true rfl) dX11_bounded_9 ⟨Nat.zero_le _, Nat.zero_le _⟩) (fun H locs hR => ?_)
    refine lv_if_ne (tgt := 22) hx hb dX11_bounded_12 (by decide) (fun c_8 => ?_) (fun c_8 => ?_)
    · replace hf := z_f c_8 hf
      refine lv_aload_n hx hb dX11_bounded_22 rfl (lv_at hl 0 rfl) ?_
      refine r_gs (t := 165) X hR fr_11_27 kh_160 (sx_11_7 kh_160) dX11_bounded_23 ?_
      refine lv_aload_n hx hb dX11_bounded_26 rfl (lv_at hl 0 rfl) ?_
      refine r_gi X hR fi_11_227 kh_160 dX11_bounded_27 ?_
      obtain ⟨hi_9, hf⟩ := z_c_e hf
      refine r_ial X hR ka_165 hi_9 dX11_bounded_30 ?_
      refine lv_topi (fun x3_10 ex3_10 => ?_)
      replace hf := z_l_e ex3_10 hf
      refine lv_istore_n (lv' := [(3, .int x3_10), (0, .ref (G.2.2 + 160)), (1, .int x1), (2, .int x2)]) hx hb dX11_bounded_31 rfl hl (by decide) rfl (fun ls hl => ?_)
      refine lv_iload_n hx hb dX11_bounded_32 rfl (lv_at hl 0 rfl) ?_
      refine lv_iload_n hx hb dX11_bounded_33 rfl (lv_at hl 2 rfl) ?_
      refine lv_icmp_lt (tgt := 42) hx hb dX11_bounded_34 (by decide) (fun c_11 => ?_) (fun c_11 => ?_)
      · replace hf := z_t c_11 hf
        exact w11_bounded_42 X hr hlk N  x3_10 σ_6 _ _ _ hf hR (lv_sub hl [1, 0] rfl)
      · replace hf := z_f c_11 hf
        refine lv_iload_n hx hb dX11_bounded_37 rfl (lv_at hl 0 rfl) ?_
        refine lv_iload_n hx hb dX11_bounded_38 rfl (lv_at hl 3 rfl) ?_
        refine lv_icmp_le (tgt := 51) hx hb dX11_bounded_39 (by decide) (fun c_18 => ?_) (fun c_18 => ?_)
        · replace hf := z_t c_18 hf
          exact w11_bounded_51 X hr hlk N  x3_10 σ_6 _ _ _ hf hR (lv_sub hl [1, 0] rfl)
        · replace hf := z_f c_18 hf
          exact w11_bounded_42 X hr hlk N  x3_10 σ_6 _ _ _ hf hR (lv_sub hl [1, 0] rfl)
    · replace hf := z_t c_8 hf
      exact w11_bounded_15 X hr hlk N  x1 σ_6 _ _ _ hf hR (lv_sub hl [0, 1] rfl)
abbrev rm11_known : Room := { frames := 3, cells := 0, slots := 0, locals := 62 }
def f11_known_83 (N : Nat) (x2 : Int32) (σ : Mm) : Option (Int32 × Mm) :=
  z_b (f11_wrong N (4 : Int32) x2 σ) fun _ σ_8 =>
  some ((-1 : Int32), σ_8)
def f11_known_77 (N : Nat) (k21 : Int32 → Mm → Option (Int32 × Mm)) (x1 : Int32) (x2 : Int32) (x3 : Int32) (σ : Mm) : Option (Int32 × Mm) :=
  z_l (x3 + (1 : Int32)) fun x3_13 =>
  k21 x3_13 σ
def f11_known_68 (N : Nat) (x1 : Int32) (x3 : Int32) (σ : Mm) : Option (Int32 × Mm) :=
  z_c (inB x3 20) (
  some (((gI σ 169 (ix x3)) - x1), σ))
def f11_known_21 (N : Nat) (x1 : Int32) (x2 : Int32) : Nat → Int32 → Mm → Option (Int32 × Mm)
  | 0, _, _ => none
  | fu + 1, x3, σ => if (gI σ 160 20) ≤ x3 then (
  f11_known_83 N x2 σ) else (
  z_c (inB x3 20) (
  z_c (inB x2 403) (
  if (lg_cmp (gL σ 168 (ix x3)) (gL σ 166 (ix x2))) = 0 then (
  z_c (inB x3 20) (
  if (gI σ 169 (ix x3)) < x1 then (
  f11_known_77 N (fun x3 σ => f11_known_21 N x1 x2 fu x3 σ) x1 x2 x3 σ) else (
  z_c (inB x3 20) (
  if (x1 + (10 : Int32)) ≤ (gI σ 169 (ix x3)) then (
  f11_known_77 N (fun x3 σ => f11_known_21 N x1 x2 fu x3 σ) x1 x2 x3 σ) else (
  f11_known_68 N x1 x3 σ))))) else (
  f11_known_77 N (fun x3 σ => f11_known_21 N x1 x2 fu x3 σ) x1 x2 x3 σ))))
def f11_known (N : Nat) (x1 : Int32) (σ : Mm) : Option (Int32 × Mm) :=
  z_l ((gI σ 160 11)) fun x2_1 =>
  z_b (f11_must N (1 : Int32) σ) fun _ σ_3 =>
  if (gI σ_3 160 13) ≤ 0 then (
  f11_known_21 N x1 x2_1 N (0 : Int32) σ_3) else (
  some ((-1 : Int32), σ_3))
set_option maxHeartbeats 4000000 in
set_option maxRecDepth 100000 in
theorem w11_known_83 (X : Cx p s m args c cX11_known 4 RX11 G) (hr : meth.sig.returnType = some .int) (hlk : meth.locks = false) (N : Nat) :
    ∀ (x2 : Int32) (σ : Mm) (H : Heap) (locs : List Loc) (ls : Array Slot), f11_known_83 N x2 σ = some (r0, σ0) → Rp G 212 tt σ s H locs → lv_has ls 4 [(0, .ref (G.2.2 + 160)), (2, .int x2)] → W p l e rm11_known s m args below meth c H locs 0 0 (MQ below (P_i G 212 tt r0 σ0) args s 0 0 (Fr G)) (F0 m 83 ls []) := by
  have hx := X.1
  have hb := X.2.1
  intro x2 σ H locs ls hf hR hl
  unfold f11_known_83 at hf
  refine lv_aload_n hx hb dX11_known_83 rfl (lv_at hl 0 rfl) ?_
  refine lv_iconst (v := (4 : Int32)) hx hb dX11_known_84 (by decide) ?_
  refine lv_iload_n hx hb dX11_known_85 rfl (lv_at hl 1 rfl) ?_
  obtain ⟨r_7, σ_8, hc_9, hf⟩ := z_b_e hf
  refine go_v hR (mv_run (As := [.int (4 : Int32), .int x2]) (rest := []) X hR mv_11_311 kh_160 (kd_lt kh_160 (by decide)) (c11_wrong l G N hc_9) ⟨rfl, rfl, Nat.le_of_ble_eq_true rfl, Nat.le_of_ble_eq_true rfl⟩ rfl hl.1 rfl (Nat.le_of_ble_eq_true rfl) dX11_known_86 ⟨Nat.zero_le _, Nat.zero_le _⟩) (fun H locs hR => ?_)
  refine lv_iconst (v := (-1 : Int32)) hx hb dX11_known_89 (by decide) ?_
  exact e_i X hR hr hlk hf dX11_known_90
set_option maxHeartbeats 4000000 in
set_option maxRecDepth 100000 in
theorem w11_known_77 (X : Cx p s m args c cX11_known 4 RX11 G) (hr : meth.sig.returnType = some .int) (hlk : meth.locks = false) (N : Nat) {x1 : Int32} {x2 : Int32} {k21 : Int32 → Mm → Option (Int32 × Mm)} (hk21 : ∀ (x3 : Int32) (σ : Mm) (H : Heap) (locs : List Loc) (ls : Array Slot), k21 x3 σ = some (r0, σ0) → Rp G 212 tt σ s H locs → lv_has ls 4 [(0, .ref (G.2.2 + 160)), (1, .int x1), (2, .int x2), (3, .int x3)] → W p l e rm11_known s m args below meth c H locs 0 0 (MQ below (P_i G 212 tt r0 σ0) args s 0 0 (Fr G)) (F0 m 21 ls [])) :
    ∀ (x3 : Int32) (σ : Mm) (H : Heap) (locs : List Loc) (ls : Array Slot), f11_known_77 N k21 x1 x2 x3 σ = some (r0, σ0) → Rp G 212 tt σ s H locs → lv_has ls 4 [(0, .ref (G.2.2 + 160)), (1, .int x1), (2, .int x2), (3, .int x3)] → W p l e rm11_known s m args below meth c H locs 0 0 (MQ below (P_i G 212 tt r0 σ0) args s 0 0 (Fr G)) (F0 m 77 ls []) := by
  have hx := X.1
  have hb := X.2.1
  intro x3 σ H locs ls hf hR hl
  unfold f11_known_77 at hf
  obtain ⟨x3_13, ex3_13⟩ : ∃ z : Int32, z = x3 + (1 : Int32) := ⟨_, rfl⟩
  replace hf := z_l_e ex3_13 hf
  refine lv_iinc (v := x3_13) (lv' := [(3, .int x3_13), (0, .ref (G.2.2 + 160)), (1, .int x1), (2, .int x2)]) hx hb dX11_known_77 hl (k := 3) rfl (by rw [ex3_13]; rfl) (by decide) rfl (fun ls hl => ?_)
  refine lv_goto (tgt := 21) hx hb dX11_known_80 (by decide) ?_
  exact hk21 x3_13 σ _ _ _ hf hR (lv_sub hl [1, 2, 3, 0] rfl)
set_option maxHeartbeats 4000000 in
set_option maxRecDepth 100000 in
theorem w11_known_68 (X : Cx p s m args c cX11_known 4 RX11 G) (hr : meth.sig.returnType = some .int) (hlk : meth.locks = false) (N : Nat) :
    ∀ (x1 : Int32) (x3 : Int32) (σ : Mm) (H : Heap) (locs : List Loc) (ls : Array Slot), f11_known_68 N x1 x3 σ = some (r0, σ0) → Rp G 212 tt σ s H locs → lv_has ls 4 [(0, .ref (G.2.2 + 160)), (1, .int x1), (3, .int x3)] → W p l e rm11_known s m args below meth c H locs 0 0 (MQ below (P_i G 212 tt r0 σ0) args s 0 0 (Fr G)) (F0 m 68 ls []) := by
  have hx := X.1
  have hb := X.2.1
  intro x1 x3 σ H locs ls hf hR hl
  unfold f11_known_68 at hf
  refine lv_aload_n hx hb dX11_known_68 rfl (lv_at hl 0 rfl) ?_
  refine r_gs (t := 169) X hR fr_11_43 kh_160 (sx_11_22 kh_160) dX11_known_69 ?_
  refine lv_iload_n hx hb dX11_known_72 rfl (lv_at hl 2 rfl) ?_
  obtain ⟨hi_18, hf⟩ := z_c_e hf
  refine r_ial X hR ka_169 hi_18 dX11_known_73 ?_
  refine lv_iload_n hx hb dX11_known_74 rfl (lv_at hl 1 rfl) ?_
  refine lv_isub hx hb dX11_known_75 ?_
  exact e_i X hR hr hlk hf dX11_known_76
set_option maxHeartbeats 4000000 in
set_option maxRecDepth 100000 in
theorem w11_known_21 (X : Cx p s m args c cX11_known 4 RX11 G) (hr : meth.sig.returnType = some .int) (hlk : meth.locks = false) (N : Nat) {x1 : Int32} {x2 : Int32} :
    ∀ (fu : Nat) (x3 : Int32) (σ : Mm) (H : Heap) (locs : List Loc) (ls : Array Slot), f11_known_21 N x1 x2 fu x3 σ = some (r0, σ0) → Rp G 212 tt σ s H locs → lv_has ls 4 [(0, .ref (G.2.2 + 160)), (1, .int x1), (2, .int x2), (3, .int x3)] → W p l e rm11_known s m args below meth c H locs 0 0 (MQ below (P_i G 212 tt r0 σ0) args s 0 0 (Fr G)) (F0 m 21 ls []) := by
  have hx := X.1
  have hb := X.2.1
  intro fu
  induction fu with
  | zero =>
    intro x3 σ H locs ls hf hR hl
    rw [f11_known_21] at hf
    cases hf
  | succ fu ih =>
    intro x3 σ H locs ls hf hR hl
    rw [f11_known_21] at hf
    refine lv_iload_n hx hb dX11_known_21 rfl (lv_at hl 3 rfl) ?_
    refine lv_aload_n hx hb dX11_known_22 rfl (lv_at hl 0 rfl) ?_
    refine r_gi X hR fi_11_260 kh_160 dX11_known_23 ?_
    refine lv_icmp_ge (tgt := 83) hx hb dX11_known_26 (by decide) (fun c_6 => ?_) (fun c_6 => ?_)
    · replace hf := z_t c_6 hf
      exact w11_known_83 X hr hlk N  x2 σ _ _ _ hf hR (lv_sub hl [0, 2] rfl)
    · replace hf := z_f c_6 hf
      refine lv_aload_n hx hb dX11_known_29 rfl (lv_at hl 0 rfl) ?_
      refine r_gs (t := 168) X hR fr_11_40 kh_160 (sx_11_21 kh_160) dX11_known_30 ?_
      refine lv_iload_n hx hb dX11_known_33 rfl (lv_at hl 3 rfl) ?_
      obtain ⟨hi_10, hf⟩ := z_c_e hf
      refine r_lal X hR ka_168 hi_10 dX11_known_34 ?_
      refine lv_aload_n hx hb dX11_known_35 rfl (lv_at hl 0 rfl) ?_
      refine r_gs (t := 166) X hR fr_11_30 kh_160 (sx_11_8 kh_160) dX11_known_36 ?_
      refine lv_iload_n hx hb dX11_known_39 rfl (lv_at hl 2 rfl) ?_
      obtain ⟨hi_11, hf⟩ := z_c_e hf
      refine r_lal X hR ka_166 hi_11 dX11_known_40 ?_
      refine W.lcmp hx hb dX11_known_41 ?_
      refine lv_if_ne (tgt := 77) hx hb dX11_known_42 (by decide) (fun c_12 => ?_) (fun c_12 => ?_)
      · replace hf := z_f c_12 hf
        exact w11_known_77 X hr hlk N ih x3 σ _ _ _ hf hR (lv_sub hl [0, 1, 2, 3] rfl)
      · replace hf := z_t c_12 hf
        refine lv_aload_n hx hb dX11_known_45 rfl (lv_at hl 0 rfl) ?_
        refine r_gs (t := 169) X hR fr_11_43 kh_160 (sx_11_22 kh_160) dX11_known_46 ?_
        refine lv_iload_n hx hb dX11_known_49 rfl (lv_at hl 3 rfl) ?_
        obtain ⟨hi_14, hf⟩ := z_c_e hf
        refine r_ial X hR ka_169 hi_14 dX11_known_50 ?_
        refine lv_iload_n hx hb dX11_known_51 rfl (lv_at hl 1 rfl) ?_
        refine lv_icmp_lt (tgt := 77) hx hb dX11_known_52 (by decide) (fun c_15 => ?_) (fun c_15 => ?_)
        · replace hf := z_t c_15 hf
          exact w11_known_77 X hr hlk N ih x3 σ _ _ _ hf hR (lv_sub hl [0, 1, 2, 3] rfl)
        · replace hf := z_f c_15 hf
          refine lv_aload_n hx hb dX11_known_55 rfl (lv_at hl 0 rfl) ?_
          refine r_gs (t := 169) X hR fr_11_43 kh_160 (sx_11_22 kh_160) dX11_known_56 ?_
          refine lv_iload_n hx hb dX11_known_59 rfl (lv_at hl 3 rfl) ?_
          obtain ⟨hi_16, hf⟩ := z_c_e hf
          refine r_ial X hR ka_169 hi_16 dX11_known_60 ?_
          refine lv_iload_n hx hb dX11_known_61 rfl (lv_at hl 1 rfl) ?_
          refine lv_bipush (v := (10 : Int32)) hx hb dX11_known_62 (by decide) ?_
          refine lv_iadd hx hb dX11_known_64 ?_
          refine lv_icmp_ge (tgt := 77) hx hb dX11_known_65 (by decide) (fun c_17 => ?_) (fun c_17 => ?_)
          · replace hf := z_t c_17 hf
            exact w11_known_77 X hr hlk N ih x3 σ _ _ _ hf hR (lv_sub hl [0, 1, 2, 3] rfl)
          · replace hf := z_f c_17 hf
            exact w11_known_68 X hr hlk N  x1 x3 σ _ _ _ hf hR (lv_sub hl [0, 1, 3] rfl)
set_option maxHeartbeats 4000000 in
set_option maxRecDepth 100000 in
theorem c11_known (l : Launch) (G : Gp) (N : Nat) {x1 : Int32} {σ σ0 : Mm} {r0 : Int32} (hf : f11_known N x1 σ = some (r0, σ0)) : Met l yX11_known (WS yX11_known cX11_known 4 (some .int)) rm11_known (va_Pc [.ref (G.2.2 + 160), .int x1] (Pd G 212 tt σ)) (P_i G 212 tt r0 σ0) 0 0 (Fr G) := by
  refine ct [(0, .ref (G.2.2 + 160)), (1, .int x1)] rfl (by decide) (Nat.le_of_ble_eq_true rfl) ?_
  intro p e s m below meth c ls X hr hlk hR hl
  have X : Cx p s m _ c cX11_known 4 RX11 G := X
  have hx := X.1
  have hb := X.2.1
  unfold f11_known at hf
  refine lv_aload_n hx hb dX11_known_0 rfl (lv_at hl 0 rfl) ?_
  refine r_gi X hR fi_11_227 kh_160 dX11_known_1 ?_
  refine lv_topi (fun x2_1 ex2_1 => ?_)
  replace hf := z_l_e ex2_1 hf
  refine lv_istore_n (lv' := [(2, .int x2_1), (0, .ref (G.2.2 + 160)), (1, .int x1)]) hx hb dX11_known_4 rfl hl (by decide) rfl (fun ls hl => ?_)
  refine lv_aload_n hx hb dX11_known_5 rfl (lv_at hl 1 rfl) ?_
  refine lv_iconst (v := (1 : Int32)) hx hb dX11_known_6 (by decide) ?_
  obtain ⟨r_2, σ_3, hc_4, hf⟩ := z_b_e hf
  refine go_v hR (mv_run (As := [.int (1 : Int32)]) (rest := []) X hR mv_11_282 kh_160 (kd_lt kh_160 (by decide)) (c11_must l G N hc_4) ⟨rfl, rfl, Nat.le_of_ble_eq_true rfl, Nat.le_of_ble_eq_true rfl⟩ rfl hl.1 rfl (Nat.le_of_ble_eq_true rfl) dX11_known_7 ⟨Nat.zero_le _, Nat.zero_le _⟩) (fun H locs hR => ?_)
  refine lv_aload_n hx hb dX11_known_10 rfl (lv_at hl 1 rfl) ?_
  refine r_gi X hR fi_11_224 kh_160 dX11_known_11 ?_
  refine lv_if_le (tgt := 19) hx hb dX11_known_14 (by decide) (fun c_5 => ?_) (fun c_5 => ?_)
  · replace hf := z_t c_5 hf
    refine lv_iconst (v := (0 : Int32)) hx hb dX11_known_19 (by decide) ?_
    refine lv_istore_n (lv' := [(3, .int (0 : Int32)), (2, .int x2_1), (0, .ref (G.2.2 + 160)), (1, .int x1)]) hx hb dX11_known_20 rfl hl (by decide) rfl (fun ls hl => ?_)
    exact w11_known_21 X hr hlk N  N (0 : Int32) σ_3 _ _ _ hf hR (lv_sub hl [2, 3, 1, 0] rfl)
  · replace hf := z_f c_5 hf
    refine lv_iconst (v := (-1 : Int32)) hx hb dX11_known_17 (by decide) ?_
    exact e_i X hR hr hlk hf dX11_known_18
abbrev rm11_tellPlot : Room := { frames := 4, cells := 0, slots := 0, locals := 85 }
def f11_tellPlot (N : Nat) (σ : Mm) : Option (Unit × Mm) :=
  z_c (inB (gI σ 160 19) 2) (
  z_l ((((7 : Int32) * (gI σ 160 19)) + (gI σ 171 (ix (gI σ 160 19))))) fun x1_2 =>
  z_b (f11_named N σ) fun r_3 σ_4 =>
  z_b (f11_bounded N (0 : Int32) (9 : Int32) σ_4) fun r_6 σ_7 =>
  z_c (inB x1_2 14) (z_l (sI σ_7 172 (ix x1_2) r_6) fun σ_10 =>
  z_b (f11_bounded N (0 : Int32) (9 : Int32) σ_10) fun r_11 σ_12 =>
  z_c (inB x1_2 14) (z_l (sI σ_12 173 (ix x1_2) r_11) fun σ_15 =>
  z_b (f11_known N (0 : Int32) σ_15) fun r_16 σ_17 =>
  z_c (inB x1_2 14) (z_l (sI σ_17 174 (ix x1_2) r_16) fun σ_20 =>
  z_c (inB (gI σ_20 160 19) 2) (
  z_b (f11_ends N r_3 ((10 : Int32) + (gI σ_20 171 (ix (gI σ_20 160 19)))) σ_20) fun _ σ_23 =>
  if (gI σ_23 160 13) = 0 then (
  z_c (inB (gI σ_23 160 19) 2) (
  z_c (inB (gI σ_23 160 19) 2) (z_l (sI σ_23 171 (ix (gI σ_23 160 19)) ((gI σ_23 171 (ix (gI σ_23 160 19))) + (1 : Int32))) fun σ_28 =>
  some ((), σ_28)))) else (
  some ((), σ_23)))))))
set_option maxHeartbeats 4000000 in
set_option maxRecDepth 100000 in
theorem c11_tellPlot (l : Launch) (G : Gp) (N : Nat) {σ σ0 : Mm} {u0 : Unit} (hf : f11_tellPlot N σ = some (u0, σ0)) : Met l yX11_tellPlot (WS yX11_tellPlot cX11_tellPlot 3 (none)) rm11_tellPlot (va_Pc [.ref (G.2.2 + 160)] (Pd G 212 tt σ)) (P_v G 212 tt u0 σ0) 0 0 (Fr G) := by
  refine ct [(0, .ref (G.2.2 + 160))] rfl (by decide) (Nat.le_of_ble_eq_true rfl) ?_
  intro p e s m below meth c ls X hr hlk hR hl
  have X : Cx p s m _ c cX11_tellPlot 3 RX11 G := X
  have hx := X.1
  have hb := X.2.1
  unfold f11_tellPlot at hf
  refine lv_bipush (v := (7 : Int32)) hx hb dX11_tellPlot_0 (by decide) ?_
  refine lv_aload_n hx hb dX11_tellPlot_2 rfl (lv_at hl 0 rfl) ?_
  refine r_gi X hR fi_11_257 kh_160 dX11_tellPlot_3 ?_
  refine lv_imul hx hb dX11_tellPlot_6 ?_
  refine lv_aload_n hx hb dX11_tellPlot_7 rfl (lv_at hl 0 rfl) ?_
  refine r_gs (t := 171) X hR fr_11_49 kh_160 (sx_11_24 kh_160) dX11_tellPlot_8 ?_
  refine lv_aload_n hx hb dX11_tellPlot_11 rfl (lv_at hl 0 rfl) ?_
  refine r_gi X hR fi_11_257 kh_160 dX11_tellPlot_12 ?_
  obtain ⟨hi_1, hf⟩ := z_c_e hf
  refine r_ial X hR ka_171 hi_1 dX11_tellPlot_15 ?_
  refine lv_iadd hx hb dX11_tellPlot_16 ?_
  refine lv_topi (fun x1_2 ex1_2 => ?_)
  replace hf := z_l_e ex1_2 hf
  refine lv_istore_n (lv' := [(1, .int x1_2), (0, .ref (G.2.2 + 160))]) hx hb dX11_tellPlot_17 rfl hl (by decide) rfl (fun ls hl => ?_)
  refine lv_aload_n hx hb dX11_tellPlot_18 rfl (lv_at hl 1 rfl) ?_
  obtain ⟨r_3, σ_4, hc_5, hf⟩ := z_b_e hf
  refine go_i hR (mv_run (As := []) (rest := []) X hR mv_11_289 kh_160 (kd_lt kh_160 (by decide)) (c11_named l G N hc_5) ⟨rfl, rfl, Nat.le_of_ble_eq_true rfl, Nat.le_of_ble_eq_true rfl⟩ rfl hl.1 rfl (Nat.le_of_ble_eq_true rfl) dX11_tellPlot_19 ⟨Nat.zero_le _, Nat.zero_le _⟩) (fun H locs hR => ?_)
  refine lv_istore_n (lv' := [(2, .int r_3), (1, .int x1_2), (0, .ref (G.2.2 + 160))]) hx hb dX11_tellPlot_22 rfl hl (by decide) rfl (fun ls hl => ?_)
  refine lv_aload_n hx hb dX11_tellPlot_23 rfl (lv_at hl 2 rfl) ?_
  refine r_gs (t := 172) X hR fr_11_52 kh_160 (sx_11_25 kh_160) dX11_tellPlot_24 ?_
  refine lv_iload_n hx hb dX11_tellPlot_27 rfl (lv_at hl 1 rfl) ?_
  refine lv_aload_n hx hb dX11_tellPlot_28 rfl (lv_at hl 2 rfl) ?_
  refine lv_iconst (v := (0 : Int32)) hx hb dX11_tellPlot_29 (by decide) ?_
  refine lv_bipush (v := (9 : Int32)) hx hb dX11_tellPlot_30 (by decide) ?_
  obtain ⟨r_6, σ_7, hc_8, hf⟩ := z_b_e hf
  refine go_i hR (mv_run (As := [.int (0 : Int32), .int (9 : Int32)]) (rest := [.int x1_2, .ref (G.2.2 + 172)]) X hR mv_11_278 kh_160 (kd_lt kh_160 (by decide)) (c11_bounded l G N hc_8) ⟨rfl, rfl, Nat.le_of_ble_eq_true rfl, Nat.le_of_ble_eq_true rfl⟩ rfl hl.1 rfl (Nat.le_of_ble_eq_true rfl) dX11_tellPlot_32 ⟨Nat.zero_le _, Nat.zero_le _⟩) (fun H locs hR => ?_)
  obtain ⟨hi_9, hf⟩ := z_c_e hf
  refine r_ias X hR ka_172 hi_9 dX11_tellPlot_35 (fun H locs σ_10 eσ_10 hR => ?_)
  replace hf := z_l_e eσ_10 hf
  refine lv_aload_n hx hb dX11_tellPlot_36 rfl (lv_at hl 2 rfl) ?_
  refine r_gs (t := 173) X hR fr_11_55 kh_160 (sx_11_26 kh_160) dX11_tellPlot_37 ?_
  refine lv_iload_n hx hb dX11_tellPlot_40 rfl (lv_at hl 1 rfl) ?_
  refine lv_aload_n hx hb dX11_tellPlot_41 rfl (lv_at hl 2 rfl) ?_
  refine lv_iconst (v := (0 : Int32)) hx hb dX11_tellPlot_42 (by decide) ?_
  refine lv_bipush (v := (9 : Int32)) hx hb dX11_tellPlot_43 (by decide) ?_
  obtain ⟨r_11, σ_12, hc_13, hf⟩ := z_b_e hf
  refine go_i hR (mv_run (As := [.int (0 : Int32), .int (9 : Int32)]) (rest := [.int x1_2, .ref (G.2.2 + 173)]) X hR mv_11_278 kh_160 (kd_lt kh_160 (by decide)) (c11_bounded l G N hc_13) ⟨rfl, rfl, Nat.le_of_ble_eq_true rfl, Nat.le_of_ble_eq_true rfl⟩ rfl hl.1 rfl (Nat.le_of_ble_eq_true rfl) dX11_tellPlot_45 ⟨Nat.zero_le _, Nat.zero_le _⟩) (fun H locs hR => ?_)
  obtain ⟨hi_14, hf⟩ := z_c_e hf
  refine r_ias X hR ka_173 hi_14 dX11_tellPlot_48 (fun H locs σ_15 eσ_15 hR => ?_)
  replace hf := z_l_e eσ_15 hf
  refine lv_aload_n hx hb dX11_tellPlot_49 rfl (lv_at hl 2 rfl) ?_
  refine r_gs (t := 174) X hR fr_11_58 kh_160 (sx_11_27 kh_160) dX11_tellPlot_50 ?_
  refine lv_iload_n hx hb dX11_tellPlot_53 rfl (lv_at hl 1 rfl) ?_
  refine lv_aload_n hx hb dX11_tellPlot_54 rfl (lv_at hl 2 rfl) ?_
  refine lv_iconst (v := (0 : Int32)) hx hb dX11_tellPlot_55 (by decide) ?_
  obtain ⟨r_16, σ_17, hc_18, hf⟩ := z_b_e hf
  refine go_i hR (mv_run (As := [.int (0 : Int32)]) (rest := [.int x1_2, .ref (G.2.2 + 174)]) X hR mv_11_314 kh_160 (kd_lt kh_160 (by decide)) (c11_known l G N hc_18) ⟨rfl, rfl, Nat.le_of_ble_eq_true rfl, Nat.le_of_ble_eq_true rfl⟩ rfl hl.1 rfl (Nat.le_of_ble_eq_true rfl) dX11_tellPlot_56 ⟨Nat.zero_le _, Nat.zero_le _⟩) (fun H locs hR => ?_)
  obtain ⟨hi_19, hf⟩ := z_c_e hf
  refine r_ias X hR ka_174 hi_19 dX11_tellPlot_59 (fun H locs σ_20 eσ_20 hR => ?_)
  replace hf := z_l_e eσ_20 hf
  refine lv_aload_n hx hb dX11_tellPlot_60 rfl (lv_at hl 2 rfl) ?_
  refine lv_iload_n hx hb dX11_tellPlot_61 rfl (lv_at hl 0 rfl) ?_
  refine lv_bipush (v := (10 : Int32)) hx hb dX11_tellPlot_62 (by decide) ?_
  refine lv_aload_n hx hb dX11_tellPlot_64 rfl (lv_at hl 2 rfl) ?_
  refine r_gs (t := 171) X hR fr_11_49 kh_160 (sx_11_24 kh_160) dX11_tellPlot_65 ?_
  refine lv_aload_n hx hb dX11_tellPlot_68 rfl (lv_at hl 2 rfl) ?_
  refine r_gi X hR fi_11_257 kh_160 dX11_tellPlot_69 ?_
  obtain ⟨hi_21, hf⟩ := z_c_e hf
  refine r_ial X hR ka_171 hi_21 dX11_tellPlot_72 ?_
  refine lv_iadd hx hb dX11_tellPlot_73 ?_
  obtain ⟨r_22, σ_23, hc_24, hf⟩ := z_b_e hf
  refine go_v hR (mv_run (As := [.int r_3, .int ((10 : Int32) + (gI σ_20 171 (ix (gI σ_20 160 19))))]) (rest := []) X hR mv_11_293 kh_160 (kd_lt kh_160 (by decide)) (c11_ends l G N hc_24) ⟨rfl, rfl, Nat.le_of_ble_eq_true rfl, Nat.le_of_ble_eq_true rfl⟩ rfl hl.1 rfl (Nat.le_of_ble_eq_true rfl) dX11_tellPlot_74 ⟨Nat.zero_le _, Nat.zero_le _⟩) (fun H locs hR => ?_)
  refine lv_aload_n hx hb dX11_tellPlot_77 rfl (lv_at hl 2 rfl) ?_
  refine r_gi X hR fi_11_224 kh_160 dX11_tellPlot_78 ?_
  refine lv_if_ne (tgt := 97) hx hb dX11_tellPlot_81 (by decide) (fun c_25 => ?_) (fun c_25 => ?_)
  · replace hf := z_f c_25 hf
    exact e_v X hR hr hlk hf dX11_tellPlot_97
  · replace hf := z_t c_25 hf
    refine lv_aload_n hx hb dX11_tellPlot_84 rfl (lv_at hl 2 rfl) ?_
    refine r_gs (t := 171) X hR fr_11_49 kh_160 (sx_11_24 kh_160) dX11_tellPlot_85 ?_
    refine lv_aload_n hx hb dX11_tellPlot_88 rfl (lv_at hl 2 rfl) ?_
    refine r_gi X hR fi_11_257 kh_160 dX11_tellPlot_89 ?_
    refine lv_dup2_11 hx hb dX11_tellPlot_92 rfl rfl ?_
    obtain ⟨hi_26, hf⟩ := z_c_e hf
    refine r_ial X hR ka_171 hi_26 dX11_tellPlot_93 ?_
    refine lv_iconst (v := (1 : Int32)) hx hb dX11_tellPlot_94 (by decide) ?_
    refine lv_iadd hx hb dX11_tellPlot_95 ?_
    obtain ⟨hi_27, hf⟩ := z_c_e hf
    refine r_ias X hR ka_171 hi_27 dX11_tellPlot_96 (fun H locs σ_28 eσ_28 hR => ?_)
    replace hf := z_l_e eσ_28 hf
    exact e_v X hR hr hlk hf dX11_tellPlot_97
end GEN
