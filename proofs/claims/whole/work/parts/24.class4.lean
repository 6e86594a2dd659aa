section GEN
variable {p : Program} {l : Launch} {e : Env} {s : State} {m : MethodId} {args : Array Value} {below : List Frame} {meth : Method} {c : Code} {G : Gp} {r0 : Int32} {l0 : Int64} {u0 : Unit} {σ0 : Mm}

abbrev rm9_withLetter : Room := { frames := 0, cells := 0, slots := 0, locals := 0 }
def f9_withLetter (N : Nat) (x0 : Int64) (x2 : Int32) (σ : Mm) : Option (Int64 × Mm) :=
  some (((x0 * (32 : Int64)) + ((((x2 - (97 : Int32)) + (1 : Int32))).toInt64)), σ)
set_option maxHeartbeats 4000000 in
set_option maxRecDepth 100000 in
theorem c9_withLetter (l : Launch) (G : Gp) (N : Nat) {x0 : Int64} {x2 : Int32} {σ σ0 : Mm} {l0 : Int64} (hf : f9_withLetter N x0 x2 σ = some (l0, σ0)) : Met l yX9_withLetter (WS yX9_withLetter cX9_withLetter 3 (some .long)) rm9_withLetter (va_Pc [.long x0, .int x2] (Pd G 212 tt σ)) (P_l G 212 tt l0 σ0) 0 0 (Fr G) := by
  refine ct [(0, .long x0), (2, .int x2)] rfl (by decide) (Nat.le_of_ble_eq_true rfl) ?_
  intro p e s m below meth c ls X hr hlk hR hl
  have X : Cx p s m _ c cX9_withLetter 3 RX9 G := X
  have hx := X.1
  have hb := X.2.1
  unfold f9_withLetter at hf
  refine lv_lload_n hx hb dX9_withLetter_0 rfl (lv_at hl 0 rfl) ?_
  refine lv_ldc2 hx hb X.2.2.2.1 (X.2.2.2.2.1 _ col_9_44) dX9_withLetter_1 ?_
  refine lv_lmul hx hb dX9_withLetter_4 ?_
  refine lv_iload_n hx hb dX9_withLetter_5 rfl (lv_at hl 1 rfl) ?_
  refine lv_bipush (v := (97 : Int32)) hx hb dX9_withLetter_6 (by decide) ?_
  refine lv_isub hx hb dX9_withLetter_8 ?_
  refine lv_iconst (v := (1 : Int32)) hx hb dX9_withLetter_9 (by decide) ?_
  refine lv_iadd hx hb dX9_withLetter_10 ?_
  refine lv_i2l (v := ((((x2 - (97 : Int32)) + (1 : Int32))).toInt64)) hx hb dX9_withLetter_11 rfl ?_
  refine lv_ladd hx hb dX9_withLetter_12 ?_
  exact e_l X hR hr hlk hf dX9_withLetter_13
abbrev rm9_isBlank : Room := { frames := 0, cells := 0, slots := 0, locals := 0 }
def f9_isBlank (N : Nat) (x0 : Int32) (σ : Mm) : Option (Int32 × Mm) :=
  if x0 = (32 : Int32) then (
  some ((1 : Int32), σ)) else (
  if x0 = (9 : Int32) then (
  some ((1 : Int32), σ)) else (
  if x0 = (10 : Int32) then (
  some ((1 : Int32), σ)) else (
  if x0 = (13 : Int32) then (
  some ((1 : Int32), σ)) else (
  some ((0 : Int32), σ)))))
set_option maxHeartbeats 4000000 in
set_option maxRecDepth 100000 in
theorem c9_isBlank (l : Launch) (G : Gp) (N : Nat) {x0 : Int32} {σ σ0 : Mm} {r0 : Int32} (hf : f9_isBlank N x0 σ = some (r0, σ0)) : Met l yX9_isBlank (WS yX9_isBlank cX9_isBlank 1 (some .boolean)) rm9_isBlank (va_Pc [.int x0] (Pd G 212 tt σ)) (P_i G 212 tt r0 σ0) 0 0 (Fr G) := by
  refine ct [(0, .int x0)] rfl (by decide) (Nat.le_of_ble_eq_true rfl) ?_
  intro p e s m below meth c ls X hr hlk hR hl
  have X : Cx p s m _ c cX9_isBlank 1 RX9 G := X
  have hx := X.1
  have hb := X.2.1
  unfold f9_isBlank at hf
  refine lv_iload_n hx hb dX9_isBlank_0 rfl (lv_at hl 0 rfl) ?_
  refine lv_bipush (v := (32 : Int32)) hx hb dX9_isBlank_1 (by decide) ?_
  refine lv_icmp_eq (tgt := 24) hx hb dX9_isBlank_3 (by decide) (fun c_1 => ?_) (fun c_1 => ?_)
  · replace hf := z_t c_1 hf
    refine lv_iconst (v := (1 : Int32)) hx hb dX9_isBlank_24 (by decide) ?_
    refine lv_goto (tgt := 29) hx hb dX9_isBlank_25 (by decide) ?_
    exact e_z X hR hr hlk rfl hf dX9_isBlank_29
  · replace hf := z_f c_1 hf
    refine lv_iload_n hx hb dX9_isBlank_6 rfl (lv_at hl 0 rfl) ?_
    refine lv_bipush (v := (9 : Int32)) hx hb dX9_isBlank_7 (by decide) ?_
    refine lv_icmp_eq (tgt := 24) hx hb dX9_isBlank_9 (by decide) (fun c_2 => ?_) (fun c_2 => ?_)
    · replace hf := z_t c_2 hf
      refine lv_iconst (v := (1 : Int32)) hx hb dX9_isBlank_24 (by decide) ?_
      refine lv_goto (tgt := 29) hx hb dX9_isBlank_25 (by decide) ?_
      exact e_z X hR hr hlk rfl hf dX9_isBlank_29
    · replace hf := z_f c_2 hf
      refine lv_iload_n hx hb dX9_isBlank_12 rfl (lv_at hl 0 rfl) ?_
      refine lv_bipush (v := (10 : Int32)) hx hb dX9_isBlank_13 (by decide) ?_
      refine lv_icmp_eq (tgt := 24) hx hb dX9_isBlank_15 (by decide) (fun c_3 => ?_) (fun c_3 => ?_)
      · replace hf := z_t c_3 hf
        refine lv_iconst (v := (1 : Int32)) hx hb dX9_isBlank_24 (by decide) ?_
        refine lv_goto (tgt := 29) hx hb dX9_isBlank_25 (by decide) ?_
        exact e_z X hR hr hlk rfl hf dX9_isBlank_29
      · replace hf := z_f c_3 hf
        refine lv_iload_n hx hb dX9_isBlank_18 rfl (lv_at hl 0 rfl) ?_
        refine lv_bipush (v := (13 : Int32)) hx hb dX9_isBlank_19 (by decide) ?_
        refine lv_icmp_ne (tgt := 28) hx hb dX9_isBlank_21 (by decide) (fun c_4 => ?_) (fun c_4 => ?_)
        · replace hf := z_f c_4 hf
          refine lv_iconst (v := (0 : Int32)) hx hb dX9_isBlank_28 (by decide) ?_
          exact e_z X hR hr hlk rfl hf dX9_isBlank_29
        · replace hf := z_t c_4 hf
          refine lv_iconst (v := (1 : Int32)) hx hb dX9_isBlank_24 (by decide) ?_
          refine lv_goto (tgt := 29) hx hb dX9_isBlank_25 (by decide) ?_
          exact e_z X hR hr hlk rfl hf dX9_isBlank_29
abbrev rm9_behindBlanks : Room := { frames := 1, cells := 0, slots := 0, locals := 20 }
def f9_behindBlanks_2 (N : Nat) (o0 : Nat) (x2 : Int32) : Nat → Int32 → Mm → Option (Int32 × Mm)
  | 0, _, _ => none
  | fu + 1, x3, σ => if x2 ≤ x3 then (
  some (x3, σ)) else (
  if (2000 : Int32) ≤ x3 then (
  some (x3, σ)) else (
  z_c (inB x3 2000) (
  z_b (f9_isBlank N (gI σ o0 (ix x3)) σ) fun r_4 σ_5 =>
  if r_4 = 0 then (
  some (x3, σ_5)) else (
  z_l (x3 + (1 : Int32)) fun x3_8 =>
  f9_behindBlanks_2 N o0 x2 fu x3_8 σ_5))))
def f9_behindBlanks (N : Nat) (o0 : Nat) (x1 : Int32) (x2 : Int32) (σ : Mm) : Option (Int32 × Mm) :=
  f9_behindBlanks_2 N o0 x2 N x1 σ
set_option maxHeartbeats 4000000 in
set_option maxRecDepth 100000 in
theorem w9_behindBlanks_2 (X : Cx p s m args c cX9_behindBlanks 4 RX9 G) (hr : meth.sig.returnType = some .int) (hlk : meth.locks = false) (N : Nat) {o0 : Nat} (ho0 : kd o0 = (12, 2000)) {x2 : Int32} :
    ∀ (fu : Nat) (x3 : Int32) (σ : Mm) (H : Heap) (locs : List Loc) (ls : Array Slot), f9_behindBlanks_2 N o0 x2 fu x3 σ = some (r0, σ0) → Rp G 212 tt σ s H locs → lv_has ls 4 [(0, .ref (G.2.2 + o0)), (2, .int x2), (3, .int x3)] → W p l e rm9_behindBlanks s m args below meth c H locs 0 0 (MQ below (P_i G 212 tt r0 σ0) args s 0 0 (Fr G)) (F0 m 2 ls []) := by
  have hx := X.1
  have hb := X.2.1
  intro fu
  induction fu with
  | zero =>
    intro x3 σ H locs ls hf hR hl
    rw [f9_behindBlanks_2] at hf
    cases hf
  | succ fu ih =>
    intro x3 σ H locs ls hf hR hl
    rw [f9_behindBlanks_2] at hf
    refine lv_iload_n hx hb dX9_behindBlanks_2 rfl (lv_at hl 2 rfl) ?_
    refine lv_iload_n hx hb dX9_behindBlanks_3 rfl (lv_at hl 1 rfl) ?_
    refine lv_icmp_ge (tgt := 28) hx hb dX9_behindBlanks_4 (by decide) (fun c_1 => ?_) (fun c_1 => ?_)
    · replace hf := z_t c_1 hf
      refine lv_iload_n hx hb dX9_behindBlanks_28 rfl (lv_at hl 2 rfl) ?_
      exact e_i X hR hr hlk hf dX9_behindBlanks_29
    · replace hf := z_f c_1 hf
      refine lv_iload_n hx hb dX9_behindBlanks_7 rfl (lv_at hl 2 rfl) ?_
      refine lv_aload_n hx hb dX9_behindBlanks_8 rfl (lv_at hl 0 rfl) ?_
      refine r_len (v := (2000 : Int32)) X hR ho0 (by decide) rfl dX9_behindBlanks_9 ?_
      refine lv_icmp_ge (tgt := 28) hx hb dX9_behindBlanks_10 (by decide) (fun c_2 => ?_) (fun c_2 => ?_)
      · replace hf := z_t c_2 hf
        refine lv_iload_n hx hb dX9_behindBlanks_28 rfl (lv_at hl 2 rfl) ?_
        exact e_i X hR hr hlk hf dX9_behindBlanks_29
      · replace hf := z_f c_2 hf
        refine lv_aload_n hx hb dX9_behindBlanks_13 rfl (lv_at hl 0 rfl) ?_
        refine lv_iload_n hx hb dX9_behindBlanks_14 rfl (lv_at hl 2 rfl) ?_
        obtain ⟨hi_3, hf⟩ := z_c_e hf
        refine r_bal X hR ho0 hi_3 dX9_behindBlanks_15 ?_
        obtain ⟨r_4, σ_5, hc_6, hf⟩ := z_b_e hf
        refine go_i hR (ms_run (As := [.int (gI σ o0 (ix x3))]) (rest := []) X hR ms_9_54 (c9_isBlank l G N hc_6) ⟨rfl, rfl, Nat.le_of_ble_eq_true rfl, Nat.le_of_ble_eq_true rfl⟩ rfl hl.1 rfl (Nat.le_of_ble_eq_true rfl) dX9_behindBlanks_16 ⟨Nat.zero_le _, Nat.zero_le _⟩) (fun H locs hR => ?_)
        refine lv_if_eq (tgt := 28) hx hb dX9_behindBlanks_19 (by decide) (fun c_7 => ?_) (fun c_7 => ?_)
        · replace hf := z_t c_7 hf
          refine lv_iload_n hx hb dX9_behindBlanks_28 rfl (lv_at hl 2 rfl) ?_
          exact e_i X hR hr hlk hf dX9_behindBlanks_29
        · replace hf := z_f c_7 hf
          obtain ⟨x3_8, ex3_8⟩ : ∃ z : Int32, z = x3 + (1 : Int32) := ⟨_, rfl⟩
          replace hf := z_l_e ex3_8 hf
          refine lv_iinc (v := x3_8) (lv' := [(3, .int x3_8), (0, .ref (G.2.2 + o0)), (2, .int x2)]) hx hb dX9_behindBlanks_22 hl (k := 2) rfl (by rw [ex3_8]; rfl) (by decide) rfl (fun ls hl => ?_)
          refine lv_goto (tgt := 2) hx hb dX9_behindBlanks_25 (by decide) ?_
          exact ih x3_8 σ_5 _ _ _ hf hR (lv_sub hl [1, 2, 0] rfl)
set_option maxHeartbeats 4000000 in
set_option maxRecDepth 100000 in
theorem c9_behindBlanks (l : Launch) (G : Gp) (N : Nat) {o0 : Nat} (ho0 : kd o0 = (12, 2000)) {x1 : Int32} {x2 : Int32} {σ σ0 : Mm} {r0 : Int32} (hf : f9_behindBlanks N o0 x1 x2 σ = some (r0, σ0)) : Met l yX9_behindBlanks (WS yX9_behindBlanks cX9_behindBlanks 4 (some .int)) rm9_behindBlanks (va_Pc [.ref (G.2.2 + o0), .int x1, .int x2] (Pd G 212 tt σ)) (P_i G 212 tt r0 σ0) 0 0 (Fr G) := by
  refine ct [(0, .ref (G.2.2 + o0)), (1, .int x1), (2, .int x2)] rfl (by decide) (Nat.le_of_ble_eq_true rfl) ?_
  intro p e s m below meth c ls X hr hlk hR hl
  have X : Cx p s m _ c cX9_behindBlanks 4 RX9 G := X
  have hx := X.1
  have hb := X.2.1
  unfold f9_behindBlanks at hf
  refine lv_iload_n hx hb dX9_behindBlanks_0 rfl (lv_at hl 1 rfl) ?_
  refine lv_istore_n (lv' := [(3, .int x1), (0, .ref (G.2.2 + o0)), (1, .int x1), (2, .int x2)]) hx hb dX9_behindBlanks_1 rfl hl (by decide) rfl (fun ls hl => ?_)
  exact w9_behindBlanks_2 X hr hlk N ho0  N x1 σ _ _ _ hf hR (lv_sub hl [1, 3, 0] rfl)
abbrev rm9_isLetter : Room := { frames := 0, cells := 0, slots := 0, locals := 0 }
def f9_isLetter (N : Nat) (x0 : Int32) (σ : Mm) : Option (Int32 × Mm) :=
  if x0 < (97 : Int32) then (
  some ((0 : Int32), σ)) else (
  if (122 : Int32) < x0 then (
  some ((0 : Int32), σ)) else (
  some ((1 : Int32), σ)))
set_option maxHeartbeats 4000000 in
set_option maxRecDepth 100000 in
theorem c9_isLetter (l : Launch) (G : Gp) (N : Nat) {x0 : Int32} {σ σ0 : Mm} {r0 : Int32} (hf : f9_isLetter N x0 σ = some (r0, σ0)) : Met l yX9_isLetter (WS yX9_isLetter cX9_isLetter 1 (some .boolean)) rm9_isLetter (va_Pc [.int x0] (Pd G 212 tt σ)) (P_i G 212 tt r0 σ0) 0 0 (Fr G) := by
  refine ct [(0, .int x0)] rfl (by decide) (Nat.le_of_ble_eq_true rfl) ?_
  intro p e s m below meth c ls X hr hlk hR hl
  have X : Cx p s m _ c cX9_isLetter 1 RX9 G := X
  have hx := X.1
  have hb := X.2.1
  unfold f9_isLetter at hf
  refine lv_iload_n hx hb dX9_isLetter_0 rfl (lv_at hl 0 rfl) ?_
  refine lv_bipush (v := (97 : Int32)) hx hb dX9_isLetter_1 (by decide) ?_
  refine lv_icmp_lt (tgt := 16) hx hb dX9_isLetter_3 (by decide) (fun c_1 => ?_) (fun c_1 => ?_)
  · replace hf := z_t c_1 hf
    refine lv_iconst (v := (0 : Int32)) hx hb dX9_isLetter_16 (by decide) ?_
    exact e_z X hR hr hlk rfl hf dX9_isLetter_17
  · replace hf := z_f c_1 hf
    refine lv_iload_n hx hb dX9_isLetter_6 rfl (lv_at hl 0 rfl) ?_
    refine lv_bipush (v := (122 : Int32)) hx hb dX9_isLetter_7 (by decide) ?_
    refine lv_icmp_gt (tgt := 16) hx hb dX9_isLetter_9 (by decide) (fun c_2 => ?_) (fun c_2 => ?_)
    · replace hf := z_t c_2 hf
      refine lv_iconst (v := (0 : Int32)) hx hb dX9_isLetter_16 (by decide) ?_
      exact e_z X hR hr hlk rfl hf dX9_isLetter_17
    · replace hf := z_f c_2 hf
      refine lv_iconst (v := (1 : Int32)) hx hb dX9_isLetter_12 (by decide) ?_
      refine lv_goto (tgt := 17) hx hb dX9_isLetter_13 (by decide) ?_
      exact e_z X hR hr hlk rfl hf dX9_isLetter_17
abbrev rm9_kindOfWord : Room := { frames := 0, cells := 0, slots := 0, locals := 0 }
def f9_kindOfWord_2 (N : Nat) (x1 : Int64) : Nat → Int32 → Mm → Option (Int32 × Mm)
  | 0, _, _ => none
  | fu + 1, x3, σ => if (22 : Int32) ≤ x3 then (
  some ((2 : Int32), σ)) else (
  z_c (inB x3 22) (
  if (lg_cmp (gL σ 6 (ix x3)) x1) = 0 then (
  some (((13 : Int32) + x3), σ)) else (
  z_l (x3 + (1 : Int32)) fun x3_4 =>
  f9_kindOfWord_2 N x1 fu x3_4 σ)))
def f9_kindOfWord (N : Nat) (x1 : Int64) (σ : Mm) : Option (Int32 × Mm) :=
  f9_kindOfWord_2 N x1 N (0 : Int32) σ
set_option maxHeartbeats 4000000 in
set_option maxRecDepth 100000 in
theorem w9_kindOfWord_2 (X : Cx p s m args c cX9_kindOfWord 4 RX9 G) (hr : meth.sig.returnType = some .int) (hlk : meth.locks = false) (N : Nat) {x1 : Int64} :
    ∀ (fu : Nat) (x3 : Int32) (σ : Mm) (H : Heap) (locs : List Loc) (ls : Array Slot), f9_kindOfWord_2 N x1 fu x3 σ = some (r0, σ0) → Rp G 212 tt σ s H locs → lv_has ls 4 [(0, .ref (G.2.2 + 2)), (1, .long x1), (3, .int x3)] → W p l e rm9_kindOfWord s m args below meth c H locs 0 0 (MQ below (P_i G 212 tt r0 σ0) args s 0 0 (Fr G)) (F0 m 2 ls []) := by
  have hx := X.1
  have hb := X.2.1
  intro fu
  induction fu with
  | zero =>
    intro x3 σ H locs ls hf hR hl
    rw [f9_kindOfWord_2] at hf
    cases hf
  | succ fu ih =>
    intro x3 σ H locs ls hf hR hl
    rw [f9_kindOfWord_2] at hf
    refine lv_iload_n hx hb dX9_kindOfWord_2 rfl (lv_at hl 2 rfl) ?_
    refine lv_aload_n hx hb dX9_kindOfWord_3 rfl (lv_at hl 0 rfl) ?_
    refine r_gs (t := 6) X hR fr_9_22 kh_2 (sx_9_3 kh_2) dX9_kindOfWord_4 ?_
    refine r_len (v := (22 : Int32)) X hR ka_6 (by decide) rfl dX9_kindOfWord_7 ?_
    refine lv_icmp_ge (tgt := 33) hx hb dX9_kindOfWord_8 (by decide) (fun c_1 => ?_) (fun c_1 => ?_)
    · replace hf := z_t c_1 hf
      refine lv_iconst (v := (2 : Int32)) hx hb dX9_kindOfWord_33 (by decide) ?_
      exact e_i X hR hr hlk hf dX9_kindOfWord_34
    · replace hf := z_f c_1 hf
      refine lv_aload_n hx hb dX9_kindOfWord_11 rfl (lv_at hl 0 rfl) ?_
      refine r_gs (t := 6) X hR fr_9_22 kh_2 (sx_9_3 kh_2) dX9_kindOfWord_12 ?_
      refine lv_iload_n hx hb dX9_kindOfWord_15 rfl (lv_at hl 2 rfl) ?_
      obtain ⟨hi_2, hf⟩ := z_c_e hf
      refine r_lal X hR ka_6 hi_2 dX9_kindOfWord_16 ?_
      refine lv_lload_n hx hb dX9_kindOfWord_17 rfl (lv_at hl 1 rfl) ?_
      refine W.lcmp hx hb dX9_kindOfWord_18 ?_
      refine lv_if_ne (tgt := 27) hx hb dX9_kindOfWord_19 (by decide) (fun c_3 => ?_) (fun c_3 => ?_)
      · replace hf := z_f c_3 hf
        obtain ⟨x3_4, ex3_4⟩ : ∃ z : Int32, z = x3 + (1 : Int32) := ⟨_, rfl⟩
        replace hf := z_l_e ex3_4 hf
        refine lv_iinc (v := x3_4) (lv' := [(3, .int x3_4), (0, .ref (G.2.2 + 2)), (1, .long x1)]) hx hb dX9_kindOfWord_27 hl (k := 2) rfl (by rw [ex3_4]; rfl) (by decide) rfl (fun ls hl => ?_)
        refine lv_goto (tgt := 2) hx hb dX9_kindOfWord_30 (by decide) ?_
        exact ih x3_4 σ _ _ _ hf hR (lv_sub hl [1, 2, 0] rfl)
      · replace hf := z_t c_3 hf
        refine lv_bipush (v := (13 : Int32)) hx hb dX9_kindOfWord_22 (by decide) ?_
        refine lv_iload_n hx hb dX9_kindOfWord_24 rfl (lv_at hl 2 rfl) ?_
        refine lv_iadd hx hb dX9_kindOfWord_25 ?_
        exact e_i X hR hr hlk hf dX9_kindOfWord_26
set_option maxHeartbeats 4000000 in
set_option maxRecDepth 100000 in
theorem c9_kindOfWord (l : Launch) (G : Gp) (N : Nat) {x1 : Int64} {σ σ0 : Mm} {r0 : Int32} (hf : f9_kindOfWord N x1 σ = some (r0, σ0)) : Met l yX9_kindOfWord (WS yX9_kindOfWord cX9_kindOfWord 4 (some .int)) rm9_kindOfWord (va_Pc [.ref (G.2.2 + 2), .long x1] (Pd G 212 tt σ)) (P_i G 212 tt r0 σ0) 0 0 (Fr G) := by
  refine ct [(0, .ref (G.2.2 + 2)), (1, .long x1)] rfl (by decide) (Nat.le_of_ble_eq_true rfl) ?_
  intro p e s m below meth c ls X hr hlk hR hl
  have X : Cx p s m _ c cX9_kindOfWord 4 RX9 G := X
  have hx := X.1
  have hb := X.2.1
  unfold f9_kindOfWord at hf
  refine lv_iconst (v := (0 : Int32)) hx hb dX9_kindOfWord_0 (by decide) ?_
  refine lv_istore_n (lv' := [(3, .int (0 : Int32)), (0, .ref (G.2.2 + 2)), (1, .long x1)]) hx hb dX9_kindOfWord_1 rfl hl (by decide) rfl (fun ls hl => ?_)
  exact w9_kindOfWord_2 X hr hlk N  N (0 : Int32) σ _ _ _ hf hR (lv_sub hl [1, 2, 0] rfl)
abbrev rm9_scanLetters : Room := { frames := 1, cells := 0, slots := 0, locals := 23 }
def f9_scanLetters_80 (N : Nat) (o1 : Nat) (x5 : Int32) (s1 : Int32) (s2 : Int32) (σ : Mm) : Option (Int32 × Mm) :=
  z_c (inB s1 401) (z_l (sI σ 3 (ix s1) s2) fun σ_9 =>
  some (x5, σ_9))
def f9_scanLetters_46 (N : Nat) (o1 : Nat) (x2 : Int32) (x4 : Int32) (x5 : Int32) (x6 : Int64) (σ : Mm) : Option (Int32 × Mm) :=
  z_c (inB x4 401) (z_l (sL σ 5 (ix x4) x6) fun σ_3 =>
  if (x5 - x2) ≤ (8 : Int32) then (
  z_b (f9_kindOfWord N x6 σ_3) fun r_5 σ_6 =>
  f9_scanLetters_80 N o1 x5 x4 r_5 σ_6) else (
  f9_scanLetters_80 N o1 x5 x4 (1 : Int32) σ_3))
def f9_scanLetters_6 (N : Nat) (o1 : Nat) (x2 : Int32) (x3 : Int32) (x4 : Int32) : Nat → Int32 → Int64 → Mm → Option (Int32 × Mm)
  | 0, _, _, _ => none
  | fu + 1, x5, x6, σ => if x3 ≤ x5 then (
  f9_scanLetters_46 N o1 x2 x4 x5 x6 σ) else (
  if (2000 : Int32) ≤ x5 then (
  f9_scanLetters_46 N o1 x2 x4 x5 x6 σ) else (
  z_c (inB x5 2000) (
  z_b (f9_isLetter N (gI σ o1 (ix x5)) σ) fun r_12 σ_13 =>
  if r_12 = 0 then (
  f9_scanLetters_46 N o1 x2 x4 x5 x6 σ_13) else (
  z_c (inB x5 2000) (
  z_b (f9_withLetter N x6 (gI σ_13 o1 (ix x5)) σ_13) fun r_17 σ_18 =>
  z_l (x5 + (1 : Int32)) fun x5_20 =>
  f9_scanLetters_6 N o1 x2 x3 x4 fu x5_20 r_17 σ_18)))))
def f9_scanLetters (N : Nat) (o1 : Nat) (x2 : Int32) (x3 : Int32) (x4 : Int32) (σ : Mm) : Option (Int32 × Mm) :=
  f9_scanLetters_6 N o1 x2 x3 x4 N x2 (0 : Int64) σ
set_option maxHeartbeats 4000000 in
set_option maxRecDepth 100000 in
theorem w9_scanLetters_80 (X : Cx p s m args c cX9_scanLetters 8 RX9 G) (hr : meth.sig.returnType = some .int) (hlk : meth.locks = false) (N : Nat) {o1 : Nat} (ho1 : kd o1 = (12, 2000)) :
    ∀ (x5 : Int32) (s1 : Int32) (s2 : Int32) (σ : Mm) (H : Heap) (locs : List Loc) (ls : Array Slot), f9_scanLetters_80 N o1 x5 s1 s2 σ = some (r0, σ0) → Rp G 212 tt σ s H locs → lv_has ls 8 [(5, .int x5)] → W p l e rm9_scanLetters s m args below meth c H locs 0 0 (MQ below (P_i G 212 tt r0 σ0) args s 0 0 (Fr G)) (F0 m 80 ls [.int s2, .int s1, .ref (G.2.2 + 3)]) := by
  have hx := X.1
  have hb := X.2.1
  intro x5 s1 s2 σ H locs ls hf hR hl
  unfold f9_scanLetters_80 at hf
  obtain ⟨hi_8, hf⟩ := z_c_e hf
  refine r_ias X hR ka_3 hi_8 dX9_scanLetters_80 (fun H locs σ_9 eσ_9 hR => ?_)
  replace hf := z_l_e eσ_9 hf
  refine lv_iload hx hb dX9_scanLetters_81 (lv_at hl 0 rfl) ?_
  exact e_i X hR hr hlk hf dX9_scanLetters_83
set_option maxHeartbeats 4000000 in
set_option maxRecDepth 100000 in
theorem w9_scanLetters_46 (X : Cx p s m args c cX9_scanLetters 8 RX9 G) (hr : meth.sig.returnType = some .int) (hlk : meth.locks = false) (N : Nat) {o1 : Nat} (ho1 : kd o1 = (12, 2000)) :
    ∀ (x2 : Int32) (x4 : Int32) (x5 : Int32) (x6 : Int64) (σ : Mm) (H : Heap) (locs : List Loc) (ls : Array Slot), f9_scanLetters_46 N o1 x2 x4 x5 x6 σ = some (r0, σ0) → Rp G 212 tt σ s H locs → lv_has ls 8 [(0, .ref (G.2.2 + 2)), (2, .int x2), (4, .int x4), (5, .int x5), (6, .long x6)] → W p l e rm9_scanLetters s m args below meth c H locs 0 0 (MQ below (P_i G 212 tt r0 σ0) args s 0 0 (Fr G)) (F0 m 46 ls []) := by
  have hx := X.1
  have hb := X.2.1
  intro x2 x4 x5 x6 σ H locs ls hf hR hl
  unfold f9_scanLetters_46 at hf
  refine lv_aload_n hx hb dX9_scanLetters_46 rfl (lv_at hl 0 rfl) ?_
  refine r_gs (t := 5) X hR fr_9_18 kh_2 (sx_9_2 kh_2) dX9_scanLetters_47 ?_
  refine lv_iload hx hb dX9_scanLetters_50 (lv_at hl 2 rfl) ?_
  refine lv_lload hx hb dX9_scanLetters_52 (lv_at hl 4 rfl) ?_
  obtain ⟨hi_2, hf⟩ := z_c_e hf
  refine r_las X hR ka_5 hi_2 dX9_scanLetters_54 (fun H locs σ_3 eσ_3 hR => ?_)
  replace hf := z_l_e eσ_3 hf
  refine lv_aload_n hx hb dX9_scanLetters_55 rfl (lv_at hl 0 rfl) ?_
  refine r_gs (t := 3) X hR fr_9_9 kh_2 (sx_9_0 kh_2) dX9_scanLetters_56 ?_
  refine lv_iload hx hb dX9_scanLetters_59 (lv_at hl 2 rfl) ?_
  refine lv_iload hx hb dX9_scanLetters_61 (lv_at hl 3 rfl) ?_
  refine lv_iload_n hx hb dX9_scanLetters_63 rfl (lv_at hl 1 rfl) ?_
  refine lv_isub hx hb dX9_scanLetters_64 ?_
  refine lv_bipush (v := (8 : Int32)) hx hb dX9_scanLetters_65 (by decide) ?_
  refine lv_icmp_le (tgt := 74) hx hb dX9_scanLetters_67 (by decide) (fun c_4 => ?_) (fun c_4 => ?_)
  · replace hf := z_t c_4 hf
    refine lv_aload_n hx hb dX9_scanLetters_74 rfl (lv_at hl 0 rfl) ?_
    refine lv_lload hx hb dX9_scanLetters_75 (lv_at hl 4 rfl) ?_
    obtain ⟨r_5, σ_6, hc_7, hf⟩ := z_b_e hf
    refine go_i hR (mv_run (As := [.long x6]) (rest := [.int x4, .ref (G.2.2 + 3)]) X hR mv_9_76 kh_2 (kd_lt kh_2 (by decide)) (c9_kindOfWord l G N hc_7) ⟨rfl, rfl, Nat.le_of_ble_eq_true rfl, Nat.le_of_ble_eq_true rfl⟩ rfl hl.1 rfl (Nat.le_of_ble_eq_true rfl) dX9_scanLetters_77 ⟨Nat.zero_le _, Nat.zero_le _⟩) (fun H locs hR => ?_)
    exact w9_scanLetters_80 X hr hlk N ho1  x5 x4 r_5 σ_6 _ _ _ hf hR (lv_sub hl [3] rfl)
  · replace hf := z_f c_4 hf
    refine lv_iconst (v := (1 : Int32)) hx hb dX9_scanLetters_70 (by decide) ?_
    refine lv_goto (tgt := 80) hx hb dX9_scanLetters_71 (by decide) ?_
    exact w9_scanLetters_80 X hr hlk N ho1  x5 x4 (1 : Int32) σ_3 _ _ _ hf hR (lv_sub hl [3] rfl)
set_option maxHeartbeats 4000000 in
set_option maxRecDepth 100000 in
theorem w9_scanLetters_6 (X : Cx p s m args c cX9_scanLetters 8 RX9 G) (hr : meth.sig.returnType = some .int) (hlk : meth.locks = false) (N : Nat) {o1 : Nat} (ho1 : kd o1 = (12, 2000)) {x2 : Int32} {x3 : Int32} {x4 : Int32} :
    ∀ (fu : Nat) (x5 : Int32) (x6 : Int64) (σ : Mm) (H : Heap) (locs : List Loc) (ls : Array Slot), f9_scanLetters_6 N o1 x2 x3 x4 fu x5 x6 σ = some (r0, σ0) → Rp G 212 tt σ s H locs → lv_has ls 8 [(0, .ref (G.2.2 + 2)), (1, .ref (G.2.2 + o1)), (2, .int x2), (3, .int x3), (4, .int x4), (5, .int x5), (6, .long x6)] → W p l e rm9_scanLetters s m args below meth c H locs 0 0 (MQ below (P_i G 212 tt r0 σ0) args s 0 0 (Fr G)) (F0 m 6 ls []) := by
  have hx := X.1
  have hb := X.2.1
  intro fu
  induction fu with
  | zero =>
    intro x5 x6 σ H locs ls hf hR hl
    rw [f9_scanLetters_6] at hf
    cases hf
  | succ fu ih =>
    intro x5 x6 σ H locs ls hf hR hl
    rw [f9_scanLetters_6] at hf
    refine lv_iload hx hb dX9_scanLetters_6 (lv_at hl 5 rfl) ?_
    refine lv_iload_n hx hb dX9_scanLetters_8 rfl (lv_at hl 3 rfl) ?_
    refine lv_icmp_ge (tgt := 46) hx hb dX9_scanLetters_9 (by decide) (fun c_1 => ?_) (fun c_1 => ?_)
    · replace hf := z_t c_1 hf
      exact w9_scanLetters_46 X hr hlk N ho1  x2 x4 x5 x6 σ _ _ _ hf hR (lv_sub hl [0, 2, 4, 5, 6] rfl)
    · replace hf := z_f c_1 hf
      refine lv_iload hx hb dX9_scanLetters_12 (lv_at hl 5 rfl) ?_
      refine lv_aload_n hx hb dX9_scanLetters_14 rfl (lv_at hl 1 rfl) ?_
      refine r_len (v := (2000 : Int32)) X hR ho1 (by decide) rfl dX9_scanLetters_15 ?_
      refine lv_icmp_ge (tgt := 46) hx hb dX9_scanLetters_16 (by decide) (fun c_10 => ?_) (fun c_10 => ?_)
      · replace hf := z_t c_10 hf
        exact w9_scanLetters_46 X hr hlk N ho1  x2 x4 x5 x6 σ _ _ _ hf hR (lv_sub hl [0, 2, 4, 5, 6] rfl)
      · replace hf := z_f c_10 hf
        refine lv_aload_n hx hb dX9_scanLetters_19 rfl (lv_at hl 1 rfl) ?_
        refine lv_iload hx hb dX9_scanLetters_20 (lv_at hl 5 rfl) ?_
        obtain ⟨hi_11, hf⟩ := z_c_e hf
        refine r_bal X hR ho1 hi_11 dX9_scanLetters_22 ?_
        obtain ⟨r_12, σ_13, hc_14, hf⟩ := z_b_e hf
        refine go_i hR (ms_run (As := [.int (gI σ o1 (ix x5))]) (rest := []) X hR ms_9_58 (c9_isLetter l G N hc_14) ⟨rfl, rfl, Nat.le_of_ble_eq_true rfl, Nat.le_of_ble_eq_true rfl⟩ rfl hl.1 rfl (Nat.le_of_ble_eq_true rfl) dX9_scanLetters_23 ⟨Nat.zero_le _, Nat.zero_le _⟩) (fun H locs hR => ?_)
        refine lv_if_eq (tgt := 46) hx hb dX9_scanLetters_26 (by decide) (fun c_15 => ?_) (fun c_15 => ?_)
        · replace hf := z_t c_15 hf
          exact w9_scanLetters_46 X hr hlk N ho1  x2 x4 x5 x6 σ_13 _ _ _ hf hR (lv_sub hl [0, 2, 4, 5, 6] rfl)
        · replace hf := z_f c_15 hf
          refine lv_lload hx hb dX9_scanLetters_29 (lv_at hl 6 rfl) ?_
          refine lv_aload_n hx hb dX9_scanLetters_31 rfl (lv_at hl 1 rfl) ?_
          refine lv_iload hx hb dX9_scanLetters_32 (lv_at hl 5 rfl) ?_
          obtain ⟨hi_16, hf⟩ := z_c_e hf
          refine r_bal X hR ho1 hi_16 dX9_scanLetters_34 ?_
          obtain ⟨r_17, σ_18, hc_19, hf⟩ := z_b_e hf
          refine go_l hR (ms_run (As := [.long x6, .int (gI σ_13 o1 (ix x5))]) (rest := []) X hR ms_9_40 (c9_withLetter l G N hc_19) ⟨rfl, rfl, Nat.le_of_ble_eq_true rfl, Nat.le_of_ble_eq_true rfl⟩ rfl hl.1 rfl (Nat.le_of_ble_eq_true rfl) dX9_scanLetters_35 ⟨Nat.zero_le _, Nat.zero_le _⟩) (fun H locs hR => ?_)
          refine lv_lstore (lv' := [(6, .long r_17), (0, .ref (G.2.2 + 2)), (1, .ref (G.2.2 + o1)), (2, .int x2), (3, .int x3), (4, .int x4), (5, .int x5)]) hx hb dX9_scanLetters_38 hl (by decide) rfl (fun ls hl => ?_)
          obtain ⟨x5_20, ex5_20⟩ : ∃ z : Int32, z = x5 + (1 : Int32) := ⟨_, rfl⟩
          replace hf := z_l_e ex5_20 hf
          refine lv_iinc (v := x5_20) (lv' := [(5, .int x5_20), (6, .long r_17), (0, .ref (G.2.2 + 2)), (1, .ref (G.2.2 + o1)), (2, .int x2), (3, .int x3), (4, .int x4)]) hx hb dX9_scanLetters_40 hl (k := 6) rfl (by rw [ex5_20]; rfl) (by decide) rfl (fun ls hl => ?_)
          refine lv_goto (tgt := 6) hx hb dX9_scanLetters_43 (by decide) ?_
          exact ih x5_20 r_17 σ_18 _ _ _ hf hR (lv_sub hl [2, 3, 4, 5, 6, 0, 1] rfl)
set_option maxHeartbeats 4000000 in
set_option maxRecDepth 100000 in
theorem c9_scanLetters (l : Launch) (G : Gp) (N : Nat) {o1 : Nat} (ho1 : kd o1 = (12, 2000)) {x2 : Int32} {x3 : Int32} {x4 : Int32} {σ σ0 : Mm} {r0 : Int32} (hf : f9_scanLetters N o1 x2 x3 x4 σ = some (r0, σ0)) : Met l yX9_scanLetters (WS yX9_scanLetters cX9_scanLetters 8 (some .int)) rm9_scanLetters (va_Pc [.ref (G.2.2 + 2), .ref (G.2.2 + o1), .int x2, .int x3, .int x4] (Pd G 212 tt σ)) (P_i G 212 tt r0 σ0) 0 0 (Fr G) := by
  refine ct [(0, .ref (G.2.2 + 2)), (1, .ref (G.2.2 + o1)), (2, .int x2), (3, .int x3), (4, .int x4)] rfl (by decide) (Nat.le_of_ble_eq_true rfl) ?_
  intro p e s m below meth c ls X hr hlk hR hl
  have X : Cx p s m _ c cX9_scanLetters 8 RX9 G := X
  have hx := X.1
  have hb := X.2.1
  unfold f9_scanLetters at hf
  refine lv_iload_n hx hb dX9_scanLetters_0 rfl (lv_at hl 2 rfl) ?_
  refine lv_istore (lv' := [(5, .int x2), (0, .ref (G.2.2 + 2)), (1, .ref (G.2.2 + o1)), (2, .int x2), (3, .int x3), (4, .int x4)]) hx hb dX9_scanLetters_1 hl (by decide) rfl (fun ls hl => ?_)
  refine lv_lconst (v := (0 : Int64)) hx hb dX9_scanLetters_3 (by decide) ?_
  refine lv_lstore (lv' := [(6, .long (0 : Int64)), (5, .int x2), (0, .ref (G.2.2 + 2)), (1, .ref (G.2.2 + o1)), (2, .int x2), (3, .int x3), (4, .int x4)]) hx hb dX9_scanLetters_4 hl (by decide) rfl (fun ls hl => ?_)
  exact w9_scanLetters_6 X hr hlk N ho1  N x2 (0 : Int64) σ _ _ _ hf hR (lv_sub hl [2, 3, 4, 5, 6, 1, 0] rfl)
abbrev rm9_isDigit : Room := { frames := 0, cells := 0, slots := 0, locals := 0 }
def f9_isDigit (N : Nat) (x0 : Int32) (σ : Mm) : Option (Int32 × Mm) :=
  if x0 < (48 : Int32) then (
  some ((0 : Int32), σ)) else (
  if (57 : Int32) < x0 then (
  some ((0 : Int32), σ)) else (
  some ((1 : Int32), σ)))
set_option maxHeartbeats 4000000 in
set_option maxRecDepth 100000 in
theorem c9_isDigit (l : Launch) (G : Gp) (N : Nat) {x0 : Int32} {σ σ0 : Mm} {r0 : Int32} (hf : f9_isDigit N x0 σ = some (r0, σ0)) : Met l yX9_isDigit (WS yX9_isDigit cX9_isDigit 1 (some .boolean)) rm9_isDigit (va_Pc [.int x0] (Pd G 212 tt σ)) (P_i G 212 tt r0 σ0) 0 0 (Fr G) := by
  refine ct [(0, .int x0)] rfl (by decide) (Nat.le_of_ble_eq_true rfl) ?_
  intro p e s m below meth c ls X hr hlk hR hl
  have X : Cx p s m _ c cX9_isDigit 1 RX9 G := X
  have hx := X.1
  have hb := X.2.1
  unfold f9_isDigit at hf
  refine lv_iload_n hx hb dX9_isDigit_0 rfl (lv_at hl 0 rfl) ?_
  refine lv_bipush (v := (48 : Int32)) hx hb dX9_isDigit_1 (by decide) ?_
  refine lv_icmp_lt (tgt := 16) hx hb dX9_isDigit_3 (by decide) (fun c_1 => ?_) (fun c_1 => ?_)
  · replace hf := z_t c_1 hf
    refine lv_iconst (v := (0 : Int32)) hx hb dX9_isDigit_16 (by decide) ?_
    exact e_z X hR hr hlk rfl hf dX9_isDigit_17
  · replace hf := z_f c_1 hf
    refine lv_iload_n hx hb dX9_isDigit_6 rfl (lv_at hl 0 rfl) ?_
    refine lv_bipush (v := (57 : Int32)) hx hb dX9_isDigit_7 (by decide) ?_
    refine lv_icmp_gt (tgt := 16) hx hb dX9_isDigit_9 (by decide) (fun c_2 => ?_) (fun c_2 => ?_)
    · replace hf := z_t c_2 hf
      refine lv_iconst (v := (0 : Int32)) hx hb dX9_isDigit_16 (by decide) ?_
      exact e_z X hR hr hlk rfl hf dX9_isDigit_17
    · replace hf := z_f c_2 hf
      refine lv_iconst (v := (1 : Int32)) hx hb dX9_isDigit_12 (by decide) ?_
      refine lv_goto (tgt := 17) hx hb dX9_isDigit_13 (by decide) ?_
      exact e_z X hR hr hlk rfl hf dX9_isDigit_17
abbrev rm9_scanDigits : Room := { frames := 1, cells := 0, slots := 0, locals := 20 }
def f9_scanDigits_80 (N : Nat) (o1 : Nat) (x5 : Int32) (s1 : Int32) (s2 : Int32) (σ : Mm) : Option (Int32 × Mm) :=
  z_c (inB s1 401) (z_l (sI σ 3 (ix s1) s2) fun σ_6 =>
  some (x5, σ_6))
def f9_scanDigits_52 (N : Nat) (o1 : Nat) (x2 : Int32) (x4 : Int32) (x5 : Int32) (x6 : Int64) (σ : Mm) : Option (Int32 × Mm) :=
  z_c (inB x4 401) (z_l (sL σ 5 (ix x4) x6) fun σ_3 =>
  if (x5 - x2) ≤ (4 : Int32) then (
  f9_scanDigits_80 N o1 x5 x4 (3 : Int32) σ_3) else (
  f9_scanDigits_80 N o1 x5 x4 (1 : Int32) σ_3))
def f9_scanDigits_6 (N : Nat) (o1 : Nat) (x2 : Int32) (x3 : Int32) (x4 : Int32) : Nat → Int32 → Int64 → Mm → Option (Int32 × Mm)
  | 0, _, _, _ => none
  | fu + 1, x5, x6, σ => if x3 ≤ x5 then (
  f9_scanDigits_52 N o1 x2 x4 x5 x6 σ) else (
  if (2000 : Int32) ≤ x5 then (
  f9_scanDigits_52 N o1 x2 x4 x5 x6 σ) else (
  z_c (inB x5 2000) (
  z_b (f9_isDigit N (gI σ o1 (ix x5)) σ) fun r_9 σ_10 =>
  if r_9 = 0 then (
  f9_scanDigits_52 N o1 x2 x4 x5 x6 σ_10) else (
  z_c (inB x5 2000) (
  z_l (((x6 * (10 : Int64)) + ((((gI σ_10 o1 (ix x5)) - (48 : Int32))).toInt64))) fun x6_14 =>
  z_l (x5 + (1 : Int32)) fun x5_15 =>
  f9_scanDigits_6 N o1 x2 x3 x4 fu x5_15 x6_14 σ_10)))))
def f9_scanDigits (N : Nat) (o1 : Nat) (x2 : Int32) (x3 : Int32) (x4 : Int32) (σ : Mm) : Option (Int32 × Mm) :=
  f9_scanDigits_6 N o1 x2 x3 x4 N x2 (0 : Int64) σ
set_option maxHeartbeats 4000000 in
set_option maxRecDepth 100000 in
theorem w9_scanDigits_80 (X : Cx p s m args c cX9_scanDigits 8 RX9 G) (hr : meth.sig.returnType = some .int) (hlk : meth.locks = false) (N : Nat) {o1 : Nat} (ho1 : kd o1 = (12, 2000)) :
    ∀ (x5 : Int32) (s1 : Int32) (s2 : Int32) (σ : Mm) (H : Heap) (locs : List Loc) (ls : Array Slot), f9_scanDigits_80 N o1 x5 s1 s2 σ = some (r0, σ0) → Rp G 212 tt σ s H locs → lv_has ls 8 [(5, .int x5)] → W p l e rm9_scanDigits s m args below meth c H locs 0 0 (MQ below (P_i G 212 tt r0 σ0) args s 0 0 (Fr G)) (F0 m 80 ls [.int s2, .int s1, .ref (G.2.2 + 3)]) := by
  have hx := X.1
  have hb := X.2.1
  intro x5 s1 s2 σ H locs ls hf hR hl
  unfold f9_scanDigits_80 at hf
  obtain ⟨hi_5, hf⟩ := z_c_e hf
  refine r_ias X hR ka_3 hi_5 dX9_scanDigits_80 (fun H locs σ_6 eσ_6 hR => ?_)
  replace hf := z_l_e eσ_6 hf
  refine lv_iload hx hb dX9_scanDigits_81 (lv_at hl 0 rfl) ?_
  exact e_i X hR hr hlk hf dX9_scanDigits_83
set_option maxHeartbeats 4000000 in
set_option maxRecDepth 100000 in
theorem w9_scanDigits_52 (X : Cx p s m args c cX9_scanDigits 8 RX9 G) (hr : meth.sig.returnType = some .int) (hlk : meth.locks = false) (N : Nat) {o1 : Nat} (ho1 : kd o1 = (12, 2000)) :
    ∀ (x2 : Int32) (x4 : Int32) (x5 : Int32) (x6 : Int64) (σ : Mm) (H : Heap) (locs : List Loc) (ls : Array Slot), f9_scanDigits_52 N o1 x2 x4 x5 x6 σ = some (r0, σ0) → Rp G 212 tt σ s H locs → lv_has ls 8 [(0, .ref (G.2.2 + 2)), (2, .int x2), (4, .int x4), (5, .int x5), (6, .long x6)] → W p l e rm9_scanDigits s m args below meth c H locs 0 0 (MQ below (P_i G 212 tt r0 σ0) args s 0 0 (Fr G)) (F0 m 52 ls []) := by
  have hx := X.1
  have hb := X.2.1
  intro x2 x4 x5 x6 σ H locs ls hf hR hl
  unfold f9_scanDigits_52 at hf
  refine lv_aload_n hx hb dX9_scanDigits_52 rfl (lv_at hl 0 rfl) ?_
  refine r_gs (t := 5) X hR fr_9_18 kh_2 (sx_9_2 kh_2) dX9_scanDigits_53 ?_
  refine lv_iload hx hb dX9_scanDigits_56 (lv_at hl 2 rfl) ?_
  refine lv_lload hx hb dX9_scanDigits_58 (lv_at hl 4 rfl) ?_
  obtain ⟨hi_2, hf⟩ := z_c_e hf
  refine r_las X hR ka_5 hi_2 dX9_scanDigits_60 (fun H locs σ_3 eσ_3 hR => ?_)
  replace hf := z_l_e eσ_3 hf
  refine lv_aload_n hx hb dX9_scanDigits_61 rfl (lv_at hl 0 rfl) ?_
  refine r_gs (t := 3) X hR fr_9_9 kh_2 (sx_9_0 kh_2) dX9_scanDigits_62 ?_
  refine lv_iload hx hb dX9_scanDigits_65 (lv_at hl 2 rfl) ?_
  refine lv_iload hx hb dX9_scanDigits_67 (lv_at hl 3 rfl) ?_
  refine lv_iload_n hx hb dX9_scanDigits_69 rfl (lv_at hl 1 rfl) ?_
  refine lv_isub hx hb dX9_scanDigits_70 ?_
  refine lv_iconst (v := (4 : Int32)) hx hb dX9_scanDigits_71 (by decide) ?_
  refine lv_icmp_le (tgt := 79) hx hb dX9_scanDigits_72 (by decide) (fun c_4 => ?_) (fun c_4 => ?_)
  · replace hf := z_t c_4 hf
    refine lv_iconst (v := (3 : Int32)) hx hb dX9_scanDigits_79 (by decide) ?_
    exact w9_scanDigits_80 X hr hlk N ho1  x5 x4 (3 : Int32) σ_3 _ _ _ hf hR (lv_sub hl [3] rfl)
  · replace hf := z_f c_4 hf
    refine lv_iconst (v := (1 : Int32)) hx hb dX9_scanDigits_75 (by decide) ?_
    refine lv_goto (tgt := 80) hx hb dX9_scanDigits_76 (by decide) ?_
    exact w9_scanDigits_80 X hr hlk N ho1  x5 x4 (1 : Int32) σ_3 _ _ _ hf hR (lv_sub hl [3] rfl)
set_option maxHeartbeats 4000000 in
set_option maxRecDepth 100000 in
theorem w9_scanDigits_6 (X : Cx p s m args c cX9_scanDigits 8 RX9 G) (hr : meth.sig.returnType = some .int) (hlk : meth.locks = false) (N : Nat) {o1 : Nat} (ho1 : kd o1 = (12, 2000)) {x2 : Int32} {x3 : Int32} {x4 : Int32} :
    ∀ (fu : Nat) (x5 : Int32) (x6 : Int64) (σ : Mm) (H : Heap) (locs : List Loc) (ls : Array Slot), f9_scanDigits_6 N o1 x2 x3 x4 fu x5 x6 σ = some (r0, σ0) → Rp G 212 tt σ s H locs → lv_has ls 8 [(0, .ref (G.2.2 + 2)), (1, .ref (G.2.2 + o1)), (2, .int x2), (3, .int x3), (4, .int x4), (5, .int x5), (6, .long x6)] → W p l e rm9_scanDigits s m args below meth c H locs 0 0 (MQ below (P_i G 212 tt r0 σ0) args s 0 0 (Fr G)) (F0 m 6 ls []) := by
  have hx := X.1
  have hb := X.2.1
  intro fu
  induction fu with
  | zero =>
    intro x5 x6 σ H locs ls hf hR hl
    rw [f9_scanDigits_6] at hf
    cases hf
  | succ fu ih =>
    intro x5 x6 σ H locs ls hf hR hl
    rw [f9_scanDigits_6] at hf
    refine lv_iload hx hb dX9_scanDigits_6 (lv_at hl 5 rfl) ?_
    refine lv_iload_n hx hb dX9_scanDigits_8 rfl (lv_at hl 3 rfl) ?_
    refine lv_icmp_ge (tgt := 52) hx hb dX9_scanDigits_9 (by decide) (fun c_1 => ?_) (fun c_1 => ?_)
    · replace hf := z_t c_1 hf
      exact w9_scanDigits_52 X hr hlk N ho1  x2 x4 x5 x6 σ _ _ _ hf hR (lv_sub hl [0, 2, 4, 5, 6] rfl)
    · replace hf := z_f c_1 hf
      refine lv_iload hx hb dX9_scanDigits_12 (lv_at hl 5 rfl) ?_
      refine lv_aload_n hx hb dX9_scanDigits_14 rfl (lv_at hl 1 rfl) ?_
      refine r_len (v := (2000 : Int32)) X hR ho1 (by decide) rfl dX9_scanDigits_15 ?_
      refine lv_icmp_ge (tgt := 52) hx hb dX9_scanDigits_16 (by decide) (fun c_7 => ?_) (fun c_7 => ?_)
      · replace hf := z_t c_7 hf
        exact w9_scanDigits_52 X hr hlk N ho1  x2 x4 x5 x6 σ _ _ _ hf hR (lv_sub hl [0, 2, 4, 5, 6] rfl)
      · replace hf := z_f c_7 hf
        refine lv_aload_n hx hb dX9_scanDigits_19 rfl (lv_at hl 1 rfl) ?_
        refine lv_iload hx hb dX9_scanDigits_20 (lv_at hl 5 rfl) ?_
        obtain ⟨hi_8, hf⟩ := z_c_e hf
        refine r_bal X hR ho1 hi_8 dX9_scanDigits_22 ?_
        obtain ⟨r_9, σ_10, hc_11, hf⟩ := z_b_e hf
        refine go_i hR (ms_run (As := [.int (gI σ o1 (ix x5))]) (rest := []) X hR ms_9_64 (c9_isDigit l G N hc_11) ⟨rfl, rfl, Nat.le_of_ble_eq_true rfl, Nat.le_of_ble_eq_true rfl⟩ rfl hl.1 rfl (Nat.le_of_ble_eq_true rfl) dX9_scanDigits_23 ⟨Nat.zero_le _, Nat.zero_le _⟩) (fun H locs hR => ?_)
        refine lv_if_eq (tgt := 52) hx hb dX9_scanDigits_26 (by decide) (fun c_12 => ?_) (fun c_12 => ?_)
        · replace hf := z_t c_12 hf
          exact w9_scanDigits_52 X hr hlk N ho1  x2 x4 x5 x6 σ_10 _ _ _ hf hR (lv_sub hl [0, 2, 4, 5, 6] rfl)
        · replace hf := z_f c_12 hf
          refine lv_lload hx hb dX9_scanDigits_29 (lv_at hl 6 rfl) ?_
          refine lv_ldc2 hx hb X.2.2.2.1 (X.2.2.2.2.1 _ col_9_80) dX9_scanDigits_31 ?_
          refine lv_lmul hx hb dX9_scanDigits_34 ?_
          refine lv_aload_n hx hb dX9_scanDigits_35 rfl (lv_at hl 1 rfl) ?_
          refine lv_iload hx hb dX9_scanDigits_36 (lv_at hl 5 rfl) ?_
          obtain ⟨hi_13, hf⟩ := z_c_e hf
          refine r_bal X hR ho1 hi_13 dX9_scanDigits_38 ?_
          refine lv_bipush (v := (48 : Int32)) hx hb dX9_scanDigits_39 (by decide) ?_
          refine lv_isub hx hb dX9_scanDigits_41 ?_
          refine lv_i2l (v := ((((gI σ_10 o1 (ix x5)) - (48 : Int32))).toInt64)) hx hb dX9_scanDigits_42 rfl ?_
          refine lv_ladd hx hb dX9_scanDigits_43 ?_
          refine lv_topl (fun x6_14 ex6_14 => ?_)
          replace hf := z_l_e ex6_14 hf
          refine lv_lstore (lv' := [(6, .long x6_14), (0, .ref (G.2.2 + 2)), (1, .ref (G.2.2 + o1)), (2, .int x2), (3, .int x3), (4, .int x4), (5, .int x5)]) hx hb dX9_scanDigits_44 hl (by decide) rfl (fun ls hl => ?_)
          obtain ⟨x5_15, ex5_15⟩ : ∃ z : Int32, z = x5 + (1 : Int32) := ⟨_, rfl⟩
          replace hf := z_l_e ex5_15 hf
          refine lv_iinc (v := x5_15) (lv' := [(5, .int x5_15), (6, .long x6_14), (0, .ref (G.2.2 + 2)), (1, .ref (G.2.2 + o1)), (2, .int x2), (3, .int x3), (4, .int x4)]) hx hb dX9_scanDigits_46 hl (k := 6) rfl (by rw [ex5_15]; rfl) (by decide) rfl (fun ls hl => ?_)
          refine lv_goto (tgt := 6) hx hb dX9_scanDigits_49 (by decide) ?_
          exact ih x5_15 x6_14 σ_10 _ _ _ hf hR (lv_sub hl [2, 3, 4, 5, 6, 0, 1] rfl)
set_option maxHeartbeats 4000000 in
set_option maxRecDepth 100000 in
theorem c9_scanDigits (l : Launch) (G : Gp) (N : Nat) {o1 : Nat} (ho1 : kd o1 = (12, 2000)) {x2 : Int32} {x3 : Int32} {x4 : Int32} {σ σ0 : Mm} {r0 : Int32} (hf : f9_scanDigits N o1 x2 x3 x4 σ = some (r0, σ0)) : Met l yX9_scanDigits (WS yX9_scanDigits cX9_scanDigits 8 (some .int)) rm9_scanDigits (va_Pc [.ref (G.2.2 + 2), .ref (G.2.2 + o1), .int x2, .int x3, .int x4] (Pd G 212 tt σ)) (P_i G 212 tt r0 σ0) 0 0 (Fr G) := by
  refine ct [(0, .ref (G.2.2 + 2)), (1, .ref (G.2.2 + o1)), (2, .int x2), (3, .int x3), (4, .int x4)] rfl (by decide) (Nat.le_of_ble_eq_true rfl) ?_
  intro p e s m below meth c ls X hr hlk hR hl
  have X : Cx p s m _ c cX9_scanDigits 8 RX9 G := X
  have hx := X.1
  have hb := X.2.1
  unfold f9_scanDigits at hf
  refine lv_iload_n hx hb dX9_scanDigits_0 rfl (lv_at hl 2 rfl) ?_
  refine lv_istore (lv' := [(5, .int x2), (0, .ref (G.2.2 + 2)), (1, .ref (G.2.2 + o1)), (2, .int x2), (3, .int x3), (4, .int x4)]) hx hb dX9_scanDigits_1 hl (by decide) rfl (fun ls hl => ?_)
  refine lv_lconst (v := (0 : Int64)) hx hb dX9_scanDigits_3 (by decide) ?_
  refine lv_lstore (lv' := [(6, .long (0 : Int64)), (5, .int x2), (0, .ref (G.2.2 + 2)), (1, .ref (G.2.2 + o1)), (2, .int x2), (3, .int x3), (4, .int x4)]) hx hb dX9_scanDigits_4 hl (by decide) rfl (fun ls hl => ?_)
  exact w9_scanDigits_6 X hr hlk N ho1  N x2 (0 : Int64) σ _ _ _ hf hR (lv_sub hl [2, 3, 4, 5, 6, 1, 0] rfl)
abbrev rm9_scanOne : Room := { frames := 4, cells := 0, slots := 0, locals := 91 }
def f9_scanOne_19 (N : Nat) (o1 : Nat) (x2 : Int32) (x4 : Int32) (σ : Mm) : Option (Int32 × Mm) :=
  z_c (inB x4 401) (z_l (sI σ 3 (ix x4) (0 : Int32)) fun σ_5 =>
  some (x2, σ_5))
def f9_scanOne_103 (N : Nat) (o1 : Nat) (x2 : Int32) (s1 : Int32) (s2 : Int32) (σ : Mm) : Option (Int32 × Mm) :=
  z_c (inB s1 401) (z_l (sI σ 3 (ix s1) s2) fun σ_20 =>
  some ((x2 + (1 : Int32)), σ_20))
def f9_scanOne (N : Nat) (o1 : Nat) (x2 : Int32) (x3 : Int32) (x4 : Int32) (σ : Mm) : Option (Int32 × Mm) :=
  z_c (inB x4 401) (z_l (sL σ 5 (ix x4) (0 : Int64)) fun σ_2 =>
  if x3 ≤ x2 then (
  f9_scanOne_19 N o1 x2 x4 σ_2) else (
  if x2 < (2000 : Int32) then (
  z_c (inB x2 2000) (
  z_l (((gI σ_2 o1 (ix x2)) &&& (255 : Int32))) fun x5_8 =>
  z_b (f9_isLetter N x5_8 σ_2) fun r_9 σ_10 =>
  if r_9 = 0 then (
  z_b (f9_isDigit N x5_8 σ_10) fun r_13 σ_14 =>
  if r_13 = 0 then (
  z_l ((sIx (((x5_8).toUInt32 % 65536).toInt32))) fun x6_17 =>
  if 0 ≤ x6_17 then (
  f9_scanOne_103 N o1 x2 x4 ((4 : Int32) + x6_17) σ_14) else (
  f9_scanOne_103 N o1 x2 x4 (1 : Int32) σ_14)) else (
  z_b (f9_scanDigits N o1 x2 x3 x4 σ_14) fun r_21 σ_22 =>
  some (r_21, σ_22))) else (
  z_b (f9_scanLetters N o1 x2 x3 x4 σ_10) fun r_24 σ_25 =>
  some (r_24, σ_25)))) else (
  f9_scanOne_19 N o1 x2 x4 σ_2)))
set_option maxHeartbeats 4000000 in
set_option maxRecDepth 100000 in
theorem w9_scanOne_19 (X : Cx p s m args c cX9_scanOne 7 RX9 G) (hr : meth.sig.returnType = some .int) (hlk : meth.locks = false) (N : Nat) {o1 : Nat} (ho1 : kd o1 = (12, 2000)) :
    ∀ (x2 : Int32) (x4 : Int32) (σ : Mm) (H : Heap) (locs : List Loc) (ls : Array Slot), f9_scanOne_19 N o1 x2 x4 σ = some (r0, σ0) → Rp G 212 tt σ s H locs → lv_has ls 7 [(0, .ref (G.2.2 + 2)), (2, .int x2), (4, .int x4)] → W p l e rm9_scanOne s m args below meth c H locs 0 0 (MQ below (P_i G 212 tt r0 σ0) args s 0 0 (Fr G)) (F0 m 19 ls []) := by
  have hx := X.1
  have hb := X.2.1
  intro x2 x4 σ H locs ls hf hR hl
  unfold f9_scanOne_19 at hf
  refine lv_aload_n hx hb dX9_scanOne_19 rfl (lv_at hl 0 rfl) ?_
  refine r_gs (t := 3) X hR fr_9_9 kh_2 (sx_9_0 kh_2) dX9_scanOne_20 ?_
  refine lv_iload hx hb dX9_scanOne_23 (lv_at hl 2 rfl) ?_
  refine lv_iconst (v := (0 : Int32)) hx hb dX9_scanOne_25 (by decide) ?_
  obtain ⟨hi_4, hf⟩ := z_c_e hf
  refine r_ias X hR ka_3 hi_4 dX9_scanOne_26 (fun H locs σ_5 eσ_5 hR => ?_)
  replace hf := z_l_e eσ_5 hf
  refine lv_iload_n hx hb dX9_scanOne_27 rfl (lv_at hl 1 rfl) ?_
  exact e_i X hR hr hlk hf dX9_scanOne_28
set_option maxHeartbeats 4000000 in
set_option maxRecDepth 100000 in
theorem w9_scanOne_103 (X : Cx p s m args c cX9_scanOne 7 RX9 G) (hr : meth.sig.returnType = some .int) (hlk : meth.locks = false) (N : Nat) {o1 : Nat} (ho1 : kd o1 = (12, 2000)) :
    ∀ (x2 : Int32) (s1 : Int32) (s2 : Int32) (σ : Mm) (H : Heap) (locs : List Loc) (ls : Array Slot), f9_scanOne_103 N o1 x2 s1 s2 σ = some (r0, σ0) → Rp G 212 tt σ s H locs → lv_has ls 7 [(2, .int x2)] → W p l e rm9_scanOne s m args below meth c H locs 0 0 (MQ below (P_i G 212 tt r0 σ0) args s 0 0 (Fr G)) (F0 m 103 ls [.int s2, .int s1, .ref (G.2.2 + 3)]) := by
  have hx := X.1
  have hb := X.2.1
  intro x2 s1 s2 σ H locs ls hf hR hl
  unfold f9_scanOne_103 at hf
  obtain ⟨hi_19, hf⟩ := z_c_e hf
  refine r_ias X hR ka_3 hi_19 dX9_scanOne_103 (fun H locs σ_20 eσ_20 hR => ?_)
  replace hf := z_l_e eσ_20 hf
  refine lv_iload_n hx hb dX9_scanOne_104 rfl (lv_at hl 0 rfl) ?_
  refine lv_iconst (v := (1 : Int32)) hx hb dX9_scanOne_105 (by decide) ?_
  refine lv_iadd hx hb dX9_scanOne_106 ?_
  exact e_i X hR hr hlk hf dX9_scanOne_107
set_option maxHeartbeats 4000000 in
set_option maxRecDepth 100000 in
theorem c9_scanOne (l : Launch) (G : Gp) (N : Nat) {o1 : Nat} (ho1 : kd o1 = (12, 2000)) {x2 : Int32} {x3 : Int32} {x4 : Int32} {σ σ0 : Mm} {r0 : Int32} (hf : f9_scanOne N o1 x2 x3 x4 σ = some (r0, σ0)) : Met l yX9_scanOne (WS yX9_scanOne cX9_scanOne 7 (some .int)) rm9_scanOne (va_Pc [.ref (G.2.2 + 2), .ref (G.2.2 + o1), .int x2, .int x3, .int x4] (Pd G 212 tt σ)) (P_i G 212 tt r0 σ0) 0 0 (Fr G) := by
  refine ct [(0, .ref (G.2.2 + 2)), (1, .ref (G.2.2 + o1)), (2, .int x2), (3, .int x3), (4, .int x4)] rfl (by decide) (Nat.le_of_ble_eq_true rfl) ?_
  intro p e s m below meth c ls X hr hlk hR hl
  have X : Cx p s m _ c cX9_scanOne 7 RX9 G := X
  have hx := X.1
  have hb := X.2.1
  unfold f9_scanOne at hf
  refine lv_aload_n hx hb dX9_scanOne_0 rfl (lv_at hl 0 rfl) ?_
  refine r_gs (t := 5) X hR fr_9_18 kh_2 (sx_9_2 kh_2) dX9_scanOne_1 ?_
  refine lv_iload hx hb dX9_scanOne_4 (lv_at hl 4 rfl) ?_
  refine lv_lconst (v := (0 : Int64)) hx hb dX9_scanOne_6 (by decide) ?_
  obtain ⟨hi_1, hf⟩ := z_c_e hf
  refine r_las X hR ka_5 hi_1 dX9_scanOne_7 (fun H locs σ_2 eσ_2 hR => ?_)
  replace hf := z_l_e eσ_2 hf
  refine lv_iload_n hx hb dX9_scanOne_8 rfl (lv_at hl 2 rfl) ?_
  refine lv_iload_n hx hb dX9_scanOne_9 rfl (lv_at hl 3 rfl) ?_
  refine lv_icmp_ge (tgt := 19) hx hb dX9_scanOne_10 (by decide) (fun c_3 => ?_) (fun c_3 => ?_)
  · replace hf := z_t c_3 hf
    exact w9_scanOne_19 X hr hlk N ho1  x2 x4 σ_2 _ _ _ hf hR (lv_sub hl [0, 2, 4] rfl)
  · replace hf := z_f c_3 hf
    refine lv_iload_n hx hb dX9_scanOne_13 rfl (lv_at hl 2 rfl) ?_
    refine lv_aload_n hx hb dX9_scanOne_14 rfl (lv_at hl 1 rfl) ?_
    refine r_len (v := (2000 : Int32)) X hR ho1 (by decide) rfl dX9_scanOne_15 ?_
    refine lv_icmp_lt (tgt := 29) hx hb dX9_scanOne_16 (by decide) (fun c_6 => ?_) (fun c_6 => ?_)
    · replace hf := z_t c_6 hf
      refine lv_aload_n hx hb dX9_scanOne_29 rfl (lv_at hl 1 rfl) ?_
      refine lv_iload_n hx hb dX9_scanOne_30 rfl (lv_at hl 2 rfl) ?_
      obtain ⟨hi_7, hf⟩ := z_c_e hf
      refine r_bal X hR ho1 hi_7 dX9_scanOne_31 ?_
      refine lv_sipush (v := (255 : Int32)) hx hb dX9_scanOne_32 (by decide) ?_
      refine lv_iand hx hb dX9_scanOne_35 ?_
      refine lv_topi (fun x5_8 ex5_8 => ?_)
      replace hf := z_l_e ex5_8 hf
      refine lv_istore (lv' := [(5, .int x5_8), (0, .ref (G.2.2 + 2)), (1, .ref (G.2.2 + o1)), (2, .int x2), (3, .int x3), (4, .int x4)]) hx hb dX9_scanOne_36 hl (by decide) rfl (fun ls hl => ?_)
      refine lv_iload hx hb dX9_scanOne_38 (lv_at hl 0 rfl) ?_
      obtain ⟨r_9, σ_10, hc_11, hf⟩ := z_b_e hf
      refine go_i hR (ms_run (As := [.int x5_8]) (rest := []) X hR ms_9_58 (c9_isLetter l G N hc_11) ⟨rfl, rfl, Nat.le_of_ble_eq_true rfl, Nat.le_of_ble_eq_true rfl⟩ rfl hl.1 rfl (Nat.le_of_ble_eq_true rfl) dX9_scanOne_40 ⟨Nat.zero_le _, Nat.zero_le _⟩) (fun H locs hR => ?_)
      refine lv_if_eq (tgt := 56) hx hb dX9_scanOne_43 (by decide) (fun c_12 => ?_) (fun c_12 => ?_)
      · replace hf := z_t c_12 hf
        refine lv_iload hx hb dX9_scanOne_56 (lv_at hl 0 rfl) ?_
        obtain ⟨r_13, σ_14, hc_15, hf⟩ := z_b_e hf
        refine go_i hR (ms_run (As := [.int x5_8]) (rest := []) X hR ms_9_64 (c9_isDigit l G N hc_15) ⟨rfl, rfl, Nat.le_of_ble_eq_true rfl, Nat.le_of_ble_eq_true rfl⟩ rfl hl.1 rfl (Nat.le_of_ble_eq_true rfl) dX9_scanOne_58 ⟨Nat.zero_le _, Nat.zero_le _⟩) (fun H locs hR => ?_)
        refine lv_if_eq (tgt := 74) hx hb dX9_scanOne_61 (by decide) (fun c_16 => ?_) (fun c_16 => ?_)
        · replace hf := z_t c_16 hf
          refine va_ldcS hx hb X.2.2.2.1 X.2.2.2.2.2.2.2.2.1 dX9_scanOne_74 ?_
          refine lv_iload hx hb dX9_scanOne_76 (lv_at hl 0 rfl) ?_
          refine lv_i2c (v := (((x5_8).toUInt32 % 65536).toInt32)) hx hb dX9_scanOne_78 rfl ?_
          refine go_i hR (sv_run (As := [.int (((x5_8).toUInt32 % 65536).toInt32)]) (rest := []) X hR js_ix (i := 0) (by decide) (cS_indexOf l G) ⟨rfl, rfl, Nat.le_of_ble_eq_true rfl, Nat.le_of_ble_eq_true rfl⟩ rfl hl.1 rfl (Nat.le_of_ble_eq_true rfl) dX9_scanOne_79 ⟨Nat.zero_le _, Nat.zero_le _⟩) (fun H locs hR => ?_)
          refine lv_topi (fun x6_17 ex6_17 => ?_)
          replace hf := z_l_e ex6_17 hf
          refine lv_istore (lv' := [(6, .int x6_17), (5, .int x5_8), (0, .ref (G.2.2 + 2)), (1, .ref (G.2.2 + o1)), (2, .int x2), (3, .int x3), (4, .int x4)]) hx hb dX9_scanOne_82 hl (by decide) rfl (fun ls hl => ?_)
          refine lv_aload_n hx hb dX9_scanOne_84 rfl (lv_at hl 2 rfl) ?_
          refine r_gs (t := 3) X hR fr_9_9 kh_2 (sx_9_0 kh_2) dX9_scanOne_85 ?_
          refine lv_iload hx hb dX9_scanOne_88 (lv_at hl 6 rfl) ?_
          refine lv_iload hx hb dX9_scanOne_90 (lv_at hl 0 rfl) ?_
          refine lv_if_ge (tgt := 99) hx hb dX9_scanOne_92 (by decide) (fun c_18 => ?_) (fun c_18 => ?_)
          · replace hf := z_t c_18 hf
            refine lv_iconst (v := (4 : Int32)) hx hb dX9_scanOne_99 (by decide) ?_
            refine lv_iload hx hb dX9_scanOne_100 (lv_at hl 0 rfl) ?_
            refine lv_iadd hx hb dX9_scanOne_102 ?_
            exact w9_scanOne_103 X hr hlk N ho1  x2 x4 ((4 : Int32) + x6_17) σ_14 _ _ _ hf hR (lv_sub hl [4] rfl)
          · replace hf := z_f c_18 hf
            refine lv_iconst (v := (1 : Int32)) hx hb dX9_scanOne_95 (by decide) ?_
            refine lv_goto (tgt := 103) hx hb dX9_scanOne_96 (by decide) ?_
            exact w9_scanOne_103 X hr hlk N ho1  x2 x4 (1 : Int32) σ_14 _ _ _ hf hR (lv_sub hl [4] rfl)
        · replace hf := z_f c_16 hf
          refine lv_aload_n hx hb dX9_scanOne_64 rfl (lv_at hl 1 rfl) ?_
          refine lv_aload_n hx hb dX9_scanOne_65 rfl (lv_at hl 2 rfl) ?_
          refine lv_iload_n hx hb dX9_scanOne_66 rfl (lv_at hl 3 rfl) ?_
          refine lv_iload_n hx hb dX9_scanOne_67 rfl (lv_at hl 4 rfl) ?_
          refine lv_iload hx hb dX9_scanOne_68 (lv_at hl 5 rfl) ?_
          obtain ⟨r_21, σ_22, hc_23, hf⟩ := z_b_e hf
          refine go_i hR (mv_run (As := [.ref (G.2.2 + o1), .int x2, .int x3, .int x4]) (rest := []) X hR mv_9_67 kh_2 (kd_lt kh_2 (by decide)) (c9_scanDigits l G N ho1 hc_23) ⟨rfl, rfl, Nat.le_of_ble_eq_true rfl, Nat.le_of_ble_eq_true rfl⟩ rfl hl.1 rfl (Nat.le_of_ble_eq_true rfl) dX9_scanOne_70 ⟨Nat.zero_le _, Nat.zero_le _⟩) (fun H locs hR => ?_)
          exact e_i X hR hr hlk hf dX9_scanOne_73
      · replace hf := z_f c_12 hf
        refine lv_aload_n hx hb dX9_scanOne_46 rfl (lv_at hl 1 rfl) ?_
        refine lv_aload_n hx hb dX9_scanOne_47 rfl (lv_at hl 2 rfl) ?_
        refine lv_iload_n hx hb dX9_scanOne_48 rfl (lv_at hl 3 rfl) ?_
        refine lv_iload_n hx hb dX9_scanOne_49 rfl (lv_at hl 4 rfl) ?_
        refine lv_iload hx hb dX9_scanOne_50 (lv_at hl 5 rfl) ?_
        obtain ⟨r_24, σ_25, hc_26, hf⟩ := z_b_e hf
        refine go_i hR (mv_run (As := [.ref (G.2.2 + o1), .int x2, .int x3, .int x4]) (rest := []) X hR mv_9_61 kh_2 (kd_lt kh_2 (by decide)) (c9_scanLetters l G N ho1 hc_26) ⟨rfl, rfl, Nat.le_of_ble_eq_true rfl, Nat.le_of_ble_eq_true rfl⟩ rfl hl.1 rfl (Nat.le_of_ble_eq_true rfl) dX9_scanOne_52 ⟨Nat.zero_le _, Nat.zero_le _⟩) (fun H locs hR => ?_)
        exact e_i X hR hr hlk hf dX9_scanOne_55
    · replace hf := z_f c_6 hf
      exact w9_scanOne_19 X hr hlk N ho1  x2 x4 σ_2 _ _ _ hf hR (lv_sub hl [0, 2, 4] rfl)
abbrev rm9_scan : Room := { frames := 5, cells := 0, slots := 0, locals := 117 }
def f9_scan_15 (N : Nat) (o1 : Nat) (x2 : Int32) : Nat → Int32 → Int32 → Mm → Option (Unit × Mm)
  | 0, _, _, _ => none
  | fu + 1, x3, x4, σ => if (401 : Int32) ≤ x4 then (
  some ((), σ)) else (
  z_b (f9_behindBlanks N o1 x3 x2 σ) fun r_4 σ_5 =>
  z_c (inB x4 401) (z_l (sI σ_5 4 (ix x4) r_4) fun σ_8 =>
  z_b (f9_scanOne N o1 r_4 x2 x4 σ_8) fun r_9 σ_10 =>
  z_c (inB x4 401) (
  if (gI σ_10 3 (ix x4)) = 0 then (
  some ((), σ_10)) else (
  z_c (inB x4 401) (
  if (gI σ_10 3 (ix x4)) = (1 : Int32) then (
  some ((), σ_10)) else (
  z_l (x4 + (1 : Int32)) fun x4_16 =>
  f9_scan_15 N o1 x2 fu r_9 x4_16 σ_10))))))
def f9_scan (N : Nat) (o1 : Nat) (x2 : Int32) (σ : Mm) : Option (Unit × Mm) :=
  z_l (sI σ 2 4 (0 : Int32)) fun σ_1 =>
  z_l (sI σ_1 2 5 (-1 : Int32)) fun σ_2 =>
  f9_scan_15 N o1 x2 N (0 : Int32) (0 : Int32) σ_2
set_option maxHeartbeats 4000000 in
set_option maxRecDepth 100000 in
theorem w9_scan_15 (X : Cx p s m args c cX9_scan 5 RX9 G) (hr : meth.sig.returnType = none) (hlk : meth.locks = false) (N : Nat) {o1 : Nat} (ho1 : kd o1 = (12, 2000)) {x2 : Int32} :
    ∀ (fu : Nat) (x3 : Int32) (x4 : Int32) (σ : Mm) (H : Heap) (locs : List Loc) (ls : Array Slot), f9_scan_15 N o1 x2 fu x3 x4 σ = some (u0, σ0) → Rp G 212 tt σ s H locs → lv_has ls 5 [(0, .ref (G.2.2 + 2)), (1, .ref (G.2.2 + o1)), (2, .int x2), (3, .int x3), (4, .int x4)] → W p l e rm9_scan s m args below meth c H locs 0 0 (MQ below (P_v G 212 tt u0 σ0) args s 0 0 (Fr G)) (F0 m 15 ls []) := by
  have hx := X.1
  have hb := X.2.1
  intro fu
  induction fu with
  | zero =>
    intro x3 x4 σ H locs ls hf hR hl
    rw [f9_scan_15] at hf
    cases hf
  | succ fu ih =>
    intro x3 x4 σ H locs ls hf hR hl
    rw [f9_scan_15] at hf
    refine lv_iload hx hb dX9_scan_15 (lv_at hl 4 rfl) ?_
    refine lv_aload_n hx hb dX9_scan_17 rfl (lv_at hl 0 rfl) ?_
    refine r_gs (t := 3) X hR fr_9_9 kh_2 (sx_9_0 kh_2) dX9_scan_18 ?_
    refine r_len (v := (401 : Int32)) X hR ka_3 (by decide) rfl dX9_scan_21 ?_
    refine lv_icmp_ge (tgt := 78) hx hb dX9_scan_22 (by decide) (fun c_3 => ?_) (fun c_3 => ?_)
    · replace hf := z_t c_3 hf
      exact e_v X hR hr hlk hf dX9_scan_78
    · replace hf := z_f c_3 hf
      refine lv_aload_n hx hb dX9_scan_25 rfl (lv_at hl 1 rfl) ?_
      refine lv_iload_n hx hb dX9_scan_26 rfl (lv_at hl 3 rfl) ?_
      refine lv_iload_n hx hb dX9_scan_27 rfl (lv_at hl 2 rfl) ?_
      obtain ⟨r_4, σ_5, hc_6, hf⟩ := z_b_e hf
      refine go_i hR (ms_run (As := [.ref (G.2.2 + o1), .int x3, .int x2]) (rest := []) X hR ms_9_46 (c9_behindBlanks l G N ho1 hc_6) ⟨rfl, rfl, Nat.le_of_ble_eq_true rfl, Nat.le_of_ble_eq_true rfl⟩ rfl hl.1 rfl (Nat.le_of_ble_eq_true rfl) dX9_scan_28 ⟨Nat.zero_le _, Nat.zero_le _⟩) (fun H locs hR => ?_)
      refine lv_istore_n (lv' := [(3, .int r_4), (0, .ref (G.2.2 + 2)), (1, .ref (G.2.2 + o1)), (2, .int x2), (4, .int x4)]) hx hb dX9_scan_31 rfl hl (by decide) rfl (fun ls hl => ?_)
      refine lv_aload_n hx hb dX9_scan_32 rfl (lv_at hl 1 rfl) ?_
      refine r_gs (t := 4) X hR fr_9_15 kh_2 (sx_9_1 kh_2) dX9_scan_33 ?_
      refine lv_iload hx hb dX9_scan_36 (lv_at hl 4 rfl) ?_
      refine lv_iload_n hx hb dX9_scan_38 rfl (lv_at hl 0 rfl) ?_
      obtain ⟨hi_7, hf⟩ := z_c_e hf
      refine r_ias X hR ka_4 hi_7 dX9_scan_39 (fun H locs σ_8 eσ_8 hR => ?_)
      replace hf := z_l_e eσ_8 hf
      refine lv_aload_n hx hb dX9_scan_40 rfl (lv_at hl 1 rfl) ?_
      refine lv_aload_n hx hb dX9_scan_41 rfl (lv_at hl 2 rfl) ?_
      refine lv_iload_n hx hb dX9_scan_42 rfl (lv_at hl 0 rfl) ?_
      refine lv_iload_n hx hb dX9_scan_43 rfl (lv_at hl 3 rfl) ?_
      refine lv_iload hx hb dX9_scan_44 (lv_at hl 4 rfl) ?_
      obtain ⟨r_9, σ_10, hc_11, hf⟩ := z_b_e hf
      refine go_i hR (mv_run (As := [.ref (G.2.2 + o1), .int r_4, .int x2, .int x4]) (rest := []) X hR mv_9_50 kh_2 (kd_lt kh_2 (by decide)) (c9_scanOne l G N ho1 hc_11) ⟨rfl, rfl, Nat.le_of_ble_eq_true rfl, Nat.le_of_ble_eq_true rfl⟩ rfl hl.1 rfl (Nat.le_of_ble_eq_true rfl) dX9_scan_46 ⟨Nat.zero_le _, Nat.zero_le _⟩) (fun H locs hR => ?_)
      refine lv_istore_n (lv' := [(3, .int r_9), (0, .ref (G.2.2 + 2)), (1, .ref (G.2.2 + o1)), (2, .int x2), (4, .int x4)]) hx hb dX9_scan_49 rfl hl (by decide) rfl (fun ls hl => ?_)
      refine lv_aload_n hx hb dX9_scan_50 rfl (lv_at hl 1 rfl) ?_
      refine r_gs (t := 3) X hR fr_9_9 kh_2 (sx_9_0 kh_2) dX9_scan_51 ?_
      refine lv_iload hx hb dX9_scan_54 (lv_at hl 4 rfl) ?_
      obtain ⟨hi_12, hf⟩ := z_c_e hf
      refine r_ial X hR ka_3 hi_12 dX9_scan_56 ?_
      refine lv_if_eq (tgt := 71) hx hb dX9_scan_57 (by decide) (fun c_13 => ?_) (fun c_13 => ?_)
      · replace hf := z_t c_13 hf
        exact e_v X hR hr hlk hf dX9_scan_71
      · replace hf := z_f c_13 hf
        refine lv_aload_n hx hb dX9_scan_60 rfl (lv_at hl 1 rfl) ?_
        refine r_gs (t := 3) X hR fr_9_9 kh_2 (sx_9_0 kh_2) dX9_scan_61 ?_
        refine lv_iload hx hb dX9_scan_64 (lv_at hl 4 rfl) ?_
        obtain ⟨hi_14, hf⟩ := z_c_e hf
        refine r_ial X hR ka_3 hi_14 dX9_scan_66 ?_
        refine lv_iconst (v := (1 : Int32)) hx hb dX9_scan_67 (by decide) ?_
        refine lv_icmp_ne (tgt := 72) hx hb dX9_scan_68 (by decide) (fun c_15 => ?_) (fun c_15 => ?_)
        · replace hf := z_f c_15 hf
          obtain ⟨x4_16, ex4_16⟩ : ∃ z : Int32, z = x4 + (1 : Int32) := ⟨_, rfl⟩
          replace hf := z_l_e ex4_16 hf
          refine lv_iinc (v := x4_16) (lv' := [(4, .int x4_16), (3, .int r_9), (0, .ref (G.2.2 + 2)), (1, .ref (G.2.2 + o1)), (2, .int x2)]) hx hb dX9_scan_72 hl (k := 4) rfl (by rw [ex4_16]; rfl) (by decide) rfl (fun ls hl => ?_)
          refine lv_goto (tgt := 15) hx hb dX9_scan_75 (by decide) ?_
          exact ih r_9 x4_16 σ_10 _ _ _ hf hR (lv_sub hl [2, 3, 4, 1, 0] rfl)
        · replace hf := z_t c_15 hf
          exact e_v X hR hr hlk hf dX9_scan_71
set_option maxHeartbeats 4000000 in
set_option maxRecDepth 100000 in
theorem c9_scan (l : Launch) (G : Gp) (N : Nat) {o1 : Nat} (ho1 : kd o1 = (12, 2000)) {x2 : Int32} {σ σ0 : Mm} {u0 : Unit} (hf : f9_scan N o1 x2 σ = some (u0, σ0)) : Met l yX9_scan (WS yX9_scan cX9_scan 5 (none)) rm9_scan (va_Pc [.ref (G.2.2 + 2), .ref (G.2.2 + o1), .int x2] (Pd G 212 tt σ)) (P_v G 212 tt u0 σ0) 0 0 (Fr G) := by
  refine ct [(0, .ref (G.2.2 + 2)), (1, .ref (G.2.2 + o1)), (2, .int x2)] rfl (by decide) (Nat.le_of_ble_eq_true rfl) ?_
  intro p e s m below meth c ls X hr hlk hR hl
  have X : Cx p s m _ c cX9_scan 5 RX9 G := X
  have hx := X.1
  have hb := X.2.1
  unfold f9_scan at hf
  refine lv_aload_n hx hb dX9_scan_0 rfl (lv_at hl 0 rfl) ?_
  refine lv_iconst (v := (0 : Int32)) hx hb dX9_scan_1 (by decide) ?_
  refine r_pi X hR pi_9_25 kh_2 dX9_scan_2 (fun H locs σ_1 eσ_1 hR => ?_)
  replace hf := z_l_e eσ_1 hf
  refine lv_aload_n hx hb dX9_scan_5 rfl (lv_at hl 0 rfl) ?_
  refine lv_iconst (v := (-1 : Int32)) hx hb dX9_scan_6 (by decide) ?_
  refine r_pi X hR pi_9_29 kh_2 dX9_scan_7 (fun H locs σ_2 eσ_2 hR => ?_)
  replace hf := z_l_e eσ_2 hf
  refine lv_iconst (v := (0 : Int32)) hx hb dX9_scan_10 (by decide) ?_
  refine lv_istore_n (lv' := [(3, .int (0 : Int32)), (0, .ref (G.2.2 + 2)), (1, .ref (G.2.2 + o1)), (2, .int x2)]) hx hb dX9_scan_11 rfl hl (by decide) rfl (fun ls hl => ?_)
  refine lv_iconst (v := (0 : Int32)) hx hb dX9_scan_12 (by decide) ?_
  refine lv_istore (lv' := [(4, .int (0 : Int32)), (3, .int (0 : Int32)), (0, .ref (G.2.2 + 2)), (1, .ref (G.2.2 + o1)), (2, .int x2)]) hx hb dX9_scan_13 hl (by decide) rfl (fun ls hl => ?_)
  exact w9_scan_15 X hr hlk N ho1  N (0 : Int32) (0 : Int32) σ_2 _ _ _ hf hR (lv_sub hl [2, 3, 4, 1, 0] rfl)
abbrev rm10_tapeFour : Room := { frames := 0, cells := 0, slots := 0, locals := 0 }
def f10_tapeFour_3 (N : Nat) (x1 : Int32) : Nat → Int32 → Mm → Option (Unit × Mm)
  | 0, _, _ => none
  | fu + 1, x2, σ => if x2 < 0 then (
  some ((), σ)) else (
  if (2000 : Int32) ≤ (gI σ 0 1) then (
  some ((), σ)) else (
  z_c (inB (gI σ 0 1) 2000) (z_l (sI σ 1 (ix (gI σ 0 1)) (vp_nar .byte (((ush x1 x2)).toInt8.toInt32))) fun σ_4 =>
  z_l (sI σ_4 0 1 ((gI σ_4 0 1) + (1 : Int32))) fun σ_5 =>
  z_l (x2 + (-8 : Int32)) fun x2_6 =>
  f10_tapeFour_3 N x1 fu x2_6 σ_5)))
def f10_tapeFour (N : Nat) (x1 : Int32) (σ : Mm) : Option (Unit × Mm) :=
  f10_tapeFour_3 N x1 N (24 : Int32) σ
set_option maxHeartbeats 4000000 in
set_option maxRecDepth 100000 in
theorem w10_tapeFour_3 (X : Cx p s m args c cX10_tapeFour 3 RX10 G) (hr : meth.sig.returnType = none) (hlk : meth.locks = false) (N : Nat) {x1 : Int32} :
    ∀ (fu : Nat) (x2 : Int32) (σ : Mm) (H : Heap) (locs : List Loc) (ls : Array Slot), f10_tapeFour_3 N x1 fu x2 σ = some (u0, σ0) → Rp G 212 tt σ s H locs → lv_has ls 3 [(0, .ref (G.2.2 + 0)), (1, .int x1), (2, .int x2)] → W p l e rm10_tapeFour s m args below meth c H locs 0 0 (MQ below (P_v G 212 tt u0 σ0) args s 0 0 (Fr G)) (F0 m 3 ls []) := by
  have hx := X.1
  have hb := X.2.1
  intro fu
  induction fu with
  | zero =>
    intro x2 σ H locs ls hf hR hl
    rw [f10_tapeFour_3] at hf
    cases hf
  | succ fu ih =>
    intro x2 σ H locs ls hf hR hl
    rw [f10_tapeFour_3] at hf
    refine lv_iload_n hx hb dX10_tapeFour_3 rfl (lv_at hl 2 rfl) ?_
    refine lv_if_lt (tgt := 46) hx hb dX10_tapeFour_4 (by decide) (fun c_1 => ?_) (fun c_1 => ?_)
    · replace hf := z_t c_1 hf
      exact e_v X hR hr hlk hf dX10_tapeFour_46
    · replace hf := z_f c_1 hf
      refine lv_aload_n hx hb dX10_tapeFour_7 rfl (lv_at hl 0 rfl) ?_
      refine r_gi X hR fi_10_13 kh_0 dX10_tapeFour_8 ?_
      refine lv_sipush (v := (2000 : Int32)) hx hb dX10_tapeFour_11 (by decide) ?_
      refine lv_icmp_ge (tgt := 46) hx hb dX10_tapeFour_14 (by decide) (fun c_2 => ?_) (fun c_2 => ?_)
      · replace hf := z_t c_2 hf
        exact e_v X hR hr hlk hf dX10_tapeFour_46
      · replace hf := z_f c_2 hf
        refine lv_aload_n hx hb dX10_tapeFour_17 rfl (lv_at hl 0 rfl) ?_
        refine r_gs (t := 1) X hR fr_10_9 kh_0 (sx_10_0 kh_0) dX10_tapeFour_18 ?_
        refine lv_aload_n hx hb dX10_tapeFour_21 rfl (lv_at hl 0 rfl) ?_
        refine r_gi X hR fi_10_13 kh_0 dX10_tapeFour_22 ?_
        refine lv_iload_n hx hb dX10_tapeFour_25 rfl (lv_at hl 1 rfl) ?_
        refine lv_iload_n hx hb dX10_tapeFour_26 rfl (lv_at hl 2 rfl) ?_
        refine lv_iushr (v := (ush x1 x2)) hx hb dX10_tapeFour_27 rfl ?_
        refine lv_i2b (v := (((ush x1 x2)).toInt8.toInt32)) hx hb dX10_tapeFour_28 rfl ?_
        obtain ⟨hi_3, hf⟩ := z_c_e hf
        refine r_bas X hR ka_1 hi_3 dX10_tapeFour_29 (fun H locs σ_4 eσ_4 hR => ?_)
        replace hf := z_l_e eσ_4 hf
        refine lv_aload_n hx hb dX10_tapeFour_30 rfl (lv_at hl 0 rfl) ?_
        refine lv_dup hx hb dX10_tapeFour_31 rfl ?_
        refine r_gi X hR fi_10_13 kh_0 dX10_tapeFour_32 ?_
        refine lv_iconst (v := (1 : Int32)) hx hb dX10_tapeFour_35 (by decide) ?_
        refine lv_iadd hx hb dX10_tapeFour_36 ?_
        refine r_pi X hR pi_10_13 kh_0 dX10_tapeFour_37 (fun H locs σ_5 eσ_5 hR => ?_)
        replace hf := z_l_e eσ_5 hf
        obtain ⟨x2_6, ex2_6⟩ : ∃ z : Int32, z = x2 + (-8 : Int32) := ⟨_, rfl⟩
        replace hf := z_l_e ex2_6 hf
        refine lv_iinc (v := x2_6) (lv' := [(2, .int x2_6), (0, .ref (G.2.2 + 0)), (1, .int x1)]) hx hb dX10_tapeFour_40 hl (k := 2) rfl (by rw [ex2_6]; rfl) (by decide) rfl (fun ls hl => ?_)
        refine lv_goto (tgt := 3) hx hb dX10_tapeFour_43 (by decide) ?_
        exact ih x2_6 σ_5 _ _ _ hf hR (lv_sub hl [1, 2, 0] rfl)
set_option maxHeartbeats 4000000 in
set_option maxRecDepth 100000 in
theorem c10_tapeFour (l : Launch) (G : Gp) (N : Nat) {x1 : Int32} {σ σ0 : Mm} {u0 : Unit} (hf : f10_tapeFour N x1 σ = some (u0, σ0)) : Met l yX10_tapeFour (WS yX10_tapeFour cX10_tapeFour 3 (none)) rm10_tapeFour (va_Pc [.ref (G.2.2 + 0), .int x1] (Pd G 212 tt σ)) (P_v G 212 tt u0 σ0) 0 0 (Fr G) := by
  refine ct [(0, .ref (G.2.2 + 0)), (1, .int x1)] rfl (by decide) (Nat.le_of_ble_eq_true rfl) ?_
  intro p e s m below meth c ls X hr hlk hR hl
  have X : Cx p s m _ c cX10_tapeFour 3 RX10 G := X
  have hx := X.1
  have hb := X.2.1
  unfold f10_tapeFour at hf
  refine lv_bipush (v := (24 : Int32)) hx hb dX10_tapeFour_0 (by decide) ?_
  refine lv_istore_n (lv' := [(2, .int (24 : Int32)), (0, .ref (G.2.2 + 0)), (1, .int x1)]) hx hb dX10_tapeFour_2 rfl hl (by decide) rfl (fun ls hl => ?_)
  exact w10_tapeFour_3 X hr hlk N  N (24 : Int32) σ _ _ _ hf hR (lv_sub hl [1, 2, 0] rfl)
abbrev rm10_feed : Room := { frames := 1, cells := 0, slots := 0, locals := 22 }
def f10_feed (N : Nat) (x1 : Int32) (x2 : Int32) (x3 : Int32) (x4 : Int32) (x5 : Int32) (σ : Mm) : Option (Int32 × Mm) :=
  if (gI σ 0 1) ≤ (1980 : Int32) then (
  z_b (f10_tapeFour N x1 σ) fun _ σ_3 =>
  z_b (f10_tapeFour N x2 σ_3) fun _ σ_6 =>
  z_b (f10_tapeFour N x3 σ_6) fun _ σ_9 =>
  z_b (f10_tapeFour N x4 σ_9) fun _ σ_12 =>
  z_b (f10_tapeFour N x5 σ_12) fun _ σ_15 =>
  some ((gI σ_15 0 1), σ_15)) else (
  some ((-1 : Int32), σ))
set_option maxHeartbeats 4000000 in
set_option maxRecDepth 100000 in
theorem c10_feed (l : Launch) (G : Gp) (N : Nat) {x1 : Int32} {x2 : Int32} {x3 : Int32} {x4 : Int32} {x5 : Int32} {σ σ0 : Mm} {r0 : Int32} (hf : f10_feed N x1 x2 x3 x4 x5 σ = some (r0, σ0)) : Met l yX10_feed (WS yX10_feed cX10_feed 6 (some .int)) rm10_feed (va_Pc [.ref (G.2.2 + 0), .int x1, .int x2, .int x3, .int x4, .int x5] (Pd G 212 tt σ)) (P_i G 212 tt r0 σ0) 0 0 (Fr G) := by
  refine ct [(0, .ref (G.2.2 + 0)), (1, .int x1), (2, .int x2), (3, .int x3), (4, .int x4), (5, .int x5)] rfl (by decide) (Nat.le_of_ble_eq_true rfl) ?_
  intro p e s m below meth c ls X hr hlk hR hl
  have X : Cx p s m _ c cX10_feed 6 RX10 G := X
  have hx := X.1
  have hb := X.2.1
  unfold f10_feed at hf
  refine lv_aload_n hx hb dX10_feed_0 rfl (lv_at hl 0 rfl) ?_
  refine r_gi X hR fi_10_13 kh_0 dX10_feed_1 ?_
  refine lv_sipush (v := (1980 : Int32)) hx hb dX10_feed_4 (by decide) ?_
  refine lv_icmp_le (tgt := 12) hx hb dX10_feed_7 (by decide) (fun c_1 => ?_) (fun c_1 => ?_)
  · replace hf := z_t c_1 hf
    refine lv_aload_n hx hb dX10_feed_12 rfl (lv_at hl 0 rfl) ?_
    refine lv_iload_n hx hb dX10_feed_13 rfl (lv_at hl 1 rfl) ?_
    obtain ⟨r_2, σ_3, hc_4, hf⟩ := z_b_e hf
    refine go_v hR (mv_run (As := [.int x1]) (rest := []) X hR mv_10_103 kh_0 (kd_lt kh_0 (by decide)) (c10_tapeFour l G N hc_4) ⟨rfl, rfl, Nat.le_of_ble_eq_true rfl, Nat.le_of_ble_eq_true rfl⟩ rfl hl.1 rfl (Nat.le_of_ble_eq_true rfl) dX10_feed_14 ⟨Nat.zero_le _, Nat.zero_le _⟩) (fun H locs hR => ?_)
    refine lv_aload_n hx hb dX10_feed_17 rfl (lv_at hl 0 rfl) ?_
    refine lv_iload_n hx hb dX10_feed_18 rfl (lv_at hl 2 rfl) ?_
    obtain ⟨r_5, σ_6, hc_7, hf⟩ := z_b_e hf
    refine go_v hR (mv_run (As := [.int x2]) (rest := []) X hR mv_10_103 kh_0 (kd_lt kh_0 (by decide)) (c10_tapeFour l G N hc_7) ⟨rfl, rfl, Nat.le_of_ble_eq_true rfl, Nat.le_of_ble_eq_true rfl⟩ rfl hl.1 rfl (Nat.le_of_ble_eq_true rfl) dX10_feed_19 ⟨Nat.zero_le _, Nat.zero_le _⟩) (fun H locs hR => ?_)
    refine lv_aload_n hx hb dX10_feed_22 rfl (lv_at hl 0 rfl) ?_
    refine lv_iload_n hx hb dX10_feed_23 rfl (lv_at hl 3 rfl) ?_
    obtain ⟨r_8, σ_9, hc_10, hf⟩ := z_b_e hf
    refine go_v hR (mv_run (As := [.int x3]) (rest := []) X hR mv_10_103 kh_0 (kd_lt kh_0 (by decide)) (c10_tapeFour l G N hc_10) ⟨rfl, rfl, Nat.le_of_ble_eq_true rfl, Nat.le_of_ble_eq_true rfl⟩ rfl hl.1 rfl (Nat.le_of_ble_eq_true rfl) dX10_feed_24 ⟨Nat.zero_le _, Nat.zero_le _⟩) (fun H locs hR => ?_)
    refine lv_aload_n hx hb dX10_feed_27 rfl (lv_at hl 0 rfl) ?_
    refine lv_iload hx hb dX10_feed_28 (lv_at hl 4 rfl) ?_
    obtain ⟨r_11, σ_12, hc_13, hf⟩ := z_b_e hf
    refine go_v hR (mv_run (As := [.int x4]) (rest := []) X hR mv_10_103 kh_0 (kd_lt kh_0 (by decide)) (c10_tapeFour l G N hc_13) ⟨rfl, rfl, Nat.le_of_ble_eq_true rfl, Nat.le_of_ble_eq_true rfl⟩ rfl hl.1 rfl (Nat.le_of_ble_eq_true rfl) dX10_feed_30 ⟨Nat.zero_le _, Nat.zero_le _⟩) (fun H locs hR => ?_)
    refine lv_aload_n hx hb dX10_feed_33 rfl (lv_at hl 0 rfl) ?_
    refine lv_iload hx hb dX10_feed_34 (lv_at hl 5 rfl) ?_
    obtain ⟨r_14, σ_15, hc_16, hf⟩ := z_b_e hf
    refine go_v hR (mv_run (As := [.int x5]) (rest := []) X hR mv_10_103 kh_0 (kd_lt kh_0 (by decide)) (c10_tapeFour l G N hc_16) ⟨rfl, rfl, Nat.le_of_ble_eq_true rfl, Nat.le_of_ble_eq_true rfl⟩ rfl hl.1 rfl (Nat.le_of_ble_eq_true rfl) dX10_feed_36 ⟨Nat.zero_le _, Nat.zero_le _⟩) (fun H locs hR => ?_)
    refine lv_aload_n hx hb dX10_feed_39 rfl (lv_at hl 0 rfl) ?_
    refine r_gi X hR fi_10_13 kh_0 dX10_feed_40 ?_
    exact e_i X hR hr hlk hf dX10_feed_43
  · replace hf := z_f c_1 hf
    refine lv_iconst (v := (-1 : Int32)) hx hb dX10_feed_10 (by decide) ?_
    exact e_i X hR hr hlk hf dX10_feed_11
abbrev rm10_back : Room := { frames := 0, cells := 0, slots := 0, locals := 0 }
def f10_back (N : Nat) (x1 : Int32) (σ : Mm) : Option (Int32 × Mm) :=
  if x1 < 0 then (
  some ((-1 : Int32), σ)) else (
  if x1 ≤ (gI σ 0 1) then (
  z_l (sI σ 0 1 ((gI σ 0 1) - x1)) fun σ_3 =>
  some ((gI σ_3 0 1), σ_3)) else (
  some ((-1 : Int32), σ)))
set_option maxHeartbeats 4000000 in
set_option maxRecDepth 100000 in
theorem c10_back (l : Launch) (G : Gp) (N : Nat) {x1 : Int32} {σ σ0 : Mm} {r0 : Int32} (hf : f10_back N x1 σ = some (r0, σ0)) : Met l yX10_back (WS yX10_back cX10_back 2 (some .int)) rm10_back (va_Pc [.ref (G.2.2 + 0), .int x1] (Pd G 212 tt σ)) (P_i G 212 tt r0 σ0) 0 0 (Fr G) := by
  refine ct [(0, .ref (G.2.2 + 0)), (1, .int x1)] rfl (by decide) (Nat.le_of_ble_eq_true rfl) ?_
  intro p e s m below meth c ls X hr hlk hR hl
  have X : Cx p s m _ c cX10_back 2 RX10 G := X
  have hx := X.1
  have hb := X.2.1
  unfold f10_back at hf
  refine lv_iload_n hx hb dX10_back_0 rfl (lv_at hl 1 rfl) ?_
  refine lv_if_lt (tgt := 12) hx hb dX10_back_1 (by decide) (fun c_1 => ?_) (fun c_1 => ?_)
  · replace hf := z_t c_1 hf
    refine lv_iconst (v := (-1 : Int32)) hx hb dX10_back_12 (by decide) ?_
    exact e_i X hR hr hlk hf dX10_back_13
  · replace hf := z_f c_1 hf
    refine lv_iload_n hx hb dX10_back_4 rfl (lv_at hl 1 rfl) ?_
    refine lv_aload_n hx hb dX10_back_5 rfl (lv_at hl 0 rfl) ?_
    refine r_gi X hR fi_10_13 kh_0 dX10_back_6 ?_
    refine lv_icmp_le (tgt := 14) hx hb dX10_back_9 (by decide) (fun c_2 => ?_) (fun c_2 => ?_)
    · replace hf := z_t c_2 hf
      refine lv_aload_n hx hb dX10_back_14 rfl (lv_at hl 0 rfl) ?_
      refine lv_dup hx hb dX10_back_15 rfl ?_
      refine r_gi X hR fi_10_13 kh_0 dX10_back_16 ?_
      refine lv_iload_n hx hb dX10_back_19 rfl (lv_at hl 1 rfl) ?_
      refine lv_isub hx hb dX10_back_20 ?_
      refine r_pi X hR pi_10_13 kh_0 dX10_back_21 (fun H locs σ_3 eσ_3 hR => ?_)
      replace hf := z_l_e eσ_3 hf
      refine lv_aload_n hx hb dX10_back_24 rfl (lv_at hl 0 rfl) ?_
      refine r_gi X hR fi_10_13 kh_0 dX10_back_25 ?_
      exact e_i X hR hr hlk hf dX10_back_28
    · replace hf := z_f c_2 hf
      refine lv_iconst (v := (-1 : Int32)) hx hb dX10_back_12 (by decide) ?_
      exact e_i X hR hr hlk hf dX10_back_13
abbrev rm10_beginWithSpareLand : Room := { frames := 2, cells := 0, slots := 0, locals := 68 }
def f10_beginWithSpareLand (N : Nat) (σ : Mm) : Option (Unit × Mm) :=
  z_r (gR σ 0 4) 3 fun t_1 =>
  z_r (gR σ 0 3) 3 fun t_3 =>
  z_l (sR σ 0 4 (some t_3)) fun σ_5 =>
  z_l (sR σ_5 0 3 (some t_1)) fun σ_6 =>
  z_l (sR σ_6 60 1 (some t_1)) fun σ_7 =>
  z_b (f1_become N 50 (t_1 + 6) σ_7) fun _ σ_9 =>
  z_b (f5_begin N 56 t_1 σ_9) fun _ σ_12 =>
  z_b (f6_forgetAll N σ_12) fun _ σ_15 =>
  z_l (sI σ_15 0 15 (0 : Int32)) fun σ_17 =>
  some ((), σ_17)
set_option maxHeartbeats 4000000 in
set_option maxRecDepth 100000 in
theorem c10_beginWithSpareLand (l : Launch) (G : Gp) (N : Nat) {σ σ0 : Mm} {u0 : Unit} (hf : f10_beginWithSpareLand N σ = some (u0, σ0)) : Met l yX10_beginWithSpareLand (WS yX10_beginWithSpareLand cX10_beginWithSpareLand 2 (none)) rm10_beginWithSpareLand (va_Pc [.ref (G.2.2 + 0)] (Pd G 212 tt σ)) (P_v G 212 tt u0 σ0) 0 0 (Fr G) := by
  refine ct [(0, .ref (G.2.2 + 0))] rfl (by decide) (Nat.le_of_ble_eq_true rfl) ?_
  intro p e s m below meth c ls X hr hlk hR hl
  have X : Cx p s m _ c cX10_beginWithSpareLand 2 RX10 G := X
  have hx := X.1
  have hb := X.2.1
  unfold f10_beginWithSpareLand at hf
  refine lv_aload_n hx hb dX10_beginWithSpareLand_0 rfl (lv_at hl 0 rfl) ?_
  obtain ⟨t_1, ht_2, kht_2, hf⟩ := z_r_e hf
  refine r_gd X hR fr_10_31 kh_0 ht_2 dX10_beginWithSpareLand_1 ?_
  refine lv_astore_n (lv' := [(1, .ref (G.2.2 + t_1)), (0, .ref (G.2.2 + 0))]) hx hb dX10_beginWithSpareLand_4 rfl hl (by decide) rfl (fun ls hl => ?_)
  refine lv_aload_n hx hb dX10_beginWithSpareLand_5 rfl (lv_at hl 1 rfl) ?_
  refine lv_aload_n hx hb dX10_beginWithSpareLand_6 rfl (lv_at hl 1 rfl) ?_
  obtain ⟨t_3, ht_4, kht_4, hf⟩ := z_r_e hf
  refine r_gd X hR fr_10_27 kh_0 ht_4 dX10_beginWithSpareLand_7 ?_
  refine r_pr X hR pr_10_31 kh_0 (sn_10_4 kh_0) dX10_beginWithSpareLand_10 (fun H locs σ_5 eσ_5 hR => ?_)
  replace hf := z_l_e eσ_5 hf
  refine lv_aload_n hx hb dX10_beginWithSpareLand_13 rfl (lv_at hl 1 rfl) ?_
  refine lv_aload_n hx hb dX10_beginWithSpareLand_14 rfl (lv_at hl 0 rfl) ?_
  refine r_pr X hR pr_10_27 kh_0 (sn_10_3 kh_0) dX10_beginWithSpareLand_15 (fun H locs σ_6 eσ_6 hR => ?_)
  replace hf := z_l_e eσ_6 hf
  refine lv_aload_n hx hb dX10_beginWithSpareLand_18 rfl (lv_at hl 1 rfl) ?_
  refine r_gs (t := 60) X hR fr_10_72 kh_0 (sx_10_10 kh_0) dX10_beginWithSpareLand_19 ?_
  refine lv_aload_n hx hb dX10_beginWithSpareLand_22 rfl (lv_at hl 0 rfl) ?_
  refine r_pr X hR pr_10_341 kh_60 (sn_0_1 kh_60) dX10_beginWithSpareLand_23 (fun H locs σ_7 eσ_7 hR => ?_)
  replace hf := z_l_e eσ_7 hf
  refine lv_aload_n hx hb dX10_beginWithSpareLand_26 rfl (lv_at hl 1 rfl) ?_
  refine r_gs (t := 50) X hR fr_10_53 kh_0 (sx_10_7 kh_0) dX10_beginWithSpareLand_27 ?_
  refine lv_aload_n hx hb dX10_beginWithSpareLand_30 rfl (lv_at hl 0 rfl) ?_
  refine r_gs (t := (t_1 + 6)) X hR fr_10_342 kht_2 (sx_3_11 kht_2) dX10_beginWithSpareLand_31 ?_
  obtain ⟨r_8, σ_9, hc_10, hf⟩ := z_b_e hf
  refine go_v hR (mv_run (As := [.ref (G.2.2 + (t_1 + 6))]) (rest := []) X hR mv_10_344 kh_50 (kd_lt kh_50 (by decide)) (c1_become l G N kh_50 (kx_3_11 kht_2) hc_10) ⟨rfl, rfl, Nat.le_of_ble_eq_true rfl, Nat.le_of_ble_eq_true rfl⟩ rfl hl.1 rfl (Nat.le_of_ble_eq_true rfl) dX10_beginWithSpareLand_34 ⟨Nat.zero_le _, Nat.zero_le _⟩) (fun H locs hR => ?_)
  refine lv_aload_n hx hb dX10_beginWithSpareLand_37 rfl (lv_at hl 1 rfl) ?_
  refine r_gs (t := 56) X hR fr_10_60 kh_0 (sx_10_8 kh_0) dX10_beginWithSpareLand_38 ?_
  refine lv_aload_n hx hb dX10_beginWithSpareLand_41 rfl (lv_at hl 0 rfl) ?_
  obtain ⟨r_11, σ_12, hc_13, hf⟩ := z_b_e hf
  refine go_v hR (mv_run (As := [.ref (G.2.2 + t_1)]) (rest := []) X hR mv_10_347 kh_56 (kd_lt kh_56 (by decide)) (c5_begin l G N kh_56 kht_2 hc_13) ⟨rfl, rfl, Nat.le_of_ble_eq_true rfl, Nat.le_of_ble_eq_true rfl⟩ rfl hl.1 rfl (Nat.le_of_ble_eq_true rfl) dX10_beginWithSpareLand_42 ⟨Nat.zero_le _, Nat.zero_le _⟩) (fun H locs hR => ?_)
  refine lv_aload_n hx hb dX10_beginWithSpareLand_45 rfl (lv_at hl 1 rfl) ?_
  refine r_gs (t := 70) X hR fr_10_86 kh_0 (sx_10_12 kh_0) dX10_beginWithSpareLand_46 ?_
  obtain ⟨r_14, σ_15, hc_16, hf⟩ := z_b_e hf
  refine go_v hR (mv_run (As := []) (rest := []) X hR mv_10_351 kh_70 (kd_lt kh_70 (by decide)) (c6_forgetAll l G N hc_16) ⟨rfl, rfl, Nat.le_of_ble_eq_true rfl, Nat.le_of_ble_eq_true rfl⟩ rfl hl.1 rfl (Nat.le_of_ble_eq_true rfl) dX10_beginWithSpareLand_49 ⟨Nat.zero_le _, Nat.zero_le _⟩) (fun H locs hR => ?_)
  refine lv_aload_n hx hb dX10_beginWithSpareLand_52 rfl (lv_at hl 1 rfl) ?_
  refine lv_iconst (v := (0 : Int32)) hx hb dX10_beginWithSpareLand_53 (by decide) ?_
  refine r_pi X hR pi_10_97 kh_0 dX10_beginWithSpareLand_54 (fun H locs σ_17 eσ_17 hR => ?_)
  replace hf := z_l_e eσ_17 hf
  exact e_v X hR hr hlk hf dX10_beginWithSpareLand_57
abbrev rm10_read : Room := { frames := 6, cells := 0, slots := 0, locals := 141 }
def f10_read (N : Nat) (σ : Mm) : Option (Int32 × Mm) :=
  z_b (f9_scan N 1 (gI σ 0 1) σ) fun _ σ_2 =>
  z_l (sI σ_2 0 1 (0 : Int32)) fun σ_4 =>
  z_r (gR σ_4 0 4) 3 fun t_5 =>
  z_b (f3_clear N t_5 σ_4) fun _ σ_8 =>
  z_r (gR σ_8 0 4) 3 fun t_10 =>
  z_b (f2_keeps N t_10 σ_8) fun r_12 σ_13 =>
  if r_12 = 0 then (
  some ((gI σ_13 2 4), σ_13)) else (
  z_r (gR σ_13 0 4) 3 fun t_16 =>
  z_b (f8_fills N t_16 σ_13) fun r_18 σ_19 =>
  if r_18 = 0 then (
  some ((gI σ_19 2 4), σ_19)) else (
  z_b (f10_beginWithSpareLand N σ_19) fun _ σ_23 =>
  some ((gI σ_23 2 4), σ_23)))
set_option maxHeartbeats 4000000 in
set_option maxRecDepth 100000 in
theorem c10_read (l : Launch) (G : Gp) (N : Nat) {σ σ0 : Mm} {r0 : Int32} (hf : f10_read N σ = some (r0, σ0)) : Met l yX10_read (WS yX10_read cX10_read 1 (some .int)) rm10_read (va_Pc [.ref (G.2.2 + 0)] (Pd G 212 tt σ)) (P_i G 212 tt r0 σ0) 0 0 (Fr G) := by
  refine ct [(0, .ref (G.2.2 + 0))] rfl (by decide) (Nat.le_of_ble_eq_true rfl) ?_
  intro p e s m below meth c ls X hr hlk hR hl
  have X : Cx p s m _ c cX10_read 1 RX10 G := X
  have hx := X.1
  have hb := X.2.1
  unfold f10_read at hf
  refine lv_aload_n hx hb dX10_read_0 rfl (lv_at hl 0 rfl) ?_
  refine r_gs (t := 2) X hR fr_10_20 kh_0 (sx_10_2 kh_0) dX10_read_1 ?_
  refine lv_aload_n hx hb dX10_read_4 rfl (lv_at hl 0 rfl) ?_
  refine r_gs (t := 1) X hR fr_10_9 kh_0 (sx_10_0 kh_0) dX10_read_5 ?_
  refine lv_aload_n hx hb dX10_read_8 rfl (lv_at hl 0 rfl) ?_
  refine r_gi X hR fi_10_13 kh_0 dX10_read_9 ?_
  obtain ⟨r_1, σ_2, hc_3, hf⟩ := z_b_e hf
  refine go_v hR (mv_run (As := [.ref (G.2.2 + 1), .int (gI σ 0 1)]) (rest := []) X hR mv_10_107 kh_2 (kd_lt kh_2 (by decide)) (c9_scan l G N ka_1 hc_3) ⟨rfl, rfl, Nat.le_of_ble_eq_true rfl, Nat.le_of_ble_eq_true rfl⟩ rfl hl.1 rfl (Nat.le_of_ble_eq_true rfl) dX10_read_12 ⟨Nat.zero_le _, Nat.zero_le _⟩) (fun H locs hR => ?_)
  refine lv_aload_n hx hb dX10_read_15 rfl (lv_at hl 0 rfl) ?_
  refine lv_iconst (v := (0 : Int32)) hx hb dX10_read_16 (by decide) ?_
  refine r_pi X hR pi_10_13 kh_0 dX10_read_17 (fun H locs σ_4 eσ_4 hR => ?_)
  replace hf := z_l_e eσ_4 hf
  refine lv_aload_n hx hb dX10_read_20 rfl (lv_at hl 0 rfl) ?_
  obtain ⟨t_5, ht_6, kht_6, hf⟩ := z_r_e hf
  refine r_gd X hR fr_10_31 kh_0 ht_6 dX10_read_21 ?_
  obtain ⟨r_7, σ_8, hc_9, hf⟩ := z_b_e hf
  refine go_v hR (mv_run (As := []) (rest := []) X hR mv_10_111 kht_6 (kd_lt kht_6 (by decide)) (c3_clear l G N kht_6 hc_9) ⟨rfl, rfl, Nat.le_of_ble_eq_true rfl, Nat.le_of_ble_eq_true rfl⟩ rfl hl.1 rfl (Nat.le_of_ble_eq_true rfl) dX10_read_24 ⟨Nat.zero_le _, Nat.zero_le _⟩) (fun H locs hR => ?_)
  refine lv_aload_n hx hb dX10_read_27 rfl (lv_at hl 0 rfl) ?_
  refine r_gs (t := 47) X hR fr_10_39 kh_0 (sx_10_5 kh_0) dX10_read_28 ?_
  refine lv_aload_n hx hb dX10_read_31 rfl (lv_at hl 0 rfl) ?_
  obtain ⟨t_10, ht_11, kht_11, hf⟩ := z_r_e hf
  refine r_gd X hR fr_10_31 kh_0 ht_11 dX10_read_32 ?_
  obtain ⟨r_12, σ_13, hc_14, hf⟩ := z_b_e hf
  refine go_i hR (mv_run (As := [.ref (G.2.2 + t_10)]) (rest := []) X hR mv_10_114 kh_47 (kd_lt kh_47 (by decide)) (c2_keeps l G N kht_11 hc_14) ⟨rfl, rfl, Nat.le_of_ble_eq_true rfl, Nat.le_of_ble_eq_true rfl⟩ rfl hl.1 rfl (Nat.le_of_ble_eq_true rfl) dX10_read_35 ⟨Nat.zero_le _, Nat.zero_le _⟩) (fun H locs hR => ?_)
  refine lv_if_eq (tgt := 59) hx hb dX10_read_38 (by decide) (fun c_15 => ?_) (fun c_15 => ?_)
  · replace hf := z_t c_15 hf
    refine lv_aload_n hx hb dX10_read_59 rfl (lv_at hl 0 rfl) ?_
    refine r_gs (t := 2) X hR fr_10_20 kh_0 (sx_10_2 kh_0) dX10_read_60 ?_
    refine r_gi X hR fi_10_124 kh_2 dX10_read_63 ?_
    exact e_i X hR hr hlk hf dX10_read_66
  · replace hf := z_f c_15 hf
    refine lv_aload_n hx hb dX10_read_41 rfl (lv_at hl 0 rfl) ?_
    refine r_gs (t := 49) X hR fr_10_46 kh_0 (sx_10_6 kh_0) dX10_read_42 ?_
    refine lv_aload_n hx hb dX10_read_45 rfl (lv_at hl 0 rfl) ?_
    obtain ⟨t_16, ht_17, kht_17, hf⟩ := z_r_e hf
    refine r_gd X hR fr_10_31 kh_0 ht_17 dX10_read_46 ?_
    obtain ⟨r_18, σ_19, hc_20, hf⟩ := z_b_e hf
    refine go_i hR (mv_run (As := [.ref (G.2.2 + t_16)]) (rest := []) X hR mv_10_118 kh_49 (kd_lt kh_49 (by decide)) (c8_fills l G N kht_17 hc_20) ⟨rfl, rfl, Nat.le_of_ble_eq_true rfl, Nat.le_of_ble_eq_true rfl⟩ rfl hl.1 rfl (Nat.le_of_ble_eq_true rfl) dX10_read_49 ⟨Nat.zero_le _, Nat.zero_le _⟩) (fun H locs hR => ?_)
    refine lv_if_eq (tgt := 59) hx hb dX10_read_52 (by decide) (fun c_21 => ?_) (fun c_21 => ?_)
    · replace hf := z_t c_21 hf
      refine lv_aload_n hx hb dX10_read_59 rfl (lv_at hl 0 rfl) ?_
      refine r_gs (t := 2) X hR fr_10_20 kh_0 (sx_10_2 kh_0) dX10_read_60 ?_
      refine r_gi X hR fi_10_124 kh_2 dX10_read_63 ?_
      exact e_i X hR hr hlk hf dX10_read_66
    · replace hf := z_f c_21 hf
      refine lv_aload_n hx hb dX10_read_55 rfl (lv_at hl 0 rfl) ?_
      obtain ⟨r_22, σ_23, hc_24, hf⟩ := z_b_e hf
      refine go_v hR (mv_run (As := []) (rest := []) X hR mv_10_121 kh_0 (kd_lt kh_0 (by decide)) (c10_beginWithSpareLand l G N hc_24) ⟨rfl, rfl, Nat.le_of_ble_eq_true rfl, Nat.le_of_ble_eq_true rfl⟩ rfl hl.1 rfl (Nat.le_of_ble_eq_true rfl) dX10_read_56 ⟨Nat.zero_le _, Nat.zero_le _⟩) (fun H locs hR => ?_)
      refine lv_aload_n hx hb dX10_read_59 rfl (lv_at hl 0 rfl) ?_
      refine r_gs (t := 2) X hR fr_10_20 kh_0 (sx_10_2 kh_0) dX10_read_60 ?_
      refine r_gi X hR fi_10_124 kh_2 dX10_read_63 ?_
      exact e_i X hR hr hlk hf dX10_read_66
abbrev rm10_place : Room := { frames := 0, cells := 0, slots := 0, locals := 0 }
def f10_place (N : Nat) (σ : Mm) : Option (Int32 × Mm) :=
  some ((gI σ 2 5), σ)
set_option maxHeartbeats 4000000 in
set_option maxRecDepth 100000 in
theorem c10_place (l : Launch) (G : Gp) (N : Nat) {σ σ0 : Mm} {r0 : Int32} (hf : f10_place N σ = some (r0, σ0)) : Met l yX10_place (WS yX10_place cX10_place 1 (some .int)) rm10_place (va_Pc [.ref (G.2.2 + 0)] (Pd G 212 tt σ)) (P_i G 212 tt r0 σ0) 0 0 (Fr G) := by
  refine ct [(0, .ref (G.2.2 + 0))] rfl (by decide) (Nat.le_of_ble_eq_true rfl) ?_
  intro p e s m below meth c ls X hr hlk hR hl
  have X : Cx p s m _ c cX10_place 1 RX10 G := X
  have hx := X.1
  have hb := X.2.1
  unfold f10_place at hf
  refine lv_aload_n hx hb dX10_place_0 rfl (lv_at hl 0 rfl) ?_
  refine r_gs (t := 2) X hR fr_10_20 kh_0 (sx_10_2 kh_0) dX10_place_1 ?_
  refine r_gi X hR fi_10_127 kh_2 dX10_place_4 ?_
  exact e_i X hR hr hlk hf dX10_place_7
abbrev rm10_noPlot : Room := { frames := 0, cells := 0, slots := 0, locals := 0 }
def f10_noPlot (N : Nat) (x1 : Int32) (σ : Mm) : Option (Int32 × Mm) :=
  if x1 < 0 then (
  some ((1 : Int32), σ)) else (
  z_r (gR σ 0 3) 3 fun t_2 =>
  if x1 < (gI σ t_2 1) then (
  some ((0 : Int32), σ)) else (
  some ((1 : Int32), σ)))
set_option maxHeartbeats 4000000 in
set_option maxRecDepth 100000 in
theorem c10_noPlot (l : Launch) (G : Gp) (N : Nat) {x1 : Int32} {σ σ0 : Mm} {r0 : Int32} (hf : f10_noPlot N x1 σ = some (r0, σ0)) : Met l yX10_noPlot (WS yX10_noPlot cX10_noPlot 2 (some .boolean)) rm10_noPlot (va_Pc [.ref (G.2.2 + 0), .int x1] (Pd G 212 tt σ)) (P_i G 212 tt r0 σ0) 0 0 (Fr G) := by
  refine ct [(0, .ref (G.2.2 + 0)), (1, .int x1)] rfl (by decide) (Nat.le_of_ble_eq_true rfl) ?_
  intro p e s m below meth c ls X hr hlk hR hl
  have X : Cx p s m _ c cX10_noPlot 2 RX10 G := X
  have hx := X.1
  have hb := X.2.1
  unfold f10_noPlot at hf
  refine lv_iload_n hx hb dX10_noPlot_0 rfl (lv_at hl 1 rfl) ?_
  refine lv_if_lt (tgt := 15) hx hb dX10_noPlot_1 (by decide) (fun c_1 => ?_) (fun c_1 => ?_)
  · replace hf := z_t c_1 hf
    refine lv_iconst (v := (1 : Int32)) hx hb dX10_noPlot_15 (by decide) ?_
    refine lv_goto (tgt := 20) hx hb dX10_noPlot_16 (by decide) ?_
    exact e_z X hR hr hlk rfl hf dX10_noPlot_20
  · replace hf := z_f c_1 hf
    refine lv_iload_n hx hb dX10_noPlot_4 rfl (lv_at hl 1 rfl) ?_
    refine lv_aload_n hx hb dX10_noPlot_5 rfl (lv_at hl 0 rfl) ?_
    obtain ⟨t_2, ht_3, kht_3, hf⟩ := z_r_e hf
    refine r_gd X hR fr_10_27 kh_0 ht_3 dX10_noPlot_6 ?_
    refine r_gi X hR fi_10_242 kht_3 dX10_noPlot_9 ?_
    refine lv_icmp_lt (tgt := 19) hx hb dX10_noPlot_12 (by decide) (fun c_4 => ?_) (fun c_4 => ?_)
    · replace hf := z_t c_4 hf
      refine lv_iconst (v := (0 : Int32)) hx hb dX10_noPlot_19 (by decide) ?_
      exact e_z X hR hr hlk rfl hf dX10_noPlot_20
    · replace hf := z_f c_4 hf
      refine lv_iconst (v := (1 : Int32)) hx hb dX10_noPlot_15 (by decide) ?_
      refine lv_goto (tgt := 20) hx hb dX10_noPlot_16 (by decide) ?_
      exact e_z X hR hr hlk rfl hf dX10_noPlot_20
abbrev rm10_plot : Room := { frames := 5, cells := 0, slots := 0, locals := 128 }
def f10_plot (N : Nat) (x1 : Int32) (x2 : Int32) (σ : Mm) : Option (Int32 × Mm) :=
  z_b (f10_noPlot N x1 σ) fun r_1 σ_2 =>
  if r_1 = 0 then (
  if x2 = (0 : Int32) then (
  z_r (gR σ_2 0 3) 3 fun t_5 =>
  z_c (inB x1 7) (
  some ((gI σ_2 (t_5 + 1) (ix x1)), σ_2))) else (
  if x2 = (1 : Int32) then (
  z_r (gR σ_2 0 3) 3 fun t_9 =>
  z_c (inB x1 7) (
  some ((gI σ_2 (t_9 + 2) (ix x1)), σ_2))) else (
  if x2 = (2 : Int32) then (
  z_r (gR σ_2 0 3) 3 fun t_13 =>
  z_c (inB x1 7) (
  some ((gI σ_2 (t_13 + 3) (ix x1)), σ_2))) else (
  if x2 = (3 : Int32) then (
  z_b (f0_owner N 56 x1 σ_2) fun r_17 σ_18 =>
  some (r_17, σ_18)) else (
  if x2 = (4 : Int32) then (
  z_b (f0_counting N 56 x1 σ_2) fun r_21 σ_22 =>
  some ((bitC r_21), σ_22)) else (
  some ((-1 : Int32), σ_2))))))) else (
  some ((-1 : Int32), σ_2))
set_option maxHeartbeats 4000000 in
set_option maxRecDepth 100000 in
theorem c10_plot (l : Launch) (G : Gp) (N : Nat) {x1 : Int32} {x2 : Int32} {σ σ0 : Mm} {r0 : Int32} (hf : f10_plot N x1 x2 σ = some (r0, σ0)) : Met l yX10_plot (WS yX10_plot cX10_plot 3 (some .int)) rm10_plot (va_Pc [.ref (G.2.2 + 0), .int x1, .int x2] (Pd G 212 tt σ)) (P_i G 212 tt r0 σ0) 0 0 (Fr G) := by
  refine ct [(0, .ref (G.2.2 + 0)), (1, .int x1), (2, .int x2)] rfl (by decide) (Nat.le_of_ble_eq_true rfl) ?_
  intro p e s m below meth c ls X hr hlk hR hl
  have X : Cx p s m _ c cX10_plot 3 RX10 G := X
  have hx := X.1
  have hb := X.2.1
  unfold f10_plot at hf
  refine lv_aload_n hx hb dX10_plot_0 rfl (lv_at hl 0 rfl) ?_
  refine lv_iload_n hx hb dX10_plot_1 rfl (lv_at hl 1 rfl) ?_
  obtain ⟨r_1, σ_2, hc_3, hf⟩ := z_b_e hf
  refine go_i hR (mv_run (As := [.int x1]) (rest := []) X hR mv_10_130 kh_0 (kd_lt kh_0 (by decide)) (c10_noPlot l G N hc_3) ⟨rfl, rfl, Nat.le_of_ble_eq_true rfl, Nat.le_of_ble_eq_true rfl⟩ rfl hl.1 rfl (Nat.le_of_ble_eq_true rfl) dX10_plot_2 ⟨Nat.zero_le _, Nat.zero_le _⟩) (fun H locs hR => ?_)
  refine lv_if_eq (tgt := 10) hx hb dX10_plot_5 (by decide) (fun c_4 => ?_) (fun c_4 => ?_)
  · replace hf := z_t c_4 hf
    refine lv_iload_n hx hb dX10_plot_10 rfl (lv_at hl 2 rfl) ?_
    by_cases c_8 : x2 = (0 : Int32)
    · replace hf := z_t c_8 hf
      refine lv_tableIn (off := 33) (tgt := 44) hx hb dX10_plot_11 (by rw [c_8]; decide) (by rw [c_8]; decide) (by rw [c_8]; rfl) (by decide) ?_
      refine lv_aload_n hx hb dX10_plot_44 rfl (lv_at hl 0 rfl) ?_
      obtain ⟨t_5, ht_6, kht_6, hf⟩ := z_r_e hf
      refine r_gd X hR fr_10_27 kh_0 ht_6 dX10_plot_45 ?_
      refine r_gs (t := (t_5 + 1)) X hR fr_10_134 kht_6 (sx_3_6 kht_6) dX10_plot_48 ?_
      refine lv_iload_n hx hb dX10_plot_51 rfl (lv_at hl 1 rfl) ?_
      obtain ⟨hi_7, hf⟩ := z_c_e hf
      refine r_ial X hR (kx_3_6 kht_6) hi_7 dX10_plot_52 ?_
      exact e_i X hR hr hlk hf dX10_plot_53
    replace hf := z_f c_8 hf
    by_cases c_12 : x2 = (1 : Int32)
    · replace hf := z_t c_12 hf
      refine lv_tableIn (off := 43) (tgt := 54) hx hb dX10_plot_11 (by rw [c_12]; decide) (by rw [c_12]; decide) (by rw [c_12]; rfl) (by decide) ?_
      refine lv_aload_n hx hb dX10_plot_54 rfl (lv_at hl 0 rfl) ?_
      obtain ⟨t_9, ht_10, kht_10, hf⟩ := z_r_e hf
      refine r_gd X hR fr_10_27 kh_0 ht_10 dX10_plot_55 ?_
      refine r_gs (t := (t_9 + 2)) X hR fr_10_137 kht_10 (sx_3_7 kht_10) dX10_plot_58 ?_
      refine lv_iload_n hx hb dX10_plot_61 rfl (lv_at hl 1 rfl) ?_
      obtain ⟨hi_11, hf⟩ := z_c_e hf
      refine r_ial X hR (kx_3_7 kht_10) hi_11 dX10_plot_62 ?_
      exact e_i X hR hr hlk hf dX10_plot_63
    replace hf := z_f c_12 hf
    by_cases c_16 : x2 = (2 : Int32)
    · replace hf := z_t c_16 hf
      refine lv_tableIn (off := 53) (tgt := 64) hx hb dX10_plot_11 (by rw [c_16]; decide) (by rw [c_16]; decide) (by rw [c_16]; rfl) (by decide) ?_
      refine lv_aload_n hx hb dX10_plot_64 rfl (lv_at hl 0 rfl) ?_
      obtain ⟨t_13, ht_14, kht_14, hf⟩ := z_r_e hf
      refine r_gd X hR fr_10_27 kh_0 ht_14 dX10_plot_65 ?_
      refine r_gs (t := (t_13 + 3)) X hR fr_10_140 kht_14 (sx_3_8 kht_14) dX10_plot_68 ?_
      refine lv_iload_n hx hb dX10_plot_71 rfl (lv_at hl 1 rfl) ?_
      obtain ⟨hi_15, hf⟩ := z_c_e hf
      refine r_ial X hR (kx_3_8 kht_14) hi_15 dX10_plot_72 ?_
      exact e_i X hR hr hlk hf dX10_plot_73
    replace hf := z_f c_16 hf
    by_cases c_20 : x2 = (3 : Int32)
    · replace hf := z_t c_20 hf
      refine lv_tableIn (off := 63) (tgt := 74) hx hb dX10_plot_11 (by rw [c_20]; decide) (by rw [c_20]; decide) (by rw [c_20]; rfl) (by decide) ?_
      refine lv_aload_n hx hb dX10_plot_74 rfl (lv_at hl 0 rfl) ?_
      refine r_gs (t := 60) X hR fr_10_72 kh_0 (sx_10_10 kh_0) dX10_plot_75 ?_
      refine lv_aload_n hx hb dX10_plot_78 rfl (lv_at hl 0 rfl) ?_
      refine r_gs (t := 56) X hR fr_10_60 kh_0 (sx_10_8 kh_0) dX10_plot_79 ?_
      refine lv_iload_n hx hb dX10_plot_82 rfl (lv_at hl 1 rfl) ?_
      obtain ⟨r_17, σ_18, hc_19, hf⟩ := z_b_e hf
      refine go_i hR (mv_run (As := [.ref (G.2.2 + 56), .int x1]) (rest := []) X hR mv_10_143 kh_60 (kd_lt kh_60 (by decide)) (c0_owner l G N kh_56 hc_19) ⟨rfl, rfl, Nat.le_of_ble_eq_true rfl, Nat.le_of_ble_eq_true rfl⟩ rfl hl.1 rfl (Nat.le_of_ble_eq_true rfl) dX10_plot_83 ⟨Nat.zero_le _, Nat.zero_le _⟩) (fun H locs hR => ?_)
      exact e_i X hR hr hlk hf dX10_plot_86
    replace hf := z_f c_20 hf
    by_cases c_24 : x2 = (4 : Int32)
    · replace hf := z_t c_24 hf
      refine lv_tableIn (off := 76) (tgt := 87) hx hb dX10_plot_11 (by rw [c_24]; decide) (by rw [c_24]; decide) (by rw [c_24]; rfl) (by decide) ?_
      refine lv_aload_n hx hb dX10_plot_87 rfl (lv_at hl 0 rfl) ?_
      refine r_gs (t := 60) X hR fr_10_72 kh_0 (sx_10_10 kh_0) dX10_plot_88 ?_
      refine lv_aload_n hx hb dX10_plot_91 rfl (lv_at hl 0 rfl) ?_
      refine r_gs (t := 56) X hR fr_10_60 kh_0 (sx_10_8 kh_0) dX10_plot_92 ?_
      refine lv_iload_n hx hb dX10_plot_95 rfl (lv_at hl 1 rfl) ?_
      obtain ⟨r_21, σ_22, hc_23, hf⟩ := z_b_e hf
      refine go_i hR (mv_run (As := [.ref (G.2.2 + 56), .int x1]) (rest := []) X hR mv_10_147 kh_60 (kd_lt kh_60 (by decide)) (c0_counting l G N kh_56 hc_23) ⟨rfl, rfl, Nat.le_of_ble_eq_true rfl, Nat.le_of_ble_eq_true rfl⟩ rfl hl.1 rfl (Nat.le_of_ble_eq_true rfl) dX10_plot_96 ⟨Nat.zero_le _, Nat.zero_le _⟩) (fun H locs hR => ?_)
      refine go_i hR (ms_run (As := [.int r_21]) (rest := []) X hR jms_10_150 (cJ_bitC l G) ⟨rfl, rfl, Nat.le_of_ble_eq_true rfl, Nat.le_of_ble_eq_true rfl⟩ rfl hl.1 rfl (Nat.le_of_ble_eq_true rfl) dX10_plot_99 ⟨Nat.zero_le _, Nat.zero_le _⟩) (fun H locs hR => ?_)
      exact e_i X hR hr hlk hf dX10_plot_102
    replace hf := z_f c_24 hf
    refine lv_tableOut (tgt := 103) hx hb dX10_plot_11 (sw_out x2 0 5 (by decide) (by decide) (fun j hj => ?_)) (by decide) ?_
    · rcases (show j = 0 ∨ j = 1 ∨ j = 2 ∨ j = 3 ∨ j = 4 by omega) with rfl | rfl | rfl | rfl | rfl
      · exact fun h => c_8 (h.trans (by decide))
      · exact fun h => c_12 (h.trans (by decide))
      · exact fun h => c_16 (h.trans (by decide))
      · exact fun h => c_20 (h.trans (by decide))
      · exact fun h => c_24 (h.trans (by decide))
    · refine lv_iconst (v := (-1 : Int32)) hx hb dX10_plot_103 (by decide) ?_
      exact e_i X hR hr hlk hf dX10_plot_104
  · replace hf := z_f c_4 hf
    refine lv_iconst (v := (-1 : Int32)) hx hb dX10_plot_8 (by decide) ?_
    exact e_i X hR hr hlk hf dX10_plot_9
abbrev rm10_noWitness : Room := { frames := 0, cells := 0, slots := 0, locals := 0 }
def f10_noWitness (N : Nat) (x1 : Int32) (σ : Mm) : Option (Int32 × Mm) :=
  if x1 < 0 then (
  some ((1 : Int32), σ)) else (
  z_r (gR σ 0 3) 3 fun t_2 =>
  if x1 < (gI σ t_2 2) then (
  some ((0 : Int32), σ)) else (
  some ((1 : Int32), σ)))
set_option maxHeartbeats 4000000 in
set_option maxRecDepth 100000 in
theorem c10_noWitness (l : Launch) (G : Gp) (N : Nat) {x1 : Int32} {σ σ0 : Mm} {r0 : Int32} (hf : f10_noWitness N x1 σ = some (r0, σ0)) : Met l yX10_noWitness (WS yX10_noWitness cX10_noWitness 2 (some .boolean)) rm10_noWitness (va_Pc [.ref (G.2.2 + 0), .int x1] (Pd G 212 tt σ)) (P_i G 212 tt r0 σ0) 0 0 (Fr G) := by
  refine ct [(0, .ref (G.2.2 + 0)), (1, .int x1)] rfl (by decide) (Nat.le_of_ble_eq_true rfl) ?_
  intro p e s m below meth c ls X hr hlk hR hl
  have X : Cx p s m _ c cX10_noWitness 2 RX10 G := X
  have hx := X.1
  have hb := X.2.1
  unfold f10_noWitness at hf
  refine lv_iload_n hx hb dX10_noWitness_0 rfl (lv_at hl 1 rfl) ?_
  refine lv_if_lt (tgt := 15) hx hb dX10_noWitness_1 (by decide) (fun c_1 => ?_) (fun c_1 => ?_)
  · replace hf := z_t c_1 hf
    refine lv_iconst (v := (1 : Int32)) hx hb dX10_noWitness_15 (by decide) ?_
    refine lv_goto (tgt := 20) hx hb dX10_noWitness_16 (by decide) ?_
    exact e_z X hR hr hlk rfl hf dX10_noWitness_20
  · replace hf := z_f c_1 hf
    refine lv_iload_n hx hb dX10_noWitness_4 rfl (lv_at hl 1 rfl) ?_
    refine lv_aload_n hx hb dX10_noWitness_5 rfl (lv_at hl 0 rfl) ?_
    obtain ⟨t_2, ht_3, kht_3, hf⟩ := z_r_e hf
    refine r_gd X hR fr_10_27 kh_0 ht_3 dX10_noWitness_6 ?_
    refine r_gi X hR fi_10_209 kht_3 dX10_noWitness_9 ?_
    refine lv_icmp_lt (tgt := 19) hx hb dX10_noWitness_12 (by decide) (fun c_4 => ?_) (fun c_4 => ?_)
    · replace hf := z_t c_4 hf
      refine lv_iconst (v := (0 : Int32)) hx hb dX10_noWitness_19 (by decide) ?_
      exact e_z X hR hr hlk rfl hf dX10_noWitness_20
    · replace hf := z_f c_4 hf
      refine lv_iconst (v := (1 : Int32)) hx hb dX10_noWitness_15 (by decide) ?_
      refine lv_goto (tgt := 20) hx hb dX10_noWitness_16 (by decide) ?_
      exact e_z X hR hr hlk rfl hf dX10_noWitness_20
abbrev rm10_witness : Room := { frames := 4, cells := 0, slots := 0, locals := 105 }
def f10_witness (N : Nat) (x1 : Int32) (x2 : Int32) (σ : Mm) : Option (Int32 × Mm) :=
  z_b (f10_noWitness N x1 σ) fun r_1 σ_2 =>
  if r_1 = 0 then (
  if x2 = (0 : Int32) then (
  z_c (inB x1 7) (
  some ((gI σ_2 57 (ix x1)), σ_2))) else (
  if x2 = (1 : Int32) then (
  z_r (gR σ_2 0 3) 3 fun t_7 =>
  z_c (inB x1 7) (
  some ((gI σ_2 (t_7 + 5) (ix x1)), σ_2))) else (
  if x2 = (2 : Int32) then (
  some ((((gI σ_2 56 1) >>> (x1 &&& 31)) &&& (1 : Int32)), σ_2)) else (
  if x2 = (3 : Int32) then (
  z_b (f0_swornToBy N 56 x1 σ_2) fun r_12 σ_13 =>
  some ((bitC r_12), σ_13)) else (
  if x2 = (4 : Int32) then (
  z_b (f0_deathIn100 N 56 x1 σ_2) fun r_16 σ_17 =>
  some (r_16, σ_17)) else (
  some ((-1 : Int32), σ_2))))))) else (
  some ((-1 : Int32), σ_2))
set_option maxHeartbeats 4000000 in
set_option maxRecDepth 100000 in
theorem c10_witness (l : Launch) (G : Gp) (N : Nat) {x1 : Int32} {x2 : Int32} {σ σ0 : Mm} {r0 : Int32} (hf : f10_witness N x1 x2 σ = some (r0, σ0)) : Met l yX10_witness (WS yX10_witness cX10_witness 3 (some .int)) rm10_witness (va_Pc [.ref (G.2.2 + 0), .int x1, .int x2] (Pd G 212 tt σ)) (P_i G 212 tt r0 σ0) 0 0 (Fr G) := by
  refine ct [(0, .ref (G.2.2 + 0)), (1, .int x1), (2, .int x2)] rfl (by decide) (Nat.le_of_ble_eq_true rfl) ?_
  intro p e s m below meth c ls X hr hlk hR hl
  have X : Cx p s m _ c cX10_witness 3 RX10 G := X
  have hx := X.1
  have hb := X.2.1
  unfold f10_witness at hf
  refine lv_aload_n hx hb dX10_witness_0 rfl (lv_at hl 0 rfl) ?_
  refine lv_iload_n hx hb dX10_witness_1 rfl (lv_at hl 1 rfl) ?_
  obtain ⟨r_1, σ_2, hc_3, hf⟩ := z_b_e hf
  refine go_i hR (mv_run (As := [.int x1]) (rest := []) X hR mv_10_156 kh_0 (kd_lt kh_0 (by decide)) (c10_noWitness l G N hc_3) ⟨rfl, rfl, Nat.le_of_ble_eq_true rfl, Nat.le_of_ble_eq_true rfl⟩ rfl hl.1 rfl (Nat.le_of_ble_eq_true rfl) dX10_witness_2 ⟨Nat.zero_le _, Nat.zero_le _⟩) (fun H locs hR => ?_)
  refine lv_if_eq (tgt := 10) hx hb dX10_witness_5 (by decide) (fun c_4 => ?_) (fun c_4 => ?_)
  · replace hf := z_t c_4 hf
    refine lv_iload_n hx hb dX10_witness_10 rfl (lv_at hl 2 rfl) ?_
    by_cases c_6 : x2 = (0 : Int32)
    · replace hf := z_t c_6 hf
      refine lv_tableIn (off := 33) (tgt := 44) hx hb dX10_witness_11 (by rw [c_6]; decide) (by rw [c_6]; decide) (by rw [c_6]; rfl) (by decide) ?_
      refine lv_aload_n hx hb dX10_witness_44 rfl (lv_at hl 0 rfl) ?_
      refine r_gs (t := 56) X hR fr_10_60 kh_0 (sx_10_8 kh_0) dX10_witness_45 ?_
      refine r_gs (t := 57) X hR fr_10_159 kh_56 (sx_5_4 kh_56) dX10_witness_48 ?_
      refine lv_iload_n hx hb dX10_witness_51 rfl (lv_at hl 1 rfl) ?_
      obtain ⟨hi_5, hf⟩ := z_c_e hf
      refine r_ial X hR ka_57 hi_5 dX10_witness_52 ?_
      exact e_i X hR hr hlk hf dX10_witness_53
    replace hf := z_f c_6 hf
    by_cases c_10 : x2 = (1 : Int32)
    · replace hf := z_t c_10 hf
      refine lv_tableIn (off := 43) (tgt := 54) hx hb dX10_witness_11 (by rw [c_10]; decide) (by rw [c_10]; decide) (by rw [c_10]; rfl) (by decide) ?_
      refine lv_aload_n hx hb dX10_witness_54 rfl (lv_at hl 0 rfl) ?_
      obtain ⟨t_7, ht_8, kht_8, hf⟩ := z_r_e hf
      refine r_gd X hR fr_10_27 kh_0 ht_8 dX10_witness_55 ?_
      refine r_gs (t := (t_7 + 5)) X hR fr_10_162 kht_8 (sx_3_10 kht_8) dX10_witness_58 ?_
      refine lv_iload_n hx hb dX10_witness_61 rfl (lv_at hl 1 rfl) ?_
      obtain ⟨hi_9, hf⟩ := z_c_e hf
      refine r_ial X hR (kx_3_10 kht_8) hi_9 dX10_witness_62 ?_
      exact e_i X hR hr hlk hf dX10_witness_63
    replace hf := z_f c_10 hf
    by_cases c_11 : x2 = (2 : Int32)
    · replace hf := z_t c_11 hf
      refine lv_tableIn (off := 53) (tgt := 64) hx hb dX10_witness_11 (by rw [c_11]; decide) (by rw [c_11]; decide) (by rw [c_11]; rfl) (by decide) ?_
      refine lv_aload_n hx hb dX10_witness_64 rfl (lv_at hl 0 rfl) ?_
      refine r_gs (t := 56) X hR fr_10_60 kh_0 (sx_10_8 kh_0) dX10_witness_65 ?_
      refine r_gi X hR fi_10_165 kh_56 dX10_witness_68 ?_
      refine lv_iload_n hx hb dX10_witness_71 rfl (lv_at hl 1 rfl) ?_
      refine lv_ishr hx hb dX10_witness_72 ?_
      refine lv_iconst (v := (1 : Int32)) hx hb dX10_witness_73 (by decide) ?_
      refine lv_iand hx hb dX10_witness_74 ?_
      exact e_i X hR hr hlk hf dX10_witness_75
    replace hf := z_f c_11 hf
    by_cases c_15 : x2 = (3 : Int32)
    · replace hf := z_t c_15 hf
      refine lv_tableIn (off := 65) (tgt := 76) hx hb dX10_witness_11 (by rw [c_15]; decide) (by rw [c_15]; decide) (by rw [c_15]; rfl) (by decide) ?_
      refine lv_aload_n hx hb dX10_witness_76 rfl (lv_at hl 0 rfl) ?_
      refine r_gs (t := 60) X hR fr_10_72 kh_0 (sx_10_10 kh_0) dX10_witness_77 ?_
      refine lv_aload_n hx hb dX10_witness_80 rfl (lv_at hl 0 rfl) ?_
      refine r_gs (t := 56) X hR fr_10_60 kh_0 (sx_10_8 kh_0) dX10_witness_81 ?_
      refine lv_iload_n hx hb dX10_witness_84 rfl (lv_at hl 1 rfl) ?_
      obtain ⟨r_12, σ_13, hc_14, hf⟩ := z_b_e hf
      refine go_i hR (mv_run (As := [.ref (G.2.2 + 56), .int x1]) (rest := []) X hR mv_10_168 kh_60 (kd_lt kh_60 (by decide)) (c0_swornToBy l G N kh_56 hc_14) ⟨rfl, rfl, Nat.le_of_ble_eq_true rfl, Nat.le_of_ble_eq_true rfl⟩ rfl hl.1 rfl (Nat.le_of_ble_eq_true rfl) dX10_witness_85 ⟨Nat.zero_le _, Nat.zero_le _⟩) (fun H locs hR => ?_)
      refine go_i hR (ms_run (As := [.int r_12]) (rest := []) X hR jms_10_150 (cJ_bitC l G) ⟨rfl, rfl, Nat.le_of_ble_eq_true rfl, Nat.le_of_ble_eq_true rfl⟩ rfl hl.1 rfl (Nat.le_of_ble_eq_true rfl) dX10_witness_88 ⟨Nat.zero_le _, Nat.zero_le _⟩) (fun H locs hR => ?_)
      exact e_i X hR hr hlk hf dX10_witness_91
    replace hf := z_f c_15 hf
    by_cases c_19 : x2 = (4 : Int32)
    · replace hf := z_t c_19 hf
      refine lv_tableIn (off := 81) (tgt := 92) hx hb dX10_witness_11 (by rw [c_19]; decide) (by rw [c_19]; decide) (by rw [c_19]; rfl) (by decide) ?_
      refine lv_aload_n hx hb dX10_witness_92 rfl (lv_at hl 0 rfl) ?_
      refine r_gs (t := 60) X hR fr_10_72 kh_0 (sx_10_10 kh_0) dX10_witness_93 ?_
      refine lv_aload_n hx hb dX10_witness_96 rfl (lv_at hl 0 rfl) ?_
      refine r_gs (t := 56) X hR fr_10_60 kh_0 (sx_10_8 kh_0) dX10_witness_97 ?_
      refine lv_iload_n hx hb dX10_witness_100 rfl (lv_at hl 1 rfl) ?_
      obtain ⟨r_16, σ_17, hc_18, hf⟩ := z_b_e hf
      refine go_i hR (mv_run (As := [.ref (G.2.2 + 56), .int x1]) (rest := []) X hR mv_10_171 kh_60 (kd_lt kh_60 (by decide)) (c0_deathIn100 l G N kh_56 hc_18) ⟨rfl, rfl, Nat.le_of_ble_eq_true rfl, Nat.le_of_ble_eq_true rfl⟩ rfl hl.1 rfl (Nat.le_of_ble_eq_true rfl) dX10_witness_101 ⟨Nat.zero_le _, Nat.zero_le _⟩) (fun H locs hR => ?_)
      exact e_i X hR hr hlk hf dX10_witness_104
    replace hf := z_f c_19 hf
    refine lv_tableOut (tgt := 105) hx hb dX10_witness_11 (sw_out x2 0 5 (by decide) (by decide) (fun j hj => ?_)) (by decide) ?_
    · rcases (show j = 0 ∨ j = 1 ∨ j = 2 ∨ j = 3 ∨ j = 4 by omega) with rfl | rfl | rfl | rfl | rfl
      · exact fun h => c_6 (h.trans (by decide))
      · exact fun h => c_10 (h.trans (by decide))
      · exact fun h => c_11 (h.trans (by decide))
      · exact fun h => c_15 (h.trans (by decide))
      · exact fun h => c_19 (h.trans (by decide))
    · refine lv_iconst (v := (-1 : Int32)) hx hb dX10_witness_105 (by decide) ?_
      exact e_i X hR hr hlk hf dX10_witness_106
  · replace hf := z_f c_4 hf
    refine lv_iconst (v := (-1 : Int32)) hx hb dX10_witness_8 (by decide) ?_
    exact e_i X hR hr hlk hf dX10_witness_9
abbrev rm10_noGiving : Room := { frames := 0, cells := 0, slots := 0, locals := 0 }
def f10_noGiving (N : Nat) (x1 : Int32) (σ : Mm) : Option (Int32 × Mm) :=
  if x1 < 0 then (
  some ((1 : Int32), σ)) else (
  if x1 < (gI σ 56 3) then (
  some ((0 : Int32), σ)) else (
  some ((1 : Int32), σ)))
set_option maxHeartbeats 4000000 in
set_option maxRecDepth 100000 in
theorem c10_noGiving (l : Launch) (G : Gp) (N : Nat) {x1 : Int32} {σ σ0 : Mm} {r0 : Int32} (hf : f10_noGiving N x1 σ = some (r0, σ0)) : Met l yX10_noGiving (WS yX10_noGiving cX10_noGiving 2 (some .boolean)) rm10_noGiving (va_Pc [.ref (G.2.2 + 0), .int x1] (Pd G 212 tt σ)) (P_i G 212 tt r0 σ0) 0 0 (Fr G) := by
  refine ct [(0, .ref (G.2.2 + 0)), (1, .int x1)] rfl (by decide) (Nat.le_of_ble_eq_true rfl) ?_
  intro p e s m below meth c ls X hr hlk hR hl
  have X : Cx p s m _ c cX10_noGiving 2 RX10 G := X
  have hx := X.1
  have hb := X.2.1
  unfold f10_noGiving at hf
  refine lv_iload_n hx hb dX10_noGiving_0 rfl (lv_at hl 1 rfl) ?_
  refine lv_if_lt (tgt := 15) hx hb dX10_noGiving_1 (by decide) (fun c_1 => ?_) (fun c_1 => ?_)
  · replace hf := z_t c_1 hf
    refine lv_iconst (v := (1 : Int32)) hx hb dX10_noGiving_15 (by decide) ?_
    refine lv_goto (tgt := 20) hx hb dX10_noGiving_16 (by decide) ?_
    exact e_z X hR hr hlk rfl hf dX10_noGiving_20
  · replace hf := z_f c_1 hf
    refine lv_iload_n hx hb dX10_noGiving_4 rfl (lv_at hl 1 rfl) ?_
    refine lv_aload_n hx hb dX10_noGiving_5 rfl (lv_at hl 0 rfl) ?_
    refine r_gs (t := 56) X hR fr_10_60 kh_0 (sx_10_8 kh_0) dX10_noGiving_6 ?_
    refine r_gi X hR fi_10_212 kh_56 dX10_noGiving_9 ?_
    refine lv_icmp_lt (tgt := 19) hx hb dX10_noGiving_12 (by decide) (fun c_2 => ?_) (fun c_2 => ?_)
    · replace hf := z_t c_2 hf
      refine lv_iconst (v := (0 : Int32)) hx hb dX10_noGiving_19 (by decide) ?_
      exact e_z X hR hr hlk rfl hf dX10_noGiving_20
    · replace hf := z_f c_2 hf
      refine lv_iconst (v := (1 : Int32)) hx hb dX10_noGiving_15 (by decide) ?_
      refine lv_goto (tgt := 20) hx hb dX10_noGiving_16 (by decide) ?_
      exact e_z X hR hr hlk rfl hf dX10_noGiving_20
abbrev rm10_giving : Room := { frames := 5, cells := 0, slots := 0, locals := 128 }
def f10_giving (N : Nat) (x1 : Int32) (x2 : Int32) (σ : Mm) : Option (Int32 × Mm) :=
  z_b (f10_noGiving N x1 σ) fun r_1 σ_2 =>
  if r_1 = 0 then (
  if x2 = (0 : Int32) then (
  z_c (inB x1 20) (
  some ((gI σ_2 51 (ix x1)), σ_2))) else (
  if x2 = (1 : Int32) then (
  z_c (inB x1 20) (
  some ((gI σ_2 52 (ix x1)), σ_2))) else (
  if x2 = (2 : Int32) then (
  z_c (inB x1 20) (
  some ((gI σ_2 53 (ix x1)), σ_2))) else (
  if x2 = (3 : Int32) then (
  z_c (inB x1 20) (
  some (((gI σ_2 56 0) - (gI σ_2 54 (ix x1))), σ_2))) else (
  if x2 = (4 : Int32) then (
  z_c (inB x1 20) (
  some ((gI σ_2 55 (ix x1)), σ_2))) else (
  if x2 = (5 : Int32) then (
  z_c (inB x1 20) (
  z_b (f0_swearers N 56 x1 (gI σ_2 55 (ix x1)) σ_2) fun r_16 σ_17 =>
  some (r_16, σ_17))) else (
  if x2 = (6 : Int32) then (
  z_b (f0_stands N 56 x1 σ_2) fun r_20 σ_21 =>
  if r_20 = 0 then (
  some ((0 : Int32), σ_21)) else (
  some ((1 : Int32), σ_21))) else (
  if x2 = (7 : Int32) then (
  z_c (inB x1 20) (
  z_b (f0_counting N 56 (gI σ_2 51 (ix x1)) σ_2) fun r_26 σ_27 =>
  some (((r_26 >>> (x1 &&& 31)) &&& (1 : Int32)), σ_27))) else (
  if x2 = (8 : Int32) then (
  some ((((gI σ_2 56 2) >>> (x1 &&& 31)) &&& (1 : Int32)), σ_2)) else (
  some ((-1 : Int32), σ_2))))))))))) else (
  some ((-1 : Int32), σ_2))
set_option maxHeartbeats 4000000 in
set_option maxRecDepth 100000 in
theorem c10_giving (l : Launch) (G : Gp) (N : Nat) {x1 : Int32} {x2 : Int32} {σ σ0 : Mm} {r0 : Int32} (hf : f10_giving N x1 x2 σ = some (r0, σ0)) : Met l yX10_giving (WS yX10_giving cX10_giving 3 (some .int)) rm10_giving (va_Pc [.ref (G.2.2 + 0), .int x1, .int x2] (Pd G 212 tt σ)) (P_i G 212 tt r0 σ0) 0 0 (Fr G) := by
  refine ct [(0, .ref (G.2.2 + 0)), (1, .int x1), (2, .int x2)] rfl (by decide) (Nat.le_of_ble_eq_true rfl) ?_
  intro p e s m below meth c ls X hr hlk hR hl
  have X : Cx p s m _ c cX10_giving 3 RX10 G := X
  have hx := X.1
  have hb := X.2.1
  unfold f10_giving at hf
  refine lv_aload_n hx hb dX10_giving_0 rfl (lv_at hl 0 rfl) ?_
  refine lv_iload_n hx hb dX10_giving_1 rfl (lv_at hl 1 rfl) ?_
  obtain ⟨r_1, σ_2, hc_3, hf⟩ := z_b_e hf
  refine go_i hR (mv_run (As := [.int x1]) (rest := []) X hR mv_10_174 kh_0 (kd_lt kh_0 (by decide)) (c10_noGiving l G N hc_3) ⟨rfl, rfl, Nat.le_of_ble_eq_true rfl, Nat.le_of_ble_eq_true rfl⟩ rfl hl.1 rfl (Nat.le_of_ble_eq_true rfl) dX10_giving_2 ⟨Nat.zero_le _, Nat.zero_le _⟩) (fun H locs hR => ?_)
  refine lv_if_eq (tgt := 10) hx hb dX10_giving_5 (by decide) (fun c_4 => ?_) (fun c_4 => ?_)
  · replace hf := z_t c_4 hf
    refine lv_iload_n hx hb dX10_giving_10 rfl (lv_at hl 2 rfl) ?_
    by_cases c_6 : x2 = (0 : Int32)
    · replace hf := z_t c_6 hf
      refine lv_tableIn (off := 49) (tgt := 60) hx hb dX10_giving_11 (by rw [c_6]; decide) (by rw [c_6]; decide) (by rw [c_6]; rfl) (by decide) ?_
      refine lv_aload_n hx hb dX10_giving_60 rfl (lv_at hl 0 rfl) ?_
      refine r_gs (t := 50) X hR fr_10_53 kh_0 (sx_10_7 kh_0) dX10_giving_61 ?_
      refine r_gs (t := 51) X hR fr_10_177 kh_50 (sx_1_0 kh_50) dX10_giving_64 ?_
      refine lv_iload_n hx hb dX10_giving_67 rfl (lv_at hl 1 rfl) ?_
      obtain ⟨hi_5, hf⟩ := z_c_e hf
      refine r_ial X hR ka_51 hi_5 dX10_giving_68 ?_
      exact e_i X hR hr hlk hf dX10_giving_69
    replace hf := z_f c_6 hf
    by_cases c_8 : x2 = (1 : Int32)
    · replace hf := z_t c_8 hf
      refine lv_tableIn (off := 59) (tgt := 70) hx hb dX10_giving_11 (by rw [c_8]; decide) (by rw [c_8]; decide) (by rw [c_8]; rfl) (by decide) ?_
      refine lv_aload_n hx hb dX10_giving_70 rfl (lv_at hl 0 rfl) ?_
      refine r_gs (t := 50) X hR fr_10_53 kh_0 (sx_10_7 kh_0) dX10_giving_71 ?_
      refine r_gs (t := 52) X hR fr_10_180 kh_50 (sx_1_1 kh_50) dX10_giving_74 ?_
      refine lv_iload_n hx hb dX10_giving_77 rfl (lv_at hl 1 rfl) ?_
      obtain ⟨hi_7, hf⟩ := z_c_e hf
      refine r_ial X hR ka_52 hi_7 dX10_giving_78 ?_
      exact e_i X hR hr hlk hf dX10_giving_79
    replace hf := z_f c_8 hf
    by_cases c_10 : x2 = (2 : Int32)
    · replace hf := z_t c_10 hf
      refine lv_tableIn (off := 69) (tgt := 80) hx hb dX10_giving_11 (by rw [c_10]; decide) (by rw [c_10]; decide) (by rw [c_10]; rfl) (by decide) ?_
      refine lv_aload_n hx hb dX10_giving_80 rfl (lv_at hl 0 rfl) ?_
      refine r_gs (t := 50) X hR fr_10_53 kh_0 (sx_10_7 kh_0) dX10_giving_81 ?_
      refine r_gs (t := 53) X hR fr_10_183 kh_50 (sx_1_2 kh_50) dX10_giving_84 ?_
      refine lv_iload_n hx hb dX10_giving_87 rfl (lv_at hl 1 rfl) ?_
      obtain ⟨hi_9, hf⟩ := z_c_e hf
      refine r_ial X hR ka_53 hi_9 dX10_giving_88 ?_
      exact e_i X hR hr hlk hf dX10_giving_89
    replace hf := z_f c_10 hf
    by_cases c_12 : x2 = (3 : Int32)
    · replace hf := z_t c_12 hf
      refine lv_tableIn (off := 79) (tgt := 90) hx hb dX10_giving_11 (by rw [c_12]; decide) (by rw [c_12]; decide) (by rw [c_12]; rfl) (by decide) ?_
      refine lv_aload_n hx hb dX10_giving_90 rfl (lv_at hl 0 rfl) ?_
      refine r_gs (t := 56) X hR fr_10_60 kh_0 (sx_10_8 kh_0) dX10_giving_91 ?_
      refine r_gi X hR fi_10_186 kh_56 dX10_giving_94 ?_
      refine lv_aload_n hx hb dX10_giving_97 rfl (lv_at hl 0 rfl) ?_
      refine r_gs (t := 50) X hR fr_10_53 kh_0 (sx_10_7 kh_0) dX10_giving_98 ?_
      refine r_gs (t := 54) X hR fr_10_189 kh_50 (sx_1_3 kh_50) dX10_giving_101 ?_
      refine lv_iload_n hx hb dX10_giving_104 rfl (lv_at hl 1 rfl) ?_
      obtain ⟨hi_11, hf⟩ := z_c_e hf
      refine r_ial X hR ka_54 hi_11 dX10_giving_105 ?_
      refine lv_isub hx hb dX10_giving_106 ?_
      exact e_i X hR hr hlk hf dX10_giving_107
    replace hf := z_f c_12 hf
    by_cases c_14 : x2 = (4 : Int32)
    · replace hf := z_t c_14 hf
      refine lv_tableIn (off := 97) (tgt := 108) hx hb dX10_giving_11 (by rw [c_14]; decide) (by rw [c_14]; decide) (by rw [c_14]; rfl) (by decide) ?_
      refine lv_aload_n hx hb dX10_giving_108 rfl (lv_at hl 0 rfl) ?_
      refine r_gs (t := 50) X hR fr_10_53 kh_0 (sx_10_7 kh_0) dX10_giving_109 ?_
      refine r_gs (t := 55) X hR fr_10_192 kh_50 (sx_1_4 kh_50) dX10_giving_112 ?_
      refine lv_iload_n hx hb dX10_giving_115 rfl (lv_at hl 1 rfl) ?_
      obtain ⟨hi_13, hf⟩ := z_c_e hf
      refine r_ial X hR ka_55 hi_13 dX10_giving_116 ?_
      exact e_i X hR hr hlk hf dX10_giving_117
    replace hf := z_f c_14 hf
    by_cases c_19 : x2 = (5 : Int32)
    · replace hf := z_t c_19 hf
      refine lv_tableIn (off := 107) (tgt := 118) hx hb dX10_giving_11 (by rw [c_19]; decide) (by rw [c_19]; decide) (by rw [c_19]; rfl) (by decide) ?_
      refine lv_aload_n hx hb dX10_giving_118 rfl (lv_at hl 0 rfl) ?_
      refine r_gs (t := 60) X hR fr_10_72 kh_0 (sx_10_10 kh_0) dX10_giving_119 ?_
      refine lv_aload_n hx hb dX10_giving_122 rfl (lv_at hl 0 rfl) ?_
      refine r_gs (t := 56) X hR fr_10_60 kh_0 (sx_10_8 kh_0) dX10_giving_123 ?_
      refine lv_iload_n hx hb dX10_giving_126 rfl (lv_at hl 1 rfl) ?_
      refine lv_aload_n hx hb dX10_giving_127 rfl (lv_at hl 0 rfl) ?_
      refine r_gs (t := 50) X hR fr_10_53 kh_0 (sx_10_7 kh_0) dX10_giving_128 ?_
      refine r_gs (t := 55) X hR fr_10_192 kh_50 (sx_1_4 kh_50) dX10_giving_131 ?_
      refine lv_iload_n hx hb dX10_giving_134 rfl (lv_at hl 1 rfl) ?_
      obtain ⟨hi_15, hf⟩ := z_c_e hf
      refine r_ial X hR ka_55 hi_15 dX10_giving_135 ?_
      obtain ⟨r_16, σ_17, hc_18, hf⟩ := z_b_e hf
      refine go_i hR (mv_run (As := [.ref (G.2.2 + 56), .int x1, .int (gI σ_2 55 (ix x1))]) (rest := []) X hR mv_10_195 kh_60 (kd_lt kh_60 (by decide)) (c0_swearers l G N kh_56 hc_18) ⟨rfl, rfl, Nat.le_of_ble_eq_true rfl, Nat.le_of_ble_eq_true rfl⟩ rfl hl.1 rfl (Nat.le_of_ble_eq_true rfl) dX10_giving_136 ⟨Nat.zero_le _, Nat.zero_le _⟩) (fun H locs hR => ?_)
      exact e_i X hR hr hlk hf dX10_giving_139
    replace hf := z_f c_19 hf
    by_cases c_24 : x2 = (6 : Int32)
    · replace hf := z_t c_24 hf
      refine lv_tableIn (off := 129) (tgt := 140) hx hb dX10_giving_11 (by rw [c_24]; decide) (by rw [c_24]; decide) (by rw [c_24]; rfl) (by decide) ?_
      refine lv_aload_n hx hb dX10_giving_140 rfl (lv_at hl 0 rfl) ?_
      refine r_gs (t := 60) X hR fr_10_72 kh_0 (sx_10_10 kh_0) dX10_giving_141 ?_
      refine lv_aload_n hx hb dX10_giving_144 rfl (lv_at hl 0 rfl) ?_
      refine r_gs (t := 56) X hR fr_10_60 kh_0 (sx_10_8 kh_0) dX10_giving_145 ?_
      refine lv_iload_n hx hb dX10_giving_148 rfl (lv_at hl 1 rfl) ?_
      obtain ⟨r_20, σ_21, hc_22, hf⟩ := z_b_e hf
      refine go_i hR (mv_run (As := [.ref (G.2.2 + 56), .int x1]) (rest := []) X hR mv_10_199 kh_60 (kd_lt kh_60 (by decide)) (c0_stands l G N kh_56 hc_22) ⟨rfl, rfl, Nat.le_of_ble_eq_true rfl, Nat.le_of_ble_eq_true rfl⟩ rfl hl.1 rfl (Nat.le_of_ble_eq_true rfl) dX10_giving_149 ⟨Nat.zero_le _, Nat.zero_le _⟩) (fun H locs hR => ?_)
      refine lv_if_eq (tgt := 159) hx hb dX10_giving_152 (by decide) (fun c_23 => ?_) (fun c_23 => ?_)
      · replace hf := z_t c_23 hf
        refine lv_iconst (v := (0 : Int32)) hx hb dX10_giving_159 (by decide) ?_
        exact e_i X hR hr hlk hf dX10_giving_160
      · replace hf := z_f c_23 hf
        refine lv_iconst (v := (1 : Int32)) hx hb dX10_giving_155 (by decide) ?_
        refine lv_goto (tgt := 160) hx hb dX10_giving_156 (by decide) ?_
        exact e_i X hR hr hlk hf dX10_giving_160
    replace hf := z_f c_24 hf
    by_cases c_29 : x2 = (7 : Int32)
    · replace hf := z_t c_29 hf
      refine lv_tableIn (off := 150) (tgt := 161) hx hb dX10_giving_11 (by rw [c_29]; decide) (by rw [c_29]; decide) (by rw [c_29]; rfl) (by decide) ?_
      refine lv_aload_n hx hb dX10_giving_161 rfl (lv_at hl 0 rfl) ?_
      refine r_gs (t := 60) X hR fr_10_72 kh_0 (sx_10_10 kh_0) dX10_giving_162 ?_
      refine lv_aload_n hx hb dX10_giving_165 rfl (lv_at hl 0 rfl) ?_
      refine r_gs (t := 56) X hR fr_10_60 kh_0 (sx_10_8 kh_0) dX10_giving_166 ?_
      refine lv_aload_n hx hb dX10_giving_169 rfl (lv_at hl 0 rfl) ?_
      refine r_gs (t := 50) X hR fr_10_53 kh_0 (sx_10_7 kh_0) dX10_giving_170 ?_
      refine r_gs (t := 51) X hR fr_10_177 kh_50 (sx_1_0 kh_50) dX10_giving_173 ?_
      refine lv_iload_n hx hb dX10_giving_176 rfl (lv_at hl 1 rfl) ?_
      obtain ⟨hi_25, hf⟩ := z_c_e hf
      refine r_ial X hR ka_51 hi_25 dX10_giving_177 ?_
      obtain ⟨r_26, σ_27, hc_28, hf⟩ := z_b_e hf
      refine go_i hR (mv_run (As := [.ref (G.2.2 + 56), .int (gI σ_2 51 (ix x1))]) (rest := []) X hR mv_10_147 kh_60 (kd_lt kh_60 (by decide)) (c0_counting l G N kh_56 hc_28) ⟨rfl, rfl, Nat.le_of_ble_eq_true rfl, Nat.le_of_ble_eq_true rfl⟩ rfl hl.1 rfl (Nat.le_of_ble_eq_true rfl) dX10_giving_178 ⟨Nat.zero_le _, Nat.zero_le _⟩) (fun H locs hR => ?_)
      refine lv_iload_n hx hb dX10_giving_181 rfl (lv_at hl 1 rfl) ?_
      refine lv_ishr hx hb dX10_giving_182 ?_
      refine lv_iconst (v := (1 : Int32)) hx hb dX10_giving_183 (by decide) ?_
      refine lv_iand hx hb dX10_giving_184 ?_
      exact e_i X hR hr hlk hf dX10_giving_185
    replace hf := z_f c_29 hf
    by_cases c_30 : x2 = (8 : Int32)
    · replace hf := z_t c_30 hf
      refine lv_tableIn (off := 175) (tgt := 186) hx hb dX10_giving_11 (by rw [c_30]; decide) (by rw [c_30]; decide) (by rw [c_30]; rfl) (by decide) ?_
      refine lv_aload_n hx hb dX10_giving_186 rfl (lv_at hl 0 rfl) ?_
      refine r_gs (t := 56) X hR fr_10_60 kh_0 (sx_10_8 kh_0) dX10_giving_187 ?_
      refine r_gi X hR fi_10_203 kh_56 dX10_giving_190 ?_
      refine lv_iload_n hx hb dX10_giving_193 rfl (lv_at hl 1 rfl) ?_
      refine lv_ishr hx hb dX10_giving_194 ?_
      refine lv_iconst (v := (1 : Int32)) hx hb dX10_giving_195 (by decide) ?_
      refine lv_iand hx hb dX10_giving_196 ?_
      exact e_i X hR hr hlk hf dX10_giving_197
    replace hf := z_f c_30 hf
    refine lv_tableOut (tgt := 198) hx hb dX10_giving_11 (sw_out x2 0 9 (by decide) (by decide) (fun j hj => ?_)) (by decide) ?_
    · rcases (show j = 0 ∨ j = 1 ∨ j = 2 ∨ j = 3 ∨ j = 4 ∨ j = 5 ∨ j = 6 ∨ j = 7 ∨ j = 8 by omega) with rfl | rfl | rfl | rfl | rfl | rfl | rfl | rfl | rfl
      · exact fun h => c_6 (h.trans (by decide))
      · exact fun h => c_8 (h.trans (by decide))
      · exact fun h => c_10 (h.trans (by decide))
      · exact fun h => c_12 (h.trans (by decide))
      · exact fun h => c_14 (h.trans (by decide))
      · exact fun h => c_19 (h.trans (by decide))
      · exact fun h => c_24 (h.trans (by decide))
      · exact fun h => c_29 (h.trans (by decide))
      · exact fun h => c_30 (h.trans (by decide))
    · refine lv_iconst (v := (-1 : Int32)) hx hb dX10_giving_198 (by decide) ?_
      exact e_i X hR hr hlk hf dX10_giving_199
  · replace hf := z_f c_4 hf
    refine lv_iconst (v := (-1 : Int32)) hx hb dX10_giving_8 (by decide) ?_
    exact e_i X hR hr hlk hf dX10_giving_9
abbrev rm10_noPerson : Room := { frames := 0, cells := 0, slots := 0, locals := 0 }
def f10_noPerson (N : Nat) (x1 : Int32) (σ : Mm) : Option (Int32 × Mm) :=
  if x1 < 0 then (
  some ((1 : Int32), σ)) else (
  z_r (gR σ 0 3) 3 fun t_2 =>
  if x1 < (gI σ t_2 0) then (
  some ((0 : Int32), σ)) else (
  some ((1 : Int32), σ)))
set_option maxHeartbeats 4000000 in
set_option maxRecDepth 100000 in
theorem c10_noPerson (l : Launch) (G : Gp) (N : Nat) {x1 : Int32} {σ σ0 : Mm} {r0 : Int32} (hf : f10_noPerson N x1 σ = some (r0, σ0)) : Met l yX10_noPerson (WS yX10_noPerson cX10_noPerson 2 (some .boolean)) rm10_noPerson (va_Pc [.ref (G.2.2 + 0), .int x1] (Pd G 212 tt σ)) (P_i G 212 tt r0 σ0) 0 0 (Fr G) := by
  refine ct [(0, .ref (G.2.2 + 0)), (1, .int x1)] rfl (by decide) (Nat.le_of_ble_eq_true rfl) ?_
  intro p e s m below meth c ls X hr hlk hR hl
  have X : Cx p s m _ c cX10_noPerson 2 RX10 G := X
  have hx := X.1
  have hb := X.2.1
  unfold f10_noPerson at hf
  refine lv_iload_n hx hb dX10_noPerson_0 rfl (lv_at hl 1 rfl) ?_
  refine lv_if_lt (tgt := 15) hx hb dX10_noPerson_1 (by decide) (fun c_1 => ?_) (fun c_1 => ?_)
  · replace hf := z_t c_1 hf
    refine lv_iconst (v := (1 : Int32)) hx hb dX10_noPerson_15 (by decide) ?_
    refine lv_goto (tgt := 20) hx hb dX10_noPerson_16 (by decide) ?_
    exact e_z X hR hr hlk rfl hf dX10_noPerson_20
  · replace hf := z_f c_1 hf
    refine lv_iload_n hx hb dX10_noPerson_4 rfl (lv_at hl 1 rfl) ?_
    refine lv_aload_n hx hb dX10_noPerson_5 rfl (lv_at hl 0 rfl) ?_
    obtain ⟨t_2, ht_3, kht_3, hf⟩ := z_r_e hf
    refine r_gd X hR fr_10_27 kh_0 ht_3 dX10_noPerson_6 ?_
    refine r_gi X hR fi_10_289 kht_3 dX10_noPerson_9 ?_
    refine lv_icmp_lt (tgt := 19) hx hb dX10_noPerson_12 (by decide) (fun c_4 => ?_) (fun c_4 => ?_)
    · replace hf := z_t c_4 hf
      refine lv_iconst (v := (0 : Int32)) hx hb dX10_noPerson_19 (by decide) ?_
      exact e_z X hR hr hlk rfl hf dX10_noPerson_20
    · replace hf := z_f c_4 hf
      refine lv_iconst (v := (1 : Int32)) hx hb dX10_noPerson_15 (by decide) ?_
      refine lv_goto (tgt := 20) hx hb dX10_noPerson_16 (by decide) ?_
      exact e_z X hR hr hlk rfl hf dX10_noPerson_20
abbrev rm10_give : Room := { frames := 3, cells := 0, slots := 0, locals := 89 }
def f10_give (N : Nat) (x1 : Int32) (x2 : Int32) (x3 : Int32) (x4 : Int32) (σ : Mm) : Option (Int32 × Mm) :=
  z_b (f10_noPlot N x1 σ) fun r_1 σ_2 =>
  if r_1 = 0 then (
  z_b (f10_noPerson N x2 σ_2) fun r_5 σ_6 =>
  if r_5 = 0 then (
  z_b (f10_noPerson N x3 σ_6) fun r_9 σ_10 =>
  if r_9 = 0 then (
  if x2 = x3 then (
  some ((-1 : Int32), σ_10)) else (
  z_r (gR σ_10 0 3) 3 fun t_14 =>
  if (ush x4 (gI σ_10 t_14 2)) = 0 then (
  if (20 : Int32) ≤ (gI σ_10 56 3) then (
  some ((-2 : Int32), σ_10)) else (
  if (x4 &&& ((gI σ_10 56 1) ^^^ (-1 : Int32))) = 0 then (
  z_b (f6_keep N 56 σ_10) fun _ σ_20 =>
  z_l ((gI σ_20 56 3)) fun x5_22 =>
  z_b (f1_put N 50 x5_22 x1 x2 x3 (gI σ_20 56 0) x4 σ_20) fun _ σ_24 =>
  z_l (sI σ_24 56 3 (x5_22 + (1 : Int32))) fun σ_26 =>
  some (x5_22, σ_26)) else (
  some ((-2 : Int32), σ_10)))) else (
  some ((-1 : Int32), σ_10)))) else (
  some ((-1 : Int32), σ_10))) else (
  some ((-1 : Int32), σ_6))) else (
  some ((-1 : Int32), σ_2))
set_option maxHeartbeats 4000000 in
set_option maxRecDepth 100000 in
theorem c10_give (l : Launch) (G : Gp) (N : Nat) {x1 : Int32} {x2 : Int32} {x3 : Int32} {x4 : Int32} {σ σ0 : Mm} {r0 : Int32} (hf : f10_give N x1 x2 x3 x4 σ = some (r0, σ0)) : Met l yX10_give (WS yX10_give cX10_give 6 (some .int)) rm10_give (va_Pc [.ref (G.2.2 + 0), .int x1, .int x2, .int x3, .int x4] (Pd G 212 tt σ)) (P_i G 212 tt r0 σ0) 0 0 (Fr G) := by
  refine ct [(0, .ref (G.2.2 + 0)), (1, .int x1), (2, .int x2), (3, .int x3), (4, .int x4)] rfl (by decide) (Nat.le_of_ble_eq_true rfl) ?_
  intro p e s m below meth c ls X hr hlk hR hl
  have X : Cx p s m _ c cX10_give 6 RX10 G := X
  have hx := X.1
  have hb := X.2.1
  unfold f10_give at hf
  refine lv_aload_n hx hb dX10_give_0 rfl (lv_at hl 0 rfl) ?_
  refine lv_iload_n hx hb dX10_give_1 rfl (lv_at hl 1 rfl) ?_
  obtain ⟨r_1, σ_2, hc_3, hf⟩ := z_b_e hf
  refine go_i hR (mv_run (As := [.int x1]) (rest := []) X hR mv_10_130 kh_0 (kd_lt kh_0 (by decide)) (c10_noPlot l G N hc_3) ⟨rfl, rfl, Nat.le_of_ble_eq_true rfl, Nat.le_of_ble_eq_true rfl⟩ rfl hl.1 rfl (Nat.le_of_ble_eq_true rfl) dX10_give_2 ⟨Nat.zero_le _, Nat.zero_le _⟩) (fun H locs hR => ?_)
  refine lv_if_ne (tgt := 42) hx hb dX10_give_5 (by decide) (fun c_4 => ?_) (fun c_4 => ?_)
  · replace hf := z_f c_4 hf
    refine lv_iconst (v := (-1 : Int32)) hx hb dX10_give_42 (by decide) ?_
    exact e_i X hR hr hlk hf dX10_give_43
  · replace hf := z_t c_4 hf
    refine lv_aload_n hx hb dX10_give_8 rfl (lv_at hl 0 rfl) ?_
    refine lv_iload_n hx hb dX10_give_9 rfl (lv_at hl 2 rfl) ?_
    obtain ⟨r_5, σ_6, hc_7, hf⟩ := z_b_e hf
    refine go_i hR (mv_run (As := [.int x2]) (rest := []) X hR mv_10_206 kh_0 (kd_lt kh_0 (by decide)) (c10_noPerson l G N hc_7) ⟨rfl, rfl, Nat.le_of_ble_eq_true rfl, Nat.le_of_ble_eq_true rfl⟩ rfl hl.1 rfl (Nat.le_of_ble_eq_true rfl) dX10_give_10 ⟨Nat.zero_le _, Nat.zero_le _⟩) (fun H locs hR => ?_)
    refine lv_if_ne (tgt := 42) hx hb dX10_give_13 (by decide) (fun c_8 => ?_) (fun c_8 => ?_)
    · replace hf := z_f c_8 hf
      refine lv_iconst (v := (-1 : Int32)) hx hb dX10_give_42 (by decide) ?_
      exact e_i X hR hr hlk hf dX10_give_43
    · replace hf := z_t c_8 hf
      refine lv_aload_n hx hb dX10_give_16 rfl (lv_at hl 0 rfl) ?_
      refine lv_iload_n hx hb dX10_give_17 rfl (lv_at hl 3 rfl) ?_
      obtain ⟨r_9, σ_10, hc_11, hf⟩ := z_b_e hf
      refine go_i hR (mv_run (As := [.int x3]) (rest := []) X hR mv_10_206 kh_0 (kd_lt kh_0 (by decide)) (c10_noPerson l G N hc_11) ⟨rfl, rfl, Nat.le_of_ble_eq_true rfl, Nat.le_of_ble_eq_true rfl⟩ rfl hl.1 rfl (Nat.le_of_ble_eq_true rfl) dX10_give_18 ⟨Nat.zero_le _, Nat.zero_le _⟩) (fun H locs hR => ?_)
      refine lv_if_ne (tgt := 42) hx hb dX10_give_21 (by decide) (fun c_12 => ?_) (fun c_12 => ?_)
      · replace hf := z_f c_12 hf
        refine lv_iconst (v := (-1 : Int32)) hx hb dX10_give_42 (by decide) ?_
        exact e_i X hR hr hlk hf dX10_give_43
      · replace hf := z_t c_12 hf
        refine lv_iload_n hx hb dX10_give_24 rfl (lv_at hl 2 rfl) ?_
        refine lv_iload_n hx hb dX10_give_25 rfl (lv_at hl 3 rfl) ?_
        refine lv_icmp_eq (tgt := 42) hx hb dX10_give_26 (by decide) (fun c_13 => ?_) (fun c_13 => ?_)
        · replace hf := z_t c_13 hf
          refine lv_iconst (v := (-1 : Int32)) hx hb dX10_give_42 (by decide) ?_
          exact e_i X hR hr hlk hf dX10_give_43
        · replace hf := z_f c_13 hf
          refine lv_iload hx hb dX10_give_29 (lv_at hl 4 rfl) ?_
          refine lv_aload_n hx hb dX10_give_31 rfl (lv_at hl 0 rfl) ?_
          obtain ⟨t_14, ht_15, kht_15, hf⟩ := z_r_e hf
          refine r_gd X hR fr_10_27 kh_0 ht_15 dX10_give_32 ?_
          refine r_gi X hR fi_10_209 kht_15 dX10_give_35 ?_
          refine lv_iushr (v := (ush x4 (gI σ_10 t_14 2))) hx hb dX10_give_38 rfl ?_
          refine lv_if_eq (tgt := 44) hx hb dX10_give_39 (by decide) (fun c_16 => ?_) (fun c_16 => ?_)
          · replace hf := z_t c_16 hf
            refine lv_aload_n hx hb dX10_give_44 rfl (lv_at hl 0 rfl) ?_
            refine r_gs (t := 56) X hR fr_10_60 kh_0 (sx_10_8 kh_0) dX10_give_45 ?_
            refine r_gi X hR fi_10_212 kh_56 dX10_give_48 ?_
            refine lv_bipush (v := (20 : Int32)) hx hb dX10_give_51 (by decide) ?_
            refine lv_icmp_ge (tgt := 71) hx hb dX10_give_53 (by decide) (fun c_17 => ?_) (fun c_17 => ?_)
            · replace hf := z_t c_17 hf
              refine lv_bipush (v := (-2 : Int32)) hx hb dX10_give_71 (by decide) ?_
              exact e_i X hR hr hlk hf dX10_give_73
            · replace hf := z_f c_17 hf
              refine lv_iload hx hb dX10_give_56 (lv_at hl 4 rfl) ?_
              refine lv_aload_n hx hb dX10_give_58 rfl (lv_at hl 0 rfl) ?_
              refine r_gs (t := 56) X hR fr_10_60 kh_0 (sx_10_8 kh_0) dX10_give_59 ?_
              refine r_gi X hR fi_10_165 kh_56 dX10_give_62 ?_
              refine lv_iconst (v := (-1 : Int32)) hx hb dX10_give_65 (by decide) ?_
              refine lv_ixor hx hb dX10_give_66 ?_
              refine lv_iand hx hb dX10_give_67 ?_
              refine lv_if_eq (tgt := 74) hx hb dX10_give_68 (by decide) (fun c_18 => ?_) (fun c_18 => ?_)
              · replace hf := z_t c_18 hf
                refine lv_aload_n hx hb dX10_give_74 rfl (lv_at hl 0 rfl) ?_
                refine r_gs (t := 70) X hR fr_10_86 kh_0 (sx_10_12 kh_0) dX10_give_75 ?_
                refine lv_aload_n hx hb dX10_give_78 rfl (lv_at hl 0 rfl) ?_
                refine r_gs (t := 56) X hR fr_10_60 kh_0 (sx_10_8 kh_0) dX10_give_79 ?_
                obtain ⟨r_19, σ_20, hc_21, hf⟩ := z_b_e hf
                refine go_v hR (mv_run (As := [.ref (G.2.2 + 56)]) (rest := []) X hR mv_10_214 kh_70 (kd_lt kh_70 (by decide)) (c6_keep l G N kh_56 hc_21) ⟨rfl, rfl, Nat.le_of_ble_eq_true rfl, Nat.le_of_ble_eq_true rfl⟩ rfl hl.1 rfl (Nat.le_of_ble_eq_true rfl) dX10_give_82 ⟨Nat.zero_le _, Nat.zero_le _⟩) (fun H locs hR => ?_)
                refine lv_aload_n hx hb dX10_give_85 rfl (lv_at hl 0 rfl) ?_
                refine r_gs (t := 56) X hR fr_10_60 kh_0 (sx_10_8 kh_0) dX10_give_86 ?_
                refine r_gi X hR fi_10_212 kh_56 dX10_give_89 ?_
                refine lv_topi (fun x5_22 ex5_22 => ?_)
                replace hf := z_l_e ex5_22 hf
                refine lv_istore (lv' := [(5, .int x5_22), (0, .ref (G.2.2 + 0)), (1, .int x1), (2, .int x2), (3, .int x3), (4, .int x4)]) hx hb dX10_give_92 hl (by decide) rfl (fun ls hl => ?_)
                refine lv_aload_n hx hb dX10_give_94 rfl (lv_at hl 1 rfl) ?_
                refine r_gs (t := 50) X hR fr_10_53 kh_0 (sx_10_7 kh_0) dX10_give_95 ?_
                refine lv_iload hx hb dX10_give_98 (lv_at hl 0 rfl) ?_
                refine lv_iload_n hx hb dX10_give_100 rfl (lv_at hl 2 rfl) ?_
                refine lv_iload_n hx hb dX10_give_101 rfl (lv_at hl 3 rfl) ?_
                refine lv_iload_n hx hb dX10_give_102 rfl (lv_at hl 4 rfl) ?_
                refine lv_aload_n hx hb dX10_give_103 rfl (lv_at hl 1 rfl) ?_
                refine r_gs (t := 56) X hR fr_10_60 kh_0 (sx_10_8 kh_0) dX10_give_104 ?_
                refine r_gi X hR fi_10_186 kh_56 dX10_give_107 ?_
                refine lv_iload hx hb dX10_give_110 (lv_at hl 5 rfl) ?_
                obtain ⟨r_23, σ_24, hc_25, hf⟩ := z_b_e hf
                refine go_v hR (mv_run (As := [.int x5_22, .int x1, .int x2, .int x3, .int (gI σ_20 56 0), .int x4]) (rest := []) X hR mv_10_218 kh_50 (kd_lt kh_50 (by decide)) (c1_put l G N kh_50 hc_25) ⟨rfl, rfl, Nat.le_of_ble_eq_true rfl, Nat.le_of_ble_eq_true rfl⟩ rfl hl.1 rfl (Nat.le_of_ble_eq_true rfl) dX10_give_112 ⟨Nat.zero_le _, Nat.zero_le _⟩) (fun H locs hR => ?_)
                refine lv_aload_n hx hb dX10_give_115 rfl (lv_at hl 1 rfl) ?_
                refine r_gs (t := 56) X hR fr_10_60 kh_0 (sx_10_8 kh_0) dX10_give_116 ?_
                refine lv_iload hx hb dX10_give_119 (lv_at hl 0 rfl) ?_
                refine lv_iconst (v := (1 : Int32)) hx hb dX10_give_121 (by decide) ?_
                refine lv_iadd hx hb dX10_give_122 ?_
                refine r_pi X hR pi_10_212 kh_56 dX10_give_123 (fun H locs σ_26 eσ_26 hR => ?_)
                replace hf := z_l_e eσ_26 hf
                refine lv_iload hx hb dX10_give_126 (lv_at hl 0 rfl) ?_
                exact e_i X hR hr hlk hf dX10_give_128
              · replace hf := z_f c_18 hf
                refine lv_bipush (v := (-2 : Int32)) hx hb dX10_give_71 (by decide) ?_
                exact e_i X hR hr hlk hf dX10_give_73
          · replace hf := z_f c_16 hf
            refine lv_iconst (v := (-1 : Int32)) hx hb dX10_give_42 (by decide) ?_
            exact e_i X hR hr hlk hf dX10_give_43
end GEN
