section GEN
variable {p : Program} {l : Launch} {e : Env} {s : State} {m : MethodId} {args : Array Value} {below : List Frame} {meth : Method} {c : Code} {G : Gp} {r0 : Int32} {l0 : Int64} {u0 : Unit} {σ0 : Mm}

abbrev rm11_which : Room := { frames := 5, cells := 0, slots := 0, locals := 124 }
def f11_which (N : Nat) (x1 : Int32) (x2 : Int32) (σ : Mm) : Option (Int32 × Mm) :=
  z_b (f11_in N x1 (0 : Int32) (gI σ 160 69) σ) fun r_1 σ_2 =>
  if r_1 = 0 then (
  some ((-1 : Int32), σ_2)) else (
  z_b (f11_in N x2 (0 : Int32) (1 : Int32) σ_2) fun r_5 σ_6 =>
  if r_5 = 0 then (
  some ((-1 : Int32), σ_6)) else (
  z_b (f11_whichBits N x1 σ_6) fun r_9 σ_10 =>
  if x2 = 0 then (
  z_b (f11_bits N r_9 σ_10) fun r_13 σ_14 =>
  some (r_13, σ_14)) else (
  some (r_9, σ_10))))
set_option maxHeartbeats 4000000 in
set_option maxRecDepth 100000 in
theorem c11_which (l : Launch) (G : Gp) (N : Nat) {x1 : Int32} {x2 : Int32} {σ σ0 : Mm} {r0 : Int32} (hf : f11_which N x1 x2 σ = some (r0, σ0)) : Met l yX11_which (WS yX11_which cX11_which 4 (some .int)) rm11_which (va_Pc [.ref (G.2.2 + 160), .int x1, .int x2] (Pd G 212 tt σ)) (P_i G 212 tt r0 σ0) 0 0 (Fr G) := by
  refine ct [(0, .ref (G.2.2 + 160)), (1, .int x1), (2, .int x2)] rfl (by decide) (Nat.le_of_ble_eq_true rfl) ?_
  intro p e s m below meth c ls X hr hlk hR hl
  have X : Cx p s m _ c cX11_which 4 RX11 G := X
  have hx := X.1
  have hb := X.2.1
  unfold f11_which at hf
  refine lv_iload_n hx hb dX11_which_0 rfl (lv_at hl 1 rfl) ?_
  refine lv_iconst (v := (0 : Int32)) hx hb dX11_which_1 (by decide) ?_
  refine lv_aload_n hx hb dX11_which_2 rfl (lv_at hl 0 rfl) ?_
  refine r_gi X hR fi_11_275 kh_160 dX11_which_3 ?_
  obtain ⟨r_1, σ_2, hc_3, hf⟩ := z_b_e hf
  refine go_i hR (ms_run (As := [.int x1, .int (0 : Int32), .int (gI σ 160 69)]) (rest := []) X hR ms_11_340 (c11_in l G N hc_3) ⟨rfl, rfl, Nat.le_of_ble_eq_true rfl, Nat.le_of_ble_eq_true rfl⟩ rfl hl.1 rfl (Nat.le_of_ble_eq_true rfl) dX11_which_6 ⟨Nat.zero_le _, Nat.zero_le _⟩) (fun H locs hR => ?_)
  refine lv_if_eq (tgt := 21) hx hb dX11_which_9 (by decide) (fun c_4 => ?_) (fun c_4 => ?_)
  · replace hf := z_t c_4 hf
    refine lv_iconst (v := (-1 : Int32)) hx hb dX11_which_21 (by decide) ?_
    exact e_i X hR hr hlk hf dX11_which_22
  · replace hf := z_f c_4 hf
    refine lv_iload_n hx hb dX11_which_12 rfl (lv_at hl 2 rfl) ?_
    refine lv_iconst (v := (0 : Int32)) hx hb dX11_which_13 (by decide) ?_
    refine lv_iconst (v := (1 : Int32)) hx hb dX11_which_14 (by decide) ?_
    obtain ⟨r_5, σ_6, hc_7, hf⟩ := z_b_e hf
    refine go_i hR (ms_run (As := [.int x2, .int (0 : Int32), .int (1 : Int32)]) (rest := []) X hR ms_11_340 (c11_in l G N hc_7) ⟨rfl, rfl, Nat.le_of_ble_eq_true rfl, Nat.le_of_ble_eq_true rfl⟩ rfl hl.1 rfl (Nat.le_of_ble_eq_true rfl) dX11_which_15 ⟨Nat.zero_le _, Nat.zero_le _⟩) (fun H locs hR => ?_)
    refine lv_if_ne (tgt := 23) hx hb dX11_which_18 (by decide) (fun c_8 => ?_) (fun c_8 => ?_)
    · replace hf := z_f c_8 hf
      refine lv_aload_n hx hb dX11_which_23 rfl (lv_at hl 0 rfl) ?_
      refine lv_iload_n hx hb dX11_which_24 rfl (lv_at hl 1 rfl) ?_
      obtain ⟨r_9, σ_10, hc_11, hf⟩ := z_b_e hf
      refine go_i hR (mv_run (As := [.int x1]) (rest := []) X hR mv_11_473 kh_160 (kd_lt kh_160 (by decide)) (c11_whichBits l G N hc_11) ⟨rfl, rfl, Nat.le_of_ble_eq_true rfl, Nat.le_of_ble_eq_true rfl⟩ rfl hl.1 rfl (Nat.le_of_ble_eq_true rfl) dX11_which_25 ⟨Nat.zero_le _, Nat.zero_le _⟩) (fun H locs hR => ?_)
      refine lv_istore_n (lv' := [(3, .int r_9), (0, .ref (G.2.2 + 160)), (1, .int x1), (2, .int x2)]) hx hb dX11_which_28 rfl hl (by decide) rfl (fun ls hl => ?_)
      refine lv_iload_n hx hb dX11_which_29 rfl (lv_at hl 3 rfl) ?_
      refine lv_if_ne (tgt := 40) hx hb dX11_which_30 (by decide) (fun c_12 => ?_) (fun c_12 => ?_)
      · replace hf := z_f c_12 hf
        refine lv_iload_n hx hb dX11_which_40 rfl (lv_at hl 0 rfl) ?_
        exact e_i X hR hr hlk hf dX11_which_41
      · replace hf := z_t c_12 hf
        refine lv_iload_n hx hb dX11_which_33 rfl (lv_at hl 0 rfl) ?_
        obtain ⟨r_13, σ_14, hc_15, hf⟩ := z_b_e hf
        refine go_i hR (ms_run (As := [.int r_9]) (rest := []) X hR ms_11_366 (c11_bits l G N hc_15) ⟨rfl, rfl, Nat.le_of_ble_eq_true rfl, Nat.le_of_ble_eq_true rfl⟩ rfl hl.1 rfl (Nat.le_of_ble_eq_true rfl) dX11_which_34 ⟨Nat.zero_le _, Nat.zero_le _⟩) (fun H locs hR => ?_)
        refine lv_goto (tgt := 41) hx hb dX11_which_37 (by decide) ?_
        exact e_i X hR hr hlk hf dX11_which_41
    · replace hf := z_t c_8 hf
      refine lv_iconst (v := (-1 : Int32)) hx hb dX11_which_21 (by decide) ?_
      exact e_i X hR hr hlk hf dX11_which_22
abbrev rm11_ask : Room := { frames := 5, cells := 0, slots := 0, locals := 124 }
def f11_ask_142 (N : Nat) (k29 : Int32 → Int32 → Int32 → Mm → Option (Int32 × Mm)) (x2 : Int32) (x3 : Int32) (x4 : Int32) (x5 : Int32) (σ : Mm) : Option (Int32 × Mm) :=
  z_l (x5 + (1 : Int32)) fun x5_21 =>
  k29 x3 x4 x5_21 σ
def f11_ask_135 (N : Nat) (k29 : Int32 → Int32 → Int32 → Mm → Option (Int32 × Mm)) (x2 : Int32) (x5 : Int32) (x7 : Int32) (σ : Mm) : Option (Int32 × Mm) :=
  f11_ask_142 N k29 x2 x5 x7 x5 σ
def f11_ask_119 (N : Nat) (k29 : Int32 → Int32 → Int32 → Mm → Option (Int32 × Mm)) (x2 : Int32) (x3 : Int32) (x4 : Int32) (x5 : Int32) (s0 : Int32) (σ : Mm) : Option (Int32 × Mm) :=
  if x3 < 0 then (
  f11_ask_135 N k29 x2 x5 s0 σ) else (
  if s0 < x4 then (
  f11_ask_135 N k29 x2 x5 s0 σ) else (
  f11_ask_142 N k29 x2 x3 x4 x5 σ))
def f11_ask_95 (N : Nat) (k29 : Int32 → Int32 → Int32 → Mm → Option (Int32 × Mm)) (x2 : Int32) (x3 : Int32) (x4 : Int32) (x5 : Int32) (x6 : Int32) (σ : Mm) : Option (Int32 × Mm) :=
  z_b (f11_bits N x2 σ) fun r_13 σ_14 =>
  if x6 ≤ (r_13 - x6) then (
  z_b (f11_bits N x2 σ_14) fun r_17 σ_18 =>
  f11_ask_119 N k29 x2 x3 x4 x5 (r_17 - x6) σ_18) else (
  f11_ask_119 N k29 x2 x3 x4 x5 x6 σ_14)
def f11_ask_89 (N : Nat) (k29 : Int32 → Int32 → Int32 → Mm → Option (Int32 × Mm)) (k53 : Int32 → Int32 → Mm → Option (Int32 × Mm)) (x2 : Int32) (x3 : Int32) (x4 : Int32) (x5 : Int32) (x6 : Int32) (x7 : Int32) (σ : Mm) : Option (Int32 × Mm) :=
  z_l (x7 + (1 : Int32)) fun x7_24 =>
  k53 x6 x7_24 σ
def f11_ask_53 (N : Nat) (k29 : Int32 → Int32 → Int32 → Mm → Option (Int32 × Mm)) (x2 : Int32) (x3 : Int32) (x4 : Int32) (x5 : Int32) : Nat → Int32 → Int32 → Mm → Option (Int32 × Mm)
  | 0, _, _, _ => none
  | fu + 1, x6, x7, σ => z_c (inB (15 : Int32) 117) (
  if (gI σ 199 (ix (15 : Int32))) ≤ x7 then (
  f11_ask_95 N k29 x2 x3 x4 x5 x6 σ) else (
  if ((x2 >>> (x7 &&& 31)) &&& (1 : Int32)) = (1 : Int32) then (
  z_b (f11_doesSwear N x5 x7 σ) fun r_25 σ_26 =>
  if r_25 = 0 then (
  f11_ask_89 N k29 (fun x6 x7 σ => f11_ask_53 N k29 x2 x3 x4 x5 fu x6 x7 σ) x2 x3 x4 x5 x6 x7 σ_26) else (
  z_l (x6 + (1 : Int32)) fun x6_29 =>
  f11_ask_89 N k29 (fun x6 x7 σ => f11_ask_53 N k29 x2 x3 x4 x5 fu x6 x7 σ) x2 x3 x4 x5 x6_29 x7 σ_26)) else (
  f11_ask_89 N k29 (fun x6 x7 σ => f11_ask_53 N k29 x2 x3 x4 x5 fu x6 x7 σ) x2 x3 x4 x5 x6 x7 σ)))
def f11_ask_29 (N : Nat) (x2 : Int32) : Nat → Int32 → Int32 → Int32 → Mm → Option (Int32 × Mm)
  | 0, _, _, _, _ => none
  | fu + 1, x3, x4, x5, σ => z_c (inB (gI σ 160 18) 2) (
  if (gI σ 175 (ix (gI σ 160 18))) ≤ x5 then (
  some (x3, σ)) else (
  if x2 = 0 then (
  some (x3, σ)) else (
  f11_ask_53 N (fun x3 x4 x5 σ => f11_ask_29 N x2 fu x3 x4 x5 σ) x2 x3 x4 x5 N (0 : Int32) (0 : Int32) σ)))
def f11_ask (N : Nat) (x1 : Int32) (σ : Mm) : Option (Int32 × Mm) :=
  z_b (f11_in N x1 (0 : Int32) (gI σ 160 69) σ) fun r_1 σ_2 =>
  if r_1 = 0 then (
  some ((-1 : Int32), σ_2)) else (
  z_b (f11_whichBits N x1 σ_2) fun r_5 σ_6 =>
  f11_ask_29 N r_5 N (-2 : Int32) (0 : Int32) (0 : Int32) σ_6)
set_option maxHeartbeats 4000000 in
set_option maxRecDepth 100000 in
theorem w11_ask_142 (X : Cx p s m args c cX11_ask 8 RX11 G) (hr : meth.sig.returnType = some .int) (hlk : meth.locks = false) (N : Nat) {x2 : Int32} {k29 : Int32 → Int32 → Int32 → Mm → Option (Int32 × Mm)} (hk29 : ∀ (x3 : Int32) (x4 : Int32) (x5 : Int32) (σ : Mm) (H : Heap) (locs : List Loc) (ls : Array Slot), k29 x3 x4 x5 σ = some (r0, σ0) → Rp G 212 tt σ s H locs → lv_has ls 8 [(0, .ref (G.2.2 + 160)), (2, .int x2), (3, .int x3), (4, .int x4), (5, .int x5)] → W p l e rm11_ask s m args below meth c H locs 0 0 (MQ below (P_i G 212 tt r0 σ0) args s 0 0 (Fr G)) (F0 m 29 ls [])) :
    ∀ (x3 : Int32) (x4 : Int32) (x5 : Int32) (σ : Mm) (H : Heap) (locs : List Loc) (ls : Array Slot), f11_ask_142 N k29 x2 x3 x4 x5 σ = some (r0, σ0) → Rp G 212 tt σ s H locs → lv_has ls 8 [(0, .ref (G.2.2 + 160)), (2, .int x2), (3, .int x3), (4, .int x4), (5, .int x5)] → W p l e rm11_ask s m args below meth c H locs 0 0 (MQ below (P_i G 212 tt r0 σ0) args s 0 0 (Fr G)) (F0 m 142 ls []) := by
  have hx := X.1
  have hb := X.2.1
  intro x3 x4 x5 σ H locs ls hf hR hl
  unfold f11_ask_142 at hf
  obtain ⟨x5_21, ex5_21⟩ : ∃ z : Int32, z = x5 + (1 : Int32) := ⟨_, rfl⟩
  replace hf := z_l_e ex5_21 hf
  refine lv_iinc (v := x5_21) (lv' := [(5, .int x5_21), (0, .ref (G.2.2 + 160)), (2, .int x2), (3, .int x3), (4, .int x4)]) hx hb dX11_ask_142 hl (k := 4) rfl (by rw [ex5_21]; rfl) (by decide) rfl (fun ls hl => ?_)
  refine lv_goto (tgt := 29) hx hb dX11_ask_145 (by decide) ?_
  exact hk29 x3 x4 x5_21 σ _ _ _ hf hR (lv_sub hl [1, 2, 3, 4, 0] rfl)
set_option maxHeartbeats 4000000 in
set_option maxRecDepth 100000 in
theorem w11_ask_135 (X : Cx p s m args c cX11_ask 8 RX11 G) (hr : meth.sig.returnType = some .int) (hlk : meth.locks = false) (N : Nat) {x2 : Int32} {k29 : Int32 → Int32 → Int32 → Mm → Option (Int32 × Mm)} (hk29 : ∀ (x3 : Int32) (x4 : Int32) (x5 : Int32) (σ : Mm) (H : Heap) (locs : List Loc) (ls : Array Slot), k29 x3 x4 x5 σ = some (r0, σ0) → Rp G 212 tt σ s H locs → lv_has ls 8 [(0, .ref (G.2.2 + 160)), (2, .int x2), (3, .int x3), (4, .int x4), (5, .int x5)] → W p l e rm11_ask s m args below meth c H locs 0 0 (MQ below (P_i G 212 tt r0 σ0) args s 0 0 (Fr G)) (F0 m 29 ls [])) :
    ∀ (x5 : Int32) (x7 : Int32) (σ : Mm) (H : Heap) (locs : List Loc) (ls : Array Slot), f11_ask_135 N k29 x2 x5 x7 σ = some (r0, σ0) → Rp G 212 tt σ s H locs → lv_has ls 8 [(0, .ref (G.2.2 + 160)), (2, .int x2), (5, .int x5), (7, .int x7)] → W p l e rm11_ask s m args below meth c H locs 0 0 (MQ below (P_i G 212 tt r0 σ0) args s 0 0 (Fr G)) (F0 m 135 ls []) := by
  have hx := X.1
  have hb := X.2.1
  intro x5 x7 σ H locs ls hf hR hl
  unfold f11_ask_135 at hf
  refine lv_iload hx hb dX11_ask_135 (lv_at hl 2 rfl) ?_
  refine lv_istore_n (lv' := [(3, .int x5), (0, .ref (G.2.2 + 160)), (2, .int x2), (5, .int x5), (7, .int x7)]) hx hb dX11_ask_137 rfl hl (by decide) rfl (fun ls hl => ?_)
  refine lv_iload hx hb dX11_ask_138 (lv_at hl 4 rfl) ?_
  refine lv_istore (lv' := [(4, .int x7), (3, .int x5), (0, .ref (G.2.2 + 160)), (2, .int x2), (5, .int x5), (7, .int x7)]) hx hb dX11_ask_140 hl (by decide) rfl (fun ls hl => ?_)
  exact w11_ask_142 X hr hlk N hk29 x5 x7 x5 σ _ _ _ hf hR (lv_sub hl [2, 3, 1, 0, 4] rfl)
set_option maxHeartbeats 4000000 in
set_option maxRecDepth 100000 in
theorem w11_ask_119 (X : Cx p s m args c cX11_ask 8 RX11 G) (hr : meth.sig.returnType = some .int) (hlk : meth.locks = false) (N : Nat) {x2 : Int32} {k29 : Int32 → Int32 → Int32 → Mm → Option (Int32 × Mm)} (hk29 : ∀ (x3 : Int32) (x4 : Int32) (x5 : Int32) (σ : Mm) (H : Heap) (locs : List Loc) (ls : Array Slot), k29 x3 x4 x5 σ = some (r0, σ0) → Rp G 212 tt σ s H locs → lv_has ls 8 [(0, .ref (G.2.2 + 160)), (2, .int x2), (3, .int x3), (4, .int x4), (5, .int x5)] → W p l e rm11_ask s m args below meth c H locs 0 0 (MQ below (P_i G 212 tt r0 σ0) args s 0 0 (Fr G)) (F0 m 29 ls [])) :
    ∀ (x3 : Int32) (x4 : Int32) (x5 : Int32) (s0 : Int32) (σ : Mm) (H : Heap) (locs : List Loc) (ls : Array Slot), f11_ask_119 N k29 x2 x3 x4 x5 s0 σ = some (r0, σ0) → Rp G 212 tt σ s H locs → lv_has ls 8 [(0, .ref (G.2.2 + 160)), (2, .int x2), (3, .int x3), (4, .int x4), (5, .int x5)] → W p l e rm11_ask s m args below meth c H locs 0 0 (MQ below (P_i G 212 tt r0 σ0) args s 0 0 (Fr G)) (F0 m 119 ls [.int s0]) := by
  have hx := X.1
  have hb := X.2.1
  intro x3 x4 x5 s0 σ H locs ls hf hR hl
  unfold f11_ask_119 at hf
  refine lv_istore (lv' := [(7, .int s0), (0, .ref (G.2.2 + 160)), (2, .int x2), (3, .int x3), (4, .int x4), (5, .int x5)]) hx hb dX11_ask_119 hl (by decide) rfl (fun ls hl => ?_)
  refine lv_iload_n hx hb dX11_ask_121 rfl (lv_at hl 3 rfl) ?_
  refine lv_if_lt (tgt := 135) hx hb dX11_ask_122 (by decide) (fun c_20 => ?_) (fun c_20 => ?_)
  · replace hf := z_t c_20 hf
    exact w11_ask_135 X hr hlk N hk29 x5 s0 σ _ _ _ hf hR (lv_sub hl [1, 2, 5, 0] rfl)
  · replace hf := z_f c_20 hf
    refine lv_iload hx hb dX11_ask_125 (lv_at hl 0 rfl) ?_
    refine lv_iload hx hb dX11_ask_127 (lv_at hl 4 rfl) ?_
    refine lv_icmp_lt (tgt := 135) hx hb dX11_ask_129 (by decide) (fun c_22 => ?_) (fun c_22 => ?_)
    · replace hf := z_t c_22 hf
      exact w11_ask_135 X hr hlk N hk29 x5 s0 σ _ _ _ hf hR (lv_sub hl [1, 2, 5, 0] rfl)
    · replace hf := z_f c_22 hf
      refine lv_goto (tgt := 142) hx hb dX11_ask_132 (by decide) ?_
      exact w11_ask_142 X hr hlk N hk29 x3 x4 x5 σ _ _ _ hf hR (lv_sub hl [1, 2, 3, 4, 5] rfl)
set_option maxHeartbeats 4000000 in
set_option maxRecDepth 100000 in
theorem w11_ask_95 (X : Cx p s m args c cX11_ask 8 RX11 G) (hr : meth.sig.returnType = some .int) (hlk : meth.locks = false) (N : Nat) {x2 : Int32} {k29 : Int32 → Int32 → Int32 → Mm → Option (Int32 × Mm)} (hk29 : ∀ (x3 : Int32) (x4 : Int32) (x5 : Int32) (σ : Mm) (H : Heap) (locs : List Loc) (ls : Array Slot), k29 x3 x4 x5 σ = some (r0, σ0) → Rp G 212 tt σ s H locs → lv_has ls 8 [(0, .ref (G.2.2 + 160)), (2, .int x2), (3, .int x3), (4, .int x4), (5, .int x5)] → W p l e rm11_ask s m args below meth c H locs 0 0 (MQ below (P_i G 212 tt r0 σ0) args s 0 0 (Fr G)) (F0 m 29 ls [])) :
    ∀ (x3 : Int32) (x4 : Int32) (x5 : Int32) (x6 : Int32) (σ : Mm) (H : Heap) (locs : List Loc) (ls : Array Slot), f11_ask_95 N k29 x2 x3 x4 x5 x6 σ = some (r0, σ0) → Rp G 212 tt σ s H locs → lv_has ls 8 [(0, .ref (G.2.2 + 160)), (2, .int x2), (3, .int x3), (4, .int x4), (5, .int x5), (6, .int x6)] → W p l e rm11_ask s m args below meth c H locs 0 0 (MQ below (P_i G 212 tt r0 σ0) args s 0 0 (Fr G)) (F0 m 95 ls []) := by
  have hx := X.1
  have hb := X.2.1
  intro x3 x4 x5 x6 σ H locs ls hf hR hl
  unfold f11_ask_95 at hf
  refine lv_iload hx hb dX11_ask_95 (lv_at hl 5 rfl) ?_
  refine lv_iload_n hx hb dX11_ask_97 rfl (lv_at hl 1 rfl) ?_
  obtain ⟨r_13, σ_14, hc_15, hf⟩ := z_b_e hf
  refine go_i hR (ms_run (As := [.int x2]) (rest := [.int x6]) X hR ms_11_366 (c11_bits l G N hc_15) ⟨rfl, rfl, Nat.le_of_ble_eq_true rfl, Nat.le_of_ble_eq_true rfl⟩ rfl hl.1 rfl (Nat.le_of_ble_eq_true rfl) dX11_ask_98 ⟨Nat.zero_le _, Nat.zero_le _⟩) (fun H locs hR => ?_)
  refine lv_iload hx hb dX11_ask_101 (lv_at hl 5 rfl) ?_
  refine lv_isub hx hb dX11_ask_103 ?_
  refine lv_icmp_le (tgt := 112) hx hb dX11_ask_104 (by decide) (fun c_16 => ?_) (fun c_16 => ?_)
  · replace hf := z_t c_16 hf
    refine lv_iload_n hx hb dX11_ask_112 rfl (lv_at hl 1 rfl) ?_
    obtain ⟨r_17, σ_18, hc_19, hf⟩ := z_b_e hf
    refine go_i hR (ms_run (As := [.int x2]) (rest := []) X hR ms_11_366 (c11_bits l G N hc_19) ⟨rfl, rfl, Nat.le_of_ble_eq_true rfl, Nat.le_of_ble_eq_true rfl⟩ rfl hl.1 rfl (Nat.le_of_ble_eq_true rfl) dX11_ask_113 ⟨Nat.zero_le _, Nat.zero_le _⟩) (fun H locs hR => ?_)
    refine lv_iload hx hb dX11_ask_116 (lv_at hl 5 rfl) ?_
    refine lv_isub hx hb dX11_ask_118 ?_
    exact w11_ask_119 X hr hlk N hk29 x3 x4 x5 (r_17 - x6) σ_18 _ _ _ hf hR (lv_sub hl [0, 1, 2, 3, 4] rfl)
  · replace hf := z_f c_16 hf
    refine lv_iload hx hb dX11_ask_107 (lv_at hl 5 rfl) ?_
    refine lv_goto (tgt := 119) hx hb dX11_ask_109 (by decide) ?_
    exact w11_ask_119 X hr hlk N hk29 x3 x4 x5 x6 σ_14 _ _ _ hf hR (lv_sub hl [0, 1, 2, 3, 4] rfl)
set_option maxHeartbeats 4000000 in
set_option maxRecDepth 100000 in
theorem w11_ask_89 (X : Cx p s m args c cX11_ask 8 RX11 G) (hr : meth.sig.returnType = some .int) (hlk : meth.locks = false) (N : Nat) {x2 : Int32} {x3 : Int32} {x4 : Int32} {x5 : Int32} {k29 : Int32 → Int32 → Int32 → Mm → Option (Int32 × Mm)} (hk29 : ∀ (x3 : Int32) (x4 : Int32) (x5 : Int32) (σ : Mm) (H : Heap) (locs : List Loc) (ls : Array Slot), k29 x3 x4 x5 σ = some (r0, σ0) → Rp G 212 tt σ s H locs → lv_has ls 8 [(0, .ref (G.2.2 + 160)), (2, .int x2), (3, .int x3), (4, .int x4), (5, .int x5)] → W p l e rm11_ask s m args below meth c H locs 0 0 (MQ below (P_i G 212 tt r0 σ0) args s 0 0 (Fr G)) (F0 m 29 ls [])) {k53 : Int32 → Int32 → Mm → Option (Int32 × Mm)} (hk53 : ∀ (x6 : Int32) (x7 : Int32) (σ : Mm) (H : Heap) (locs : List Loc) (ls : Array Slot), k53 x6 x7 σ = some (r0, σ0) → Rp G 212 tt σ s H locs → lv_has ls 8 [(0, .ref (G.2.2 + 160)), (2, .int x2), (3, .int x3), (4, .int x4), (5, .int x5), (6, .int x6), (7, .int x7)] → W p l e rm11_ask s m args below meth c H locs 0 0 (MQ below (P_i G 212 tt r0 σ0) args s 0 0 (Fr G)) (F0 m 53 ls [])) :
    ∀ (x6 : Int32) (x7 : Int32) (σ : Mm) (H : Heap) (locs : List Loc) (ls : Array Slot), f11_ask_89 N k29 k53 x2 x3 x4 x5 x6 x7 σ = some (r0, σ0) → Rp G 212 tt σ s H locs → lv_has ls 8 [(0, .ref (G.2.2 + 160)), (2, .int x2), (3, .int x3), (4, .int x4), (5, .int x5), (6, .int x6), (7, .int x7)] → W p l e rm11_ask s m args below meth c H locs 0 0 (MQ below (P_i G 212 tt r0 σ0) args s 0 0 (Fr G)) (F0 m 89 ls []) := by
  have hx := X.1
  have hb := X.2.1
  intro x6 x7 σ H locs ls hf hR hl
  unfold f11_ask_89 at hf
  obtain ⟨x7_24, ex7_24⟩ : ∃ z : Int32, z = x7 + (1 : Int32) := ⟨_, rfl⟩
  replace hf := z_l_e ex7_24 hf
  refine lv_iinc (v := x7_24) (lv' := [(7, .int x7_24), (0, .ref (G.2.2 + 160)), (2, .int x2), (3, .int x3), (4, .int x4), (5, .int x5), (6, .int x6)]) hx hb dX11_ask_89 hl (k := 6) rfl (by rw [ex7_24]; rfl) (by decide) rfl (fun ls hl => ?_)
  refine lv_goto (tgt := 53) hx hb dX11_ask_92 (by decide) ?_
  exact hk53 x6 x7_24 σ _ _ _ hf hR (lv_sub hl [1, 2, 3, 4, 5, 6, 0] rfl)
set_option maxHeartbeats 4000000 in
set_option maxRecDepth 100000 in
theorem w11_ask_53 (X : Cx p s m args c cX11_ask 8 RX11 G) (hr : meth.sig.returnType = some .int) (hlk : meth.locks = false) (N : Nat) {x2 : Int32} {x3 : Int32} {x4 : Int32} {x5 : Int32} {k29 : Int32 → Int32 → Int32 → Mm → Option (Int32 × Mm)} (hk29 : ∀ (x3 : Int32) (x4 : Int32) (x5 : Int32) (σ : Mm) (H : Heap) (locs : List Loc) (ls : Array Slot), k29 x3 x4 x5 σ = some (r0, σ0) → Rp G 212 tt σ s H locs → lv_has ls 8 [(0, .ref (G.2.2 + 160)), (2, .int x2), (3, .int x3), (4, .int x4), (5, .int x5)] → W p l e rm11_ask s m args below meth c H locs 0 0 (MQ below (P_i G 212 tt r0 σ0) args s 0 0 (Fr G)) (F0 m 29 ls [])) :
    ∀ (fu : Nat) (x6 : Int32) (x7 : Int32) (σ : Mm) (H : Heap) (locs : List Loc) (ls : Array Slot), f11_ask_53 N k29 x2 x3 x4 x5 fu x6 x7 σ = some (r0, σ0) → Rp G 212 tt σ s H locs → lv_has ls 8 [(0, .ref (G.2.2 + 160)), (2, .int x2), (3, .int x3), (4, .int x4), (5, .int x5), (6, .int x6), (7, .int x7)] → W p l e rm11_ask s m args below meth c H locs 0 0 (MQ below (P_i G 212 tt r0 σ0) args s 0 0 (Fr G)) (F0 m 53 ls []) := by
  have hx := X.1
  have hb := X.2.1
  intro fu
  induction fu with
  | zero =>
    intro x6 x7 σ H locs ls hf hR hl
    rw [f11_ask_53] at hf
    cases hf
  | succ fu ih =>
    intro x6 x7 σ H locs ls hf hR hl
    rw [f11_ask_53] at hf
    refine lv_iload hx hb dX11_ask_53 (lv_at hl 6 rfl) ?_
    refine lv_aload_n hx hb dX11_ask_55 rfl (lv_at hl 0 rfl) ?_
    refine r_gs (t := 199) X hR fr_11_134 kh_160 (sx_11_56 kh_160) dX11_ask_56 ?_
    refine lv_bipush (v := (15 : Int32)) hx hb dX11_ask_59 (by decide) ?_
    obtain ⟨hi_11, hf⟩ := z_c_e hf
    refine r_ial X hR ka_199 hi_11 dX11_ask_61 ?_
    refine lv_icmp_ge (tgt := 95) hx hb dX11_ask_62 (by decide) (fun c_12 => ?_) (fun c_12 => ?_)
    · replace hf := z_t c_12 hf
      exact w11_ask_95 X hr hlk N hk29 x3 x4 x5 x6 σ _ _ _ hf hR (lv_sub hl [0, 1, 2, 3, 4, 5] rfl)
    · replace hf := z_f c_12 hf
      refine lv_iload_n hx hb dX11_ask_65 rfl (lv_at hl 1 rfl) ?_
      refine lv_iload hx hb dX11_ask_66 (lv_at hl 6 rfl) ?_
      refine lv_ishr hx hb dX11_ask_68 ?_
      refine lv_iconst (v := (1 : Int32)) hx hb dX11_ask_69 (by decide) ?_
      refine lv_iand hx hb dX11_ask_70 ?_
      refine lv_iconst (v := (1 : Int32)) hx hb dX11_ask_71 (by decide) ?_
      refine lv_icmp_ne (tgt := 89) hx hb dX11_ask_72 (by decide) (fun c_23 => ?_) (fun c_23 => ?_)
      · replace hf := z_f c_23 hf
        exact w11_ask_89 X hr hlk N hk29 ih x6 x7 σ _ _ _ hf hR (lv_sub hl [0, 1, 2, 3, 4, 5, 6] rfl)
      · replace hf := z_t c_23 hf
        refine lv_aload_n hx hb dX11_ask_75 rfl (lv_at hl 0 rfl) ?_
        refine lv_iload hx hb dX11_ask_76 (lv_at hl 4 rfl) ?_
        refine lv_iload hx hb dX11_ask_78 (lv_at hl 6 rfl) ?_
        obtain ⟨r_25, σ_26, hc_27, hf⟩ := z_b_e hf
        refine go_i hR (mv_run (As := [.int x5, .int x7]) (rest := []) X hR mv_11_378 kh_160 (kd_lt kh_160 (by decide)) (c11_doesSwear l G N hc_27) ⟨rfl, rfl, Nat.le_of_ble_eq_true rfl, Nat.le_of_ble_eq_true rfl⟩ rfl hl.1 rfl (Nat.le_of_ble_eq_true rfl) dX11_ask_80 ⟨Nat.zero_le _, Nat.zero_le _⟩) (fun H locs hR => ?_)
        refine lv_if_eq (tgt := 89) hx hb dX11_ask_83 (by decide) (fun c_28 => ?_) (fun c_28 => ?_)
        · replace hf := z_t c_28 hf
          exact w11_ask_89 X hr hlk N hk29 ih x6 x7 σ_26 _ _ _ hf hR (lv_sub hl [0, 1, 2, 3, 4, 5, 6] rfl)
        · replace hf := z_f c_28 hf
          obtain ⟨x6_29, ex6_29⟩ : ∃ z : Int32, z = x6 + (1 : Int32) := ⟨_, rfl⟩
          replace hf := z_l_e ex6_29 hf
          refine lv_iinc (v := x6_29) (lv' := [(6, .int x6_29), (0, .ref (G.2.2 + 160)), (2, .int x2), (3, .int x3), (4, .int x4), (5, .int x5), (7, .int x7)]) hx hb dX11_ask_86 hl (k := 5) rfl (by rw [ex6_29]; rfl) (by decide) rfl (fun ls hl => ?_)
          exact w11_ask_89 X hr hlk N hk29 ih x6_29 x7 σ_26 _ _ _ hf hR (lv_sub hl [1, 2, 3, 4, 5, 0, 6] rfl)
set_option maxHeartbeats 4000000 in
set_option maxRecDepth 100000 in
theorem w11_ask_29 (X : Cx p s m args c cX11_ask 8 RX11 G) (hr : meth.sig.returnType = some .int) (hlk : meth.locks = false) (N : Nat) {x2 : Int32} :
    ∀ (fu : Nat) (x3 : Int32) (x4 : Int32) (x5 : Int32) (σ : Mm) (H : Heap) (locs : List Loc) (ls : Array Slot), f11_ask_29 N x2 fu x3 x4 x5 σ = some (r0, σ0) → Rp G 212 tt σ s H locs → lv_has ls 8 [(0, .ref (G.2.2 + 160)), (2, .int x2), (3, .int x3), (4, .int x4), (5, .int x5)] → W p l e rm11_ask s m args below meth c H locs 0 0 (MQ below (P_i G 212 tt r0 σ0) args s 0 0 (Fr G)) (F0 m 29 ls []) := by
  have hx := X.1
  have hb := X.2.1
  intro fu
  induction fu with
  | zero =>
    intro x3 x4 x5 σ H locs ls hf hR hl
    rw [f11_ask_29] at hf
    cases hf
  | succ fu ih =>
    intro x3 x4 x5 σ H locs ls hf hR hl
    rw [f11_ask_29] at hf
    refine lv_iload hx hb dX11_ask_29 (lv_at hl 4 rfl) ?_
    refine lv_aload_n hx hb dX11_ask_31 rfl (lv_at hl 0 rfl) ?_
    refine r_gs (t := 175) X hR fr_11_61 kh_160 (sx_11_28 kh_160) dX11_ask_32 ?_
    refine lv_aload_n hx hb dX11_ask_35 rfl (lv_at hl 0 rfl) ?_
    refine r_gi X hR fi_11_254 kh_160 dX11_ask_36 ?_
    obtain ⟨hi_8, hf⟩ := z_c_e hf
    refine r_ial X hR ka_175 hi_8 dX11_ask_39 ?_
    refine lv_icmp_ge (tgt := 148) hx hb dX11_ask_40 (by decide) (fun c_9 => ?_) (fun c_9 => ?_)
    · replace hf := z_t c_9 hf
      refine lv_iload_n hx hb dX11_ask_148 rfl (lv_at hl 2 rfl) ?_
      exact e_i X hR hr hlk hf dX11_ask_149
    · replace hf := z_f c_9 hf
      refine lv_iload_n hx hb dX11_ask_43 rfl (lv_at hl 1 rfl) ?_
      refine lv_if_eq (tgt := 148) hx hb dX11_ask_44 (by decide) (fun c_10 => ?_) (fun c_10 => ?_)
      · replace hf := z_t c_10 hf
        refine lv_iload_n hx hb dX11_ask_148 rfl (lv_at hl 2 rfl) ?_
        exact e_i X hR hr hlk hf dX11_ask_149
      · replace hf := z_f c_10 hf
        refine lv_iconst (v := (0 : Int32)) hx hb dX11_ask_47 (by decide) ?_
        refine lv_istore (lv' := [(6, .int (0 : Int32)), (0, .ref (G.2.2 + 160)), (2, .int x2), (3, .int x3), (4, .int x4), (5, .int x5)]) hx hb dX11_ask_48 hl (by decide) rfl (fun ls hl => ?_)
        refine lv_iconst (v := (0 : Int32)) hx hb dX11_ask_50 (by decide) ?_
        refine lv_istore (lv' := [(7, .int (0 : Int32)), (6, .int (0 : Int32)), (0, .ref (G.2.2 + 160)), (2, .int x2), (3, .int x3), (4, .int x4), (5, .int x5)]) hx hb dX11_ask_51 hl (by decide) rfl (fun ls hl => ?_)
        exact w11_ask_53 X hr hlk N ih N (0 : Int32) (0 : Int32) σ _ _ _ hf hR (lv_sub hl [2, 3, 4, 5, 6, 1, 0] rfl)
set_option maxHeartbeats 4000000 in
set_option maxRecDepth 100000 in
theorem c11_ask (l : Launch) (G : Gp) (N : Nat) {x1 : Int32} {σ σ0 : Mm} {r0 : Int32} (hf : f11_ask N x1 σ = some (r0, σ0)) : Met l yX11_ask (WS yX11_ask cX11_ask 8 (some .int)) rm11_ask (va_Pc [.ref (G.2.2 + 160), .int x1] (Pd G 212 tt σ)) (P_i G 212 tt r0 σ0) 0 0 (Fr G) := by
  refine ct [(0, .ref (G.2.2 + 160)), (1, .int x1)] rfl (by decide) (Nat.le_of_ble_eq_true rfl) ?_
  intro p e s m below meth c ls X hr hlk hR hl
  have X : Cx p s m _ c cX11_ask 8 RX11 G := X
  have hx := X.1
  have hb := X.2.1
  unfold f11_ask at hf
  refine lv_iload_n hx hb dX11_ask_0 rfl (lv_at hl 1 rfl) ?_
  refine lv_iconst (v := (0 : Int32)) hx hb dX11_ask_1 (by decide) ?_
  refine lv_aload_n hx hb dX11_ask_2 rfl (lv_at hl 0 rfl) ?_
  refine r_gi X hR fi_11_275 kh_160 dX11_ask_3 ?_
  obtain ⟨r_1, σ_2, hc_3, hf⟩ := z_b_e hf
  refine go_i hR (ms_run (As := [.int x1, .int (0 : Int32), .int (gI σ 160 69)]) (rest := []) X hR ms_11_340 (c11_in l G N hc_3) ⟨rfl, rfl, Nat.le_of_ble_eq_true rfl, Nat.le_of_ble_eq_true rfl⟩ rfl hl.1 rfl (Nat.le_of_ble_eq_true rfl) dX11_ask_6 ⟨Nat.zero_le _, Nat.zero_le _⟩) (fun H locs hR => ?_)
  refine lv_if_ne (tgt := 14) hx hb dX11_ask_9 (by decide) (fun c_4 => ?_) (fun c_4 => ?_)
  · replace hf := z_f c_4 hf
    refine lv_aload_n hx hb dX11_ask_14 rfl (lv_at hl 0 rfl) ?_
    refine lv_iload_n hx hb dX11_ask_15 rfl (lv_at hl 1 rfl) ?_
    obtain ⟨r_5, σ_6, hc_7, hf⟩ := z_b_e hf
    refine go_i hR (mv_run (As := [.int x1]) (rest := []) X hR mv_11_473 kh_160 (kd_lt kh_160 (by decide)) (c11_whichBits l G N hc_7) ⟨rfl, rfl, Nat.le_of_ble_eq_true rfl, Nat.le_of_ble_eq_true rfl⟩ rfl hl.1 rfl (Nat.le_of_ble_eq_true rfl) dX11_ask_16 ⟨Nat.zero_le _, Nat.zero_le _⟩) (fun H locs hR => ?_)
    refine lv_istore_n (lv' := [(2, .int r_5), (0, .ref (G.2.2 + 160)), (1, .int x1)]) hx hb dX11_ask_19 rfl hl (by decide) rfl (fun ls hl => ?_)
    refine lv_bipush (v := (-2 : Int32)) hx hb dX11_ask_20 (by decide) ?_
    refine lv_istore_n (lv' := [(3, .int (-2 : Int32)), (2, .int r_5), (0, .ref (G.2.2 + 160)), (1, .int x1)]) hx hb dX11_ask_22 rfl hl (by decide) rfl (fun ls hl => ?_)
    refine lv_iconst (v := (0 : Int32)) hx hb dX11_ask_23 (by decide) ?_
    refine lv_istore (lv' := [(4, .int (0 : Int32)), (3, .int (-2 : Int32)), (2, .int r_5), (0, .ref (G.2.2 + 160)), (1, .int x1)]) hx hb dX11_ask_24 hl (by decide) rfl (fun ls hl => ?_)
    refine lv_iconst (v := (0 : Int32)) hx hb dX11_ask_26 (by decide) ?_
    refine lv_istore (lv' := [(5, .int (0 : Int32)), (4, .int (0 : Int32)), (3, .int (-2 : Int32)), (2, .int r_5), (0, .ref (G.2.2 + 160)), (1, .int x1)]) hx hb dX11_ask_27 hl (by decide) rfl (fun ls hl => ?_)
    exact w11_ask_29 X hr hlk N  N (-2 : Int32) (0 : Int32) (0 : Int32) σ_6 _ _ _ hf hR (lv_sub hl [4, 3, 2, 1, 0] rfl)
  · replace hf := z_t c_4 hf
    refine lv_iconst (v := (-1 : Int32)) hx hb dX11_ask_12 (by decide) ?_
    exact e_i X hR hr hlk hf dX11_ask_13
abbrev rm11_hold : Room := { frames := 1, cells := 0, slots := 0, locals := 22 }
def f11_hold_20 (N : Nat) (x1 : Int32) : Nat → Int32 → Mm → Option (Int32 × Mm)
  | 0, _, _ => none
  | fu + 1, x2, σ => if (117 : Int32) ≤ x2 then (
  some ((1 : Int32), σ)) else (
  z_c (inB x2 117) (
  z_c (inB (((117 : Int32) * x1) + x2) 351) (z_l (sI σ 211 (ix (((117 : Int32) * x1) + x2)) (gI σ 198 (ix x2))) fun σ_10 =>
  z_l (x2 + (1 : Int32)) fun x2_11 =>
  f11_hold_20 N x1 fu x2_11 σ_10)))
def f11_hold (N : Nat) (x1 : Int32) (σ : Mm) : Option (Int32 × Mm) :=
  z_b (f11_in N x1 (0 : Int32) (2 : Int32) σ) fun r_1 σ_2 =>
  if r_1 = 0 then (
  some ((0 : Int32), σ_2)) else (
  z_c (inB x1 3) (z_l (sI σ_2 210 (ix x1) (vp_nar .boolean (1 : Int32))) fun σ_6 =>
  f11_hold_20 N x1 N (0 : Int32) σ_6))
set_option maxHeartbeats 4000000 in
set_option maxRecDepth 100000 in
theorem w11_hold_20 (X : Cx p s m args c cX11_hold 3 RX11 G) (hr : meth.sig.returnType = some .boolean) (hlk : meth.locks = false) (N : Nat) {x1 : Int32} :
    ∀ (fu : Nat) (x2 : Int32) (σ : Mm) (H : Heap) (locs : List Loc) (ls : Array Slot), f11_hold_20 N x1 fu x2 σ = some (r0, σ0) → Rp G 212 tt σ s H locs → lv_has ls 3 [(0, .ref (G.2.2 + 160)), (1, .int x1), (2, .int x2)] → W p l e rm11_hold s m args below meth c H locs 0 0 (MQ below (P_i G 212 tt r0 σ0) args s 0 0 (Fr G)) (F0 m 20 ls []) := by
  have hx := X.1
  have hb := X.2.1
  intro fu
  induction fu with
  | zero =>
    intro x2 σ H locs ls hf hR hl
    rw [f11_hold_20] at hf
    cases hf
  | succ fu ih =>
    intro x2 σ H locs ls hf hR hl
    rw [f11_hold_20] at hf
    refine lv_iload_n hx hb dX11_hold_20 rfl (lv_at hl 2 rfl) ?_
    refine lv_bipush (v := (117 : Int32)) hx hb dX11_hold_21 (by decide) ?_
    refine lv_icmp_ge (tgt := 49) hx hb dX11_hold_23 (by decide) (fun c_7 => ?_) (fun c_7 => ?_)
    · replace hf := z_t c_7 hf
      refine lv_iconst (v := (1 : Int32)) hx hb dX11_hold_49 (by decide) ?_
      exact e_z X hR hr hlk rfl hf dX11_hold_50
    · replace hf := z_f c_7 hf
      refine lv_aload_n hx hb dX11_hold_26 rfl (lv_at hl 0 rfl) ?_
      refine r_gs (t := 211) X hR fr_11_170 kh_160 (sx_11_73 kh_160) dX11_hold_27 ?_
      refine lv_bipush (v := (117 : Int32)) hx hb dX11_hold_30 (by decide) ?_
      refine lv_iload_n hx hb dX11_hold_32 rfl (lv_at hl 1 rfl) ?_
      refine lv_imul hx hb dX11_hold_33 ?_
      refine lv_iload_n hx hb dX11_hold_34 rfl (lv_at hl 2 rfl) ?_
      refine lv_iadd hx hb dX11_hold_35 ?_
      refine lv_aload_n hx hb dX11_hold_36 rfl (lv_at hl 0 rfl) ?_
      refine r_gs (t := 198) X hR fr_11_131 kh_160 (sx_11_55 kh_160) dX11_hold_37 ?_
      refine lv_iload_n hx hb dX11_hold_40 rfl (lv_at hl 2 rfl) ?_
      obtain ⟨hi_8, hf⟩ := z_c_e hf
      refine r_ial X hR ka_198 hi_8 dX11_hold_41 ?_
      obtain ⟨hi_9, hf⟩ := z_c_e hf
      refine r_ias X hR ka_211 hi_9 dX11_hold_42 (fun H locs σ_10 eσ_10 hR => ?_)
      replace hf := z_l_e eσ_10 hf
      obtain ⟨x2_11, ex2_11⟩ : ∃ z : Int32, z = x2 + (1 : Int32) := ⟨_, rfl⟩
      replace hf := z_l_e ex2_11 hf
      refine lv_iinc (v := x2_11) (lv' := [(2, .int x2_11), (0, .ref (G.2.2 + 160)), (1, .int x1)]) hx hb dX11_hold_43 hl (k := 2) rfl (by rw [ex2_11]; rfl) (by decide) rfl (fun ls hl => ?_)
      refine lv_goto (tgt := 20) hx hb dX11_hold_46 (by decide) ?_
      exact ih x2_11 σ_10 _ _ _ hf hR (lv_sub hl [1, 2, 0] rfl)
set_option maxHeartbeats 4000000 in
set_option maxRecDepth 100000 in
theorem c11_hold (l : Launch) (G : Gp) (N : Nat) {x1 : Int32} {σ σ0 : Mm} {r0 : Int32} (hf : f11_hold N x1 σ = some (r0, σ0)) : Met l yX11_hold (WS yX11_hold cX11_hold 3 (some .boolean)) rm11_hold (va_Pc [.ref (G.2.2 + 160), .int x1] (Pd G 212 tt σ)) (P_i G 212 tt r0 σ0) 0 0 (Fr G) := by
  refine ct [(0, .ref (G.2.2 + 160)), (1, .int x1)] rfl (by decide) (Nat.le_of_ble_eq_true rfl) ?_
  intro p e s m below meth c ls X hr hlk hR hl
  have X : Cx p s m _ c cX11_hold 3 RX11 G := X
  have hx := X.1
  have hb := X.2.1
  unfold f11_hold at hf
  refine lv_iload_n hx hb dX11_hold_0 rfl (lv_at hl 1 rfl) ?_
  refine lv_iconst (v := (0 : Int32)) hx hb dX11_hold_1 (by decide) ?_
  refine lv_iconst (v := (2 : Int32)) hx hb dX11_hold_2 (by decide) ?_
  obtain ⟨r_1, σ_2, hc_3, hf⟩ := z_b_e hf
  refine go_i hR (ms_run (As := [.int x1, .int (0 : Int32), .int (2 : Int32)]) (rest := []) X hR ms_11_340 (c11_in l G N hc_3) ⟨rfl, rfl, Nat.le_of_ble_eq_true rfl, Nat.le_of_ble_eq_true rfl⟩ rfl hl.1 rfl (Nat.le_of_ble_eq_true rfl) dX11_hold_3 ⟨Nat.zero_le _, Nat.zero_le _⟩) (fun H locs hR => ?_)
  refine lv_if_ne (tgt := 11) hx hb dX11_hold_6 (by decide) (fun c_4 => ?_) (fun c_4 => ?_)
  · replace hf := z_f c_4 hf
    refine lv_aload_n hx hb dX11_hold_11 rfl (lv_at hl 0 rfl) ?_
    refine r_gs (t := 210) X hR fr_11_167 kh_160 (sx_11_72 kh_160) dX11_hold_12 ?_
    refine lv_iload_n hx hb dX11_hold_15 rfl (lv_at hl 1 rfl) ?_
    refine lv_iconst (v := (1 : Int32)) hx hb dX11_hold_16 (by decide) ?_
    obtain ⟨hi_5, hf⟩ := z_c_e hf
    refine r_zas X hR ka_210 hi_5 dX11_hold_17 (fun H locs σ_6 eσ_6 hR => ?_)
    replace hf := z_l_e eσ_6 hf
    refine lv_iconst (v := (0 : Int32)) hx hb dX11_hold_18 (by decide) ?_
    refine lv_istore_n (lv' := [(2, .int (0 : Int32)), (0, .ref (G.2.2 + 160)), (1, .int x1)]) hx hb dX11_hold_19 rfl hl (by decide) rfl (fun ls hl => ?_)
    exact w11_hold_20 X hr hlk N  N (0 : Int32) σ_6 _ _ _ hf hR (lv_sub hl [1, 2, 0] rfl)
  · replace hf := z_t c_4 hf
    refine lv_iconst (v := (0 : Int32)) hx hb dX11_hold_9 (by decide) ?_
    exact e_z X hR hr hlk rfl hf dX11_hold_10
abbrev rm11_restore : Room := { frames := 1, cells := 0, slots := 0, locals := 22 }
def f11_restore_51 (N : Nat) (σ : Mm) : Option (Int32 × Mm) :=
  z_l (sI σ 160 63 (0 : Int32)) fun σ_8 =>
  some ((1 : Int32), σ_8)
def f11_restore_22 (N : Nat) (x1 : Int32) : Nat → Int32 → Mm → Option (Int32 × Mm)
  | 0, _, _ => none
  | fu + 1, x2, σ => if (117 : Int32) ≤ x2 then (
  f11_restore_51 N σ) else (
  z_c (inB (((117 : Int32) * x1) + x2) 351) (
  z_c (inB x2 117) (z_l (sI σ 198 (ix x2) (gI σ 211 (ix (((117 : Int32) * x1) + x2)))) fun σ_11 =>
  z_l (x2 + (1 : Int32)) fun x2_12 =>
  f11_restore_22 N x1 fu x2_12 σ_11)))
def f11_restore (N : Nat) (x1 : Int32) (σ : Mm) : Option (Int32 × Mm) :=
  z_b (f11_in N x1 (0 : Int32) (2 : Int32) σ) fun r_1 σ_2 =>
  if r_1 = 0 then (
  some ((0 : Int32), σ_2)) else (
  z_c (inB x1 3) (
  if (gI σ_2 210 (ix x1)) = 0 then (
  some ((0 : Int32), σ_2)) else (
  f11_restore_22 N x1 N (0 : Int32) σ_2)))
set_option maxHeartbeats 4000000 in
set_option maxRecDepth 100000 in
theorem w11_restore_51 (X : Cx p s m args c cX11_restore 3 RX11 G) (hr : meth.sig.returnType = some .boolean) (hlk : meth.locks = false) (N : Nat) :
    ∀ (σ : Mm) (H : Heap) (locs : List Loc) (ls : Array Slot), f11_restore_51 N σ = some (r0, σ0) → Rp G 212 tt σ s H locs → lv_has ls 3 [(0, .ref (G.2.2 + 160))] → W p l e rm11_restore s m args below meth c H locs 0 0 (MQ below (P_i G 212 tt r0 σ0) args s 0 0 (Fr G)) (F0 m 51 ls []) := by
  have hx := X.1
  have hb := X.2.1
  intro σ H locs ls hf hR hl
  unfold f11_restore_51 at hf
  refine lv_aload_n hx hb dX11_restore_51 rfl (lv_at hl 0 rfl) ?_
  refine lv_iconst (v := (0 : Int32)) hx hb dX11_restore_52 (by decide) ?_
  refine r_pi X hR pi_11_272 kh_160 dX11_restore_53 (fun H locs σ_8 eσ_8 hR => ?_)
  replace hf := z_l_e eσ_8 hf
  refine lv_iconst (v := (1 : Int32)) hx hb dX11_restore_56 (by decide) ?_
  exact e_z X hR hr hlk rfl hf dX11_restore_57
set_option maxHeartbeats 4000000 in
set_option maxRecDepth 100000 in
theorem w11_restore_22 (X : Cx p s m args c cX11_restore 3 RX11 G) (hr : meth.sig.returnType = some .boolean) (hlk : meth.locks = false) (N : Nat) {x1 : Int32} :
    ∀ (fu : Nat) (x2 : Int32) (σ : Mm) (H : Heap) (locs : List Loc) (ls : Array Slot), f11_restore_22 N x1 fu x2 σ = some (r0, σ0) → Rp G 212 tt σ s H locs → lv_has ls 3 [(0, .ref (G.2.2 + 160)), (1, .int x1), (2, .int x2)] → W p l e rm11_restore s m args below meth c H locs 0 0 (MQ below (P_i G 212 tt r0 σ0) args s 0 0 (Fr G)) (F0 m 22 ls []) := by
  have hx := X.1
  have hb := X.2.1
  intro fu
  induction fu with
  | zero =>
    intro x2 σ H locs ls hf hR hl
    rw [f11_restore_22] at hf
    cases hf
  | succ fu ih =>
    intro x2 σ H locs ls hf hR hl
    rw [f11_restore_22] at hf
    refine lv_iload_n hx hb dX11_restore_22 rfl (lv_at hl 2 rfl) ?_
    refine lv_bipush (v := (117 : Int32)) hx hb dX11_restore_23 (by decide) ?_
    refine lv_icmp_ge (tgt := 51) hx hb dX11_restore_25 (by decide) (fun c_7 => ?_) (fun c_7 => ?_)
    · replace hf := z_t c_7 hf
      exact w11_restore_51 X hr hlk N   σ _ _ _ hf hR (lv_sub hl [0] rfl)
    · replace hf := z_f c_7 hf
      refine lv_aload_n hx hb dX11_restore_28 rfl (lv_at hl 0 rfl) ?_
      refine r_gs (t := 198) X hR fr_11_131 kh_160 (sx_11_55 kh_160) dX11_restore_29 ?_
      refine lv_iload_n hx hb dX11_restore_32 rfl (lv_at hl 2 rfl) ?_
      refine lv_aload_n hx hb dX11_restore_33 rfl (lv_at hl 0 rfl) ?_
      refine r_gs (t := 211) X hR fr_11_170 kh_160 (sx_11_73 kh_160) dX11_restore_34 ?_
      refine lv_bipush (v := (117 : Int32)) hx hb dX11_restore_37 (by decide) ?_
      refine lv_iload_n hx hb dX11_restore_39 rfl (lv_at hl 1 rfl) ?_
      refine lv_imul hx hb dX11_restore_40 ?_
      refine lv_iload_n hx hb dX11_restore_41 rfl (lv_at hl 2 rfl) ?_
      refine lv_iadd hx hb dX11_restore_42 ?_
      obtain ⟨hi_9, hf⟩ := z_c_e hf
      refine r_ial X hR ka_211 hi_9 dX11_restore_43 ?_
      obtain ⟨hi_10, hf⟩ := z_c_e hf
      refine r_ias X hR ka_198 hi_10 dX11_restore_44 (fun H locs σ_11 eσ_11 hR => ?_)
      replace hf := z_l_e eσ_11 hf
      obtain ⟨x2_12, ex2_12⟩ : ∃ z : Int32, z = x2 + (1 : Int32) := ⟨_, rfl⟩
      replace hf := z_l_e ex2_12 hf
      refine lv_iinc (v := x2_12) (lv' := [(2, .int x2_12), (0, .ref (G.2.2 + 160)), (1, .int x1)]) hx hb dX11_restore_45 hl (k := 2) rfl (by rw [ex2_12]; rfl) (by decide) rfl (fun ls hl => ?_)
      refine lv_goto (tgt := 22) hx hb dX11_restore_48 (by decide) ?_
      exact ih x2_12 σ_11 _ _ _ hf hR (lv_sub hl [1, 2, 0] rfl)
set_option maxHeartbeats 4000000 in
set_option maxRecDepth 100000 in
theorem c11_restore (l : Launch) (G : Gp) (N : Nat) {x1 : Int32} {σ σ0 : Mm} {r0 : Int32} (hf : f11_restore N x1 σ = some (r0, σ0)) : Met l yX11_restore (WS yX11_restore cX11_restore 3 (some .boolean)) rm11_restore (va_Pc [.ref (G.2.2 + 160), .int x1] (Pd G 212 tt σ)) (P_i G 212 tt r0 σ0) 0 0 (Fr G) := by
  refine ct [(0, .ref (G.2.2 + 160)), (1, .int x1)] rfl (by decide) (Nat.le_of_ble_eq_true rfl) ?_
  intro p e s m below meth c ls X hr hlk hR hl
  have X : Cx p s m _ c cX11_restore 3 RX11 G := X
  have hx := X.1
  have hb := X.2.1
  unfold f11_restore at hf
  refine lv_iload_n hx hb dX11_restore_0 rfl (lv_at hl 1 rfl) ?_
  refine lv_iconst (v := (0 : Int32)) hx hb dX11_restore_1 (by decide) ?_
  refine lv_iconst (v := (2 : Int32)) hx hb dX11_restore_2 (by decide) ?_
  obtain ⟨r_1, σ_2, hc_3, hf⟩ := z_b_e hf
  refine go_i hR (ms_run (As := [.int x1, .int (0 : Int32), .int (2 : Int32)]) (rest := []) X hR ms_11_340 (c11_in l G N hc_3) ⟨rfl, rfl, Nat.le_of_ble_eq_true rfl, Nat.le_of_ble_eq_true rfl⟩ rfl hl.1 rfl (Nat.le_of_ble_eq_true rfl) dX11_restore_3 ⟨Nat.zero_le _, Nat.zero_le _⟩) (fun H locs hR => ?_)
  refine lv_if_eq (tgt := 18) hx hb dX11_restore_6 (by decide) (fun c_4 => ?_) (fun c_4 => ?_)
  · replace hf := z_t c_4 hf
    refine lv_iconst (v := (0 : Int32)) hx hb dX11_restore_18 (by decide) ?_
    exact e_z X hR hr hlk rfl hf dX11_restore_19
  · replace hf := z_f c_4 hf
    refine lv_aload_n hx hb dX11_restore_9 rfl (lv_at hl 0 rfl) ?_
    refine r_gs (t := 210) X hR fr_11_167 kh_160 (sx_11_72 kh_160) dX11_restore_10 ?_
    refine lv_iload_n hx hb dX11_restore_13 rfl (lv_at hl 1 rfl) ?_
    obtain ⟨hi_5, hf⟩ := z_c_e hf
    refine r_zal X hR ka_210 hi_5 dX11_restore_14 ?_
    refine lv_if_ne (tgt := 20) hx hb dX11_restore_15 (by decide) (fun c_6 => ?_) (fun c_6 => ?_)
    · replace hf := z_f c_6 hf
      refine lv_iconst (v := (0 : Int32)) hx hb dX11_restore_20 (by decide) ?_
      refine lv_istore_n (lv' := [(2, .int (0 : Int32)), (0, .ref (G.2.2 + 160)), (1, .int x1)]) hx hb dX11_restore_21 rfl hl (by decide) rfl (fun ls hl => ?_)
      exact w11_restore_22 X hr hlk N  N (0 : Int32) σ_2 _ _ _ hf hR (lv_sub hl [1, 2, 0] rfl)
    · replace hf := z_t c_6 hf
      refine lv_iconst (v := (0 : Int32)) hx hb dX11_restore_18 (by decide) ?_
      exact e_z X hR hr hlk rfl hf dX11_restore_19
abbrev rm11_count : Room := { frames := 7, cells := 0, slots := 0, locals := 162 }
def f11_count_136 (N : Nat) : Nat → Int32 → Int32 → Mm → Option (Int32 × Mm)
  | 0, _, _, _ => none
  | fu + 1, x2, x3, σ => z_c (inB (gI σ 160 18) 2) (
  if (gI σ 175 (ix (gI σ 160 18))) ≤ x3 then (
  some (x2, σ)) else (
  z_c (inB ((7 : Int32) + x3) 117) (
  z_l ((x2 ||| ((gI σ 199 (ix ((7 : Int32) + x3))) <<< (x3 &&& 31)))) fun x2_17 =>
  z_l (x3 + (1 : Int32)) fun x3_18 =>
  f11_count_136 N fu x2_17 x3_18 σ)))
def f11_count_204 (N : Nat) (k178 : Int32 → Int32 → Mm → Option (Int32 × Mm)) (x2 : Int32) (x3 : Int32) (σ : Mm) : Option (Int32 × Mm) :=
  z_l (x3 + (1 : Int32)) fun x3_28 =>
  k178 x2 x3_28 σ
def f11_count_178 (N : Nat) : Nat → Int32 → Int32 → Mm → Option (Int32 × Mm)
  | 0, _, _, _ => none
  | fu + 1, x2, x3, σ => z_c (inB (15 : Int32) 117) (
  if (gI σ 199 (ix (15 : Int32))) ≤ x3 then (
  some (x2, σ)) else (
  z_c (inB x3 20) (
  if (gI σ 202 (ix x3)) = 0 then (
  f11_count_204 N (fun x2 x3 σ => f11_count_178 N fu x2 x3 σ) x2 x3 σ) else (
  z_l ((x2 ||| ((1 : Int32) <<< (x3 &&& 31)))) fun x2_29 =>
  f11_count_204 N (fun x2 x3 σ => f11_count_178 N fu x2 x3 σ) x2_29 x3 σ))))
def f11_count_263 (N : Nat) (s0 : Int32) (s1 : Int32) (σ : Mm) : Option (Int32 × Mm) :=
  z_c (inB (2 : Int32) 3) (
  if (gI σ 210 (ix (2 : Int32))) = 0 then (
  some (((s0 + s1) + (0 : Int32)), σ)) else (
  some (((s0 + s1) + (1 : Int32)), σ)))
def f11_count_249 (N : Nat) (s0 : Int32) (σ : Mm) : Option (Int32 × Mm) :=
  z_c (inB (1 : Int32) 3) (
  if (gI σ 210 (ix (1 : Int32))) = 0 then (
  f11_count_263 N s0 (0 : Int32) σ) else (
  f11_count_263 N s0 (1 : Int32) σ))
def f11_count_331 (N : Nat) (k292 : Int32 → Int32 → Mm → Option (Int32 × Mm)) (x2 : Int32) (x3 : Int32) (σ : Mm) : Option (Int32 × Mm) :=
  z_l (x3 + (1 : Int32)) fun x3_50 =>
  k292 x2 x3_50 σ
def f11_count_292 (N : Nat) : Nat → Int32 → Int32 → Mm → Option (Int32 × Mm)
  | 0, _, _, _ => none
  | fu + 1, x2, x3, σ => z_c (inB (gI σ 160 18) 2) (
  if (gI σ 171 (ix (gI σ 160 18))) ≤ x3 then (
  some (x2, σ)) else (
  z_c (inB x3 7) (
  z_c (inB (((7 : Int32) * (gI σ 160 18)) + x3) 14) (
  if (gI σ 200 (ix x3)) = (gI σ 174 (ix (((7 : Int32) * (gI σ 160 18)) + x3))) then (
  f11_count_331 N (fun x2 x3 σ => f11_count_292 N fu x2 x3 σ) x2 x3 σ) else (
  z_l (x2 + (1 : Int32)) fun x2_51 =>
  f11_count_331 N (fun x2 x3 σ => f11_count_292 N fu x2 x3 σ) x2_51 x3 σ)))))
def f11_count_341 (N : Nat) : Nat → Int32 → Int32 → Mm → Option (Int32 × Mm)
  | 0, _, _, _ => none
  | fu + 1, x2, x3, σ => z_c (inB (15 : Int32) 117) (
  if (gI σ 199 (ix (15 : Int32))) ≤ x3 then (
  some (x2, σ)) else (
  z_b (f11_swearBits N x3 σ) fun r_55 σ_56 =>
  z_b (f11_bits N r_55 σ_56) fun r_58 σ_59 =>
  z_l ((x2 + r_58)) fun x2_61 =>
  z_l (x3 + (1 : Int32)) fun x3_62 =>
  f11_count_341 N fu x2_61 x3_62 σ_59))
def f11_count (N : Nat) (x1 : Int32) (σ : Mm) : Option (Int32 × Mm) :=
  z_b (f11_goesOnTo N (0 : Int32) σ) fun _ σ_2 =>
  if x1 = (0 : Int32) then (
  z_c (inB (gI σ_2 160 18) 2) (
  some ((gI σ_2 170 (ix (gI σ_2 160 18))), σ_2))) else (
  if x1 = (1 : Int32) then (
  z_c (inB (gI σ_2 160 18) 2) (
  some ((gI σ_2 171 (ix (gI σ_2 160 18))), σ_2))) else (
  if x1 = (2 : Int32) then (
  z_c (inB (gI σ_2 160 18) 2) (
  some ((gI σ_2 175 (ix (gI σ_2 160 18))), σ_2))) else (
  if x1 = (3 : Int32) then (
  z_c (inB (15 : Int32) 117) (
  some ((gI σ_2 199 (ix (15 : Int32))), σ_2))) else (
  if x1 = (4 : Int32) then (
  z_c (inB (14 : Int32) 117) (
  some ((gI σ_2 199 (ix (14 : Int32))), σ_2))) else (
  if x1 = (5 : Int32) then (
  f11_count_136 N N (0 : Int32) (0 : Int32) σ_2) else (
  if x1 = (6 : Int32) then (
  z_b (f11_standBits N σ_2) fun r_20 σ_21 =>
  some (r_20, σ_21)) else (
  if x1 = (7 : Int32) then (
  f11_count_178 N N (0 : Int32) (0 : Int32) σ_2) else (
  if x1 = (8 : Int32) then (
  z_c (inB (16 : Int32) 117) (
  some ((gI σ_2 199 (ix (16 : Int32))), σ_2))) else (
  if x1 = (9 : Int32) then (
  some ((gI σ_2 160 2), σ_2)) else (
  if x1 = (10 : Int32) then (
  some ((gI σ_2 160 63), σ_2)) else (
  if x1 = (11 : Int32) then (
  some ((gI σ_2 160 69), σ_2)) else (
  if x1 = (12 : Int32) then (
  z_c (inB (0 : Int32) 3) (
  if (gI σ_2 210 (ix (0 : Int32))) = 0 then (
  f11_count_249 N (0 : Int32) σ_2) else (
  f11_count_249 N (1 : Int32) σ_2))) else (
  if x1 = (13 : Int32) then (
  z_c (inB (gI σ_2 160 18) 2) (
  some ((gI σ_2 184 (ix (gI σ_2 160 18))), σ_2))) else (
  if x1 = (14 : Int32) then (
  f11_count_292 N N (0 : Int32) (0 : Int32) σ_2) else (
  if x1 = (15 : Int32) then (
  f11_count_341 N N (0 : Int32) (0 : Int32) σ_2) else (
  some ((-1 : Int32), σ_2)))))))))))))))))
set_option maxHeartbeats 4000000 in
set_option maxRecDepth 100000 in
theorem w11_count_136 (X : Cx p s m args c cX11_count 4 RX11 G) (hr : meth.sig.returnType = some .int) (hlk : meth.locks = false) (N : Nat) :
    ∀ (fu : Nat) (x2 : Int32) (x3 : Int32) (σ : Mm) (H : Heap) (locs : List Loc) (ls : Array Slot), f11_count_136 N fu x2 x3 σ = some (r0, σ0) → Rp G 212 tt σ s H locs → lv_has ls 4 [(0, .ref (G.2.2 + 160)), (2, .int x2), (3, .int x3)] → W p l e rm11_count s m args below meth c H locs 0 0 (MQ below (P_i G 212 tt r0 σ0) args s 0 0 (Fr G)) (F0 m 136 ls []) := by
  have hx := X.1
  have hb := X.2.1
  intro fu
  induction fu with
  | zero =>
    intro x2 x3 σ H locs ls hf hR hl
    rw [f11_count_136] at hf
    cases hf
  | succ fu ih =>
    intro x2 x3 σ H locs ls hf hR hl
    rw [f11_count_136] at hf
    refine lv_iload_n hx hb dX11_count_136 rfl (lv_at hl 2 rfl) ?_
    refine lv_aload_n hx hb dX11_count_137 rfl (lv_at hl 0 rfl) ?_
    refine r_gs (t := 175) X hR fr_11_61 kh_160 (sx_11_28 kh_160) dX11_count_138 ?_
    refine lv_aload_n hx hb dX11_count_141 rfl (lv_at hl 0 rfl) ?_
    refine r_gi X hR fi_11_254 kh_160 dX11_count_142 ?_
    obtain ⟨hi_14, hf⟩ := z_c_e hf
    refine r_ial X hR ka_175 hi_14 dX11_count_145 ?_
    refine lv_icmp_ge (tgt := 169) hx hb dX11_count_146 (by decide) (fun c_15 => ?_) (fun c_15 => ?_)
    · replace hf := z_t c_15 hf
      refine lv_iload_n hx hb dX11_count_169 rfl (lv_at hl 1 rfl) ?_
      exact e_i X hR hr hlk hf dX11_count_170
    · replace hf := z_f c_15 hf
      refine lv_iload_n hx hb dX11_count_149 rfl (lv_at hl 1 rfl) ?_
      refine lv_aload_n hx hb dX11_count_150 rfl (lv_at hl 0 rfl) ?_
      refine r_gs (t := 199) X hR fr_11_134 kh_160 (sx_11_56 kh_160) dX11_count_151 ?_
      refine lv_bipush (v := (7 : Int32)) hx hb dX11_count_154 (by decide) ?_
      refine lv_iload_n hx hb dX11_count_156 rfl (lv_at hl 2 rfl) ?_
      refine lv_iadd hx hb dX11_count_157 ?_
      obtain ⟨hi_16, hf⟩ := z_c_e hf
      refine r_ial X hR ka_199 hi_16 dX11_count_158 ?_
      refine lv_iload_n hx hb dX11_count_159 rfl (lv_at hl 2 rfl) ?_
      refine lv_ishl hx hb dX11_count_160 ?_
      refine lv_ior hx hb dX11_count_161 ?_
      refine lv_topi (fun x2_17 ex2_17 => ?_)
      replace hf := z_l_e ex2_17 hf
      refine lv_istore_n (lv' := [(2, .int x2_17), (0, .ref (G.2.2 + 160)), (3, .int x3)]) hx hb dX11_count_162 rfl hl (by decide) rfl (fun ls hl => ?_)
      obtain ⟨x3_18, ex3_18⟩ : ∃ z : Int32, z = x3 + (1 : Int32) := ⟨_, rfl⟩
      replace hf := z_l_e ex3_18 hf
      refine lv_iinc (v := x3_18) (lv' := [(3, .int x3_18), (2, .int x2_17), (0, .ref (G.2.2 + 160))]) hx hb dX11_count_163 hl (k := 2) rfl (by rw [ex3_18]; rfl) (by decide) rfl (fun ls hl => ?_)
      refine lv_goto (tgt := 136) hx hb dX11_count_166 (by decide) ?_
      exact ih x2_17 x3_18 σ _ _ _ hf hR (lv_sub hl [2, 1, 0] rfl)
set_option maxHeartbeats 4000000 in
set_option maxRecDepth 100000 in
theorem w11_count_204 (X : Cx p s m args c cX11_count 4 RX11 G) (hr : meth.sig.returnType = some .int) (hlk : meth.locks = false) (N : Nat) {k178 : Int32 → Int32 → Mm → Option (Int32 × Mm)} (hk178 : ∀ (x2 : Int32) (x3 : Int32) (σ : Mm) (H : Heap) (locs : List Loc) (ls : Array Slot), k178 x2 x3 σ = some (r0, σ0) → Rp G 212 tt σ s H locs → lv_has ls 4 [(0, .ref (G.2.2 + 160)), (2, .int x2), (3, .int x3)] → W p l e rm11_count s m args below meth c H locs 0 0 (MQ below (P_i G 212 tt r0 σ0) args s 0 0 (Fr G)) (F0 m 178 ls [])) :
    ∀ (x2 : Int32) (x3 : Int32) (σ : Mm) (H : Heap) (locs : List Loc) (ls : Array Slot), f11_count_204 N k178 x2 x3 σ = some (r0, σ0) → Rp G 212 tt σ s H locs → lv_has ls 4 [(0, .ref (G.2.2 + 160)), (2, .int x2), (3, .int x3)] → W p l e rm11_count s m args below meth c H locs 0 0 (MQ below (P_i G 212 tt r0 σ0) args s 0 0 (Fr G)) (F0 m 204 ls []) := by
  have hx := X.1
  have hb := X.2.1
  intro x2 x3 σ H locs ls hf hR hl
  unfold f11_count_204 at hf
  obtain ⟨x3_28, ex3_28⟩ : ∃ z : Int32, z = x3 + (1 : Int32) := ⟨_, rfl⟩
  replace hf := z_l_e ex3_28 hf
  refine lv_iinc (v := x3_28) (lv' := [(3, .int x3_28), (0, .ref (G.2.2 + 160)), (2, .int x2)]) hx hb dX11_count_204 hl (k := 2) rfl (by rw [ex3_28]; rfl) (by decide) rfl (fun ls hl => ?_)
  refine lv_goto (tgt := 178) hx hb dX11_count_207 (by decide) ?_
  exact hk178 x2 x3_28 σ _ _ _ hf hR (lv_sub hl [1, 2, 0] rfl)
set_option maxHeartbeats 4000000 in
set_option maxRecDepth 100000 in
theorem w11_count_178 (X : Cx p s m args c cX11_count 4 RX11 G) (hr : meth.sig.returnType = some .int) (hlk : meth.locks = false) (N : Nat) :
    ∀ (fu : Nat) (x2 : Int32) (x3 : Int32) (σ : Mm) (H : Heap) (locs : List Loc) (ls : Array Slot), f11_count_178 N fu x2 x3 σ = some (r0, σ0) → Rp G 212 tt σ s H locs → lv_has ls 4 [(0, .ref (G.2.2 + 160)), (2, .int x2), (3, .int x3)] → W p l e rm11_count s m args below meth c H locs 0 0 (MQ below (P_i G 212 tt r0 σ0) args s 0 0 (Fr G)) (F0 m 178 ls []) := by
  have hx := X.1
  have hb := X.2.1
  intro fu
  induction fu with
  | zero =>
    intro x2 x3 σ H locs ls hf hR hl
    rw [f11_count_178] at hf
    cases hf
  | succ fu ih =>
    intro x2 x3 σ H locs ls hf hR hl
    rw [f11_count_178] at hf
    refine lv_iload_n hx hb dX11_count_178 rfl (lv_at hl 2 rfl) ?_
    refine lv_aload_n hx hb dX11_count_179 rfl (lv_at hl 0 rfl) ?_
    refine r_gs (t := 199) X hR fr_11_134 kh_160 (sx_11_56 kh_160) dX11_count_180 ?_
    refine lv_bipush (v := (15 : Int32)) hx hb dX11_count_183 (by decide) ?_
    obtain ⟨hi_24, hf⟩ := z_c_e hf
    refine r_ial X hR ka_199 hi_24 dX11_count_185 ?_
    refine lv_icmp_ge (tgt := 210) hx hb dX11_count_186 (by decide) (fun c_25 => ?_) (fun c_25 => ?_)
    · replace hf := z_t c_25 hf
      refine lv_iload_n hx hb dX11_count_210 rfl (lv_at hl 1 rfl) ?_
      exact e_i X hR hr hlk hf dX11_count_211
    · replace hf := z_f c_25 hf
      refine lv_aload_n hx hb dX11_count_189 rfl (lv_at hl 0 rfl) ?_
      refine r_gs (t := 202) X hR fr_11_143 kh_160 (sx_11_62 kh_160) dX11_count_190 ?_
      refine lv_iload_n hx hb dX11_count_193 rfl (lv_at hl 2 rfl) ?_
      obtain ⟨hi_26, hf⟩ := z_c_e hf
      refine r_zal X hR ka_202 hi_26 dX11_count_194 ?_
      refine lv_if_eq (tgt := 204) hx hb dX11_count_195 (by decide) (fun c_27 => ?_) (fun c_27 => ?_)
      · replace hf := z_t c_27 hf
        exact w11_count_204 X hr hlk N ih x2 x3 σ _ _ _ hf hR (lv_sub hl [0, 1, 2] rfl)
      · replace hf := z_f c_27 hf
        refine lv_iload_n hx hb dX11_count_198 rfl (lv_at hl 1 rfl) ?_
        refine lv_iconst (v := (1 : Int32)) hx hb dX11_count_199 (by decide) ?_
        refine lv_iload_n hx hb dX11_count_200 rfl (lv_at hl 2 rfl) ?_
        refine lv_ishl hx hb dX11_count_201 ?_
        refine lv_ior hx hb dX11_count_202 ?_
        refine lv_topi (fun x2_29 ex2_29 => ?_)
        replace hf := z_l_e ex2_29 hf
        refine lv_istore_n (lv' := [(2, .int x2_29), (0, .ref (G.2.2 + 160)), (3, .int x3)]) hx hb dX11_count_203 rfl hl (by decide) rfl (fun ls hl => ?_)
        exact w11_count_204 X hr hlk N ih x2_29 x3 σ _ _ _ hf hR (lv_sub hl [1, 0, 2] rfl)
set_option maxHeartbeats 4000000 in
set_option maxRecDepth 100000 in
theorem w11_count_263 (X : Cx p s m args c cX11_count 4 RX11 G) (hr : meth.sig.returnType = some .int) (hlk : meth.locks = false) (N : Nat) :
    ∀ (s0 : Int32) (s1 : Int32) (σ : Mm) (H : Heap) (locs : List Loc) (ls : Array Slot), f11_count_263 N s0 s1 σ = some (r0, σ0) → Rp G 212 tt σ s H locs → lv_has ls 4 [(0, .ref (G.2.2 + 160))] → W p l e rm11_count s m args below meth c H locs 0 0 (MQ below (P_i G 212 tt r0 σ0) args s 0 0 (Fr G)) (F0 m 263 ls [.int s1, .int s0]) := by
  have hx := X.1
  have hb := X.2.1
  intro s0 s1 σ H locs ls hf hR hl
  unfold f11_count_263 at hf
  refine lv_iadd hx hb dX11_count_263 ?_
  refine lv_aload_n hx hb dX11_count_264 rfl (lv_at hl 0 rfl) ?_
  refine r_gs (t := 210) X hR fr_11_167 kh_160 (sx_11_72 kh_160) dX11_count_265 ?_
  refine lv_iconst (v := (2 : Int32)) hx hb dX11_count_268 (by decide) ?_
  obtain ⟨hi_40, hf⟩ := z_c_e hf
  refine r_zal X hR ka_210 hi_40 dX11_count_269 ?_
  refine lv_if_eq (tgt := 277) hx hb dX11_count_270 (by decide) (fun c_41 => ?_) (fun c_41 => ?_)
  · replace hf := z_t c_41 hf
    refine lv_iconst (v := (0 : Int32)) hx hb dX11_count_277 (by decide) ?_
    refine lv_iadd hx hb dX11_count_278 ?_
    exact e_i X hR hr hlk hf dX11_count_279
  · replace hf := z_f c_41 hf
    refine lv_iconst (v := (1 : Int32)) hx hb dX11_count_273 (by decide) ?_
    refine lv_goto (tgt := 278) hx hb dX11_count_274 (by decide) ?_
    refine lv_iadd hx hb dX11_count_278 ?_
    exact e_i X hR hr hlk hf dX11_count_279
set_option maxHeartbeats 4000000 in
set_option maxRecDepth 100000 in
theorem w11_count_249 (X : Cx p s m args c cX11_count 4 RX11 G) (hr : meth.sig.returnType = some .int) (hlk : meth.locks = false) (N : Nat) :
    ∀ (s0 : Int32) (σ : Mm) (H : Heap) (locs : List Loc) (ls : Array Slot), f11_count_249 N s0 σ = some (r0, σ0) → Rp G 212 tt σ s H locs → lv_has ls 4 [(0, .ref (G.2.2 + 160))] → W p l e rm11_count s m args below meth c H locs 0 0 (MQ below (P_i G 212 tt r0 σ0) args s 0 0 (Fr G)) (F0 m 249 ls [.int s0]) := by
  have hx := X.1
  have hb := X.2.1
  intro s0 σ H locs ls hf hR hl
  unfold f11_count_249 at hf
  refine lv_aload_n hx hb dX11_count_249 rfl (lv_at hl 0 rfl) ?_
  refine r_gs (t := 210) X hR fr_11_167 kh_160 (sx_11_72 kh_160) dX11_count_250 ?_
  refine lv_iconst (v := (1 : Int32)) hx hb dX11_count_253 (by decide) ?_
  obtain ⟨hi_38, hf⟩ := z_c_e hf
  refine r_zal X hR ka_210 hi_38 dX11_count_254 ?_
  refine lv_if_eq (tgt := 262) hx hb dX11_count_255 (by decide) (fun c_39 => ?_) (fun c_39 => ?_)
  · replace hf := z_t c_39 hf
    refine lv_iconst (v := (0 : Int32)) hx hb dX11_count_262 (by decide) ?_
    exact w11_count_263 X hr hlk N  s0 (0 : Int32) σ _ _ _ hf hR (lv_sub hl [0] rfl)
  · replace hf := z_f c_39 hf
    refine lv_iconst (v := (1 : Int32)) hx hb dX11_count_258 (by decide) ?_
    refine lv_goto (tgt := 263) hx hb dX11_count_259 (by decide) ?_
    exact w11_count_263 X hr hlk N  s0 (1 : Int32) σ _ _ _ hf hR (lv_sub hl [0] rfl)
set_option maxHeartbeats 4000000 in
set_option maxRecDepth 100000 in
theorem w11_count_331 (X : Cx p s m args c cX11_count 4 RX11 G) (hr : meth.sig.returnType = some .int) (hlk : meth.locks = false) (N : Nat) {k292 : Int32 → Int32 → Mm → Option (Int32 × Mm)} (hk292 : ∀ (x2 : Int32) (x3 : Int32) (σ : Mm) (H : Heap) (locs : List Loc) (ls : Array Slot), k292 x2 x3 σ = some (r0, σ0) → Rp G 212 tt σ s H locs → lv_has ls 4 [(0, .ref (G.2.2 + 160)), (2, .int x2), (3, .int x3)] → W p l e rm11_count s m args below meth c H locs 0 0 (MQ below (P_i G 212 tt r0 σ0) args s 0 0 (Fr G)) (F0 m 292 ls [])) :
    ∀ (x2 : Int32) (x3 : Int32) (σ : Mm) (H : Heap) (locs : List Loc) (ls : Array Slot), f11_count_331 N k292 x2 x3 σ = some (r0, σ0) → Rp G 212 tt σ s H locs → lv_has ls 4 [(0, .ref (G.2.2 + 160)), (2, .int x2), (3, .int x3)] → W p l e rm11_count s m args below meth c H locs 0 0 (MQ below (P_i G 212 tt r0 σ0) args s 0 0 (Fr G)) (F0 m 331 ls []) := by
  have hx := X.1
  have hb := X.2.1
  intro x2 x3 σ H locs ls hf hR hl
  unfold f11_count_331 at hf
  obtain ⟨x3_50, ex3_50⟩ : ∃ z : Int32, z = x3 + (1 : Int32) := ⟨_, rfl⟩
  replace hf := z_l_e ex3_50 hf
  refine lv_iinc (v := x3_50) (lv' := [(3, .int x3_50), (0, .ref (G.2.2 + 160)), (2, .int x2)]) hx hb dX11_count_331 hl (k := 2) rfl (by rw [ex3_50]; rfl) (by decide) rfl (fun ls hl => ?_)
  refine lv_goto (tgt := 292) hx hb dX11_count_334 (by decide) ?_
  exact hk292 x2 x3_50 σ _ _ _ hf hR (lv_sub hl [1, 2, 0] rfl)
set_option maxHeartbeats 4000000 in
set_option maxRecDepth 100000 in
theorem w11_count_292 (X : Cx p s m args c cX11_count 4 RX11 G) (hr : meth.sig.returnType = some .int) (hlk : meth.locks = false) (N : Nat) :
    ∀ (fu : Nat) (x2 : Int32) (x3 : Int32) (σ : Mm) (H : Heap) (locs : List Loc) (ls : Array Slot), f11_count_292 N fu x2 x3 σ = some (r0, σ0) → Rp G 212 tt σ s H locs → lv_has ls 4 [(0, .ref (G.2.2 + 160)), (2, .int x2), (3, .int x3)] → W p l e rm11_count s m args below meth c H locs 0 0 (MQ below (P_i G 212 tt r0 σ0) args s 0 0 (Fr G)) (F0 m 292 ls []) := by
  have hx := X.1
  have hb := X.2.1
  intro fu
  induction fu with
  | zero =>
    intro x2 x3 σ H locs ls hf hR hl
    rw [f11_count_292] at hf
    cases hf
  | succ fu ih =>
    intro x2 x3 σ H locs ls hf hR hl
    rw [f11_count_292] at hf
    refine lv_iload_n hx hb dX11_count_292 rfl (lv_at hl 2 rfl) ?_
    refine lv_aload_n hx hb dX11_count_293 rfl (lv_at hl 0 rfl) ?_
    refine r_gs (t := 171) X hR fr_11_49 kh_160 (sx_11_24 kh_160) dX11_count_294 ?_
    refine lv_aload_n hx hb dX11_count_297 rfl (lv_at hl 0 rfl) ?_
    refine r_gi X hR fi_11_254 kh_160 dX11_count_298 ?_
    obtain ⟨hi_45, hf⟩ := z_c_e hf
    refine r_ial X hR ka_171 hi_45 dX11_count_301 ?_
    refine lv_icmp_ge (tgt := 337) hx hb dX11_count_302 (by decide) (fun c_46 => ?_) (fun c_46 => ?_)
    · replace hf := z_t c_46 hf
      refine lv_iload_n hx hb dX11_count_337 rfl (lv_at hl 1 rfl) ?_
      exact e_i X hR hr hlk hf dX11_count_338
    · replace hf := z_f c_46 hf
      refine lv_aload_n hx hb dX11_count_305 rfl (lv_at hl 0 rfl) ?_
      refine r_gs (t := 200) X hR fr_11_137 kh_160 (sx_11_60 kh_160) dX11_count_306 ?_
      refine lv_iload_n hx hb dX11_count_309 rfl (lv_at hl 2 rfl) ?_
      obtain ⟨hi_47, hf⟩ := z_c_e hf
      refine r_ial X hR ka_200 hi_47 dX11_count_310 ?_
      refine lv_aload_n hx hb dX11_count_311 rfl (lv_at hl 0 rfl) ?_
      refine r_gs (t := 174) X hR fr_11_58 kh_160 (sx_11_27 kh_160) dX11_count_312 ?_
      refine lv_bipush (v := (7 : Int32)) hx hb dX11_count_315 (by decide) ?_
      refine lv_aload_n hx hb dX11_count_317 rfl (lv_at hl 0 rfl) ?_
      refine r_gi X hR fi_11_254 kh_160 dX11_count_318 ?_
      refine lv_imul hx hb dX11_count_321 ?_
      refine lv_iload_n hx hb dX11_count_322 rfl (lv_at hl 2 rfl) ?_
      refine lv_iadd hx hb dX11_count_323 ?_
      obtain ⟨hi_48, hf⟩ := z_c_e hf
      refine r_ial X hR ka_174 hi_48 dX11_count_324 ?_
      refine lv_icmp_eq (tgt := 331) hx hb dX11_count_325 (by decide) (fun c_49 => ?_) (fun c_49 => ?_)
      · replace hf := z_t c_49 hf
        exact w11_count_331 X hr hlk N ih x2 x3 σ _ _ _ hf hR (lv_sub hl [0, 1, 2] rfl)
      · replace hf := z_f c_49 hf
        obtain ⟨x2_51, ex2_51⟩ : ∃ z : Int32, z = x2 + (1 : Int32) := ⟨_, rfl⟩
        replace hf := z_l_e ex2_51 hf
        refine lv_iinc (v := x2_51) (lv' := [(2, .int x2_51), (0, .ref (G.2.2 + 160)), (3, .int x3)]) hx hb dX11_count_328 hl (k := 1) rfl (by rw [ex2_51]; rfl) (by decide) rfl (fun ls hl => ?_)
        exact w11_count_331 X hr hlk N ih x2_51 x3 σ _ _ _ hf hR (lv_sub hl [1, 0, 2] rfl)
set_option maxHeartbeats 4000000 in
set_option maxRecDepth 100000 in
theorem w11_count_341 (X : Cx p s m args c cX11_count 4 RX11 G) (hr : meth.sig.returnType = some .int) (hlk : meth.locks = false) (N : Nat) :
    ∀ (fu : Nat) (x2 : Int32) (x3 : Int32) (σ : Mm) (H : Heap) (locs : List Loc) (ls : Array Slot), f11_count_341 N fu x2 x3 σ = some (r0, σ0) → Rp G 212 tt σ s H locs → lv_has ls 4 [(0, .ref (G.2.2 + 160)), (2, .int x2), (3, .int x3)] → W p l e rm11_count s m args below meth c H locs 0 0 (MQ below (P_i G 212 tt r0 σ0) args s 0 0 (Fr G)) (F0 m 341 ls []) := by
  have hx := X.1
  have hb := X.2.1
  intro fu
  induction fu with
  | zero =>
    intro x2 x3 σ H locs ls hf hR hl
    rw [f11_count_341] at hf
    cases hf
  | succ fu ih =>
    intro x2 x3 σ H locs ls hf hR hl
    rw [f11_count_341] at hf
    refine lv_iload_n hx hb dX11_count_341 rfl (lv_at hl 2 rfl) ?_
    refine lv_aload_n hx hb dX11_count_342 rfl (lv_at hl 0 rfl) ?_
    refine r_gs (t := 199) X hR fr_11_134 kh_160 (sx_11_56 kh_160) dX11_count_343 ?_
    refine lv_bipush (v := (15 : Int32)) hx hb dX11_count_346 (by decide) ?_
    obtain ⟨hi_53, hf⟩ := z_c_e hf
    refine r_ial X hR ka_199 hi_53 dX11_count_348 ?_
    refine lv_icmp_ge (tgt := 369) hx hb dX11_count_349 (by decide) (fun c_54 => ?_) (fun c_54 => ?_)
    · replace hf := z_t c_54 hf
      refine lv_iload_n hx hb dX11_count_369 rfl (lv_at hl 1 rfl) ?_
      exact e_i X hR hr hlk hf dX11_count_370
    · replace hf := z_f c_54 hf
      refine lv_iload_n hx hb dX11_count_352 rfl (lv_at hl 1 rfl) ?_
      refine lv_aload_n hx hb dX11_count_353 rfl (lv_at hl 0 rfl) ?_
      refine lv_iload_n hx hb dX11_count_354 rfl (lv_at hl 2 rfl) ?_
      obtain ⟨r_55, σ_56, hc_57, hf⟩ := z_b_e hf
      refine go_i hR (mv_run (As := [.int x3]) (rest := [.int x2]) X hR mv_11_382 kh_160 (kd_lt kh_160 (by decide)) (c11_swearBits l G N hc_57) ⟨rfl, rfl, Nat.le_of_ble_eq_true rfl, Nat.le_of_ble_eq_true rfl⟩ rfl hl.1 rfl (Nat.le_of_ble_eq_true rfl) dX11_count_355 ⟨Nat.zero_le _, Nat.zero_le _⟩) (fun H locs hR => ?_)
      obtain ⟨r_58, σ_59, hc_60, hf⟩ := z_b_e hf
      refine go_i hR (ms_run (As := [.int r_55]) (rest := [.int x2]) X hR ms_11_366 (c11_bits l G N hc_60) ⟨rfl, rfl, Nat.le_of_ble_eq_true rfl, Nat.le_of_ble_eq_true rfl⟩ rfl hl.1 rfl (Nat.le_of_ble_eq_true rfl) dX11_count_358 ⟨Nat.zero_le _, Nat.zero_le _⟩) (fun H locs hR => ?_)
      refine lv_iadd hx hb dX11_count_361 ?_
      refine lv_topi (fun x2_61 ex2_61 => ?_)
      replace hf := z_l_e ex2_61 hf
      refine lv_istore_n (lv' := [(2, .int x2_61), (0, .ref (G.2.2 + 160)), (3, .int x3)]) hx hb dX11_count_362 rfl hl (by decide) rfl (fun ls hl => ?_)
      obtain ⟨x3_62, ex3_62⟩ : ∃ z : Int32, z = x3 + (1 : Int32) := ⟨_, rfl⟩
      replace hf := z_l_e ex3_62 hf
      refine lv_iinc (v := x3_62) (lv' := [(3, .int x3_62), (2, .int x2_61), (0, .ref (G.2.2 + 160))]) hx hb dX11_count_363 hl (k := 2) rfl (by rw [ex3_62]; rfl) (by decide) rfl (fun ls hl => ?_)
      refine lv_goto (tgt := 341) hx hb dX11_count_366 (by decide) ?_
      exact ih x2_61 x3_62 σ_59 _ _ _ hf hR (lv_sub hl [2, 1, 0] rfl)
set_option maxHeartbeats 4000000 in
set_option maxRecDepth 100000 in
theorem c11_count (l : Launch) (G : Gp) (N : Nat) {x1 : Int32} {σ σ0 : Mm} {r0 : Int32} (hf : f11_count N x1 σ = some (r0, σ0)) : Met l yX11_count (WS yX11_count cX11_count 4 (some .int)) rm11_count (va_Pc [.ref (G.2.2 + 160), .int x1] (Pd G 212 tt σ)) (P_i G 212 tt r0 σ0) 0 0 (Fr G) := by
  refine ct [(0, .ref (G.2.2 + 160)), (1, .int x1)] rfl (by decide) (Nat.le_of_ble_eq_true rfl) ?_
  intro p e s m below meth c ls X hr hlk hR hl
  have X : Cx p s m _ c cX11_count 4 RX11 G := X
  have hx := X.1
  have hb := X.2.1
  unfold f11_count at hf
  refine lv_aload_n hx hb dX11_count_0 rfl (lv_at hl 0 rfl) ?_
  refine lv_iconst (v := (0 : Int32)) hx hb dX11_count_1 (by decide) ?_
  obtain ⟨r_1, σ_2, hc_3, hf⟩ := z_b_e hf
  refine go_v hR (mv_run (As := [.int (0 : Int32)]) (rest := []) X hR mv_11_464 kh_160 (kd_lt kh_160 (by decide)) (c11_goesOnTo l G N hc_3) ⟨rfl, rfl, Nat.le_of_ble_eq_true rfl, Nat.le_of_ble_eq_true rfl⟩ rfl hl.1 rfl (Nat.le_of_ble_eq_true rfl) dX11_count_2 ⟨Nat.zero_le _, Nat.zero_le _⟩) (fun H locs hR => ?_)
  refine lv_iconst (v := (0 : Int32)) hx hb dX11_count_5 (by decide) ?_
  refine lv_istore_n (lv' := [(2, .int (0 : Int32)), (0, .ref (G.2.2 + 160)), (1, .int x1)]) hx hb dX11_count_6 rfl hl (by decide) rfl (fun ls hl => ?_)
  refine lv_iload_n hx hb dX11_count_7 rfl (lv_at hl 2 rfl) ?_
  by_cases c_5 : x1 = (0 : Int32)
  · replace hf := z_t c_5 hf
    refine lv_tableIn (off := 80) (tgt := 88) hx hb dX11_count_8 (by rw [c_5]; decide) (by rw [c_5]; decide) (by rw [c_5]; rfl) (by decide) ?_
    refine lv_aload_n hx hb dX11_count_88 rfl (lv_at hl 1 rfl) ?_
    refine r_gs (t := 170) X hR fr_11_46 kh_160 (sx_11_23 kh_160) dX11_count_89 ?_
    refine lv_aload_n hx hb dX11_count_92 rfl (lv_at hl 1 rfl) ?_
    refine r_gi X hR fi_11_254 kh_160 dX11_count_93 ?_
    obtain ⟨hi_4, hf⟩ := z_c_e hf
    refine r_ial X hR ka_170 hi_4 dX11_count_96 ?_
    exact e_i X hR hr hlk hf dX11_count_97
  replace hf := z_f c_5 hf
  by_cases c_7 : x1 = (1 : Int32)
  · replace hf := z_t c_7 hf
    refine lv_tableIn (off := 90) (tgt := 98) hx hb dX11_count_8 (by rw [c_7]; decide) (by rw [c_7]; decide) (by rw [c_7]; rfl) (by decide) ?_
    refine lv_aload_n hx hb dX11_count_98 rfl (lv_at hl 1 rfl) ?_
    refine r_gs (t := 171) X hR fr_11_49 kh_160 (sx_11_24 kh_160) dX11_count_99 ?_
    refine lv_aload_n hx hb dX11_count_102 rfl (lv_at hl 1 rfl) ?_
    refine r_gi X hR fi_11_254 kh_160 dX11_count_103 ?_
    obtain ⟨hi_6, hf⟩ := z_c_e hf
    refine r_ial X hR ka_171 hi_6 dX11_count_106 ?_
    exact e_i X hR hr hlk hf dX11_count_107
  replace hf := z_f c_7 hf
  by_cases c_9 : x1 = (2 : Int32)
  · replace hf := z_t c_9 hf
    refine lv_tableIn (off := 100) (tgt := 108) hx hb dX11_count_8 (by rw [c_9]; decide) (by rw [c_9]; decide) (by rw [c_9]; rfl) (by decide) ?_
    refine lv_aload_n hx hb dX11_count_108 rfl (lv_at hl 1 rfl) ?_
    refine r_gs (t := 175) X hR fr_11_61 kh_160 (sx_11_28 kh_160) dX11_count_109 ?_
    refine lv_aload_n hx hb dX11_count_112 rfl (lv_at hl 1 rfl) ?_
    refine r_gi X hR fi_11_254 kh_160 dX11_count_113 ?_
    obtain ⟨hi_8, hf⟩ := z_c_e hf
    refine r_ial X hR ka_175 hi_8 dX11_count_116 ?_
    exact e_i X hR hr hlk hf dX11_count_117
  replace hf := z_f c_9 hf
  by_cases c_11 : x1 = (3 : Int32)
  · replace hf := z_t c_11 hf
    refine lv_tableIn (off := 110) (tgt := 118) hx hb dX11_count_8 (by rw [c_11]; decide) (by rw [c_11]; decide) (by rw [c_11]; rfl) (by decide) ?_
    refine lv_aload_n hx hb dX11_count_118 rfl (lv_at hl 1 rfl) ?_
    refine r_gs (t := 199) X hR fr_11_134 kh_160 (sx_11_56 kh_160) dX11_count_119 ?_
    refine lv_bipush (v := (15 : Int32)) hx hb dX11_count_122 (by decide) ?_
    obtain ⟨hi_10, hf⟩ := z_c_e hf
    refine r_ial X hR ka_199 hi_10 dX11_count_124 ?_
    exact e_i X hR hr hlk hf dX11_count_125
  replace hf := z_f c_11 hf
  by_cases c_13 : x1 = (4 : Int32)
  · replace hf := z_t c_13 hf
    refine lv_tableIn (off := 118) (tgt := 126) hx hb dX11_count_8 (by rw [c_13]; decide) (by rw [c_13]; decide) (by rw [c_13]; rfl) (by decide) ?_
    refine lv_aload_n hx hb dX11_count_126 rfl (lv_at hl 1 rfl) ?_
    refine r_gs (t := 199) X hR fr_11_134 kh_160 (sx_11_56 kh_160) dX11_count_127 ?_
    refine lv_bipush (v := (14 : Int32)) hx hb dX11_count_130 (by decide) ?_
    obtain ⟨hi_12, hf⟩ := z_c_e hf
    refine r_ial X hR ka_199 hi_12 dX11_count_132 ?_
    exact e_i X hR hr hlk hf dX11_count_133
  replace hf := z_f c_13 hf
  by_cases c_19 : x1 = (5 : Int32)
  · replace hf := z_t c_19 hf
    refine lv_tableIn (off := 126) (tgt := 134) hx hb dX11_count_8 (by rw [c_19]; decide) (by rw [c_19]; decide) (by rw [c_19]; rfl) (by decide) ?_
    refine lv_iconst (v := (0 : Int32)) hx hb dX11_count_134 (by decide) ?_
    refine lv_istore_n (lv' := [(3, .int (0 : Int32)), (2, .int (0 : Int32)), (0, .ref (G.2.2 + 160)), (1, .int x1)]) hx hb dX11_count_135 rfl hl (by decide) rfl (fun ls hl => ?_)
    exact w11_count_136 X hr hlk N  N (0 : Int32) (0 : Int32) σ_2 _ _ _ hf hR (lv_sub hl [2, 1, 0] rfl)
  replace hf := z_f c_19 hf
  by_cases c_23 : x1 = (6 : Int32)
  · replace hf := z_t c_23 hf
    refine lv_tableIn (off := 163) (tgt := 171) hx hb dX11_count_8 (by rw [c_23]; decide) (by rw [c_23]; decide) (by rw [c_23]; rfl) (by decide) ?_
    refine lv_aload_n hx hb dX11_count_171 rfl (lv_at hl 1 rfl) ?_
    obtain ⟨r_20, σ_21, hc_22, hf⟩ := z_b_e hf
    refine go_i hR (mv_run (As := []) (rest := []) X hR mv_11_470 kh_160 (kd_lt kh_160 (by decide)) (c11_standBits l G N hc_22) ⟨rfl, rfl, Nat.le_of_ble_eq_true rfl, Nat.le_of_ble_eq_true rfl⟩ rfl hl.1 rfl (Nat.le_of_ble_eq_true rfl) dX11_count_172 ⟨Nat.zero_le _, Nat.zero_le _⟩) (fun H locs hR => ?_)
    exact e_i X hR hr hlk hf dX11_count_175
  replace hf := z_f c_23 hf
  by_cases c_30 : x1 = (7 : Int32)
  · replace hf := z_t c_30 hf
    refine lv_tableIn (off := 168) (tgt := 176) hx hb dX11_count_8 (by rw [c_30]; decide) (by rw [c_30]; decide) (by rw [c_30]; rfl) (by decide) ?_
    refine lv_iconst (v := (0 : Int32)) hx hb dX11_count_176 (by decide) ?_
    refine lv_istore_n (lv' := [(3, .int (0 : Int32)), (2, .int (0 : Int32)), (0, .ref (G.2.2 + 160)), (1, .int x1)]) hx hb dX11_count_177 rfl hl (by decide) rfl (fun ls hl => ?_)
    exact w11_count_178 X hr hlk N  N (0 : Int32) (0 : Int32) σ_2 _ _ _ hf hR (lv_sub hl [2, 1, 0] rfl)
  replace hf := z_f c_30 hf
  by_cases c_32 : x1 = (8 : Int32)
  · replace hf := z_t c_32 hf
    refine lv_tableIn (off := 204) (tgt := 212) hx hb dX11_count_8 (by rw [c_32]; decide) (by rw [c_32]; decide) (by rw [c_32]; rfl) (by decide) ?_
    refine lv_aload_n hx hb dX11_count_212 rfl (lv_at hl 1 rfl) ?_
    refine r_gs (t := 199) X hR fr_11_134 kh_160 (sx_11_56 kh_160) dX11_count_213 ?_
    refine lv_bipush (v := (16 : Int32)) hx hb dX11_count_216 (by decide) ?_
    obtain ⟨hi_31, hf⟩ := z_c_e hf
    refine r_ial X hR ka_199 hi_31 dX11_count_218 ?_
    exact e_i X hR hr hlk hf dX11_count_219
  replace hf := z_f c_32 hf
  by_cases c_33 : x1 = (9 : Int32)
  · replace hf := z_t c_33 hf
    refine lv_tableIn (off := 212) (tgt := 220) hx hb dX11_count_8 (by rw [c_33]; decide) (by rw [c_33]; decide) (by rw [c_33]; rfl) (by decide) ?_
    refine lv_aload_n hx hb dX11_count_220 rfl (lv_at hl 1 rfl) ?_
    refine r_gi X hR fi_11_187 kh_160 dX11_count_221 ?_
    exact e_i X hR hr hlk hf dX11_count_224
  replace hf := z_f c_33 hf
  by_cases c_34 : x1 = (10 : Int32)
  · replace hf := z_t c_34 hf
    refine lv_tableIn (off := 217) (tgt := 225) hx hb dX11_count_8 (by rw [c_34]; decide) (by rw [c_34]; decide) (by rw [c_34]; rfl) (by decide) ?_
    refine lv_aload_n hx hb dX11_count_225 rfl (lv_at hl 1 rfl) ?_
    refine r_gi X hR fi_11_272 kh_160 dX11_count_226 ?_
    exact e_i X hR hr hlk hf dX11_count_229
  replace hf := z_f c_34 hf
  by_cases c_35 : x1 = (11 : Int32)
  · replace hf := z_t c_35 hf
    refine lv_tableIn (off := 222) (tgt := 230) hx hb dX11_count_8 (by rw [c_35]; decide) (by rw [c_35]; decide) (by rw [c_35]; rfl) (by decide) ?_
    refine lv_aload_n hx hb dX11_count_230 rfl (lv_at hl 1 rfl) ?_
    refine r_gi X hR fi_11_275 kh_160 dX11_count_231 ?_
    exact e_i X hR hr hlk hf dX11_count_234
  replace hf := z_f c_35 hf
  by_cases c_42 : x1 = (12 : Int32)
  · replace hf := z_t c_42 hf
    refine lv_tableIn (off := 227) (tgt := 235) hx hb dX11_count_8 (by rw [c_42]; decide) (by rw [c_42]; decide) (by rw [c_42]; rfl) (by decide) ?_
    refine lv_aload_n hx hb dX11_count_235 rfl (lv_at hl 1 rfl) ?_
    refine r_gs (t := 210) X hR fr_11_167 kh_160 (sx_11_72 kh_160) dX11_count_236 ?_
    refine lv_iconst (v := (0 : Int32)) hx hb dX11_count_239 (by decide) ?_
    obtain ⟨hi_36, hf⟩ := z_c_e hf
    refine r_zal X hR ka_210 hi_36 dX11_count_240 ?_
    refine lv_if_eq (tgt := 248) hx hb dX11_count_241 (by decide) (fun c_37 => ?_) (fun c_37 => ?_)
    · replace hf := z_t c_37 hf
      refine lv_iconst (v := (0 : Int32)) hx hb dX11_count_248 (by decide) ?_
      exact w11_count_249 X hr hlk N  (0 : Int32) σ_2 _ _ _ hf hR (lv_sub hl [1] rfl)
    · replace hf := z_f c_37 hf
      refine lv_iconst (v := (1 : Int32)) hx hb dX11_count_244 (by decide) ?_
      refine lv_goto (tgt := 249) hx hb dX11_count_245 (by decide) ?_
      exact w11_count_249 X hr hlk N  (1 : Int32) σ_2 _ _ _ hf hR (lv_sub hl [1] rfl)
  replace hf := z_f c_42 hf
  by_cases c_44 : x1 = (13 : Int32)
  · replace hf := z_t c_44 hf
    refine lv_tableIn (off := 272) (tgt := 280) hx hb dX11_count_8 (by rw [c_44]; decide) (by rw [c_44]; decide) (by rw [c_44]; rfl) (by decide) ?_
    refine lv_aload_n hx hb dX11_count_280 rfl (lv_at hl 1 rfl) ?_
    refine r_gs (t := 184) X hR fr_11_88 kh_160 (sx_11_37 kh_160) dX11_count_281 ?_
    refine lv_aload_n hx hb dX11_count_284 rfl (lv_at hl 1 rfl) ?_
    refine r_gi X hR fi_11_254 kh_160 dX11_count_285 ?_
    obtain ⟨hi_43, hf⟩ := z_c_e hf
    refine r_ial X hR ka_184 hi_43 dX11_count_288 ?_
    exact e_i X hR hr hlk hf dX11_count_289
  replace hf := z_f c_44 hf
  by_cases c_52 : x1 = (14 : Int32)
  · replace hf := z_t c_52 hf
    refine lv_tableIn (off := 282) (tgt := 290) hx hb dX11_count_8 (by rw [c_52]; decide) (by rw [c_52]; decide) (by rw [c_52]; rfl) (by decide) ?_
    refine lv_iconst (v := (0 : Int32)) hx hb dX11_count_290 (by decide) ?_
    refine lv_istore_n (lv' := [(3, .int (0 : Int32)), (2, .int (0 : Int32)), (0, .ref (G.2.2 + 160)), (1, .int x1)]) hx hb dX11_count_291 rfl hl (by decide) rfl (fun ls hl => ?_)
    exact w11_count_292 X hr hlk N  N (0 : Int32) (0 : Int32) σ_2 _ _ _ hf hR (lv_sub hl [2, 1, 0] rfl)
  replace hf := z_f c_52 hf
  by_cases c_63 : x1 = (15 : Int32)
  · replace hf := z_t c_63 hf
    refine lv_tableIn (off := 331) (tgt := 339) hx hb dX11_count_8 (by rw [c_63]; decide) (by rw [c_63]; decide) (by rw [c_63]; rfl) (by decide) ?_
    refine lv_iconst (v := (0 : Int32)) hx hb dX11_count_339 (by decide) ?_
    refine lv_istore_n (lv' := [(3, .int (0 : Int32)), (2, .int (0 : Int32)), (0, .ref (G.2.2 + 160)), (1, .int x1)]) hx hb dX11_count_340 rfl hl (by decide) rfl (fun ls hl => ?_)
    exact w11_count_341 X hr hlk N  N (0 : Int32) (0 : Int32) σ_2 _ _ _ hf hR (lv_sub hl [2, 1, 0] rfl)
  replace hf := z_f c_63 hf
  refine lv_tableOut (tgt := 371) hx hb dX11_count_8 (sw_out x1 0 16 (by decide) (by decide) (fun j hj => ?_)) (by decide) ?_
  · rcases (show j = 0 ∨ j = 1 ∨ j = 2 ∨ j = 3 ∨ j = 4 ∨ j = 5 ∨ j = 6 ∨ j = 7 ∨ j = 8 ∨ j = 9 ∨ j = 10 ∨ j = 11 ∨ j = 12 ∨ j = 13 ∨ j = 14 ∨ j = 15 by omega) with rfl | rfl | rfl | rfl | rfl | rfl | rfl | rfl | rfl | rfl | rfl | rfl | rfl | rfl | rfl | rfl
    · exact fun h => c_5 (h.trans (by decide))
    · exact fun h => c_7 (h.trans (by decide))
    · exact fun h => c_9 (h.trans (by decide))
    · exact fun h => c_11 (h.trans (by decide))
    · exact fun h => c_13 (h.trans (by decide))
    · exact fun h => c_19 (h.trans (by decide))
    · exact fun h => c_23 (h.trans (by decide))
    · exact fun h => c_30 (h.trans (by decide))
    · exact fun h => c_32 (h.trans (by decide))
    · exact fun h => c_33 (h.trans (by decide))
    · exact fun h => c_34 (h.trans (by decide))
    · exact fun h => c_35 (h.trans (by decide))
    · exact fun h => c_42 (h.trans (by decide))
    · exact fun h => c_44 (h.trans (by decide))
    · exact fun h => c_52 (h.trans (by decide))
    · exact fun h => c_63 (h.trans (by decide))
  · refine lv_iconst (v := (-1 : Int32)) hx hb dX11_count_371 (by decide) ?_
    exact e_i X hR hr hlk hf dX11_count_372
end GEN
