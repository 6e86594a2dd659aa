section GEN
variable {p : Program} {l : Launch} {e : Env} {s : State} {m : MethodId} {args : Array Value} {below : List Frame} {meth : Method} {c : Code} {G : Gp} {r0 : Int32} {l0 : Int64} {u0 : Unit} {σ0 : Mm}

abbrev rm11_within : Room := { frames := 4, cells := 0, slots := 0, locals := 98 }
def f11_within_250 (N : Nat) (k73 : Int32 → Int32 → Mm → Option (Int32 × Mm)) (x2 : Int32) (x3 : Int32) (x4 : Int32) (σ : Mm) : Option (Int32 × Mm) :=
  z_l (x4 + (1 : Int32)) fun x4_20 =>
  k73 x3 x4_20 σ
def f11_within_244 (N : Nat) (k73 : Int32 → Int32 → Mm → Option (Int32 × Mm)) (k92 : Int32 → Int32 → Mm → Option (Int32 × Mm)) (x2 : Int32) (x4 : Int32) (x3 : Int32) (x5 : Int32) (σ : Mm) : Option (Int32 × Mm) :=
  z_l (x5 + (1 : Int32)) fun x5_30 =>
  k92 x3 x5_30 σ
def f11_within_238 (N : Nat) (k73 : Int32 → Int32 → Mm → Option (Int32 × Mm)) (k92 : Int32 → Int32 → Mm → Option (Int32 × Mm)) (k148 : Int32 → Mm → Option (Int32 × Mm)) (x2 : Int32) (x3 : Int32) (x4 : Int32) (x5 : Int32) (x6 : Int32) (x7 : Int32) (σ : Mm) : Option (Int32 × Mm) :=
  z_l (x7 + (1 : Int32)) fun x7_38 =>
  k148 x7_38 σ
def f11_within_148 (N : Nat) (k73 : Int32 → Int32 → Mm → Option (Int32 × Mm)) (k92 : Int32 → Int32 → Mm → Option (Int32 × Mm)) (x2 : Int32) (x3 : Int32) (x4 : Int32) (x5 : Int32) (x6 : Int32) : Nat → Int32 → Mm → Option (Int32 × Mm)
  | 0, _, _ => none
  | fu + 1, x7, σ => z_c (inB (gI σ 160 18) 2) (
  if (gI σ 171 (ix (gI σ 160 18))) ≤ x7 then (
  f11_within_244 N k73 k92 x2 x4 x3 x5 σ) else (
  if ((x4 >>> (x7 &&& 31)) &&& (1 : Int32)) = (1 : Int32) then (
  f11_within_238 N k73 k92 (fun x7 σ => f11_within_148 N k73 k92 x2 x3 x4 x5 x6 fu x7 σ) x2 x3 x4 x5 x6 x7 σ) else (
  z_l ((((7 : Int32) * (x4 ||| ((1 : Int32) <<< (x7 &&& 31)))) + x7)) fun x8_32 =>
  z_c (inB (((7 : Int32) * x5) + x7) 49) (
  z_c (inB x7 7) (
  z_l (((x6 + (gI σ 206 (ix (((7 : Int32) * x5) + x7)))) + (gI σ 207 (ix x7)))) fun x9_35 =>
  z_c (inB x8_32 896) (
  if (gI σ 205 (ix x8_32)) ≤ x9_35 then (
  f11_within_238 N k73 k92 (fun x7 σ => f11_within_148 N k73 k92 x2 x3 x4 x5 x6 fu x7 σ) x2 x3 x4 x5 x6 x7 σ) else (
  z_c (inB x8_32 896) (z_l (sI σ 205 (ix x8_32) x9_35) fun σ_40 =>
  f11_within_238 N k73 k92 (fun x7 σ => f11_within_148 N k73 k92 x2 x3 x4 x5 x6 fu x7 σ) x2 x3 x4 x5 x6 x7 σ_40))))))))
def f11_within_145 (N : Nat) (k73 : Int32 → Int32 → Mm → Option (Int32 × Mm)) (k92 : Int32 → Int32 → Mm → Option (Int32 × Mm)) (x2 : Int32) (x4 : Int32) (x3 : Int32) (x5 : Int32) (x6 : Int32) (σ : Mm) : Option (Int32 × Mm) :=
  f11_within_148 N k73 k92 x2 x3 x4 x5 x6 N (0 : Int32) σ
def f11_within_92 (N : Nat) (k73 : Int32 → Int32 → Mm → Option (Int32 × Mm)) (x2 : Int32) (x4 : Int32) : Nat → Int32 → Int32 → Mm → Option (Int32 × Mm)
  | 0, _, _, _ => none
  | fu + 1, x3, x5, σ => z_c (inB (gI σ 160 18) 2) (
  if (gI σ 171 (ix (gI σ 160 18))) ≤ x5 then (
  f11_within_250 N k73 x2 x3 x4 σ) else (
  z_c (inB (((7 : Int32) * x4) + x5) 896) (
  z_l ((gI σ 205 (ix (((7 : Int32) * x4) + x5)))) fun x6_22 =>
  if x6_22 ≤ x2 then (
  z_b (f11_bits N x4 σ) fun r_24 σ_25 =>
  if r_24 ≤ x3 then (
  f11_within_145 N k73 (fun x3 x5 σ => f11_within_92 N k73 x2 x4 fu x3 x5 σ) x2 x4 x3 x5 x6_22 σ_25) else (
  z_b (f11_bits N x4 σ_25) fun r_41 σ_42 =>
  f11_within_145 N k73 (fun x3 x5 σ => f11_within_92 N k73 x2 x4 fu x3 x5 σ) x2 x4 r_41 x5 x6_22 σ_42)) else (
  f11_within_244 N k73 (fun x3 x5 σ => f11_within_92 N k73 x2 x4 fu x3 x5 σ) x2 x4 x3 x5 σ))))
def f11_within_73 (N : Nat) (x2 : Int32) : Nat → Int32 → Int32 → Mm → Option (Int32 × Mm)
  | 0, _, _, _ => none
  | fu + 1, x3, x4, σ => z_c (inB (gI σ 160 18) 2) (
  if ((1 : Int32) <<< ((gI σ 171 (ix (gI σ 160 18))) &&& 31)) ≤ x4 then (
  some (x3, σ)) else (
  f11_within_92 N (fun x3 x4 σ => f11_within_73 N x2 fu x3 x4 σ) x2 x4 N x3 (0 : Int32) σ))
def f11_within_49 (N : Nat) (x1 : Int32) (x2 : Int32) (σ : Mm) : Option (Int32 × Mm) :=
  z_c (inB x1 7) (
  z_c (inB (((7 : Int32) * ((1 : Int32) <<< (x1 &&& 31))) + x1) 896) (z_l (sI σ 205 (ix (((7 : Int32) * ((1 : Int32) <<< (x1 &&& 31))) + x1)) (gI σ 207 (ix x1))) fun σ_15 =>
  f11_within_73 N x2 N (0 : Int32) (0 : Int32) σ_15))
def f11_within_27 (N : Nat) (x1 : Int32) (x2 : Int32) : Nat → Int32 → Mm → Option (Int32 × Mm)
  | 0, _, _ => none
  | fu + 1, x3, σ => if (896 : Int32) ≤ x3 then (
  f11_within_49 N x1 x2 σ) else (
  z_c (inB x3 896) (z_l (sI σ 205 (ix x3) (99999 : Int32)) fun σ_45 =>
  z_l (x3 + (1 : Int32)) fun x3_46 =>
  f11_within_27 N x1 x2 fu x3_46 σ_45))
def f11_within (N : Nat) (x1 : Int32) (x2 : Int32) (σ : Mm) : Option (Int32 × Mm) :=
  z_b (f11_isPlot N x1 σ) fun r_1 σ_2 =>
  if r_1 = 0 then (
  some ((-1 : Int32), σ_2)) else (
  z_b (f11_in N x2 (0 : Int32) (999 : Int32) σ_2) fun r_5 σ_6 =>
  if r_5 = 0 then (
  some ((-1 : Int32), σ_6)) else (
  z_b (f11_fillsWalks N σ_6) fun _ σ_10 =>
  f11_within_27 N x1 x2 N (0 : Int32) σ_10))
set_option maxHeartbeats 4000000 in
set_option maxRecDepth 100000 in
theorem w11_within_250 (X : Cx p s m args c cX11_within 10 RX11 G) (hr : meth.sig.returnType = some .int) (hlk : meth.locks = false) (N : Nat) {x2 : Int32} {k73 : Int32 → Int32 → Mm → Option (Int32 × Mm)} (hk73 : ∀ (x3 : Int32) (x4 : Int32) (σ : Mm) (H : Heap) (locs : List Loc) (ls : Array Slot), k73 x3 x4 σ = some (r0, σ0) → Rp G 212 tt σ s H locs → lv_has ls 10 [(0, .ref (G.2.2 + 160)), (2, .int x2), (3, .int x3), (4, .int x4)] → W p l e rm11_within s m args below meth c H locs 0 0 (MQ below (P_i G 212 tt r0 σ0) args s 0 0 (Fr G)) (F0 m 73 ls [])) :
    ∀ (x3 : Int32) (x4 : Int32) (σ : Mm) (H : Heap) (locs : List Loc) (ls : Array Slot), f11_within_250 N k73 x2 x3 x4 σ = some (r0, σ0) → Rp G 212 tt σ s H locs → lv_has ls 10 [(0, .ref (G.2.2 + 160)), (2, .int x2), (3, .int x3), (4, .int x4)] → W p l e rm11_within s m args below meth c H locs 0 0 (MQ below (P_i G 212 tt r0 σ0) args s 0 0 (Fr G)) (F0 m 250 ls []) := by
  have hx := X.1
  have hb := X.2.1
  intro x3 x4 σ H locs ls hf hR hl
  unfold f11_within_250 at hf
  obtain ⟨x4_20, ex4_20⟩ : ∃ z : Int32, z = x4 + (1 : Int32) := ⟨_, rfl⟩
  replace hf := z_l_e ex4_20 hf
  refine lv_iinc (v := x4_20) (lv' := [(4, .int x4_20), (0, .ref (G.2.2 + 160)), (2, .int x2), (3, .int x3)]) hx hb dX11_within_250 hl (k := 3) rfl (by rw [ex4_20]; rfl) (by decide) rfl (fun ls hl => ?_)
  refine lv_goto (tgt := 73) hx hb dX11_within_253 (by decide) ?_
  exact hk73 x3 x4_20 σ _ _ _ hf hR (lv_sub hl [1, 2, 3, 0] rfl)
set_option maxHeartbeats 4000000 in
set_option maxRecDepth 100000 in
theorem w11_within_244 (X : Cx p s m args c cX11_within 10 RX11 G) (hr : meth.sig.returnType = some .int) (hlk : meth.locks = false) (N : Nat) {x2 : Int32} {x4 : Int32} {k73 : Int32 → Int32 → Mm → Option (Int32 × Mm)} (hk73 : ∀ (x3 : Int32) (x4 : Int32) (σ : Mm) (H : Heap) (locs : List Loc) (ls : Array Slot), k73 x3 x4 σ = some (r0, σ0) → Rp G 212 tt σ s H locs → lv_has ls 10 [(0, .ref (G.2.2 + 160)), (2, .int x2), (3, .int x3), (4, .int x4)] → W p l e rm11_within s m args below meth c H locs 0 0 (MQ below (P_i G 212 tt r0 σ0) args s 0 0 (Fr G)) (F0 m 73 ls [])) {k92 : Int32 → Int32 → Mm → Option (Int32 × Mm)} (hk92 : ∀ (x3 : Int32) (x5 : Int32) (σ : Mm) (H : Heap) (locs : List Loc) (ls : Array Slot), k92 x3 x5 σ = some (r0, σ0) → Rp G 212 tt σ s H locs → lv_has ls 10 [(0, .ref (G.2.2 + 160)), (2, .int x2), (3, .int x3), (4, .int x4), (5, .int x5)] → W p l e rm11_within s m args below meth c H locs 0 0 (MQ below (P_i G 212 tt r0 σ0) args s 0 0 (Fr G)) (F0 m 92 ls [])) :
    ∀ (x3 : Int32) (x5 : Int32) (σ : Mm) (H : Heap) (locs : List Loc) (ls : Array Slot), f11_within_244 N k73 k92 x2 x4 x3 x5 σ = some (r0, σ0) → Rp G 212 tt σ s H locs → lv_has ls 10 [(0, .ref (G.2.2 + 160)), (2, .int x2), (3, .int x3), (4, .int x4), (5, .int x5)] → W p l e rm11_within s m args below meth c H locs 0 0 (MQ below (P_i G 212 tt r0 σ0) args s 0 0 (Fr G)) (F0 m 244 ls []) := by
  have hx := X.1
  have hb := X.2.1
  intro x3 x5 σ H locs ls hf hR hl
  unfold f11_within_244 at hf
  obtain ⟨x5_30, ex5_30⟩ : ∃ z : Int32, z = x5 + (1 : Int32) := ⟨_, rfl⟩
  replace hf := z_l_e ex5_30 hf
  refine lv_iinc (v := x5_30) (lv' := [(5, .int x5_30), (0, .ref (G.2.2 + 160)), (2, .int x2), (3, .int x3), (4, .int x4)]) hx hb dX11_within_244 hl (k := 4) rfl (by rw [ex5_30]; rfl) (by decide) rfl (fun ls hl => ?_)
  refine lv_goto (tgt := 92) hx hb dX11_within_247 (by decide) ?_
  exact hk92 x3 x5_30 σ _ _ _ hf hR (lv_sub hl [1, 2, 3, 4, 0] rfl)
set_option maxHeartbeats 4000000 in
set_option maxRecDepth 100000 in
theorem w11_within_238 (X : Cx p s m args c cX11_within 10 RX11 G) (hr : meth.sig.returnType = some .int) (hlk : meth.locks = false) (N : Nat) {x2 : Int32} {x3 : Int32} {x4 : Int32} {x5 : Int32} {x6 : Int32} {k73 : Int32 → Int32 → Mm → Option (Int32 × Mm)} (hk73 : ∀ (x3 : Int32) (x4 : Int32) (σ : Mm) (H : Heap) (locs : List Loc) (ls : Array Slot), k73 x3 x4 σ = some (r0, σ0) → Rp G 212 tt σ s H locs → lv_has ls 10 [(0, .ref (G.2.2 + 160)), (2, .int x2), (3, .int x3), (4, .int x4)] → W p l e rm11_within s m args below meth c H locs 0 0 (MQ below (P_i G 212 tt r0 σ0) args s 0 0 (Fr G)) (F0 m 73 ls [])) {k92 : Int32 → Int32 → Mm → Option (Int32 × Mm)} (hk92 : ∀ (x3 : Int32) (x5 : Int32) (σ : Mm) (H : Heap) (locs : List Loc) (ls : Array Slot), k92 x3 x5 σ = some (r0, σ0) → Rp G 212 tt σ s H locs → lv_has ls 10 [(0, .ref (G.2.2 + 160)), (2, .int x2), (3, .int x3), (4, .int x4), (5, .int x5)] → W p l e rm11_within s m args below meth c H locs 0 0 (MQ below (P_i G 212 tt r0 σ0) args s 0 0 (Fr G)) (F0 m 92 ls [])) {k148 : Int32 → Mm → Option (Int32 × Mm)} (hk148 : ∀ (x7 : Int32) (σ : Mm) (H : Heap) (locs : List Loc) (ls : Array Slot), k148 x7 σ = some (r0, σ0) → Rp G 212 tt σ s H locs → lv_has ls 10 [(0, .ref (G.2.2 + 160)), (2, .int x2), (3, .int x3), (4, .int x4), (5, .int x5), (6, .int x6), (7, .int x7)] → W p l e rm11_within s m args below meth c H locs 0 0 (MQ below (P_i G 212 tt r0 σ0) args s 0 0 (Fr G)) (F0 m 148 ls [])) :
    ∀ (x7 : Int32) (σ : Mm) (H : Heap) (locs : List Loc) (ls : Array Slot), f11_within_238 N k73 k92 k148 x2 x3 x4 x5 x6 x7 σ = some (r0, σ0) → Rp G 212 tt σ s H locs → lv_has ls 10 [(0, .ref (G.2.2 + 160)), (2, .int x2), (3, .int x3), (4, .int x4), (5, .int x5), (6, .int x6), (7, .int x7)] → W p l e rm11_within s m args below meth c H locs 0 0 (MQ below (P_i G 212 tt r0 σ0) args s 0 0 (Fr G)) (F0 m 238 ls []) := by
  have hx := X.1
  have hb := X.2.1
  intro x7 σ H locs ls hf hR hl
  unfold f11_within_238 at hf
  obtain ⟨x7_38, ex7_38⟩ : ∃ z : Int32, z = x7 + (1 : Int32) := ⟨_, rfl⟩
  replace hf := z_l_e ex7_38 hf
  refine lv_iinc (v := x7_38) (lv' := [(7, .int x7_38), (0, .ref (G.2.2 + 160)), (2, .int x2), (3, .int x3), (4, .int x4), (5, .int x5), (6, .int x6)]) hx hb dX11_within_238 hl (k := 6) rfl (by rw [ex7_38]; rfl) (by decide) rfl (fun ls hl => ?_)
  refine lv_goto (tgt := 148) hx hb dX11_within_241 (by decide) ?_
  exact hk148 x7_38 σ _ _ _ hf hR (lv_sub hl [1, 2, 3, 4, 5, 6, 0] rfl)
set_option maxHeartbeats 4000000 in
set_option maxRecDepth 100000 in
theorem w11_within_148 (X : Cx p s m args c cX11_within 10 RX11 G) (hr : meth.sig.returnType = some .int) (hlk : meth.locks = false) (N : Nat) {x2 : Int32} {x3 : Int32} {x4 : Int32} {x5 : Int32} {x6 : Int32} {k73 : Int32 → Int32 → Mm → Option (Int32 × Mm)} (hk73 : ∀ (x3 : Int32) (x4 : Int32) (σ : Mm) (H : Heap) (locs : List Loc) (ls : Array Slot), k73 x3 x4 σ = some (r0, σ0) → Rp G 212 tt σ s H locs → lv_has ls 10 [(0, .ref (G.2.2 + 160)), (2, .int x2), (3, .int x3), (4, .int x4)] → W p l e rm11_within s m args below meth c H locs 0 0 (MQ below (P_i G 212 tt r0 σ0) args s 0 0 (Fr G)) (F0 m 73 ls [])) {k92 : Int32 → Int32 → Mm → Option (Int32 × Mm)} (hk92 : ∀ (x3 : Int32) (x5 : Int32) (σ : Mm) (H : Heap) (locs : List Loc) (ls : Array Slot), k92 x3 x5 σ = some (r0, σ0) → Rp G 212 tt σ s H locs → lv_has ls 10 [(0, .ref (G.2.2 + 160)), (2, .int x2), (3, .int x3), (4, .int x4), (5, .int x5)] → W p l e rm11_within s m args below meth c H locs 0 0 (MQ below (P_i G 212 tt r0 σ0) args s 0 0 (Fr G)) (F0 m 92 ls [])) :
    ∀ (fu : Nat) (x7 : Int32) (σ : Mm) (H : Heap) (locs : List Loc) (ls : Array Slot), f11_within_148 N k73 k92 x2 x3 x4 x5 x6 fu x7 σ = some (r0, σ0) → Rp G 212 tt σ s H locs → lv_has ls 10 [(0, .ref (G.2.2 + 160)), (2, .int x2), (3, .int x3), (4, .int x4), (5, .int x5), (6, .int x6), (7, .int x7)] → W p l e rm11_within s m args below meth c H locs 0 0 (MQ below (P_i G 212 tt r0 σ0) args s 0 0 (Fr G)) (F0 m 148 ls []) := by
  have hx := X.1
  have hb := X.2.1
  intro fu
  induction fu with
  | zero =>
    intro x7 σ H locs ls hf hR hl
    rw [f11_within_148] at hf
    cases hf
  | succ fu ih =>
    intro x7 σ H locs ls hf hR hl
    rw [f11_within_148] at hf
    refine lv_iload hx hb dX11_within_148 (lv_at hl 6 rfl) ?_
    refine lv_aload_n hx hb dX11_within_150 rfl (lv_at hl 0 rfl) ?_
    refine r_gs (t := 171) X hR fr_11_49 kh_160 (sx_11_24 kh_160) dX11_within_151 ?_
    refine lv_aload_n hx hb dX11_within_154 rfl (lv_at hl 0 rfl) ?_
    refine r_gi X hR fi_11_254 kh_160 dX11_within_155 ?_
    obtain ⟨hi_28, hf⟩ := z_c_e hf
    refine r_ial X hR ka_171 hi_28 dX11_within_158 ?_
    refine lv_icmp_ge (tgt := 244) hx hb dX11_within_159 (by decide) (fun c_29 => ?_) (fun c_29 => ?_)
    · replace hf := z_t c_29 hf
      exact w11_within_244 X hr hlk N hk73 hk92 x3 x5 σ _ _ _ hf hR (lv_sub hl [0, 1, 2, 3, 4] rfl)
    · replace hf := z_f c_29 hf
      refine lv_iload hx hb dX11_within_162 (lv_at hl 3 rfl) ?_
      refine lv_iload hx hb dX11_within_164 (lv_at hl 6 rfl) ?_
      refine lv_ishr hx hb dX11_within_166 ?_
      refine lv_iconst (v := (1 : Int32)) hx hb dX11_within_167 (by decide) ?_
      refine lv_iand hx hb dX11_within_168 ?_
      refine lv_iconst (v := (1 : Int32)) hx hb dX11_within_169 (by decide) ?_
      refine lv_icmp_ne (tgt := 176) hx hb dX11_within_170 (by decide) (fun c_31 => ?_) (fun c_31 => ?_)
      · replace hf := z_f c_31 hf
        refine lv_bipush (v := (7 : Int32)) hx hb dX11_within_176 (by decide) ?_
        refine lv_iload hx hb dX11_within_178 (lv_at hl 3 rfl) ?_
        refine lv_iconst (v := (1 : Int32)) hx hb dX11_within_180 (by decide) ?_
        refine lv_iload hx hb dX11_within_181 (lv_at hl 6 rfl) ?_
        refine lv_ishl hx hb dX11_within_183 ?_
        refine lv_ior hx hb dX11_within_184 ?_
        refine lv_imul hx hb dX11_within_185 ?_
        refine lv_iload hx hb dX11_within_186 (lv_at hl 6 rfl) ?_
        refine lv_iadd hx hb dX11_within_188 ?_
        refine lv_topi (fun x8_32 ex8_32 => ?_)
        replace hf := z_l_e ex8_32 hf
        refine lv_istore (lv' := [(8, .int x8_32), (0, .ref (G.2.2 + 160)), (2, .int x2), (3, .int x3), (4, .int x4), (5, .int x5), (6, .int x6), (7, .int x7)]) hx hb dX11_within_189 hl (by decide) rfl (fun ls hl => ?_)
        refine lv_iload hx hb dX11_within_191 (lv_at hl 6 rfl) ?_
        refine lv_aload_n hx hb dX11_within_193 rfl (lv_at hl 1 rfl) ?_
        refine r_gs (t := 206) X hR fr_11_155 kh_160 (sx_11_67 kh_160) dX11_within_194 ?_
        refine lv_bipush (v := (7 : Int32)) hx hb dX11_within_197 (by decide) ?_
        refine lv_iload hx hb dX11_within_199 (lv_at hl 5 rfl) ?_
        refine lv_imul hx hb dX11_within_201 ?_
        refine lv_iload hx hb dX11_within_202 (lv_at hl 7 rfl) ?_
        refine lv_iadd hx hb dX11_within_204 ?_
        obtain ⟨hi_33, hf⟩ := z_c_e hf
        refine r_ial X hR ka_206 hi_33 dX11_within_205 ?_
        refine lv_iadd hx hb dX11_within_206 ?_
        refine lv_aload_n hx hb dX11_within_207 rfl (lv_at hl 1 rfl) ?_
        refine r_gs (t := 207) X hR fr_11_158 kh_160 (sx_11_68 kh_160) dX11_within_208 ?_
        refine lv_iload hx hb dX11_within_211 (lv_at hl 7 rfl) ?_
        obtain ⟨hi_34, hf⟩ := z_c_e hf
        refine r_ial X hR ka_207 hi_34 dX11_within_213 ?_
        refine lv_iadd hx hb dX11_within_214 ?_
        refine lv_topi (fun x9_35 ex9_35 => ?_)
        replace hf := z_l_e ex9_35 hf
        refine lv_istore (lv' := [(9, .int x9_35), (8, .int x8_32), (0, .ref (G.2.2 + 160)), (2, .int x2), (3, .int x3), (4, .int x4), (5, .int x5), (6, .int x6), (7, .int x7)]) hx hb dX11_within_215 hl (by decide) rfl (fun ls hl => ?_)
        refine lv_iload hx hb dX11_within_217 (lv_at hl 0 rfl) ?_
        refine lv_aload_n hx hb dX11_within_219 rfl (lv_at hl 2 rfl) ?_
        refine r_gs (t := 205) X hR fr_11_152 kh_160 (sx_11_66 kh_160) dX11_within_220 ?_
        refine lv_iload hx hb dX11_within_223 (lv_at hl 1 rfl) ?_
        obtain ⟨hi_36, hf⟩ := z_c_e hf
        refine r_ial X hR ka_205 hi_36 dX11_within_225 ?_
        refine lv_icmp_ge (tgt := 238) hx hb dX11_within_226 (by decide) (fun c_37 => ?_) (fun c_37 => ?_)
        · replace hf := z_t c_37 hf
          exact w11_within_238 X hr hlk N hk73 hk92 ih x7 σ _ _ _ hf hR (lv_sub hl [2, 3, 4, 5, 6, 7, 8] rfl)
        · replace hf := z_f c_37 hf
          refine lv_aload_n hx hb dX11_within_229 rfl (lv_at hl 2 rfl) ?_
          refine r_gs (t := 205) X hR fr_11_152 kh_160 (sx_11_66 kh_160) dX11_within_230 ?_
          refine lv_iload hx hb dX11_within_233 (lv_at hl 1 rfl) ?_
          refine lv_iload hx hb dX11_within_235 (lv_at hl 0 rfl) ?_
          obtain ⟨hi_39, hf⟩ := z_c_e hf
          refine r_ias X hR ka_205 hi_39 dX11_within_237 (fun H locs σ_40 eσ_40 hR => ?_)
          replace hf := z_l_e eσ_40 hf
          exact w11_within_238 X hr hlk N hk73 hk92 ih x7 σ_40 _ _ _ hf hR (lv_sub hl [2, 3, 4, 5, 6, 7, 8] rfl)
      · replace hf := z_t c_31 hf
        refine lv_goto (tgt := 238) hx hb dX11_within_173 (by decide) ?_
        exact w11_within_238 X hr hlk N hk73 hk92 ih x7 σ _ _ _ hf hR (lv_sub hl [0, 1, 2, 3, 4, 5, 6] rfl)
set_option maxHeartbeats 4000000 in
set_option maxRecDepth 100000 in
theorem w11_within_145 (X : Cx p s m args c cX11_within 10 RX11 G) (hr : meth.sig.returnType = some .int) (hlk : meth.locks = false) (N : Nat) {x2 : Int32} {x4 : Int32} {k73 : Int32 → Int32 → Mm → Option (Int32 × Mm)} (hk73 : ∀ (x3 : Int32) (x4 : Int32) (σ : Mm) (H : Heap) (locs : List Loc) (ls : Array Slot), k73 x3 x4 σ = some (r0, σ0) → Rp G 212 tt σ s H locs → lv_has ls 10 [(0, .ref (G.2.2 + 160)), (2, .int x2), (3, .int x3), (4, .int x4)] → W p l e rm11_within s m args below meth c H locs 0 0 (MQ below (P_i G 212 tt r0 σ0) args s 0 0 (Fr G)) (F0 m 73 ls [])) {k92 : Int32 → Int32 → Mm → Option (Int32 × Mm)} (hk92 : ∀ (x3 : Int32) (x5 : Int32) (σ : Mm) (H : Heap) (locs : List Loc) (ls : Array Slot), k92 x3 x5 σ = some (r0, σ0) → Rp G 212 tt σ s H locs → lv_has ls 10 [(0, .ref (G.2.2 + 160)), (2, .int x2), (3, .int x3), (4, .int x4), (5, .int x5)] → W p l e rm11_within s m args below meth c H locs 0 0 (MQ below (P_i G 212 tt r0 σ0) args s 0 0 (Fr G)) (F0 m 92 ls [])) :
    ∀ (x3 : Int32) (x5 : Int32) (x6 : Int32) (σ : Mm) (H : Heap) (locs : List Loc) (ls : Array Slot), f11_within_145 N k73 k92 x2 x4 x3 x5 x6 σ = some (r0, σ0) → Rp G 212 tt σ s H locs → lv_has ls 10 [(0, .ref (G.2.2 + 160)), (2, .int x2), (3, .int x3), (4, .int x4), (5, .int x5), (6, .int x6)] → W p l e rm11_within s m args below meth c H locs 0 0 (MQ below (P_i G 212 tt r0 σ0) args s 0 0 (Fr G)) (F0 m 145 ls []) := by
  have hx := X.1
  have hb := X.2.1
  intro x3 x5 x6 σ H locs ls hf hR hl
  unfold f11_within_145 at hf
  refine lv_iconst (v := (0 : Int32)) hx hb dX11_within_145 (by decide) ?_
  refine lv_istore (lv' := [(7, .int (0 : Int32)), (0, .ref (G.2.2 + 160)), (2, .int x2), (3, .int x3), (4, .int x4), (5, .int x5), (6, .int x6)]) hx hb dX11_within_146 hl (by decide) rfl (fun ls hl => ?_)
  exact w11_within_148 X hr hlk N hk73 hk92 N (0 : Int32) σ _ _ _ hf hR (lv_sub hl [1, 2, 3, 4, 5, 6, 0] rfl)
set_option maxHeartbeats 4000000 in
set_option maxRecDepth 100000 in
theorem w11_within_92 (X : Cx p s m args c cX11_within 10 RX11 G) (hr : meth.sig.returnType = some .int) (hlk : meth.locks = false) (N : Nat) {x2 : Int32} {x4 : Int32} {k73 : Int32 → Int32 → Mm → Option (Int32 × Mm)} (hk73 : ∀ (x3 : Int32) (x4 : Int32) (σ : Mm) (H : Heap) (locs : List Loc) (ls : Array Slot), k73 x3 x4 σ = some (r0, σ0) → Rp G 212 tt σ s H locs → lv_has ls 10 [(0, .ref (G.2.2 + 160)), (2, .int x2), (3, .int x3), (4, .int x4)] → W p l e rm11_within s m args below meth c H locs 0 0 (MQ below (P_i G 212 tt r0 σ0) args s 0 0 (Fr G)) (F0 m 73 ls [])) :
    ∀ (fu : Nat) (x3 : Int32) (x5 : Int32) (σ : Mm) (H : Heap) (locs : List Loc) (ls : Array Slot), f11_within_92 N k73 x2 x4 fu x3 x5 σ = some (r0, σ0) → Rp G 212 tt σ s H locs → lv_has ls 10 [(0, .ref (G.2.2 + 160)), (2, .int x2), (3, .int x3), (4, .int x4), (5, .int x5)] → W p l e rm11_within s m args below meth c H locs 0 0 (MQ below (P_i G 212 tt r0 σ0) args s 0 0 (Fr G)) (F0 m 92 ls []) := by
  have hx := X.1
  have hb := X.2.1
  intro fu
  induction fu with
  | zero =>
    intro x3 x5 σ H locs ls hf hR hl
    rw [f11_within_92] at hf
    cases hf
  | succ fu ih =>
    intro x3 x5 σ H locs ls hf hR hl
    rw [f11_within_92] at hf
    refine lv_iload hx hb dX11_within_92 (lv_at hl 4 rfl) ?_
    refine lv_aload_n hx hb dX11_within_94 rfl (lv_at hl 0 rfl) ?_
    refine r_gs (t := 171) X hR fr_11_49 kh_160 (sx_11_24 kh_160) dX11_within_95 ?_
    refine lv_aload_n hx hb dX11_within_98 rfl (lv_at hl 0 rfl) ?_
    refine r_gi X hR fi_11_254 kh_160 dX11_within_99 ?_
    obtain ⟨hi_18, hf⟩ := z_c_e hf
    refine r_ial X hR ka_171 hi_18 dX11_within_102 ?_
    refine lv_icmp_ge (tgt := 250) hx hb dX11_within_103 (by decide) (fun c_19 => ?_) (fun c_19 => ?_)
    · replace hf := z_t c_19 hf
      exact w11_within_250 X hr hlk N hk73 x3 x4 σ _ _ _ hf hR (lv_sub hl [0, 1, 2, 3] rfl)
    · replace hf := z_f c_19 hf
      refine lv_aload_n hx hb dX11_within_106 rfl (lv_at hl 0 rfl) ?_
      refine r_gs (t := 205) X hR fr_11_152 kh_160 (sx_11_66 kh_160) dX11_within_107 ?_
      refine lv_bipush (v := (7 : Int32)) hx hb dX11_within_110 (by decide) ?_
      refine lv_iload hx hb dX11_within_112 (lv_at hl 3 rfl) ?_
      refine lv_imul hx hb dX11_within_114 ?_
      refine lv_iload hx hb dX11_within_115 (lv_at hl 4 rfl) ?_
      refine lv_iadd hx hb dX11_within_117 ?_
      obtain ⟨hi_21, hf⟩ := z_c_e hf
      refine r_ial X hR ka_205 hi_21 dX11_within_118 ?_
      refine lv_topi (fun x6_22 ex6_22 => ?_)
      replace hf := z_l_e ex6_22 hf
      refine lv_istore (lv' := [(6, .int x6_22), (0, .ref (G.2.2 + 160)), (2, .int x2), (3, .int x3), (4, .int x4), (5, .int x5)]) hx hb dX11_within_119 hl (by decide) rfl (fun ls hl => ?_)
      refine lv_iload hx hb dX11_within_121 (lv_at hl 0 rfl) ?_
      refine lv_iload_n hx hb dX11_within_123 rfl (lv_at hl 2 rfl) ?_
      refine lv_icmp_le (tgt := 130) hx hb dX11_within_124 (by decide) (fun c_23 => ?_) (fun c_23 => ?_)
      · replace hf := z_t c_23 hf
        refine lv_iload hx hb dX11_within_130 (lv_at hl 4 rfl) ?_
        obtain ⟨r_24, σ_25, hc_26, hf⟩ := z_b_e hf
        refine go_i hR (ms_run (As := [.int x4]) (rest := []) X hR ms_11_366 (c11_bits l G N hc_26) ⟨rfl, rfl, Nat.le_of_ble_eq_true rfl, Nat.le_of_ble_eq_true rfl⟩ rfl hl.1 rfl (Nat.le_of_ble_eq_true rfl) dX11_within_132 ⟨Nat.zero_le _, Nat.zero_le _⟩) (fun H locs hR => ?_)
        refine lv_iload_n hx hb dX11_within_135 rfl (lv_at hl 3 rfl) ?_
        refine lv_icmp_le (tgt := 145) hx hb dX11_within_136 (by decide) (fun c_27 => ?_) (fun c_27 => ?_)
        · replace hf := z_t c_27 hf
          exact w11_within_145 X hr hlk N hk73 ih x3 x5 x6_22 σ_25 _ _ _ hf hR (lv_sub hl [1, 2, 3, 4, 5, 0] rfl)
        · replace hf := z_f c_27 hf
          refine lv_iload hx hb dX11_within_139 (lv_at hl 4 rfl) ?_
          obtain ⟨r_41, σ_42, hc_43, hf⟩ := z_b_e hf
          refine go_i hR (ms_run (As := [.int x4]) (rest := []) X hR ms_11_366 (c11_bits l G N hc_43) ⟨rfl, rfl, Nat.le_of_ble_eq_true rfl, Nat.le_of_ble_eq_true rfl⟩ rfl hl.1 rfl (Nat.le_of_ble_eq_true rfl) dX11_within_141 ⟨Nat.zero_le _, Nat.zero_le _⟩) (fun H locs hR => ?_)
          refine lv_istore_n (lv' := [(3, .int r_41), (6, .int x6_22), (0, .ref (G.2.2 + 160)), (2, .int x2), (4, .int x4), (5, .int x5)]) hx hb dX11_within_144 rfl hl (by decide) rfl (fun ls hl => ?_)
          exact w11_within_145 X hr hlk N hk73 ih r_41 x5 x6_22 σ_42 _ _ _ hf hR (lv_sub hl [2, 3, 0, 4, 5, 1] rfl)
      · replace hf := z_f c_23 hf
        refine lv_goto (tgt := 244) hx hb dX11_within_127 (by decide) ?_
        exact w11_within_244 X hr hlk N hk73 ih x3 x5 σ _ _ _ hf hR (lv_sub hl [1, 2, 3, 4, 5] rfl)
set_option maxHeartbeats 4000000 in
set_option maxRecDepth 100000 in
theorem w11_within_73 (X : Cx p s m args c cX11_within 10 RX11 G) (hr : meth.sig.returnType = some .int) (hlk : meth.locks = false) (N : Nat) {x2 : Int32} :
    ∀ (fu : Nat) (x3 : Int32) (x4 : Int32) (σ : Mm) (H : Heap) (locs : List Loc) (ls : Array Slot), f11_within_73 N x2 fu x3 x4 σ = some (r0, σ0) → Rp G 212 tt σ s H locs → lv_has ls 10 [(0, .ref (G.2.2 + 160)), (2, .int x2), (3, .int x3), (4, .int x4)] → W p l e rm11_within s m args below meth c H locs 0 0 (MQ below (P_i G 212 tt r0 σ0) args s 0 0 (Fr G)) (F0 m 73 ls []) := by
  have hx := X.1
  have hb := X.2.1
  intro fu
  induction fu with
  | zero =>
    intro x3 x4 σ H locs ls hf hR hl
    rw [f11_within_73] at hf
    cases hf
  | succ fu ih =>
    intro x3 x4 σ H locs ls hf hR hl
    rw [f11_within_73] at hf
    refine lv_iload hx hb dX11_within_73 (lv_at hl 3 rfl) ?_
    refine lv_iconst (v := (1 : Int32)) hx hb dX11_within_75 (by decide) ?_
    refine lv_aload_n hx hb dX11_within_76 rfl (lv_at hl 0 rfl) ?_
    refine r_gs (t := 171) X hR fr_11_49 kh_160 (sx_11_24 kh_160) dX11_within_77 ?_
    refine lv_aload_n hx hb dX11_within_80 rfl (lv_at hl 0 rfl) ?_
    refine r_gi X hR fi_11_254 kh_160 dX11_within_81 ?_
    obtain ⟨hi_16, hf⟩ := z_c_e hf
    refine r_ial X hR ka_171 hi_16 dX11_within_84 ?_
    refine lv_ishl hx hb dX11_within_85 ?_
    refine lv_icmp_ge (tgt := 256) hx hb dX11_within_86 (by decide) (fun c_17 => ?_) (fun c_17 => ?_)
    · replace hf := z_t c_17 hf
      refine lv_iload_n hx hb dX11_within_256 rfl (lv_at hl 2 rfl) ?_
      exact e_i X hR hr hlk hf dX11_within_257
    · replace hf := z_f c_17 hf
      refine lv_iconst (v := (0 : Int32)) hx hb dX11_within_89 (by decide) ?_
      refine lv_istore (lv' := [(5, .int (0 : Int32)), (0, .ref (G.2.2 + 160)), (2, .int x2), (3, .int x3), (4, .int x4)]) hx hb dX11_within_90 hl (by decide) rfl (fun ls hl => ?_)
      exact w11_within_92 X hr hlk N ih N x3 (0 : Int32) σ _ _ _ hf hR (lv_sub hl [1, 2, 3, 4, 0] rfl)
set_option maxHeartbeats 4000000 in
set_option maxRecDepth 100000 in
theorem w11_within_49 (X : Cx p s m args c cX11_within 10 RX11 G) (hr : meth.sig.returnType = some .int) (hlk : meth.locks = false) (N : Nat) :
    ∀ (x1 : Int32) (x2 : Int32) (σ : Mm) (H : Heap) (locs : List Loc) (ls : Array Slot), f11_within_49 N x1 x2 σ = some (r0, σ0) → Rp G 212 tt σ s H locs → lv_has ls 10 [(0, .ref (G.2.2 + 160)), (1, .int x1), (2, .int x2)] → W p l e rm11_within s m args below meth c H locs 0 0 (MQ below (P_i G 212 tt r0 σ0) args s 0 0 (Fr G)) (F0 m 49 ls []) := by
  have hx := X.1
  have hb := X.2.1
  intro x1 x2 σ H locs ls hf hR hl
  unfold f11_within_49 at hf
  refine lv_aload_n hx hb dX11_within_49 rfl (lv_at hl 0 rfl) ?_
  refine r_gs (t := 205) X hR fr_11_152 kh_160 (sx_11_66 kh_160) dX11_within_50 ?_
  refine lv_bipush (v := (7 : Int32)) hx hb dX11_within_53 (by decide) ?_
  refine lv_iconst (v := (1 : Int32)) hx hb dX11_within_55 (by decide) ?_
  refine lv_iload_n hx hb dX11_within_56 rfl (lv_at hl 1 rfl) ?_
  refine lv_ishl hx hb dX11_within_57 ?_
  refine lv_imul hx hb dX11_within_58 ?_
  refine lv_iload_n hx hb dX11_within_59 rfl (lv_at hl 1 rfl) ?_
  refine lv_iadd hx hb dX11_within_60 ?_
  refine lv_aload_n hx hb dX11_within_61 rfl (lv_at hl 0 rfl) ?_
  refine r_gs (t := 207) X hR fr_11_158 kh_160 (sx_11_68 kh_160) dX11_within_62 ?_
  refine lv_iload_n hx hb dX11_within_65 rfl (lv_at hl 1 rfl) ?_
  obtain ⟨hi_13, hf⟩ := z_c_e hf
  refine r_ial X hR ka_207 hi_13 dX11_within_66 ?_
  obtain ⟨hi_14, hf⟩ := z_c_e hf
  refine r_ias X hR ka_205 hi_14 dX11_within_67 (fun H locs σ_15 eσ_15 hR => ?_)
  replace hf := z_l_e eσ_15 hf
  refine lv_iconst (v := (0 : Int32)) hx hb dX11_within_68 (by decide) ?_
  refine lv_istore_n (lv' := [(3, .int (0 : Int32)), (0, .ref (G.2.2 + 160)), (1, .int x1), (2, .int x2)]) hx hb dX11_within_69 rfl hl (by decide) rfl (fun ls hl => ?_)
  refine lv_iconst (v := (0 : Int32)) hx hb dX11_within_70 (by decide) ?_
  refine lv_istore (lv' := [(4, .int (0 : Int32)), (3, .int (0 : Int32)), (0, .ref (G.2.2 + 160)), (1, .int x1), (2, .int x2)]) hx hb dX11_within_71 hl (by decide) rfl (fun ls hl => ?_)
  exact w11_within_73 X hr hlk N  N (0 : Int32) (0 : Int32) σ_15 _ _ _ hf hR (lv_sub hl [2, 4, 1, 0] rfl)
set_option maxHeartbeats 4000000 in
set_option maxRecDepth 100000 in
theorem w11_within_27 (X : Cx p s m args c cX11_within 10 RX11 G) (hr : meth.sig.returnType = some .int) (hlk : meth.locks = false) (N : Nat) {x1 : Int32} {x2 : Int32} :
    ∀ (fu : Nat) (x3 : Int32) (σ : Mm) (H : Heap) (locs : List Loc) (ls : Array Slot), f11_within_27 N x1 x2 fu x3 σ = some (r0, σ0) → Rp G 212 tt σ s H locs → lv_has ls 10 [(0, .ref (G.2.2 + 160)), (1, .int x1), (2, .int x2), (3, .int x3)] → W p l e rm11_within s m args below meth c H locs 0 0 (MQ below (P_i G 212 tt r0 σ0) args s 0 0 (Fr G)) (F0 m 27 ls []) := by
  have hx := X.1
  have hb := X.2.1
  intro fu
  induction fu with
  | zero =>
    intro x3 σ H locs ls hf hR hl
    rw [f11_within_27] at hf
    cases hf
  | succ fu ih =>
    intro x3 σ H locs ls hf hR hl
    rw [f11_within_27] at hf
    refine lv_iload_n hx hb dX11_within_27 rfl (lv_at hl 3 rfl) ?_
    refine lv_sipush (v := (896 : Int32)) hx hb dX11_within_28 (by decide) ?_
    refine lv_icmp_ge (tgt := 49) hx hb dX11_within_31 (by decide) (fun c_12 => ?_) (fun c_12 => ?_)
    · replace hf := z_t c_12 hf
      exact w11_within_49 X hr hlk N  x1 x2 σ _ _ _ hf hR (lv_sub hl [0, 1, 2] rfl)
    · replace hf := z_f c_12 hf
      refine lv_aload_n hx hb dX11_within_34 rfl (lv_at hl 0 rfl) ?_
      refine r_gs (t := 205) X hR fr_11_152 kh_160 (sx_11_66 kh_160) dX11_within_35 ?_
      refine lv_iload_n hx hb dX11_within_38 rfl (lv_at hl 3 rfl) ?_
      refine lv_ldcw hx hb X.2.2.2.1 (X.2.2.2.2.1 _ co_11_457) dX11_within_39 ?_
      obtain ⟨hi_44, hf⟩ := z_c_e hf
      refine r_ias X hR ka_205 hi_44 dX11_within_42 (fun H locs σ_45 eσ_45 hR => ?_)
      replace hf := z_l_e eσ_45 hf
      obtain ⟨x3_46, ex3_46⟩ : ∃ z : Int32, z = x3 + (1 : Int32) := ⟨_, rfl⟩
      replace hf := z_l_e ex3_46 hf
      refine lv_iinc (v := x3_46) (lv' := [(3, .int x3_46), (0, .ref (G.2.2 + 160)), (1, .int x1), (2, .int x2)]) hx hb dX11_within_43 hl (k := 3) rfl (by rw [ex3_46]; rfl) (by decide) rfl (fun ls hl => ?_)
      refine lv_goto (tgt := 27) hx hb dX11_within_46 (by decide) ?_
      exact ih x3_46 σ_45 _ _ _ hf hR (lv_sub hl [1, 2, 3, 0] rfl)
set_option maxHeartbeats 4000000 in
set_option maxRecDepth 100000 in
theorem c11_within (l : Launch) (G : Gp) (N : Nat) {x1 : Int32} {x2 : Int32} {σ σ0 : Mm} {r0 : Int32} (hf : f11_within N x1 x2 σ = some (r0, σ0)) : Met l yX11_within (WS yX11_within cX11_within 10 (some .int)) rm11_within (va_Pc [.ref (G.2.2 + 160), .int x1, .int x2] (Pd G 212 tt σ)) (P_i G 212 tt r0 σ0) 0 0 (Fr G) := by
  refine ct [(0, .ref (G.2.2 + 160)), (1, .int x1), (2, .int x2)] rfl (by decide) (Nat.le_of_ble_eq_true rfl) ?_
  intro p e s m below meth c ls X hr hlk hR hl
  have X : Cx p s m _ c cX11_within 10 RX11 G := X
  have hx := X.1
  have hb := X.2.1
  unfold f11_within at hf
  refine lv_aload_n hx hb dX11_within_0 rfl (lv_at hl 0 rfl) ?_
  refine lv_iload_n hx hb dX11_within_1 rfl (lv_at hl 1 rfl) ?_
  obtain ⟨r_1, σ_2, hc_3, hf⟩ := z_b_e hf
  refine go_i hR (mv_run (As := [.int x1]) (rest := []) X hR mv_11_397 kh_160 (kd_lt kh_160 (by decide)) (c11_isPlot l G N hc_3) ⟨rfl, rfl, Nat.le_of_ble_eq_true rfl, Nat.le_of_ble_eq_true rfl⟩ rfl hl.1 rfl (Nat.le_of_ble_eq_true rfl) dX11_within_2 ⟨Nat.zero_le _, Nat.zero_le _⟩) (fun H locs hR => ?_)
  refine lv_if_eq (tgt := 19) hx hb dX11_within_5 (by decide) (fun c_4 => ?_) (fun c_4 => ?_)
  · replace hf := z_t c_4 hf
    refine lv_iconst (v := (-1 : Int32)) hx hb dX11_within_19 (by decide) ?_
    exact e_i X hR hr hlk hf dX11_within_20
  · replace hf := z_f c_4 hf
    refine lv_iload_n hx hb dX11_within_8 rfl (lv_at hl 2 rfl) ?_
    refine lv_iconst (v := (0 : Int32)) hx hb dX11_within_9 (by decide) ?_
    refine lv_sipush (v := (999 : Int32)) hx hb dX11_within_10 (by decide) ?_
    obtain ⟨r_5, σ_6, hc_7, hf⟩ := z_b_e hf
    refine go_i hR (ms_run (As := [.int x2, .int (0 : Int32), .int (999 : Int32)]) (rest := []) X hR ms_11_340 (c11_in l G N hc_7) ⟨rfl, rfl, Nat.le_of_ble_eq_true rfl, Nat.le_of_ble_eq_true rfl⟩ rfl hl.1 rfl (Nat.le_of_ble_eq_true rfl) dX11_within_13 ⟨Nat.zero_le _, Nat.zero_le _⟩) (fun H locs hR => ?_)
    refine lv_if_ne (tgt := 21) hx hb dX11_within_16 (by decide) (fun c_8 => ?_) (fun c_8 => ?_)
    · replace hf := z_f c_8 hf
      refine lv_aload_n hx hb dX11_within_21 rfl (lv_at hl 0 rfl) ?_
      obtain ⟨r_9, σ_10, hc_11, hf⟩ := z_b_e hf
      refine go_v hR (mv_run (As := []) (rest := []) X hR mv_11_454 kh_160 (kd_lt kh_160 (by decide)) (c11_fillsWalks l G N hc_11) ⟨rfl, rfl, Nat.le_of_ble_eq_true rfl, Nat.le_of_ble_eq_true rfl⟩ rfl hl.1 rfl (Nat.le_of_ble_eq_true rfl) dX11_within_22 ⟨Nat.zero_le _, Nat.zero_le _⟩) (fun H locs hR => ?_)
      refine lv_iconst (v := (0 : Int32)) hx hb dX11_within_25 (by decide) ?_
      refine lv_istore_n (lv' := [(3, .int (0 : Int32)), (0, .ref (G.2.2 + 160)), (1, .int x1), (2, .int x2)]) hx hb dX11_within_26 rfl hl (by decide) rfl (fun ls hl => ?_)
      exact w11_within_27 X hr hlk N  N (0 : Int32) σ_10 _ _ _ hf hR (lv_sub hl [1, 2, 3, 0] rfl)
    · replace hf := z_t c_8 hf
      refine lv_iconst (v := (-1 : Int32)) hx hb dX11_within_19 (by decide) ?_
      exact e_i X hR hr hlk hf dX11_within_20
abbrev rm11_hasNow : Room := { frames := 0, cells := 0, slots := 0, locals := 0 }
def f11_hasNow_30 (N : Nat) (k4 : Int32 → Int32 → Mm → Option (Int32 × Mm)) (x1 : Int32) (x2 : Int32) (x3 : Int32) (σ : Mm) : Option (Int32 × Mm) :=
  z_l (x3 + (1 : Int32)) fun x3_5 =>
  k4 x2 x3_5 σ
def f11_hasNow_4 (N : Nat) (x1 : Int32) : Nat → Int32 → Int32 → Mm → Option (Int32 × Mm)
  | 0, _, _, _ => none
  | fu + 1, x2, x3, σ => z_c (inB (gI σ 160 18) 2) (
  if (gI σ 171 (ix (gI σ 160 18))) ≤ x3 then (
  some (x2, σ)) else (
  z_c (inB x3 7) (
  if (gI σ 200 (ix x3)) = x1 then (
  z_l (x2 + (1 : Int32)) fun x2_6 =>
  f11_hasNow_30 N (fun x2 x3 σ => f11_hasNow_4 N x1 fu x2 x3 σ) x1 x2_6 x3 σ) else (
  f11_hasNow_30 N (fun x2 x3 σ => f11_hasNow_4 N x1 fu x2 x3 σ) x1 x2 x3 σ))))
def f11_hasNow (N : Nat) (x1 : Int32) (σ : Mm) : Option (Int32 × Mm) :=
  f11_hasNow_4 N x1 N (0 : Int32) (0 : Int32) σ
set_option maxHeartbeats 4000000 in
set_option maxRecDepth 100000 in
theorem w11_hasNow_30 (X : Cx p s m args c cX11_hasNow 4 RX11 G) (hr : meth.sig.returnType = some .int) (hlk : meth.locks = false) (N : Nat) {x1 : Int32} {k4 : Int32 → Int32 → Mm → Option (Int32 × Mm)} (hk4 : ∀ (x2 : Int32) (x3 : Int32) (σ : Mm) (H : Heap) (locs : List Loc) (ls : Array Slot), k4 x2 x3 σ = some (r0, σ0) → Rp G 212 tt σ s H locs → lv_has ls 4 [(0, .ref (G.2.2 + 160)), (1, .int x1), (2, .int x2), (3, .int x3)] → W p l e rm11_hasNow s m args below meth c H locs 0 0 (MQ below (P_i G 212 tt r0 σ0) args s 0 0 (Fr G)) (F0 m 4 ls [])) :
    ∀ (x2 : Int32) (x3 : Int32) (σ : Mm) (H : Heap) (locs : List Loc) (ls : Array Slot), f11_hasNow_30 N k4 x1 x2 x3 σ = some (r0, σ0) → Rp G 212 tt σ s H locs → lv_has ls 4 [(0, .ref (G.2.2 + 160)), (1, .int x1), (2, .int x2), (3, .int x3)] → W p l e rm11_hasNow s m args below meth c H locs 0 0 (MQ below (P_i G 212 tt r0 σ0) args s 0 0 (Fr G)) (F0 m 30 ls []) := by
  have hx := X.1
  have hb := X.2.1
  intro x2 x3 σ H locs ls hf hR hl
  unfold f11_hasNow_30 at hf
  obtain ⟨x3_5, ex3_5⟩ : ∃ z : Int32, z = x3 + (1 : Int32) := ⟨_, rfl⟩
  replace hf := z_l_e ex3_5 hf
  refine lv_iinc (v := x3_5) (lv' := [(3, .int x3_5), (0, .ref (G.2.2 + 160)), (1, .int x1), (2, .int x2)]) hx hb dX11_hasNow_30 hl (k := 3) rfl (by rw [ex3_5]; rfl) (by decide) rfl (fun ls hl => ?_)
  refine lv_goto (tgt := 4) hx hb dX11_hasNow_33 (by decide) ?_
  exact hk4 x2 x3_5 σ _ _ _ hf hR (lv_sub hl [1, 2, 3, 0] rfl)
set_option maxHeartbeats 4000000 in
set_option maxRecDepth 100000 in
theorem w11_hasNow_4 (X : Cx p s m args c cX11_hasNow 4 RX11 G) (hr : meth.sig.returnType = some .int) (hlk : meth.locks = false) (N : Nat) {x1 : Int32} :
    ∀ (fu : Nat) (x2 : Int32) (x3 : Int32) (σ : Mm) (H : Heap) (locs : List Loc) (ls : Array Slot), f11_hasNow_4 N x1 fu x2 x3 σ = some (r0, σ0) → Rp G 212 tt σ s H locs → lv_has ls 4 [(0, .ref (G.2.2 + 160)), (1, .int x1), (2, .int x2), (3, .int x3)] → W p l e rm11_hasNow s m args below meth c H locs 0 0 (MQ below (P_i G 212 tt r0 σ0) args s 0 0 (Fr G)) (F0 m 4 ls []) := by
  have hx := X.1
  have hb := X.2.1
  intro fu
  induction fu with
  | zero =>
    intro x2 x3 σ H locs ls hf hR hl
    rw [f11_hasNow_4] at hf
    cases hf
  | succ fu ih =>
    intro x2 x3 σ H locs ls hf hR hl
    rw [f11_hasNow_4] at hf
    refine lv_iload_n hx hb dX11_hasNow_4 rfl (lv_at hl 3 rfl) ?_
    refine lv_aload_n hx hb dX11_hasNow_5 rfl (lv_at hl 0 rfl) ?_
    refine r_gs (t := 171) X hR fr_11_49 kh_160 (sx_11_24 kh_160) dX11_hasNow_6 ?_
    refine lv_aload_n hx hb dX11_hasNow_9 rfl (lv_at hl 0 rfl) ?_
    refine r_gi X hR fi_11_254 kh_160 dX11_hasNow_10 ?_
    obtain ⟨hi_1, hf⟩ := z_c_e hf
    refine r_ial X hR ka_171 hi_1 dX11_hasNow_13 ?_
    refine lv_icmp_ge (tgt := 36) hx hb dX11_hasNow_14 (by decide) (fun c_2 => ?_) (fun c_2 => ?_)
    · replace hf := z_t c_2 hf
      refine lv_iload_n hx hb dX11_hasNow_36 rfl (lv_at hl 2 rfl) ?_
      exact e_i X hR hr hlk hf dX11_hasNow_37
    · replace hf := z_f c_2 hf
      refine lv_aload_n hx hb dX11_hasNow_17 rfl (lv_at hl 0 rfl) ?_
      refine r_gs (t := 200) X hR fr_11_137 kh_160 (sx_11_60 kh_160) dX11_hasNow_18 ?_
      refine lv_iload_n hx hb dX11_hasNow_21 rfl (lv_at hl 3 rfl) ?_
      obtain ⟨hi_3, hf⟩ := z_c_e hf
      refine r_ial X hR ka_200 hi_3 dX11_hasNow_22 ?_
      refine lv_iload_n hx hb dX11_hasNow_23 rfl (lv_at hl 1 rfl) ?_
      refine lv_icmp_ne (tgt := 30) hx hb dX11_hasNow_24 (by decide) (fun c_4 => ?_) (fun c_4 => ?_)
      · replace hf := z_f c_4 hf
        exact w11_hasNow_30 X hr hlk N ih x2 x3 σ _ _ _ hf hR (lv_sub hl [0, 1, 2, 3] rfl)
      · replace hf := z_t c_4 hf
        obtain ⟨x2_6, ex2_6⟩ : ∃ z : Int32, z = x2 + (1 : Int32) := ⟨_, rfl⟩
        replace hf := z_l_e ex2_6 hf
        refine lv_iinc (v := x2_6) (lv' := [(2, .int x2_6), (0, .ref (G.2.2 + 160)), (1, .int x1), (3, .int x3)]) hx hb dX11_hasNow_27 hl (k := 2) rfl (by rw [ex2_6]; rfl) (by decide) rfl (fun ls hl => ?_)
        exact w11_hasNow_30 X hr hlk N ih x2_6 x3 σ _ _ _ hf hR (lv_sub hl [1, 2, 0, 3] rfl)
set_option maxHeartbeats 4000000 in
set_option maxRecDepth 100000 in
theorem c11_hasNow (l : Launch) (G : Gp) (N : Nat) {x1 : Int32} {σ σ0 : Mm} {r0 : Int32} (hf : f11_hasNow N x1 σ = some (r0, σ0)) : Met l yX11_hasNow (WS yX11_hasNow cX11_hasNow 4 (some .int)) rm11_hasNow (va_Pc [.ref (G.2.2 + 160), .int x1] (Pd G 212 tt σ)) (P_i G 212 tt r0 σ0) 0 0 (Fr G) := by
  refine ct [(0, .ref (G.2.2 + 160)), (1, .int x1)] rfl (by decide) (Nat.le_of_ble_eq_true rfl) ?_
  intro p e s m below meth c ls X hr hlk hR hl
  have X : Cx p s m _ c cX11_hasNow 4 RX11 G := X
  have hx := X.1
  have hb := X.2.1
  unfold f11_hasNow at hf
  refine lv_iconst (v := (0 : Int32)) hx hb dX11_hasNow_0 (by decide) ?_
  refine lv_istore_n (lv' := [(2, .int (0 : Int32)), (0, .ref (G.2.2 + 160)), (1, .int x1)]) hx hb dX11_hasNow_1 rfl hl (by decide) rfl (fun ls hl => ?_)
  refine lv_iconst (v := (0 : Int32)) hx hb dX11_hasNow_2 (by decide) ?_
  refine lv_istore_n (lv' := [(3, .int (0 : Int32)), (2, .int (0 : Int32)), (0, .ref (G.2.2 + 160)), (1, .int x1)]) hx hb dX11_hasNow_3 rfl hl (by decide) rfl (fun ls hl => ?_)
  exact w11_hasNow_4 X hr hlk N  N (0 : Int32) (0 : Int32) σ _ _ _ hf hR (lv_sub hl [2, 3, 1, 0] rfl)
abbrev rm11_goesOnTo : Room := { frames := 6, cells := 0, slots := 0, locals := 141 }
def f11_goesOnTo (N : Nat) (x1 : Int32) (σ : Mm) : Option (Unit × Mm) :=
  z_b (f11_copies N σ) fun _ σ_2 =>
  z_b (f11_goes N x1 σ_2) fun _ σ_5 =>
  z_b (f11_fillsWhose N σ_5) fun _ σ_8 =>
  some ((), σ_8)
set_option maxHeartbeats 4000000 in
set_option maxRecDepth 100000 in
theorem c11_goesOnTo (l : Launch) (G : Gp) (N : Nat) {x1 : Int32} {σ σ0 : Mm} {u0 : Unit} (hf : f11_goesOnTo N x1 σ = some (u0, σ0)) : Met l yX11_goesOnTo (WS yX11_goesOnTo cX11_goesOnTo 2 (none)) rm11_goesOnTo (va_Pc [.ref (G.2.2 + 160), .int x1] (Pd G 212 tt σ)) (P_v G 212 tt u0 σ0) 0 0 (Fr G) := by
  refine ct [(0, .ref (G.2.2 + 160)), (1, .int x1)] rfl (by decide) (Nat.le_of_ble_eq_true rfl) ?_
  intro p e s m below meth c ls X hr hlk hR hl
  have X : Cx p s m _ c cX11_goesOnTo 2 RX11 G := X
  have hx := X.1
  have hb := X.2.1
  unfold f11_goesOnTo at hf
  refine lv_aload_n hx hb dX11_goesOnTo_0 rfl (lv_at hl 0 rfl) ?_
  obtain ⟨r_1, σ_2, hc_3, hf⟩ := z_b_e hf
  refine go_v hR (mv_run (As := []) (rest := []) X hR mv_11_400 kh_160 (kd_lt kh_160 (by decide)) (c11_copies l G N hc_3) ⟨rfl, rfl, Nat.le_of_ble_eq_true rfl, Nat.le_of_ble_eq_true rfl⟩ rfl hl.1 rfl (Nat.le_of_ble_eq_true rfl) dX11_goesOnTo_1 ⟨Nat.zero_le _, Nat.zero_le _⟩) (fun H locs hR => ?_)
  refine lv_aload_n hx hb dX11_goesOnTo_4 rfl (lv_at hl 0 rfl) ?_
  refine lv_iload_n hx hb dX11_goesOnTo_5 rfl (lv_at hl 1 rfl) ?_
  obtain ⟨r_4, σ_5, hc_6, hf⟩ := z_b_e hf
  refine go_v hR (mv_run (As := [.int x1]) (rest := []) X hR mv_11_424 kh_160 (kd_lt kh_160 (by decide)) (c11_goes l G N hc_6) ⟨rfl, rfl, Nat.le_of_ble_eq_true rfl, Nat.le_of_ble_eq_true rfl⟩ rfl hl.1 rfl (Nat.le_of_ble_eq_true rfl) dX11_goesOnTo_6 ⟨Nat.zero_le _, Nat.zero_le _⟩) (fun H locs hR => ?_)
  refine lv_aload_n hx hb dX11_goesOnTo_9 rfl (lv_at hl 0 rfl) ?_
  obtain ⟨r_7, σ_8, hc_9, hf⟩ := z_b_e hf
  refine go_v hR (mv_run (As := []) (rest := []) X hR mv_11_403 kh_160 (kd_lt kh_160 (by decide)) (c11_fillsWhose l G N hc_9) ⟨rfl, rfl, Nat.le_of_ble_eq_true rfl, Nat.le_of_ble_eq_true rfl⟩ rfl hl.1 rfl (Nat.le_of_ble_eq_true rfl) dX11_goesOnTo_10 ⟨Nat.zero_le _, Nat.zero_le _⟩) (fun H locs hR => ?_)
  exact e_v X hR hr hlk hf dX11_goesOnTo_13
abbrev rm11_has : Room := { frames := 7, cells := 0, slots := 0, locals := 162 }
def f11_has (N : Nat) (x1 : Int32) (x2 : Int32) (σ : Mm) : Option (Int32 × Mm) :=
  z_b (f11_isPerson N x1 σ) fun r_1 σ_2 =>
  if r_1 = 0 then (
  some ((-1 : Int32), σ_2)) else (
  z_b (f11_isLong N x2 σ_2) fun r_5 σ_6 =>
  if r_5 = 0 then (
  some ((-1 : Int32), σ_6)) else (
  z_b (f11_goesOnTo N x2 σ_6) fun _ σ_10 =>
  z_b (f11_hasNow N x1 σ_10) fun r_12 σ_13 =>
  some (r_12, σ_13)))
set_option maxHeartbeats 4000000 in
set_option maxRecDepth 100000 in
theorem c11_has (l : Launch) (G : Gp) (N : Nat) {x1 : Int32} {x2 : Int32} {σ σ0 : Mm} {r0 : Int32} (hf : f11_has N x1 x2 σ = some (r0, σ0)) : Met l yX11_has (WS yX11_has cX11_has 3 (some .int)) rm11_has (va_Pc [.ref (G.2.2 + 160), .int x1, .int x2] (Pd G 212 tt σ)) (P_i G 212 tt r0 σ0) 0 0 (Fr G) := by
  refine ct [(0, .ref (G.2.2 + 160)), (1, .int x1), (2, .int x2)] rfl (by decide) (Nat.le_of_ble_eq_true rfl) ?_
  intro p e s m below meth c ls X hr hlk hR hl
  have X : Cx p s m _ c cX11_has 3 RX11 G := X
  have hx := X.1
  have hb := X.2.1
  unfold f11_has at hf
  refine lv_aload_n hx hb dX11_has_0 rfl (lv_at hl 0 rfl) ?_
  refine lv_iload_n hx hb dX11_has_1 rfl (lv_at hl 1 rfl) ?_
  obtain ⟨r_1, σ_2, hc_3, hf⟩ := z_b_e hf
  refine go_i hR (mv_run (As := [.int x1]) (rest := []) X hR mv_11_415 kh_160 (kd_lt kh_160 (by decide)) (c11_isPerson l G N hc_3) ⟨rfl, rfl, Nat.le_of_ble_eq_true rfl, Nat.le_of_ble_eq_true rfl⟩ rfl hl.1 rfl (Nat.le_of_ble_eq_true rfl) dX11_has_2 ⟨Nat.zero_le _, Nat.zero_le _⟩) (fun H locs hR => ?_)
  refine lv_if_eq (tgt := 15) hx hb dX11_has_5 (by decide) (fun c_4 => ?_) (fun c_4 => ?_)
  · replace hf := z_t c_4 hf
    refine lv_iconst (v := (-1 : Int32)) hx hb dX11_has_15 (by decide) ?_
    exact e_i X hR hr hlk hf dX11_has_16
  · replace hf := z_f c_4 hf
    refine lv_iload_n hx hb dX11_has_8 rfl (lv_at hl 2 rfl) ?_
    obtain ⟨r_5, σ_6, hc_7, hf⟩ := z_b_e hf
    refine go_i hR (ms_run (As := [.int x2]) (rest := []) X hR ms_11_439 (c11_isLong l G N hc_7) ⟨rfl, rfl, Nat.le_of_ble_eq_true rfl, Nat.le_of_ble_eq_true rfl⟩ rfl hl.1 rfl (Nat.le_of_ble_eq_true rfl) dX11_has_9 ⟨Nat.zero_le _, Nat.zero_le _⟩) (fun H locs hR => ?_)
    refine lv_if_ne (tgt := 17) hx hb dX11_has_12 (by decide) (fun c_8 => ?_) (fun c_8 => ?_)
    · replace hf := z_f c_8 hf
      refine lv_aload_n hx hb dX11_has_17 rfl (lv_at hl 0 rfl) ?_
      refine lv_iload_n hx hb dX11_has_18 rfl (lv_at hl 2 rfl) ?_
      obtain ⟨r_9, σ_10, hc_11, hf⟩ := z_b_e hf
      refine go_v hR (mv_run (As := [.int x2]) (rest := []) X hR mv_11_464 kh_160 (kd_lt kh_160 (by decide)) (c11_goesOnTo l G N hc_11) ⟨rfl, rfl, Nat.le_of_ble_eq_true rfl, Nat.le_of_ble_eq_true rfl⟩ rfl hl.1 rfl (Nat.le_of_ble_eq_true rfl) dX11_has_19 ⟨Nat.zero_le _, Nat.zero_le _⟩) (fun H locs hR => ?_)
      refine lv_aload_n hx hb dX11_has_22 rfl (lv_at hl 0 rfl) ?_
      refine lv_iload_n hx hb dX11_has_23 rfl (lv_at hl 1 rfl) ?_
      obtain ⟨r_12, σ_13, hc_14, hf⟩ := z_b_e hf
      refine go_i hR (mv_run (As := [.int x1]) (rest := []) X hR mv_11_467 kh_160 (kd_lt kh_160 (by decide)) (c11_hasNow l G N hc_14) ⟨rfl, rfl, Nat.le_of_ble_eq_true rfl, Nat.le_of_ble_eq_true rfl⟩ rfl hl.1 rfl (Nat.le_of_ble_eq_true rfl) dX11_has_24 ⟨Nat.zero_le _, Nat.zero_le _⟩) (fun H locs hR => ?_)
      exact e_i X hR hr hlk hf dX11_has_27
    · replace hf := z_t c_8 hf
      refine lv_iconst (v := (-1 : Int32)) hx hb dX11_has_15 (by decide) ?_
      exact e_i X hR hr hlk hf dX11_has_16
abbrev rm11_rich : Room := { frames := 7, cells := 0, slots := 0, locals := 162 }
def f11_rich_70 (N : Nat) (x2 : Int32) (x3 : Int32) (σ : Mm) : Option (Int32 × Mm) :=
  if x3 < 0 then (
  some (x3, σ)) else (
  if x2 = 0 then (
  some (x3, σ)) else (
  z_b (f11_hasNow N x3 σ) fun r_16 σ_17 =>
  some (r_16, σ_17)))
def f11_rich_64 (N : Nat) (k29 : Int32 → Int32 → Mm → Option (Int32 × Mm)) (x2 : Int32) (x3 : Int32) (x4 : Int32) (σ : Mm) : Option (Int32 × Mm) :=
  z_l (x4 + (1 : Int32)) fun x4_20 =>
  k29 x3 x4_20 σ
def f11_rich_61 (N : Nat) (k29 : Int32 → Int32 → Mm → Option (Int32 × Mm)) (x2 : Int32) (x4 : Int32) (σ : Mm) : Option (Int32 × Mm) :=
  f11_rich_64 N k29 x2 x4 x4 σ
def f11_rich_29 (N : Nat) (x2 : Int32) : Nat → Int32 → Int32 → Mm → Option (Int32 × Mm)
  | 0, _, _, _ => none
  | fu + 1, x3, x4, σ => z_c (inB (gI σ 160 18) 2) (
  if (gI σ 170 (ix (gI σ 160 18))) ≤ x4 then (
  f11_rich_70 N x2 x3 σ) else (
  if x3 < 0 then (
  f11_rich_61 N (fun x3 x4 σ => f11_rich_29 N x2 fu x3 x4 σ) x2 x4 σ) else (
  z_b (f11_hasNow N x4 σ) fun r_21 σ_22 =>
  z_b (f11_hasNow N x3 σ_22) fun r_24 σ_25 =>
  if r_21 ≤ r_24 then (
  f11_rich_64 N (fun x3 x4 σ => f11_rich_29 N x2 fu x3 x4 σ) x2 x3 x4 σ_25) else (
  f11_rich_61 N (fun x3 x4 σ => f11_rich_29 N x2 fu x3 x4 σ) x2 x4 σ_25))))
def f11_rich (N : Nat) (x1 : Int32) (x2 : Int32) (σ : Mm) : Option (Int32 × Mm) :=
  z_b (f11_isLong N x1 σ) fun r_1 σ_2 =>
  if r_1 = 0 then (
  some ((-1 : Int32), σ_2)) else (
  z_b (f11_in N x2 (0 : Int32) (1 : Int32) σ_2) fun r_5 σ_6 =>
  if r_5 = 0 then (
  some ((-1 : Int32), σ_6)) else (
  z_b (f11_goesOnTo N x1 σ_6) fun _ σ_10 =>
  f11_rich_29 N x2 N (-2 : Int32) (0 : Int32) σ_10))
set_option maxHeartbeats 4000000 in
set_option maxRecDepth 100000 in
theorem w11_rich_70 (X : Cx p s m args c cX11_rich 5 RX11 G) (hr : meth.sig.returnType = some .int) (hlk : meth.locks = false) (N : Nat) :
    ∀ (x2 : Int32) (x3 : Int32) (σ : Mm) (H : Heap) (locs : List Loc) (ls : Array Slot), f11_rich_70 N x2 x3 σ = some (r0, σ0) → Rp G 212 tt σ s H locs → lv_has ls 5 [(0, .ref (G.2.2 + 160)), (2, .int x2), (3, .int x3)] → W p l e rm11_rich s m args below meth c H locs 0 0 (MQ below (P_i G 212 tt r0 σ0) args s 0 0 (Fr G)) (F0 m 70 ls []) := by
  have hx := X.1
  have hb := X.2.1
  intro x2 x3 σ H locs ls hf hR hl
  unfold f11_rich_70 at hf
  refine lv_iload_n hx hb dX11_rich_70 rfl (lv_at hl 2 rfl) ?_
  refine lv_if_lt (tgt := 78) hx hb dX11_rich_71 (by decide) (fun c_14 => ?_) (fun c_14 => ?_)
  · replace hf := z_t c_14 hf
    refine lv_iload_n hx hb dX11_rich_78 rfl (lv_at hl 2 rfl) ?_
    refine lv_goto (tgt := 87) hx hb dX11_rich_79 (by decide) ?_
    exact e_i X hR hr hlk hf dX11_rich_87
  · replace hf := z_f c_14 hf
    refine lv_iload_n hx hb dX11_rich_74 rfl (lv_at hl 1 rfl) ?_
    refine lv_if_ne (tgt := 82) hx hb dX11_rich_75 (by decide) (fun c_15 => ?_) (fun c_15 => ?_)
    · replace hf := z_f c_15 hf
      refine lv_aload_n hx hb dX11_rich_82 rfl (lv_at hl 0 rfl) ?_
      refine lv_iload_n hx hb dX11_rich_83 rfl (lv_at hl 2 rfl) ?_
      obtain ⟨r_16, σ_17, hc_18, hf⟩ := z_b_e hf
      refine go_i hR (mv_run (As := [.int x3]) (rest := []) X hR mv_11_467 kh_160 (kd_lt kh_160 (by decide)) (c11_hasNow l G N hc_18) ⟨rfl, rfl, Nat.le_of_ble_eq_true rfl, Nat.le_of_ble_eq_true rfl⟩ rfl hl.1 rfl (Nat.le_of_ble_eq_true rfl) dX11_rich_84 ⟨Nat.zero_le _, Nat.zero_le _⟩) (fun H locs hR => ?_)
      exact e_i X hR hr hlk hf dX11_rich_87
    · replace hf := z_t c_15 hf
      refine lv_iload_n hx hb dX11_rich_78 rfl (lv_at hl 2 rfl) ?_
      refine lv_goto (tgt := 87) hx hb dX11_rich_79 (by decide) ?_
      exact e_i X hR hr hlk hf dX11_rich_87
set_option maxHeartbeats 4000000 in
set_option maxRecDepth 100000 in
theorem w11_rich_64 (X : Cx p s m args c cX11_rich 5 RX11 G) (hr : meth.sig.returnType = some .int) (hlk : meth.locks = false) (N : Nat) {x2 : Int32} {k29 : Int32 → Int32 → Mm → Option (Int32 × Mm)} (hk29 : ∀ (x3 : Int32) (x4 : Int32) (σ : Mm) (H : Heap) (locs : List Loc) (ls : Array Slot), k29 x3 x4 σ = some (r0, σ0) → Rp G 212 tt σ s H locs → lv_has ls 5 [(0, .ref (G.2.2 + 160)), (2, .int x2), (3, .int x3), (4, .int x4)] → W p l e rm11_rich s m args below meth c H locs 0 0 (MQ below (P_i G 212 tt r0 σ0) args s 0 0 (Fr G)) (F0 m 29 ls [])) :
    ∀ (x3 : Int32) (x4 : Int32) (σ : Mm) (H : Heap) (locs : List Loc) (ls : Array Slot), f11_rich_64 N k29 x2 x3 x4 σ = some (r0, σ0) → Rp G 212 tt σ s H locs → lv_has ls 5 [(0, .ref (G.2.2 + 160)), (2, .int x2), (3, .int x3), (4, .int x4)] → W p l e rm11_rich s m args below meth c H locs 0 0 (MQ below (P_i G 212 tt r0 σ0) args s 0 0 (Fr G)) (F0 m 64 ls []) := by
  have hx := X.1
  have hb := X.2.1
  intro x3 x4 σ H locs ls hf hR hl
  unfold f11_rich_64 at hf
  obtain ⟨x4_20, ex4_20⟩ : ∃ z : Int32, z = x4 + (1 : Int32) := ⟨_, rfl⟩
  replace hf := z_l_e ex4_20 hf
  refine lv_iinc (v := x4_20) (lv' := [(4, .int x4_20), (0, .ref (G.2.2 + 160)), (2, .int x2), (3, .int x3)]) hx hb dX11_rich_64 hl (k := 3) rfl (by rw [ex4_20]; rfl) (by decide) rfl (fun ls hl => ?_)
  refine lv_goto (tgt := 29) hx hb dX11_rich_67 (by decide) ?_
  exact hk29 x3 x4_20 σ _ _ _ hf hR (lv_sub hl [1, 2, 3, 0] rfl)
set_option maxHeartbeats 4000000 in
set_option maxRecDepth 100000 in
theorem w11_rich_61 (X : Cx p s m args c cX11_rich 5 RX11 G) (hr : meth.sig.returnType = some .int) (hlk : meth.locks = false) (N : Nat) {x2 : Int32} {k29 : Int32 → Int32 → Mm → Option (Int32 × Mm)} (hk29 : ∀ (x3 : Int32) (x4 : Int32) (σ : Mm) (H : Heap) (locs : List Loc) (ls : Array Slot), k29 x3 x4 σ = some (r0, σ0) → Rp G 212 tt σ s H locs → lv_has ls 5 [(0, .ref (G.2.2 + 160)), (2, .int x2), (3, .int x3), (4, .int x4)] → W p l e rm11_rich s m args below meth c H locs 0 0 (MQ below (P_i G 212 tt r0 σ0) args s 0 0 (Fr G)) (F0 m 29 ls [])) :
    ∀ (x4 : Int32) (σ : Mm) (H : Heap) (locs : List Loc) (ls : Array Slot), f11_rich_61 N k29 x2 x4 σ = some (r0, σ0) → Rp G 212 tt σ s H locs → lv_has ls 5 [(0, .ref (G.2.2 + 160)), (2, .int x2), (4, .int x4)] → W p l e rm11_rich s m args below meth c H locs 0 0 (MQ below (P_i G 212 tt r0 σ0) args s 0 0 (Fr G)) (F0 m 61 ls []) := by
  have hx := X.1
  have hb := X.2.1
  intro x4 σ H locs ls hf hR hl
  unfold f11_rich_61 at hf
  refine lv_iload hx hb dX11_rich_61 (lv_at hl 2 rfl) ?_
  refine lv_istore_n (lv' := [(3, .int x4), (0, .ref (G.2.2 + 160)), (2, .int x2), (4, .int x4)]) hx hb dX11_rich_63 rfl hl (by decide) rfl (fun ls hl => ?_)
  exact w11_rich_64 X hr hlk N hk29 x4 x4 σ _ _ _ hf hR (lv_sub hl [1, 2, 0, 3] rfl)
set_option maxHeartbeats 4000000 in
set_option maxRecDepth 100000 in
theorem w11_rich_29 (X : Cx p s m args c cX11_rich 5 RX11 G) (hr : meth.sig.returnType = some .int) (hlk : meth.locks = false) (N : Nat) {x2 : Int32} :
    ∀ (fu : Nat) (x3 : Int32) (x4 : Int32) (σ : Mm) (H : Heap) (locs : List Loc) (ls : Array Slot), f11_rich_29 N x2 fu x3 x4 σ = some (r0, σ0) → Rp G 212 tt σ s H locs → lv_has ls 5 [(0, .ref (G.2.2 + 160)), (2, .int x2), (3, .int x3), (4, .int x4)] → W p l e rm11_rich s m args below meth c H locs 0 0 (MQ below (P_i G 212 tt r0 σ0) args s 0 0 (Fr G)) (F0 m 29 ls []) := by
  have hx := X.1
  have hb := X.2.1
  intro fu
  induction fu with
  | zero =>
    intro x3 x4 σ H locs ls hf hR hl
    rw [f11_rich_29] at hf
    cases hf
  | succ fu ih =>
    intro x3 x4 σ H locs ls hf hR hl
    rw [f11_rich_29] at hf
    refine lv_iload hx hb dX11_rich_29 (lv_at hl 3 rfl) ?_
    refine lv_aload_n hx hb dX11_rich_31 rfl (lv_at hl 0 rfl) ?_
    refine r_gs (t := 170) X hR fr_11_46 kh_160 (sx_11_23 kh_160) dX11_rich_32 ?_
    refine lv_aload_n hx hb dX11_rich_35 rfl (lv_at hl 0 rfl) ?_
    refine r_gi X hR fi_11_254 kh_160 dX11_rich_36 ?_
    obtain ⟨hi_12, hf⟩ := z_c_e hf
    refine r_ial X hR ka_170 hi_12 dX11_rich_39 ?_
    refine lv_icmp_ge (tgt := 70) hx hb dX11_rich_40 (by decide) (fun c_13 => ?_) (fun c_13 => ?_)
    · replace hf := z_t c_13 hf
      exact w11_rich_70 X hr hlk N  x2 x3 σ _ _ _ hf hR (lv_sub hl [0, 1, 2] rfl)
    · replace hf := z_f c_13 hf
      refine lv_iload_n hx hb dX11_rich_43 rfl (lv_at hl 2 rfl) ?_
      refine lv_if_lt (tgt := 61) hx hb dX11_rich_44 (by decide) (fun c_19 => ?_) (fun c_19 => ?_)
      · replace hf := z_t c_19 hf
        exact w11_rich_61 X hr hlk N ih x4 σ _ _ _ hf hR (lv_sub hl [0, 1, 3] rfl)
      · replace hf := z_f c_19 hf
        refine lv_aload_n hx hb dX11_rich_47 rfl (lv_at hl 0 rfl) ?_
        refine lv_iload hx hb dX11_rich_48 (lv_at hl 3 rfl) ?_
        obtain ⟨r_21, σ_22, hc_23, hf⟩ := z_b_e hf
        refine go_i hR (mv_run (As := [.int x4]) (rest := []) X hR mv_11_467 kh_160 (kd_lt kh_160 (by decide)) (c11_hasNow l G N hc_23) ⟨rfl, rfl, Nat.le_of_ble_eq_true rfl, Nat.le_of_ble_eq_true rfl⟩ rfl hl.1 rfl (Nat.le_of_ble_eq_true rfl) dX11_rich_50 ⟨Nat.zero_le _, Nat.zero_le _⟩) (fun H locs hR => ?_)
        refine lv_aload_n hx hb dX11_rich_53 rfl (lv_at hl 0 rfl) ?_
        refine lv_iload_n hx hb dX11_rich_54 rfl (lv_at hl 2 rfl) ?_
        obtain ⟨r_24, σ_25, hc_26, hf⟩ := z_b_e hf
        refine go_i hR (mv_run (As := [.int x3]) (rest := [.int r_21]) X hR mv_11_467 kh_160 (kd_lt kh_160 (by decide)) (c11_hasNow l G N hc_26) ⟨rfl, rfl, Nat.le_of_ble_eq_true rfl, Nat.le_of_ble_eq_true rfl⟩ rfl hl.1 rfl (Nat.le_of_ble_eq_true rfl) dX11_rich_55 ⟨Nat.zero_le _, Nat.zero_le _⟩) (fun H locs hR => ?_)
        refine lv_icmp_le (tgt := 64) hx hb dX11_rich_58 (by decide) (fun c_27 => ?_) (fun c_27 => ?_)
        · replace hf := z_t c_27 hf
          exact w11_rich_64 X hr hlk N ih x3 x4 σ_25 _ _ _ hf hR (lv_sub hl [0, 1, 2, 3] rfl)
        · replace hf := z_f c_27 hf
          exact w11_rich_61 X hr hlk N ih x4 σ_25 _ _ _ hf hR (lv_sub hl [0, 1, 3] rfl)
set_option maxHeartbeats 4000000 in
set_option maxRecDepth 100000 in
theorem c11_rich (l : Launch) (G : Gp) (N : Nat) {x1 : Int32} {x2 : Int32} {σ σ0 : Mm} {r0 : Int32} (hf : f11_rich N x1 x2 σ = some (r0, σ0)) : Met l yX11_rich (WS yX11_rich cX11_rich 5 (some .int)) rm11_rich (va_Pc [.ref (G.2.2 + 160), .int x1, .int x2] (Pd G 212 tt σ)) (P_i G 212 tt r0 σ0) 0 0 (Fr G) := by
  refine ct [(0, .ref (G.2.2 + 160)), (1, .int x1), (2, .int x2)] rfl (by decide) (Nat.le_of_ble_eq_true rfl) ?_
  intro p e s m below meth c ls X hr hlk hR hl
  have X : Cx p s m _ c cX11_rich 5 RX11 G := X
  have hx := X.1
  have hb := X.2.1
  unfold f11_rich at hf
  refine lv_iload_n hx hb dX11_rich_0 rfl (lv_at hl 1 rfl) ?_
  obtain ⟨r_1, σ_2, hc_3, hf⟩ := z_b_e hf
  refine go_i hR (ms_run (As := [.int x1]) (rest := []) X hR ms_11_439 (c11_isLong l G N hc_3) ⟨rfl, rfl, Nat.le_of_ble_eq_true rfl, Nat.le_of_ble_eq_true rfl⟩ rfl hl.1 rfl (Nat.le_of_ble_eq_true rfl) dX11_rich_1 ⟨Nat.zero_le _, Nat.zero_le _⟩) (fun H locs hR => ?_)
  refine lv_if_eq (tgt := 16) hx hb dX11_rich_4 (by decide) (fun c_4 => ?_) (fun c_4 => ?_)
  · replace hf := z_t c_4 hf
    refine lv_iconst (v := (-1 : Int32)) hx hb dX11_rich_16 (by decide) ?_
    exact e_i X hR hr hlk hf dX11_rich_17
  · replace hf := z_f c_4 hf
    refine lv_iload_n hx hb dX11_rich_7 rfl (lv_at hl 2 rfl) ?_
    refine lv_iconst (v := (0 : Int32)) hx hb dX11_rich_8 (by decide) ?_
    refine lv_iconst (v := (1 : Int32)) hx hb dX11_rich_9 (by decide) ?_
    obtain ⟨r_5, σ_6, hc_7, hf⟩ := z_b_e hf
    refine go_i hR (ms_run (As := [.int x2, .int (0 : Int32), .int (1 : Int32)]) (rest := []) X hR ms_11_340 (c11_in l G N hc_7) ⟨rfl, rfl, Nat.le_of_ble_eq_true rfl, Nat.le_of_ble_eq_true rfl⟩ rfl hl.1 rfl (Nat.le_of_ble_eq_true rfl) dX11_rich_10 ⟨Nat.zero_le _, Nat.zero_le _⟩) (fun H locs hR => ?_)
    refine lv_if_ne (tgt := 18) hx hb dX11_rich_13 (by decide) (fun c_8 => ?_) (fun c_8 => ?_)
    · replace hf := z_f c_8 hf
      refine lv_aload_n hx hb dX11_rich_18 rfl (lv_at hl 0 rfl) ?_
      refine lv_iload_n hx hb dX11_rich_19 rfl (lv_at hl 1 rfl) ?_
      obtain ⟨r_9, σ_10, hc_11, hf⟩ := z_b_e hf
      refine go_v hR (mv_run (As := [.int x1]) (rest := []) X hR mv_11_464 kh_160 (kd_lt kh_160 (by decide)) (c11_goesOnTo l G N hc_11) ⟨rfl, rfl, Nat.le_of_ble_eq_true rfl, Nat.le_of_ble_eq_true rfl⟩ rfl hl.1 rfl (Nat.le_of_ble_eq_true rfl) dX11_rich_20 ⟨Nat.zero_le _, Nat.zero_le _⟩) (fun H locs hR => ?_)
      refine lv_bipush (v := (-2 : Int32)) hx hb dX11_rich_23 (by decide) ?_
      refine lv_istore_n (lv' := [(3, .int (-2 : Int32)), (0, .ref (G.2.2 + 160)), (1, .int x1), (2, .int x2)]) hx hb dX11_rich_25 rfl hl (by decide) rfl (fun ls hl => ?_)
      refine lv_iconst (v := (0 : Int32)) hx hb dX11_rich_26 (by decide) ?_
      refine lv_istore (lv' := [(4, .int (0 : Int32)), (3, .int (-2 : Int32)), (0, .ref (G.2.2 + 160)), (1, .int x1), (2, .int x2)]) hx hb dX11_rich_27 hl (by decide) rfl (fun ls hl => ?_)
      exact w11_rich_29 X hr hlk N  N (-2 : Int32) (0 : Int32) σ_10 _ _ _ hf hR (lv_sub hl [2, 4, 1, 0] rfl)
    · replace hf := z_t c_8 hf
      refine lv_iconst (v := (-1 : Int32)) hx hb dX11_rich_16 (by decide) ?_
      exact e_i X hR hr hlk hf dX11_rich_17
abbrev rm11_chain : Room := { frames := 7, cells := 0, slots := 0, locals := 162 }
def f11_chain_115 (N : Nat) (k57 : Int32 → Int32 → Mm → Option (Int32 × Mm)) (x1 : Int32) (x2 : Int32) (x3 : Int32) (x4 : Int32) (σ : Mm) : Option (Int32 × Mm) :=
  z_l (x4 + (1 : Int32)) fun x4_15 =>
  k57 x3 x4_15 σ
def f11_chain_104 (N : Nat) (x4 : Int32) (σ : Mm) : Option (Int32 × Mm) :=
  z_c (inB ((57 : Int32) + x4) 117) (
  some ((gI σ 199 (ix ((57 : Int32) + x4))), σ))
def f11_chain_57 (N : Nat) (x1 : Int32) (x2 : Int32) : Nat → Int32 → Int32 → Mm → Option (Int32 × Mm)
  | 0, _, _, _ => none
  | fu + 1, x3, x4, σ => z_c (inB (15 : Int32) 117) (
  if (gI σ 199 (ix (15 : Int32))) ≤ x4 then (
  some ((-1 : Int32), σ)) else (
  z_c (inB ((17 : Int32) + x4) 117) (
  if (gI σ 199 (ix ((17 : Int32) + x4))) = x1 then (
  z_c (inB x4 20) (
  if (gI σ 202 (ix x4)) = 0 then (
  f11_chain_115 N (fun x3 x4 σ => f11_chain_57 N x1 x2 fu x3 x4 σ) x1 x2 x3 x4 σ) else (
  z_l (x3 + (1 : Int32)) fun x3_18 =>
  if x3_18 = x2 then (
  f11_chain_104 N x4 σ) else (
  f11_chain_115 N (fun x3 x4 σ => f11_chain_57 N x1 x2 fu x3 x4 σ) x1 x2 x3_18 x4 σ)))) else (
  f11_chain_115 N (fun x3 x4 σ => f11_chain_57 N x1 x2 fu x3 x4 σ) x1 x2 x3 x4 σ))))
def f11_chain (N : Nat) (x1 : Int32) (x2 : Int32) (σ : Mm) : Option (Int32 × Mm) :=
  z_b (f11_isPlot N x1 σ) fun r_1 σ_2 =>
  if r_1 = 0 then (
  some ((-1 : Int32), σ_2)) else (
  if (-1 : Int32) ≤ x2 then (
  z_b (f11_goesOnTo N (0 : Int32) σ_2) fun _ σ_7 =>
  if x2 = (-1 : Int32) then (
  z_b (f11_countsOf N x1 σ_7) fun r_22 σ_23 =>
  some (((1 : Int32) + r_22), σ_23)) else (
  if x2 = 0 then (
  z_c (inB (((7 : Int32) * (gI σ_7 160 18)) + x1) 14) (
  some ((gI σ_7 174 (ix (((7 : Int32) * (gI σ_7 160 18)) + x1))), σ_7))) else (
  f11_chain_57 N x1 x2 N (0 : Int32) (0 : Int32) σ_7))) else (
  some ((-1 : Int32), σ_2)))
set_option maxHeartbeats 4000000 in
set_option maxRecDepth 100000 in
theorem w11_chain_115 (X : Cx p s m args c cX11_chain 5 RX11 G) (hr : meth.sig.returnType = some .int) (hlk : meth.locks = false) (N : Nat) {x1 : Int32} {x2 : Int32} {k57 : Int32 → Int32 → Mm → Option (Int32 × Mm)} (hk57 : ∀ (x3 : Int32) (x4 : Int32) (σ : Mm) (H : Heap) (locs : List Loc) (ls : Array Slot), k57 x3 x4 σ = some (r0, σ0) → Rp G 212 tt σ s H locs → lv_has ls 5 [(0, .ref (G.2.2 + 160)), (1, .int x1), (2, .int x2), (3, .int x3), (4, .int x4)] → W p l e rm11_chain s m args below meth c H locs 0 0 (MQ below (P_i G 212 tt r0 σ0) args s 0 0 (Fr G)) (F0 m 57 ls [])) :
    ∀ (x3 : Int32) (x4 : Int32) (σ : Mm) (H : Heap) (locs : List Loc) (ls : Array Slot), f11_chain_115 N k57 x1 x2 x3 x4 σ = some (r0, σ0) → Rp G 212 tt σ s H locs → lv_has ls 5 [(0, .ref (G.2.2 + 160)), (1, .int x1), (2, .int x2), (3, .int x3), (4, .int x4)] → W p l e rm11_chain s m args below meth c H locs 0 0 (MQ below (P_i G 212 tt r0 σ0) args s 0 0 (Fr G)) (F0 m 115 ls []) := by
  have hx := X.1
  have hb := X.2.1
  intro x3 x4 σ H locs ls hf hR hl
  unfold f11_chain_115 at hf
  obtain ⟨x4_15, ex4_15⟩ : ∃ z : Int32, z = x4 + (1 : Int32) := ⟨_, rfl⟩
  replace hf := z_l_e ex4_15 hf
  refine lv_iinc (v := x4_15) (lv' := [(4, .int x4_15), (0, .ref (G.2.2 + 160)), (1, .int x1), (2, .int x2), (3, .int x3)]) hx hb dX11_chain_115 hl (k := 4) rfl (by rw [ex4_15]; rfl) (by decide) rfl (fun ls hl => ?_)
  refine lv_goto (tgt := 57) hx hb dX11_chain_118 (by decide) ?_
  exact hk57 x3 x4_15 σ _ _ _ hf hR (lv_sub hl [1, 2, 3, 4, 0] rfl)
set_option maxHeartbeats 4000000 in
set_option maxRecDepth 100000 in
theorem w11_chain_104 (X : Cx p s m args c cX11_chain 5 RX11 G) (hr : meth.sig.returnType = some .int) (hlk : meth.locks = false) (N : Nat) :
    ∀ (x4 : Int32) (σ : Mm) (H : Heap) (locs : List Loc) (ls : Array Slot), f11_chain_104 N x4 σ = some (r0, σ0) → Rp G 212 tt σ s H locs → lv_has ls 5 [(0, .ref (G.2.2 + 160)), (4, .int x4)] → W p l e rm11_chain s m args below meth c H locs 0 0 (MQ below (P_i G 212 tt r0 σ0) args s 0 0 (Fr G)) (F0 m 104 ls []) := by
  have hx := X.1
  have hb := X.2.1
  intro x4 σ H locs ls hf hR hl
  unfold f11_chain_104 at hf
  refine lv_aload_n hx hb dX11_chain_104 rfl (lv_at hl 0 rfl) ?_
  refine r_gs (t := 199) X hR fr_11_134 kh_160 (sx_11_56 kh_160) dX11_chain_105 ?_
  refine lv_bipush (v := (57 : Int32)) hx hb dX11_chain_108 (by decide) ?_
  refine lv_iload hx hb dX11_chain_110 (lv_at hl 1 rfl) ?_
  refine lv_iadd hx hb dX11_chain_112 ?_
  obtain ⟨hi_20, hf⟩ := z_c_e hf
  refine r_ial X hR ka_199 hi_20 dX11_chain_113 ?_
  exact e_i X hR hr hlk hf dX11_chain_114
set_option maxHeartbeats 4000000 in
set_option maxRecDepth 100000 in
theorem w11_chain_57 (X : Cx p s m args c cX11_chain 5 RX11 G) (hr : meth.sig.returnType = some .int) (hlk : meth.locks = false) (N : Nat) {x1 : Int32} {x2 : Int32} :
    ∀ (fu : Nat) (x3 : Int32) (x4 : Int32) (σ : Mm) (H : Heap) (locs : List Loc) (ls : Array Slot), f11_chain_57 N x1 x2 fu x3 x4 σ = some (r0, σ0) → Rp G 212 tt σ s H locs → lv_has ls 5 [(0, .ref (G.2.2 + 160)), (1, .int x1), (2, .int x2), (3, .int x3), (4, .int x4)] → W p l e rm11_chain s m args below meth c H locs 0 0 (MQ below (P_i G 212 tt r0 σ0) args s 0 0 (Fr G)) (F0 m 57 ls []) := by
  have hx := X.1
  have hb := X.2.1
  intro fu
  induction fu with
  | zero =>
    intro x3 x4 σ H locs ls hf hR hl
    rw [f11_chain_57] at hf
    cases hf
  | succ fu ih =>
    intro x3 x4 σ H locs ls hf hR hl
    rw [f11_chain_57] at hf
    refine lv_iload hx hb dX11_chain_57 (lv_at hl 4 rfl) ?_
    refine lv_aload_n hx hb dX11_chain_59 rfl (lv_at hl 0 rfl) ?_
    refine r_gs (t := 199) X hR fr_11_134 kh_160 (sx_11_56 kh_160) dX11_chain_60 ?_
    refine lv_bipush (v := (15 : Int32)) hx hb dX11_chain_63 (by decide) ?_
    obtain ⟨hi_11, hf⟩ := z_c_e hf
    refine r_ial X hR ka_199 hi_11 dX11_chain_65 ?_
    refine lv_icmp_ge (tgt := 121) hx hb dX11_chain_66 (by decide) (fun c_12 => ?_) (fun c_12 => ?_)
    · replace hf := z_t c_12 hf
      refine lv_iconst (v := (-1 : Int32)) hx hb dX11_chain_121 (by decide) ?_
      exact e_i X hR hr hlk hf dX11_chain_122
    · replace hf := z_f c_12 hf
      refine lv_aload_n hx hb dX11_chain_69 rfl (lv_at hl 0 rfl) ?_
      refine r_gs (t := 199) X hR fr_11_134 kh_160 (sx_11_56 kh_160) dX11_chain_70 ?_
      refine lv_bipush (v := (17 : Int32)) hx hb dX11_chain_73 (by decide) ?_
      refine lv_iload hx hb dX11_chain_75 (lv_at hl 4 rfl) ?_
      refine lv_iadd hx hb dX11_chain_77 ?_
      obtain ⟨hi_13, hf⟩ := z_c_e hf
      refine r_ial X hR ka_199 hi_13 dX11_chain_78 ?_
      refine lv_iload_n hx hb dX11_chain_79 rfl (lv_at hl 1 rfl) ?_
      refine lv_icmp_ne (tgt := 115) hx hb dX11_chain_80 (by decide) (fun c_14 => ?_) (fun c_14 => ?_)
      · replace hf := z_f c_14 hf
        exact w11_chain_115 X hr hlk N ih x3 x4 σ _ _ _ hf hR (lv_sub hl [0, 1, 2, 3, 4] rfl)
      · replace hf := z_t c_14 hf
        refine lv_aload_n hx hb dX11_chain_83 rfl (lv_at hl 0 rfl) ?_
        refine r_gs (t := 202) X hR fr_11_143 kh_160 (sx_11_62 kh_160) dX11_chain_84 ?_
        refine lv_iload hx hb dX11_chain_87 (lv_at hl 4 rfl) ?_
        obtain ⟨hi_16, hf⟩ := z_c_e hf
        refine r_zal X hR ka_202 hi_16 dX11_chain_89 ?_
        refine lv_if_ne (tgt := 96) hx hb dX11_chain_90 (by decide) (fun c_17 => ?_) (fun c_17 => ?_)
        · replace hf := z_f c_17 hf
          obtain ⟨x3_18, ex3_18⟩ : ∃ z : Int32, z = x3 + (1 : Int32) := ⟨_, rfl⟩
          replace hf := z_l_e ex3_18 hf
          refine lv_iinc (v := x3_18) (lv' := [(3, .int x3_18), (0, .ref (G.2.2 + 160)), (1, .int x1), (2, .int x2), (4, .int x4)]) hx hb dX11_chain_96 hl (k := 3) rfl (by rw [ex3_18]; rfl) (by decide) rfl (fun ls hl => ?_)
          refine lv_iload_n hx hb dX11_chain_99 rfl (lv_at hl 0 rfl) ?_
          refine lv_iload_n hx hb dX11_chain_100 rfl (lv_at hl 3 rfl) ?_
          refine lv_icmp_ne (tgt := 115) hx hb dX11_chain_101 (by decide) (fun c_19 => ?_) (fun c_19 => ?_)
          · replace hf := z_f c_19 hf
            exact w11_chain_115 X hr hlk N ih x3_18 x4 σ _ _ _ hf hR (lv_sub hl [1, 2, 3, 0, 4] rfl)
          · replace hf := z_t c_19 hf
            exact w11_chain_104 X hr hlk N  x4 σ _ _ _ hf hR (lv_sub hl [1, 4] rfl)
        · replace hf := z_t c_17 hf
          refine lv_goto (tgt := 115) hx hb dX11_chain_93 (by decide) ?_
          exact w11_chain_115 X hr hlk N ih x3 x4 σ _ _ _ hf hR (lv_sub hl [0, 1, 2, 3, 4] rfl)
set_option maxHeartbeats 4000000 in
set_option maxRecDepth 100000 in
theorem c11_chain (l : Launch) (G : Gp) (N : Nat) {x1 : Int32} {x2 : Int32} {σ σ0 : Mm} {r0 : Int32} (hf : f11_chain N x1 x2 σ = some (r0, σ0)) : Met l yX11_chain (WS yX11_chain cX11_chain 5 (some .int)) rm11_chain (va_Pc [.ref (G.2.2 + 160), .int x1, .int x2] (Pd G 212 tt σ)) (P_i G 212 tt r0 σ0) 0 0 (Fr G) := by
  refine ct [(0, .ref (G.2.2 + 160)), (1, .int x1), (2, .int x2)] rfl (by decide) (Nat.le_of_ble_eq_true rfl) ?_
  intro p e s m below meth c ls X hr hlk hR hl
  have X : Cx p s m _ c cX11_chain 5 RX11 G := X
  have hx := X.1
  have hb := X.2.1
  unfold f11_chain at hf
  refine lv_aload_n hx hb dX11_chain_0 rfl (lv_at hl 0 rfl) ?_
  refine lv_iload_n hx hb dX11_chain_1 rfl (lv_at hl 1 rfl) ?_
  obtain ⟨r_1, σ_2, hc_3, hf⟩ := z_b_e hf
  refine go_i hR (mv_run (As := [.int x1]) (rest := []) X hR mv_11_397 kh_160 (kd_lt kh_160 (by decide)) (c11_isPlot l G N hc_3) ⟨rfl, rfl, Nat.le_of_ble_eq_true rfl, Nat.le_of_ble_eq_true rfl⟩ rfl hl.1 rfl (Nat.le_of_ble_eq_true rfl) dX11_chain_2 ⟨Nat.zero_le _, Nat.zero_le _⟩) (fun H locs hR => ?_)
  refine lv_if_eq (tgt := 13) hx hb dX11_chain_5 (by decide) (fun c_4 => ?_) (fun c_4 => ?_)
  · replace hf := z_t c_4 hf
    refine lv_iconst (v := (-1 : Int32)) hx hb dX11_chain_13 (by decide) ?_
    exact e_i X hR hr hlk hf dX11_chain_14
  · replace hf := z_f c_4 hf
    refine lv_iload_n hx hb dX11_chain_8 rfl (lv_at hl 2 rfl) ?_
    refine lv_iconst (v := (-1 : Int32)) hx hb dX11_chain_9 (by decide) ?_
    refine lv_icmp_ge (tgt := 15) hx hb dX11_chain_10 (by decide) (fun c_5 => ?_) (fun c_5 => ?_)
    · replace hf := z_t c_5 hf
      refine lv_aload_n hx hb dX11_chain_15 rfl (lv_at hl 0 rfl) ?_
      refine lv_iconst (v := (0 : Int32)) hx hb dX11_chain_16 (by decide) ?_
      obtain ⟨r_6, σ_7, hc_8, hf⟩ := z_b_e hf
      refine go_v hR (mv_run (As := [.int (0 : Int32)]) (rest := []) X hR mv_11_464 kh_160 (kd_lt kh_160 (by decide)) (c11_goesOnTo l G N hc_8) ⟨rfl, rfl, Nat.le_of_ble_eq_true rfl, Nat.le_of_ble_eq_true rfl⟩ rfl hl.1 rfl (Nat.le_of_ble_eq_true rfl) dX11_chain_17 ⟨Nat.zero_le _, Nat.zero_le _⟩) (fun H locs hR => ?_)
      refine lv_iload_n hx hb dX11_chain_20 rfl (lv_at hl 2 rfl) ?_
      refine lv_iconst (v := (-1 : Int32)) hx hb dX11_chain_21 (by decide) ?_
      refine lv_icmp_ne (tgt := 33) hx hb dX11_chain_22 (by decide) (fun c_9 => ?_) (fun c_9 => ?_)
      · replace hf := z_f c_9 hf
        refine lv_iload_n hx hb dX11_chain_33 rfl (lv_at hl 2 rfl) ?_
        refine lv_if_ne (tgt := 52) hx hb dX11_chain_34 (by decide) (fun c_10 => ?_) (fun c_10 => ?_)
        · replace hf := z_f c_10 hf
          refine lv_iconst (v := (0 : Int32)) hx hb dX11_chain_52 (by decide) ?_
          refine lv_istore_n (lv' := [(3, .int (0 : Int32)), (0, .ref (G.2.2 + 160)), (1, .int x1), (2, .int x2)]) hx hb dX11_chain_53 rfl hl (by decide) rfl (fun ls hl => ?_)
          refine lv_iconst (v := (0 : Int32)) hx hb dX11_chain_54 (by decide) ?_
          refine lv_istore (lv' := [(4, .int (0 : Int32)), (3, .int (0 : Int32)), (0, .ref (G.2.2 + 160)), (1, .int x1), (2, .int x2)]) hx hb dX11_chain_55 hl (by decide) rfl (fun ls hl => ?_)
          exact w11_chain_57 X hr hlk N  N (0 : Int32) (0 : Int32) σ_7 _ _ _ hf hR (lv_sub hl [2, 3, 4, 1, 0] rfl)
        · replace hf := z_t c_10 hf
          refine lv_aload_n hx hb dX11_chain_37 rfl (lv_at hl 0 rfl) ?_
          refine r_gs (t := 174) X hR fr_11_58 kh_160 (sx_11_27 kh_160) dX11_chain_38 ?_
          refine lv_bipush (v := (7 : Int32)) hx hb dX11_chain_41 (by decide) ?_
          refine lv_aload_n hx hb dX11_chain_43 rfl (lv_at hl 0 rfl) ?_
          refine r_gi X hR fi_11_254 kh_160 dX11_chain_44 ?_
          refine lv_imul hx hb dX11_chain_47 ?_
          refine lv_iload_n hx hb dX11_chain_48 rfl (lv_at hl 1 rfl) ?_
          refine lv_iadd hx hb dX11_chain_49 ?_
          obtain ⟨hi_21, hf⟩ := z_c_e hf
          refine r_ial X hR ka_174 hi_21 dX11_chain_50 ?_
          exact e_i X hR hr hlk hf dX11_chain_51
      · replace hf := z_t c_9 hf
        refine lv_iconst (v := (1 : Int32)) hx hb dX11_chain_25 (by decide) ?_
        refine lv_aload_n hx hb dX11_chain_26 rfl (lv_at hl 0 rfl) ?_
        refine lv_iload_n hx hb dX11_chain_27 rfl (lv_at hl 1 rfl) ?_
        obtain ⟨r_22, σ_23, hc_24, hf⟩ := z_b_e hf
        refine go_i hR (mv_run (As := [.int x1]) (rest := [.int (1 : Int32)]) X hR mv_11_406 kh_160 (kd_lt kh_160 (by decide)) (c11_countsOf l G N hc_24) ⟨rfl, rfl, Nat.le_of_ble_eq_true rfl, Nat.le_of_ble_eq_true rfl⟩ rfl hl.1 rfl (Nat.le_of_ble_eq_true rfl) dX11_chain_28 ⟨Nat.zero_le _, Nat.zero_le _⟩) (fun H locs hR => ?_)
        refine lv_iadd hx hb dX11_chain_31 ?_
        exact e_i X hR hr hlk hf dX11_chain_32
    · replace hf := z_f c_5 hf
      refine lv_iconst (v := (-1 : Int32)) hx hb dX11_chain_13 (by decide) ?_
      exact e_i X hR hr hlk hf dX11_chain_14
abbrev rm11_idle : Room := { frames := 7, cells := 0, slots := 0, locals := 162 }
def f11_idle_67 (N : Nat) (k19 : Int32 → Int32 → Mm → Option (Int32 × Mm)) (x1 : Int32) (x2 : Int32) (x3 : Int32) (σ : Mm) : Option (Int32 × Mm) :=
  z_l (x3 + (1 : Int32)) fun x3_12 =>
  k19 x2 x3_12 σ
def f11_idle_19 (N : Nat) (x1 : Int32) : Nat → Int32 → Int32 → Mm → Option (Int32 × Mm)
  | 0, _, _, _ => none
  | fu + 1, x2, x3, σ => z_c (inB (15 : Int32) 117) (
  if (gI σ 199 (ix (15 : Int32))) ≤ x3 then (
  some (x2, σ)) else (
  z_c (inB ((17 : Int32) + x3) 117) (
  if (gI σ 199 (ix ((17 : Int32) + x3))) = x1 then (
  z_c (inB x3 20) (
  if (gI σ 201 (ix x3)) = 0 then (
  f11_idle_67 N (fun x2 x3 σ => f11_idle_19 N x1 fu x2 x3 σ) x1 x2 x3 σ) else (
  z_c (inB x3 20) (
  if (gI σ 202 (ix x3)) = 0 then (
  z_l ((x2 ||| ((1 : Int32) <<< (x3 &&& 31)))) fun x2_17 =>
  f11_idle_67 N (fun x2 x3 σ => f11_idle_19 N x1 fu x2 x3 σ) x1 x2_17 x3 σ) else (
  f11_idle_67 N (fun x2 x3 σ => f11_idle_19 N x1 fu x2 x3 σ) x1 x2 x3 σ))))) else (
  f11_idle_67 N (fun x2 x3 σ => f11_idle_19 N x1 fu x2 x3 σ) x1 x2 x3 σ))))
def f11_idle (N : Nat) (x1 : Int32) (σ : Mm) : Option (Int32 × Mm) :=
  z_b (f11_isPlot N x1 σ) fun r_1 σ_2 =>
  if r_1 = 0 then (
  some ((-1 : Int32), σ_2)) else (
  z_b (f11_goesOnTo N (0 : Int32) σ_2) fun _ σ_6 =>
  f11_idle_19 N x1 N (0 : Int32) (0 : Int32) σ_6)
set_option maxHeartbeats 4000000 in
set_option maxRecDepth 100000 in
theorem w11_idle_67 (X : Cx p s m args c cX11_idle 4 RX11 G) (hr : meth.sig.returnType = some .int) (hlk : meth.locks = false) (N : Nat) {x1 : Int32} {k19 : Int32 → Int32 → Mm → Option (Int32 × Mm)} (hk19 : ∀ (x2 : Int32) (x3 : Int32) (σ : Mm) (H : Heap) (locs : List Loc) (ls : Array Slot), k19 x2 x3 σ = some (r0, σ0) → Rp G 212 tt σ s H locs → lv_has ls 4 [(0, .ref (G.2.2 + 160)), (1, .int x1), (2, .int x2), (3, .int x3)] → W p l e rm11_idle s m args below meth c H locs 0 0 (MQ below (P_i G 212 tt r0 σ0) args s 0 0 (Fr G)) (F0 m 19 ls [])) :
    ∀ (x2 : Int32) (x3 : Int32) (σ : Mm) (H : Heap) (locs : List Loc) (ls : Array Slot), f11_idle_67 N k19 x1 x2 x3 σ = some (r0, σ0) → Rp G 212 tt σ s H locs → lv_has ls 4 [(0, .ref (G.2.2 + 160)), (1, .int x1), (2, .int x2), (3, .int x3)] → W p l e rm11_idle s m args below meth c H locs 0 0 (MQ below (P_i G 212 tt r0 σ0) args s 0 0 (Fr G)) (F0 m 67 ls []) := by
  have hx := X.1
  have hb := X.2.1
  intro x2 x3 σ H locs ls hf hR hl
  unfold f11_idle_67 at hf
  obtain ⟨x3_12, ex3_12⟩ : ∃ z : Int32, z = x3 + (1 : Int32) := ⟨_, rfl⟩
  replace hf := z_l_e ex3_12 hf
  refine lv_iinc (v := x3_12) (lv' := [(3, .int x3_12), (0, .ref (G.2.2 + 160)), (1, .int x1), (2, .int x2)]) hx hb dX11_idle_67 hl (k := 3) rfl (by rw [ex3_12]; rfl) (by decide) rfl (fun ls hl => ?_)
  refine lv_goto (tgt := 19) hx hb dX11_idle_70 (by decide) ?_
  exact hk19 x2 x3_12 σ _ _ _ hf hR (lv_sub hl [1, 2, 3, 0] rfl)
set_option maxHeartbeats 4000000 in
set_option maxRecDepth 100000 in
theorem w11_idle_19 (X : Cx p s m args c cX11_idle 4 RX11 G) (hr : meth.sig.returnType = some .int) (hlk : meth.locks = false) (N : Nat) {x1 : Int32} :
    ∀ (fu : Nat) (x2 : Int32) (x3 : Int32) (σ : Mm) (H : Heap) (locs : List Loc) (ls : Array Slot), f11_idle_19 N x1 fu x2 x3 σ = some (r0, σ0) → Rp G 212 tt σ s H locs → lv_has ls 4 [(0, .ref (G.2.2 + 160)), (1, .int x1), (2, .int x2), (3, .int x3)] → W p l e rm11_idle s m args below meth c H locs 0 0 (MQ below (P_i G 212 tt r0 σ0) args s 0 0 (Fr G)) (F0 m 19 ls []) := by
  have hx := X.1
  have hb := X.2.1
  intro fu
  induction fu with
  | zero =>
    intro x2 x3 σ H locs ls hf hR hl
    rw [f11_idle_19] at hf
    cases hf
  | succ fu ih =>
    intro x2 x3 σ H locs ls hf hR hl
    rw [f11_idle_19] at hf
    refine lv_iload_n hx hb dX11_idle_19 rfl (lv_at hl 3 rfl) ?_
    refine lv_aload_n hx hb dX11_idle_20 rfl (lv_at hl 0 rfl) ?_
    refine r_gs (t := 199) X hR fr_11_134 kh_160 (sx_11_56 kh_160) dX11_idle_21 ?_
    refine lv_bipush (v := (15 : Int32)) hx hb dX11_idle_24 (by decide) ?_
    obtain ⟨hi_8, hf⟩ := z_c_e hf
    refine r_ial X hR ka_199 hi_8 dX11_idle_26 ?_
    refine lv_icmp_ge (tgt := 73) hx hb dX11_idle_27 (by decide) (fun c_9 => ?_) (fun c_9 => ?_)
    · replace hf := z_t c_9 hf
      refine lv_iload_n hx hb dX11_idle_73 rfl (lv_at hl 2 rfl) ?_
      exact e_i X hR hr hlk hf dX11_idle_74
    · replace hf := z_f c_9 hf
      refine lv_aload_n hx hb dX11_idle_30 rfl (lv_at hl 0 rfl) ?_
      refine r_gs (t := 199) X hR fr_11_134 kh_160 (sx_11_56 kh_160) dX11_idle_31 ?_
      refine lv_bipush (v := (17 : Int32)) hx hb dX11_idle_34 (by decide) ?_
      refine lv_iload_n hx hb dX11_idle_36 rfl (lv_at hl 3 rfl) ?_
      refine lv_iadd hx hb dX11_idle_37 ?_
      obtain ⟨hi_10, hf⟩ := z_c_e hf
      refine r_ial X hR ka_199 hi_10 dX11_idle_38 ?_
      refine lv_iload_n hx hb dX11_idle_39 rfl (lv_at hl 1 rfl) ?_
      refine lv_icmp_ne (tgt := 67) hx hb dX11_idle_40 (by decide) (fun c_11 => ?_) (fun c_11 => ?_)
      · replace hf := z_f c_11 hf
        exact w11_idle_67 X hr hlk N ih x2 x3 σ _ _ _ hf hR (lv_sub hl [0, 1, 2, 3] rfl)
      · replace hf := z_t c_11 hf
        refine lv_aload_n hx hb dX11_idle_43 rfl (lv_at hl 0 rfl) ?_
        refine r_gs (t := 201) X hR fr_11_140 kh_160 (sx_11_61 kh_160) dX11_idle_44 ?_
        refine lv_iload_n hx hb dX11_idle_47 rfl (lv_at hl 3 rfl) ?_
        obtain ⟨hi_13, hf⟩ := z_c_e hf
        refine r_zal X hR ka_201 hi_13 dX11_idle_48 ?_
        refine lv_if_eq (tgt := 67) hx hb dX11_idle_49 (by decide) (fun c_14 => ?_) (fun c_14 => ?_)
        · replace hf := z_t c_14 hf
          exact w11_idle_67 X hr hlk N ih x2 x3 σ _ _ _ hf hR (lv_sub hl [0, 1, 2, 3] rfl)
        · replace hf := z_f c_14 hf
          refine lv_aload_n hx hb dX11_idle_52 rfl (lv_at hl 0 rfl) ?_
          refine r_gs (t := 202) X hR fr_11_143 kh_160 (sx_11_62 kh_160) dX11_idle_53 ?_
          refine lv_iload_n hx hb dX11_idle_56 rfl (lv_at hl 3 rfl) ?_
          obtain ⟨hi_15, hf⟩ := z_c_e hf
          refine r_zal X hR ka_202 hi_15 dX11_idle_57 ?_
          refine lv_if_ne (tgt := 67) hx hb dX11_idle_58 (by decide) (fun c_16 => ?_) (fun c_16 => ?_)
          · replace hf := z_f c_16 hf
            exact w11_idle_67 X hr hlk N ih x2 x3 σ _ _ _ hf hR (lv_sub hl [0, 1, 2, 3] rfl)
          · replace hf := z_t c_16 hf
            refine lv_iload_n hx hb dX11_idle_61 rfl (lv_at hl 2 rfl) ?_
            refine lv_iconst (v := (1 : Int32)) hx hb dX11_idle_62 (by decide) ?_
            refine lv_iload_n hx hb dX11_idle_63 rfl (lv_at hl 3 rfl) ?_
            refine lv_ishl hx hb dX11_idle_64 ?_
            refine lv_ior hx hb dX11_idle_65 ?_
            refine lv_topi (fun x2_17 ex2_17 => ?_)
            replace hf := z_l_e ex2_17 hf
            refine lv_istore_n (lv' := [(2, .int x2_17), (0, .ref (G.2.2 + 160)), (1, .int x1), (3, .int x3)]) hx hb dX11_idle_66 rfl hl (by decide) rfl (fun ls hl => ?_)
            exact w11_idle_67 X hr hlk N ih x2_17 x3 σ _ _ _ hf hR (lv_sub hl [1, 2, 0, 3] rfl)
set_option maxHeartbeats 4000000 in
set_option maxRecDepth 100000 in
theorem c11_idle (l : Launch) (G : Gp) (N : Nat) {x1 : Int32} {σ σ0 : Mm} {r0 : Int32} (hf : f11_idle N x1 σ = some (r0, σ0)) : Met l yX11_idle (WS yX11_idle cX11_idle 4 (some .int)) rm11_idle (va_Pc [.ref (G.2.2 + 160), .int x1] (Pd G 212 tt σ)) (P_i G 212 tt r0 σ0) 0 0 (Fr G) := by
  refine ct [(0, .ref (G.2.2 + 160)), (1, .int x1)] rfl (by decide) (Nat.le_of_ble_eq_true rfl) ?_
  intro p e s m below meth c ls X hr hlk hR hl
  have X : Cx p s m _ c cX11_idle 4 RX11 G := X
  have hx := X.1
  have hb := X.2.1
  unfold f11_idle at hf
  refine lv_aload_n hx hb dX11_idle_0 rfl (lv_at hl 0 rfl) ?_
  refine lv_iload_n hx hb dX11_idle_1 rfl (lv_at hl 1 rfl) ?_
  obtain ⟨r_1, σ_2, hc_3, hf⟩ := z_b_e hf
  refine go_i hR (mv_run (As := [.int x1]) (rest := []) X hR mv_11_397 kh_160 (kd_lt kh_160 (by decide)) (c11_isPlot l G N hc_3) ⟨rfl, rfl, Nat.le_of_ble_eq_true rfl, Nat.le_of_ble_eq_true rfl⟩ rfl hl.1 rfl (Nat.le_of_ble_eq_true rfl) dX11_idle_2 ⟨Nat.zero_le _, Nat.zero_le _⟩) (fun H locs hR => ?_)
  refine lv_if_ne (tgt := 10) hx hb dX11_idle_5 (by decide) (fun c_4 => ?_) (fun c_4 => ?_)
  · replace hf := z_f c_4 hf
    refine lv_aload_n hx hb dX11_idle_10 rfl (lv_at hl 0 rfl) ?_
    refine lv_iconst (v := (0 : Int32)) hx hb dX11_idle_11 (by decide) ?_
    obtain ⟨r_5, σ_6, hc_7, hf⟩ := z_b_e hf
    refine go_v hR (mv_run (As := [.int (0 : Int32)]) (rest := []) X hR mv_11_464 kh_160 (kd_lt kh_160 (by decide)) (c11_goesOnTo l G N hc_7) ⟨rfl, rfl, Nat.le_of_ble_eq_true rfl, Nat.le_of_ble_eq_true rfl⟩ rfl hl.1 rfl (Nat.le_of_ble_eq_true rfl) dX11_idle_12 ⟨Nat.zero_le _, Nat.zero_le _⟩) (fun H locs hR => ?_)
    refine lv_iconst (v := (0 : Int32)) hx hb dX11_idle_15 (by decide) ?_
    refine lv_istore_n (lv' := [(2, .int (0 : Int32)), (0, .ref (G.2.2 + 160)), (1, .int x1)]) hx hb dX11_idle_16 rfl hl (by decide) rfl (fun ls hl => ?_)
    refine lv_iconst (v := (0 : Int32)) hx hb dX11_idle_17 (by decide) ?_
    refine lv_istore_n (lv' := [(3, .int (0 : Int32)), (2, .int (0 : Int32)), (0, .ref (G.2.2 + 160)), (1, .int x1)]) hx hb dX11_idle_18 rfl hl (by decide) rfl (fun ls hl => ?_)
    exact w11_idle_19 X hr hlk N  N (0 : Int32) (0 : Int32) σ_6 _ _ _ hf hR (lv_sub hl [2, 3, 1, 0] rfl)
  · replace hf := z_t c_4 hf
    refine lv_iconst (v := (-1 : Int32)) hx hb dX11_idle_8 (by decide) ?_
    exact e_i X hR hr hlk hf dX11_idle_9
abbrev rm11_eldest : Room := { frames := 1, cells := 0, slots := 0, locals := 22 }
def f11_eldest_78 (N : Nat) (x1 : Int32) (x2 : Int32) (x3 : Int32) (σ : Mm) : Option (Int32 × Mm) :=
  if x1 = 0 then (
  some (x2, σ)) else (
  some (x3, σ))
def f11_eldest_72 (N : Nat) (k20 : Int32 → Int32 → Int32 → Mm → Option (Int32 × Mm)) (x1 : Int32) (x2 : Int32) (x3 : Int32) (x4 : Int32) (σ : Mm) : Option (Int32 × Mm) :=
  z_l (x4 + (1 : Int32)) fun x4_10 =>
  k20 x2 x3 x4_10 σ
def f11_eldest_20 (N : Nat) (x1 : Int32) : Nat → Int32 → Int32 → Int32 → Mm → Option (Int32 × Mm)
  | 0, _, _, _, _ => none
  | fu + 1, x2, x3, x4, σ => z_c (inB (gI σ 160 18) 2) (
  if (gI σ 175 (ix (gI σ 160 18))) ≤ x4 then (
  f11_eldest_78 N x1 x2 x3 σ) else (
  z_c (inB ((7 : Int32) + x4) 117) (
  if (gI σ 198 (ix ((7 : Int32) + x4))) = 0 then (
  f11_eldest_72 N (fun x2 x3 x4 σ => f11_eldest_20 N x1 fu x2 x3 x4 σ) x1 x2 x3 x4 σ) else (
  z_c (inB x4 117) (
  if x3 < (gI σ 198 (ix x4)) then (
  z_c (inB x4 117) (
  z_l ((gI σ 198 (ix x4))) fun x3_14 =>
  f11_eldest_72 N (fun x2 x3 x4 σ => f11_eldest_20 N x1 fu x2 x3 x4 σ) x1 x4 x3_14 x4 σ)) else (
  f11_eldest_72 N (fun x2 x3 x4 σ => f11_eldest_20 N x1 fu x2 x3 x4 σ) x1 x2 x3 x4 σ))))))
def f11_eldest (N : Nat) (x1 : Int32) (σ : Mm) : Option (Int32 × Mm) :=
  z_b (f11_in N x1 (0 : Int32) (1 : Int32) σ) fun r_1 σ_2 =>
  if r_1 = 0 then (
  some ((-1 : Int32), σ_2)) else (
  f11_eldest_20 N x1 N (-2 : Int32) (-2 : Int32) (0 : Int32) σ_2)
set_option maxHeartbeats 4000000 in
set_option maxRecDepth 100000 in
theorem w11_eldest_78 (X : Cx p s m args c cX11_eldest 5 RX11 G) (hr : meth.sig.returnType = some .int) (hlk : meth.locks = false) (N : Nat) :
    ∀ (x1 : Int32) (x2 : Int32) (x3 : Int32) (σ : Mm) (H : Heap) (locs : List Loc) (ls : Array Slot), f11_eldest_78 N x1 x2 x3 σ = some (r0, σ0) → Rp G 212 tt σ s H locs → lv_has ls 5 [(1, .int x1), (2, .int x2), (3, .int x3)] → W p l e rm11_eldest s m args below meth c H locs 0 0 (MQ below (P_i G 212 tt r0 σ0) args s 0 0 (Fr G)) (F0 m 78 ls []) := by
  have hx := X.1
  have hb := X.2.1
  intro x1 x2 x3 σ H locs ls hf hR hl
  unfold f11_eldest_78 at hf
  refine lv_iload_n hx hb dX11_eldest_78 rfl (lv_at hl 0 rfl) ?_
  refine lv_if_ne (tgt := 86) hx hb dX11_eldest_79 (by decide) (fun c_7 => ?_) (fun c_7 => ?_)
  · replace hf := z_f c_7 hf
    refine lv_iload_n hx hb dX11_eldest_86 rfl (lv_at hl 2 rfl) ?_
    exact e_i X hR hr hlk hf dX11_eldest_87
  · replace hf := z_t c_7 hf
    refine lv_iload_n hx hb dX11_eldest_82 rfl (lv_at hl 1 rfl) ?_
    refine lv_goto (tgt := 87) hx hb dX11_eldest_83 (by decide) ?_
    exact e_i X hR hr hlk hf dX11_eldest_87
set_option maxHeartbeats 4000000 in
set_option maxRecDepth 100000 in
theorem w11_eldest_72 (X : Cx p s m args c cX11_eldest 5 RX11 G) (hr : meth.sig.returnType = some .int) (hlk : meth.locks = false) (N : Nat) {x1 : Int32} {k20 : Int32 → Int32 → Int32 → Mm → Option (Int32 × Mm)} (hk20 : ∀ (x2 : Int32) (x3 : Int32) (x4 : Int32) (σ : Mm) (H : Heap) (locs : List Loc) (ls : Array Slot), k20 x2 x3 x4 σ = some (r0, σ0) → Rp G 212 tt σ s H locs → lv_has ls 5 [(0, .ref (G.2.2 + 160)), (1, .int x1), (2, .int x2), (3, .int x3), (4, .int x4)] → W p l e rm11_eldest s m args below meth c H locs 0 0 (MQ below (P_i G 212 tt r0 σ0) args s 0 0 (Fr G)) (F0 m 20 ls [])) :
    ∀ (x2 : Int32) (x3 : Int32) (x4 : Int32) (σ : Mm) (H : Heap) (locs : List Loc) (ls : Array Slot), f11_eldest_72 N k20 x1 x2 x3 x4 σ = some (r0, σ0) → Rp G 212 tt σ s H locs → lv_has ls 5 [(0, .ref (G.2.2 + 160)), (1, .int x1), (2, .int x2), (3, .int x3), (4, .int x4)] → W p l e rm11_eldest s m args below meth c H locs 0 0 (MQ below (P_i G 212 tt r0 σ0) args s 0 0 (Fr G)) (F0 m 72 ls []) := by
  have hx := X.1
  have hb := X.2.1
  intro x2 x3 x4 σ H locs ls hf hR hl
  unfold f11_eldest_72 at hf
  obtain ⟨x4_10, ex4_10⟩ : ∃ z : Int32, z = x4 + (1 : Int32) := ⟨_, rfl⟩
  replace hf := z_l_e ex4_10 hf
  refine lv_iinc (v := x4_10) (lv' := [(4, .int x4_10), (0, .ref (G.2.2 + 160)), (1, .int x1), (2, .int x2), (3, .int x3)]) hx hb dX11_eldest_72 hl (k := 4) rfl (by rw [ex4_10]; rfl) (by decide) rfl (fun ls hl => ?_)
  refine lv_goto (tgt := 20) hx hb dX11_eldest_75 (by decide) ?_
  exact hk20 x2 x3 x4_10 σ _ _ _ hf hR (lv_sub hl [1, 2, 3, 4, 0] rfl)
set_option maxHeartbeats 4000000 in
set_option maxRecDepth 100000 in
theorem w11_eldest_20 (X : Cx p s m args c cX11_eldest 5 RX11 G) (hr : meth.sig.returnType = some .int) (hlk : meth.locks = false) (N : Nat) {x1 : Int32} :
    ∀ (fu : Nat) (x2 : Int32) (x3 : Int32) (x4 : Int32) (σ : Mm) (H : Heap) (locs : List Loc) (ls : Array Slot), f11_eldest_20 N x1 fu x2 x3 x4 σ = some (r0, σ0) → Rp G 212 tt σ s H locs → lv_has ls 5 [(0, .ref (G.2.2 + 160)), (1, .int x1), (2, .int x2), (3, .int x3), (4, .int x4)] → W p l e rm11_eldest s m args below meth c H locs 0 0 (MQ below (P_i G 212 tt r0 σ0) args s 0 0 (Fr G)) (F0 m 20 ls []) := by
  have hx := X.1
  have hb := X.2.1
  intro fu
  induction fu with
  | zero =>
    intro x2 x3 x4 σ H locs ls hf hR hl
    rw [f11_eldest_20] at hf
    cases hf
  | succ fu ih =>
    intro x2 x3 x4 σ H locs ls hf hR hl
    rw [f11_eldest_20] at hf
    refine lv_iload hx hb dX11_eldest_20 (lv_at hl 4 rfl) ?_
    refine lv_aload_n hx hb dX11_eldest_22 rfl (lv_at hl 0 rfl) ?_
    refine r_gs (t := 175) X hR fr_11_61 kh_160 (sx_11_28 kh_160) dX11_eldest_23 ?_
    refine lv_aload_n hx hb dX11_eldest_26 rfl (lv_at hl 0 rfl) ?_
    refine r_gi X hR fi_11_254 kh_160 dX11_eldest_27 ?_
    obtain ⟨hi_5, hf⟩ := z_c_e hf
    refine r_ial X hR ka_175 hi_5 dX11_eldest_30 ?_
    refine lv_icmp_ge (tgt := 78) hx hb dX11_eldest_31 (by decide) (fun c_6 => ?_) (fun c_6 => ?_)
    · replace hf := z_t c_6 hf
      exact w11_eldest_78 X hr hlk N  x1 x2 x3 σ _ _ _ hf hR (lv_sub hl [1, 2, 3] rfl)
    · replace hf := z_f c_6 hf
      refine lv_aload_n hx hb dX11_eldest_34 rfl (lv_at hl 0 rfl) ?_
      refine r_gs (t := 198) X hR fr_11_131 kh_160 (sx_11_55 kh_160) dX11_eldest_35 ?_
      refine lv_bipush (v := (7 : Int32)) hx hb dX11_eldest_38 (by decide) ?_
      refine lv_iload hx hb dX11_eldest_40 (lv_at hl 4 rfl) ?_
      refine lv_iadd hx hb dX11_eldest_42 ?_
      obtain ⟨hi_8, hf⟩ := z_c_e hf
      refine r_ial X hR ka_198 hi_8 dX11_eldest_43 ?_
      refine lv_if_eq (tgt := 72) hx hb dX11_eldest_44 (by decide) (fun c_9 => ?_) (fun c_9 => ?_)
      · replace hf := z_t c_9 hf
        exact w11_eldest_72 X hr hlk N ih x2 x3 x4 σ _ _ _ hf hR (lv_sub hl [0, 1, 2, 3, 4] rfl)
      · replace hf := z_f c_9 hf
        refine lv_aload_n hx hb dX11_eldest_47 rfl (lv_at hl 0 rfl) ?_
        refine r_gs (t := 198) X hR fr_11_131 kh_160 (sx_11_55 kh_160) dX11_eldest_48 ?_
        refine lv_iload hx hb dX11_eldest_51 (lv_at hl 4 rfl) ?_
        obtain ⟨hi_11, hf⟩ := z_c_e hf
        refine r_ial X hR ka_198 hi_11 dX11_eldest_53 ?_
        refine lv_iload_n hx hb dX11_eldest_54 rfl (lv_at hl 3 rfl) ?_
        refine lv_icmp_gt (tgt := 61) hx hb dX11_eldest_55 (by decide) (fun c_12 => ?_) (fun c_12 => ?_)
        · replace hf := z_t c_12 hf
          refine lv_iload hx hb dX11_eldest_61 (lv_at hl 4 rfl) ?_
          refine lv_istore_n (lv' := [(2, .int x4), (0, .ref (G.2.2 + 160)), (1, .int x1), (3, .int x3), (4, .int x4)]) hx hb dX11_eldest_63 rfl hl (by decide) rfl (fun ls hl => ?_)
          refine lv_aload_n hx hb dX11_eldest_64 rfl (lv_at hl 1 rfl) ?_
          refine r_gs (t := 198) X hR fr_11_131 kh_160 (sx_11_55 kh_160) dX11_eldest_65 ?_
          refine lv_iload hx hb dX11_eldest_68 (lv_at hl 4 rfl) ?_
          obtain ⟨hi_13, hf⟩ := z_c_e hf
          refine r_ial X hR ka_198 hi_13 dX11_eldest_70 ?_
          refine lv_topi (fun x3_14 ex3_14 => ?_)
          replace hf := z_l_e ex3_14 hf
          refine lv_istore_n (lv' := [(3, .int x3_14), (2, .int x4), (0, .ref (G.2.2 + 160)), (1, .int x1), (4, .int x4)]) hx hb dX11_eldest_71 rfl hl (by decide) rfl (fun ls hl => ?_)
          exact w11_eldest_72 X hr hlk N ih x4 x3_14 x4 σ _ _ _ hf hR (lv_sub hl [2, 3, 1, 0, 4] rfl)
        · replace hf := z_f c_12 hf
          refine lv_goto (tgt := 72) hx hb dX11_eldest_58 (by decide) ?_
          exact w11_eldest_72 X hr hlk N ih x2 x3 x4 σ _ _ _ hf hR (lv_sub hl [0, 1, 2, 3, 4] rfl)
set_option maxHeartbeats 4000000 in
set_option maxRecDepth 100000 in
theorem c11_eldest (l : Launch) (G : Gp) (N : Nat) {x1 : Int32} {σ σ0 : Mm} {r0 : Int32} (hf : f11_eldest N x1 σ = some (r0, σ0)) : Met l yX11_eldest (WS yX11_eldest cX11_eldest 5 (some .int)) rm11_eldest (va_Pc [.ref (G.2.2 + 160), .int x1] (Pd G 212 tt σ)) (P_i G 212 tt r0 σ0) 0 0 (Fr G) := by
  refine ct [(0, .ref (G.2.2 + 160)), (1, .int x1)] rfl (by decide) (Nat.le_of_ble_eq_true rfl) ?_
  intro p e s m below meth c ls X hr hlk hR hl
  have X : Cx p s m _ c cX11_eldest 5 RX11 G := X
  have hx := X.1
  have hb := X.2.1
  unfold f11_eldest at hf
  refine lv_iload_n hx hb dX11_eldest_0 rfl (lv_at hl 1 rfl) ?_
  refine lv_iconst (v := (0 : Int32)) hx hb dX11_eldest_1 (by decide) ?_
  refine lv_iconst (v := (1 : Int32)) hx hb dX11_eldest_2 (by decide) ?_
  obtain ⟨r_1, σ_2, hc_3, hf⟩ := z_b_e hf
  refine go_i hR (ms_run (As := [.int x1, .int (0 : Int32), .int (1 : Int32)]) (rest := []) X hR ms_11_340 (c11_in l G N hc_3) ⟨rfl, rfl, Nat.le_of_ble_eq_true rfl, Nat.le_of_ble_eq_true rfl⟩ rfl hl.1 rfl (Nat.le_of_ble_eq_true rfl) dX11_eldest_3 ⟨Nat.zero_le _, Nat.zero_le _⟩) (fun H locs hR => ?_)
  refine lv_if_ne (tgt := 11) hx hb dX11_eldest_6 (by decide) (fun c_4 => ?_) (fun c_4 => ?_)
  · replace hf := z_f c_4 hf
    refine lv_bipush (v := (-2 : Int32)) hx hb dX11_eldest_11 (by decide) ?_
    refine lv_istore_n (lv' := [(2, .int (-2 : Int32)), (0, .ref (G.2.2 + 160)), (1, .int x1)]) hx hb dX11_eldest_13 rfl hl (by decide) rfl (fun ls hl => ?_)
    refine lv_bipush (v := (-2 : Int32)) hx hb dX11_eldest_14 (by decide) ?_
    refine lv_istore_n (lv' := [(3, .int (-2 : Int32)), (2, .int (-2 : Int32)), (0, .ref (G.2.2 + 160)), (1, .int x1)]) hx hb dX11_eldest_16 rfl hl (by decide) rfl (fun ls hl => ?_)
    refine lv_iconst (v := (0 : Int32)) hx hb dX11_eldest_17 (by decide) ?_
    refine lv_istore (lv' := [(4, .int (0 : Int32)), (3, .int (-2 : Int32)), (2, .int (-2 : Int32)), (0, .ref (G.2.2 + 160)), (1, .int x1)]) hx hb dX11_eldest_18 hl (by decide) rfl (fun ls hl => ?_)
    exact w11_eldest_20 X hr hlk N  N (-2 : Int32) (-2 : Int32) (0 : Int32) σ_2 _ _ _ hf hR (lv_sub hl [3, 4, 2, 1, 0] rfl)
  · replace hf := z_t c_4 hf
    refine lv_iconst (v := (-1 : Int32)) hx hb dX11_eldest_9 (by decide) ?_
    exact e_i X hR hr hlk hf dX11_eldest_10
abbrev rm11_standBits : Room := { frames := 5, cells := 0, slots := 0, locals := 119 }
def f11_standBits_29 (N : Nat) (k4 : Int32 → Int32 → Mm → Option (Int32 × Mm)) (x1 : Int32) (x2 : Int32) (σ : Mm) : Option (Int32 × Mm) :=
  z_l (x2 + (1 : Int32)) fun x2_7 =>
  k4 x1 x2_7 σ
def f11_standBits_4 (N : Nat) : Nat → Int32 → Int32 → Mm → Option (Int32 × Mm)
  | 0, _, _, _ => none
  | fu + 1, x1, x2, σ => z_c (inB (15 : Int32) 117) (
  if (gI σ 199 (ix (15 : Int32))) ≤ x2 then (
  some (x1, σ)) else (
  z_b (f11_doesStand N x2 σ) fun r_3 σ_4 =>
  if r_3 = 0 then (
  f11_standBits_29 N (fun x1 x2 σ => f11_standBits_4 N fu x1 x2 σ) x1 x2 σ_4) else (
  z_l ((x1 ||| ((1 : Int32) <<< (x2 &&& 31)))) fun x1_8 =>
  f11_standBits_29 N (fun x1 x2 σ => f11_standBits_4 N fu x1 x2 σ) x1_8 x2 σ_4)))
def f11_standBits (N : Nat) (σ : Mm) : Option (Int32 × Mm) :=
  f11_standBits_4 N N (0 : Int32) (0 : Int32) σ
set_option maxHeartbeats 4000000 in
set_option maxRecDepth 100000 in
theorem w11_standBits_29 (X : Cx p s m args c cX11_standBits 3 RX11 G) (hr : meth.sig.returnType = some .int) (hlk : meth.locks = false) (N : Nat) {k4 : Int32 → Int32 → Mm → Option (Int32 × Mm)} (hk4 : ∀ (x1 : Int32) (x2 : Int32) (σ : Mm) (H : Heap) (locs : List Loc) (ls : Array Slot), k4 x1 x2 σ = some (r0, σ0) → Rp G 212 tt σ s H locs → lv_has ls 3 [(0, .ref (G.2.2 + 160)), (1, .int x1), (2, .int x2)] → W p l e rm11_standBits s m args below meth c H locs 0 0 (MQ below (P_i G 212 tt r0 σ0) args s 0 0 (Fr G)) (F0 m 4 ls [])) :
    ∀ (x1 : Int32) (x2 : Int32) (σ : Mm) (H : Heap) (locs : List Loc) (ls : Array Slot), f11_standBits_29 N k4 x1 x2 σ = some (r0, σ0) → Rp G 212 tt σ s H locs → lv_has ls 3 [(0, .ref (G.2.2 + 160)), (1, .int x1), (2, .int x2)] → W p l e rm11_standBits s m args below meth c H locs 0 0 (MQ below (P_i G 212 tt r0 σ0) args s 0 0 (Fr G)) (F0 m 29 ls []) := by
  have hx := X.1
  have hb := X.2.1
  intro x1 x2 σ H locs ls hf hR hl
  unfold f11_standBits_29 at hf
  obtain ⟨x2_7, ex2_7⟩ : ∃ z : Int32, z = x2 + (1 : Int32) := ⟨_, rfl⟩
  replace hf := z_l_e ex2_7 hf
  refine lv_iinc (v := x2_7) (lv' := [(2, .int x2_7), (0, .ref (G.2.2 + 160)), (1, .int x1)]) hx hb dX11_standBits_29 hl (k := 2) rfl (by rw [ex2_7]; rfl) (by decide) rfl (fun ls hl => ?_)
  refine lv_goto (tgt := 4) hx hb dX11_standBits_32 (by decide) ?_
  exact hk4 x1 x2_7 σ _ _ _ hf hR (lv_sub hl [1, 2, 0] rfl)
set_option maxHeartbeats 4000000 in
set_option maxRecDepth 100000 in
theorem w11_standBits_4 (X : Cx p s m args c cX11_standBits 3 RX11 G) (hr : meth.sig.returnType = some .int) (hlk : meth.locks = false) (N : Nat) :
    ∀ (fu : Nat) (x1 : Int32) (x2 : Int32) (σ : Mm) (H : Heap) (locs : List Loc) (ls : Array Slot), f11_standBits_4 N fu x1 x2 σ = some (r0, σ0) → Rp G 212 tt σ s H locs → lv_has ls 3 [(0, .ref (G.2.2 + 160)), (1, .int x1), (2, .int x2)] → W p l e rm11_standBits s m args below meth c H locs 0 0 (MQ below (P_i G 212 tt r0 σ0) args s 0 0 (Fr G)) (F0 m 4 ls []) := by
  have hx := X.1
  have hb := X.2.1
  intro fu
  induction fu with
  | zero =>
    intro x1 x2 σ H locs ls hf hR hl
    rw [f11_standBits_4] at hf
    cases hf
  | succ fu ih =>
    intro x1 x2 σ H locs ls hf hR hl
    rw [f11_standBits_4] at hf
    refine lv_iload_n hx hb dX11_standBits_4 rfl (lv_at hl 2 rfl) ?_
    refine lv_aload_n hx hb dX11_standBits_5 rfl (lv_at hl 0 rfl) ?_
    refine r_gs (t := 199) X hR fr_11_134 kh_160 (sx_11_56 kh_160) dX11_standBits_6 ?_
    refine lv_bipush (v := (15 : Int32)) hx hb dX11_standBits_9 (by decide) ?_
    obtain ⟨hi_1, hf⟩ := z_c_e hf
    refine r_ial X hR ka_199 hi_1 dX11_standBits_11 ?_
    refine lv_icmp_ge (tgt := 35) hx hb dX11_standBits_12 (by decide) (fun c_2 => ?_) (fun c_2 => ?_)
    · replace hf := z_t c_2 hf
      refine lv_iload_n hx hb dX11_standBits_35 rfl (lv_at hl 1 rfl) ?_
      exact e_i X hR hr hlk hf dX11_standBits_36
    · replace hf := z_f c_2 hf
      refine lv_aload_n hx hb dX11_standBits_15 rfl (lv_at hl 0 rfl) ?_
      refine lv_iload_n hx hb dX11_standBits_16 rfl (lv_at hl 2 rfl) ?_
      obtain ⟨r_3, σ_4, hc_5, hf⟩ := z_b_e hf
      refine go_i hR (mv_run (As := [.int x2]) (rest := []) X hR mv_11_385 kh_160 (kd_lt kh_160 (by decide)) (c11_doesStand l G N hc_5) ⟨rfl, rfl, Nat.le_of_ble_eq_true rfl, Nat.le_of_ble_eq_true rfl⟩ rfl hl.1 rfl (Nat.le_of_ble_eq_true rfl) dX11_standBits_17 ⟨Nat.zero_le _, Nat.zero_le _⟩) (fun H locs hR => ?_)
      refine lv_if_eq (tgt := 29) hx hb dX11_standBits_20 (by decide) (fun c_6 => ?_) (fun c_6 => ?_)
      · replace hf := z_t c_6 hf
        exact w11_standBits_29 X hr hlk N ih x1 x2 σ_4 _ _ _ hf hR (lv_sub hl [0, 1, 2] rfl)
      · replace hf := z_f c_6 hf
        refine lv_iload_n hx hb dX11_standBits_23 rfl (lv_at hl 1 rfl) ?_
        refine lv_iconst (v := (1 : Int32)) hx hb dX11_standBits_24 (by decide) ?_
        refine lv_iload_n hx hb dX11_standBits_25 rfl (lv_at hl 2 rfl) ?_
        refine lv_ishl hx hb dX11_standBits_26 ?_
        refine lv_ior hx hb dX11_standBits_27 ?_
        refine lv_topi (fun x1_8 ex1_8 => ?_)
        replace hf := z_l_e ex1_8 hf
        refine lv_istore_n (lv' := [(1, .int x1_8), (0, .ref (G.2.2 + 160)), (2, .int x2)]) hx hb dX11_standBits_28 rfl hl (by decide) rfl (fun ls hl => ?_)
        exact w11_standBits_29 X hr hlk N ih x1_8 x2 σ_4 _ _ _ hf hR (lv_sub hl [1, 0, 2] rfl)
set_option maxHeartbeats 4000000 in
set_option maxRecDepth 100000 in
theorem c11_standBits (l : Launch) (G : Gp) (N : Nat) {σ σ0 : Mm} {r0 : Int32} (hf : f11_standBits N σ = some (r0, σ0)) : Met l yX11_standBits (WS yX11_standBits cX11_standBits 3 (some .int)) rm11_standBits (va_Pc [.ref (G.2.2 + 160)] (Pd G 212 tt σ)) (P_i G 212 tt r0 σ0) 0 0 (Fr G) := by
  refine ct [(0, .ref (G.2.2 + 160))] rfl (by decide) (Nat.le_of_ble_eq_true rfl) ?_
  intro p e s m below meth c ls X hr hlk hR hl
  have X : Cx p s m _ c cX11_standBits 3 RX11 G := X
  have hx := X.1
  have hb := X.2.1
  unfold f11_standBits at hf
  refine lv_iconst (v := (0 : Int32)) hx hb dX11_standBits_0 (by decide) ?_
  refine lv_istore_n (lv' := [(1, .int (0 : Int32)), (0, .ref (G.2.2 + 160))]) hx hb dX11_standBits_1 rfl hl (by decide) rfl (fun ls hl => ?_)
  refine lv_iconst (v := (0 : Int32)) hx hb dX11_standBits_2 (by decide) ?_
  refine lv_istore_n (lv' := [(2, .int (0 : Int32)), (1, .int (0 : Int32)), (0, .ref (G.2.2 + 160))]) hx hb dX11_standBits_3 rfl hl (by decide) rfl (fun ls hl => ?_)
  exact w11_standBits_4 X hr hlk N  N (0 : Int32) (0 : Int32) σ _ _ _ hf hR (lv_sub hl [2, 1, 0] rfl)
abbrev rm11_lapse : Room := { frames := 6, cells := 0, slots := 0, locals := 141 }
def f11_lapse (N : Nat) (x1 : Int32) (σ : Mm) : Option (Int32 × Mm) :=
  z_b (f11_isLong N x1 σ) fun r_1 σ_2 =>
  if r_1 = 0 then (
  some ((-1 : Int32), σ_2)) else (
  z_b (f11_copies N σ_2) fun _ σ_6 =>
  z_b (f11_standBits N σ_6) fun r_8 σ_9 =>
  z_b (f11_goes N x1 σ_9) fun _ σ_12 =>
  z_b (f11_standBits N σ_12) fun r_14 σ_15 =>
  z_b (f11_bits N (r_8 &&& (r_14 ^^^ (-1 : Int32))) σ_15) fun r_17 σ_18 =>
  some (r_17, σ_18))
set_option maxHeartbeats 4000000 in
set_option maxRecDepth 100000 in
theorem c11_lapse (l : Launch) (G : Gp) (N : Nat) {x1 : Int32} {σ σ0 : Mm} {r0 : Int32} (hf : f11_lapse N x1 σ = some (r0, σ0)) : Met l yX11_lapse (WS yX11_lapse cX11_lapse 3 (some .int)) rm11_lapse (va_Pc [.ref (G.2.2 + 160), .int x1] (Pd G 212 tt σ)) (P_i G 212 tt r0 σ0) 0 0 (Fr G) := by
  refine ct [(0, .ref (G.2.2 + 160)), (1, .int x1)] rfl (by decide) (Nat.le_of_ble_eq_true rfl) ?_
  intro p e s m below meth c ls X hr hlk hR hl
  have X : Cx p s m _ c cX11_lapse 3 RX11 G := X
  have hx := X.1
  have hb := X.2.1
  unfold f11_lapse at hf
  refine lv_iload_n hx hb dX11_lapse_0 rfl (lv_at hl 1 rfl) ?_
  obtain ⟨r_1, σ_2, hc_3, hf⟩ := z_b_e hf
  refine go_i hR (ms_run (As := [.int x1]) (rest := []) X hR ms_11_439 (c11_isLong l G N hc_3) ⟨rfl, rfl, Nat.le_of_ble_eq_true rfl, Nat.le_of_ble_eq_true rfl⟩ rfl hl.1 rfl (Nat.le_of_ble_eq_true rfl) dX11_lapse_1 ⟨Nat.zero_le _, Nat.zero_le _⟩) (fun H locs hR => ?_)
  refine lv_if_ne (tgt := 9) hx hb dX11_lapse_4 (by decide) (fun c_4 => ?_) (fun c_4 => ?_)
  · replace hf := z_f c_4 hf
    refine lv_aload_n hx hb dX11_lapse_9 rfl (lv_at hl 0 rfl) ?_
    obtain ⟨r_5, σ_6, hc_7, hf⟩ := z_b_e hf
    refine go_v hR (mv_run (As := []) (rest := []) X hR mv_11_400 kh_160 (kd_lt kh_160 (by decide)) (c11_copies l G N hc_7) ⟨rfl, rfl, Nat.le_of_ble_eq_true rfl, Nat.le_of_ble_eq_true rfl⟩ rfl hl.1 rfl (Nat.le_of_ble_eq_true rfl) dX11_lapse_10 ⟨Nat.zero_le _, Nat.zero_le _⟩) (fun H locs hR => ?_)
    refine lv_aload_n hx hb dX11_lapse_13 rfl (lv_at hl 0 rfl) ?_
    obtain ⟨r_8, σ_9, hc_10, hf⟩ := z_b_e hf
    refine go_i hR (mv_run (As := []) (rest := []) X hR mv_11_470 kh_160 (kd_lt kh_160 (by decide)) (c11_standBits l G N hc_10) ⟨rfl, rfl, Nat.le_of_ble_eq_true rfl, Nat.le_of_ble_eq_true rfl⟩ rfl hl.1 rfl (Nat.le_of_ble_eq_true rfl) dX11_lapse_14 ⟨Nat.zero_le _, Nat.zero_le _⟩) (fun H locs hR => ?_)
    refine lv_istore_n (lv' := [(2, .int r_8), (0, .ref (G.2.2 + 160)), (1, .int x1)]) hx hb dX11_lapse_17 rfl hl (by decide) rfl (fun ls hl => ?_)
    refine lv_aload_n hx hb dX11_lapse_18 rfl (lv_at hl 1 rfl) ?_
    refine lv_iload_n hx hb dX11_lapse_19 rfl (lv_at hl 2 rfl) ?_
    obtain ⟨r_11, σ_12, hc_13, hf⟩ := z_b_e hf
    refine go_v hR (mv_run (As := [.int x1]) (rest := []) X hR mv_11_424 kh_160 (kd_lt kh_160 (by decide)) (c11_goes l G N hc_13) ⟨rfl, rfl, Nat.le_of_ble_eq_true rfl, Nat.le_of_ble_eq_true rfl⟩ rfl hl.1 rfl (Nat.le_of_ble_eq_true rfl) dX11_lapse_20 ⟨Nat.zero_le _, Nat.zero_le _⟩) (fun H locs hR => ?_)
    refine lv_iload_n hx hb dX11_lapse_23 rfl (lv_at hl 0 rfl) ?_
    refine lv_aload_n hx hb dX11_lapse_24 rfl (lv_at hl 1 rfl) ?_
    obtain ⟨r_14, σ_15, hc_16, hf⟩ := z_b_e hf
    refine go_i hR (mv_run (As := []) (rest := [.int r_8]) X hR mv_11_470 kh_160 (kd_lt kh_160 (by decide)) (c11_standBits l G N hc_16) ⟨rfl, rfl, Nat.le_of_ble_eq_true rfl, Nat.le_of_ble_eq_true rfl⟩ rfl hl.1 rfl (Nat.le_of_ble_eq_true rfl) dX11_lapse_25 ⟨Nat.zero_le _, Nat.zero_le _⟩) (fun H locs hR => ?_)
    refine lv_iconst (v := (-1 : Int32)) hx hb dX11_lapse_28 (by decide) ?_
    refine lv_ixor hx hb dX11_lapse_29 ?_
    refine lv_iand hx hb dX11_lapse_30 ?_
    obtain ⟨r_17, σ_18, hc_19, hf⟩ := z_b_e hf
    refine go_i hR (ms_run (As := [.int (r_8 &&& (r_14 ^^^ (-1 : Int32)))]) (rest := []) X hR ms_11_366 (c11_bits l G N hc_19) ⟨rfl, rfl, Nat.le_of_ble_eq_true rfl, Nat.le_of_ble_eq_true rfl⟩ rfl hl.1 rfl (Nat.le_of_ble_eq_true rfl) dX11_lapse_31 ⟨Nat.zero_le _, Nat.zero_le _⟩) (fun H locs hR => ?_)
    exact e_i X hR hr hlk hf dX11_lapse_34
  · replace hf := z_t c_4 hf
    refine lv_iconst (v := (-1 : Int32)) hx hb dX11_lapse_7 (by decide) ?_
    exact e_i X hR hr hlk hf dX11_lapse_8
abbrev rm11_passes : Room := { frames := 7, cells := 0, slots := 0, locals := 162 }
def f11_passes_16 (N : Nat) (x1 : Int32) : Nat → Int32 → Mm → Option (Int32 × Mm)
  | 0, _, _ => none
  | fu + 1, x2, σ => if (200 : Int32) < x2 then (
  some ((-2 : Int32), σ)) else (
  z_b (f11_yearGoes N σ) fun _ σ_10 =>
  z_b (f11_fillsWhose N σ_10) fun _ σ_13 =>
  z_c (inB x1 7) (
  z_c (inB x1 7) (
  if (gI σ_13 200 (ix x1)) = (gI σ_13 204 (ix x1)) then (
  z_l (x2 + (1 : Int32)) fun x2_18 =>
  f11_passes_16 N x1 fu x2_18 σ_13) else (
  some (x2, σ_13)))))
def f11_passes (N : Nat) (x1 : Int32) (σ : Mm) : Option (Int32 × Mm) :=
  z_b (f11_isPlot N x1 σ) fun r_1 σ_2 =>
  if r_1 = 0 then (
  some ((-1 : Int32), σ_2)) else (
  z_b (f11_keepsWhose N σ_2) fun _ σ_6 =>
  f11_passes_16 N x1 N (1 : Int32) σ_6)
set_option maxHeartbeats 4000000 in
set_option maxRecDepth 100000 in
theorem w11_passes_16 (X : Cx p s m args c cX11_passes 3 RX11 G) (hr : meth.sig.returnType = some .int) (hlk : meth.locks = false) (N : Nat) {x1 : Int32} :
    ∀ (fu : Nat) (x2 : Int32) (σ : Mm) (H : Heap) (locs : List Loc) (ls : Array Slot), f11_passes_16 N x1 fu x2 σ = some (r0, σ0) → Rp G 212 tt σ s H locs → lv_has ls 3 [(0, .ref (G.2.2 + 160)), (1, .int x1), (2, .int x2)] → W p l e rm11_passes s m args below meth c H locs 0 0 (MQ below (P_i G 212 tt r0 σ0) args s 0 0 (Fr G)) (F0 m 16 ls []) := by
  have hx := X.1
  have hb := X.2.1
  intro fu
  induction fu with
  | zero =>
    intro x2 σ H locs ls hf hR hl
    rw [f11_passes_16] at hf
    cases hf
  | succ fu ih =>
    intro x2 σ H locs ls hf hR hl
    rw [f11_passes_16] at hf
    refine lv_iload_n hx hb dX11_passes_16 rfl (lv_at hl 2 rfl) ?_
    refine lv_sipush (v := (200 : Int32)) hx hb dX11_passes_17 (by decide) ?_
    refine lv_icmp_gt (tgt := 54) hx hb dX11_passes_20 (by decide) (fun c_8 => ?_) (fun c_8 => ?_)
    · replace hf := z_t c_8 hf
      refine lv_bipush (v := (-2 : Int32)) hx hb dX11_passes_54 (by decide) ?_
      exact e_i X hR hr hlk hf dX11_passes_56
    · replace hf := z_f c_8 hf
      refine lv_aload_n hx hb dX11_passes_23 rfl (lv_at hl 0 rfl) ?_
      obtain ⟨r_9, σ_10, hc_11, hf⟩ := z_b_e hf
      refine go_v hR (mv_run (As := []) (rest := []) X hR mv_11_394 kh_160 (kd_lt kh_160 (by decide)) (c11_yearGoes l G N hc_11) ⟨rfl, rfl, Nat.le_of_ble_eq_true rfl, Nat.le_of_ble_eq_true rfl⟩ rfl hl.1 rfl (Nat.le_of_ble_eq_true rfl) dX11_passes_24 ⟨Nat.zero_le _, Nat.zero_le _⟩) (fun H locs hR => ?_)
      refine lv_aload_n hx hb dX11_passes_27 rfl (lv_at hl 0 rfl) ?_
      obtain ⟨r_12, σ_13, hc_14, hf⟩ := z_b_e hf
      refine go_v hR (mv_run (As := []) (rest := []) X hR mv_11_403 kh_160 (kd_lt kh_160 (by decide)) (c11_fillsWhose l G N hc_14) ⟨rfl, rfl, Nat.le_of_ble_eq_true rfl, Nat.le_of_ble_eq_true rfl⟩ rfl hl.1 rfl (Nat.le_of_ble_eq_true rfl) dX11_passes_28 ⟨Nat.zero_le _, Nat.zero_le _⟩) (fun H locs hR => ?_)
      refine lv_aload_n hx hb dX11_passes_31 rfl (lv_at hl 0 rfl) ?_
      refine r_gs (t := 200) X hR fr_11_137 kh_160 (sx_11_60 kh_160) dX11_passes_32 ?_
      refine lv_iload_n hx hb dX11_passes_35 rfl (lv_at hl 1 rfl) ?_
      obtain ⟨hi_15, hf⟩ := z_c_e hf
      refine r_ial X hR ka_200 hi_15 dX11_passes_36 ?_
      refine lv_aload_n hx hb dX11_passes_37 rfl (lv_at hl 0 rfl) ?_
      refine r_gs (t := 204) X hR fr_11_149 kh_160 (sx_11_65 kh_160) dX11_passes_38 ?_
      refine lv_iload_n hx hb dX11_passes_41 rfl (lv_at hl 1 rfl) ?_
      obtain ⟨hi_16, hf⟩ := z_c_e hf
      refine r_ial X hR ka_204 hi_16 dX11_passes_42 ?_
      refine lv_icmp_eq (tgt := 48) hx hb dX11_passes_43 (by decide) (fun c_17 => ?_) (fun c_17 => ?_)
      · replace hf := z_t c_17 hf
        obtain ⟨x2_18, ex2_18⟩ : ∃ z : Int32, z = x2 + (1 : Int32) := ⟨_, rfl⟩
        replace hf := z_l_e ex2_18 hf
        refine lv_iinc (v := x2_18) (lv' := [(2, .int x2_18), (0, .ref (G.2.2 + 160)), (1, .int x1)]) hx hb dX11_passes_48 hl (k := 2) rfl (by rw [ex2_18]; rfl) (by decide) rfl (fun ls hl => ?_)
        refine lv_goto (tgt := 16) hx hb dX11_passes_51 (by decide) ?_
        exact ih x2_18 σ_13 _ _ _ hf hR (lv_sub hl [1, 2, 0] rfl)
      · replace hf := z_f c_17 hf
        refine lv_iload_n hx hb dX11_passes_46 rfl (lv_at hl 2 rfl) ?_
        exact e_i X hR hr hlk hf dX11_passes_47
set_option maxHeartbeats 4000000 in
set_option maxRecDepth 100000 in
theorem c11_passes (l : Launch) (G : Gp) (N : Nat) {x1 : Int32} {σ σ0 : Mm} {r0 : Int32} (hf : f11_passes N x1 σ = some (r0, σ0)) : Met l yX11_passes (WS yX11_passes cX11_passes 3 (some .int)) rm11_passes (va_Pc [.ref (G.2.2 + 160), .int x1] (Pd G 212 tt σ)) (P_i G 212 tt r0 σ0) 0 0 (Fr G) := by
  refine ct [(0, .ref (G.2.2 + 160)), (1, .int x1)] rfl (by decide) (Nat.le_of_ble_eq_true rfl) ?_
  intro p e s m below meth c ls X hr hlk hR hl
  have X : Cx p s m _ c cX11_passes 3 RX11 G := X
  have hx := X.1
  have hb := X.2.1
  unfold f11_passes at hf
  refine lv_aload_n hx hb dX11_passes_0 rfl (lv_at hl 0 rfl) ?_
  refine lv_iload_n hx hb dX11_passes_1 rfl (lv_at hl 1 rfl) ?_
  obtain ⟨r_1, σ_2, hc_3, hf⟩ := z_b_e hf
  refine go_i hR (mv_run (As := [.int x1]) (rest := []) X hR mv_11_397 kh_160 (kd_lt kh_160 (by decide)) (c11_isPlot l G N hc_3) ⟨rfl, rfl, Nat.le_of_ble_eq_true rfl, Nat.le_of_ble_eq_true rfl⟩ rfl hl.1 rfl (Nat.le_of_ble_eq_true rfl) dX11_passes_2 ⟨Nat.zero_le _, Nat.zero_le _⟩) (fun H locs hR => ?_)
  refine lv_if_ne (tgt := 10) hx hb dX11_passes_5 (by decide) (fun c_4 => ?_) (fun c_4 => ?_)
  · replace hf := z_f c_4 hf
    refine lv_aload_n hx hb dX11_passes_10 rfl (lv_at hl 0 rfl) ?_
    obtain ⟨r_5, σ_6, hc_7, hf⟩ := z_b_e hf
    refine go_v hR (mv_run (As := []) (rest := []) X hR mv_11_427 kh_160 (kd_lt kh_160 (by decide)) (c11_keepsWhose l G N hc_7) ⟨rfl, rfl, Nat.le_of_ble_eq_true rfl, Nat.le_of_ble_eq_true rfl⟩ rfl hl.1 rfl (Nat.le_of_ble_eq_true rfl) dX11_passes_11 ⟨Nat.zero_le _, Nat.zero_le _⟩) (fun H locs hR => ?_)
    refine lv_iconst (v := (1 : Int32)) hx hb dX11_passes_14 (by decide) ?_
    refine lv_istore_n (lv' := [(2, .int (1 : Int32)), (0, .ref (G.2.2 + 160)), (1, .int x1)]) hx hb dX11_passes_15 rfl hl (by decide) rfl (fun ls hl => ?_)
    exact w11_passes_16 X hr hlk N  N (1 : Int32) σ_6 _ _ _ hf hR (lv_sub hl [1, 2, 0] rfl)
  · replace hf := z_t c_4 hf
    refine lv_iconst (v := (-1 : Int32)) hx hb dX11_passes_8 (by decide) ?_
    exact e_i X hR hr hlk hf dX11_passes_9
abbrev rm11_weakest : Room := { frames := 7, cells := 0, slots := 0, locals := 162 }
def f11_weakest_83 (N : Nat) (x1 : Int32) (x2 : Int32) (x3 : Int32) (σ : Mm) : Option (Int32 × Mm) :=
  if x1 = 0 then (
  some (x2, σ)) else (
  some (x3, σ))
def f11_weakest_77 (N : Nat) (k25 : Int32 → Int32 → Int32 → Mm → Option (Int32 × Mm)) (x1 : Int32) (x2 : Int32) (x3 : Int32) (x4 : Int32) (σ : Mm) : Option (Int32 × Mm) :=
  z_l (x4 + (1 : Int32)) fun x4_19 =>
  k25 x2 x3 x4_19 σ
def f11_weakest_71 (N : Nat) (k25 : Int32 → Int32 → Int32 → Mm → Option (Int32 × Mm)) (x1 : Int32) (x4 : Int32) (x5 : Int32) (σ : Mm) : Option (Int32 × Mm) :=
  f11_weakest_77 N k25 x1 x4 x5 x4 σ
def f11_weakest_25 (N : Nat) (x1 : Int32) : Nat → Int32 → Int32 → Int32 → Mm → Option (Int32 × Mm)
  | 0, _, _, _, _ => none
  | fu + 1, x2, x3, x4, σ => z_c (inB (15 : Int32) 117) (
  if (gI σ 199 (ix (15 : Int32))) ≤ x4 then (
  f11_weakest_83 N x1 x2 x3 σ) else (
  z_b (f11_swearBits N x4 σ) fun r_11 σ_12 =>
  z_b (f11_bits N r_11 σ_12) fun r_14 σ_15 =>
  z_c (inB x4 20) (
  if (gI σ_15 202 (ix x4)) = 0 then (
  f11_weakest_77 N (fun x2 x3 x4 σ => f11_weakest_25 N x1 fu x2 x3 x4 σ) x1 x2 x3 x4 σ_15) else (
  if x2 < 0 then (
  f11_weakest_71 N (fun x2 x3 x4 σ => f11_weakest_25 N x1 fu x2 x3 x4 σ) x1 x4 r_14 σ_15) else (
  if r_14 < x3 then (
  f11_weakest_71 N (fun x2 x3 x4 σ => f11_weakest_25 N x1 fu x2 x3 x4 σ) x1 x4 r_14 σ_15) else (
  f11_weakest_77 N (fun x2 x3 x4 σ => f11_weakest_25 N x1 fu x2 x3 x4 σ) x1 x2 x3 x4 σ_15))))))
def f11_weakest (N : Nat) (x1 : Int32) (σ : Mm) : Option (Int32 × Mm) :=
  z_b (f11_in N x1 (0 : Int32) (1 : Int32) σ) fun r_1 σ_2 =>
  if r_1 = 0 then (
  some ((-1 : Int32), σ_2)) else (
  z_b (f11_goesOnTo N (0 : Int32) σ_2) fun _ σ_6 =>
  f11_weakest_25 N x1 N (-2 : Int32) (-2 : Int32) (0 : Int32) σ_6)
set_option maxHeartbeats 4000000 in
set_option maxRecDepth 100000 in
theorem w11_weakest_83 (X : Cx p s m args c cX11_weakest 6 RX11 G) (hr : meth.sig.returnType = some .int) (hlk : meth.locks = false) (N : Nat) :
    ∀ (x1 : Int32) (x2 : Int32) (x3 : Int32) (σ : Mm) (H : Heap) (locs : List Loc) (ls : Array Slot), f11_weakest_83 N x1 x2 x3 σ = some (r0, σ0) → Rp G 212 tt σ s H locs → lv_has ls 6 [(1, .int x1), (2, .int x2), (3, .int x3)] → W p l e rm11_weakest s m args below meth c H locs 0 0 (MQ below (P_i G 212 tt r0 σ0) args s 0 0 (Fr G)) (F0 m 83 ls []) := by
  have hx := X.1
  have hb := X.2.1
  intro x1 x2 x3 σ H locs ls hf hR hl
  unfold f11_weakest_83 at hf
  refine lv_iload_n hx hb dX11_weakest_83 rfl (lv_at hl 0 rfl) ?_
  refine lv_if_ne (tgt := 91) hx hb dX11_weakest_84 (by decide) (fun c_10 => ?_) (fun c_10 => ?_)
  · replace hf := z_f c_10 hf
    refine lv_iload_n hx hb dX11_weakest_91 rfl (lv_at hl 2 rfl) ?_
    exact e_i X hR hr hlk hf dX11_weakest_92
  · replace hf := z_t c_10 hf
    refine lv_iload_n hx hb dX11_weakest_87 rfl (lv_at hl 1 rfl) ?_
    refine lv_goto (tgt := 92) hx hb dX11_weakest_88 (by decide) ?_
    exact e_i X hR hr hlk hf dX11_weakest_92
set_option maxHeartbeats 4000000 in
set_option maxRecDepth 100000 in
theorem w11_weakest_77 (X : Cx p s m args c cX11_weakest 6 RX11 G) (hr : meth.sig.returnType = some .int) (hlk : meth.locks = false) (N : Nat) {x1 : Int32} {k25 : Int32 → Int32 → Int32 → Mm → Option (Int32 × Mm)} (hk25 : ∀ (x2 : Int32) (x3 : Int32) (x4 : Int32) (σ : Mm) (H : Heap) (locs : List Loc) (ls : Array Slot), k25 x2 x3 x4 σ = some (r0, σ0) → Rp G 212 tt σ s H locs → lv_has ls 6 [(0, .ref (G.2.2 + 160)), (1, .int x1), (2, .int x2), (3, .int x3), (4, .int x4)] → W p l e rm11_weakest s m args below meth c H locs 0 0 (MQ below (P_i G 212 tt r0 σ0) args s 0 0 (Fr G)) (F0 m 25 ls [])) :
    ∀ (x2 : Int32) (x3 : Int32) (x4 : Int32) (σ : Mm) (H : Heap) (locs : List Loc) (ls : Array Slot), f11_weakest_77 N k25 x1 x2 x3 x4 σ = some (r0, σ0) → Rp G 212 tt σ s H locs → lv_has ls 6 [(0, .ref (G.2.2 + 160)), (1, .int x1), (2, .int x2), (3, .int x3), (4, .int x4)] → W p l e rm11_weakest s m args below meth c H locs 0 0 (MQ below (P_i G 212 tt r0 σ0) args s 0 0 (Fr G)) (F0 m 77 ls []) := by
  have hx := X.1
  have hb := X.2.1
  intro x2 x3 x4 σ H locs ls hf hR hl
  unfold f11_weakest_77 at hf
  obtain ⟨x4_19, ex4_19⟩ : ∃ z : Int32, z = x4 + (1 : Int32) := ⟨_, rfl⟩
  replace hf := z_l_e ex4_19 hf
  refine lv_iinc (v := x4_19) (lv' := [(4, .int x4_19), (0, .ref (G.2.2 + 160)), (1, .int x1), (2, .int x2), (3, .int x3)]) hx hb dX11_weakest_77 hl (k := 4) rfl (by rw [ex4_19]; rfl) (by decide) rfl (fun ls hl => ?_)
  refine lv_goto (tgt := 25) hx hb dX11_weakest_80 (by decide) ?_
  exact hk25 x2 x3 x4_19 σ _ _ _ hf hR (lv_sub hl [1, 2, 3, 4, 0] rfl)
set_option maxHeartbeats 4000000 in
set_option maxRecDepth 100000 in
theorem w11_weakest_71 (X : Cx p s m args c cX11_weakest 6 RX11 G) (hr : meth.sig.returnType = some .int) (hlk : meth.locks = false) (N : Nat) {x1 : Int32} {k25 : Int32 → Int32 → Int32 → Mm → Option (Int32 × Mm)} (hk25 : ∀ (x2 : Int32) (x3 : Int32) (x4 : Int32) (σ : Mm) (H : Heap) (locs : List Loc) (ls : Array Slot), k25 x2 x3 x4 σ = some (r0, σ0) → Rp G 212 tt σ s H locs → lv_has ls 6 [(0, .ref (G.2.2 + 160)), (1, .int x1), (2, .int x2), (3, .int x3), (4, .int x4)] → W p l e rm11_weakest s m args below meth c H locs 0 0 (MQ below (P_i G 212 tt r0 σ0) args s 0 0 (Fr G)) (F0 m 25 ls [])) :
    ∀ (x4 : Int32) (x5 : Int32) (σ : Mm) (H : Heap) (locs : List Loc) (ls : Array Slot), f11_weakest_71 N k25 x1 x4 x5 σ = some (r0, σ0) → Rp G 212 tt σ s H locs → lv_has ls 6 [(0, .ref (G.2.2 + 160)), (1, .int x1), (4, .int x4), (5, .int x5)] → W p l e rm11_weakest s m args below meth c H locs 0 0 (MQ below (P_i G 212 tt r0 σ0) args s 0 0 (Fr G)) (F0 m 71 ls []) := by
  have hx := X.1
  have hb := X.2.1
  intro x4 x5 σ H locs ls hf hR hl
  unfold f11_weakest_71 at hf
  refine lv_iload hx hb dX11_weakest_71 (lv_at hl 2 rfl) ?_
  refine lv_istore_n (lv' := [(2, .int x4), (0, .ref (G.2.2 + 160)), (1, .int x1), (4, .int x4), (5, .int x5)]) hx hb dX11_weakest_73 rfl hl (by decide) rfl (fun ls hl => ?_)
  refine lv_iload hx hb dX11_weakest_74 (lv_at hl 4 rfl) ?_
  refine lv_istore_n (lv' := [(3, .int x5), (2, .int x4), (0, .ref (G.2.2 + 160)), (1, .int x1), (4, .int x4), (5, .int x5)]) hx hb dX11_weakest_76 rfl hl (by decide) rfl (fun ls hl => ?_)
  exact w11_weakest_77 X hr hlk N hk25 x4 x5 x4 σ _ _ _ hf hR (lv_sub hl [2, 3, 1, 0, 4] rfl)
set_option maxHeartbeats 4000000 in
set_option maxRecDepth 100000 in
theorem w11_weakest_25 (X : Cx p s m args c cX11_weakest 6 RX11 G) (hr : meth.sig.returnType = some .int) (hlk : meth.locks = false) (N : Nat) {x1 : Int32} :
    ∀ (fu : Nat) (x2 : Int32) (x3 : Int32) (x4 : Int32) (σ : Mm) (H : Heap) (locs : List Loc) (ls : Array Slot), f11_weakest_25 N x1 fu x2 x3 x4 σ = some (r0, σ0) → Rp G 212 tt σ s H locs → lv_has ls 6 [(0, .ref (G.2.2 + 160)), (1, .int x1), (2, .int x2), (3, .int x3), (4, .int x4)] → W p l e rm11_weakest s m args below meth c H locs 0 0 (MQ below (P_i G 212 tt r0 σ0) args s 0 0 (Fr G)) (F0 m 25 ls []) := by
  have hx := X.1
  have hb := X.2.1
  intro fu
  induction fu with
  | zero =>
    intro x2 x3 x4 σ H locs ls hf hR hl
    rw [f11_weakest_25] at hf
    cases hf
  | succ fu ih =>
    intro x2 x3 x4 σ H locs ls hf hR hl
    rw [f11_weakest_25] at hf
    refine lv_iload hx hb dX11_weakest_25 (lv_at hl 4 rfl) ?_
    refine lv_aload_n hx hb dX11_weakest_27 rfl (lv_at hl 0 rfl) ?_
    refine r_gs (t := 199) X hR fr_11_134 kh_160 (sx_11_56 kh_160) dX11_weakest_28 ?_
    refine lv_bipush (v := (15 : Int32)) hx hb dX11_weakest_31 (by decide) ?_
    obtain ⟨hi_8, hf⟩ := z_c_e hf
    refine r_ial X hR ka_199 hi_8 dX11_weakest_33 ?_
    refine lv_icmp_ge (tgt := 83) hx hb dX11_weakest_34 (by decide) (fun c_9 => ?_) (fun c_9 => ?_)
    · replace hf := z_t c_9 hf
      exact w11_weakest_83 X hr hlk N  x1 x2 x3 σ _ _ _ hf hR (lv_sub hl [1, 2, 3] rfl)
    · replace hf := z_f c_9 hf
      refine lv_aload_n hx hb dX11_weakest_37 rfl (lv_at hl 0 rfl) ?_
      refine lv_iload hx hb dX11_weakest_38 (lv_at hl 4 rfl) ?_
      obtain ⟨r_11, σ_12, hc_13, hf⟩ := z_b_e hf
      refine go_i hR (mv_run (As := [.int x4]) (rest := []) X hR mv_11_382 kh_160 (kd_lt kh_160 (by decide)) (c11_swearBits l G N hc_13) ⟨rfl, rfl, Nat.le_of_ble_eq_true rfl, Nat.le_of_ble_eq_true rfl⟩ rfl hl.1 rfl (Nat.le_of_ble_eq_true rfl) dX11_weakest_40 ⟨Nat.zero_le _, Nat.zero_le _⟩) (fun H locs hR => ?_)
      obtain ⟨r_14, σ_15, hc_16, hf⟩ := z_b_e hf
      refine go_i hR (ms_run (As := [.int r_11]) (rest := []) X hR ms_11_366 (c11_bits l G N hc_16) ⟨rfl, rfl, Nat.le_of_ble_eq_true rfl, Nat.le_of_ble_eq_true rfl⟩ rfl hl.1 rfl (Nat.le_of_ble_eq_true rfl) dX11_weakest_43 ⟨Nat.zero_le _, Nat.zero_le _⟩) (fun H locs hR => ?_)
      refine lv_istore (lv' := [(5, .int r_14), (0, .ref (G.2.2 + 160)), (1, .int x1), (2, .int x2), (3, .int x3), (4, .int x4)]) hx hb dX11_weakest_46 hl (by decide) rfl (fun ls hl => ?_)
      refine lv_aload_n hx hb dX11_weakest_48 rfl (lv_at hl 1 rfl) ?_
      refine r_gs (t := 202) X hR fr_11_143 kh_160 (sx_11_62 kh_160) dX11_weakest_49 ?_
      refine lv_iload hx hb dX11_weakest_52 (lv_at hl 5 rfl) ?_
      obtain ⟨hi_17, hf⟩ := z_c_e hf
      refine r_zal X hR ka_202 hi_17 dX11_weakest_54 ?_
      refine lv_if_eq (tgt := 77) hx hb dX11_weakest_55 (by decide) (fun c_18 => ?_) (fun c_18 => ?_)
      · replace hf := z_t c_18 hf
        exact w11_weakest_77 X hr hlk N ih x2 x3 x4 σ_15 _ _ _ hf hR (lv_sub hl [1, 2, 3, 4, 5] rfl)
      · replace hf := z_f c_18 hf
        refine lv_iload_n hx hb dX11_weakest_58 rfl (lv_at hl 3 rfl) ?_
        refine lv_if_lt (tgt := 71) hx hb dX11_weakest_59 (by decide) (fun c_20 => ?_) (fun c_20 => ?_)
        · replace hf := z_t c_20 hf
          exact w11_weakest_71 X hr hlk N ih x4 r_14 σ_15 _ _ _ hf hR (lv_sub hl [1, 2, 5, 0] rfl)
        · replace hf := z_f c_20 hf
          refine lv_iload hx hb dX11_weakest_62 (lv_at hl 0 rfl) ?_
          refine lv_iload_n hx hb dX11_weakest_64 rfl (lv_at hl 4 rfl) ?_
          refine lv_icmp_lt (tgt := 71) hx hb dX11_weakest_65 (by decide) (fun c_21 => ?_) (fun c_21 => ?_)
          · replace hf := z_t c_21 hf
            exact w11_weakest_71 X hr hlk N ih x4 r_14 σ_15 _ _ _ hf hR (lv_sub hl [1, 2, 5, 0] rfl)
          · replace hf := z_f c_21 hf
            refine lv_goto (tgt := 77) hx hb dX11_weakest_68 (by decide) ?_
            exact w11_weakest_77 X hr hlk N ih x2 x3 x4 σ_15 _ _ _ hf hR (lv_sub hl [1, 2, 3, 4, 5] rfl)
set_option maxHeartbeats 4000000 in
set_option maxRecDepth 100000 in
theorem c11_weakest (l : Launch) (G : Gp) (N : Nat) {x1 : Int32} {σ σ0 : Mm} {r0 : Int32} (hf : f11_weakest N x1 σ = some (r0, σ0)) : Met l yX11_weakest (WS yX11_weakest cX11_weakest 6 (some .int)) rm11_weakest (va_Pc [.ref (G.2.2 + 160), .int x1] (Pd G 212 tt σ)) (P_i G 212 tt r0 σ0) 0 0 (Fr G) := by
  refine ct [(0, .ref (G.2.2 + 160)), (1, .int x1)] rfl (by decide) (Nat.le_of_ble_eq_true rfl) ?_
  intro p e s m below meth c ls X hr hlk hR hl
  have X : Cx p s m _ c cX11_weakest 6 RX11 G := X
  have hx := X.1
  have hb := X.2.1
  unfold f11_weakest at hf
  refine lv_iload_n hx hb dX11_weakest_0 rfl (lv_at hl 1 rfl) ?_
  refine lv_iconst (v := (0 : Int32)) hx hb dX11_weakest_1 (by decide) ?_
  refine lv_iconst (v := (1 : Int32)) hx hb dX11_weakest_2 (by decide) ?_
  obtain ⟨r_1, σ_2, hc_3, hf⟩ := z_b_e hf
  refine go_i hR (ms_run (As := [.int x1, .int (0 : Int32), .int (1 : Int32)]) (rest := []) X hR ms_11_340 (c11_in l G N hc_3) ⟨rfl, rfl, Nat.le_of_ble_eq_true rfl, Nat.le_of_ble_eq_true rfl⟩ rfl hl.1 rfl (Nat.le_of_ble_eq_true rfl) dX11_weakest_3 ⟨Nat.zero_le _, Nat.zero_le _⟩) (fun H locs hR => ?_)
  refine lv_if_ne (tgt := 11) hx hb dX11_weakest_6 (by decide) (fun c_4 => ?_) (fun c_4 => ?_)
  · replace hf := z_f c_4 hf
    refine lv_aload_n hx hb dX11_weakest_11 rfl (lv_at hl 0 rfl) ?_
    refine lv_iconst (v := (0 : Int32)) hx hb dX11_weakest_12 (by decide) ?_
    obtain ⟨r_5, σ_6, hc_7, hf⟩ := z_b_e hf
    refine go_v hR (mv_run (As := [.int (0 : Int32)]) (rest := []) X hR mv_11_464 kh_160 (kd_lt kh_160 (by decide)) (c11_goesOnTo l G N hc_7) ⟨rfl, rfl, Nat.le_of_ble_eq_true rfl, Nat.le_of_ble_eq_true rfl⟩ rfl hl.1 rfl (Nat.le_of_ble_eq_true rfl) dX11_weakest_13 ⟨Nat.zero_le _, Nat.zero_le _⟩) (fun H locs hR => ?_)
    refine lv_bipush (v := (-2 : Int32)) hx hb dX11_weakest_16 (by decide) ?_
    refine lv_istore_n (lv' := [(2, .int (-2 : Int32)), (0, .ref (G.2.2 + 160)), (1, .int x1)]) hx hb dX11_weakest_18 rfl hl (by decide) rfl (fun ls hl => ?_)
    refine lv_bipush (v := (-2 : Int32)) hx hb dX11_weakest_19 (by decide) ?_
    refine lv_istore_n (lv' := [(3, .int (-2 : Int32)), (2, .int (-2 : Int32)), (0, .ref (G.2.2 + 160)), (1, .int x1)]) hx hb dX11_weakest_21 rfl hl (by decide) rfl (fun ls hl => ?_)
    refine lv_iconst (v := (0 : Int32)) hx hb dX11_weakest_22 (by decide) ?_
    refine lv_istore (lv' := [(4, .int (0 : Int32)), (3, .int (-2 : Int32)), (2, .int (-2 : Int32)), (0, .ref (G.2.2 + 160)), (1, .int x1)]) hx hb dX11_weakest_23 hl (by decide) rfl (fun ls hl => ?_)
    exact w11_weakest_25 X hr hlk N  N (-2 : Int32) (-2 : Int32) (0 : Int32) σ_6 _ _ _ hf hR (lv_sub hl [3, 4, 2, 1, 0] rfl)
  · replace hf := z_t c_4 hf
    refine lv_iconst (v := (-1 : Int32)) hx hb dX11_weakest_9 (by decide) ?_
    exact e_i X hR hr hlk hf dX11_weakest_10
abbrev rm11_ownerIn : Room := { frames := 7, cells := 0, slots := 0, locals := 162 }
def f11_ownerIn (N : Nat) (x1 : Int32) (x2 : Int32) (σ : Mm) : Option (Int32 × Mm) :=
  z_b (f11_isPlot N x1 σ) fun r_1 σ_2 =>
  if r_1 = 0 then (
  some ((-1 : Int32), σ_2)) else (
  z_b (f11_isLong N x2 σ_2) fun r_5 σ_6 =>
  if r_5 = 0 then (
  some ((-1 : Int32), σ_6)) else (
  z_b (f11_goesOnTo N x2 σ_6) fun _ σ_10 =>
  z_c (inB x1 7) (
  some ((gI σ_10 200 (ix x1)), σ_10))))
set_option maxHeartbeats 4000000 in
set_option maxRecDepth 100000 in
theorem c11_ownerIn (l : Launch) (G : Gp) (N : Nat) {x1 : Int32} {x2 : Int32} {σ σ0 : Mm} {r0 : Int32} (hf : f11_ownerIn N x1 x2 σ = some (r0, σ0)) : Met l yX11_ownerIn (WS yX11_ownerIn cX11_ownerIn 3 (some .int)) rm11_ownerIn (va_Pc [.ref (G.2.2 + 160), .int x1, .int x2] (Pd G 212 tt σ)) (P_i G 212 tt r0 σ0) 0 0 (Fr G) := by
  refine ct [(0, .ref (G.2.2 + 160)), (1, .int x1), (2, .int x2)] rfl (by decide) (Nat.le_of_ble_eq_true rfl) ?_
  intro p e s m below meth c ls X hr hlk hR hl
  have X : Cx p s m _ c cX11_ownerIn 3 RX11 G := X
  have hx := X.1
  have hb := X.2.1
  unfold f11_ownerIn at hf
  refine lv_aload_n hx hb dX11_ownerIn_0 rfl (lv_at hl 0 rfl) ?_
  refine lv_iload_n hx hb dX11_ownerIn_1 rfl (lv_at hl 1 rfl) ?_
  obtain ⟨r_1, σ_2, hc_3, hf⟩ := z_b_e hf
  refine go_i hR (mv_run (As := [.int x1]) (rest := []) X hR mv_11_397 kh_160 (kd_lt kh_160 (by decide)) (c11_isPlot l G N hc_3) ⟨rfl, rfl, Nat.le_of_ble_eq_true rfl, Nat.le_of_ble_eq_true rfl⟩ rfl hl.1 rfl (Nat.le_of_ble_eq_true rfl) dX11_ownerIn_2 ⟨Nat.zero_le _, Nat.zero_le _⟩) (fun H locs hR => ?_)
  refine lv_if_eq (tgt := 15) hx hb dX11_ownerIn_5 (by decide) (fun c_4 => ?_) (fun c_4 => ?_)
  · replace hf := z_t c_4 hf
    refine lv_iconst (v := (-1 : Int32)) hx hb dX11_ownerIn_15 (by decide) ?_
    exact e_i X hR hr hlk hf dX11_ownerIn_16
  · replace hf := z_f c_4 hf
    refine lv_iload_n hx hb dX11_ownerIn_8 rfl (lv_at hl 2 rfl) ?_
    obtain ⟨r_5, σ_6, hc_7, hf⟩ := z_b_e hf
    refine go_i hR (ms_run (As := [.int x2]) (rest := []) X hR ms_11_439 (c11_isLong l G N hc_7) ⟨rfl, rfl, Nat.le_of_ble_eq_true rfl, Nat.le_of_ble_eq_true rfl⟩ rfl hl.1 rfl (Nat.le_of_ble_eq_true rfl) dX11_ownerIn_9 ⟨Nat.zero_le _, Nat.zero_le _⟩) (fun H locs hR => ?_)
    refine lv_if_ne (tgt := 17) hx hb dX11_ownerIn_12 (by decide) (fun c_8 => ?_) (fun c_8 => ?_)
    · replace hf := z_f c_8 hf
      refine lv_aload_n hx hb dX11_ownerIn_17 rfl (lv_at hl 0 rfl) ?_
      refine lv_iload_n hx hb dX11_ownerIn_18 rfl (lv_at hl 2 rfl) ?_
      obtain ⟨r_9, σ_10, hc_11, hf⟩ := z_b_e hf
      refine go_v hR (mv_run (As := [.int x2]) (rest := []) X hR mv_11_464 kh_160 (kd_lt kh_160 (by decide)) (c11_goesOnTo l G N hc_11) ⟨rfl, rfl, Nat.le_of_ble_eq_true rfl, Nat.le_of_ble_eq_true rfl⟩ rfl hl.1 rfl (Nat.le_of_ble_eq_true rfl) dX11_ownerIn_19 ⟨Nat.zero_le _, Nat.zero_le _⟩) (fun H locs hR => ?_)
      refine lv_aload_n hx hb dX11_ownerIn_22 rfl (lv_at hl 0 rfl) ?_
      refine r_gs (t := 200) X hR fr_11_137 kh_160 (sx_11_60 kh_160) dX11_ownerIn_23 ?_
      refine lv_iload_n hx hb dX11_ownerIn_26 rfl (lv_at hl 1 rfl) ?_
      obtain ⟨hi_12, hf⟩ := z_c_e hf
      refine r_ial X hR ka_200 hi_12 dX11_ownerIn_27 ?_
      exact e_i X hR hr hlk hf dX11_ownerIn_28
    · replace hf := z_t c_8 hf
      refine lv_iconst (v := (-1 : Int32)) hx hb dX11_ownerIn_15 (by decide) ?_
      exact e_i X hR hr hlk hf dX11_ownerIn_16
abbrev rm11_then : Room := { frames := 7, cells := 0, slots := 0, locals := 162 }
def f11_then (N : Nat) (x1 : Int32) (x2 : Int32) (x3 : Int32) (σ : Mm) : Option (Int32 × Mm) :=
  z_b (f11_isWitness N x1 σ) fun r_1 σ_2 =>
  if r_1 = 0 then (
  some ((-1 : Int32), σ_2)) else (
  z_b (f11_isLong N x2 σ_2) fun r_5 σ_6 =>
  if r_5 = 0 then (
  some ((-1 : Int32), σ_6)) else (
  z_b (f11_in N x3 (0 : Int32) (1 : Int32) σ_6) fun r_9 σ_10 =>
  if r_9 = 0 then (
  some ((-1 : Int32), σ_10)) else (
  z_b (f11_goesOnTo N x2 σ_10) fun _ σ_14 =>
  z_c (inB (((7 : Int32) * x3) + x1) 117) (
  some ((gI σ_14 199 (ix (((7 : Int32) * x3) + x1))), σ_14)))))
set_option maxHeartbeats 4000000 in
set_option maxRecDepth 100000 in
theorem c11_then (l : Launch) (G : Gp) (N : Nat) {x1 : Int32} {x2 : Int32} {x3 : Int32} {σ σ0 : Mm} {r0 : Int32} (hf : f11_then N x1 x2 x3 σ = some (r0, σ0)) : Met l yX11_then (WS yX11_then cX11_then 4 (some .int)) rm11_then (va_Pc [.ref (G.2.2 + 160), .int x1, .int x2, .int x3] (Pd G 212 tt σ)) (P_i G 212 tt r0 σ0) 0 0 (Fr G) := by
  refine ct [(0, .ref (G.2.2 + 160)), (1, .int x1), (2, .int x2), (3, .int x3)] rfl (by decide) (Nat.le_of_ble_eq_true rfl) ?_
  intro p e s m below meth c ls X hr hlk hR hl
  have X : Cx p s m _ c cX11_then 4 RX11 G := X
  have hx := X.1
  have hb := X.2.1
  unfold f11_then at hf
  refine lv_aload_n hx hb dX11_then_0 rfl (lv_at hl 0 rfl) ?_
  refine lv_iload_n hx hb dX11_then_1 rfl (lv_at hl 1 rfl) ?_
  obtain ⟨r_1, σ_2, hc_3, hf⟩ := z_b_e hf
  refine go_i hR (mv_run (As := [.int x1]) (rest := []) X hR mv_11_409 kh_160 (kd_lt kh_160 (by decide)) (c11_isWitness l G N hc_3) ⟨rfl, rfl, Nat.le_of_ble_eq_true rfl, Nat.le_of_ble_eq_true rfl⟩ rfl hl.1 rfl (Nat.le_of_ble_eq_true rfl) dX11_then_2 ⟨Nat.zero_le _, Nat.zero_le _⟩) (fun H locs hR => ?_)
  refine lv_if_eq (tgt := 24) hx hb dX11_then_5 (by decide) (fun c_4 => ?_) (fun c_4 => ?_)
  · replace hf := z_t c_4 hf
    refine lv_iconst (v := (-1 : Int32)) hx hb dX11_then_24 (by decide) ?_
    exact e_i X hR hr hlk hf dX11_then_25
  · replace hf := z_f c_4 hf
    refine lv_iload_n hx hb dX11_then_8 rfl (lv_at hl 2 rfl) ?_
    obtain ⟨r_5, σ_6, hc_7, hf⟩ := z_b_e hf
    refine go_i hR (ms_run (As := [.int x2]) (rest := []) X hR ms_11_439 (c11_isLong l G N hc_7) ⟨rfl, rfl, Nat.le_of_ble_eq_true rfl, Nat.le_of_ble_eq_true rfl⟩ rfl hl.1 rfl (Nat.le_of_ble_eq_true rfl) dX11_then_9 ⟨Nat.zero_le _, Nat.zero_le _⟩) (fun H locs hR => ?_)
    refine lv_if_eq (tgt := 24) hx hb dX11_then_12 (by decide) (fun c_8 => ?_) (fun c_8 => ?_)
    · replace hf := z_t c_8 hf
      refine lv_iconst (v := (-1 : Int32)) hx hb dX11_then_24 (by decide) ?_
      exact e_i X hR hr hlk hf dX11_then_25
    · replace hf := z_f c_8 hf
      refine lv_iload_n hx hb dX11_then_15 rfl (lv_at hl 3 rfl) ?_
      refine lv_iconst (v := (0 : Int32)) hx hb dX11_then_16 (by decide) ?_
      refine lv_iconst (v := (1 : Int32)) hx hb dX11_then_17 (by decide) ?_
      obtain ⟨r_9, σ_10, hc_11, hf⟩ := z_b_e hf
      refine go_i hR (ms_run (As := [.int x3, .int (0 : Int32), .int (1 : Int32)]) (rest := []) X hR ms_11_340 (c11_in l G N hc_11) ⟨rfl, rfl, Nat.le_of_ble_eq_true rfl, Nat.le_of_ble_eq_true rfl⟩ rfl hl.1 rfl (Nat.le_of_ble_eq_true rfl) dX11_then_18 ⟨Nat.zero_le _, Nat.zero_le _⟩) (fun H locs hR => ?_)
      refine lv_if_ne (tgt := 26) hx hb dX11_then_21 (by decide) (fun c_12 => ?_) (fun c_12 => ?_)
      · replace hf := z_f c_12 hf
        refine lv_aload_n hx hb dX11_then_26 rfl (lv_at hl 0 rfl) ?_
        refine lv_iload_n hx hb dX11_then_27 rfl (lv_at hl 2 rfl) ?_
        obtain ⟨r_13, σ_14, hc_15, hf⟩ := z_b_e hf
        refine go_v hR (mv_run (As := [.int x2]) (rest := []) X hR mv_11_464 kh_160 (kd_lt kh_160 (by decide)) (c11_goesOnTo l G N hc_15) ⟨rfl, rfl, Nat.le_of_ble_eq_true rfl, Nat.le_of_ble_eq_true rfl⟩ rfl hl.1 rfl (Nat.le_of_ble_eq_true rfl) dX11_then_28 ⟨Nat.zero_le _, Nat.zero_le _⟩) (fun H locs hR => ?_)
        refine lv_aload_n hx hb dX11_then_31 rfl (lv_at hl 0 rfl) ?_
        refine r_gs (t := 199) X hR fr_11_134 kh_160 (sx_11_56 kh_160) dX11_then_32 ?_
        refine lv_bipush (v := (7 : Int32)) hx hb dX11_then_35 (by decide) ?_
        refine lv_iload_n hx hb dX11_then_37 rfl (lv_at hl 3 rfl) ?_
        refine lv_imul hx hb dX11_then_38 ?_
        refine lv_iload_n hx hb dX11_then_39 rfl (lv_at hl 1 rfl) ?_
        refine lv_iadd hx hb dX11_then_40 ?_
        obtain ⟨hi_16, hf⟩ := z_c_e hf
        refine r_ial X hR ka_199 hi_16 dX11_then_41 ?_
        exact e_i X hR hr hlk hf dX11_then_42
      · replace hf := z_t c_12 hf
        refine lv_iconst (v := (-1 : Int32)) hx hb dX11_then_24 (by decide) ?_
        exact e_i X hR hr hlk hf dX11_then_25
abbrev rm11_swearIn : Room := { frames := 7, cells := 0, slots := 0, locals := 162 }
def f11_swearIn (N : Nat) (x1 : Int32) (x2 : Int32) (σ : Mm) : Option (Int32 × Mm) :=
  z_b (f11_isGiving N x1 σ) fun r_1 σ_2 =>
  if r_1 = 0 then (
  some ((-1 : Int32), σ_2)) else (
  z_b (f11_isLong N x2 σ_2) fun r_5 σ_6 =>
  if r_5 = 0 then (
  some ((-1 : Int32), σ_6)) else (
  z_b (f11_goesOnTo N x2 σ_6) fun _ σ_10 =>
  z_b (f11_swearBits N x1 σ_10) fun r_12 σ_13 =>
  z_b (f11_bits N r_12 σ_13) fun r_15 σ_16 =>
  some (r_15, σ_16)))
set_option maxHeartbeats 4000000 in
set_option maxRecDepth 100000 in
theorem c11_swearIn (l : Launch) (G : Gp) (N : Nat) {x1 : Int32} {x2 : Int32} {σ σ0 : Mm} {r0 : Int32} (hf : f11_swearIn N x1 x2 σ = some (r0, σ0)) : Met l yX11_swearIn (WS yX11_swearIn cX11_swearIn 3 (some .int)) rm11_swearIn (va_Pc [.ref (G.2.2 + 160), .int x1, .int x2] (Pd G 212 tt σ)) (P_i G 212 tt r0 σ0) 0 0 (Fr G) := by
  refine ct [(0, .ref (G.2.2 + 160)), (1, .int x1), (2, .int x2)] rfl (by decide) (Nat.le_of_ble_eq_true rfl) ?_
  intro p e s m below meth c ls X hr hlk hR hl
  have X : Cx p s m _ c cX11_swearIn 3 RX11 G := X
  have hx := X.1
  have hb := X.2.1
  unfold f11_swearIn at hf
  refine lv_aload_n hx hb dX11_swearIn_0 rfl (lv_at hl 0 rfl) ?_
  refine lv_iload_n hx hb dX11_swearIn_1 rfl (lv_at hl 1 rfl) ?_
  obtain ⟨r_1, σ_2, hc_3, hf⟩ := z_b_e hf
  refine go_i hR (mv_run (As := [.int x1]) (rest := []) X hR mv_11_412 kh_160 (kd_lt kh_160 (by decide)) (c11_isGiving l G N hc_3) ⟨rfl, rfl, Nat.le_of_ble_eq_true rfl, Nat.le_of_ble_eq_true rfl⟩ rfl hl.1 rfl (Nat.le_of_ble_eq_true rfl) dX11_swearIn_2 ⟨Nat.zero_le _, Nat.zero_le _⟩) (fun H locs hR => ?_)
  refine lv_if_eq (tgt := 15) hx hb dX11_swearIn_5 (by decide) (fun c_4 => ?_) (fun c_4 => ?_)
  · replace hf := z_t c_4 hf
    refine lv_iconst (v := (-1 : Int32)) hx hb dX11_swearIn_15 (by decide) ?_
    exact e_i X hR hr hlk hf dX11_swearIn_16
  · replace hf := z_f c_4 hf
    refine lv_iload_n hx hb dX11_swearIn_8 rfl (lv_at hl 2 rfl) ?_
    obtain ⟨r_5, σ_6, hc_7, hf⟩ := z_b_e hf
    refine go_i hR (ms_run (As := [.int x2]) (rest := []) X hR ms_11_439 (c11_isLong l G N hc_7) ⟨rfl, rfl, Nat.le_of_ble_eq_true rfl, Nat.le_of_ble_eq_true rfl⟩ rfl hl.1 rfl (Nat.le_of_ble_eq_true rfl) dX11_swearIn_9 ⟨Nat.zero_le _, Nat.zero_le _⟩) (fun H locs hR => ?_)
    refine lv_if_ne (tgt := 17) hx hb dX11_swearIn_12 (by decide) (fun c_8 => ?_) (fun c_8 => ?_)
    · replace hf := z_f c_8 hf
      refine lv_aload_n hx hb dX11_swearIn_17 rfl (lv_at hl 0 rfl) ?_
      refine lv_iload_n hx hb dX11_swearIn_18 rfl (lv_at hl 2 rfl) ?_
      obtain ⟨r_9, σ_10, hc_11, hf⟩ := z_b_e hf
      refine go_v hR (mv_run (As := [.int x2]) (rest := []) X hR mv_11_464 kh_160 (kd_lt kh_160 (by decide)) (c11_goesOnTo l G N hc_11) ⟨rfl, rfl, Nat.le_of_ble_eq_true rfl, Nat.le_of_ble_eq_true rfl⟩ rfl hl.1 rfl (Nat.le_of_ble_eq_true rfl) dX11_swearIn_19 ⟨Nat.zero_le _, Nat.zero_le _⟩) (fun H locs hR => ?_)
      refine lv_aload_n hx hb dX11_swearIn_22 rfl (lv_at hl 0 rfl) ?_
      refine lv_iload_n hx hb dX11_swearIn_23 rfl (lv_at hl 1 rfl) ?_
      obtain ⟨r_12, σ_13, hc_14, hf⟩ := z_b_e hf
      refine go_i hR (mv_run (As := [.int x1]) (rest := []) X hR mv_11_382 kh_160 (kd_lt kh_160 (by decide)) (c11_swearBits l G N hc_14) ⟨rfl, rfl, Nat.le_of_ble_eq_true rfl, Nat.le_of_ble_eq_true rfl⟩ rfl hl.1 rfl (Nat.le_of_ble_eq_true rfl) dX11_swearIn_24 ⟨Nat.zero_le _, Nat.zero_le _⟩) (fun H locs hR => ?_)
      obtain ⟨r_15, σ_16, hc_17, hf⟩ := z_b_e hf
      refine go_i hR (ms_run (As := [.int r_12]) (rest := []) X hR ms_11_366 (c11_bits l G N hc_17) ⟨rfl, rfl, Nat.le_of_ble_eq_true rfl, Nat.le_of_ble_eq_true rfl⟩ rfl hl.1 rfl (Nat.le_of_ble_eq_true rfl) dX11_swearIn_27 ⟨Nat.zero_le _, Nat.zero_le _⟩) (fun H locs hR => ?_)
      exact e_i X hR hr hlk hf dX11_swearIn_30
    · replace hf := z_t c_8 hf
      refine lv_iconst (v := (-1 : Int32)) hx hb dX11_swearIn_15 (by decide) ?_
      exact e_i X hR hr hlk hf dX11_swearIn_16
abbrev rm11_year : Room := { frames := 6, cells := 0, slots := 0, locals := 141 }
def f11_year_86 (N : Nat) (k42 : Int32 → Int32 → Mm → Option (Int32 × Mm)) (x1 : Int32) (x2 : Int32) (x3 : Int32) (x4 : Int32) (x5 : Int32) (x6 : Int32) (σ : Mm) : Option (Int32 × Mm) :=
  z_l (x6 + (1 : Int32)) fun x6_30 =>
  k42 x5 x6_30 σ
def f11_year_42 (N : Nat) (x1 : Int32) (x2 : Int32) (x3 : Int32) (x4 : Int32) : Nat → Int32 → Int32 → Mm → Option (Int32 × Mm)
  | 0, _, _, _ => none
  | fu + 1, x5, x6, σ => if x4 ≤ x6 then (
  some (x5, σ)) else (
  z_b (f11_copies N σ) fun _ σ_19 =>
  z_l (sI σ_19 160 57 ((gI σ_19 160 57) + x6)) fun σ_21 =>
  z_b (f11_goes N x3 σ_21) fun _ σ_23 =>
  z_b (f11_fillsWhose N σ_23) fun _ σ_26 =>
  z_c (inB x1 7) (
  if (gI σ_26 200 (ix x1)) = x2 then (
  z_l (x5 + (1 : Int32)) fun x5_31 =>
  f11_year_86 N (fun x5 x6 σ => f11_year_42 N x1 x2 x3 x4 fu x5 x6 σ) x1 x2 x3 x4 x5_31 x6 σ_26) else (
  f11_year_86 N (fun x5 x6 σ => f11_year_42 N x1 x2 x3 x4 fu x5 x6 σ) x1 x2 x3 x4 x5 x6 σ_26)))
def f11_year (N : Nat) (x1 : Int32) (x2 : Int32) (x3 : Int32) (x4 : Int32) (σ : Mm) : Option (Int32 × Mm) :=
  z_b (f11_isPlot N x1 σ) fun r_1 σ_2 =>
  if r_1 = 0 then (
  some ((-1 : Int32), σ_2)) else (
  z_b (f11_isPerson N x2 σ_2) fun r_5 σ_6 =>
  if r_5 = 0 then (
  some ((-1 : Int32), σ_6)) else (
  z_b (f11_isLong N x3 σ_6) fun r_9 σ_10 =>
  if r_9 = 0 then (
  some ((-1 : Int32), σ_10)) else (
  z_b (f11_in N x4 (1 : Int32) (20 : Int32) σ_10) fun r_13 σ_14 =>
  if r_13 = 0 then (
  some ((-1 : Int32), σ_14)) else (
  f11_year_42 N x1 x2 x3 x4 N (0 : Int32) (0 : Int32) σ_14))))
set_option maxHeartbeats 4000000 in
set_option maxRecDepth 100000 in
theorem w11_year_86 (X : Cx p s m args c cX11_year 7 RX11 G) (hr : meth.sig.returnType = some .int) (hlk : meth.locks = false) (N : Nat) {x1 : Int32} {x2 : Int32} {x3 : Int32} {x4 : Int32} {k42 : Int32 → Int32 → Mm → Option (Int32 × Mm)} (hk42 : ∀ (x5 : Int32) (x6 : Int32) (σ : Mm) (H : Heap) (locs : List Loc) (ls : Array Slot), k42 x5 x6 σ = some (r0, σ0) → Rp G 212 tt σ s H locs → lv_has ls 7 [(0, .ref (G.2.2 + 160)), (1, .int x1), (2, .int x2), (3, .int x3), (4, .int x4), (5, .int x5), (6, .int x6)] → W p l e rm11_year s m args below meth c H locs 0 0 (MQ below (P_i G 212 tt r0 σ0) args s 0 0 (Fr G)) (F0 m 42 ls [])) :
    ∀ (x5 : Int32) (x6 : Int32) (σ : Mm) (H : Heap) (locs : List Loc) (ls : Array Slot), f11_year_86 N k42 x1 x2 x3 x4 x5 x6 σ = some (r0, σ0) → Rp G 212 tt σ s H locs → lv_has ls 7 [(0, .ref (G.2.2 + 160)), (1, .int x1), (2, .int x2), (3, .int x3), (4, .int x4), (5, .int x5), (6, .int x6)] → W p l e rm11_year s m args below meth c H locs 0 0 (MQ below (P_i G 212 tt r0 σ0) args s 0 0 (Fr G)) (F0 m 86 ls []) := by
  have hx := X.1
  have hb := X.2.1
  intro x5 x6 σ H locs ls hf hR hl
  unfold f11_year_86 at hf
  obtain ⟨x6_30, ex6_30⟩ : ∃ z : Int32, z = x6 + (1 : Int32) := ⟨_, rfl⟩
  replace hf := z_l_e ex6_30 hf
  refine lv_iinc (v := x6_30) (lv' := [(6, .int x6_30), (0, .ref (G.2.2 + 160)), (1, .int x1), (2, .int x2), (3, .int x3), (4, .int x4), (5, .int x5)]) hx hb dX11_year_86 hl (k := 6) rfl (by rw [ex6_30]; rfl) (by decide) rfl (fun ls hl => ?_)
  refine lv_goto (tgt := 42) hx hb dX11_year_89 (by decide) ?_
  exact hk42 x5 x6_30 σ _ _ _ hf hR (lv_sub hl [1, 2, 3, 4, 5, 6, 0] rfl)
set_option maxHeartbeats 4000000 in
set_option maxRecDepth 100000 in
theorem w11_year_42 (X : Cx p s m args c cX11_year 7 RX11 G) (hr : meth.sig.returnType = some .int) (hlk : meth.locks = false) (N : Nat) {x1 : Int32} {x2 : Int32} {x3 : Int32} {x4 : Int32} :
    ∀ (fu : Nat) (x5 : Int32) (x6 : Int32) (σ : Mm) (H : Heap) (locs : List Loc) (ls : Array Slot), f11_year_42 N x1 x2 x3 x4 fu x5 x6 σ = some (r0, σ0) → Rp G 212 tt σ s H locs → lv_has ls 7 [(0, .ref (G.2.2 + 160)), (1, .int x1), (2, .int x2), (3, .int x3), (4, .int x4), (5, .int x5), (6, .int x6)] → W p l e rm11_year s m args below meth c H locs 0 0 (MQ below (P_i G 212 tt r0 σ0) args s 0 0 (Fr G)) (F0 m 42 ls []) := by
  have hx := X.1
  have hb := X.2.1
  intro fu
  induction fu with
  | zero =>
    intro x5 x6 σ H locs ls hf hR hl
    rw [f11_year_42] at hf
    cases hf
  | succ fu ih =>
    intro x5 x6 σ H locs ls hf hR hl
    rw [f11_year_42] at hf
    refine lv_iload hx hb dX11_year_42 (lv_at hl 6 rfl) ?_
    refine lv_iload hx hb dX11_year_44 (lv_at hl 4 rfl) ?_
    refine lv_icmp_ge (tgt := 92) hx hb dX11_year_46 (by decide) (fun c_17 => ?_) (fun c_17 => ?_)
    · replace hf := z_t c_17 hf
      refine lv_iload hx hb dX11_year_92 (lv_at hl 5 rfl) ?_
      exact e_i X hR hr hlk hf dX11_year_94
    · replace hf := z_f c_17 hf
      refine lv_aload_n hx hb dX11_year_49 rfl (lv_at hl 0 rfl) ?_
      obtain ⟨r_18, σ_19, hc_20, hf⟩ := z_b_e hf
      refine go_v hR (mv_run (As := []) (rest := []) X hR mv_11_400 kh_160 (kd_lt kh_160 (by decide)) (c11_copies l G N hc_20) ⟨rfl, rfl, Nat.le_of_ble_eq_true rfl, Nat.le_of_ble_eq_true rfl⟩ rfl hl.1 rfl (Nat.le_of_ble_eq_true rfl) dX11_year_50 ⟨Nat.zero_le _, Nat.zero_le _⟩) (fun H locs hR => ?_)
      refine lv_aload_n hx hb dX11_year_53 rfl (lv_at hl 0 rfl) ?_
      refine lv_dup hx hb dX11_year_54 rfl ?_
      refine r_gi X hR fi_11_344 kh_160 dX11_year_55 ?_
      refine lv_iload hx hb dX11_year_58 (lv_at hl 6 rfl) ?_
      refine lv_iadd hx hb dX11_year_60 ?_
      refine r_pi X hR pi_11_344 kh_160 dX11_year_61 (fun H locs σ_21 eσ_21 hR => ?_)
      replace hf := z_l_e eσ_21 hf
      refine lv_aload_n hx hb dX11_year_64 rfl (lv_at hl 0 rfl) ?_
      refine lv_iload_n hx hb dX11_year_65 rfl (lv_at hl 3 rfl) ?_
      obtain ⟨r_22, σ_23, hc_24, hf⟩ := z_b_e hf
      refine go_v hR (mv_run (As := [.int x3]) (rest := []) X hR mv_11_424 kh_160 (kd_lt kh_160 (by decide)) (c11_goes l G N hc_24) ⟨rfl, rfl, Nat.le_of_ble_eq_true rfl, Nat.le_of_ble_eq_true rfl⟩ rfl hl.1 rfl (Nat.le_of_ble_eq_true rfl) dX11_year_66 ⟨Nat.zero_le _, Nat.zero_le _⟩) (fun H locs hR => ?_)
      refine lv_aload_n hx hb dX11_year_69 rfl (lv_at hl 0 rfl) ?_
      obtain ⟨r_25, σ_26, hc_27, hf⟩ := z_b_e hf
      refine go_v hR (mv_run (As := []) (rest := []) X hR mv_11_403 kh_160 (kd_lt kh_160 (by decide)) (c11_fillsWhose l G N hc_27) ⟨rfl, rfl, Nat.le_of_ble_eq_true rfl, Nat.le_of_ble_eq_true rfl⟩ rfl hl.1 rfl (Nat.le_of_ble_eq_true rfl) dX11_year_70 ⟨Nat.zero_le _, Nat.zero_le _⟩) (fun H locs hR => ?_)
      refine lv_aload_n hx hb dX11_year_73 rfl (lv_at hl 0 rfl) ?_
      refine r_gs (t := 200) X hR fr_11_137 kh_160 (sx_11_60 kh_160) dX11_year_74 ?_
      refine lv_iload_n hx hb dX11_year_77 rfl (lv_at hl 1 rfl) ?_
      obtain ⟨hi_28, hf⟩ := z_c_e hf
      refine r_ial X hR ka_200 hi_28 dX11_year_78 ?_
      refine lv_iload_n hx hb dX11_year_79 rfl (lv_at hl 2 rfl) ?_
      refine lv_icmp_ne (tgt := 86) hx hb dX11_year_80 (by decide) (fun c_29 => ?_) (fun c_29 => ?_)
      · replace hf := z_f c_29 hf
        exact w11_year_86 X hr hlk N ih x5 x6 σ_26 _ _ _ hf hR (lv_sub hl [0, 1, 2, 3, 4, 5, 6] rfl)
      · replace hf := z_t c_29 hf
        obtain ⟨x5_31, ex5_31⟩ : ∃ z : Int32, z = x5 + (1 : Int32) := ⟨_, rfl⟩
        replace hf := z_l_e ex5_31 hf
        refine lv_iinc (v := x5_31) (lv' := [(5, .int x5_31), (0, .ref (G.2.2 + 160)), (1, .int x1), (2, .int x2), (3, .int x3), (4, .int x4), (6, .int x6)]) hx hb dX11_year_83 hl (k := 5) rfl (by rw [ex5_31]; rfl) (by decide) rfl (fun ls hl => ?_)
        exact w11_year_86 X hr hlk N ih x5_31 x6 σ_26 _ _ _ hf hR (lv_sub hl [1, 2, 3, 4, 5, 0, 6] rfl)
set_option maxHeartbeats 4000000 in
set_option maxRecDepth 100000 in
theorem c11_year (l : Launch) (G : Gp) (N : Nat) {x1 : Int32} {x2 : Int32} {x3 : Int32} {x4 : Int32} {σ σ0 : Mm} {r0 : Int32} (hf : f11_year N x1 x2 x3 x4 σ = some (r0, σ0)) : Met l yX11_year (WS yX11_year cX11_year 7 (some .int)) rm11_year (va_Pc [.ref (G.2.2 + 160), .int x1, .int x2, .int x3, .int x4] (Pd G 212 tt σ)) (P_i G 212 tt r0 σ0) 0 0 (Fr G) := by
  refine ct [(0, .ref (G.2.2 + 160)), (1, .int x1), (2, .int x2), (3, .int x3), (4, .int x4)] rfl (by decide) (Nat.le_of_ble_eq_true rfl) ?_
  intro p e s m below meth c ls X hr hlk hR hl
  have X : Cx p s m _ c cX11_year 7 RX11 G := X
  have hx := X.1
  have hb := X.2.1
  unfold f11_year at hf
  refine lv_aload_n hx hb dX11_year_0 rfl (lv_at hl 0 rfl) ?_
  refine lv_iload_n hx hb dX11_year_1 rfl (lv_at hl 1 rfl) ?_
  obtain ⟨r_1, σ_2, hc_3, hf⟩ := z_b_e hf
  refine go_i hR (mv_run (As := [.int x1]) (rest := []) X hR mv_11_397 kh_160 (kd_lt kh_160 (by decide)) (c11_isPlot l G N hc_3) ⟨rfl, rfl, Nat.le_of_ble_eq_true rfl, Nat.le_of_ble_eq_true rfl⟩ rfl hl.1 rfl (Nat.le_of_ble_eq_true rfl) dX11_year_2 ⟨Nat.zero_le _, Nat.zero_le _⟩) (fun H locs hR => ?_)
  refine lv_if_eq (tgt := 34) hx hb dX11_year_5 (by decide) (fun c_4 => ?_) (fun c_4 => ?_)
  · replace hf := z_t c_4 hf
    refine lv_iconst (v := (-1 : Int32)) hx hb dX11_year_34 (by decide) ?_
    exact e_i X hR hr hlk hf dX11_year_35
  · replace hf := z_f c_4 hf
    refine lv_aload_n hx hb dX11_year_8 rfl (lv_at hl 0 rfl) ?_
    refine lv_iload_n hx hb dX11_year_9 rfl (lv_at hl 2 rfl) ?_
    obtain ⟨r_5, σ_6, hc_7, hf⟩ := z_b_e hf
    refine go_i hR (mv_run (As := [.int x2]) (rest := []) X hR mv_11_415 kh_160 (kd_lt kh_160 (by decide)) (c11_isPerson l G N hc_7) ⟨rfl, rfl, Nat.le_of_ble_eq_true rfl, Nat.le_of_ble_eq_true rfl⟩ rfl hl.1 rfl (Nat.le_of_ble_eq_true rfl) dX11_year_10 ⟨Nat.zero_le _, Nat.zero_le _⟩) (fun H locs hR => ?_)
    refine lv_if_eq (tgt := 34) hx hb dX11_year_13 (by decide) (fun c_8 => ?_) (fun c_8 => ?_)
    · replace hf := z_t c_8 hf
      refine lv_iconst (v := (-1 : Int32)) hx hb dX11_year_34 (by decide) ?_
      exact e_i X hR hr hlk hf dX11_year_35
    · replace hf := z_f c_8 hf
      refine lv_iload_n hx hb dX11_year_16 rfl (lv_at hl 3 rfl) ?_
      obtain ⟨r_9, σ_10, hc_11, hf⟩ := z_b_e hf
      refine go_i hR (ms_run (As := [.int x3]) (rest := []) X hR ms_11_439 (c11_isLong l G N hc_11) ⟨rfl, rfl, Nat.le_of_ble_eq_true rfl, Nat.le_of_ble_eq_true rfl⟩ rfl hl.1 rfl (Nat.le_of_ble_eq_true rfl) dX11_year_17 ⟨Nat.zero_le _, Nat.zero_le _⟩) (fun H locs hR => ?_)
      refine lv_if_eq (tgt := 34) hx hb dX11_year_20 (by decide) (fun c_12 => ?_) (fun c_12 => ?_)
      · replace hf := z_t c_12 hf
        refine lv_iconst (v := (-1 : Int32)) hx hb dX11_year_34 (by decide) ?_
        exact e_i X hR hr hlk hf dX11_year_35
      · replace hf := z_f c_12 hf
        refine lv_iload hx hb dX11_year_23 (lv_at hl 4 rfl) ?_
        refine lv_iconst (v := (1 : Int32)) hx hb dX11_year_25 (by decide) ?_
        refine lv_bipush (v := (20 : Int32)) hx hb dX11_year_26 (by decide) ?_
        obtain ⟨r_13, σ_14, hc_15, hf⟩ := z_b_e hf
        refine go_i hR (ms_run (As := [.int x4, .int (1 : Int32), .int (20 : Int32)]) (rest := []) X hR ms_11_340 (c11_in l G N hc_15) ⟨rfl, rfl, Nat.le_of_ble_eq_true rfl, Nat.le_of_ble_eq_true rfl⟩ rfl hl.1 rfl (Nat.le_of_ble_eq_true rfl) dX11_year_28 ⟨Nat.zero_le _, Nat.zero_le _⟩) (fun H locs hR => ?_)
        refine lv_if_ne (tgt := 36) hx hb dX11_year_31 (by decide) (fun c_16 => ?_) (fun c_16 => ?_)
        · replace hf := z_f c_16 hf
          refine lv_iconst (v := (0 : Int32)) hx hb dX11_year_36 (by decide) ?_
          refine lv_istore (lv' := [(5, .int (0 : Int32)), (0, .ref (G.2.2 + 160)), (1, .int x1), (2, .int x2), (3, .int x3), (4, .int x4)]) hx hb dX11_year_37 hl (by decide) rfl (fun ls hl => ?_)
          refine lv_iconst (v := (0 : Int32)) hx hb dX11_year_39 (by decide) ?_
          refine lv_istore (lv' := [(6, .int (0 : Int32)), (5, .int (0 : Int32)), (0, .ref (G.2.2 + 160)), (1, .int x1), (2, .int x2), (3, .int x3), (4, .int x4)]) hx hb dX11_year_40 hl (by decide) rfl (fun ls hl => ?_)
          exact w11_year_42 X hr hlk N  N (0 : Int32) (0 : Int32) σ_14 _ _ _ hf hR (lv_sub hl [2, 3, 4, 5, 6, 1, 0] rfl)
        · replace hf := z_t c_16 hf
          refine lv_iconst (v := (-1 : Int32)) hx hb dX11_year_34 (by decide) ?_
          exact e_i X hR hr hlk hf dX11_year_35
abbrev rm11_tell : Room := { frames := 2, cells := 0, slots := 0, locals := 43 }
def f11_tell_46 (N : Nat) (s1 : Int32) (s2 : Int32) (σ : Mm) : Option (Int32 × Mm) :=
  z_c (inB s1 20) (z_l (sI σ 209 (ix s1) s2) fun σ_10 =>
  z_l (sI σ_10 160 69 ((gI σ_10 160 69) + (1 : Int32))) fun σ_11 =>
  some (((gI σ_11 160 69) - (1 : Int32)), σ_11))
def f11_tell (N : Nat) (x1 : Int32) (x2 : Int32) (σ : Mm) : Option (Int32 × Mm) :=
  if (gI σ 160 69) = (20 : Int32) then (
  some ((-1 : Int32), σ)) else (
  z_b (f11_isWitness N x1 σ) fun r_2 σ_3 =>
  if r_2 = 0 then (
  some ((-1 : Int32), σ_3)) else (
  z_c (inB (gI σ_3 160 69) 20) (z_l (sI σ_3 208 (ix (gI σ_3 160 69)) x1) fun σ_7 =>
  if x2 = 0 then (
  f11_tell_46 N (gI σ_7 160 69) (0 : Int32) σ_7) else (
  f11_tell_46 N (gI σ_7 160 69) (1 : Int32) σ_7))))
set_option maxHeartbeats 4000000 in
set_option maxRecDepth 100000 in
theorem w11_tell_46 (X : Cx p s m args c cX11_tell 3 RX11 G) (hr : meth.sig.returnType = some .int) (hlk : meth.locks = false) (N : Nat) :
    ∀ (s1 : Int32) (s2 : Int32) (σ : Mm) (H : Heap) (locs : List Loc) (ls : Array Slot), f11_tell_46 N s1 s2 σ = some (r0, σ0) → Rp G 212 tt σ s H locs → lv_has ls 3 [(0, .ref (G.2.2 + 160))] → W p l e rm11_tell s m args below meth c H locs 0 0 (MQ below (P_i G 212 tt r0 σ0) args s 0 0 (Fr G)) (F0 m 46 ls [.int s2, .int s1, .ref (G.2.2 + 209)]) := by
  have hx := X.1
  have hb := X.2.1
  intro s1 s2 σ H locs ls hf hR hl
  unfold f11_tell_46 at hf
  obtain ⟨hi_9, hf⟩ := z_c_e hf
  refine r_ias X hR ka_209 hi_9 dX11_tell_46 (fun H locs σ_10 eσ_10 hR => ?_)
  replace hf := z_l_e eσ_10 hf
  refine lv_aload_n hx hb dX11_tell_47 rfl (lv_at hl 0 rfl) ?_
  refine lv_dup hx hb dX11_tell_48 rfl ?_
  refine r_gi X hR fi_11_275 kh_160 dX11_tell_49 ?_
  refine lv_iconst (v := (1 : Int32)) hx hb dX11_tell_52 (by decide) ?_
  refine lv_iadd hx hb dX11_tell_53 ?_
  refine r_pi X hR pi_11_275 kh_160 dX11_tell_54 (fun H locs σ_11 eσ_11 hR => ?_)
  replace hf := z_l_e eσ_11 hf
  refine lv_aload_n hx hb dX11_tell_57 rfl (lv_at hl 0 rfl) ?_
  refine r_gi X hR fi_11_275 kh_160 dX11_tell_58 ?_
  refine lv_iconst (v := (1 : Int32)) hx hb dX11_tell_61 (by decide) ?_
  refine lv_isub hx hb dX11_tell_62 ?_
  exact e_i X hR hr hlk hf dX11_tell_63
set_option maxHeartbeats 4000000 in
set_option maxRecDepth 100000 in
theorem c11_tell (l : Launch) (G : Gp) (N : Nat) {x1 : Int32} {x2 : Int32} {σ σ0 : Mm} {r0 : Int32} (hf : f11_tell N x1 x2 σ = some (r0, σ0)) : Met l yX11_tell (WS yX11_tell cX11_tell 3 (some .int)) rm11_tell (va_Pc [.ref (G.2.2 + 160), .int x1, .int x2] (Pd G 212 tt σ)) (P_i G 212 tt r0 σ0) 0 0 (Fr G) := by
  refine ct [(0, .ref (G.2.2 + 160)), (1, .int x1), (2, .int x2)] rfl (by decide) (Nat.le_of_ble_eq_true rfl) ?_
  intro p e s m below meth c ls X hr hlk hR hl
  have X : Cx p s m _ c cX11_tell 3 RX11 G := X
  have hx := X.1
  have hb := X.2.1
  unfold f11_tell at hf
  refine lv_aload_n hx hb dX11_tell_0 rfl (lv_at hl 0 rfl) ?_
  refine r_gi X hR fi_11_275 kh_160 dX11_tell_1 ?_
  refine lv_bipush (v := (20 : Int32)) hx hb dX11_tell_4 (by decide) ?_
  refine lv_icmp_eq (tgt := 17) hx hb dX11_tell_6 (by decide) (fun c_1 => ?_) (fun c_1 => ?_)
  · replace hf := z_t c_1 hf
    refine lv_iconst (v := (-1 : Int32)) hx hb dX11_tell_17 (by decide) ?_
    exact e_i X hR hr hlk hf dX11_tell_18
  · replace hf := z_f c_1 hf
    refine lv_aload_n hx hb dX11_tell_9 rfl (lv_at hl 0 rfl) ?_
    refine lv_iload_n hx hb dX11_tell_10 rfl (lv_at hl 1 rfl) ?_
    obtain ⟨r_2, σ_3, hc_4, hf⟩ := z_b_e hf
    refine go_i hR (mv_run (As := [.int x1]) (rest := []) X hR mv_11_409 kh_160 (kd_lt kh_160 (by decide)) (c11_isWitness l G N hc_4) ⟨rfl, rfl, Nat.le_of_ble_eq_true rfl, Nat.le_of_ble_eq_true rfl⟩ rfl hl.1 rfl (Nat.le_of_ble_eq_true rfl) dX11_tell_11 ⟨Nat.zero_le _, Nat.zero_le _⟩) (fun H locs hR => ?_)
    refine lv_if_ne (tgt := 19) hx hb dX11_tell_14 (by decide) (fun c_5 => ?_) (fun c_5 => ?_)
    · replace hf := z_f c_5 hf
      refine lv_aload_n hx hb dX11_tell_19 rfl (lv_at hl 0 rfl) ?_
      refine r_gs (t := 208) X hR fr_11_161 kh_160 (sx_11_70 kh_160) dX11_tell_20 ?_
      refine lv_aload_n hx hb dX11_tell_23 rfl (lv_at hl 0 rfl) ?_
      refine r_gi X hR fi_11_275 kh_160 dX11_tell_24 ?_
      refine lv_iload_n hx hb dX11_tell_27 rfl (lv_at hl 1 rfl) ?_
      obtain ⟨hi_6, hf⟩ := z_c_e hf
      refine r_ias X hR ka_208 hi_6 dX11_tell_28 (fun H locs σ_7 eσ_7 hR => ?_)
      replace hf := z_l_e eσ_7 hf
      refine lv_aload_n hx hb dX11_tell_29 rfl (lv_at hl 0 rfl) ?_
      refine r_gs (t := 209) X hR fr_11_164 kh_160 (sx_11_71 kh_160) dX11_tell_30 ?_
      refine lv_aload_n hx hb dX11_tell_33 rfl (lv_at hl 0 rfl) ?_
      refine r_gi X hR fi_11_275 kh_160 dX11_tell_34 ?_
      refine lv_iload_n hx hb dX11_tell_37 rfl (lv_at hl 2 rfl) ?_
      refine lv_if_eq (tgt := 45) hx hb dX11_tell_38 (by decide) (fun c_8 => ?_) (fun c_8 => ?_)
      · replace hf := z_t c_8 hf
        refine lv_iconst (v := (0 : Int32)) hx hb dX11_tell_45 (by decide) ?_
        exact w11_tell_46 X hr hlk N  (gI σ_7 160 69) (0 : Int32) σ_7 _ _ _ hf hR (lv_sub hl [0] rfl)
      · replace hf := z_f c_8 hf
        refine lv_iconst (v := (1 : Int32)) hx hb dX11_tell_41 (by decide) ?_
        refine lv_goto (tgt := 46) hx hb dX11_tell_42 (by decide) ?_
        exact w11_tell_46 X hr hlk N  (gI σ_7 160 69) (1 : Int32) σ_7 _ _ _ hf hR (lv_sub hl [0] rfl)
    · replace hf := z_t c_5 hf
      refine lv_iconst (v := (-1 : Int32)) hx hb dX11_tell_17 (by decide) ?_
      exact e_i X hR hr hlk hf dX11_tell_18
abbrev rm11_forget : Room := { frames := 0, cells := 0, slots := 0, locals := 0 }
def f11_forget (N : Nat) (σ : Mm) : Option (Int32 × Mm) :=
  z_l ((gI σ 160 69)) fun x1_1 =>
  z_l (sI σ 160 69 (0 : Int32)) fun σ_2 =>
  some (x1_1, σ_2)
set_option maxHeartbeats 4000000 in
set_option maxRecDepth 100000 in
theorem c11_forget (l : Launch) (G : Gp) (N : Nat) {σ σ0 : Mm} {r0 : Int32} (hf : f11_forget N σ = some (r0, σ0)) : Met l yX11_forget (WS yX11_forget cX11_forget 2 (some .int)) rm11_forget (va_Pc [.ref (G.2.2 + 160)] (Pd G 212 tt σ)) (P_i G 212 tt r0 σ0) 0 0 (Fr G) := by
  refine ct [(0, .ref (G.2.2 + 160))] rfl (by decide) (Nat.le_of_ble_eq_true rfl) ?_
  intro p e s m below meth c ls X hr hlk hR hl
  have X : Cx p s m _ c cX11_forget 2 RX11 G := X
  have hx := X.1
  have hb := X.2.1
  unfold f11_forget at hf
  refine lv_aload_n hx hb dX11_forget_0 rfl (lv_at hl 0 rfl) ?_
  refine r_gi X hR fi_11_275 kh_160 dX11_forget_1 ?_
  refine lv_topi (fun x1_1 ex1_1 => ?_)
  replace hf := z_l_e ex1_1 hf
  refine lv_istore_n (lv' := [(1, .int x1_1), (0, .ref (G.2.2 + 160))]) hx hb dX11_forget_4 rfl hl (by decide) rfl (fun ls hl => ?_)
  refine lv_aload_n hx hb dX11_forget_5 rfl (lv_at hl 1 rfl) ?_
  refine lv_iconst (v := (0 : Int32)) hx hb dX11_forget_6 (by decide) ?_
  refine r_pi X hR pi_11_275 kh_160 dX11_forget_7 (fun H locs σ_2 eσ_2 hR => ?_)
  replace hf := z_l_e eσ_2 hf
  refine lv_iload_n hx hb dX11_forget_10 rfl (lv_at hl 0 rfl) ?_
  exact e_i X hR hr hlk hf dX11_forget_11
abbrev rm11_whichBits : Room := { frames := 4, cells := 0, slots := 0, locals := 98 }
def f11_whichBits_80 (N : Nat) (k8 : Int32 → Int32 → Mm → Option (Int32 × Mm)) (x1 : Int32) (x2 : Int32) (x3 : Int32) (σ : Mm) : Option (Int32 × Mm) :=
  z_l (x3 + (1 : Int32)) fun x3_11 =>
  k8 x2 x3_11 σ
def f11_whichBits_69 (N : Nat) (k8 : Int32 → Int32 → Mm → Option (Int32 × Mm)) (x1 : Int32) (x2 : Int32) (x3 : Int32) (x5 : Int32) (σ : Mm) : Option (Int32 × Mm) :=
  if x5 = 0 then (
  f11_whichBits_80 N k8 x1 x2 x3 σ) else (
  z_l ((x2 ||| ((1 : Int32) <<< (x3 &&& 31)))) fun x2_12 =>
  f11_whichBits_80 N k8 x1 x2_12 x3 σ)
def f11_whichBits_63 (N : Nat) (k8 : Int32 → Int32 → Mm → Option (Int32 × Mm)) (k32 : Int32 → Int32 → Mm → Option (Int32 × Mm)) (x1 : Int32) (x2 : Int32) (x3 : Int32) (x4 : Int32) (x5 : Int32) (x6 : Int32) (σ : Mm) : Option (Int32 × Mm) :=
  z_l (x6 + (1 : Int32)) fun x6_16 =>
  k32 x5 x6_16 σ
def f11_whichBits_32 (N : Nat) (k8 : Int32 → Int32 → Mm → Option (Int32 × Mm)) (x1 : Int32) (x2 : Int32) (x3 : Int32) (x4 : Int32) : Nat → Int32 → Int32 → Mm → Option (Int32 × Mm)
  | 0, _, _, _ => none
  | fu + 1, x5, x6, σ => if x1 ≤ x6 then (
  f11_whichBits_69 N k8 x1 x2 x3 x5 σ) else (
  z_c (inB x6 20) (
  z_c (inB x6 20) (
  if ((x4 >>> ((gI σ 208 (ix x6)) &&& 31)) &&& (1 : Int32)) = (gI σ 209 (ix x6)) then (
  f11_whichBits_63 N k8 (fun x5 x6 σ => f11_whichBits_32 N k8 x1 x2 x3 x4 fu x5 x6 σ) x1 x2 x3 x4 x5 x6 σ) else (
  f11_whichBits_63 N k8 (fun x5 x6 σ => f11_whichBits_32 N k8 x1 x2 x3 x4 fu x5 x6 σ) x1 x2 x3 x4 (0 : Int32) x6 σ))))
def f11_whichBits_8 (N : Nat) (x1 : Int32) : Nat → Int32 → Int32 → Mm → Option (Int32 × Mm)
  | 0, _, _, _ => none
  | fu + 1, x2, x3, σ => z_c (inB (15 : Int32) 117) (
  if (gI σ 199 (ix (15 : Int32))) ≤ x3 then (
  some (x2, σ)) else (
  z_b (f11_swearBits N x3 σ) fun r_6 σ_7 =>
  f11_whichBits_32 N (fun x2 x3 σ => f11_whichBits_8 N x1 fu x2 x3 σ) x1 x2 x3 r_6 N (1 : Int32) (0 : Int32) σ_7))
def f11_whichBits (N : Nat) (x1 : Int32) (σ : Mm) : Option (Int32 × Mm) :=
  z_b (f11_copies N σ) fun _ σ_2 =>
  f11_whichBits_8 N x1 N (0 : Int32) (0 : Int32) σ_2
set_option maxHeartbeats 4000000 in
set_option maxRecDepth 100000 in
theorem w11_whichBits_80 (X : Cx p s m args c cX11_whichBits 7 RX11 G) (hr : meth.sig.returnType = some .int) (hlk : meth.locks = false) (N : Nat) {x1 : Int32} {k8 : Int32 → Int32 → Mm → Option (Int32 × Mm)} (hk8 : ∀ (x2 : Int32) (x3 : Int32) (σ : Mm) (H : Heap) (locs : List Loc) (ls : Array Slot), k8 x2 x3 σ = some (r0, σ0) → Rp G 212 tt σ s H locs → lv_has ls 7 [(0, .ref (G.2.2 + 160)), (1, .int x1), (2, .int x2), (3, .int x3)] → W p l e rm11_whichBits s m args below meth c H locs 0 0 (MQ below (P_i G 212 tt r0 σ0) args s 0 0 (Fr G)) (F0 m 8 ls [])) :
    ∀ (x2 : Int32) (x3 : Int32) (σ : Mm) (H : Heap) (locs : List Loc) (ls : Array Slot), f11_whichBits_80 N k8 x1 x2 x3 σ = some (r0, σ0) → Rp G 212 tt σ s H locs → lv_has ls 7 [(0, .ref (G.2.2 + 160)), (1, .int x1), (2, .int x2), (3, .int x3)] → W p l e rm11_whichBits s m args below meth c H locs 0 0 (MQ below (P_i G 212 tt r0 σ0) args s 0 0 (Fr G)) (F0 m 80 ls []) := by
  have hx := X.1
  have hb := X.2.1
  intro x2 x3 σ H locs ls hf hR hl
  unfold f11_whichBits_80 at hf
  obtain ⟨x3_11, ex3_11⟩ : ∃ z : Int32, z = x3 + (1 : Int32) := ⟨_, rfl⟩
  replace hf := z_l_e ex3_11 hf
  refine lv_iinc (v := x3_11) (lv' := [(3, .int x3_11), (0, .ref (G.2.2 + 160)), (1, .int x1), (2, .int x2)]) hx hb dX11_whichBits_80 hl (k := 3) rfl (by rw [ex3_11]; rfl) (by decide) rfl (fun ls hl => ?_)
  refine lv_goto (tgt := 8) hx hb dX11_whichBits_83 (by decide) ?_
  exact hk8 x2 x3_11 σ _ _ _ hf hR (lv_sub hl [1, 2, 3, 0] rfl)
set_option maxHeartbeats 4000000 in
set_option maxRecDepth 100000 in
theorem w11_whichBits_69 (X : Cx p s m args c cX11_whichBits 7 RX11 G) (hr : meth.sig.returnType = some .int) (hlk : meth.locks = false) (N : Nat) {x1 : Int32} {k8 : Int32 → Int32 → Mm → Option (Int32 × Mm)} (hk8 : ∀ (x2 : Int32) (x3 : Int32) (σ : Mm) (H : Heap) (locs : List Loc) (ls : Array Slot), k8 x2 x3 σ = some (r0, σ0) → Rp G 212 tt σ s H locs → lv_has ls 7 [(0, .ref (G.2.2 + 160)), (1, .int x1), (2, .int x2), (3, .int x3)] → W p l e rm11_whichBits s m args below meth c H locs 0 0 (MQ below (P_i G 212 tt r0 σ0) args s 0 0 (Fr G)) (F0 m 8 ls [])) :
    ∀ (x2 : Int32) (x3 : Int32) (x5 : Int32) (σ : Mm) (H : Heap) (locs : List Loc) (ls : Array Slot), f11_whichBits_69 N k8 x1 x2 x3 x5 σ = some (r0, σ0) → Rp G 212 tt σ s H locs → lv_has ls 7 [(0, .ref (G.2.2 + 160)), (1, .int x1), (2, .int x2), (3, .int x3), (5, .int x5)] → W p l e rm11_whichBits s m args below meth c H locs 0 0 (MQ below (P_i G 212 tt r0 σ0) args s 0 0 (Fr G)) (F0 m 69 ls []) := by
  have hx := X.1
  have hb := X.2.1
  intro x2 x3 x5 σ H locs ls hf hR hl
  unfold f11_whichBits_69 at hf
  refine lv_iload hx hb dX11_whichBits_69 (lv_at hl 4 rfl) ?_
  refine lv_if_eq (tgt := 80) hx hb dX11_whichBits_71 (by decide) (fun c_10 => ?_) (fun c_10 => ?_)
  · replace hf := z_t c_10 hf
    exact w11_whichBits_80 X hr hlk N hk8 x2 x3 σ _ _ _ hf hR (lv_sub hl [0, 1, 2, 3] rfl)
  · replace hf := z_f c_10 hf
    refine lv_iload_n hx hb dX11_whichBits_74 rfl (lv_at hl 2 rfl) ?_
    refine lv_iconst (v := (1 : Int32)) hx hb dX11_whichBits_75 (by decide) ?_
    refine lv_iload_n hx hb dX11_whichBits_76 rfl (lv_at hl 3 rfl) ?_
    refine lv_ishl hx hb dX11_whichBits_77 ?_
    refine lv_ior hx hb dX11_whichBits_78 ?_
    refine lv_topi (fun x2_12 ex2_12 => ?_)
    replace hf := z_l_e ex2_12 hf
    refine lv_istore_n (lv' := [(2, .int x2_12), (0, .ref (G.2.2 + 160)), (1, .int x1), (3, .int x3), (5, .int x5)]) hx hb dX11_whichBits_79 rfl hl (by decide) rfl (fun ls hl => ?_)
    exact w11_whichBits_80 X hr hlk N hk8 x2_12 x3 σ _ _ _ hf hR (lv_sub hl [1, 2, 0, 3] rfl)
set_option maxHeartbeats 4000000 in
set_option maxRecDepth 100000 in
theorem w11_whichBits_63 (X : Cx p s m args c cX11_whichBits 7 RX11 G) (hr : meth.sig.returnType = some .int) (hlk : meth.locks = false) (N : Nat) {x1 : Int32} {x2 : Int32} {x3 : Int32} {x4 : Int32} {k8 : Int32 → Int32 → Mm → Option (Int32 × Mm)} (hk8 : ∀ (x2 : Int32) (x3 : Int32) (σ : Mm) (H : Heap) (locs : List Loc) (ls : Array Slot), k8 x2 x3 σ = some (r0, σ0) → Rp G 212 tt σ s H locs → lv_has ls 7 [(0, .ref (G.2.2 + 160)), (1, .int x1), (2, .int x2), (3, .int x3)] → W p l e rm11_whichBits s m args below meth c H locs 0 0 (MQ below (P_i G 212 tt r0 σ0) args s 0 0 (Fr G)) (F0 m 8 ls [])) {k32 : Int32 → Int32 → Mm → Option (Int32 × Mm)} (hk32 : ∀ (x5 : Int32) (x6 : Int32) (σ : Mm) (H : Heap) (locs : List Loc) (ls : Array Slot), k32 x5 x6 σ = some (r0, σ0) → Rp G 212 tt σ s H locs → lv_has ls 7 [(0, .ref (G.2.2 + 160)), (1, .int x1), (2, .int x2), (3, .int x3), (4, .int x4), (5, .int x5), (6, .int x6)] → W p l e rm11_whichBits s m args below meth c H locs 0 0 (MQ below (P_i G 212 tt r0 σ0) args s 0 0 (Fr G)) (F0 m 32 ls [])) :
    ∀ (x5 : Int32) (x6 : Int32) (σ : Mm) (H : Heap) (locs : List Loc) (ls : Array Slot), f11_whichBits_63 N k8 k32 x1 x2 x3 x4 x5 x6 σ = some (r0, σ0) → Rp G 212 tt σ s H locs → lv_has ls 7 [(0, .ref (G.2.2 + 160)), (1, .int x1), (2, .int x2), (3, .int x3), (4, .int x4), (5, .int x5), (6, .int x6)] → W p l e rm11_whichBits s m args below meth c H locs 0 0 (MQ below (P_i G 212 tt r0 σ0) args s 0 0 (Fr G)) (F0 m 63 ls []) := by
  have hx := X.1
  have hb := X.2.1
  intro x5 x6 σ H locs ls hf hR hl
  unfold f11_whichBits_63 at hf
  obtain ⟨x6_16, ex6_16⟩ : ∃ z : Int32, z = x6 + (1 : Int32) := ⟨_, rfl⟩
  replace hf := z_l_e ex6_16 hf
  refine lv_iinc (v := x6_16) (lv' := [(6, .int x6_16), (0, .ref (G.2.2 + 160)), (1, .int x1), (2, .int x2), (3, .int x3), (4, .int x4), (5, .int x5)]) hx hb dX11_whichBits_63 hl (k := 6) rfl (by rw [ex6_16]; rfl) (by decide) rfl (fun ls hl => ?_)
  refine lv_goto (tgt := 32) hx hb dX11_whichBits_66 (by decide) ?_
  exact hk32 x5 x6_16 σ _ _ _ hf hR (lv_sub hl [1, 2, 3, 4, 5, 6, 0] rfl)
set_option maxHeartbeats 4000000 in
set_option maxRecDepth 100000 in
theorem w11_whichBits_32 (X : Cx p s m args c cX11_whichBits 7 RX11 G) (hr : meth.sig.returnType = some .int) (hlk : meth.locks = false) (N : Nat) {x1 : Int32} {x2 : Int32} {x3 : Int32} {x4 : Int32} {k8 : Int32 → Int32 → Mm → Option (Int32 × Mm)} (hk8 : ∀ (x2 : Int32) (x3 : Int32) (σ : Mm) (H : Heap) (locs : List Loc) (ls : Array Slot), k8 x2 x3 σ = some (r0, σ0) → Rp G 212 tt σ s H locs → lv_has ls 7 [(0, .ref (G.2.2 + 160)), (1, .int x1), (2, .int x2), (3, .int x3)] → W p l e rm11_whichBits s m args below meth c H locs 0 0 (MQ below (P_i G 212 tt r0 σ0) args s 0 0 (Fr G)) (F0 m 8 ls [])) :
    ∀ (fu : Nat) (x5 : Int32) (x6 : Int32) (σ : Mm) (H : Heap) (locs : List Loc) (ls : Array Slot), f11_whichBits_32 N k8 x1 x2 x3 x4 fu x5 x6 σ = some (r0, σ0) → Rp G 212 tt σ s H locs → lv_has ls 7 [(0, .ref (G.2.2 + 160)), (1, .int x1), (2, .int x2), (3, .int x3), (4, .int x4), (5, .int x5), (6, .int x6)] → W p l e rm11_whichBits s m args below meth c H locs 0 0 (MQ below (P_i G 212 tt r0 σ0) args s 0 0 (Fr G)) (F0 m 32 ls []) := by
  have hx := X.1
  have hb := X.2.1
  intro fu
  induction fu with
  | zero =>
    intro x5 x6 σ H locs ls hf hR hl
    rw [f11_whichBits_32] at hf
    cases hf
  | succ fu ih =>
    intro x5 x6 σ H locs ls hf hR hl
    rw [f11_whichBits_32] at hf
    refine lv_iload hx hb dX11_whichBits_32 (lv_at hl 6 rfl) ?_
    refine lv_iload_n hx hb dX11_whichBits_34 rfl (lv_at hl 1 rfl) ?_
    refine lv_icmp_ge (tgt := 69) hx hb dX11_whichBits_35 (by decide) (fun c_9 => ?_) (fun c_9 => ?_)
    · replace hf := z_t c_9 hf
      exact w11_whichBits_69 X hr hlk N hk8 x2 x3 x5 σ _ _ _ hf hR (lv_sub hl [0, 1, 2, 3, 5] rfl)
    · replace hf := z_f c_9 hf
      refine lv_iload hx hb dX11_whichBits_38 (lv_at hl 4 rfl) ?_
      refine lv_aload_n hx hb dX11_whichBits_40 rfl (lv_at hl 0 rfl) ?_
      refine r_gs (t := 208) X hR fr_11_161 kh_160 (sx_11_70 kh_160) dX11_whichBits_41 ?_
      refine lv_iload hx hb dX11_whichBits_44 (lv_at hl 6 rfl) ?_
      obtain ⟨hi_13, hf⟩ := z_c_e hf
      refine r_ial X hR ka_208 hi_13 dX11_whichBits_46 ?_
      refine lv_ishr hx hb dX11_whichBits_47 ?_
      refine lv_iconst (v := (1 : Int32)) hx hb dX11_whichBits_48 (by decide) ?_
      refine lv_iand hx hb dX11_whichBits_49 ?_
      refine lv_aload_n hx hb dX11_whichBits_50 rfl (lv_at hl 0 rfl) ?_
      refine r_gs (t := 209) X hR fr_11_164 kh_160 (sx_11_71 kh_160) dX11_whichBits_51 ?_
      refine lv_iload hx hb dX11_whichBits_54 (lv_at hl 6 rfl) ?_
      obtain ⟨hi_14, hf⟩ := z_c_e hf
      refine r_ial X hR ka_209 hi_14 dX11_whichBits_56 ?_
      refine lv_icmp_eq (tgt := 63) hx hb dX11_whichBits_57 (by decide) (fun c_15 => ?_) (fun c_15 => ?_)
      · replace hf := z_t c_15 hf
        exact w11_whichBits_63 X hr hlk N hk8 ih x5 x6 σ _ _ _ hf hR (lv_sub hl [0, 1, 2, 3, 4, 5, 6] rfl)
      · replace hf := z_f c_15 hf
        refine lv_iconst (v := (0 : Int32)) hx hb dX11_whichBits_60 (by decide) ?_
        refine lv_istore (lv' := [(5, .int (0 : Int32)), (0, .ref (G.2.2 + 160)), (1, .int x1), (2, .int x2), (3, .int x3), (4, .int x4), (6, .int x6)]) hx hb dX11_whichBits_61 hl (by decide) rfl (fun ls hl => ?_)
        exact w11_whichBits_63 X hr hlk N hk8 ih (0 : Int32) x6 σ _ _ _ hf hR (lv_sub hl [1, 2, 3, 4, 5, 0, 6] rfl)
set_option maxHeartbeats 4000000 in
set_option maxRecDepth 100000 in
theorem w11_whichBits_8 (X : Cx p s m args c cX11_whichBits 7 RX11 G) (hr : meth.sig.returnType = some .int) (hlk : meth.locks = false) (N : Nat) {x1 : Int32} :
    ∀ (fu : Nat) (x2 : Int32) (x3 : Int32) (σ : Mm) (H : Heap) (locs : List Loc) (ls : Array Slot), f11_whichBits_8 N x1 fu x2 x3 σ = some (r0, σ0) → Rp G 212 tt σ s H locs → lv_has ls 7 [(0, .ref (G.2.2 + 160)), (1, .int x1), (2, .int x2), (3, .int x3)] → W p l e rm11_whichBits s m args below meth c H locs 0 0 (MQ below (P_i G 212 tt r0 σ0) args s 0 0 (Fr G)) (F0 m 8 ls []) := by
  have hx := X.1
  have hb := X.2.1
  intro fu
  induction fu with
  | zero =>
    intro x2 x3 σ H locs ls hf hR hl
    rw [f11_whichBits_8] at hf
    cases hf
  | succ fu ih =>
    intro x2 x3 σ H locs ls hf hR hl
    rw [f11_whichBits_8] at hf
    refine lv_iload_n hx hb dX11_whichBits_8 rfl (lv_at hl 3 rfl) ?_
    refine lv_aload_n hx hb dX11_whichBits_9 rfl (lv_at hl 0 rfl) ?_
    refine r_gs (t := 199) X hR fr_11_134 kh_160 (sx_11_56 kh_160) dX11_whichBits_10 ?_
    refine lv_bipush (v := (15 : Int32)) hx hb dX11_whichBits_13 (by decide) ?_
    obtain ⟨hi_4, hf⟩ := z_c_e hf
    refine r_ial X hR ka_199 hi_4 dX11_whichBits_15 ?_
    refine lv_icmp_ge (tgt := 86) hx hb dX11_whichBits_16 (by decide) (fun c_5 => ?_) (fun c_5 => ?_)
    · replace hf := z_t c_5 hf
      refine lv_iload_n hx hb dX11_whichBits_86 rfl (lv_at hl 2 rfl) ?_
      exact e_i X hR hr hlk hf dX11_whichBits_87
    · replace hf := z_f c_5 hf
      refine lv_aload_n hx hb dX11_whichBits_19 rfl (lv_at hl 0 rfl) ?_
      refine lv_iload_n hx hb dX11_whichBits_20 rfl (lv_at hl 3 rfl) ?_
      obtain ⟨r_6, σ_7, hc_8, hf⟩ := z_b_e hf
      refine go_i hR (mv_run (As := [.int x3]) (rest := []) X hR mv_11_382 kh_160 (kd_lt kh_160 (by decide)) (c11_swearBits l G N hc_8) ⟨rfl, rfl, Nat.le_of_ble_eq_true rfl, Nat.le_of_ble_eq_true rfl⟩ rfl hl.1 rfl (Nat.le_of_ble_eq_true rfl) dX11_whichBits_21 ⟨Nat.zero_le _, Nat.zero_le _⟩) (fun H locs hR => ?_)
      refine lv_istore (lv' := [(4, .int r_6), (0, .ref (G.2.2 + 160)), (1, .int x1), (2, .int x2), (3, .int x3)]) hx hb dX11_whichBits_24 hl (by decide) rfl (fun ls hl => ?_)
      refine lv_iconst (v := (1 : Int32)) hx hb dX11_whichBits_26 (by decide) ?_
      refine lv_istore (lv' := [(5, .int (1 : Int32)), (4, .int r_6), (0, .ref (G.2.2 + 160)), (1, .int x1), (2, .int x2), (3, .int x3)]) hx hb dX11_whichBits_27 hl (by decide) rfl (fun ls hl => ?_)
      refine lv_iconst (v := (0 : Int32)) hx hb dX11_whichBits_29 (by decide) ?_
      refine lv_istore (lv' := [(6, .int (0 : Int32)), (5, .int (1 : Int32)), (4, .int r_6), (0, .ref (G.2.2 + 160)), (1, .int x1), (2, .int x2), (3, .int x3)]) hx hb dX11_whichBits_30 hl (by decide) rfl (fun ls hl => ?_)
      exact w11_whichBits_32 X hr hlk N ih N (1 : Int32) (0 : Int32) σ_7 _ _ _ hf hR (lv_sub hl [3, 4, 5, 6, 2, 1, 0] rfl)
set_option maxHeartbeats 4000000 in
set_option maxRecDepth 100000 in
theorem c11_whichBits (l : Launch) (G : Gp) (N : Nat) {x1 : Int32} {σ σ0 : Mm} {r0 : Int32} (hf : f11_whichBits N x1 σ = some (r0, σ0)) : Met l yX11_whichBits (WS yX11_whichBits cX11_whichBits 7 (some .int)) rm11_whichBits (va_Pc [.ref (G.2.2 + 160), .int x1] (Pd G 212 tt σ)) (P_i G 212 tt r0 σ0) 0 0 (Fr G) := by
  refine ct [(0, .ref (G.2.2 + 160)), (1, .int x1)] rfl (by decide) (Nat.le_of_ble_eq_true rfl) ?_
  intro p e s m below meth c ls X hr hlk hR hl
  have X : Cx p s m _ c cX11_whichBits 7 RX11 G := X
  have hx := X.1
  have hb := X.2.1
  unfold f11_whichBits at hf
  refine lv_aload_n hx hb dX11_whichBits_0 rfl (lv_at hl 0 rfl) ?_
  obtain ⟨r_1, σ_2, hc_3, hf⟩ := z_b_e hf
  refine go_v hR (mv_run (As := []) (rest := []) X hR mv_11_400 kh_160 (kd_lt kh_160 (by decide)) (c11_copies l G N hc_3) ⟨rfl, rfl, Nat.le_of_ble_eq_true rfl, Nat.le_of_ble_eq_true rfl⟩ rfl hl.1 rfl (Nat.le_of_ble_eq_true rfl) dX11_whichBits_1 ⟨Nat.zero_le _, Nat.zero_le _⟩) (fun H locs hR => ?_)
  refine lv_iconst (v := (0 : Int32)) hx hb dX11_whichBits_4 (by decide) ?_
  refine lv_istore_n (lv' := [(2, .int (0 : Int32)), (0, .ref (G.2.2 + 160)), (1, .int x1)]) hx hb dX11_whichBits_5 rfl hl (by decide) rfl (fun ls hl => ?_)
  refine lv_iconst (v := (0 : Int32)) hx hb dX11_whichBits_6 (by decide) ?_
  refine lv_istore_n (lv' := [(3, .int (0 : Int32)), (2, .int (0 : Int32)), (0, .ref (G.2.2 + 160)), (1, .int x1)]) hx hb dX11_whichBits_7 rfl hl (by decide) rfl (fun ls hl => ?_)
  exact w11_whichBits_8 X hr hlk N  N (0 : Int32) (0 : Int32) σ_2 _ _ _ hf hR (lv_sub hl [2, 3, 1, 0] rfl)
end GEN
