section GEN
variable {p : Program} {l : Launch} {e : Env} {s : State} {m : MethodId} {args : Array Value} {below : List Frame} {meth : Method} {c : Code} {G : Gp} {r0 : Int32} {l0 : Int64} {u0 : Unit} {σ0 : Mm}

abbrev rm4_answer : Room := { frames := 0, cells := 0, slots := 0, locals := 0 }
def f4_answer_304 (N : Nat) (k13 : Int32 → Int32 → Int32 → Mm → Option (Int32 × Mm)) (o : Nat) (o2 : Nat) (x3 : Int32) (x4 : Int32) (x5 : Int32) (σ : Mm) : Option (Int32 × Mm) :=
  z_l (x5 + (1 : Int32)) fun x5_18 =>
  k13 x3 x4 x5_18 σ
def f4_answer_105 (N : Nat) (k13 : Int32 → Int32 → Int32 → Mm → Option (Int32 × Mm)) (o : Nat) (o2 : Nat) (x3 : Int32) (x4 : Int32) (x5 : Int32) (s1 : Int32) (s2 : Int32) (σ : Mm) : Option (Int32 × Mm) :=
  z_c (inB s1 28) (z_l (sI σ (o + 4) (ix s1) s2) fun σ_16 =>
  z_l (x4 + (1 : Int32)) fun x4_17 =>
  f4_answer_304 N k13 o o2 x3 x4_17 x5 σ_16)
def f4_answer_85 (N : Nat) (k13 : Int32 → Int32 → Int32 → Mm → Option (Int32 × Mm)) (o : Nat) (o2 : Nat) (x3 : Int32) (x4 : Int32) (x5 : Int32) (x6 : Int32) (x7 : Int32) (σ : Mm) : Option (Int32 × Mm) :=
  if x6 = 0 then (
  f4_answer_105 N k13 o o2 x3 x4 x5 x4 x7 σ) else (
  z_c (inB x7 9) (
  f4_answer_105 N k13 o o2 x3 x4 x5 x4 (gI σ o2 (ix x7)) σ))
def f4_answer_60 (N : Nat) (k13 : Int32 → Int32 → Int32 → Mm → Option (Int32 × Mm)) (o : Nat) (o2 : Nat) (x3 : Int32) (x4 : Int32) (x5 : Int32) (x6 : Int32) (x7 : Int32) (σ : Mm) : Option (Int32 × Mm) :=
  if (28 : Int32) ≤ x4 then (
  some ((0 : Int32), σ)) else (
  if x6 = (1 : Int32) then (
  if x7 < (9 : Int32) then (
  f4_answer_85 N k13 o o2 x3 x4 x5 x6 x7 σ) else (
  some ((0 : Int32), σ))) else (
  f4_answer_85 N k13 o o2 x3 x4 x5 x6 x7 σ))
def f4_answer_228 (N : Nat) (k13 : Int32 → Int32 → Int32 → Mm → Option (Int32 × Mm)) (o : Nat) (o2 : Nat) (x4 : Int32) (x5 : Int32) (s0 : Int32) (σ : Mm) : Option (Int32 × Mm) :=
  f4_answer_304 N k13 o o2 s0 x4 x5 σ
def f4_answer_283 (N : Nat) (k13 : Int32 → Int32 → Int32 → Mm → Option (Int32 × Mm)) (o : Nat) (o2 : Nat) (x3 : Int32) (x4 : Int32) (x5 : Int32) (x8 : Int32) (x9 : Int32) (σ : Mm) : Option (Int32 × Mm) :=
  if x8 = 0 then (
  some ((0 : Int32), σ)) else (
  z_c (!(x8 == 0)) (
  z_c (inB (x4 - (1 : Int32)) 28) (z_l (sI σ (o + 4) (ix (x4 - (1 : Int32))) (x9 / x8)) fun σ_33 =>
  f4_answer_304 N k13 o o2 x3 x4 x5 σ_33)))
def f4_answer_118 (N : Nat) (o : Nat) (o2 : Nat) (x4 : Int32) (σ : Mm) : Option (Int32 × Mm) :=
  if x4 ≤ 0 then (
  some ((0 : Int32), σ)) else (
  z_c (inB (x4 - (1 : Int32)) 28) (
  some ((gI σ (o + 4) (ix (x4 - (1 : Int32)))), σ)))
def f4_answer_13 (N : Nat) (o : Nat) (o2 : Nat) : Nat → Int32 → Int32 → Int32 → Mm → Option (Int32 × Mm)
  | 0, _, _, _, _ => none
  | fu + 1, x3, x4, x5, σ => if (gI σ o 2) ≤ x5 then (
  some ((0 : Int32), σ)) else (
  if (gI σ o 2) ≤ x3 then (
  some ((0 : Int32), σ)) else (
  z_c (inB x3 416) (
  z_l ((gI σ (o + 1) (ix x3))) fun x6_6 =>
  z_c (inB x3 416) (
  z_l ((gI σ (o + 2) (ix x3))) fun x7_8 =>
  z_l (x3 + (1 : Int32)) fun x3_9 =>
  if x6_6 = 0 then (
  f4_answer_60 N (fun x3 x4 x5 σ => f4_answer_13 N o o2 fu x3 x4 x5 σ) o o2 x3_9 x4 x5 x6_6 x7_8 σ) else (
  if x6_6 = (1 : Int32) then (
  f4_answer_60 N (fun x3 x4 x5 σ => f4_answer_13 N o o2 fu x3 x4 x5 σ) o o2 x3_9 x4 x5 x6_6 x7_8 σ) else (
  if x6_6 = (3 : Int32) then (
  f4_answer_118 N o o2 x4 σ) else (
  if (2 : Int32) ≤ x4 then (
  z_l (x4 + (-1 : Int32)) fun x4_23 =>
  z_c (inB x4_23 28) (
  z_l ((gI σ (o + 4) (ix x4_23))) fun x8_25 =>
  z_c (inB (x4_23 - (1 : Int32)) 28) (
  z_l ((gI σ (o + 4) (ix (x4_23 - (1 : Int32))))) fun x9_27 =>
  if x6_6 = (2 : Int32) then (
  z_l (x4_23 + (-1 : Int32)) fun x4_28 =>
  if x8_25 ≤ x9_27 then (
  f4_answer_228 N (fun x3 x4 x5 σ => f4_answer_13 N o o2 fu x3 x4 x5 σ) o o2 x4_28 x5 x7_8 σ) else (
  f4_answer_228 N (fun x3 x4 x5 σ => f4_answer_13 N o o2 fu x3 x4 x5 σ) o o2 x4_28 x5 x3_9 σ)) else (
  if x6_6 = (3 : Int32) then (
  f4_answer_283 N (fun x3 x4 x5 σ => f4_answer_13 N o o2 fu x3 x4 x5 σ) o o2 x3_9 x4_23 x5 x8_25 x9_27 σ) else (
  if x6_6 = (4 : Int32) then (
  f4_answer_283 N (fun x3 x4 x5 σ => f4_answer_13 N o o2 fu x3 x4 x5 σ) o o2 x3_9 x4_23 x5 x8_25 x9_27 σ) else (
  if x6_6 = (5 : Int32) then (
  f4_answer_283 N (fun x3 x4 x5 σ => f4_answer_13 N o o2 fu x3 x4 x5 σ) o o2 x3_9 x4_23 x5 x8_25 x9_27 σ) else (
  if x6_6 = (6 : Int32) then (
  z_c (inB (x4_23 - (1 : Int32)) 28) (z_l (sI σ (o + 4) (ix (x4_23 - (1 : Int32))) (x9_27 + x8_25)) fun σ_39 =>
  f4_answer_304 N (fun x3 x4 x5 σ => f4_answer_13 N o o2 fu x3 x4 x5 σ) o o2 x3_9 x4_23 x5 σ_39)) else (
  if x6_6 = (7 : Int32) then (
  z_c (inB (x4_23 - (1 : Int32)) 28) (z_l (sI σ (o + 4) (ix (x4_23 - (1 : Int32))) (x9_27 - x8_25)) fun σ_42 =>
  f4_answer_304 N (fun x3 x4 x5 σ => f4_answer_13 N o o2 fu x3 x4 x5 σ) o o2 x3_9 x4_23 x5 σ_42)) else (
  if x6_6 = (8 : Int32) then (
  z_c (inB (x4_23 - (1 : Int32)) 28) (z_l (sI σ (o + 4) (ix (x4_23 - (1 : Int32))) (x9_27 * x8_25)) fun σ_45 =>
  f4_answer_304 N (fun x3 x4 x5 σ => f4_answer_13 N o o2 fu x3 x4 x5 σ) o o2 x3_9 x4_23 x5 σ_45)) else (
  f4_answer_283 N (fun x3 x4 x5 σ => f4_answer_13 N o o2 fu x3 x4 x5 σ) o o2 x3_9 x4_23 x5 x8_25 x9_27 σ)))))))))) else (
  some ((0 : Int32), σ)))))))))
def f4_answer (N : Nat) (o : Nat) (o2 : Nat) (x1 : Int32) (σ : Mm) : Option (Int32 × Mm) :=
  z_c (inB x1 4) (
  z_l ((gI σ (o + 3) (ix x1))) fun x3_2 =>
  f4_answer_13 N o o2 N x3_2 (0 : Int32) (0 : Int32) σ)
set_option maxHeartbeats 4000000 in
set_option maxRecDepth 100000 in
theorem w4_answer_304 (X : Cx p s m args c cX4_answer 10 RX4 G) (hr : meth.sig.returnType = some .int) (hlk : meth.locks = false) (N : Nat) {o : Nat} {o2 : Nat} (ho : (kd o).1 = 4) (ho2 : kd o2 = (13, 9)) {k13 : Int32 → Int32 → Int32 → Mm → Option (Int32 × Mm)} (hk13 : ∀ (x3 : Int32) (x4 : Int32) (x5 : Int32) (σ : Mm) (H : Heap) (locs : List Loc) (ls : Array Slot), k13 x3 x4 x5 σ = some (r0, σ0) → Rp G 212 tt σ s H locs → lv_has ls 10 [(0, .ref (G.2.2 + o)), (2, .ref (G.2.2 + o2)), (3, .int x3), (4, .int x4), (5, .int x5)] → W p l e rm4_answer s m args below meth c H locs 0 0 (MQ below (P_i G 212 tt r0 σ0) args s 0 0 (Fr G)) (F0 m 13 ls [])) :
    ∀ (x3 : Int32) (x4 : Int32) (x5 : Int32) (σ : Mm) (H : Heap) (locs : List Loc) (ls : Array Slot), f4_answer_304 N k13 o o2 x3 x4 x5 σ = some (r0, σ0) → Rp G 212 tt σ s H locs → lv_has ls 10 [(0, .ref (G.2.2 + o)), (2, .ref (G.2.2 + o2)), (3, .int x3), (4, .int x4), (5, .int x5)] → W p l e rm4_answer s m args below meth c H locs 0 0 (MQ below (P_i G 212 tt r0 σ0) args s 0 0 (Fr G)) (F0 m 304 ls []) := by
  have hx := X.1
  have hb := X.2.1
  intro x3 x4 x5 σ H locs ls hf hR hl
  unfold f4_answer_304 at hf
  obtain ⟨x5_18, ex5_18⟩ : ∃ z : Int32, z = x5 + (1 : Int32) := ⟨_, rfl⟩
  replace hf := z_l_e ex5_18 hf
  refine lv_iinc (v := x5_18) (lv' := [(5, .int x5_18), (0, .ref (G.2.2 + o)), (2, .ref (G.2.2 + o2)), (3, .int x3), (4, .int x4)]) hx hb dX4_answer_304 hl (k := 4) rfl (by rw [ex5_18]; rfl) (by decide) rfl (fun ls hl => ?_)
  refine lv_goto (tgt := 13) hx hb dX4_answer_307 (by decide) ?_
  exact hk13 x3 x4 x5_18 σ _ _ _ hf hR (lv_sub hl [1, 2, 3, 4, 0] rfl)
set_option maxHeartbeats 4000000 in
set_option maxRecDepth 100000 in
theorem w4_answer_105 (X : Cx p s m args c cX4_answer 10 RX4 G) (hr : meth.sig.returnType = some .int) (hlk : meth.locks = false) (N : Nat) {o : Nat} {o2 : Nat} (ho : (kd o).1 = 4) (ho2 : kd o2 = (13, 9)) {k13 : Int32 → Int32 → Int32 → Mm → Option (Int32 × Mm)} (hk13 : ∀ (x3 : Int32) (x4 : Int32) (x5 : Int32) (σ : Mm) (H : Heap) (locs : List Loc) (ls : Array Slot), k13 x3 x4 x5 σ = some (r0, σ0) → Rp G 212 tt σ s H locs → lv_has ls 10 [(0, .ref (G.2.2 + o)), (2, .ref (G.2.2 + o2)), (3, .int x3), (4, .int x4), (5, .int x5)] → W p l e rm4_answer s m args below meth c H locs 0 0 (MQ below (P_i G 212 tt r0 σ0) args s 0 0 (Fr G)) (F0 m 13 ls [])) :
    ∀ (x3 : Int32) (x4 : Int32) (x5 : Int32) (s1 : Int32) (s2 : Int32) (σ : Mm) (H : Heap) (locs : List Loc) (ls : Array Slot), f4_answer_105 N k13 o o2 x3 x4 x5 s1 s2 σ = some (r0, σ0) → Rp G 212 tt σ s H locs → lv_has ls 10 [(0, .ref (G.2.2 + o)), (2, .ref (G.2.2 + o2)), (3, .int x3), (4, .int x4), (5, .int x5)] → W p l e rm4_answer s m args below meth c H locs 0 0 (MQ below (P_i G 212 tt r0 σ0) args s 0 0 (Fr G)) (F0 m 105 ls [.int s2, .int s1, .ref (G.2.2 + (o + 4))]) := by
  have hx := X.1
  have hb := X.2.1
  intro x3 x4 x5 s1 s2 σ H locs ls hf hR hl
  unfold f4_answer_105 at hf
  obtain ⟨hi_15, hf⟩ := z_c_e hf
  refine r_ias X hR (kx_4_4 ho) hi_15 dX4_answer_105 (fun H locs σ_16 eσ_16 hR => ?_)
  replace hf := z_l_e eσ_16 hf
  obtain ⟨x4_17, ex4_17⟩ : ∃ z : Int32, z = x4 + (1 : Int32) := ⟨_, rfl⟩
  replace hf := z_l_e ex4_17 hf
  refine lv_iinc (v := x4_17) (lv' := [(4, .int x4_17), (0, .ref (G.2.2 + o)), (2, .ref (G.2.2 + o2)), (3, .int x3), (5, .int x5)]) hx hb dX4_answer_106 hl (k := 3) rfl (by rw [ex4_17]; rfl) (by decide) rfl (fun ls hl => ?_)
  refine lv_goto (tgt := 304) hx hb dX4_answer_109 (by decide) ?_
  exact w4_answer_304 X hr hlk N ho ho2 hk13 x3 x4_17 x5 σ_16 _ _ _ hf hR (lv_sub hl [1, 2, 3, 0, 4] rfl)
set_option maxHeartbeats 4000000 in
set_option maxRecDepth 100000 in
theorem w4_answer_85 (X : Cx p s m args c cX4_answer 10 RX4 G) (hr : meth.sig.returnType = some .int) (hlk : meth.locks = false) (N : Nat) {o : Nat} {o2 : Nat} (ho : (kd o).1 = 4) (ho2 : kd o2 = (13, 9)) {k13 : Int32 → Int32 → Int32 → Mm → Option (Int32 × Mm)} (hk13 : ∀ (x3 : Int32) (x4 : Int32) (x5 : Int32) (σ : Mm) (H : Heap) (locs : List Loc) (ls : Array Slot), k13 x3 x4 x5 σ = some (r0, σ0) → Rp G 212 tt σ s H locs → lv_has ls 10 [(0, .ref (G.2.2 + o)), (2, .ref (G.2.2 + o2)), (3, .int x3), (4, .int x4), (5, .int x5)] → W p l e rm4_answer s m args below meth c H locs 0 0 (MQ below (P_i G 212 tt r0 σ0) args s 0 0 (Fr G)) (F0 m 13 ls [])) :
    ∀ (x3 : Int32) (x4 : Int32) (x5 : Int32) (x6 : Int32) (x7 : Int32) (σ : Mm) (H : Heap) (locs : List Loc) (ls : Array Slot), f4_answer_85 N k13 o o2 x3 x4 x5 x6 x7 σ = some (r0, σ0) → Rp G 212 tt σ s H locs → lv_has ls 10 [(0, .ref (G.2.2 + o)), (2, .ref (G.2.2 + o2)), (3, .int x3), (4, .int x4), (5, .int x5), (6, .int x6), (7, .int x7)] → W p l e rm4_answer s m args below meth c H locs 0 0 (MQ below (P_i G 212 tt r0 σ0) args s 0 0 (Fr G)) (F0 m 85 ls []) := by
  have hx := X.1
  have hb := X.2.1
  intro x3 x4 x5 x6 x7 σ H locs ls hf hR hl
  unfold f4_answer_85 at hf
  refine lv_aload_n hx hb dX4_answer_85 rfl (lv_at hl 0 rfl) ?_
  refine r_gs (t := (o + 4)) X hR fr_4_25 ho (sx_4_4 ho) dX4_answer_86 ?_
  refine lv_iload hx hb dX4_answer_89 (lv_at hl 3 rfl) ?_
  refine lv_iload hx hb dX4_answer_91 (lv_at hl 5 rfl) ?_
  refine lv_if_ne (tgt := 101) hx hb dX4_answer_93 (by decide) (fun c_13 => ?_) (fun c_13 => ?_)
  · replace hf := z_f c_13 hf
    refine lv_aload_n hx hb dX4_answer_101 rfl (lv_at hl 1 rfl) ?_
    refine lv_iload hx hb dX4_answer_102 (lv_at hl 6 rfl) ?_
    obtain ⟨hi_14, hf⟩ := z_c_e hf
    refine r_ial X hR ho2 hi_14 dX4_answer_104 ?_
    exact w4_answer_105 X hr hlk N ho ho2 hk13 x3 x4 x5 x4 (gI σ o2 (ix x7)) σ _ _ _ hf hR (lv_sub hl [0, 1, 2, 3, 4] rfl)
  · replace hf := z_t c_13 hf
    refine lv_iload hx hb dX4_answer_96 (lv_at hl 6 rfl) ?_
    refine lv_goto (tgt := 105) hx hb dX4_answer_98 (by decide) ?_
    exact w4_answer_105 X hr hlk N ho ho2 hk13 x3 x4 x5 x4 x7 σ _ _ _ hf hR (lv_sub hl [0, 1, 2, 3, 4] rfl)
set_option maxHeartbeats 4000000 in
set_option maxRecDepth 100000 in
theorem w4_answer_60 (X : Cx p s m args c cX4_answer 10 RX4 G) (hr : meth.sig.returnType = some .int) (hlk : meth.locks = false) (N : Nat) {o : Nat} {o2 : Nat} (ho : (kd o).1 = 4) (ho2 : kd o2 = (13, 9)) {k13 : Int32 → Int32 → Int32 → Mm → Option (Int32 × Mm)} (hk13 : ∀ (x3 : Int32) (x4 : Int32) (x5 : Int32) (σ : Mm) (H : Heap) (locs : List Loc) (ls : Array Slot), k13 x3 x4 x5 σ = some (r0, σ0) → Rp G 212 tt σ s H locs → lv_has ls 10 [(0, .ref (G.2.2 + o)), (2, .ref (G.2.2 + o2)), (3, .int x3), (4, .int x4), (5, .int x5)] → W p l e rm4_answer s m args below meth c H locs 0 0 (MQ below (P_i G 212 tt r0 σ0) args s 0 0 (Fr G)) (F0 m 13 ls [])) :
    ∀ (x3 : Int32) (x4 : Int32) (x5 : Int32) (x6 : Int32) (x7 : Int32) (σ : Mm) (H : Heap) (locs : List Loc) (ls : Array Slot), f4_answer_60 N k13 o o2 x3 x4 x5 x6 x7 σ = some (r0, σ0) → Rp G 212 tt σ s H locs → lv_has ls 10 [(0, .ref (G.2.2 + o)), (2, .ref (G.2.2 + o2)), (3, .int x3), (4, .int x4), (5, .int x5), (6, .int x6), (7, .int x7)] → W p l e rm4_answer s m args below meth c H locs 0 0 (MQ below (P_i G 212 tt r0 σ0) args s 0 0 (Fr G)) (F0 m 60 ls []) := by
  have hx := X.1
  have hb := X.2.1
  intro x3 x4 x5 x6 x7 σ H locs ls hf hR hl
  unfold f4_answer_60 at hf
  refine lv_iload hx hb dX4_answer_60 (lv_at hl 3 rfl) ?_
  refine lv_aload_n hx hb dX4_answer_62 rfl (lv_at hl 0 rfl) ?_
  refine r_gs (t := (o + 4)) X hR fr_4_25 ho (sx_4_4 ho) dX4_answer_63 ?_
  refine r_len (v := (28 : Int32)) X hR (kx_4_4 ho) (by decide) rfl dX4_answer_66 ?_
  refine lv_icmp_ge (tgt := 83) hx hb dX4_answer_67 (by decide) (fun c_11 => ?_) (fun c_11 => ?_)
  · replace hf := z_t c_11 hf
    refine lv_iconst (v := (0 : Int32)) hx hb dX4_answer_83 (by decide) ?_
    exact e_i X hR hr hlk hf dX4_answer_84
  · replace hf := z_f c_11 hf
    refine lv_iload hx hb dX4_answer_70 (lv_at hl 5 rfl) ?_
    refine lv_iconst (v := (1 : Int32)) hx hb dX4_answer_72 (by decide) ?_
    refine lv_icmp_ne (tgt := 85) hx hb dX4_answer_73 (by decide) (fun c_12 => ?_) (fun c_12 => ?_)
    · replace hf := z_f c_12 hf
      exact w4_answer_85 X hr hlk N ho ho2 hk13 x3 x4 x5 x6 x7 σ _ _ _ hf hR (lv_sub hl [0, 1, 2, 3, 4, 5, 6] rfl)
    · replace hf := z_t c_12 hf
      refine lv_iload hx hb dX4_answer_76 (lv_at hl 6 rfl) ?_
      refine lv_aload_n hx hb dX4_answer_78 rfl (lv_at hl 1 rfl) ?_
      refine r_len (v := (9 : Int32)) X hR ho2 (by decide) rfl dX4_answer_79 ?_
      refine lv_icmp_lt (tgt := 85) hx hb dX4_answer_80 (by decide) (fun c_19 => ?_) (fun c_19 => ?_)
      · replace hf := z_t c_19 hf
        exact w4_answer_85 X hr hlk N ho ho2 hk13 x3 x4 x5 x6 x7 σ _ _ _ hf hR (lv_sub hl [0, 1, 2, 3, 4, 5, 6] rfl)
      · replace hf := z_f c_19 hf
        refine lv_iconst (v := (0 : Int32)) hx hb dX4_answer_83 (by decide) ?_
        exact e_i X hR hr hlk hf dX4_answer_84
set_option maxHeartbeats 4000000 in
set_option maxRecDepth 100000 in
theorem w4_answer_228 (X : Cx p s m args c cX4_answer 10 RX4 G) (hr : meth.sig.returnType = some .int) (hlk : meth.locks = false) (N : Nat) {o : Nat} {o2 : Nat} (ho : (kd o).1 = 4) (ho2 : kd o2 = (13, 9)) {k13 : Int32 → Int32 → Int32 → Mm → Option (Int32 × Mm)} (hk13 : ∀ (x3 : Int32) (x4 : Int32) (x5 : Int32) (σ : Mm) (H : Heap) (locs : List Loc) (ls : Array Slot), k13 x3 x4 x5 σ = some (r0, σ0) → Rp G 212 tt σ s H locs → lv_has ls 10 [(0, .ref (G.2.2 + o)), (2, .ref (G.2.2 + o2)), (3, .int x3), (4, .int x4), (5, .int x5)] → W p l e rm4_answer s m args below meth c H locs 0 0 (MQ below (P_i G 212 tt r0 σ0) args s 0 0 (Fr G)) (F0 m 13 ls [])) :
    ∀ (x4 : Int32) (x5 : Int32) (s0 : Int32) (σ : Mm) (H : Heap) (locs : List Loc) (ls : Array Slot), f4_answer_228 N k13 o o2 x4 x5 s0 σ = some (r0, σ0) → Rp G 212 tt σ s H locs → lv_has ls 10 [(0, .ref (G.2.2 + o)), (2, .ref (G.2.2 + o2)), (4, .int x4), (5, .int x5)] → W p l e rm4_answer s m args below meth c H locs 0 0 (MQ below (P_i G 212 tt r0 σ0) args s 0 0 (Fr G)) (F0 m 228 ls [.int s0]) := by
  have hx := X.1
  have hb := X.2.1
  intro x4 x5 s0 σ H locs ls hf hR hl
  unfold f4_answer_228 at hf
  refine lv_istore_n (lv' := [(3, .int s0), (0, .ref (G.2.2 + o)), (2, .ref (G.2.2 + o2)), (4, .int x4), (5, .int x5)]) hx hb dX4_answer_228 rfl hl (by decide) rfl (fun ls hl => ?_)
  refine lv_goto (tgt := 304) hx hb dX4_answer_229 (by decide) ?_
  exact w4_answer_304 X hr hlk N ho ho2 hk13 s0 x4 x5 σ _ _ _ hf hR (lv_sub hl [1, 2, 0, 3, 4] rfl)
set_option maxHeartbeats 4000000 in
set_option maxRecDepth 100000 in
theorem w4_answer_283 (X : Cx p s m args c cX4_answer 10 RX4 G) (hr : meth.sig.returnType = some .int) (hlk : meth.locks = false) (N : Nat) {o : Nat} {o2 : Nat} (ho : (kd o).1 = 4) (ho2 : kd o2 = (13, 9)) {k13 : Int32 → Int32 → Int32 → Mm → Option (Int32 × Mm)} (hk13 : ∀ (x3 : Int32) (x4 : Int32) (x5 : Int32) (σ : Mm) (H : Heap) (locs : List Loc) (ls : Array Slot), k13 x3 x4 x5 σ = some (r0, σ0) → Rp G 212 tt σ s H locs → lv_has ls 10 [(0, .ref (G.2.2 + o)), (2, .ref (G.2.2 + o2)), (3, .int x3), (4, .int x4), (5, .int x5)] → W p l e rm4_answer s m args below meth c H locs 0 0 (MQ below (P_i G 212 tt r0 σ0) args s 0 0 (Fr G)) (F0 m 13 ls [])) :
    ∀ (x3 : Int32) (x4 : Int32) (x5 : Int32) (x8 : Int32) (x9 : Int32) (σ : Mm) (H : Heap) (locs : List Loc) (ls : Array Slot), f4_answer_283 N k13 o o2 x3 x4 x5 x8 x9 σ = some (r0, σ0) → Rp G 212 tt σ s H locs → lv_has ls 10 [(0, .ref (G.2.2 + o)), (2, .ref (G.2.2 + o2)), (3, .int x3), (4, .int x4), (5, .int x5), (8, .int x8), (9, .int x9)] → W p l e rm4_answer s m args below meth c H locs 0 0 (MQ below (P_i G 212 tt r0 σ0) args s 0 0 (Fr G)) (F0 m 283 ls []) := by
  have hx := X.1
  have hb := X.2.1
  intro x3 x4 x5 x8 x9 σ H locs ls hf hR hl
  unfold f4_answer_283 at hf
  refine lv_iload hx hb dX4_answer_283 (lv_at hl 5 rfl) ?_
  refine lv_if_ne (tgt := 290) hx hb dX4_answer_285 (by decide) (fun c_31 => ?_) (fun c_31 => ?_)
  · replace hf := z_f c_31 hf
    refine lv_aload_n hx hb dX4_answer_290 rfl (lv_at hl 0 rfl) ?_
    refine r_gs (t := (o + 4)) X hR fr_4_25 ho (sx_4_4 ho) dX4_answer_291 ?_
    refine lv_iload hx hb dX4_answer_294 (lv_at hl 3 rfl) ?_
    refine lv_iconst (v := (1 : Int32)) hx hb dX4_answer_296 (by decide) ?_
    refine lv_isub hx hb dX4_answer_297 ?_
    refine lv_iload hx hb dX4_answer_298 (lv_at hl 6 rfl) ?_
    refine lv_iload hx hb dX4_answer_300 (lv_at hl 5 rfl) ?_
    obtain ⟨hn_34, hf⟩ := z_c_e hf
    refine lv_idiv hx hb dX4_answer_302 (z_ne0 hn_34) ?_
    obtain ⟨hi_32, hf⟩ := z_c_e hf
    refine r_ias X hR (kx_4_4 ho) hi_32 dX4_answer_303 (fun H locs σ_33 eσ_33 hR => ?_)
    replace hf := z_l_e eσ_33 hf
    exact w4_answer_304 X hr hlk N ho ho2 hk13 x3 x4 x5 σ_33 _ _ _ hf hR (lv_sub hl [0, 1, 2, 3, 4] rfl)
  · replace hf := z_t c_31 hf
    refine lv_iconst (v := (0 : Int32)) hx hb dX4_answer_288 (by decide) ?_
    exact e_i X hR hr hlk hf dX4_answer_289
set_option maxHeartbeats 4000000 in
set_option maxRecDepth 100000 in
theorem w4_answer_118 (X : Cx p s m args c cX4_answer 10 RX4 G) (hr : meth.sig.returnType = some .int) (hlk : meth.locks = false) (N : Nat) {o : Nat} {o2 : Nat} (ho : (kd o).1 = 4) (ho2 : kd o2 = (13, 9)) :
    ∀ (x4 : Int32) (σ : Mm) (H : Heap) (locs : List Loc) (ls : Array Slot), f4_answer_118 N o o2 x4 σ = some (r0, σ0) → Rp G 212 tt σ s H locs → lv_has ls 10 [(0, .ref (G.2.2 + o)), (4, .int x4)] → W p l e rm4_answer s m args below meth c H locs 0 0 (MQ below (P_i G 212 tt r0 σ0) args s 0 0 (Fr G)) (F0 m 118 ls []) := by
  have hx := X.1
  have hb := X.2.1
  intro x4 σ H locs ls hf hR hl
  unfold f4_answer_118 at hf
  refine lv_iload hx hb dX4_answer_118 (lv_at hl 1 rfl) ?_
  refine lv_if_le (tgt := 135) hx hb dX4_answer_120 (by decide) (fun c_47 => ?_) (fun c_47 => ?_)
  · replace hf := z_t c_47 hf
    refine lv_iconst (v := (0 : Int32)) hx hb dX4_answer_135 (by decide) ?_
    exact e_i X hR hr hlk hf dX4_answer_136
  · replace hf := z_f c_47 hf
    refine lv_aload_n hx hb dX4_answer_123 rfl (lv_at hl 0 rfl) ?_
    refine r_gs (t := (o + 4)) X hR fr_4_25 ho (sx_4_4 ho) dX4_answer_124 ?_
    refine lv_iload hx hb dX4_answer_127 (lv_at hl 1 rfl) ?_
    refine lv_iconst (v := (1 : Int32)) hx hb dX4_answer_129 (by decide) ?_
    refine lv_isub hx hb dX4_answer_130 ?_
    obtain ⟨hi_48, hf⟩ := z_c_e hf
    refine r_ial X hR (kx_4_4 ho) hi_48 dX4_answer_131 ?_
    refine lv_goto (tgt := 136) hx hb dX4_answer_132 (by decide) ?_
    exact e_i X hR hr hlk hf dX4_answer_136
set_option maxHeartbeats 4000000 in
set_option maxRecDepth 100000 in
theorem w4_answer_13 (X : Cx p s m args c cX4_answer 10 RX4 G) (hr : meth.sig.returnType = some .int) (hlk : meth.locks = false) (N : Nat) {o : Nat} {o2 : Nat} (ho : (kd o).1 = 4) (ho2 : kd o2 = (13, 9)) :
    ∀ (fu : Nat) (x3 : Int32) (x4 : Int32) (x5 : Int32) (σ : Mm) (H : Heap) (locs : List Loc) (ls : Array Slot), f4_answer_13 N o o2 fu x3 x4 x5 σ = some (r0, σ0) → Rp G 212 tt σ s H locs → lv_has ls 10 [(0, .ref (G.2.2 + o)), (2, .ref (G.2.2 + o2)), (3, .int x3), (4, .int x4), (5, .int x5)] → W p l e rm4_answer s m args below meth c H locs 0 0 (MQ below (P_i G 212 tt r0 σ0) args s 0 0 (Fr G)) (F0 m 13 ls []) := by
  have hx := X.1
  have hb := X.2.1
  intro fu
  induction fu with
  | zero =>
    intro x3 x4 x5 σ H locs ls hf hR hl
    rw [f4_answer_13] at hf
    cases hf
  | succ fu ih =>
    intro x3 x4 x5 σ H locs ls hf hR hl
    rw [f4_answer_13] at hf
    refine lv_iload hx hb dX4_answer_13 (lv_at hl 4 rfl) ?_
    refine lv_aload_n hx hb dX4_answer_15 rfl (lv_at hl 0 rfl) ?_
    refine r_gi X hR fi_4_18 ho dX4_answer_16 ?_
    refine lv_icmp_ge (tgt := 310) hx hb dX4_answer_19 (by decide) (fun c_3 => ?_) (fun c_3 => ?_)
    · replace hf := z_t c_3 hf
      refine lv_iconst (v := (0 : Int32)) hx hb dX4_answer_310 (by decide) ?_
      exact e_i X hR hr hlk hf dX4_answer_311
    · replace hf := z_f c_3 hf
      refine lv_iload_n hx hb dX4_answer_22 rfl (lv_at hl 2 rfl) ?_
      refine lv_aload_n hx hb dX4_answer_23 rfl (lv_at hl 0 rfl) ?_
      refine r_gi X hR fi_4_18 ho dX4_answer_24 ?_
      refine lv_icmp_ge (tgt := 310) hx hb dX4_answer_27 (by decide) (fun c_4 => ?_) (fun c_4 => ?_)
      · replace hf := z_t c_4 hf
        refine lv_iconst (v := (0 : Int32)) hx hb dX4_answer_310 (by decide) ?_
        exact e_i X hR hr hlk hf dX4_answer_311
      · replace hf := z_f c_4 hf
        refine lv_aload_n hx hb dX4_answer_30 rfl (lv_at hl 0 rfl) ?_
        refine r_gs (t := (o + 1)) X hR fr_4_9 ho (sx_4_0 ho) dX4_answer_31 ?_
        refine lv_iload_n hx hb dX4_answer_34 rfl (lv_at hl 2 rfl) ?_
        obtain ⟨hi_5, hf⟩ := z_c_e hf
        refine r_ial X hR (kx_4_0 ho) hi_5 dX4_answer_35 ?_
        refine lv_topi (fun x6_6 ex6_6 => ?_)
        replace hf := z_l_e ex6_6 hf
        refine lv_istore (lv' := [(6, .int x6_6), (0, .ref (G.2.2 + o)), (2, .ref (G.2.2 + o2)), (3, .int x3), (4, .int x4), (5, .int x5)]) hx hb dX4_answer_36 hl (by decide) rfl (fun ls hl => ?_)
        refine lv_aload_n hx hb dX4_answer_38 rfl (lv_at hl 1 rfl) ?_
        refine r_gs (t := (o + 2)) X hR fr_4_15 ho (sx_4_1 ho) dX4_answer_39 ?_
        refine lv_iload_n hx hb dX4_answer_42 rfl (lv_at hl 3 rfl) ?_
        obtain ⟨hi_7, hf⟩ := z_c_e hf
        refine r_ial X hR (kx_4_1 ho) hi_7 dX4_answer_43 ?_
        refine lv_topi (fun x7_8 ex7_8 => ?_)
        replace hf := z_l_e ex7_8 hf
        refine lv_istore (lv' := [(7, .int x7_8), (6, .int x6_6), (0, .ref (G.2.2 + o)), (2, .ref (G.2.2 + o2)), (3, .int x3), (4, .int x4), (5, .int x5)]) hx hb dX4_answer_44 hl (by decide) rfl (fun ls hl => ?_)
        obtain ⟨x3_9, ex3_9⟩ : ∃ z : Int32, z = x3 + (1 : Int32) := ⟨_, rfl⟩
        replace hf := z_l_e ex3_9 hf
        refine lv_iinc (v := x3_9) (lv' := [(3, .int x3_9), (7, .int x7_8), (6, .int x6_6), (0, .ref (G.2.2 + o)), (2, .ref (G.2.2 + o2)), (4, .int x4), (5, .int x5)]) hx hb dX4_answer_46 hl (k := 4) rfl (by rw [ex3_9]; rfl) (by decide) rfl (fun ls hl => ?_)
        refine lv_iload hx hb dX4_answer_49 (lv_at hl 2 rfl) ?_
        refine lv_if_eq (tgt := 60) hx hb dX4_answer_51 (by decide) (fun c_10 => ?_) (fun c_10 => ?_)
        · replace hf := z_t c_10 hf
          exact w4_answer_60 X hr hlk N ho ho2 ih x3_9 x4 x5 x6_6 x7_8 σ _ _ _ hf hR (lv_sub hl [3, 4, 0, 5, 6, 2, 1] rfl)
        · replace hf := z_f c_10 hf
          refine lv_iload hx hb dX4_answer_54 (lv_at hl 2 rfl) ?_
          refine lv_iconst (v := (1 : Int32)) hx hb dX4_answer_56 (by decide) ?_
          refine lv_icmp_ne (tgt := 112) hx hb dX4_answer_57 (by decide) (fun c_20 => ?_) (fun c_20 => ?_)
          · replace hf := z_f c_20 hf
            refine lv_iload hx hb dX4_answer_112 (lv_at hl 2 rfl) ?_
            refine lv_iconst (v := (3 : Int32)) hx hb dX4_answer_114 (by decide) ?_
            refine lv_icmp_ne (tgt := 137) hx hb dX4_answer_115 (by decide) (fun c_21 => ?_) (fun c_21 => ?_)
            · replace hf := z_f c_21 hf
              refine lv_iload hx hb dX4_answer_137 (lv_at hl 5 rfl) ?_
              refine lv_iconst (v := (2 : Int32)) hx hb dX4_answer_139 (by decide) ?_
              refine lv_icmp_ge (tgt := 145) hx hb dX4_answer_140 (by decide) (fun c_22 => ?_) (fun c_22 => ?_)
              · replace hf := z_t c_22 hf
                obtain ⟨x4_23, ex4_23⟩ : ∃ z : Int32, z = x4 + (-1 : Int32) := ⟨_, rfl⟩
                replace hf := z_l_e ex4_23 hf
                refine lv_iinc (v := x4_23) (lv' := [(4, .int x4_23), (3, .int x3_9), (7, .int x7_8), (6, .int x6_6), (0, .ref (G.2.2 + o)), (2, .ref (G.2.2 + o2)), (5, .int x5)]) hx hb dX4_answer_145 hl (k := 5) rfl (by rw [ex4_23]; rfl) (by decide) rfl (fun ls hl => ?_)
                refine lv_aload_n hx hb dX4_answer_148 rfl (lv_at hl 4 rfl) ?_
                refine r_gs (t := (o + 4)) X hR fr_4_25 ho (sx_4_4 ho) dX4_answer_149 ?_
                refine lv_iload hx hb dX4_answer_152 (lv_at hl 0 rfl) ?_
                obtain ⟨hi_24, hf⟩ := z_c_e hf
                refine r_ial X hR (kx_4_4 ho) hi_24 dX4_answer_154 ?_
                refine lv_topi (fun x8_25 ex8_25 => ?_)
                replace hf := z_l_e ex8_25 hf
                refine lv_istore (lv' := [(8, .int x8_25), (4, .int x4_23), (3, .int x3_9), (7, .int x7_8), (6, .int x6_6), (0, .ref (G.2.2 + o)), (2, .ref (G.2.2 + o2)), (5, .int x5)]) hx hb dX4_answer_155 hl (by decide) rfl (fun ls hl => ?_)
                refine lv_aload_n hx hb dX4_answer_157 rfl (lv_at hl 5 rfl) ?_
                refine r_gs (t := (o + 4)) X hR fr_4_25 ho (sx_4_4 ho) dX4_answer_158 ?_
                refine lv_iload hx hb dX4_answer_161 (lv_at hl 1 rfl) ?_
                refine lv_iconst (v := (1 : Int32)) hx hb dX4_answer_163 (by decide) ?_
                refine lv_isub hx hb dX4_answer_164 ?_
                obtain ⟨hi_26, hf⟩ := z_c_e hf
                refine r_ial X hR (kx_4_4 ho) hi_26 dX4_answer_165 ?_
                refine lv_topi (fun x9_27 ex9_27 => ?_)
                replace hf := z_l_e ex9_27 hf
                refine lv_istore (lv' := [(9, .int x9_27), (8, .int x8_25), (4, .int x4_23), (3, .int x3_9), (7, .int x7_8), (6, .int x6_6), (0, .ref (G.2.2 + o)), (2, .ref (G.2.2 + o2)), (5, .int x5)]) hx hb dX4_answer_166 hl (by decide) rfl (fun ls hl => ?_)
                refine lv_iload hx hb dX4_answer_168 (lv_at hl 5 rfl) ?_
                by_cases c_30 : x6_6 = (2 : Int32)
                · replace hf := z_t c_30 hf
                  refine lv_tableIn (off := 42) (tgt := 212) hx hb dX4_answer_170 (by rw [c_30]; decide) (by rw [c_30]; decide) (by rw [c_30]; rfl) (by decide) ?_
                  obtain ⟨x4_28, ex4_28⟩ : ∃ z : Int32, z = x4_23 + (-1 : Int32) := ⟨_, rfl⟩
                  replace hf := z_l_e ex4_28 hf
                  refine lv_iinc (v := x4_28) (lv' := [(4, .int x4_28), (9, .int x9_27), (8, .int x8_25), (3, .int x3_9), (7, .int x7_8), (6, .int x6_6), (0, .ref (G.2.2 + o)), (2, .ref (G.2.2 + o2)), (5, .int x5)]) hx hb dX4_answer_212 hl (k := 2) rfl (by rw [ex4_28]; rfl) (by decide) rfl (fun ls hl => ?_)
                  refine lv_iload hx hb dX4_answer_215 (lv_at hl 1 rfl) ?_
                  refine lv_iload hx hb dX4_answer_217 (lv_at hl 2 rfl) ?_
                  refine lv_icmp_ge (tgt := 226) hx hb dX4_answer_219 (by decide) (fun c_29 => ?_) (fun c_29 => ?_)
                  · replace hf := z_t c_29 hf
                    refine lv_iload hx hb dX4_answer_226 (lv_at hl 4 rfl) ?_
                    exact w4_answer_228 X hr hlk N ho ho2 ih x4_28 x5 x7_8 σ _ _ _ hf hR (lv_sub hl [6, 7, 0, 8] rfl)
                  · replace hf := z_f c_29 hf
                    refine lv_iload_n hx hb dX4_answer_222 rfl (lv_at hl 3 rfl) ?_
                    refine lv_goto (tgt := 228) hx hb dX4_answer_223 (by decide) ?_
                    exact w4_answer_228 X hr hlk N ho ho2 ih x4_28 x5 x3_9 σ _ _ _ hf hR (lv_sub hl [6, 7, 0, 8] rfl)
                replace hf := z_f c_30 hf
                by_cases c_35 : x6_6 = (3 : Int32)
                · replace hf := z_t c_35 hf
                  refine lv_tableIn (off := 113) (tgt := 283) hx hb dX4_answer_170 (by rw [c_35]; decide) (by rw [c_35]; decide) (by rw [c_35]; rfl) (by decide) ?_
                  exact w4_answer_283 X hr hlk N ho ho2 ih x3_9 x4_23 x5 x8_25 x9_27 σ _ _ _ hf hR (lv_sub hl [6, 7, 3, 2, 8, 1, 0] rfl)
                replace hf := z_f c_35 hf
                by_cases c_36 : x6_6 = (4 : Int32)
                · replace hf := z_t c_36 hf
                  refine lv_tableIn (off := 113) (tgt := 283) hx hb dX4_answer_170 (by rw [c_36]; decide) (by rw [c_36]; decide) (by rw [c_36]; rfl) (by decide) ?_
                  exact w4_answer_283 X hr hlk N ho ho2 ih x3_9 x4_23 x5 x8_25 x9_27 σ _ _ _ hf hR (lv_sub hl [6, 7, 3, 2, 8, 1, 0] rfl)
                replace hf := z_f c_36 hf
                by_cases c_37 : x6_6 = (5 : Int32)
                · replace hf := z_t c_37 hf
                  refine lv_tableIn (off := 113) (tgt := 283) hx hb dX4_answer_170 (by rw [c_37]; decide) (by rw [c_37]; decide) (by rw [c_37]; rfl) (by decide) ?_
                  exact w4_answer_283 X hr hlk N ho ho2 ih x3_9 x4_23 x5 x8_25 x9_27 σ _ _ _ hf hR (lv_sub hl [6, 7, 3, 2, 8, 1, 0] rfl)
                replace hf := z_f c_37 hf
                by_cases c_40 : x6_6 = (6 : Int32)
                · replace hf := z_t c_40 hf
                  refine lv_tableIn (off := 62) (tgt := 232) hx hb dX4_answer_170 (by rw [c_40]; decide) (by rw [c_40]; decide) (by rw [c_40]; rfl) (by decide) ?_
                  refine lv_aload_n hx hb dX4_answer_232 rfl (lv_at hl 6 rfl) ?_
                  refine r_gs (t := (o + 4)) X hR fr_4_25 ho (sx_4_4 ho) dX4_answer_233 ?_
                  refine lv_iload hx hb dX4_answer_236 (lv_at hl 2 rfl) ?_
                  refine lv_iconst (v := (1 : Int32)) hx hb dX4_answer_238 (by decide) ?_
                  refine lv_isub hx hb dX4_answer_239 ?_
                  refine lv_iload hx hb dX4_answer_240 (lv_at hl 0 rfl) ?_
                  refine lv_iload hx hb dX4_answer_242 (lv_at hl 1 rfl) ?_
                  refine lv_iadd hx hb dX4_answer_244 ?_
                  obtain ⟨hi_38, hf⟩ := z_c_e hf
                  refine r_ias X hR (kx_4_4 ho) hi_38 dX4_answer_245 (fun H locs σ_39 eσ_39 hR => ?_)
                  replace hf := z_l_e eσ_39 hf
                  refine lv_goto (tgt := 304) hx hb dX4_answer_246 (by decide) ?_
                  exact w4_answer_304 X hr hlk N ho ho2 ih x3_9 x4_23 x5 σ_39 _ _ _ hf hR (lv_sub hl [6, 7, 3, 2, 8] rfl)
                replace hf := z_f c_40 hf
                by_cases c_43 : x6_6 = (7 : Int32)
                · replace hf := z_t c_43 hf
                  refine lv_tableIn (off := 79) (tgt := 249) hx hb dX4_answer_170 (by rw [c_43]; decide) (by rw [c_43]; decide) (by rw [c_43]; rfl) (by decide) ?_
                  refine lv_aload_n hx hb dX4_answer_249 rfl (lv_at hl 6 rfl) ?_
                  refine r_gs (t := (o + 4)) X hR fr_4_25 ho (sx_4_4 ho) dX4_answer_250 ?_
                  refine lv_iload hx hb dX4_answer_253 (lv_at hl 2 rfl) ?_
                  refine lv_iconst (v := (1 : Int32)) hx hb dX4_answer_255 (by decide) ?_
                  refine lv_isub hx hb dX4_answer_256 ?_
                  refine lv_iload hx hb dX4_answer_257 (lv_at hl 0 rfl) ?_
                  refine lv_iload hx hb dX4_answer_259 (lv_at hl 1 rfl) ?_
                  refine lv_isub hx hb dX4_answer_261 ?_
                  obtain ⟨hi_41, hf⟩ := z_c_e hf
                  refine r_ias X hR (kx_4_4 ho) hi_41 dX4_answer_262 (fun H locs σ_42 eσ_42 hR => ?_)
                  replace hf := z_l_e eσ_42 hf
                  refine lv_goto (tgt := 304) hx hb dX4_answer_263 (by decide) ?_
                  exact w4_answer_304 X hr hlk N ho ho2 ih x3_9 x4_23 x5 σ_42 _ _ _ hf hR (lv_sub hl [6, 7, 3, 2, 8] rfl)
                replace hf := z_f c_43 hf
                by_cases c_46 : x6_6 = (8 : Int32)
                · replace hf := z_t c_46 hf
                  refine lv_tableIn (off := 96) (tgt := 266) hx hb dX4_answer_170 (by rw [c_46]; decide) (by rw [c_46]; decide) (by rw [c_46]; rfl) (by decide) ?_
                  refine lv_aload_n hx hb dX4_answer_266 rfl (lv_at hl 6 rfl) ?_
                  refine r_gs (t := (o + 4)) X hR fr_4_25 ho (sx_4_4 ho) dX4_answer_267 ?_
                  refine lv_iload hx hb dX4_answer_270 (lv_at hl 2 rfl) ?_
                  refine lv_iconst (v := (1 : Int32)) hx hb dX4_answer_272 (by decide) ?_
                  refine lv_isub hx hb dX4_answer_273 ?_
                  refine lv_iload hx hb dX4_answer_274 (lv_at hl 0 rfl) ?_
                  refine lv_iload hx hb dX4_answer_276 (lv_at hl 1 rfl) ?_
                  refine lv_imul hx hb dX4_answer_278 ?_
                  obtain ⟨hi_44, hf⟩ := z_c_e hf
                  refine r_ias X hR (kx_4_4 ho) hi_44 dX4_answer_279 (fun H locs σ_45 eσ_45 hR => ?_)
                  replace hf := z_l_e eσ_45 hf
                  refine lv_goto (tgt := 304) hx hb dX4_answer_280 (by decide) ?_
                  exact w4_answer_304 X hr hlk N ho ho2 ih x3_9 x4_23 x5 σ_45 _ _ _ hf hR (lv_sub hl [6, 7, 3, 2, 8] rfl)
                replace hf := z_f c_46 hf
                refine lv_tableOut (tgt := 283) hx hb dX4_answer_170 (sw_out x6_6 2 7 (by decide) (by decide) (fun j hj => ?_)) (by decide) ?_
                · rcases (show j = 0 ∨ j = 1 ∨ j = 2 ∨ j = 3 ∨ j = 4 ∨ j = 5 ∨ j = 6 by omega) with rfl | rfl | rfl | rfl | rfl | rfl | rfl
                  · exact fun h => c_30 (h.trans (by decide))
                  · exact fun h => c_35 (h.trans (by decide))
                  · exact fun h => c_36 (h.trans (by decide))
                  · exact fun h => c_37 (h.trans (by decide))
                  · exact fun h => c_40 (h.trans (by decide))
                  · exact fun h => c_43 (h.trans (by decide))
                  · exact fun h => c_46 (h.trans (by decide))
                · exact w4_answer_283 X hr hlk N ho ho2 ih x3_9 x4_23 x5 x8_25 x9_27 σ _ _ _ hf hR (lv_sub hl [6, 7, 3, 2, 8, 1, 0] rfl)
              · replace hf := z_f c_22 hf
                refine lv_iconst (v := (0 : Int32)) hx hb dX4_answer_143 (by decide) ?_
                exact e_i X hR hr hlk hf dX4_answer_144
            · replace hf := z_t c_21 hf
              exact w4_answer_118 X hr hlk N ho ho2  x4 σ _ _ _ hf hR (lv_sub hl [3, 5] rfl)
          · replace hf := z_t c_20 hf
            exact w4_answer_60 X hr hlk N ho ho2 ih x3_9 x4 x5 x6_6 x7_8 σ _ _ _ hf hR (lv_sub hl [3, 4, 0, 5, 6, 2, 1] rfl)
set_option maxHeartbeats 4000000 in
set_option maxRecDepth 100000 in
theorem c4_answer (l : Launch) (G : Gp) (N : Nat) {o : Nat} {o2 : Nat} (ho : (kd o).1 = 4) (ho2 : kd o2 = (13, 9)) {x1 : Int32} {σ σ0 : Mm} {r0 : Int32} (hf : f4_answer N o o2 x1 σ = some (r0, σ0)) : Met l yX4_answer (WS yX4_answer cX4_answer 10 (some .int)) rm4_answer (va_Pc [.ref (G.2.2 + o), .int x1, .ref (G.2.2 + o2)] (Pd G 212 tt σ)) (P_i G 212 tt r0 σ0) 0 0 (Fr G) := by
  refine ct [(0, .ref (G.2.2 + o)), (1, .int x1), (2, .ref (G.2.2 + o2))] rfl (by decide) (Nat.le_of_ble_eq_true rfl) ?_
  intro p e s m below meth c ls X hr hlk hR hl
  have X : Cx p s m _ c cX4_answer 10 RX4 G := X
  have hx := X.1
  have hb := X.2.1
  unfold f4_answer at hf
  refine lv_aload_n hx hb dX4_answer_0 rfl (lv_at hl 0 rfl) ?_
  refine r_gs (t := (o + 3)) X hR fr_4_22 ho (sx_4_3 ho) dX4_answer_1 ?_
  refine lv_iload_n hx hb dX4_answer_4 rfl (lv_at hl 1 rfl) ?_
  obtain ⟨hi_1, hf⟩ := z_c_e hf
  refine r_ial X hR (kx_4_3 ho) hi_1 dX4_answer_5 ?_
  refine lv_topi (fun x3_2 ex3_2 => ?_)
  replace hf := z_l_e ex3_2 hf
  refine lv_istore_n (lv' := [(3, .int x3_2), (0, .ref (G.2.2 + o)), (1, .int x1), (2, .ref (G.2.2 + o2))]) hx hb dX4_answer_6 rfl hl (by decide) rfl (fun ls hl => ?_)
  refine lv_iconst (v := (0 : Int32)) hx hb dX4_answer_7 (by decide) ?_
  refine lv_istore (lv' := [(4, .int (0 : Int32)), (3, .int x3_2), (0, .ref (G.2.2 + o)), (1, .int x1), (2, .ref (G.2.2 + o2))]) hx hb dX4_answer_8 hl (by decide) rfl (fun ls hl => ?_)
  refine lv_iconst (v := (0 : Int32)) hx hb dX4_answer_10 (by decide) ?_
  refine lv_istore (lv' := [(5, .int (0 : Int32)), (4, .int (0 : Int32)), (3, .int x3_2), (0, .ref (G.2.2 + o)), (1, .int x1), (2, .ref (G.2.2 + o2))]) hx hb dX4_answer_11 hl (by decide) rfl (fun ls hl => ?_)
  exact w4_answer_13 X hr hlk N ho ho2  N x3_2 (0 : Int32) (0 : Int32) σ _ _ _ hf hR (lv_sub hl [3, 5, 2, 1, 0] rfl)
abbrev rm0_swearersOf : Room := { frames := 1, cells := 0, slots := 0, locals := 29 }
def f0_swearersOf_123 (N : Nat) (k6 : Int32 → Int32 → Mm → Option (Int32 × Mm)) (o1 : Nat) (x2 : Int32) (x3 : Int32) (x4 : Int32) (x5 : Int32) (x6 : Int32) (σ : Mm) : Option (Int32 × Mm) :=
  z_l (x6 + (1 : Int32)) fun x6_6 =>
  k6 x5 x6_6 σ
def f0_swearersOf_6 (N : Nat) (o1 : Nat) (x2 : Int32) (x3 : Int32) (x4 : Int32) : Nat → Int32 → Int32 → Mm → Option (Int32 × Mm)
  | 0, _, _, _ => none
  | fu + 1, x5, x6, σ => z_r (gR σ 60 1) 3 fun t_1 =>
  if (gI σ t_1 2) ≤ x6 then (
  some (x5, σ)) else (
  z_l (((1 : Int32) <<< (x6 &&& 31))) fun x7_4 =>
  if ((x2 &&& (gI σ o1 1)) &&& x7_4) = 0 then (
  f0_swearersOf_123 N (fun x5 x6 σ => f0_swearersOf_6 N o1 x2 x3 x4 fu x5 x6 σ) o1 x2 x3 x4 x5 x6 σ) else (
  z_c (inB x6 7) (
  z_c (inB (0 : Int32) 9) (z_l (sI σ 61 (ix (0 : Int32)) (gI σ (o1 + 1) (ix x6))) fun σ_9 =>
  z_r (gR σ_9 60 1) 3 fun t_10 =>
  z_c (inB x6 7) (
  z_c (inB (1 : Int32) 9) (z_l (sI σ_9 61 (ix (1 : Int32)) (gI σ_9 (t_10 + 5) (ix x6))) fun σ_14 =>
  z_c (inB (2 : Int32) 9) (z_l (sI σ_14 61 (ix (2 : Int32)) x3) fun σ_16 =>
  z_c (inB (3 : Int32) 9) (z_l (sI σ_16 61 (ix (3 : Int32)) (gI σ_16 o1 0)) fun σ_18 =>
  z_c (inB (4 : Int32) 9) (z_l (sI σ_18 61 (ix (4 : Int32)) x6) fun σ_20 =>
  z_c (inB (5 : Int32) 9) (z_l (sI σ_20 61 (ix (5 : Int32)) x4) fun σ_22 =>
  z_r (gR σ_22 60 1) 3 fun t_23 =>
  z_b (f4_answer N (t_23 + 12) 61 (0 : Int32) σ_22) fun r_25 σ_26 =>
  if r_25 ≤ 0 then (
  f0_swearersOf_123 N (fun x5 x6 σ => f0_swearersOf_6 N o1 x2 x3 x4 fu x5 x6 σ) o1 x2 x3 x4 x5 x6 σ_26) else (
  z_l ((x5 ||| x7_4)) fun x5_29 =>
  f0_swearersOf_123 N (fun x5 x6 σ => f0_swearersOf_6 N o1 x2 x3 x4 fu x5 x6 σ) o1 x2 x3 x4 x5_29 x6 σ_26)))))))))))
def f0_swearersOf (N : Nat) (o1 : Nat) (x2 : Int32) (x3 : Int32) (x4 : Int32) (σ : Mm) : Option (Int32 × Mm) :=
  f0_swearersOf_6 N o1 x2 x3 x4 N (0 : Int32) (0 : Int32) σ
set_option maxHeartbeats 4000000 in
set_option maxRecDepth 100000 in
theorem w0_swearersOf_123 (X : Cx p s m args c cX0_swearersOf 8 RX0 G) (hr : meth.sig.returnType = some .int) (hlk : meth.locks = false) (N : Nat) {o1 : Nat} (ho1 : (kd o1).1 = 5) {x2 : Int32} {x3 : Int32} {x4 : Int32} {k6 : Int32 → Int32 → Mm → Option (Int32 × Mm)} (hk6 : ∀ (x5 : Int32) (x6 : Int32) (σ : Mm) (H : Heap) (locs : List Loc) (ls : Array Slot), k6 x5 x6 σ = some (r0, σ0) → Rp G 212 tt σ s H locs → lv_has ls 8 [(0, .ref (G.2.2 + 60)), (1, .ref (G.2.2 + o1)), (2, .int x2), (3, .int x3), (4, .int x4), (5, .int x5), (6, .int x6)] → W p l e rm0_swearersOf s m args below meth c H locs 0 0 (MQ below (P_i G 212 tt r0 σ0) args s 0 0 (Fr G)) (F0 m 6 ls [])) :
    ∀ (x5 : Int32) (x6 : Int32) (σ : Mm) (H : Heap) (locs : List Loc) (ls : Array Slot), f0_swearersOf_123 N k6 o1 x2 x3 x4 x5 x6 σ = some (r0, σ0) → Rp G 212 tt σ s H locs → lv_has ls 8 [(0, .ref (G.2.2 + 60)), (1, .ref (G.2.2 + o1)), (2, .int x2), (3, .int x3), (4, .int x4), (5, .int x5), (6, .int x6)] → W p l e rm0_swearersOf s m args below meth c H locs 0 0 (MQ below (P_i G 212 tt r0 σ0) args s 0 0 (Fr G)) (F0 m 123 ls []) := by
  have hx := X.1
  have hb := X.2.1
  intro x5 x6 σ H locs ls hf hR hl
  unfold f0_swearersOf_123 at hf
  obtain ⟨x6_6, ex6_6⟩ : ∃ z : Int32, z = x6 + (1 : Int32) := ⟨_, rfl⟩
  replace hf := z_l_e ex6_6 hf
  refine lv_iinc (v := x6_6) (lv' := [(6, .int x6_6), (0, .ref (G.2.2 + 60)), (1, .ref (G.2.2 + o1)), (2, .int x2), (3, .int x3), (4, .int x4), (5, .int x5)]) hx hb dX0_swearersOf_123 hl (k := 6) rfl (by rw [ex6_6]; rfl) (by decide) rfl (fun ls hl => ?_)
  refine lv_goto (tgt := 6) hx hb dX0_swearersOf_126 (by decide) ?_
  exact hk6 x5 x6_6 σ _ _ _ hf hR (lv_sub hl [1, 2, 3, 4, 5, 6, 0] rfl)
set_option maxHeartbeats 4000000 in
set_option maxRecDepth 100000 in
theorem w0_swearersOf_6 (X : Cx p s m args c cX0_swearersOf 8 RX0 G) (hr : meth.sig.returnType = some .int) (hlk : meth.locks = false) (N : Nat) {o1 : Nat} (ho1 : (kd o1).1 = 5) {x2 : Int32} {x3 : Int32} {x4 : Int32} :
    ∀ (fu : Nat) (x5 : Int32) (x6 : Int32) (σ : Mm) (H : Heap) (locs : List Loc) (ls : Array Slot), f0_swearersOf_6 N o1 x2 x3 x4 fu x5 x6 σ = some (r0, σ0) → Rp G 212 tt σ s H locs → lv_has ls 8 [(0, .ref (G.2.2 + 60)), (1, .ref (G.2.2 + o1)), (2, .int x2), (3, .int x3), (4, .int x4), (5, .int x5), (6, .int x6)] → W p l e rm0_swearersOf s m args below meth c H locs 0 0 (MQ below (P_i G 212 tt r0 σ0) args s 0 0 (Fr G)) (F0 m 6 ls []) := by
  have hx := X.1
  have hb := X.2.1
  intro fu
  induction fu with
  | zero =>
    intro x5 x6 σ H locs ls hf hR hl
    rw [f0_swearersOf_6] at hf
    cases hf
  | succ fu ih =>
    intro x5 x6 σ H locs ls hf hR hl
    rw [f0_swearersOf_6] at hf
    refine lv_iload hx hb dX0_swearersOf_6 (lv_at hl 6 rfl) ?_
    refine lv_aload_n hx hb dX0_swearersOf_8 rfl (lv_at hl 0 rfl) ?_
    obtain ⟨t_1, ht_2, kht_2, hf⟩ := z_r_e hf
    refine r_gd X hR fr_0_31 kh_60 ht_2 dX0_swearersOf_9 ?_
    refine r_gi X hR fi_0_35 kht_2 dX0_swearersOf_12 ?_
    refine lv_icmp_ge (tgt := 129) hx hb dX0_swearersOf_15 (by decide) (fun c_3 => ?_) (fun c_3 => ?_)
    · replace hf := z_t c_3 hf
      refine lv_iload hx hb dX0_swearersOf_129 (lv_at hl 5 rfl) ?_
      exact e_i X hR hr hlk hf dX0_swearersOf_131
    · replace hf := z_f c_3 hf
      refine lv_iconst (v := (1 : Int32)) hx hb dX0_swearersOf_18 (by decide) ?_
      refine lv_iload hx hb dX0_swearersOf_19 (lv_at hl 6 rfl) ?_
      refine lv_ishl hx hb dX0_swearersOf_21 ?_
      refine lv_topi (fun x7_4 ex7_4 => ?_)
      replace hf := z_l_e ex7_4 hf
      refine lv_istore (lv' := [(7, .int x7_4), (0, .ref (G.2.2 + 60)), (1, .ref (G.2.2 + o1)), (2, .int x2), (3, .int x3), (4, .int x4), (5, .int x5), (6, .int x6)]) hx hb dX0_swearersOf_22 hl (by decide) rfl (fun ls hl => ?_)
      refine lv_iload_n hx hb dX0_swearersOf_24 rfl (lv_at hl 3 rfl) ?_
      refine lv_aload_n hx hb dX0_swearersOf_25 rfl (lv_at hl 2 rfl) ?_
      refine r_gi X hR fi_0_41 ho1 dX0_swearersOf_26 ?_
      refine lv_iand hx hb dX0_swearersOf_29 ?_
      refine lv_iload hx hb dX0_swearersOf_30 (lv_at hl 0 rfl) ?_
      refine lv_iand hx hb dX0_swearersOf_32 ?_
      refine lv_if_eq (tgt := 123) hx hb dX0_swearersOf_33 (by decide) (fun c_5 => ?_) (fun c_5 => ?_)
      · replace hf := z_t c_5 hf
        exact w0_swearersOf_123 X hr hlk N ho1 ih x5 x6 σ _ _ _ hf hR (lv_sub hl [1, 2, 3, 4, 5, 6, 7] rfl)
      · replace hf := z_f c_5 hf
        refine lv_aload_n hx hb dX0_swearersOf_36 rfl (lv_at hl 1 rfl) ?_
        refine r_gs (t := 61) X hR fr_0_9 kh_60 (sx_0_2 kh_60) dX0_swearersOf_37 ?_
        refine lv_iconst (v := (0 : Int32)) hx hb dX0_swearersOf_40 (by decide) ?_
        refine lv_aload_n hx hb dX0_swearersOf_41 rfl (lv_at hl 2 rfl) ?_
        refine r_gs (t := (o1 + 1)) X hR fr_0_46 ho1 (sx_5_4 ho1) dX0_swearersOf_42 ?_
        refine lv_iload hx hb dX0_swearersOf_45 (lv_at hl 7 rfl) ?_
        obtain ⟨hi_7, hf⟩ := z_c_e hf
        refine r_ial X hR (kx_5_4 ho1) hi_7 dX0_swearersOf_47 ?_
        obtain ⟨hi_8, hf⟩ := z_c_e hf
        refine r_ias X hR ka_61 hi_8 dX0_swearersOf_48 (fun H locs σ_9 eσ_9 hR => ?_)
        replace hf := z_l_e eσ_9 hf
        refine lv_aload_n hx hb dX0_swearersOf_49 rfl (lv_at hl 1 rfl) ?_
        refine r_gs (t := 61) X hR fr_0_9 kh_60 (sx_0_2 kh_60) dX0_swearersOf_50 ?_
        refine lv_iconst (v := (1 : Int32)) hx hb dX0_swearersOf_53 (by decide) ?_
        refine lv_aload_n hx hb dX0_swearersOf_54 rfl (lv_at hl 1 rfl) ?_
        obtain ⟨t_10, ht_11, kht_11, hf⟩ := z_r_e hf
        refine r_gd X hR fr_0_31 kh_60 ht_11 dX0_swearersOf_55 ?_
        refine r_gs (t := (t_10 + 5)) X hR fr_0_49 kht_11 (sx_3_10 kht_11) dX0_swearersOf_58 ?_
        refine lv_iload hx hb dX0_swearersOf_61 (lv_at hl 7 rfl) ?_
        obtain ⟨hi_12, hf⟩ := z_c_e hf
        refine r_ial X hR (kx_3_10 kht_11) hi_12 dX0_swearersOf_63 ?_
        obtain ⟨hi_13, hf⟩ := z_c_e hf
        refine r_ias X hR ka_61 hi_13 dX0_swearersOf_64 (fun H locs σ_14 eσ_14 hR => ?_)
        replace hf := z_l_e eσ_14 hf
        refine lv_aload_n hx hb dX0_swearersOf_65 rfl (lv_at hl 1 rfl) ?_
        refine r_gs (t := 61) X hR fr_0_9 kh_60 (sx_0_2 kh_60) dX0_swearersOf_66 ?_
        refine lv_iconst (v := (2 : Int32)) hx hb dX0_swearersOf_69 (by decide) ?_
        refine lv_iload_n hx hb dX0_swearersOf_70 rfl (lv_at hl 4 rfl) ?_
        obtain ⟨hi_15, hf⟩ := z_c_e hf
        refine r_ias X hR ka_61 hi_15 dX0_swearersOf_71 (fun H locs σ_16 eσ_16 hR => ?_)
        replace hf := z_l_e eσ_16 hf
        refine lv_aload_n hx hb dX0_swearersOf_72 rfl (lv_at hl 1 rfl) ?_
        refine r_gs (t := 61) X hR fr_0_9 kh_60 (sx_0_2 kh_60) dX0_swearersOf_73 ?_
        refine lv_iconst (v := (3 : Int32)) hx hb dX0_swearersOf_76 (by decide) ?_
        refine lv_aload_n hx hb dX0_swearersOf_77 rfl (lv_at hl 2 rfl) ?_
        refine r_gi X hR fi_0_52 ho1 dX0_swearersOf_78 ?_
        obtain ⟨hi_17, hf⟩ := z_c_e hf
        refine r_ias X hR ka_61 hi_17 dX0_swearersOf_81 (fun H locs σ_18 eσ_18 hR => ?_)
        replace hf := z_l_e eσ_18 hf
        refine lv_aload_n hx hb dX0_swearersOf_82 rfl (lv_at hl 1 rfl) ?_
        refine r_gs (t := 61) X hR fr_0_9 kh_60 (sx_0_2 kh_60) dX0_swearersOf_83 ?_
        refine lv_iconst (v := (4 : Int32)) hx hb dX0_swearersOf_86 (by decide) ?_
        refine lv_iload hx hb dX0_swearersOf_87 (lv_at hl 7 rfl) ?_
        obtain ⟨hi_19, hf⟩ := z_c_e hf
        refine r_ias X hR ka_61 hi_19 dX0_swearersOf_89 (fun H locs σ_20 eσ_20 hR => ?_)
        replace hf := z_l_e eσ_20 hf
        refine lv_aload_n hx hb dX0_swearersOf_90 rfl (lv_at hl 1 rfl) ?_
        refine r_gs (t := 61) X hR fr_0_9 kh_60 (sx_0_2 kh_60) dX0_swearersOf_91 ?_
        refine lv_iconst (v := (5 : Int32)) hx hb dX0_swearersOf_94 (by decide) ?_
        refine lv_iload hx hb dX0_swearersOf_95 (lv_at hl 5 rfl) ?_
        obtain ⟨hi_21, hf⟩ := z_c_e hf
        refine r_ias X hR ka_61 hi_21 dX0_swearersOf_97 (fun H locs σ_22 eσ_22 hR => ?_)
        replace hf := z_l_e eσ_22 hf
        refine lv_aload_n hx hb dX0_swearersOf_98 rfl (lv_at hl 1 rfl) ?_
        obtain ⟨t_23, ht_24, kht_24, hf⟩ := z_r_e hf
        refine r_gd X hR fr_0_31 kh_60 ht_24 dX0_swearersOf_99 ?_
        refine r_gs (t := (t_23 + 12)) X hR fr_0_55 kht_24 (sx_3_12 kht_24) dX0_swearersOf_102 ?_
        refine lv_iconst (v := (0 : Int32)) hx hb dX0_swearersOf_105 (by decide) ?_
        refine lv_aload_n hx hb dX0_swearersOf_106 rfl (lv_at hl 1 rfl) ?_
        refine r_gs (t := 61) X hR fr_0_9 kh_60 (sx_0_2 kh_60) dX0_swearersOf_107 ?_
        obtain ⟨r_25, σ_26, hc_27, hf⟩ := z_b_e hf
        refine go_i hR (mv_run (As := [.int (0 : Int32), .ref (G.2.2 + 61)]) (rest := []) X hR mv_0_59 (kx_3_12 kht_24) (kd_lt (kx_3_12 kht_24) (by decide)) (c4_answer l G N (kx_3_12 kht_24) ka_61 hc_27) ⟨rfl, rfl, Nat.le_of_ble_eq_true rfl, Nat.le_of_ble_eq_true rfl⟩ rfl hl.1 rfl (Nat.le_of_ble_eq_true rfl) dX0_swearersOf_110 ⟨Nat.zero_le _, Nat.zero_le _⟩) (fun H locs hR => ?_)
        refine lv_if_le (tgt := 123) hx hb dX0_swearersOf_113 (by decide) (fun c_28 => ?_) (fun c_28 => ?_)
        · replace hf := z_t c_28 hf
          exact w0_swearersOf_123 X hr hlk N ho1 ih x5 x6 σ_26 _ _ _ hf hR (lv_sub hl [1, 2, 3, 4, 5, 6, 7] rfl)
        · replace hf := z_f c_28 hf
          refine lv_iload hx hb dX0_swearersOf_116 (lv_at hl 6 rfl) ?_
          refine lv_iload hx hb dX0_swearersOf_118 (lv_at hl 0 rfl) ?_
          refine lv_ior hx hb dX0_swearersOf_120 ?_
          refine lv_topi (fun x5_29 ex5_29 => ?_)
          replace hf := z_l_e ex5_29 hf
          refine lv_istore (lv' := [(5, .int x5_29), (7, .int x7_4), (0, .ref (G.2.2 + 60)), (1, .ref (G.2.2 + o1)), (2, .int x2), (3, .int x3), (4, .int x4), (6, .int x6)]) hx hb dX0_swearersOf_121 hl (by decide) rfl (fun ls hl => ?_)
          exact w0_swearersOf_123 X hr hlk N ho1 ih x5_29 x6 σ_26 _ _ _ hf hR (lv_sub hl [2, 3, 4, 5, 6, 0, 7] rfl)
set_option maxHeartbeats 4000000 in
set_option maxRecDepth 100000 in
theorem c0_swearersOf (l : Launch) (G : Gp) (N : Nat) {o1 : Nat} (ho1 : (kd o1).1 = 5) {x2 : Int32} {x3 : Int32} {x4 : Int32} {σ σ0 : Mm} {r0 : Int32} (hf : f0_swearersOf N o1 x2 x3 x4 σ = some (r0, σ0)) : Met l yX0_swearersOf (WS yX0_swearersOf cX0_swearersOf 8 (some .int)) rm0_swearersOf (va_Pc [.ref (G.2.2 + 60), .ref (G.2.2 + o1), .int x2, .int x3, .int x4] (Pd G 212 tt σ)) (P_i G 212 tt r0 σ0) 0 0 (Fr G) := by
  refine ct [(0, .ref (G.2.2 + 60)), (1, .ref (G.2.2 + o1)), (2, .int x2), (3, .int x3), (4, .int x4)] rfl (by decide) (Nat.le_of_ble_eq_true rfl) ?_
  intro p e s m below meth c ls X hr hlk hR hl
  have X : Cx p s m _ c cX0_swearersOf 8 RX0 G := X
  have hx := X.1
  have hb := X.2.1
  unfold f0_swearersOf at hf
  refine lv_iconst (v := (0 : Int32)) hx hb dX0_swearersOf_0 (by decide) ?_
  refine lv_istore (lv' := [(5, .int (0 : Int32)), (0, .ref (G.2.2 + 60)), (1, .ref (G.2.2 + o1)), (2, .int x2), (3, .int x3), (4, .int x4)]) hx hb dX0_swearersOf_1 hl (by decide) rfl (fun ls hl => ?_)
  refine lv_iconst (v := (0 : Int32)) hx hb dX0_swearersOf_3 (by decide) ?_
  refine lv_istore (lv' := [(6, .int (0 : Int32)), (5, .int (0 : Int32)), (0, .ref (G.2.2 + 60)), (1, .ref (G.2.2 + o1)), (2, .int x2), (3, .int x3), (4, .int x4)]) hx hb dX0_swearersOf_4 hl (by decide) rfl (fun ls hl => ?_)
  exact w0_swearersOf_6 X hr hlk N ho1  N (0 : Int32) (0 : Int32) σ _ _ _ hf hR (lv_sub hl [2, 3, 4, 5, 6, 1, 0] rfl)
abbrev rm0_swearers : Room := { frames := 2, cells := 0, slots := 0, locals := 56 }
def f0_swearers (N : Nat) (o1 : Nat) (x2 : Int32) (x3 : Int32) (σ : Mm) : Option (Int32 × Mm) :=
  z_c (inB x2 20) (
  z_l ((gI σ 55 (ix x2))) fun x4_2 =>
  z_c (inB x2 20) (
  z_l (((gI σ o1 0) - (gI σ 54 (ix x2)))) fun x5_4 =>
  z_b (f0_swearersOf N o1 (x4_2 &&& x3) x5_4 (bitC x4_2) σ) fun r_5 σ_6 =>
  some (r_5, σ_6)))
set_option maxHeartbeats 4000000 in
set_option maxRecDepth 100000 in
theorem c0_swearers (l : Launch) (G : Gp) (N : Nat) {o1 : Nat} (ho1 : (kd o1).1 = 5) {x2 : Int32} {x3 : Int32} {σ σ0 : Mm} {r0 : Int32} (hf : f0_swearers N o1 x2 x3 σ = some (r0, σ0)) : Met l yX0_swearers (WS yX0_swearers cX0_swearers 6 (some .int)) rm0_swearers (va_Pc [.ref (G.2.2 + 60), .ref (G.2.2 + o1), .int x2, .int x3] (Pd G 212 tt σ)) (P_i G 212 tt r0 σ0) 0 0 (Fr G) := by
  refine ct [(0, .ref (G.2.2 + 60)), (1, .ref (G.2.2 + o1)), (2, .int x2), (3, .int x3)] rfl (by decide) (Nat.le_of_ble_eq_true rfl) ?_
  intro p e s m below meth c ls X hr hlk hR hl
  have X : Cx p s m _ c cX0_swearers 6 RX0 G := X
  have hx := X.1
  have hb := X.2.1
  unfold f0_swearers at hf
  refine lv_aload_n hx hb dX0_swearers_0 rfl (lv_at hl 0 rfl) ?_
  refine r_gs (t := 50) X hR fr_0_27 kh_60 (sx_0_0 kh_60) dX0_swearers_1 ?_
  refine r_gs (t := 55) X hR fr_0_65 kh_50 (sx_1_4 kh_50) dX0_swearers_4 ?_
  refine lv_iload_n hx hb dX0_swearers_7 rfl (lv_at hl 2 rfl) ?_
  obtain ⟨hi_1, hf⟩ := z_c_e hf
  refine r_ial X hR ka_55 hi_1 dX0_swearers_8 ?_
  refine lv_topi (fun x4_2 ex4_2 => ?_)
  replace hf := z_l_e ex4_2 hf
  refine lv_istore (lv' := [(4, .int x4_2), (0, .ref (G.2.2 + 60)), (1, .ref (G.2.2 + o1)), (2, .int x2), (3, .int x3)]) hx hb dX0_swearers_9 hl (by decide) rfl (fun ls hl => ?_)
  refine lv_aload_n hx hb dX0_swearers_11 rfl (lv_at hl 2 rfl) ?_
  refine r_gi X hR fi_0_52 ho1 dX0_swearers_12 ?_
  refine lv_aload_n hx hb dX0_swearers_15 rfl (lv_at hl 1 rfl) ?_
  refine r_gs (t := 50) X hR fr_0_27 kh_60 (sx_0_0 kh_60) dX0_swearers_16 ?_
  refine r_gs (t := 54) X hR fr_0_70 kh_50 (sx_1_3 kh_50) dX0_swearers_19 ?_
  refine lv_iload_n hx hb dX0_swearers_22 rfl (lv_at hl 3 rfl) ?_
  obtain ⟨hi_3, hf⟩ := z_c_e hf
  refine r_ial X hR ka_54 hi_3 dX0_swearers_23 ?_
  refine lv_isub hx hb dX0_swearers_24 ?_
  refine lv_topi (fun x5_4 ex5_4 => ?_)
  replace hf := z_l_e ex5_4 hf
  refine lv_istore (lv' := [(5, .int x5_4), (4, .int x4_2), (0, .ref (G.2.2 + 60)), (1, .ref (G.2.2 + o1)), (2, .int x2), (3, .int x3)]) hx hb dX0_swearers_25 hl (by decide) rfl (fun ls hl => ?_)
  refine lv_aload_n hx hb dX0_swearers_27 rfl (lv_at hl 2 rfl) ?_
  refine lv_aload_n hx hb dX0_swearers_28 rfl (lv_at hl 3 rfl) ?_
  refine lv_iload hx hb dX0_swearers_29 (lv_at hl 1 rfl) ?_
  refine lv_iload_n hx hb dX0_swearers_31 rfl (lv_at hl 5 rfl) ?_
  refine lv_iand hx hb dX0_swearers_32 ?_
  refine lv_iload hx hb dX0_swearers_33 (lv_at hl 0 rfl) ?_
  refine lv_iload hx hb dX0_swearers_35 (lv_at hl 1 rfl) ?_
  refine go_i hR (ms_run (As := [.int x4_2]) (rest := [.int x5_4, .int (x4_2 &&& x3), .ref (G.2.2 + o1), .ref (G.2.2 + 60)]) X hR jms_0_73 (cJ_bitC l G) ⟨rfl, rfl, Nat.le_of_ble_eq_true rfl, Nat.le_of_ble_eq_true rfl⟩ rfl hl.1 rfl (Nat.le_of_ble_eq_true rfl) dX0_swearers_37 ⟨Nat.zero_le _, Nat.zero_le _⟩) (fun H locs hR => ?_)
  obtain ⟨r_5, σ_6, hc_7, hf⟩ := z_b_e hf
  refine go_i hR (mv_run (As := [.ref (G.2.2 + o1), .int (x4_2 &&& x3), .int x5_4, .int (bitC x4_2)]) (rest := []) X hR mv_0_79 kh_60 (kd_lt kh_60 (by decide)) (c0_swearersOf l G N ho1 hc_7) ⟨rfl, rfl, Nat.le_of_ble_eq_true rfl, Nat.le_of_ble_eq_true rfl⟩ rfl hl.1 rfl (Nat.le_of_ble_eq_true rfl) dX0_swearers_40 ⟨Nat.zero_le _, Nat.zero_le _⟩) (fun H locs hR => ?_)
  exact e_i X hR hr hlk hf dX0_swearers_43
abbrev rm0_howManySwear : Room := { frames := 3, cells := 0, slots := 0, locals := 81 }
def f0_howManySwear (N : Nat) (o1 : Nat) (x2 : Int32) (σ : Mm) : Option (Int32 × Mm) :=
  z_c (inB x2 20) (
  z_b (f0_swearers N o1 x2 (gI σ 55 (ix x2)) σ) fun r_2 σ_3 =>
  some ((bitC r_2), σ_3))
set_option maxHeartbeats 4000000 in
set_option maxRecDepth 100000 in
theorem c0_howManySwear (l : Launch) (G : Gp) (N : Nat) {o1 : Nat} (ho1 : (kd o1).1 = 5) {x2 : Int32} {σ σ0 : Mm} {r0 : Int32} (hf : f0_howManySwear N o1 x2 σ = some (r0, σ0)) : Met l yX0_howManySwear (WS yX0_howManySwear cX0_howManySwear 3 (some .int)) rm0_howManySwear (va_Pc [.ref (G.2.2 + 60), .ref (G.2.2 + o1), .int x2] (Pd G 212 tt σ)) (P_i G 212 tt r0 σ0) 0 0 (Fr G) := by
  refine ct [(0, .ref (G.2.2 + 60)), (1, .ref (G.2.2 + o1)), (2, .int x2)] rfl (by decide) (Nat.le_of_ble_eq_true rfl) ?_
  intro p e s m below meth c ls X hr hlk hR hl
  have X : Cx p s m _ c cX0_howManySwear 3 RX0 G := X
  have hx := X.1
  have hb := X.2.1
  unfold f0_howManySwear at hf
  refine lv_aload_n hx hb dX0_howManySwear_0 rfl (lv_at hl 0 rfl) ?_
  refine lv_aload_n hx hb dX0_howManySwear_1 rfl (lv_at hl 1 rfl) ?_
  refine lv_iload_n hx hb dX0_howManySwear_2 rfl (lv_at hl 2 rfl) ?_
  refine lv_aload_n hx hb dX0_howManySwear_3 rfl (lv_at hl 0 rfl) ?_
  refine r_gs (t := 50) X hR fr_0_27 kh_60 (sx_0_0 kh_60) dX0_howManySwear_4 ?_
  refine r_gs (t := 55) X hR fr_0_65 kh_50 (sx_1_4 kh_50) dX0_howManySwear_7 ?_
  refine lv_iload_n hx hb dX0_howManySwear_10 rfl (lv_at hl 2 rfl) ?_
  obtain ⟨hi_1, hf⟩ := z_c_e hf
  refine r_ial X hR ka_55 hi_1 dX0_howManySwear_11 ?_
  obtain ⟨r_2, σ_3, hc_4, hf⟩ := z_b_e hf
  refine go_i hR (mv_run (As := [.ref (G.2.2 + o1), .int x2, .int (gI σ 55 (ix x2))]) (rest := []) X hR mv_0_83 kh_60 (kd_lt kh_60 (by decide)) (c0_swearers l G N ho1 hc_4) ⟨rfl, rfl, Nat.le_of_ble_eq_true rfl, Nat.le_of_ble_eq_true rfl⟩ rfl hl.1 rfl (Nat.le_of_ble_eq_true rfl) dX0_howManySwear_12 ⟨Nat.zero_le _, Nat.zero_le _⟩) (fun H locs hR => ?_)
  refine go_i hR (ms_run (As := [.int r_2]) (rest := []) X hR jms_0_73 (cJ_bitC l G) ⟨rfl, rfl, Nat.le_of_ble_eq_true rfl, Nat.le_of_ble_eq_true rfl⟩ rfl hl.1 rfl (Nat.le_of_ble_eq_true rfl) dX0_howManySwear_15 ⟨Nat.zero_le _, Nat.zero_le _⟩) (fun H locs hR => ?_)
  exact e_i X hR hr hlk hf dX0_howManySwear_18
abbrev rm0_swornToBy : Room := { frames := 3, cells := 0, slots := 0, locals := 81 }
def f0_swornToBy_34 (N : Nat) (k5 : Int32 → Int32 → Mm → Option (Int32 × Mm)) (o1 : Nat) (x2 : Int32) (x3 : Int32) (x4 : Int32) (σ : Mm) : Option (Int32 × Mm) :=
  z_l (x4 + (1 : Int32)) fun x4_6 =>
  k5 x3 x4_6 σ
def f0_swornToBy_5 (N : Nat) (o1 : Nat) (x2 : Int32) : Nat → Int32 → Int32 → Mm → Option (Int32 × Mm)
  | 0, _, _, _ => none
  | fu + 1, x3, x4, σ => if (gI σ o1 3) ≤ x4 then (
  some (x3, σ)) else (
  z_b (f0_swearers N o1 x4 ((1 : Int32) <<< (x2 &&& 31)) σ) fun r_2 σ_3 =>
  if r_2 = 0 then (
  f0_swornToBy_34 N (fun x3 x4 σ => f0_swornToBy_5 N o1 x2 fu x3 x4 σ) o1 x2 x3 x4 σ_3) else (
  z_l ((x3 ||| ((1 : Int32) <<< (x4 &&& 31)))) fun x3_7 =>
  f0_swornToBy_34 N (fun x3 x4 σ => f0_swornToBy_5 N o1 x2 fu x3 x4 σ) o1 x2 x3_7 x4 σ_3))
def f0_swornToBy (N : Nat) (o1 : Nat) (x2 : Int32) (σ : Mm) : Option (Int32 × Mm) :=
  f0_swornToBy_5 N o1 x2 N (0 : Int32) (0 : Int32) σ
set_option maxHeartbeats 4000000 in
set_option maxRecDepth 100000 in
theorem w0_swornToBy_34 (X : Cx p s m args c cX0_swornToBy 5 RX0 G) (hr : meth.sig.returnType = some .int) (hlk : meth.locks = false) (N : Nat) {o1 : Nat} (ho1 : (kd o1).1 = 5) {x2 : Int32} {k5 : Int32 → Int32 → Mm → Option (Int32 × Mm)} (hk5 : ∀ (x3 : Int32) (x4 : Int32) (σ : Mm) (H : Heap) (locs : List Loc) (ls : Array Slot), k5 x3 x4 σ = some (r0, σ0) → Rp G 212 tt σ s H locs → lv_has ls 5 [(0, .ref (G.2.2 + 60)), (1, .ref (G.2.2 + o1)), (2, .int x2), (3, .int x3), (4, .int x4)] → W p l e rm0_swornToBy s m args below meth c H locs 0 0 (MQ below (P_i G 212 tt r0 σ0) args s 0 0 (Fr G)) (F0 m 5 ls [])) :
    ∀ (x3 : Int32) (x4 : Int32) (σ : Mm) (H : Heap) (locs : List Loc) (ls : Array Slot), f0_swornToBy_34 N k5 o1 x2 x3 x4 σ = some (r0, σ0) → Rp G 212 tt σ s H locs → lv_has ls 5 [(0, .ref (G.2.2 + 60)), (1, .ref (G.2.2 + o1)), (2, .int x2), (3, .int x3), (4, .int x4)] → W p l e rm0_swornToBy s m args below meth c H locs 0 0 (MQ below (P_i G 212 tt r0 σ0) args s 0 0 (Fr G)) (F0 m 34 ls []) := by
  have hx := X.1
  have hb := X.2.1
  intro x3 x4 σ H locs ls hf hR hl
  unfold f0_swornToBy_34 at hf
  obtain ⟨x4_6, ex4_6⟩ : ∃ z : Int32, z = x4 + (1 : Int32) := ⟨_, rfl⟩
  replace hf := z_l_e ex4_6 hf
  refine lv_iinc (v := x4_6) (lv' := [(4, .int x4_6), (0, .ref (G.2.2 + 60)), (1, .ref (G.2.2 + o1)), (2, .int x2), (3, .int x3)]) hx hb dX0_swornToBy_34 hl (k := 4) rfl (by rw [ex4_6]; rfl) (by decide) rfl (fun ls hl => ?_)
  refine lv_goto (tgt := 5) hx hb dX0_swornToBy_37 (by decide) ?_
  exact hk5 x3 x4_6 σ _ _ _ hf hR (lv_sub hl [1, 2, 3, 4, 0] rfl)
set_option maxHeartbeats 4000000 in
set_option maxRecDepth 100000 in
theorem w0_swornToBy_5 (X : Cx p s m args c cX0_swornToBy 5 RX0 G) (hr : meth.sig.returnType = some .int) (hlk : meth.locks = false) (N : Nat) {o1 : Nat} (ho1 : (kd o1).1 = 5) {x2 : Int32} :
    ∀ (fu : Nat) (x3 : Int32) (x4 : Int32) (σ : Mm) (H : Heap) (locs : List Loc) (ls : Array Slot), f0_swornToBy_5 N o1 x2 fu x3 x4 σ = some (r0, σ0) → Rp G 212 tt σ s H locs → lv_has ls 5 [(0, .ref (G.2.2 + 60)), (1, .ref (G.2.2 + o1)), (2, .int x2), (3, .int x3), (4, .int x4)] → W p l e rm0_swornToBy s m args below meth c H locs 0 0 (MQ below (P_i G 212 tt r0 σ0) args s 0 0 (Fr G)) (F0 m 5 ls []) := by
  have hx := X.1
  have hb := X.2.1
  intro fu
  induction fu with
  | zero =>
    intro x3 x4 σ H locs ls hf hR hl
    rw [f0_swornToBy_5] at hf
    cases hf
  | succ fu ih =>
    intro x3 x4 σ H locs ls hf hR hl
    rw [f0_swornToBy_5] at hf
    refine lv_iload hx hb dX0_swornToBy_5 (lv_at hl 4 rfl) ?_
    refine lv_aload_n hx hb dX0_swornToBy_7 rfl (lv_at hl 1 rfl) ?_
    refine r_gi X hR fi_0_87 ho1 dX0_swornToBy_8 ?_
    refine lv_icmp_ge (tgt := 40) hx hb dX0_swornToBy_11 (by decide) (fun c_1 => ?_) (fun c_1 => ?_)
    · replace hf := z_t c_1 hf
      refine lv_iload_n hx hb dX0_swornToBy_40 rfl (lv_at hl 3 rfl) ?_
      exact e_i X hR hr hlk hf dX0_swornToBy_41
    · replace hf := z_f c_1 hf
      refine lv_aload_n hx hb dX0_swornToBy_14 rfl (lv_at hl 0 rfl) ?_
      refine lv_aload_n hx hb dX0_swornToBy_15 rfl (lv_at hl 1 rfl) ?_
      refine lv_iload hx hb dX0_swornToBy_16 (lv_at hl 4 rfl) ?_
      refine lv_iconst (v := (1 : Int32)) hx hb dX0_swornToBy_18 (by decide) ?_
      refine lv_iload_n hx hb dX0_swornToBy_19 rfl (lv_at hl 2 rfl) ?_
      refine lv_ishl hx hb dX0_swornToBy_20 ?_
      obtain ⟨r_2, σ_3, hc_4, hf⟩ := z_b_e hf
      refine go_i hR (mv_run (As := [.ref (G.2.2 + o1), .int x4, .int ((1 : Int32) <<< (x2 &&& 31))]) (rest := []) X hR mv_0_83 kh_60 (kd_lt kh_60 (by decide)) (c0_swearers l G N ho1 hc_4) ⟨rfl, rfl, Nat.le_of_ble_eq_true rfl, Nat.le_of_ble_eq_true rfl⟩ rfl hl.1 rfl (Nat.le_of_ble_eq_true rfl) dX0_swornToBy_21 ⟨Nat.zero_le _, Nat.zero_le _⟩) (fun H locs hR => ?_)
      refine lv_if_eq (tgt := 34) hx hb dX0_swornToBy_24 (by decide) (fun c_5 => ?_) (fun c_5 => ?_)
      · replace hf := z_t c_5 hf
        exact w0_swornToBy_34 X hr hlk N ho1 ih x3 x4 σ_3 _ _ _ hf hR (lv_sub hl [0, 1, 2, 3, 4] rfl)
      · replace hf := z_f c_5 hf
        refine lv_iload_n hx hb dX0_swornToBy_27 rfl (lv_at hl 3 rfl) ?_
        refine lv_iconst (v := (1 : Int32)) hx hb dX0_swornToBy_28 (by decide) ?_
        refine lv_iload hx hb dX0_swornToBy_29 (lv_at hl 4 rfl) ?_
        refine lv_ishl hx hb dX0_swornToBy_31 ?_
        refine lv_ior hx hb dX0_swornToBy_32 ?_
        refine lv_topi (fun x3_7 ex3_7 => ?_)
        replace hf := z_l_e ex3_7 hf
        refine lv_istore_n (lv' := [(3, .int x3_7), (0, .ref (G.2.2 + 60)), (1, .ref (G.2.2 + o1)), (2, .int x2), (4, .int x4)]) hx hb dX0_swornToBy_33 rfl hl (by decide) rfl (fun ls hl => ?_)
        exact w0_swornToBy_34 X hr hlk N ho1 ih x3_7 x4 σ_3 _ _ _ hf hR (lv_sub hl [1, 2, 3, 0, 4] rfl)
set_option maxHeartbeats 4000000 in
set_option maxRecDepth 100000 in
theorem c0_swornToBy (l : Launch) (G : Gp) (N : Nat) {o1 : Nat} (ho1 : (kd o1).1 = 5) {x2 : Int32} {σ σ0 : Mm} {r0 : Int32} (hf : f0_swornToBy N o1 x2 σ = some (r0, σ0)) : Met l yX0_swornToBy (WS yX0_swornToBy cX0_swornToBy 5 (some .int)) rm0_swornToBy (va_Pc [.ref (G.2.2 + 60), .ref (G.2.2 + o1), .int x2] (Pd G 212 tt σ)) (P_i G 212 tt r0 σ0) 0 0 (Fr G) := by
  refine ct [(0, .ref (G.2.2 + 60)), (1, .ref (G.2.2 + o1)), (2, .int x2)] rfl (by decide) (Nat.le_of_ble_eq_true rfl) ?_
  intro p e s m below meth c ls X hr hlk hR hl
  have X : Cx p s m _ c cX0_swornToBy 5 RX0 G := X
  have hx := X.1
  have hb := X.2.1
  unfold f0_swornToBy at hf
  refine lv_iconst (v := (0 : Int32)) hx hb dX0_swornToBy_0 (by decide) ?_
  refine lv_istore_n (lv' := [(3, .int (0 : Int32)), (0, .ref (G.2.2 + 60)), (1, .ref (G.2.2 + o1)), (2, .int x2)]) hx hb dX0_swornToBy_1 rfl hl (by decide) rfl (fun ls hl => ?_)
  refine lv_iconst (v := (0 : Int32)) hx hb dX0_swornToBy_2 (by decide) ?_
  refine lv_istore (lv' := [(4, .int (0 : Int32)), (3, .int (0 : Int32)), (0, .ref (G.2.2 + 60)), (1, .ref (G.2.2 + o1)), (2, .int x2)]) hx hb dX0_swornToBy_3 hl (by decide) rfl (fun ls hl => ?_)
  exact w0_swornToBy_5 X hr hlk N ho1  N (0 : Int32) (0 : Int32) σ _ _ _ hf hR (lv_sub hl [2, 3, 4, 1, 0] rfl)
abbrev rm0_stands : Room := { frames := 3, cells := 0, slots := 0, locals := 81 }
def f0_stands (N : Nat) (o1 : Nat) (x2 : Int32) (σ : Mm) : Option (Int32 × Mm) :=
  if (((gI σ o1 2) >>> (x2 &&& 31)) &&& (1 : Int32)) = 0 then (
  z_c (inB x2 20) (
  z_b (f0_swearers N o1 x2 (gI σ 55 (ix x2)) σ) fun r_3 σ_4 =>
  z_r (gR σ_4 60 1) 3 fun t_6 =>
  if (bitC r_3) < (gI σ_4 t_6 4) then (
  some ((0 : Int32), σ_4)) else (
  some ((1 : Int32), σ_4)))) else (
  some ((0 : Int32), σ))
set_option maxHeartbeats 4000000 in
set_option maxRecDepth 100000 in
theorem c0_stands (l : Launch) (G : Gp) (N : Nat) {o1 : Nat} (ho1 : (kd o1).1 = 5) {x2 : Int32} {σ σ0 : Mm} {r0 : Int32} (hf : f0_stands N o1 x2 σ = some (r0, σ0)) : Met l yX0_stands (WS yX0_stands cX0_stands 3 (some .boolean)) rm0_stands (va_Pc [.ref (G.2.2 + 60), .ref (G.2.2 + o1), .int x2] (Pd G 212 tt σ)) (P_i G 212 tt r0 σ0) 0 0 (Fr G) := by
  refine ct [(0, .ref (G.2.2 + 60)), (1, .ref (G.2.2 + o1)), (2, .int x2)] rfl (by decide) (Nat.le_of_ble_eq_true rfl) ?_
  intro p e s m below meth c ls X hr hlk hR hl
  have X : Cx p s m _ c cX0_stands 3 RX0 G := X
  have hx := X.1
  have hb := X.2.1
  unfold f0_stands at hf
  refine lv_aload_n hx hb dX0_stands_0 rfl (lv_at hl 1 rfl) ?_
  refine r_gi X hR fi_0_89 ho1 dX0_stands_1 ?_
  refine lv_iload_n hx hb dX0_stands_4 rfl (lv_at hl 2 rfl) ?_
  refine lv_ishr hx hb dX0_stands_5 ?_
  refine lv_iconst (v := (1 : Int32)) hx hb dX0_stands_6 (by decide) ?_
  refine lv_iand hx hb dX0_stands_7 ?_
  refine lv_if_eq (tgt := 13) hx hb dX0_stands_8 (by decide) (fun c_1 => ?_) (fun c_1 => ?_)
  · replace hf := z_t c_1 hf
    refine lv_aload_n hx hb dX0_stands_13 rfl (lv_at hl 0 rfl) ?_
    refine lv_aload_n hx hb dX0_stands_14 rfl (lv_at hl 1 rfl) ?_
    refine lv_iload_n hx hb dX0_stands_15 rfl (lv_at hl 2 rfl) ?_
    refine lv_aload_n hx hb dX0_stands_16 rfl (lv_at hl 0 rfl) ?_
    refine r_gs (t := 50) X hR fr_0_27 kh_60 (sx_0_0 kh_60) dX0_stands_17 ?_
    refine r_gs (t := 55) X hR fr_0_65 kh_50 (sx_1_4 kh_50) dX0_stands_20 ?_
    refine lv_iload_n hx hb dX0_stands_23 rfl (lv_at hl 2 rfl) ?_
    obtain ⟨hi_2, hf⟩ := z_c_e hf
    refine r_ial X hR ka_55 hi_2 dX0_stands_24 ?_
    obtain ⟨r_3, σ_4, hc_5, hf⟩ := z_b_e hf
    refine go_i hR (mv_run (As := [.ref (G.2.2 + o1), .int x2, .int (gI σ 55 (ix x2))]) (rest := []) X hR mv_0_83 kh_60 (kd_lt kh_60 (by decide)) (c0_swearers l G N ho1 hc_5) ⟨rfl, rfl, Nat.le_of_ble_eq_true rfl, Nat.le_of_ble_eq_true rfl⟩ rfl hl.1 rfl (Nat.le_of_ble_eq_true rfl) dX0_stands_25 ⟨Nat.zero_le _, Nat.zero_le _⟩) (fun H locs hR => ?_)
    refine go_i hR (ms_run (As := [.int r_3]) (rest := []) X hR jms_0_73 (cJ_bitC l G) ⟨rfl, rfl, Nat.le_of_ble_eq_true rfl, Nat.le_of_ble_eq_true rfl⟩ rfl hl.1 rfl (Nat.le_of_ble_eq_true rfl) dX0_stands_28 ⟨Nat.zero_le _, Nat.zero_le _⟩) (fun H locs hR => ?_)
    refine lv_aload_n hx hb dX0_stands_31 rfl (lv_at hl 0 rfl) ?_
    obtain ⟨t_6, ht_7, kht_7, hf⟩ := z_r_e hf
    refine r_gd X hR fr_0_31 kh_60 ht_7 dX0_stands_32 ?_
    refine r_gi X hR fi_0_92 kht_7 dX0_stands_35 ?_
    refine lv_icmp_lt (tgt := 45) hx hb dX0_stands_38 (by decide) (fun c_8 => ?_) (fun c_8 => ?_)
    · replace hf := z_t c_8 hf
      refine lv_iconst (v := (0 : Int32)) hx hb dX0_stands_45 (by decide) ?_
      exact e_z X hR hr hlk rfl hf dX0_stands_46
    · replace hf := z_f c_8 hf
      refine lv_iconst (v := (1 : Int32)) hx hb dX0_stands_41 (by decide) ?_
      refine lv_goto (tgt := 46) hx hb dX0_stands_42 (by decide) ?_
      exact e_z X hR hr hlk rfl hf dX0_stands_46
  · replace hf := z_f c_1 hf
    refine lv_iconst (v := (0 : Int32)) hx hb dX0_stands_11 (by decide) ?_
    exact e_z X hR hr hlk rfl hf dX0_stands_12
abbrev rm0_standing : Room := { frames := 4, cells := 0, slots := 0, locals := 103 }
def f0_standing_27 (N : Nat) (k4 : Int32 → Int32 → Mm → Option (Int32 × Mm)) (o1 : Nat) (x2 : Int32) (x3 : Int32) (σ : Mm) : Option (Int32 × Mm) :=
  z_l (x3 + (1 : Int32)) fun x3_6 =>
  k4 x2 x3_6 σ
def f0_standing_4 (N : Nat) (o1 : Nat) : Nat → Int32 → Int32 → Mm → Option (Int32 × Mm)
  | 0, _, _, _ => none
  | fu + 1, x2, x3, σ => if (gI σ o1 3) ≤ x3 then (
  some (x2, σ)) else (
  z_b (f0_stands N o1 x3 σ) fun r_2 σ_3 =>
  if r_2 = 0 then (
  f0_standing_27 N (fun x2 x3 σ => f0_standing_4 N o1 fu x2 x3 σ) o1 x2 x3 σ_3) else (
  z_l ((x2 ||| ((1 : Int32) <<< (x3 &&& 31)))) fun x2_7 =>
  f0_standing_27 N (fun x2 x3 σ => f0_standing_4 N o1 fu x2 x3 σ) o1 x2_7 x3 σ_3))
def f0_standing (N : Nat) (o1 : Nat) (σ : Mm) : Option (Int32 × Mm) :=
  f0_standing_4 N o1 N (0 : Int32) (0 : Int32) σ
set_option maxHeartbeats 4000000 in
set_option maxRecDepth 100000 in
theorem w0_standing_27 (X : Cx p s m args c cX0_standing 4 RX0 G) (hr : meth.sig.returnType = some .int) (hlk : meth.locks = false) (N : Nat) {o1 : Nat} (ho1 : (kd o1).1 = 5) {k4 : Int32 → Int32 → Mm → Option (Int32 × Mm)} (hk4 : ∀ (x2 : Int32) (x3 : Int32) (σ : Mm) (H : Heap) (locs : List Loc) (ls : Array Slot), k4 x2 x3 σ = some (r0, σ0) → Rp G 212 tt σ s H locs → lv_has ls 4 [(0, .ref (G.2.2 + 60)), (1, .ref (G.2.2 + o1)), (2, .int x2), (3, .int x3)] → W p l e rm0_standing s m args below meth c H locs 0 0 (MQ below (P_i G 212 tt r0 σ0) args s 0 0 (Fr G)) (F0 m 4 ls [])) :
    ∀ (x2 : Int32) (x3 : Int32) (σ : Mm) (H : Heap) (locs : List Loc) (ls : Array Slot), f0_standing_27 N k4 o1 x2 x3 σ = some (r0, σ0) → Rp G 212 tt σ s H locs → lv_has ls 4 [(0, .ref (G.2.2 + 60)), (1, .ref (G.2.2 + o1)), (2, .int x2), (3, .int x3)] → W p l e rm0_standing s m args below meth c H locs 0 0 (MQ below (P_i G 212 tt r0 σ0) args s 0 0 (Fr G)) (F0 m 27 ls []) := by
  have hx := X.1
  have hb := X.2.1
  intro x2 x3 σ H locs ls hf hR hl
  unfold f0_standing_27 at hf
  obtain ⟨x3_6, ex3_6⟩ : ∃ z : Int32, z = x3 + (1 : Int32) := ⟨_, rfl⟩
  replace hf := z_l_e ex3_6 hf
  refine lv_iinc (v := x3_6) (lv' := [(3, .int x3_6), (0, .ref (G.2.2 + 60)), (1, .ref (G.2.2 + o1)), (2, .int x2)]) hx hb dX0_standing_27 hl (k := 3) rfl (by rw [ex3_6]; rfl) (by decide) rfl (fun ls hl => ?_)
  refine lv_goto (tgt := 4) hx hb dX0_standing_30 (by decide) ?_
  exact hk4 x2 x3_6 σ _ _ _ hf hR (lv_sub hl [1, 2, 3, 0] rfl)
set_option maxHeartbeats 4000000 in
set_option maxRecDepth 100000 in
theorem w0_standing_4 (X : Cx p s m args c cX0_standing 4 RX0 G) (hr : meth.sig.returnType = some .int) (hlk : meth.locks = false) (N : Nat) {o1 : Nat} (ho1 : (kd o1).1 = 5) :
    ∀ (fu : Nat) (x2 : Int32) (x3 : Int32) (σ : Mm) (H : Heap) (locs : List Loc) (ls : Array Slot), f0_standing_4 N o1 fu x2 x3 σ = some (r0, σ0) → Rp G 212 tt σ s H locs → lv_has ls 4 [(0, .ref (G.2.2 + 60)), (1, .ref (G.2.2 + o1)), (2, .int x2), (3, .int x3)] → W p l e rm0_standing s m args below meth c H locs 0 0 (MQ below (P_i G 212 tt r0 σ0) args s 0 0 (Fr G)) (F0 m 4 ls []) := by
  have hx := X.1
  have hb := X.2.1
  intro fu
  induction fu with
  | zero =>
    intro x2 x3 σ H locs ls hf hR hl
    rw [f0_standing_4] at hf
    cases hf
  | succ fu ih =>
    intro x2 x3 σ H locs ls hf hR hl
    rw [f0_standing_4] at hf
    refine lv_iload_n hx hb dX0_standing_4 rfl (lv_at hl 3 rfl) ?_
    refine lv_aload_n hx hb dX0_standing_5 rfl (lv_at hl 1 rfl) ?_
    refine r_gi X hR fi_0_87 ho1 dX0_standing_6 ?_
    refine lv_icmp_ge (tgt := 33) hx hb dX0_standing_9 (by decide) (fun c_1 => ?_) (fun c_1 => ?_)
    · replace hf := z_t c_1 hf
      refine lv_iload_n hx hb dX0_standing_33 rfl (lv_at hl 2 rfl) ?_
      exact e_i X hR hr hlk hf dX0_standing_34
    · replace hf := z_f c_1 hf
      refine lv_aload_n hx hb dX0_standing_12 rfl (lv_at hl 0 rfl) ?_
      refine lv_aload_n hx hb dX0_standing_13 rfl (lv_at hl 1 rfl) ?_
      refine lv_iload_n hx hb dX0_standing_14 rfl (lv_at hl 3 rfl) ?_
      obtain ⟨r_2, σ_3, hc_4, hf⟩ := z_b_e hf
      refine go_i hR (mv_run (As := [.ref (G.2.2 + o1), .int x3]) (rest := []) X hR mv_0_95 kh_60 (kd_lt kh_60 (by decide)) (c0_stands l G N ho1 hc_4) ⟨rfl, rfl, Nat.le_of_ble_eq_true rfl, Nat.le_of_ble_eq_true rfl⟩ rfl hl.1 rfl (Nat.le_of_ble_eq_true rfl) dX0_standing_15 ⟨Nat.zero_le _, Nat.zero_le _⟩) (fun H locs hR => ?_)
      refine lv_if_eq (tgt := 27) hx hb dX0_standing_18 (by decide) (fun c_5 => ?_) (fun c_5 => ?_)
      · replace hf := z_t c_5 hf
        exact w0_standing_27 X hr hlk N ho1 ih x2 x3 σ_3 _ _ _ hf hR (lv_sub hl [0, 1, 2, 3] rfl)
      · replace hf := z_f c_5 hf
        refine lv_iload_n hx hb dX0_standing_21 rfl (lv_at hl 2 rfl) ?_
        refine lv_iconst (v := (1 : Int32)) hx hb dX0_standing_22 (by decide) ?_
        refine lv_iload_n hx hb dX0_standing_23 rfl (lv_at hl 3 rfl) ?_
        refine lv_ishl hx hb dX0_standing_24 ?_
        refine lv_ior hx hb dX0_standing_25 ?_
        refine lv_topi (fun x2_7 ex2_7 => ?_)
        replace hf := z_l_e ex2_7 hf
        refine lv_istore_n (lv' := [(2, .int x2_7), (0, .ref (G.2.2 + 60)), (1, .ref (G.2.2 + o1)), (3, .int x3)]) hx hb dX0_standing_26 rfl hl (by decide) rfl (fun ls hl => ?_)
        exact w0_standing_27 X hr hlk N ho1 ih x2_7 x3 σ_3 _ _ _ hf hR (lv_sub hl [1, 2, 0, 3] rfl)
set_option maxHeartbeats 4000000 in
set_option maxRecDepth 100000 in
theorem c0_standing (l : Launch) (G : Gp) (N : Nat) {o1 : Nat} (ho1 : (kd o1).1 = 5) {σ σ0 : Mm} {r0 : Int32} (hf : f0_standing N o1 σ = some (r0, σ0)) : Met l yX0_standing (WS yX0_standing cX0_standing 4 (some .int)) rm0_standing (va_Pc [.ref (G.2.2 + 60), .ref (G.2.2 + o1)] (Pd G 212 tt σ)) (P_i G 212 tt r0 σ0) 0 0 (Fr G) := by
  refine ct [(0, .ref (G.2.2 + 60)), (1, .ref (G.2.2 + o1))] rfl (by decide) (Nat.le_of_ble_eq_true rfl) ?_
  intro p e s m below meth c ls X hr hlk hR hl
  have X : Cx p s m _ c cX0_standing 4 RX0 G := X
  have hx := X.1
  have hb := X.2.1
  unfold f0_standing at hf
  refine lv_iconst (v := (0 : Int32)) hx hb dX0_standing_0 (by decide) ?_
  refine lv_istore_n (lv' := [(2, .int (0 : Int32)), (0, .ref (G.2.2 + 60)), (1, .ref (G.2.2 + o1))]) hx hb dX0_standing_1 rfl hl (by decide) rfl (fun ls hl => ?_)
  refine lv_iconst (v := (0 : Int32)) hx hb dX0_standing_2 (by decide) ?_
  refine lv_istore_n (lv' := [(3, .int (0 : Int32)), (2, .int (0 : Int32)), (0, .ref (G.2.2 + 60)), (1, .ref (G.2.2 + o1))]) hx hb dX0_standing_3 rfl hl (by decide) rfl (fun ls hl => ?_)
  exact w0_standing_4 X hr hlk N ho1  N (0 : Int32) (0 : Int32) σ _ _ _ hf hR (lv_sub hl [2, 3, 1, 0] rfl)
abbrev rm0_counting : Room := { frames := 4, cells := 0, slots := 0, locals := 103 }
def f0_counting_83 (N : Nat) (k16 : Int32 → Int32 → Int32 → Mm → Option (Int32 × Mm)) (o1 : Nat) (x2 : Int32) (x3 : Int32) (x4 : Int32) (x5 : Int32) (σ : Mm) : Option (Int32 × Mm) :=
  z_l (x5 + (1 : Int32)) fun x5_8 =>
  k16 x3 x4 x5_8 σ
def f0_counting_16 (N : Nat) (o1 : Nat) (x2 : Int32) : Nat → Int32 → Int32 → Int32 → Mm → Option (Int32 × Mm)
  | 0, _, _, _, _ => none
  | fu + 1, x3, x4, x5, σ => if (gI σ o1 3) ≤ x5 then (
  some (x3, σ)) else (
  z_c (inB x5 20) (
  if (gI σ 51 (ix x5)) = x2 then (
  z_c (inB x5 20) (
  if (gI σ 52 (ix x5)) = x4 then (
  z_b (f0_stands N o1 x5 σ) fun r_11 σ_12 =>
  if r_11 = 0 then (
  f0_counting_83 N (fun x3 x4 x5 σ => f0_counting_16 N o1 x2 fu x3 x4 x5 σ) o1 x2 x3 x4 x5 σ_12) else (
  z_c (inB x5 20) (
  z_l ((gI σ_12 53 (ix x5))) fun x4_16 =>
  z_l ((x3 ||| ((1 : Int32) <<< (x5 &&& 31)))) fun x3_17 =>
  f0_counting_83 N (fun x3 x4 x5 σ => f0_counting_16 N o1 x2 fu x3 x4 x5 σ) o1 x2 x3_17 x4_16 x5 σ_12))) else (
  f0_counting_83 N (fun x3 x4 x5 σ => f0_counting_16 N o1 x2 fu x3 x4 x5 σ) o1 x2 x3 x4 x5 σ))) else (
  f0_counting_83 N (fun x3 x4 x5 σ => f0_counting_16 N o1 x2 fu x3 x4 x5 σ) o1 x2 x3 x4 x5 σ)))
def f0_counting (N : Nat) (o1 : Nat) (x2 : Int32) (σ : Mm) : Option (Int32 × Mm) :=
  z_r (gR σ 60 1) 3 fun t_1 =>
  z_c (inB x2 7) (
  z_l ((gI σ (t_1 + 3) (ix x2))) fun x4_4 =>
  f0_counting_16 N o1 x2 N (0 : Int32) x4_4 (0 : Int32) σ)
set_option maxHeartbeats 4000000 in
set_option maxRecDepth 100000 in
theorem w0_counting_83 (X : Cx p s m args c cX0_counting 6 RX0 G) (hr : meth.sig.returnType = some .int) (hlk : meth.locks = false) (N : Nat) {o1 : Nat} (ho1 : (kd o1).1 = 5) {x2 : Int32} {k16 : Int32 → Int32 → Int32 → Mm → Option (Int32 × Mm)} (hk16 : ∀ (x3 : Int32) (x4 : Int32) (x5 : Int32) (σ : Mm) (H : Heap) (locs : List Loc) (ls : Array Slot), k16 x3 x4 x5 σ = some (r0, σ0) → Rp G 212 tt σ s H locs → lv_has ls 6 [(0, .ref (G.2.2 + 60)), (1, .ref (G.2.2 + o1)), (2, .int x2), (3, .int x3), (4, .int x4), (5, .int x5)] → W p l e rm0_counting s m args below meth c H locs 0 0 (MQ below (P_i G 212 tt r0 σ0) args s 0 0 (Fr G)) (F0 m 16 ls [])) :
    ∀ (x3 : Int32) (x4 : Int32) (x5 : Int32) (σ : Mm) (H : Heap) (locs : List Loc) (ls : Array Slot), f0_counting_83 N k16 o1 x2 x3 x4 x5 σ = some (r0, σ0) → Rp G 212 tt σ s H locs → lv_has ls 6 [(0, .ref (G.2.2 + 60)), (1, .ref (G.2.2 + o1)), (2, .int x2), (3, .int x3), (4, .int x4), (5, .int x5)] → W p l e rm0_counting s m args below meth c H locs 0 0 (MQ below (P_i G 212 tt r0 σ0) args s 0 0 (Fr G)) (F0 m 83 ls []) := by
  have hx := X.1
  have hb := X.2.1
  intro x3 x4 x5 σ H locs ls hf hR hl
  unfold f0_counting_83 at hf
  obtain ⟨x5_8, ex5_8⟩ : ∃ z : Int32, z = x5 + (1 : Int32) := ⟨_, rfl⟩
  replace hf := z_l_e ex5_8 hf
  refine lv_iinc (v := x5_8) (lv' := [(5, .int x5_8), (0, .ref (G.2.2 + 60)), (1, .ref (G.2.2 + o1)), (2, .int x2), (3, .int x3), (4, .int x4)]) hx hb dX0_counting_83 hl (k := 5) rfl (by rw [ex5_8]; rfl) (by decide) rfl (fun ls hl => ?_)
  refine lv_goto (tgt := 16) hx hb dX0_counting_86 (by decide) ?_
  exact hk16 x3 x4 x5_8 σ _ _ _ hf hR (lv_sub hl [1, 2, 3, 4, 5, 0] rfl)
set_option maxHeartbeats 4000000 in
set_option maxRecDepth 100000 in
theorem w0_counting_16 (X : Cx p s m args c cX0_counting 6 RX0 G) (hr : meth.sig.returnType = some .int) (hlk : meth.locks = false) (N : Nat) {o1 : Nat} (ho1 : (kd o1).1 = 5) {x2 : Int32} :
    ∀ (fu : Nat) (x3 : Int32) (x4 : Int32) (x5 : Int32) (σ : Mm) (H : Heap) (locs : List Loc) (ls : Array Slot), f0_counting_16 N o1 x2 fu x3 x4 x5 σ = some (r0, σ0) → Rp G 212 tt σ s H locs → lv_has ls 6 [(0, .ref (G.2.2 + 60)), (1, .ref (G.2.2 + o1)), (2, .int x2), (3, .int x3), (4, .int x4), (5, .int x5)] → W p l e rm0_counting s m args below meth c H locs 0 0 (MQ below (P_i G 212 tt r0 σ0) args s 0 0 (Fr G)) (F0 m 16 ls []) := by
  have hx := X.1
  have hb := X.2.1
  intro fu
  induction fu with
  | zero =>
    intro x3 x4 x5 σ H locs ls hf hR hl
    rw [f0_counting_16] at hf
    cases hf
  | succ fu ih =>
    intro x3 x4 x5 σ H locs ls hf hR hl
    rw [f0_counting_16] at hf
    refine lv_iload hx hb dX0_counting_16 (lv_at hl 5 rfl) ?_
    refine lv_aload_n hx hb dX0_counting_18 rfl (lv_at hl 1 rfl) ?_
    refine r_gi X hR fi_0_87 ho1 dX0_counting_19 ?_
    refine lv_icmp_ge (tgt := 89) hx hb dX0_counting_22 (by decide) (fun c_5 => ?_) (fun c_5 => ?_)
    · replace hf := z_t c_5 hf
      refine lv_iload_n hx hb dX0_counting_89 rfl (lv_at hl 3 rfl) ?_
      exact e_i X hR hr hlk hf dX0_counting_90
    · replace hf := z_f c_5 hf
      refine lv_aload_n hx hb dX0_counting_25 rfl (lv_at hl 0 rfl) ?_
      refine r_gs (t := 50) X hR fr_0_27 kh_60 (sx_0_0 kh_60) dX0_counting_26 ?_
      refine r_gs (t := 51) X hR fr_0_102 kh_50 (sx_1_0 kh_50) dX0_counting_29 ?_
      refine lv_iload hx hb dX0_counting_32 (lv_at hl 5 rfl) ?_
      obtain ⟨hi_6, hf⟩ := z_c_e hf
      refine r_ial X hR ka_51 hi_6 dX0_counting_34 ?_
      refine lv_iload_n hx hb dX0_counting_35 rfl (lv_at hl 2 rfl) ?_
      refine lv_icmp_ne (tgt := 83) hx hb dX0_counting_36 (by decide) (fun c_7 => ?_) (fun c_7 => ?_)
      · replace hf := z_f c_7 hf
        exact w0_counting_83 X hr hlk N ho1 ih x3 x4 x5 σ _ _ _ hf hR (lv_sub hl [0, 1, 2, 3, 4, 5] rfl)
      · replace hf := z_t c_7 hf
        refine lv_aload_n hx hb dX0_counting_39 rfl (lv_at hl 0 rfl) ?_
        refine r_gs (t := 50) X hR fr_0_27 kh_60 (sx_0_0 kh_60) dX0_counting_40 ?_
        refine r_gs (t := 52) X hR fr_0_105 kh_50 (sx_1_1 kh_50) dX0_counting_43 ?_
        refine lv_iload hx hb dX0_counting_46 (lv_at hl 5 rfl) ?_
        obtain ⟨hi_9, hf⟩ := z_c_e hf
        refine r_ial X hR ka_52 hi_9 dX0_counting_48 ?_
        refine lv_iload hx hb dX0_counting_49 (lv_at hl 4 rfl) ?_
        refine lv_icmp_ne (tgt := 83) hx hb dX0_counting_51 (by decide) (fun c_10 => ?_) (fun c_10 => ?_)
        · replace hf := z_f c_10 hf
          exact w0_counting_83 X hr hlk N ho1 ih x3 x4 x5 σ _ _ _ hf hR (lv_sub hl [0, 1, 2, 3, 4, 5] rfl)
        · replace hf := z_t c_10 hf
          refine lv_aload_n hx hb dX0_counting_54 rfl (lv_at hl 0 rfl) ?_
          refine lv_aload_n hx hb dX0_counting_55 rfl (lv_at hl 1 rfl) ?_
          refine lv_iload hx hb dX0_counting_56 (lv_at hl 5 rfl) ?_
          obtain ⟨r_11, σ_12, hc_13, hf⟩ := z_b_e hf
          refine go_i hR (mv_run (As := [.ref (G.2.2 + o1), .int x5]) (rest := []) X hR mv_0_95 kh_60 (kd_lt kh_60 (by decide)) (c0_stands l G N ho1 hc_13) ⟨rfl, rfl, Nat.le_of_ble_eq_true rfl, Nat.le_of_ble_eq_true rfl⟩ rfl hl.1 rfl (Nat.le_of_ble_eq_true rfl) dX0_counting_58 ⟨Nat.zero_le _, Nat.zero_le _⟩) (fun H locs hR => ?_)
          refine lv_if_eq (tgt := 83) hx hb dX0_counting_61 (by decide) (fun c_14 => ?_) (fun c_14 => ?_)
          · replace hf := z_t c_14 hf
            exact w0_counting_83 X hr hlk N ho1 ih x3 x4 x5 σ_12 _ _ _ hf hR (lv_sub hl [0, 1, 2, 3, 4, 5] rfl)
          · replace hf := z_f c_14 hf
            refine lv_aload_n hx hb dX0_counting_64 rfl (lv_at hl 0 rfl) ?_
            refine r_gs (t := 50) X hR fr_0_27 kh_60 (sx_0_0 kh_60) dX0_counting_65 ?_
            refine r_gs (t := 53) X hR fr_0_108 kh_50 (sx_1_2 kh_50) dX0_counting_68 ?_
            refine lv_iload hx hb dX0_counting_71 (lv_at hl 5 rfl) ?_
            obtain ⟨hi_15, hf⟩ := z_c_e hf
            refine r_ial X hR ka_53 hi_15 dX0_counting_73 ?_
            refine lv_topi (fun x4_16 ex4_16 => ?_)
            replace hf := z_l_e ex4_16 hf
            refine lv_istore (lv' := [(4, .int x4_16), (0, .ref (G.2.2 + 60)), (1, .ref (G.2.2 + o1)), (2, .int x2), (3, .int x3), (5, .int x5)]) hx hb dX0_counting_74 hl (by decide) rfl (fun ls hl => ?_)
            refine lv_iload_n hx hb dX0_counting_76 rfl (lv_at hl 4 rfl) ?_
            refine lv_iconst (v := (1 : Int32)) hx hb dX0_counting_77 (by decide) ?_
            refine lv_iload hx hb dX0_counting_78 (lv_at hl 5 rfl) ?_
            refine lv_ishl hx hb dX0_counting_80 ?_
            refine lv_ior hx hb dX0_counting_81 ?_
            refine lv_topi (fun x3_17 ex3_17 => ?_)
            replace hf := z_l_e ex3_17 hf
            refine lv_istore_n (lv' := [(3, .int x3_17), (4, .int x4_16), (0, .ref (G.2.2 + 60)), (1, .ref (G.2.2 + o1)), (2, .int x2), (5, .int x5)]) hx hb dX0_counting_82 rfl hl (by decide) rfl (fun ls hl => ?_)
            exact w0_counting_83 X hr hlk N ho1 ih x3_17 x4_16 x5 σ_12 _ _ _ hf hR (lv_sub hl [2, 3, 4, 0, 1, 5] rfl)
set_option maxHeartbeats 4000000 in
set_option maxRecDepth 100000 in
theorem c0_counting (l : Launch) (G : Gp) (N : Nat) {o1 : Nat} (ho1 : (kd o1).1 = 5) {x2 : Int32} {σ σ0 : Mm} {r0 : Int32} (hf : f0_counting N o1 x2 σ = some (r0, σ0)) : Met l yX0_counting (WS yX0_counting cX0_counting 6 (some .int)) rm0_counting (va_Pc [.ref (G.2.2 + 60), .ref (G.2.2 + o1), .int x2] (Pd G 212 tt σ)) (P_i G 212 tt r0 σ0) 0 0 (Fr G) := by
  refine ct [(0, .ref (G.2.2 + 60)), (1, .ref (G.2.2 + o1)), (2, .int x2)] rfl (by decide) (Nat.le_of_ble_eq_true rfl) ?_
  intro p e s m below meth c ls X hr hlk hR hl
  have X : Cx p s m _ c cX0_counting 6 RX0 G := X
  have hx := X.1
  have hb := X.2.1
  unfold f0_counting at hf
  refine lv_iconst (v := (0 : Int32)) hx hb dX0_counting_0 (by decide) ?_
  refine lv_istore_n (lv' := [(3, .int (0 : Int32)), (0, .ref (G.2.2 + 60)), (1, .ref (G.2.2 + o1)), (2, .int x2)]) hx hb dX0_counting_1 rfl hl (by decide) rfl (fun ls hl => ?_)
  refine lv_aload_n hx hb dX0_counting_2 rfl (lv_at hl 1 rfl) ?_
  obtain ⟨t_1, ht_2, kht_2, hf⟩ := z_r_e hf
  refine r_gd X hR fr_0_31 kh_60 ht_2 dX0_counting_3 ?_
  refine r_gs (t := (t_1 + 3)) X hR fr_0_99 kht_2 (sx_3_8 kht_2) dX0_counting_6 ?_
  refine lv_iload_n hx hb dX0_counting_9 rfl (lv_at hl 3 rfl) ?_
  obtain ⟨hi_3, hf⟩ := z_c_e hf
  refine r_ial X hR (kx_3_8 kht_2) hi_3 dX0_counting_10 ?_
  refine lv_topi (fun x4_4 ex4_4 => ?_)
  replace hf := z_l_e ex4_4 hf
  refine lv_istore (lv' := [(4, .int x4_4), (3, .int (0 : Int32)), (0, .ref (G.2.2 + 60)), (1, .ref (G.2.2 + o1)), (2, .int x2)]) hx hb dX0_counting_11 hl (by decide) rfl (fun ls hl => ?_)
  refine lv_iconst (v := (0 : Int32)) hx hb dX0_counting_13 (by decide) ?_
  refine lv_istore (lv' := [(5, .int (0 : Int32)), (4, .int x4_4), (3, .int (0 : Int32)), (0, .ref (G.2.2 + 60)), (1, .ref (G.2.2 + o1)), (2, .int x2)]) hx hb dX0_counting_14 hl (by decide) rfl (fun ls hl => ?_)
  exact w0_counting_16 X hr hlk N ho1  N (0 : Int32) x4_4 (0 : Int32) σ _ _ _ hf hR (lv_sub hl [3, 4, 5, 2, 1, 0] rfl)
abbrev rm0_countingOfAll : Room := { frames := 5, cells := 0, slots := 0, locals := 128 }
def f0_countingOfAll_4 (N : Nat) (o1 : Nat) : Nat → Int32 → Int32 → Mm → Option (Int32 × Mm)
  | 0, _, _, _ => none
  | fu + 1, x2, x3, σ => z_r (gR σ 60 1) 3 fun t_1 =>
  if (gI σ t_1 1) ≤ x3 then (
  some (x2, σ)) else (
  z_b (f0_counting N o1 x3 σ) fun r_4 σ_5 =>
  z_l ((x2 ||| r_4)) fun x2_7 =>
  z_l (x3 + (1 : Int32)) fun x3_8 =>
  f0_countingOfAll_4 N o1 fu x2_7 x3_8 σ_5)
def f0_countingOfAll (N : Nat) (o1 : Nat) (σ : Mm) : Option (Int32 × Mm) :=
  f0_countingOfAll_4 N o1 N (0 : Int32) (0 : Int32) σ
set_option maxHeartbeats 4000000 in
set_option maxRecDepth 100000 in
theorem w0_countingOfAll_4 (X : Cx p s m args c cX0_countingOfAll 4 RX0 G) (hr : meth.sig.returnType = some .int) (hlk : meth.locks = false) (N : Nat) {o1 : Nat} (ho1 : (kd o1).1 = 5) :
    ∀ (fu : Nat) (x2 : Int32) (x3 : Int32) (σ : Mm) (H : Heap) (locs : List Loc) (ls : Array Slot), f0_countingOfAll_4 N o1 fu x2 x3 σ = some (r0, σ0) → Rp G 212 tt σ s H locs → lv_has ls 4 [(0, .ref (G.2.2 + 60)), (1, .ref (G.2.2 + o1)), (2, .int x2), (3, .int x3)] → W p l e rm0_countingOfAll s m args below meth c H locs 0 0 (MQ below (P_i G 212 tt r0 σ0) args s 0 0 (Fr G)) (F0 m 4 ls []) := by
  have hx := X.1
  have hb := X.2.1
  intro fu
  induction fu with
  | zero =>
    intro x2 x3 σ H locs ls hf hR hl
    rw [f0_countingOfAll_4] at hf
    cases hf
  | succ fu ih =>
    intro x2 x3 σ H locs ls hf hR hl
    rw [f0_countingOfAll_4] at hf
    refine lv_iload_n hx hb dX0_countingOfAll_4 rfl (lv_at hl 3 rfl) ?_
    refine lv_aload_n hx hb dX0_countingOfAll_5 rfl (lv_at hl 0 rfl) ?_
    obtain ⟨t_1, ht_2, kht_2, hf⟩ := z_r_e hf
    refine r_gd X hR fr_0_31 kh_60 ht_2 dX0_countingOfAll_6 ?_
    refine r_gi X hR fi_0_111 kht_2 dX0_countingOfAll_9 ?_
    refine lv_icmp_ge (tgt := 30) hx hb dX0_countingOfAll_12 (by decide) (fun c_3 => ?_) (fun c_3 => ?_)
    · replace hf := z_t c_3 hf
      refine lv_iload_n hx hb dX0_countingOfAll_30 rfl (lv_at hl 2 rfl) ?_
      exact e_i X hR hr hlk hf dX0_countingOfAll_31
    · replace hf := z_f c_3 hf
      refine lv_iload_n hx hb dX0_countingOfAll_15 rfl (lv_at hl 2 rfl) ?_
      refine lv_aload_n hx hb dX0_countingOfAll_16 rfl (lv_at hl 0 rfl) ?_
      refine lv_aload_n hx hb dX0_countingOfAll_17 rfl (lv_at hl 1 rfl) ?_
      refine lv_iload_n hx hb dX0_countingOfAll_18 rfl (lv_at hl 3 rfl) ?_
      obtain ⟨r_4, σ_5, hc_6, hf⟩ := z_b_e hf
      refine go_i hR (mv_run (As := [.ref (G.2.2 + o1), .int x3]) (rest := [.int x2]) X hR mv_0_114 kh_60 (kd_lt kh_60 (by decide)) (c0_counting l G N ho1 hc_6) ⟨rfl, rfl, Nat.le_of_ble_eq_true rfl, Nat.le_of_ble_eq_true rfl⟩ rfl hl.1 rfl (Nat.le_of_ble_eq_true rfl) dX0_countingOfAll_19 ⟨Nat.zero_le _, Nat.zero_le _⟩) (fun H locs hR => ?_)
      refine lv_ior hx hb dX0_countingOfAll_22 ?_
      refine lv_topi (fun x2_7 ex2_7 => ?_)
      replace hf := z_l_e ex2_7 hf
      refine lv_istore_n (lv' := [(2, .int x2_7), (0, .ref (G.2.2 + 60)), (1, .ref (G.2.2 + o1)), (3, .int x3)]) hx hb dX0_countingOfAll_23 rfl hl (by decide) rfl (fun ls hl => ?_)
      obtain ⟨x3_8, ex3_8⟩ : ∃ z : Int32, z = x3 + (1 : Int32) := ⟨_, rfl⟩
      replace hf := z_l_e ex3_8 hf
      refine lv_iinc (v := x3_8) (lv' := [(3, .int x3_8), (2, .int x2_7), (0, .ref (G.2.2 + 60)), (1, .ref (G.2.2 + o1))]) hx hb dX0_countingOfAll_24 hl (k := 3) rfl (by rw [ex3_8]; rfl) (by decide) rfl (fun ls hl => ?_)
      refine lv_goto (tgt := 4) hx hb dX0_countingOfAll_27 (by decide) ?_
      exact ih x2_7 x3_8 σ_5 _ _ _ hf hR (lv_sub hl [2, 3, 1, 0] rfl)
set_option maxHeartbeats 4000000 in
set_option maxRecDepth 100000 in
theorem c0_countingOfAll (l : Launch) (G : Gp) (N : Nat) {o1 : Nat} (ho1 : (kd o1).1 = 5) {σ σ0 : Mm} {r0 : Int32} (hf : f0_countingOfAll N o1 σ = some (r0, σ0)) : Met l yX0_countingOfAll (WS yX0_countingOfAll cX0_countingOfAll 4 (some .int)) rm0_countingOfAll (va_Pc [.ref (G.2.2 + 60), .ref (G.2.2 + o1)] (Pd G 212 tt σ)) (P_i G 212 tt r0 σ0) 0 0 (Fr G) := by
  refine ct [(0, .ref (G.2.2 + 60)), (1, .ref (G.2.2 + o1))] rfl (by decide) (Nat.le_of_ble_eq_true rfl) ?_
  intro p e s m below meth c ls X hr hlk hR hl
  have X : Cx p s m _ c cX0_countingOfAll 4 RX0 G := X
  have hx := X.1
  have hb := X.2.1
  unfold f0_countingOfAll at hf
  refine lv_iconst (v := (0 : Int32)) hx hb dX0_countingOfAll_0 (by decide) ?_
  refine lv_istore_n (lv' := [(2, .int (0 : Int32)), (0, .ref (G.2.2 + 60)), (1, .ref (G.2.2 + o1))]) hx hb dX0_countingOfAll_1 rfl hl (by decide) rfl (fun ls hl => ?_)
  refine lv_iconst (v := (0 : Int32)) hx hb dX0_countingOfAll_2 (by decide) ?_
  refine lv_istore_n (lv' := [(3, .int (0 : Int32)), (2, .int (0 : Int32)), (0, .ref (G.2.2 + 60)), (1, .ref (G.2.2 + o1))]) hx hb dX0_countingOfAll_3 rfl hl (by decide) rfl (fun ls hl => ?_)
  exact w0_countingOfAll_4 X hr hlk N ho1  N (0 : Int32) (0 : Int32) σ _ _ _ hf hR (lv_sub hl [2, 3, 1, 0] rfl)
abbrev rm0_owner : Room := { frames := 4, cells := 0, slots := 0, locals := 103 }
def f0_owner_71 (N : Nat) (k13 : Int32 → Int32 → Mm → Option (Int32 × Mm)) (o1 : Nat) (x2 : Int32) (x3 : Int32) (x4 : Int32) (σ : Mm) : Option (Int32 × Mm) :=
  z_l (x4 + (1 : Int32)) fun x4_8 =>
  k13 x3 x4_8 σ
def f0_owner_13 (N : Nat) (o1 : Nat) (x2 : Int32) : Nat → Int32 → Int32 → Mm → Option (Int32 × Mm)
  | 0, _, _, _ => none
  | fu + 1, x3, x4, σ => if (gI σ o1 3) ≤ x4 then (
  some (x3, σ)) else (
  z_c (inB x4 20) (
  if (gI σ 51 (ix x4)) = x2 then (
  z_c (inB x4 20) (
  if (gI σ 52 (ix x4)) = x3 then (
  z_b (f0_stands N o1 x4 σ) fun r_11 σ_12 =>
  if r_11 = 0 then (
  f0_owner_71 N (fun x3 x4 σ => f0_owner_13 N o1 x2 fu x3 x4 σ) o1 x2 x3 x4 σ_12) else (
  z_c (inB x4 20) (
  z_l ((gI σ_12 53 (ix x4))) fun x3_16 =>
  f0_owner_71 N (fun x3 x4 σ => f0_owner_13 N o1 x2 fu x3 x4 σ) o1 x2 x3_16 x4 σ_12))) else (
  f0_owner_71 N (fun x3 x4 σ => f0_owner_13 N o1 x2 fu x3 x4 σ) o1 x2 x3 x4 σ))) else (
  f0_owner_71 N (fun x3 x4 σ => f0_owner_13 N o1 x2 fu x3 x4 σ) o1 x2 x3 x4 σ)))
def f0_owner (N : Nat) (o1 : Nat) (x2 : Int32) (σ : Mm) : Option (Int32 × Mm) :=
  z_r (gR σ 60 1) 3 fun t_1 =>
  z_c (inB x2 7) (
  z_l ((gI σ (t_1 + 3) (ix x2))) fun x3_4 =>
  f0_owner_13 N o1 x2 N x3_4 (0 : Int32) σ)
set_option maxHeartbeats 4000000 in
set_option maxRecDepth 100000 in
theorem w0_owner_71 (X : Cx p s m args c cX0_owner 5 RX0 G) (hr : meth.sig.returnType = some .int) (hlk : meth.locks = false) (N : Nat) {o1 : Nat} (ho1 : (kd o1).1 = 5) {x2 : Int32} {k13 : Int32 → Int32 → Mm → Option (Int32 × Mm)} (hk13 : ∀ (x3 : Int32) (x4 : Int32) (σ : Mm) (H : Heap) (locs : List Loc) (ls : Array Slot), k13 x3 x4 σ = some (r0, σ0) → Rp G 212 tt σ s H locs → lv_has ls 5 [(0, .ref (G.2.2 + 60)), (1, .ref (G.2.2 + o1)), (2, .int x2), (3, .int x3), (4, .int x4)] → W p l e rm0_owner s m args below meth c H locs 0 0 (MQ below (P_i G 212 tt r0 σ0) args s 0 0 (Fr G)) (F0 m 13 ls [])) :
    ∀ (x3 : Int32) (x4 : Int32) (σ : Mm) (H : Heap) (locs : List Loc) (ls : Array Slot), f0_owner_71 N k13 o1 x2 x3 x4 σ = some (r0, σ0) → Rp G 212 tt σ s H locs → lv_has ls 5 [(0, .ref (G.2.2 + 60)), (1, .ref (G.2.2 + o1)), (2, .int x2), (3, .int x3), (4, .int x4)] → W p l e rm0_owner s m args below meth c H locs 0 0 (MQ below (P_i G 212 tt r0 σ0) args s 0 0 (Fr G)) (F0 m 71 ls []) := by
  have hx := X.1
  have hb := X.2.1
  intro x3 x4 σ H locs ls hf hR hl
  unfold f0_owner_71 at hf
  obtain ⟨x4_8, ex4_8⟩ : ∃ z : Int32, z = x4 + (1 : Int32) := ⟨_, rfl⟩
  replace hf := z_l_e ex4_8 hf
  refine lv_iinc (v := x4_8) (lv' := [(4, .int x4_8), (0, .ref (G.2.2 + 60)), (1, .ref (G.2.2 + o1)), (2, .int x2), (3, .int x3)]) hx hb dX0_owner_71 hl (k := 4) rfl (by rw [ex4_8]; rfl) (by decide) rfl (fun ls hl => ?_)
  refine lv_goto (tgt := 13) hx hb dX0_owner_74 (by decide) ?_
  exact hk13 x3 x4_8 σ _ _ _ hf hR (lv_sub hl [1, 2, 3, 4, 0] rfl)
set_option maxHeartbeats 4000000 in
set_option maxRecDepth 100000 in
theorem w0_owner_13 (X : Cx p s m args c cX0_owner 5 RX0 G) (hr : meth.sig.returnType = some .int) (hlk : meth.locks = false) (N : Nat) {o1 : Nat} (ho1 : (kd o1).1 = 5) {x2 : Int32} :
    ∀ (fu : Nat) (x3 : Int32) (x4 : Int32) (σ : Mm) (H : Heap) (locs : List Loc) (ls : Array Slot), f0_owner_13 N o1 x2 fu x3 x4 σ = some (r0, σ0) → Rp G 212 tt σ s H locs → lv_has ls 5 [(0, .ref (G.2.2 + 60)), (1, .ref (G.2.2 + o1)), (2, .int x2), (3, .int x3), (4, .int x4)] → W p l e rm0_owner s m args below meth c H locs 0 0 (MQ below (P_i G 212 tt r0 σ0) args s 0 0 (Fr G)) (F0 m 13 ls []) := by
  have hx := X.1
  have hb := X.2.1
  intro fu
  induction fu with
  | zero =>
    intro x3 x4 σ H locs ls hf hR hl
    rw [f0_owner_13] at hf
    cases hf
  | succ fu ih =>
    intro x3 x4 σ H locs ls hf hR hl
    rw [f0_owner_13] at hf
    refine lv_iload hx hb dX0_owner_13 (lv_at hl 4 rfl) ?_
    refine lv_aload_n hx hb dX0_owner_15 rfl (lv_at hl 1 rfl) ?_
    refine r_gi X hR fi_0_87 ho1 dX0_owner_16 ?_
    refine lv_icmp_ge (tgt := 77) hx hb dX0_owner_19 (by decide) (fun c_5 => ?_) (fun c_5 => ?_)
    · replace hf := z_t c_5 hf
      refine lv_iload_n hx hb dX0_owner_77 rfl (lv_at hl 3 rfl) ?_
      exact e_i X hR hr hlk hf dX0_owner_78
    · replace hf := z_f c_5 hf
      refine lv_aload_n hx hb dX0_owner_22 rfl (lv_at hl 0 rfl) ?_
      refine r_gs (t := 50) X hR fr_0_27 kh_60 (sx_0_0 kh_60) dX0_owner_23 ?_
      refine r_gs (t := 51) X hR fr_0_102 kh_50 (sx_1_0 kh_50) dX0_owner_26 ?_
      refine lv_iload hx hb dX0_owner_29 (lv_at hl 4 rfl) ?_
      obtain ⟨hi_6, hf⟩ := z_c_e hf
      refine r_ial X hR ka_51 hi_6 dX0_owner_31 ?_
      refine lv_iload_n hx hb dX0_owner_32 rfl (lv_at hl 2 rfl) ?_
      refine lv_icmp_ne (tgt := 71) hx hb dX0_owner_33 (by decide) (fun c_7 => ?_) (fun c_7 => ?_)
      · replace hf := z_f c_7 hf
        exact w0_owner_71 X hr hlk N ho1 ih x3 x4 σ _ _ _ hf hR (lv_sub hl [0, 1, 2, 3, 4] rfl)
      · replace hf := z_t c_7 hf
        refine lv_aload_n hx hb dX0_owner_36 rfl (lv_at hl 0 rfl) ?_
        refine r_gs (t := 50) X hR fr_0_27 kh_60 (sx_0_0 kh_60) dX0_owner_37 ?_
        refine r_gs (t := 52) X hR fr_0_105 kh_50 (sx_1_1 kh_50) dX0_owner_40 ?_
        refine lv_iload hx hb dX0_owner_43 (lv_at hl 4 rfl) ?_
        obtain ⟨hi_9, hf⟩ := z_c_e hf
        refine r_ial X hR ka_52 hi_9 dX0_owner_45 ?_
        refine lv_iload_n hx hb dX0_owner_46 rfl (lv_at hl 3 rfl) ?_
        refine lv_icmp_ne (tgt := 71) hx hb dX0_owner_47 (by decide) (fun c_10 => ?_) (fun c_10 => ?_)
        · replace hf := z_f c_10 hf
          exact w0_owner_71 X hr hlk N ho1 ih x3 x4 σ _ _ _ hf hR (lv_sub hl [0, 1, 2, 3, 4] rfl)
        · replace hf := z_t c_10 hf
          refine lv_aload_n hx hb dX0_owner_50 rfl (lv_at hl 0 rfl) ?_
          refine lv_aload_n hx hb dX0_owner_51 rfl (lv_at hl 1 rfl) ?_
          refine lv_iload hx hb dX0_owner_52 (lv_at hl 4 rfl) ?_
          obtain ⟨r_11, σ_12, hc_13, hf⟩ := z_b_e hf
          refine go_i hR (mv_run (As := [.ref (G.2.2 + o1), .int x4]) (rest := []) X hR mv_0_95 kh_60 (kd_lt kh_60 (by decide)) (c0_stands l G N ho1 hc_13) ⟨rfl, rfl, Nat.le_of_ble_eq_true rfl, Nat.le_of_ble_eq_true rfl⟩ rfl hl.1 rfl (Nat.le_of_ble_eq_true rfl) dX0_owner_54 ⟨Nat.zero_le _, Nat.zero_le _⟩) (fun H locs hR => ?_)
          refine lv_if_eq (tgt := 71) hx hb dX0_owner_57 (by decide) (fun c_14 => ?_) (fun c_14 => ?_)
          · replace hf := z_t c_14 hf
            exact w0_owner_71 X hr hlk N ho1 ih x3 x4 σ_12 _ _ _ hf hR (lv_sub hl [0, 1, 2, 3, 4] rfl)
          · replace hf := z_f c_14 hf
            refine lv_aload_n hx hb dX0_owner_60 rfl (lv_at hl 0 rfl) ?_
            refine r_gs (t := 50) X hR fr_0_27 kh_60 (sx_0_0 kh_60) dX0_owner_61 ?_
            refine r_gs (t := 53) X hR fr_0_108 kh_50 (sx_1_2 kh_50) dX0_owner_64 ?_
            refine lv_iload hx hb dX0_owner_67 (lv_at hl 4 rfl) ?_
            obtain ⟨hi_15, hf⟩ := z_c_e hf
            refine r_ial X hR ka_53 hi_15 dX0_owner_69 ?_
            refine lv_topi (fun x3_16 ex3_16 => ?_)
            replace hf := z_l_e ex3_16 hf
            refine lv_istore_n (lv' := [(3, .int x3_16), (0, .ref (G.2.2 + 60)), (1, .ref (G.2.2 + o1)), (2, .int x2), (4, .int x4)]) hx hb dX0_owner_70 rfl hl (by decide) rfl (fun ls hl => ?_)
            exact w0_owner_71 X hr hlk N ho1 ih x3_16 x4 σ_12 _ _ _ hf hR (lv_sub hl [1, 2, 3, 0, 4] rfl)
set_option maxHeartbeats 4000000 in
set_option maxRecDepth 100000 in
theorem c0_owner (l : Launch) (G : Gp) (N : Nat) {o1 : Nat} (ho1 : (kd o1).1 = 5) {x2 : Int32} {σ σ0 : Mm} {r0 : Int32} (hf : f0_owner N o1 x2 σ = some (r0, σ0)) : Met l yX0_owner (WS yX0_owner cX0_owner 5 (some .int)) rm0_owner (va_Pc [.ref (G.2.2 + 60), .ref (G.2.2 + o1), .int x2] (Pd G 212 tt σ)) (P_i G 212 tt r0 σ0) 0 0 (Fr G) := by
  refine ct [(0, .ref (G.2.2 + 60)), (1, .ref (G.2.2 + o1)), (2, .int x2)] rfl (by decide) (Nat.le_of_ble_eq_true rfl) ?_
  intro p e s m below meth c ls X hr hlk hR hl
  have X : Cx p s m _ c cX0_owner 5 RX0 G := X
  have hx := X.1
  have hb := X.2.1
  unfold f0_owner at hf
  refine lv_aload_n hx hb dX0_owner_0 rfl (lv_at hl 0 rfl) ?_
  obtain ⟨t_1, ht_2, kht_2, hf⟩ := z_r_e hf
  refine r_gd X hR fr_0_31 kh_60 ht_2 dX0_owner_1 ?_
  refine r_gs (t := (t_1 + 3)) X hR fr_0_99 kht_2 (sx_3_8 kht_2) dX0_owner_4 ?_
  refine lv_iload_n hx hb dX0_owner_7 rfl (lv_at hl 2 rfl) ?_
  obtain ⟨hi_3, hf⟩ := z_c_e hf
  refine r_ial X hR (kx_3_8 kht_2) hi_3 dX0_owner_8 ?_
  refine lv_topi (fun x3_4 ex3_4 => ?_)
  replace hf := z_l_e ex3_4 hf
  refine lv_istore_n (lv' := [(3, .int x3_4), (0, .ref (G.2.2 + 60)), (1, .ref (G.2.2 + o1)), (2, .int x2)]) hx hb dX0_owner_9 rfl hl (by decide) rfl (fun ls hl => ?_)
  refine lv_iconst (v := (0 : Int32)) hx hb dX0_owner_10 (by decide) ?_
  refine lv_istore (lv' := [(4, .int (0 : Int32)), (3, .int x3_4), (0, .ref (G.2.2 + 60)), (1, .ref (G.2.2 + o1)), (2, .int x2)]) hx hb dX0_owner_11 hl (by decide) rfl (fun ls hl => ?_)
  exact w0_owner_13 X hr hlk N ho1  N x3_4 (0 : Int32) σ _ _ _ hf hR (lv_sub hl [2, 3, 4, 1, 0] rfl)
abbrev rm0_ownerByBook : Room := { frames := 0, cells := 0, slots := 0, locals := 0 }
def f0_ownerByBook_85 (N : Nat) (k13 : Int32 → Int32 → Mm → Option (Int32 × Mm)) (o1 : Nat) (x2 : Int32) (x3 : Int32) (x4 : Int32) (σ : Mm) : Option (Int32 × Mm) :=
  z_l (x4 + (1 : Int32)) fun x4_8 =>
  k13 x3 x4_8 σ
def f0_ownerByBook_39 (N : Nat) (k13 : Int32 → Int32 → Mm → Option (Int32 × Mm)) (o1 : Nat) (x2 : Int32) (x3 : Int32) (x4 : Int32) (s0 : Int32) (σ : Mm) : Option (Int32 × Mm) :=
  if s0 = 0 then (
  f0_ownerByBook_85 N k13 o1 x2 x3 x4 σ) else (
  z_c (inB x4 20) (
  if (gI σ 51 (ix x4)) = x2 then (
  z_c (inB x4 20) (
  if (gI σ 52 (ix x4)) = x3 then (
  z_c (inB x4 20) (
  z_l ((gI σ 53 (ix x4))) fun x3_14 =>
  f0_ownerByBook_85 N k13 o1 x2 x3_14 x4 σ)) else (
  f0_ownerByBook_85 N k13 o1 x2 x3 x4 σ))) else (
  f0_ownerByBook_85 N k13 o1 x2 x3 x4 σ)))
def f0_ownerByBook_13 (N : Nat) (o1 : Nat) (x2 : Int32) : Nat → Int32 → Int32 → Mm → Option (Int32 × Mm)
  | 0, _, _, _ => none
  | fu + 1, x3, x4, σ => if (gI σ o1 3) ≤ x4 then (
  some (x3, σ)) else (
  if (((gI σ o1 2) >>> (x4 &&& 31)) &&& (1 : Int32)) = 0 then (
  f0_ownerByBook_39 N (fun x3 x4 σ => f0_ownerByBook_13 N o1 x2 fu x3 x4 σ) o1 x2 x3 x4 (1 : Int32) σ) else (
  f0_ownerByBook_39 N (fun x3 x4 σ => f0_ownerByBook_13 N o1 x2 fu x3 x4 σ) o1 x2 x3 x4 (0 : Int32) σ))
def f0_ownerByBook (N : Nat) (o1 : Nat) (x2 : Int32) (σ : Mm) : Option (Int32 × Mm) :=
  z_r (gR σ 60 1) 3 fun t_1 =>
  z_c (inB x2 7) (
  z_l ((gI σ (t_1 + 3) (ix x2))) fun x3_4 =>
  f0_ownerByBook_13 N o1 x2 N x3_4 (0 : Int32) σ)
set_option maxHeartbeats 4000000 in
set_option maxRecDepth 100000 in
theorem w0_ownerByBook_85 (X : Cx p s m args c cX0_ownerByBook 6 RX0 G) (hr : meth.sig.returnType = some .int) (hlk : meth.locks = false) (N : Nat) {o1 : Nat} (ho1 : (kd o1).1 = 5) {x2 : Int32} {k13 : Int32 → Int32 → Mm → Option (Int32 × Mm)} (hk13 : ∀ (x3 : Int32) (x4 : Int32) (σ : Mm) (H : Heap) (locs : List Loc) (ls : Array Slot), k13 x3 x4 σ = some (r0, σ0) → Rp G 212 tt σ s H locs → lv_has ls 6 [(0, .ref (G.2.2 + 60)), (1, .ref (G.2.2 + o1)), (2, .int x2), (3, .int x3), (4, .int x4)] → W p l e rm0_ownerByBook s m args below meth c H locs 0 0 (MQ below (P_i G 212 tt r0 σ0) args s 0 0 (Fr G)) (F0 m 13 ls [])) :
    ∀ (x3 : Int32) (x4 : Int32) (σ : Mm) (H : Heap) (locs : List Loc) (ls : Array Slot), f0_ownerByBook_85 N k13 o1 x2 x3 x4 σ = some (r0, σ0) → Rp G 212 tt σ s H locs → lv_has ls 6 [(0, .ref (G.2.2 + 60)), (1, .ref (G.2.2 + o1)), (2, .int x2), (3, .int x3), (4, .int x4)] → W p l e rm0_ownerByBook s m args below meth c H locs 0 0 (MQ below (P_i G 212 tt r0 σ0) args s 0 0 (Fr G)) (F0 m 85 ls []) := by
  have hx := X.1
  have hb := X.2.1
  intro x3 x4 σ H locs ls hf hR hl
  unfold f0_ownerByBook_85 at hf
  obtain ⟨x4_8, ex4_8⟩ : ∃ z : Int32, z = x4 + (1 : Int32) := ⟨_, rfl⟩
  replace hf := z_l_e ex4_8 hf
  refine lv_iinc (v := x4_8) (lv' := [(4, .int x4_8), (0, .ref (G.2.2 + 60)), (1, .ref (G.2.2 + o1)), (2, .int x2), (3, .int x3)]) hx hb dX0_ownerByBook_85 hl (k := 4) rfl (by rw [ex4_8]; rfl) (by decide) rfl (fun ls hl => ?_)
  refine lv_goto (tgt := 13) hx hb dX0_ownerByBook_88 (by decide) ?_
  exact hk13 x3 x4_8 σ _ _ _ hf hR (lv_sub hl [1, 2, 3, 4, 0] rfl)
set_option maxHeartbeats 4000000 in
set_option maxRecDepth 100000 in
theorem w0_ownerByBook_39 (X : Cx p s m args c cX0_ownerByBook 6 RX0 G) (hr : meth.sig.returnType = some .int) (hlk : meth.locks = false) (N : Nat) {o1 : Nat} (ho1 : (kd o1).1 = 5) {x2 : Int32} {k13 : Int32 → Int32 → Mm → Option (Int32 × Mm)} (hk13 : ∀ (x3 : Int32) (x4 : Int32) (σ : Mm) (H : Heap) (locs : List Loc) (ls : Array Slot), k13 x3 x4 σ = some (r0, σ0) → Rp G 212 tt σ s H locs → lv_has ls 6 [(0, .ref (G.2.2 + 60)), (1, .ref (G.2.2 + o1)), (2, .int x2), (3, .int x3), (4, .int x4)] → W p l e rm0_ownerByBook s m args below meth c H locs 0 0 (MQ below (P_i G 212 tt r0 σ0) args s 0 0 (Fr G)) (F0 m 13 ls [])) :
    ∀ (x3 : Int32) (x4 : Int32) (s0 : Int32) (σ : Mm) (H : Heap) (locs : List Loc) (ls : Array Slot), f0_ownerByBook_39 N k13 o1 x2 x3 x4 s0 σ = some (r0, σ0) → Rp G 212 tt σ s H locs → lv_has ls 6 [(0, .ref (G.2.2 + 60)), (1, .ref (G.2.2 + o1)), (2, .int x2), (3, .int x3), (4, .int x4)] → W p l e rm0_ownerByBook s m args below meth c H locs 0 0 (MQ below (P_i G 212 tt r0 σ0) args s 0 0 (Fr G)) (F0 m 39 ls [.int s0]) := by
  have hx := X.1
  have hb := X.2.1
  intro x3 x4 s0 σ H locs ls hf hR hl
  unfold f0_ownerByBook_39 at hf
  refine lv_istore (lv' := [(5, .int s0), (0, .ref (G.2.2 + 60)), (1, .ref (G.2.2 + o1)), (2, .int x2), (3, .int x3), (4, .int x4)]) hx hb dX0_ownerByBook_39 hl (by decide) rfl (fun ls hl => ?_)
  refine lv_iload hx hb dX0_ownerByBook_41 (lv_at hl 0 rfl) ?_
  refine lv_if_eq (tgt := 85) hx hb dX0_ownerByBook_43 (by decide) (fun c_7 => ?_) (fun c_7 => ?_)
  · replace hf := z_t c_7 hf
    exact w0_ownerByBook_85 X hr hlk N ho1 hk13 x3 x4 σ _ _ _ hf hR (lv_sub hl [1, 2, 3, 4, 5] rfl)
  · replace hf := z_f c_7 hf
    refine lv_aload_n hx hb dX0_ownerByBook_46 rfl (lv_at hl 1 rfl) ?_
    refine r_gs (t := 50) X hR fr_0_27 kh_60 (sx_0_0 kh_60) dX0_ownerByBook_47 ?_
    refine r_gs (t := 51) X hR fr_0_102 kh_50 (sx_1_0 kh_50) dX0_ownerByBook_50 ?_
    refine lv_iload hx hb dX0_ownerByBook_53 (lv_at hl 5 rfl) ?_
    obtain ⟨hi_9, hf⟩ := z_c_e hf
    refine r_ial X hR ka_51 hi_9 dX0_ownerByBook_55 ?_
    refine lv_iload_n hx hb dX0_ownerByBook_56 rfl (lv_at hl 3 rfl) ?_
    refine lv_icmp_ne (tgt := 85) hx hb dX0_ownerByBook_57 (by decide) (fun c_10 => ?_) (fun c_10 => ?_)
    · replace hf := z_f c_10 hf
      exact w0_ownerByBook_85 X hr hlk N ho1 hk13 x3 x4 σ _ _ _ hf hR (lv_sub hl [1, 2, 3, 4, 5] rfl)
    · replace hf := z_t c_10 hf
      refine lv_aload_n hx hb dX0_ownerByBook_60 rfl (lv_at hl 1 rfl) ?_
      refine r_gs (t := 50) X hR fr_0_27 kh_60 (sx_0_0 kh_60) dX0_ownerByBook_61 ?_
      refine r_gs (t := 52) X hR fr_0_105 kh_50 (sx_1_1 kh_50) dX0_ownerByBook_64 ?_
      refine lv_iload hx hb dX0_ownerByBook_67 (lv_at hl 5 rfl) ?_
      obtain ⟨hi_11, hf⟩ := z_c_e hf
      refine r_ial X hR ka_52 hi_11 dX0_ownerByBook_69 ?_
      refine lv_iload_n hx hb dX0_ownerByBook_70 rfl (lv_at hl 4 rfl) ?_
      refine lv_icmp_ne (tgt := 85) hx hb dX0_ownerByBook_71 (by decide) (fun c_12 => ?_) (fun c_12 => ?_)
      · replace hf := z_f c_12 hf
        exact w0_ownerByBook_85 X hr hlk N ho1 hk13 x3 x4 σ _ _ _ hf hR (lv_sub hl [1, 2, 3, 4, 5] rfl)
      · replace hf := z_t c_12 hf
        refine lv_aload_n hx hb dX0_ownerByBook_74 rfl (lv_at hl 1 rfl) ?_
        refine r_gs (t := 50) X hR fr_0_27 kh_60 (sx_0_0 kh_60) dX0_ownerByBook_75 ?_
        refine r_gs (t := 53) X hR fr_0_108 kh_50 (sx_1_2 kh_50) dX0_ownerByBook_78 ?_
        refine lv_iload hx hb dX0_ownerByBook_81 (lv_at hl 5 rfl) ?_
        obtain ⟨hi_13, hf⟩ := z_c_e hf
        refine r_ial X hR ka_53 hi_13 dX0_ownerByBook_83 ?_
        refine lv_topi (fun x3_14 ex3_14 => ?_)
        replace hf := z_l_e ex3_14 hf
        refine lv_istore_n (lv' := [(3, .int x3_14), (5, .int s0), (0, .ref (G.2.2 + 60)), (1, .ref (G.2.2 + o1)), (2, .int x2), (4, .int x4)]) hx hb dX0_ownerByBook_84 rfl hl (by decide) rfl (fun ls hl => ?_)
        exact w0_ownerByBook_85 X hr hlk N ho1 hk13 x3_14 x4 σ _ _ _ hf hR (lv_sub hl [2, 3, 4, 0, 5] rfl)
set_option maxHeartbeats 4000000 in
set_option maxRecDepth 100000 in
theorem w0_ownerByBook_13 (X : Cx p s m args c cX0_ownerByBook 6 RX0 G) (hr : meth.sig.returnType = some .int) (hlk : meth.locks = false) (N : Nat) {o1 : Nat} (ho1 : (kd o1).1 = 5) {x2 : Int32} :
    ∀ (fu : Nat) (x3 : Int32) (x4 : Int32) (σ : Mm) (H : Heap) (locs : List Loc) (ls : Array Slot), f0_ownerByBook_13 N o1 x2 fu x3 x4 σ = some (r0, σ0) → Rp G 212 tt σ s H locs → lv_has ls 6 [(0, .ref (G.2.2 + 60)), (1, .ref (G.2.2 + o1)), (2, .int x2), (3, .int x3), (4, .int x4)] → W p l e rm0_ownerByBook s m args below meth c H locs 0 0 (MQ below (P_i G 212 tt r0 σ0) args s 0 0 (Fr G)) (F0 m 13 ls []) := by
  have hx := X.1
  have hb := X.2.1
  intro fu
  induction fu with
  | zero =>
    intro x3 x4 σ H locs ls hf hR hl
    rw [f0_ownerByBook_13] at hf
    cases hf
  | succ fu ih =>
    intro x3 x4 σ H locs ls hf hR hl
    rw [f0_ownerByBook_13] at hf
    refine lv_iload hx hb dX0_ownerByBook_13 (lv_at hl 4 rfl) ?_
    refine lv_aload_n hx hb dX0_ownerByBook_15 rfl (lv_at hl 1 rfl) ?_
    refine r_gi X hR fi_0_87 ho1 dX0_ownerByBook_16 ?_
    refine lv_icmp_ge (tgt := 91) hx hb dX0_ownerByBook_19 (by decide) (fun c_5 => ?_) (fun c_5 => ?_)
    · replace hf := z_t c_5 hf
      refine lv_iload_n hx hb dX0_ownerByBook_91 rfl (lv_at hl 3 rfl) ?_
      exact e_i X hR hr hlk hf dX0_ownerByBook_92
    · replace hf := z_f c_5 hf
      refine lv_aload_n hx hb dX0_ownerByBook_22 rfl (lv_at hl 1 rfl) ?_
      refine r_gi X hR fi_0_89 ho1 dX0_ownerByBook_23 ?_
      refine lv_iload hx hb dX0_ownerByBook_26 (lv_at hl 4 rfl) ?_
      refine lv_ishr hx hb dX0_ownerByBook_28 ?_
      refine lv_iconst (v := (1 : Int32)) hx hb dX0_ownerByBook_29 (by decide) ?_
      refine lv_iand hx hb dX0_ownerByBook_30 ?_
      refine lv_if_ne (tgt := 38) hx hb dX0_ownerByBook_31 (by decide) (fun c_6 => ?_) (fun c_6 => ?_)
      · replace hf := z_f c_6 hf
        refine lv_iconst (v := (0 : Int32)) hx hb dX0_ownerByBook_38 (by decide) ?_
        exact w0_ownerByBook_39 X hr hlk N ho1 ih x3 x4 (0 : Int32) σ _ _ _ hf hR (lv_sub hl [0, 1, 2, 3, 4] rfl)
      · replace hf := z_t c_6 hf
        refine lv_iconst (v := (1 : Int32)) hx hb dX0_ownerByBook_34 (by decide) ?_
        refine lv_goto (tgt := 39) hx hb dX0_ownerByBook_35 (by decide) ?_
        exact w0_ownerByBook_39 X hr hlk N ho1 ih x3 x4 (1 : Int32) σ _ _ _ hf hR (lv_sub hl [0, 1, 2, 3, 4] rfl)
set_option maxHeartbeats 4000000 in
set_option maxRecDepth 100000 in
theorem c0_ownerByBook (l : Launch) (G : Gp) (N : Nat) {o1 : Nat} (ho1 : (kd o1).1 = 5) {x2 : Int32} {σ σ0 : Mm} {r0 : Int32} (hf : f0_ownerByBook N o1 x2 σ = some (r0, σ0)) : Met l yX0_ownerByBook (WS yX0_ownerByBook cX0_ownerByBook 6 (some .int)) rm0_ownerByBook (va_Pc [.ref (G.2.2 + 60), .ref (G.2.2 + o1), .int x2] (Pd G 212 tt σ)) (P_i G 212 tt r0 σ0) 0 0 (Fr G) := by
  refine ct [(0, .ref (G.2.2 + 60)), (1, .ref (G.2.2 + o1)), (2, .int x2)] rfl (by decide) (Nat.le_of_ble_eq_true rfl) ?_
  intro p e s m below meth c ls X hr hlk hR hl
  have X : Cx p s m _ c cX0_ownerByBook 6 RX0 G := X
  have hx := X.1
  have hb := X.2.1
  unfold f0_ownerByBook at hf
  refine lv_aload_n hx hb dX0_ownerByBook_0 rfl (lv_at hl 0 rfl) ?_
  obtain ⟨t_1, ht_2, kht_2, hf⟩ := z_r_e hf
  refine r_gd X hR fr_0_31 kh_60 ht_2 dX0_ownerByBook_1 ?_
  refine r_gs (t := (t_1 + 3)) X hR fr_0_99 kht_2 (sx_3_8 kht_2) dX0_ownerByBook_4 ?_
  refine lv_iload_n hx hb dX0_ownerByBook_7 rfl (lv_at hl 2 rfl) ?_
  obtain ⟨hi_3, hf⟩ := z_c_e hf
  refine r_ial X hR (kx_3_8 kht_2) hi_3 dX0_ownerByBook_8 ?_
  refine lv_topi (fun x3_4 ex3_4 => ?_)
  replace hf := z_l_e ex3_4 hf
  refine lv_istore_n (lv' := [(3, .int x3_4), (0, .ref (G.2.2 + 60)), (1, .ref (G.2.2 + o1)), (2, .int x2)]) hx hb dX0_ownerByBook_9 rfl hl (by decide) rfl (fun ls hl => ?_)
  refine lv_iconst (v := (0 : Int32)) hx hb dX0_ownerByBook_10 (by decide) ?_
  refine lv_istore (lv' := [(4, .int (0 : Int32)), (3, .int x3_4), (0, .ref (G.2.2 + 60)), (1, .ref (G.2.2 + o1)), (2, .int x2)]) hx hb dX0_ownerByBook_11 hl (by decide) rfl (fun ls hl => ?_)
  exact w0_ownerByBook_13 X hr hlk N ho1  N x3_4 (0 : Int32) σ _ _ _ hf hR (lv_sub hl [2, 3, 4, 1, 0] rfl)
abbrev rm0_plotsOfOthers : Room := { frames := 5, cells := 0, slots := 0, locals := 127 }
def f0_plotsOfOthers_37 (N : Nat) (k5 : Int32 → Int32 → Mm → Option (Int32 × Mm)) (o1 : Nat) (o2 : Nat) (x3 : Int32) (x4 : Int32) (σ : Mm) : Option (Int32 × Mm) :=
  z_l (x4 + (1 : Int32)) fun x4_11 =>
  k5 x3 x4_11 σ
def f0_plotsOfOthers_5 (N : Nat) (o1 : Nat) (o2 : Nat) : Nat → Int32 → Int32 → Mm → Option (Int32 × Mm)
  | 0, _, _, _ => none
  | fu + 1, x3, x4, σ => z_r (gR σ 60 1) 3 fun t_1 =>
  if (gI σ t_1 1) ≤ x4 then (
  some (x3, σ)) else (
  z_b (f0_owner N o1 x4 σ) fun r_4 σ_5 =>
  z_b (f0_owner N o2 x4 σ_5) fun r_7 σ_8 =>
  if r_4 = r_7 then (
  f0_plotsOfOthers_37 N (fun x3 x4 σ => f0_plotsOfOthers_5 N o1 o2 fu x3 x4 σ) o1 o2 x3 x4 σ_8) else (
  z_l (x3 + (1 : Int32)) fun x3_12 =>
  f0_plotsOfOthers_37 N (fun x3 x4 σ => f0_plotsOfOthers_5 N o1 o2 fu x3 x4 σ) o1 o2 x3_12 x4 σ_8))
def f0_plotsOfOthers (N : Nat) (o1 : Nat) (o2 : Nat) (σ : Mm) : Option (Int32 × Mm) :=
  f0_plotsOfOthers_5 N o1 o2 N (0 : Int32) (0 : Int32) σ
set_option maxHeartbeats 4000000 in
set_option maxRecDepth 100000 in
theorem w0_plotsOfOthers_37 (X : Cx p s m args c cX0_plotsOfOthers 5 RX0 G) (hr : meth.sig.returnType = some .int) (hlk : meth.locks = false) (N : Nat) {o1 : Nat} {o2 : Nat} (ho1 : (kd o1).1 = 5) (ho2 : (kd o2).1 = 5) {k5 : Int32 → Int32 → Mm → Option (Int32 × Mm)} (hk5 : ∀ (x3 : Int32) (x4 : Int32) (σ : Mm) (H : Heap) (locs : List Loc) (ls : Array Slot), k5 x3 x4 σ = some (r0, σ0) → Rp G 212 tt σ s H locs → lv_has ls 5 [(0, .ref (G.2.2 + 60)), (1, .ref (G.2.2 + o1)), (2, .ref (G.2.2 + o2)), (3, .int x3), (4, .int x4)] → W p l e rm0_plotsOfOthers s m args below meth c H locs 0 0 (MQ below (P_i G 212 tt r0 σ0) args s 0 0 (Fr G)) (F0 m 5 ls [])) :
    ∀ (x3 : Int32) (x4 : Int32) (σ : Mm) (H : Heap) (locs : List Loc) (ls : Array Slot), f0_plotsOfOthers_37 N k5 o1 o2 x3 x4 σ = some (r0, σ0) → Rp G 212 tt σ s H locs → lv_has ls 5 [(0, .ref (G.2.2 + 60)), (1, .ref (G.2.2 + o1)), (2, .ref (G.2.2 + o2)), (3, .int x3), (4, .int x4)] → W p l e rm0_plotsOfOthers s m args below meth c H locs 0 0 (MQ below (P_i G 212 tt r0 σ0) args s 0 0 (Fr G)) (F0 m 37 ls []) := by
  have hx := X.1
  have hb := X.2.1
  intro x3 x4 σ H locs ls hf hR hl
  unfold f0_plotsOfOthers_37 at hf
  obtain ⟨x4_11, ex4_11⟩ : ∃ z : Int32, z = x4 + (1 : Int32) := ⟨_, rfl⟩
  replace hf := z_l_e ex4_11 hf
  refine lv_iinc (v := x4_11) (lv' := [(4, .int x4_11), (0, .ref (G.2.2 + 60)), (1, .ref (G.2.2 + o1)), (2, .ref (G.2.2 + o2)), (3, .int x3)]) hx hb dX0_plotsOfOthers_37 hl (k := 4) rfl (by rw [ex4_11]; rfl) (by decide) rfl (fun ls hl => ?_)
  refine lv_goto (tgt := 5) hx hb dX0_plotsOfOthers_40 (by decide) ?_
  exact hk5 x3 x4_11 σ _ _ _ hf hR (lv_sub hl [1, 2, 3, 4, 0] rfl)
set_option maxHeartbeats 4000000 in
set_option maxRecDepth 100000 in
theorem w0_plotsOfOthers_5 (X : Cx p s m args c cX0_plotsOfOthers 5 RX0 G) (hr : meth.sig.returnType = some .int) (hlk : meth.locks = false) (N : Nat) {o1 : Nat} {o2 : Nat} (ho1 : (kd o1).1 = 5) (ho2 : (kd o2).1 = 5) :
    ∀ (fu : Nat) (x3 : Int32) (x4 : Int32) (σ : Mm) (H : Heap) (locs : List Loc) (ls : Array Slot), f0_plotsOfOthers_5 N o1 o2 fu x3 x4 σ = some (r0, σ0) → Rp G 212 tt σ s H locs → lv_has ls 5 [(0, .ref (G.2.2 + 60)), (1, .ref (G.2.2 + o1)), (2, .ref (G.2.2 + o2)), (3, .int x3), (4, .int x4)] → W p l e rm0_plotsOfOthers s m args below meth c H locs 0 0 (MQ below (P_i G 212 tt r0 σ0) args s 0 0 (Fr G)) (F0 m 5 ls []) := by
  have hx := X.1
  have hb := X.2.1
  intro fu
  induction fu with
  | zero =>
    intro x3 x4 σ H locs ls hf hR hl
    rw [f0_plotsOfOthers_5] at hf
    cases hf
  | succ fu ih =>
    intro x3 x4 σ H locs ls hf hR hl
    rw [f0_plotsOfOthers_5] at hf
    refine lv_iload hx hb dX0_plotsOfOthers_5 (lv_at hl 4 rfl) ?_
    refine lv_aload_n hx hb dX0_plotsOfOthers_7 rfl (lv_at hl 0 rfl) ?_
    obtain ⟨t_1, ht_2, kht_2, hf⟩ := z_r_e hf
    refine r_gd X hR fr_0_31 kh_60 ht_2 dX0_plotsOfOthers_8 ?_
    refine r_gi X hR fi_0_111 kht_2 dX0_plotsOfOthers_11 ?_
    refine lv_icmp_ge (tgt := 43) hx hb dX0_plotsOfOthers_14 (by decide) (fun c_3 => ?_) (fun c_3 => ?_)
    · replace hf := z_t c_3 hf
      refine lv_iload_n hx hb dX0_plotsOfOthers_43 rfl (lv_at hl 3 rfl) ?_
      exact e_i X hR hr hlk hf dX0_plotsOfOthers_44
    · replace hf := z_f c_3 hf
      refine lv_aload_n hx hb dX0_plotsOfOthers_17 rfl (lv_at hl 0 rfl) ?_
      refine lv_aload_n hx hb dX0_plotsOfOthers_18 rfl (lv_at hl 1 rfl) ?_
      refine lv_iload hx hb dX0_plotsOfOthers_19 (lv_at hl 4 rfl) ?_
      obtain ⟨r_4, σ_5, hc_6, hf⟩ := z_b_e hf
      refine go_i hR (mv_run (As := [.ref (G.2.2 + o1), .int x4]) (rest := []) X hR mv_0_118 kh_60 (kd_lt kh_60 (by decide)) (c0_owner l G N ho1 hc_6) ⟨rfl, rfl, Nat.le_of_ble_eq_true rfl, Nat.le_of_ble_eq_true rfl⟩ rfl hl.1 rfl (Nat.le_of_ble_eq_true rfl) dX0_plotsOfOthers_21 ⟨Nat.zero_le _, Nat.zero_le _⟩) (fun H locs hR => ?_)
      refine lv_aload_n hx hb dX0_plotsOfOthers_24 rfl (lv_at hl 0 rfl) ?_
      refine lv_aload_n hx hb dX0_plotsOfOthers_25 rfl (lv_at hl 2 rfl) ?_
      refine lv_iload hx hb dX0_plotsOfOthers_26 (lv_at hl 4 rfl) ?_
      obtain ⟨r_7, σ_8, hc_9, hf⟩ := z_b_e hf
      refine go_i hR (mv_run (As := [.ref (G.2.2 + o2), .int x4]) (rest := [.int r_4]) X hR mv_0_118 kh_60 (kd_lt kh_60 (by decide)) (c0_owner l G N ho2 hc_9) ⟨rfl, rfl, Nat.le_of_ble_eq_true rfl, Nat.le_of_ble_eq_true rfl⟩ rfl hl.1 rfl (Nat.le_of_ble_eq_true rfl) dX0_plotsOfOthers_28 ⟨Nat.zero_le _, Nat.zero_le _⟩) (fun H locs hR => ?_)
      refine lv_icmp_eq (tgt := 37) hx hb dX0_plotsOfOthers_31 (by decide) (fun c_10 => ?_) (fun c_10 => ?_)
      · replace hf := z_t c_10 hf
        exact w0_plotsOfOthers_37 X hr hlk N ho1 ho2 ih x3 x4 σ_8 _ _ _ hf hR (lv_sub hl [0, 1, 2, 3, 4] rfl)
      · replace hf := z_f c_10 hf
        obtain ⟨x3_12, ex3_12⟩ : ∃ z : Int32, z = x3 + (1 : Int32) := ⟨_, rfl⟩
        replace hf := z_l_e ex3_12 hf
        refine lv_iinc (v := x3_12) (lv' := [(3, .int x3_12), (0, .ref (G.2.2 + 60)), (1, .ref (G.2.2 + o1)), (2, .ref (G.2.2 + o2)), (4, .int x4)]) hx hb dX0_plotsOfOthers_34 hl (k := 3) rfl (by rw [ex3_12]; rfl) (by decide) rfl (fun ls hl => ?_)
        exact w0_plotsOfOthers_37 X hr hlk N ho1 ho2 ih x3_12 x4 σ_8 _ _ _ hf hR (lv_sub hl [1, 2, 3, 0, 4] rfl)
set_option maxHeartbeats 4000000 in
set_option maxRecDepth 100000 in
theorem c0_plotsOfOthers (l : Launch) (G : Gp) (N : Nat) {o1 : Nat} {o2 : Nat} (ho1 : (kd o1).1 = 5) (ho2 : (kd o2).1 = 5) {σ σ0 : Mm} {r0 : Int32} (hf : f0_plotsOfOthers N o1 o2 σ = some (r0, σ0)) : Met l yX0_plotsOfOthers (WS yX0_plotsOfOthers cX0_plotsOfOthers 5 (some .int)) rm0_plotsOfOthers (va_Pc [.ref (G.2.2 + 60), .ref (G.2.2 + o1), .ref (G.2.2 + o2)] (Pd G 212 tt σ)) (P_i G 212 tt r0 σ0) 0 0 (Fr G) := by
  refine ct [(0, .ref (G.2.2 + 60)), (1, .ref (G.2.2 + o1)), (2, .ref (G.2.2 + o2))] rfl (by decide) (Nat.le_of_ble_eq_true rfl) ?_
  intro p e s m below meth c ls X hr hlk hR hl
  have X : Cx p s m _ c cX0_plotsOfOthers 5 RX0 G := X
  have hx := X.1
  have hb := X.2.1
  unfold f0_plotsOfOthers at hf
  refine lv_iconst (v := (0 : Int32)) hx hb dX0_plotsOfOthers_0 (by decide) ?_
  refine lv_istore_n (lv' := [(3, .int (0 : Int32)), (0, .ref (G.2.2 + 60)), (1, .ref (G.2.2 + o1)), (2, .ref (G.2.2 + o2))]) hx hb dX0_plotsOfOthers_1 rfl hl (by decide) rfl (fun ls hl => ?_)
  refine lv_iconst (v := (0 : Int32)) hx hb dX0_plotsOfOthers_2 (by decide) ?_
  refine lv_istore (lv' := [(4, .int (0 : Int32)), (3, .int (0 : Int32)), (0, .ref (G.2.2 + 60)), (1, .ref (G.2.2 + o1)), (2, .ref (G.2.2 + o2))]) hx hb dX0_plotsOfOthers_3 hl (by decide) rfl (fun ls hl => ?_)
  exact w0_plotsOfOthers_5 X hr hlk N ho1 ho2  N (0 : Int32) (0 : Int32) σ _ _ _ hf hR (lv_sub hl [2, 3, 4, 1, 0] rfl)
abbrev rm0_countPlots : Room := { frames := 5, cells := 0, slots := 0, locals := 127 }
def f0_countPlots_51 (N : Nat) (k10 : Int32 → Mm → Option (Unit × Mm)) (o1 : Nat) (x2 : Int32) (σ : Mm) : Option (Unit × Mm) :=
  z_l (x2 + (1 : Int32)) fun x2_10 =>
  k10 x2_10 σ
def f0_countPlots_10 (N : Nat) (o1 : Nat) : Nat → Int32 → Mm → Option (Unit × Mm)
  | 0, _, _ => none
  | fu + 1, x2, σ => z_r (gR σ 60 1) 3 fun t_3 =>
  if (gI σ t_3 1) ≤ x2 then (
  some ((), σ)) else (
  z_b (f0_owner N o1 x2 σ) fun r_6 σ_7 =>
  if r_6 < 0 then (
  f0_countPlots_51 N (fun x2 σ => f0_countPlots_10 N o1 fu x2 σ) o1 x2 σ_7) else (
  if (6 : Int32) ≤ r_6 then (
  f0_countPlots_51 N (fun x2 σ => f0_countPlots_10 N o1 fu x2 σ) o1 x2 σ_7) else (
  z_c (inB r_6 6) (
  z_c (inB r_6 6) (z_l (sI σ_7 65 (ix r_6) ((gI σ_7 65 (ix r_6)) + (1 : Int32))) fun σ_14 =>
  f0_countPlots_51 N (fun x2 σ => f0_countPlots_10 N o1 fu x2 σ) o1 x2 σ_14)))))
def f0_countPlots (N : Nat) (o1 : Nat) (σ : Mm) : Option (Unit × Mm) :=
  z_b (fJ_fill N 65 (0 : Int32) σ) fun _ σ_1 =>
  f0_countPlots_10 N o1 N (0 : Int32) σ_1
set_option maxHeartbeats 4000000 in
set_option maxRecDepth 100000 in
theorem w0_countPlots_51 (X : Cx p s m args c cX0_countPlots 4 RX0 G) (hr : meth.sig.returnType = none) (hlk : meth.locks = false) (N : Nat) {o1 : Nat} (ho1 : (kd o1).1 = 5) {k10 : Int32 → Mm → Option (Unit × Mm)} (hk10 : ∀ (x2 : Int32) (σ : Mm) (H : Heap) (locs : List Loc) (ls : Array Slot), k10 x2 σ = some (u0, σ0) → Rp G 212 tt σ s H locs → lv_has ls 4 [(0, .ref (G.2.2 + 60)), (1, .ref (G.2.2 + o1)), (2, .int x2)] → W p l e rm0_countPlots s m args below meth c H locs 0 0 (MQ below (P_v G 212 tt u0 σ0) args s 0 0 (Fr G)) (F0 m 10 ls [])) :
    ∀ (x2 : Int32) (σ : Mm) (H : Heap) (locs : List Loc) (ls : Array Slot), f0_countPlots_51 N k10 o1 x2 σ = some (u0, σ0) → Rp G 212 tt σ s H locs → lv_has ls 4 [(0, .ref (G.2.2 + 60)), (1, .ref (G.2.2 + o1)), (2, .int x2)] → W p l e rm0_countPlots s m args below meth c H locs 0 0 (MQ below (P_v G 212 tt u0 σ0) args s 0 0 (Fr G)) (F0 m 51 ls []) := by
  have hx := X.1
  have hb := X.2.1
  intro x2 σ H locs ls hf hR hl
  unfold f0_countPlots_51 at hf
  obtain ⟨x2_10, ex2_10⟩ : ∃ z : Int32, z = x2 + (1 : Int32) := ⟨_, rfl⟩
  replace hf := z_l_e ex2_10 hf
  refine lv_iinc (v := x2_10) (lv' := [(2, .int x2_10), (0, .ref (G.2.2 + 60)), (1, .ref (G.2.2 + o1))]) hx hb dX0_countPlots_51 hl (k := 2) rfl (by rw [ex2_10]; rfl) (by decide) rfl (fun ls hl => ?_)
  refine lv_goto (tgt := 10) hx hb dX0_countPlots_54 (by decide) ?_
  exact hk10 x2_10 σ _ _ _ hf hR (lv_sub hl [1, 2, 0] rfl)
set_option maxHeartbeats 4000000 in
set_option maxRecDepth 100000 in
theorem w0_countPlots_10 (X : Cx p s m args c cX0_countPlots 4 RX0 G) (hr : meth.sig.returnType = none) (hlk : meth.locks = false) (N : Nat) {o1 : Nat} (ho1 : (kd o1).1 = 5) :
    ∀ (fu : Nat) (x2 : Int32) (σ : Mm) (H : Heap) (locs : List Loc) (ls : Array Slot), f0_countPlots_10 N o1 fu x2 σ = some (u0, σ0) → Rp G 212 tt σ s H locs → lv_has ls 4 [(0, .ref (G.2.2 + 60)), (1, .ref (G.2.2 + o1)), (2, .int x2)] → W p l e rm0_countPlots s m args below meth c H locs 0 0 (MQ below (P_v G 212 tt u0 σ0) args s 0 0 (Fr G)) (F0 m 10 ls []) := by
  have hx := X.1
  have hb := X.2.1
  intro fu
  induction fu with
  | zero =>
    intro x2 σ H locs ls hf hR hl
    rw [f0_countPlots_10] at hf
    cases hf
  | succ fu ih =>
    intro x2 σ H locs ls hf hR hl
    rw [f0_countPlots_10] at hf
    refine lv_iload_n hx hb dX0_countPlots_10 rfl (lv_at hl 2 rfl) ?_
    refine lv_aload_n hx hb dX0_countPlots_11 rfl (lv_at hl 0 rfl) ?_
    obtain ⟨t_3, ht_4, kht_4, hf⟩ := z_r_e hf
    refine r_gd X hR fr_0_31 kh_60 ht_4 dX0_countPlots_12 ?_
    refine r_gi X hR fi_0_111 kht_4 dX0_countPlots_15 ?_
    refine lv_icmp_ge (tgt := 57) hx hb dX0_countPlots_18 (by decide) (fun c_5 => ?_) (fun c_5 => ?_)
    · replace hf := z_t c_5 hf
      exact e_v X hR hr hlk hf dX0_countPlots_57
    · replace hf := z_f c_5 hf
      refine lv_aload_n hx hb dX0_countPlots_21 rfl (lv_at hl 0 rfl) ?_
      refine lv_aload_n hx hb dX0_countPlots_22 rfl (lv_at hl 1 rfl) ?_
      refine lv_iload_n hx hb dX0_countPlots_23 rfl (lv_at hl 2 rfl) ?_
      obtain ⟨r_6, σ_7, hc_8, hf⟩ := z_b_e hf
      refine go_i hR (mv_run (As := [.ref (G.2.2 + o1), .int x2]) (rest := []) X hR mv_0_118 kh_60 (kd_lt kh_60 (by decide)) (c0_owner l G N ho1 hc_8) ⟨rfl, rfl, Nat.le_of_ble_eq_true rfl, Nat.le_of_ble_eq_true rfl⟩ rfl hl.1 rfl (Nat.le_of_ble_eq_true rfl) dX0_countPlots_24 ⟨Nat.zero_le _, Nat.zero_le _⟩) (fun H locs hR => ?_)
      refine lv_istore_n (lv' := [(3, .int r_6), (0, .ref (G.2.2 + 60)), (1, .ref (G.2.2 + o1)), (2, .int x2)]) hx hb dX0_countPlots_27 rfl hl (by decide) rfl (fun ls hl => ?_)
      refine lv_iload_n hx hb dX0_countPlots_28 rfl (lv_at hl 0 rfl) ?_
      refine lv_if_lt (tgt := 51) hx hb dX0_countPlots_29 (by decide) (fun c_9 => ?_) (fun c_9 => ?_)
      · replace hf := z_t c_9 hf
        exact w0_countPlots_51 X hr hlk N ho1 ih x2 σ_7 _ _ _ hf hR (lv_sub hl [1, 2, 3] rfl)
      · replace hf := z_f c_9 hf
        refine lv_iload_n hx hb dX0_countPlots_32 rfl (lv_at hl 0 rfl) ?_
        refine lv_aload_n hx hb dX0_countPlots_33 rfl (lv_at hl 1 rfl) ?_
        refine r_gs (t := 65) X hR fr_0_24 kh_60 (sx_0_6 kh_60) dX0_countPlots_34 ?_
        refine r_len (v := (6 : Int32)) X hR ka_65 (by decide) rfl dX0_countPlots_37 ?_
        refine lv_icmp_ge (tgt := 51) hx hb dX0_countPlots_38 (by decide) (fun c_11 => ?_) (fun c_11 => ?_)
        · replace hf := z_t c_11 hf
          exact w0_countPlots_51 X hr hlk N ho1 ih x2 σ_7 _ _ _ hf hR (lv_sub hl [1, 2, 3] rfl)
        · replace hf := z_f c_11 hf
          refine lv_aload_n hx hb dX0_countPlots_41 rfl (lv_at hl 1 rfl) ?_
          refine r_gs (t := 65) X hR fr_0_24 kh_60 (sx_0_6 kh_60) dX0_countPlots_42 ?_
          refine lv_iload_n hx hb dX0_countPlots_45 rfl (lv_at hl 0 rfl) ?_
          refine lv_dup2_11 hx hb dX0_countPlots_46 rfl rfl ?_
          obtain ⟨hi_12, hf⟩ := z_c_e hf
          refine r_ial X hR ka_65 hi_12 dX0_countPlots_47 ?_
          refine lv_iconst (v := (1 : Int32)) hx hb dX0_countPlots_48 (by decide) ?_
          refine lv_iadd hx hb dX0_countPlots_49 ?_
          obtain ⟨hi_13, hf⟩ := z_c_e hf
          refine r_ias X hR ka_65 hi_13 dX0_countPlots_50 (fun H locs σ_14 eσ_14 hR => ?_)
          replace hf := z_l_e eσ_14 hf
          exact w0_countPlots_51 X hr hlk N ho1 ih x2 σ_14 _ _ _ hf hR (lv_sub hl [1, 2, 3] rfl)
set_option maxHeartbeats 4000000 in
set_option maxRecDepth 100000 in
theorem c0_countPlots (l : Launch) (G : Gp) (N : Nat) {o1 : Nat} (ho1 : (kd o1).1 = 5) {σ σ0 : Mm} {u0 : Unit} (hf : f0_countPlots N o1 σ = some (u0, σ0)) : Met l yX0_countPlots (WS yX0_countPlots cX0_countPlots 4 (none)) rm0_countPlots (va_Pc [.ref (G.2.2 + 60), .ref (G.2.2 + o1)] (Pd G 212 tt σ)) (P_v G 212 tt u0 σ0) 0 0 (Fr G) := by
  refine ct [(0, .ref (G.2.2 + 60)), (1, .ref (G.2.2 + o1))] rfl (by decide) (Nat.le_of_ble_eq_true rfl) ?_
  intro p e s m below meth c ls X hr hlk hR hl
  have X : Cx p s m _ c cX0_countPlots 4 RX0 G := X
  have hx := X.1
  have hb := X.2.1
  unfold f0_countPlots at hf
  refine lv_aload_n hx hb dX0_countPlots_0 rfl (lv_at hl 0 rfl) ?_
  refine r_gs (t := 65) X hR fr_0_24 kh_60 (sx_0_6 kh_60) dX0_countPlots_1 ?_
  refine lv_iconst (v := (0 : Int32)) hx hb dX0_countPlots_4 (by decide) ?_
  obtain ⟨rhc_2, σ_1, hc_2, hf⟩ := z_b_e hf
  refine go_v hR (ms_run (As := [.ref (G.2.2 + 65), .int (0 : Int32)]) (rest := []) X hR jms_0_121 (cJ_fill l G N ka_65 hc_2) ⟨rfl, rfl, Nat.le_of_ble_eq_true rfl, Nat.le_of_ble_eq_true rfl⟩ rfl hl.1 rfl (Nat.le_of_ble_eq_true rfl) dX0_countPlots_5 ⟨Nat.zero_le _, Nat.zero_le _⟩) (fun H locs hR => ?_)
  refine lv_iconst (v := (0 : Int32)) hx hb dX0_countPlots_8 (by decide) ?_
  refine lv_istore_n (lv' := [(2, .int (0 : Int32)), (0, .ref (G.2.2 + 60)), (1, .ref (G.2.2 + o1))]) hx hb dX0_countPlots_9 rfl hl (by decide) rfl (fun ls hl => ?_)
  exact w0_countPlots_10 X hr hlk N ho1  N (0 : Int32) σ_1 _ _ _ hf hR (lv_sub hl [1, 2, 0] rfl)
abbrev rm0_heldTo : Room := { frames := 1, cells := 0, slots := 0, locals := 21 }
def f0_heldTo (N : Nat) (x0 : Int32) (x1 : Int32) (σ : Mm) : Option (Int32 × Mm) :=
  some ((mxI (0 : Int32) (mnI x0 x1)), σ)
set_option maxHeartbeats 4000000 in
set_option maxRecDepth 100000 in
theorem c0_heldTo (l : Launch) (G : Gp) (N : Nat) {x0 : Int32} {x1 : Int32} {σ σ0 : Mm} {r0 : Int32} (hf : f0_heldTo N x0 x1 σ = some (r0, σ0)) : Met l yX0_heldTo (WS yX0_heldTo cX0_heldTo 2 (some .int)) rm0_heldTo (va_Pc [.int x0, .int x1] (Pd G 212 tt σ)) (P_i G 212 tt r0 σ0) 0 0 (Fr G) := by
  refine ct [(0, .int x0), (1, .int x1)] rfl (by decide) (Nat.le_of_ble_eq_true rfl) ?_
  intro p e s m below meth c ls X hr hlk hR hl
  have X : Cx p s m _ c cX0_heldTo 2 RX0 G := X
  have hx := X.1
  have hb := X.2.1
  unfold f0_heldTo at hf
  refine lv_iconst (v := (0 : Int32)) hx hb dX0_heldTo_0 (by decide) ?_
  refine lv_iload_n hx hb dX0_heldTo_1 rfl (lv_at hl 0 rfl) ?_
  refine lv_iload_n hx hb dX0_heldTo_2 rfl (lv_at hl 1 rfl) ?_
  refine va_mmin hx hb (X.2.2.1.trans hl.1.symm) X.2.2.2.1 (X.2.2.2.2.1 _ jl_0_141) (X.2.2.2.2.1 _ jm_min_s) (X.2.2.2.2.1 _ jm_ini) (X.2.2.2.2.1 _ jm_min_c) (Nat.le_of_ble_eq_true rfl) (Nat.le_of_ble_eq_true rfl) (Nat.zero_le _) (Nat.zero_le _) dX0_heldTo_3 ?_
  refine va_mmax hx hb (X.2.2.1.trans hl.1.symm) X.2.2.2.1 (X.2.2.2.2.1 _ jl_0_159) (X.2.2.2.2.1 _ jm_max_s) (X.2.2.2.2.1 _ jm_ini) (X.2.2.2.2.1 _ jm_max_c) (Nat.le_of_ble_eq_true rfl) (Nat.le_of_ble_eq_true rfl) (Nat.zero_le _) (Nat.zero_le _) dX0_heldTo_6 ?_
  exact e_i X hR hr hlk hf dX0_heldTo_9
abbrev rm0_deathIn100 : Room := { frames := 2, cells := 0, slots := 0, locals := 42 }
def f0_deathIn100 (N : Nat) (o1 : Nat) (x2 : Int32) (σ : Mm) : Option (Int32 × Mm) :=
  z_c (inB x2 7) (
  z_c (inB (0 : Int32) 9) (z_l (sI σ 62 (ix (0 : Int32)) (gI σ (o1 + 1) (ix x2))) fun σ_3 =>
  z_r (gR σ_3 60 1) 3 fun t_4 =>
  z_c (inB x2 7) (
  z_c (inB (1 : Int32) 9) (z_l (sI σ_3 62 (ix (1 : Int32)) (gI σ_3 (t_4 + 5) (ix x2))) fun σ_8 =>
  z_c (inB (3 : Int32) 9) (z_l (sI σ_8 62 (ix (3 : Int32)) (gI σ_8 o1 0)) fun σ_10 =>
  z_c (inB (4 : Int32) 9) (z_l (sI σ_10 62 (ix (4 : Int32)) x2) fun σ_12 =>
  z_r (gR σ_12 60 1) 3 fun t_13 =>
  z_b (f4_answer N (t_13 + 12) 62 (1 : Int32) σ_12) fun r_15 σ_16 =>
  z_b (f0_heldTo N (100 : Int32) r_15 σ_16) fun r_18 σ_19 =>
  some (r_18, σ_19)))))))
set_option maxHeartbeats 4000000 in
set_option maxRecDepth 100000 in
theorem c0_deathIn100 (l : Launch) (G : Gp) (N : Nat) {o1 : Nat} (ho1 : (kd o1).1 = 5) {x2 : Int32} {σ σ0 : Mm} {r0 : Int32} (hf : f0_deathIn100 N o1 x2 σ = some (r0, σ0)) : Met l yX0_deathIn100 (WS yX0_deathIn100 cX0_deathIn100 3 (some .int)) rm0_deathIn100 (va_Pc [.ref (G.2.2 + 60), .ref (G.2.2 + o1), .int x2] (Pd G 212 tt σ)) (P_i G 212 tt r0 σ0) 0 0 (Fr G) := by
  refine ct [(0, .ref (G.2.2 + 60)), (1, .ref (G.2.2 + o1)), (2, .int x2)] rfl (by decide) (Nat.le_of_ble_eq_true rfl) ?_
  intro p e s m below meth c ls X hr hlk hR hl
  have X : Cx p s m _ c cX0_deathIn100 3 RX0 G := X
  have hx := X.1
  have hb := X.2.1
  unfold f0_deathIn100 at hf
  refine lv_aload_n hx hb dX0_deathIn100_0 rfl (lv_at hl 0 rfl) ?_
  refine r_gs (t := 62) X hR fr_0_15 kh_60 (sx_0_3 kh_60) dX0_deathIn100_1 ?_
  refine lv_iconst (v := (0 : Int32)) hx hb dX0_deathIn100_4 (by decide) ?_
  refine lv_aload_n hx hb dX0_deathIn100_5 rfl (lv_at hl 1 rfl) ?_
  refine r_gs (t := (o1 + 1)) X hR fr_0_46 ho1 (sx_5_4 ho1) dX0_deathIn100_6 ?_
  refine lv_iload_n hx hb dX0_deathIn100_9 rfl (lv_at hl 2 rfl) ?_
  obtain ⟨hi_1, hf⟩ := z_c_e hf
  refine r_ial X hR (kx_5_4 ho1) hi_1 dX0_deathIn100_10 ?_
  obtain ⟨hi_2, hf⟩ := z_c_e hf
  refine r_ias X hR ka_62 hi_2 dX0_deathIn100_11 (fun H locs σ_3 eσ_3 hR => ?_)
  replace hf := z_l_e eσ_3 hf
  refine lv_aload_n hx hb dX0_deathIn100_12 rfl (lv_at hl 0 rfl) ?_
  refine r_gs (t := 62) X hR fr_0_15 kh_60 (sx_0_3 kh_60) dX0_deathIn100_13 ?_
  refine lv_iconst (v := (1 : Int32)) hx hb dX0_deathIn100_16 (by decide) ?_
  refine lv_aload_n hx hb dX0_deathIn100_17 rfl (lv_at hl 0 rfl) ?_
  obtain ⟨t_4, ht_5, kht_5, hf⟩ := z_r_e hf
  refine r_gd X hR fr_0_31 kh_60 ht_5 dX0_deathIn100_18 ?_
  refine r_gs (t := (t_4 + 5)) X hR fr_0_49 kht_5 (sx_3_10 kht_5) dX0_deathIn100_21 ?_
  refine lv_iload_n hx hb dX0_deathIn100_24 rfl (lv_at hl 2 rfl) ?_
  obtain ⟨hi_6, hf⟩ := z_c_e hf
  refine r_ial X hR (kx_3_10 kht_5) hi_6 dX0_deathIn100_25 ?_
  obtain ⟨hi_7, hf⟩ := z_c_e hf
  refine r_ias X hR ka_62 hi_7 dX0_deathIn100_26 (fun H locs σ_8 eσ_8 hR => ?_)
  replace hf := z_l_e eσ_8 hf
  refine lv_aload_n hx hb dX0_deathIn100_27 rfl (lv_at hl 0 rfl) ?_
  refine r_gs (t := 62) X hR fr_0_15 kh_60 (sx_0_3 kh_60) dX0_deathIn100_28 ?_
  refine lv_iconst (v := (3 : Int32)) hx hb dX0_deathIn100_31 (by decide) ?_
  refine lv_aload_n hx hb dX0_deathIn100_32 rfl (lv_at hl 1 rfl) ?_
  refine r_gi X hR fi_0_52 ho1 dX0_deathIn100_33 ?_
  obtain ⟨hi_9, hf⟩ := z_c_e hf
  refine r_ias X hR ka_62 hi_9 dX0_deathIn100_36 (fun H locs σ_10 eσ_10 hR => ?_)
  replace hf := z_l_e eσ_10 hf
  refine lv_aload_n hx hb dX0_deathIn100_37 rfl (lv_at hl 0 rfl) ?_
  refine r_gs (t := 62) X hR fr_0_15 kh_60 (sx_0_3 kh_60) dX0_deathIn100_38 ?_
  refine lv_iconst (v := (4 : Int32)) hx hb dX0_deathIn100_41 (by decide) ?_
  refine lv_iload_n hx hb dX0_deathIn100_42 rfl (lv_at hl 2 rfl) ?_
  obtain ⟨hi_11, hf⟩ := z_c_e hf
  refine r_ias X hR ka_62 hi_11 dX0_deathIn100_43 (fun H locs σ_12 eσ_12 hR => ?_)
  replace hf := z_l_e eσ_12 hf
  refine lv_bipush (v := (100 : Int32)) hx hb dX0_deathIn100_44 (by decide) ?_
  refine lv_aload_n hx hb dX0_deathIn100_46 rfl (lv_at hl 0 rfl) ?_
  obtain ⟨t_13, ht_14, kht_14, hf⟩ := z_r_e hf
  refine r_gd X hR fr_0_31 kh_60 ht_14 dX0_deathIn100_47 ?_
  refine r_gs (t := (t_13 + 12)) X hR fr_0_55 kht_14 (sx_3_12 kht_14) dX0_deathIn100_50 ?_
  refine lv_iconst (v := (1 : Int32)) hx hb dX0_deathIn100_53 (by decide) ?_
  refine lv_aload_n hx hb dX0_deathIn100_54 rfl (lv_at hl 0 rfl) ?_
  refine r_gs (t := 62) X hR fr_0_15 kh_60 (sx_0_3 kh_60) dX0_deathIn100_55 ?_
  obtain ⟨r_15, σ_16, hc_17, hf⟩ := z_b_e hf
  refine go_i hR (mv_run (As := [.int (1 : Int32), .ref (G.2.2 + 62)]) (rest := [.int (100 : Int32)]) X hR mv_0_59 (kx_3_12 kht_14) (kd_lt (kx_3_12 kht_14) (by decide)) (c4_answer l G N (kx_3_12 kht_14) ka_62 hc_17) ⟨rfl, rfl, Nat.le_of_ble_eq_true rfl, Nat.le_of_ble_eq_true rfl⟩ rfl hl.1 rfl (Nat.le_of_ble_eq_true rfl) dX0_deathIn100_58 ⟨Nat.zero_le _, Nat.zero_le _⟩) (fun H locs hR => ?_)
  obtain ⟨r_18, σ_19, hc_20, hf⟩ := z_b_e hf
  refine go_i hR (ms_run (As := [.int (100 : Int32), .int r_15]) (rest := []) X hR ms_0_127 (c0_heldTo l G N hc_20) ⟨rfl, rfl, Nat.le_of_ble_eq_true rfl, Nat.le_of_ble_eq_true rfl⟩ rfl hl.1 rfl (Nat.le_of_ble_eq_true rfl) dX0_deathIn100_61 ⟨Nat.zero_le _, Nat.zero_le _⟩) (fun H locs hR => ?_)
  exact e_i X hR hr hlk hf dX0_deathIn100_64
abbrev rm0_stirred : Room := { frames := 0, cells := 0, slots := 0, locals := 0 }
def f0_stirred (N : Nat) (x0 : Int32) (x1 : Int32) (σ : Mm) : Option (Int32 × Mm) :=
  z_l ((((x0 ^^^ x1) * (1103515245 : Int32)) + (12345 : Int32))) fun x2_1 =>
  some ((x2_1 ^^^ (ush x2_1 (15 : Int32))), σ)
set_option maxHeartbeats 4000000 in
set_option maxRecDepth 100000 in
theorem c0_stirred (l : Launch) (G : Gp) (N : Nat) {x0 : Int32} {x1 : Int32} {σ σ0 : Mm} {r0 : Int32} (hf : f0_stirred N x0 x1 σ = some (r0, σ0)) : Met l yX0_stirred (WS yX0_stirred cX0_stirred 3 (some .int)) rm0_stirred (va_Pc [.int x0, .int x1] (Pd G 212 tt σ)) (P_i G 212 tt r0 σ0) 0 0 (Fr G) := by
  refine ct [(0, .int x0), (1, .int x1)] rfl (by decide) (Nat.le_of_ble_eq_true rfl) ?_
  intro p e s m below meth c ls X hr hlk hR hl
  have X : Cx p s m _ c cX0_stirred 3 RX0 G := X
  have hx := X.1
  have hb := X.2.1
  unfold f0_stirred at hf
  refine lv_iload_n hx hb dX0_stirred_0 rfl (lv_at hl 0 rfl) ?_
  refine lv_iload_n hx hb dX0_stirred_1 rfl (lv_at hl 1 rfl) ?_
  refine lv_ixor hx hb dX0_stirred_2 ?_
  refine lv_ldc hx hb X.2.2.2.1 (X.2.2.2.2.1 _ co_0_165) dX0_stirred_3 ?_
  refine lv_imul hx hb dX0_stirred_5 ?_
  refine lv_sipush (v := (12345 : Int32)) hx hb dX0_stirred_6 (by decide) ?_
  refine lv_iadd hx hb dX0_stirred_9 ?_
  refine lv_topi (fun x2_1 ex2_1 => ?_)
  replace hf := z_l_e ex2_1 hf
  refine lv_istore_n (lv' := [(2, .int x2_1), (0, .int x0), (1, .int x1)]) hx hb dX0_stirred_10 rfl hl (by decide) rfl (fun ls hl => ?_)
  refine lv_iload_n hx hb dX0_stirred_11 rfl (lv_at hl 0 rfl) ?_
  refine lv_iload_n hx hb dX0_stirred_12 rfl (lv_at hl 0 rfl) ?_
  refine lv_bipush (v := (15 : Int32)) hx hb dX0_stirred_13 (by decide) ?_
  refine lv_iushr (v := (ush x2_1 (15 : Int32))) hx hb dX0_stirred_15 rfl ?_
  refine lv_ixor hx hb dX0_stirred_16 ?_
  exact e_i X hR hr hlk hf dX0_stirred_17
abbrev rm0_lotOf100 : Room := { frames := 1, cells := 0, slots := 0, locals := 22 }
def f0_lotOf100 (N : Nat) (x0 : Int32) (x1 : Int32) (σ : Mm) : Option (Int32 × Mm) :=
  z_b (f0_stirred N x0 (117 : Int32) σ) fun r_1 σ_2 =>
  z_b (f0_stirred N r_1 x1 σ_2) fun r_4 σ_5 =>
  some (((ush r_4 (1 : Int32)) - (ush r_4 (1 : Int32)) / (100 : Int32) * (100 : Int32)), σ_5)
set_option maxHeartbeats 4000000 in
set_option maxRecDepth 100000 in
theorem c0_lotOf100 (l : Launch) (G : Gp) (N : Nat) {x0 : Int32} {x1 : Int32} {σ σ0 : Mm} {r0 : Int32} (hf : f0_lotOf100 N x0 x1 σ = some (r0, σ0)) : Met l yX0_lotOf100 (WS yX0_lotOf100 cX0_lotOf100 3 (some .int)) rm0_lotOf100 (va_Pc [.int x0, .int x1] (Pd G 212 tt σ)) (P_i G 212 tt r0 σ0) 0 0 (Fr G) := by
  refine ct [(0, .int x0), (1, .int x1)] rfl (by decide) (Nat.le_of_ble_eq_true rfl) ?_
  intro p e s m below meth c ls X hr hlk hR hl
  have X : Cx p s m _ c cX0_lotOf100 3 RX0 G := X
  have hx := X.1
  have hb := X.2.1
  unfold f0_lotOf100 at hf
  refine lv_iload_n hx hb dX0_lotOf100_0 rfl (lv_at hl 0 rfl) ?_
  refine lv_bipush (v := (117 : Int32)) hx hb dX0_lotOf100_1 (by decide) ?_
  obtain ⟨r_1, σ_2, hc_3, hf⟩ := z_b_e hf
  refine go_i hR (ms_run (As := [.int x0, .int (117 : Int32)]) (rest := []) X hR ms_0_162 (c0_stirred l G N hc_3) ⟨rfl, rfl, Nat.le_of_ble_eq_true rfl, Nat.le_of_ble_eq_true rfl⟩ rfl hl.1 rfl (Nat.le_of_ble_eq_true rfl) dX0_lotOf100_3 ⟨Nat.zero_le _, Nat.zero_le _⟩) (fun H locs hR => ?_)
  refine lv_iload_n hx hb dX0_lotOf100_6 rfl (lv_at hl 1 rfl) ?_
  obtain ⟨r_4, σ_5, hc_6, hf⟩ := z_b_e hf
  refine go_i hR (ms_run (As := [.int r_1, .int x1]) (rest := []) X hR ms_0_162 (c0_stirred l G N hc_6) ⟨rfl, rfl, Nat.le_of_ble_eq_true rfl, Nat.le_of_ble_eq_true rfl⟩ rfl hl.1 rfl (Nat.le_of_ble_eq_true rfl) dX0_lotOf100_7 ⟨Nat.zero_le _, Nat.zero_le _⟩) (fun H locs hR => ?_)
  refine lv_istore_n (lv' := [(2, .int r_4), (0, .int x0), (1, .int x1)]) hx hb dX0_lotOf100_10 rfl hl (by decide) rfl (fun ls hl => ?_)
  refine lv_iload_n hx hb dX0_lotOf100_11 rfl (lv_at hl 0 rfl) ?_
  refine lv_iconst (v := (1 : Int32)) hx hb dX0_lotOf100_12 (by decide) ?_
  refine lv_iushr (v := (ush r_4 (1 : Int32))) hx hb dX0_lotOf100_13 rfl ?_
  refine lv_bipush (v := (100 : Int32)) hx hb dX0_lotOf100_14 (by decide) ?_
  refine lv_irem hx hb dX0_lotOf100_16 (by decide) ?_
  exact e_i X hR hr hlk hf dX0_lotOf100_17
abbrev rm0_passQuietYear : Room := { frames := 1, cells := 0, slots := 0, locals := 21 }
def f0_passQuietYear_50 (N : Nat) (o1 : Nat) (σ : Mm) : Option (Unit × Mm) :=
  z_l (sI σ o1 0 ((gI σ o1 0) + (1 : Int32))) fun σ_4 =>
  some ((), σ_4)
def f0_passQuietYear_44 (N : Nat) (k2 : Int32 → Mm → Option (Unit × Mm)) (o1 : Nat) (x2 : Int32) (σ : Mm) : Option (Unit × Mm) :=
  z_l (x2 + (1 : Int32)) fun x2_6 =>
  k2 x2_6 σ
def f0_passQuietYear_2 (N : Nat) (o1 : Nat) : Nat → Int32 → Mm → Option (Unit × Mm)
  | 0, _, _ => none
  | fu + 1, x2, σ => z_r (gR σ 60 1) 3 fun t_1 =>
  if (gI σ t_1 2) ≤ x2 then (
  f0_passQuietYear_50 N o1 σ) else (
  if (((gI σ o1 1) >>> (x2 &&& 31)) &&& (1 : Int32)) = 0 then (
  f0_passQuietYear_44 N (fun x2 σ => f0_passQuietYear_2 N o1 fu x2 σ) o1 x2 σ) else (
  z_c (inB x2 7) (
  z_c (inB x2 7) (z_l (sI σ (o1 + 1) (ix x2) (mnI ((gI σ (o1 + 1) (ix x2)) + (1 : Int32)) (999 : Int32))) fun σ_9 =>
  f0_passQuietYear_44 N (fun x2 σ => f0_passQuietYear_2 N o1 fu x2 σ) o1 x2 σ_9))))
def f0_passQuietYear (N : Nat) (o1 : Nat) (σ : Mm) : Option (Unit × Mm) :=
  f0_passQuietYear_2 N o1 N (0 : Int32) σ
set_option maxHeartbeats 4000000 in
set_option maxRecDepth 100000 in
theorem w0_passQuietYear_50 (X : Cx p s m args c cX0_passQuietYear 3 RX0 G) (hr : meth.sig.returnType = none) (hlk : meth.locks = false) (N : Nat) {o1 : Nat} (ho1 : (kd o1).1 = 5) :
    ∀ (σ : Mm) (H : Heap) (locs : List Loc) (ls : Array Slot), f0_passQuietYear_50 N o1 σ = some (u0, σ0) → Rp G 212 tt σ s H locs → lv_has ls 3 [(1, .ref (G.2.2 + o1))] → W p l e rm0_passQuietYear s m args below meth c H locs 0 0 (MQ below (P_v G 212 tt u0 σ0) args s 0 0 (Fr G)) (F0 m 50 ls []) := by
  have hx := X.1
  have hb := X.2.1
  intro σ H locs ls hf hR hl
  unfold f0_passQuietYear_50 at hf
  refine lv_aload_n hx hb dX0_passQuietYear_50 rfl (lv_at hl 0 rfl) ?_
  refine lv_dup hx hb dX0_passQuietYear_51 rfl ?_
  refine r_gi X hR fi_0_52 ho1 dX0_passQuietYear_52 ?_
  refine lv_iconst (v := (1 : Int32)) hx hb dX0_passQuietYear_55 (by decide) ?_
  refine lv_iadd hx hb dX0_passQuietYear_56 ?_
  refine r_pi X hR pi_0_52 ho1 dX0_passQuietYear_57 (fun H locs σ_4 eσ_4 hR => ?_)
  replace hf := z_l_e eσ_4 hf
  exact e_v X hR hr hlk hf dX0_passQuietYear_60
set_option maxHeartbeats 4000000 in
set_option maxRecDepth 100000 in
theorem w0_passQuietYear_44 (X : Cx p s m args c cX0_passQuietYear 3 RX0 G) (hr : meth.sig.returnType = none) (hlk : meth.locks = false) (N : Nat) {o1 : Nat} (ho1 : (kd o1).1 = 5) {k2 : Int32 → Mm → Option (Unit × Mm)} (hk2 : ∀ (x2 : Int32) (σ : Mm) (H : Heap) (locs : List Loc) (ls : Array Slot), k2 x2 σ = some (u0, σ0) → Rp G 212 tt σ s H locs → lv_has ls 3 [(0, .ref (G.2.2 + 60)), (1, .ref (G.2.2 + o1)), (2, .int x2)] → W p l e rm0_passQuietYear s m args below meth c H locs 0 0 (MQ below (P_v G 212 tt u0 σ0) args s 0 0 (Fr G)) (F0 m 2 ls [])) :
    ∀ (x2 : Int32) (σ : Mm) (H : Heap) (locs : List Loc) (ls : Array Slot), f0_passQuietYear_44 N k2 o1 x2 σ = some (u0, σ0) → Rp G 212 tt σ s H locs → lv_has ls 3 [(0, .ref (G.2.2 + 60)), (1, .ref (G.2.2 + o1)), (2, .int x2)] → W p l e rm0_passQuietYear s m args below meth c H locs 0 0 (MQ below (P_v G 212 tt u0 σ0) args s 0 0 (Fr G)) (F0 m 44 ls []) := by
  have hx := X.1
  have hb := X.2.1
  intro x2 σ H locs ls hf hR hl
  unfold f0_passQuietYear_44 at hf
  obtain ⟨x2_6, ex2_6⟩ : ∃ z : Int32, z = x2 + (1 : Int32) := ⟨_, rfl⟩
  replace hf := z_l_e ex2_6 hf
  refine lv_iinc (v := x2_6) (lv' := [(2, .int x2_6), (0, .ref (G.2.2 + 60)), (1, .ref (G.2.2 + o1))]) hx hb dX0_passQuietYear_44 hl (k := 2) rfl (by rw [ex2_6]; rfl) (by decide) rfl (fun ls hl => ?_)
  refine lv_goto (tgt := 2) hx hb dX0_passQuietYear_47 (by decide) ?_
  exact hk2 x2_6 σ _ _ _ hf hR (lv_sub hl [1, 2, 0] rfl)
set_option maxHeartbeats 4000000 in
set_option maxRecDepth 100000 in
theorem w0_passQuietYear_2 (X : Cx p s m args c cX0_passQuietYear 3 RX0 G) (hr : meth.sig.returnType = none) (hlk : meth.locks = false) (N : Nat) {o1 : Nat} (ho1 : (kd o1).1 = 5) :
    ∀ (fu : Nat) (x2 : Int32) (σ : Mm) (H : Heap) (locs : List Loc) (ls : Array Slot), f0_passQuietYear_2 N o1 fu x2 σ = some (u0, σ0) → Rp G 212 tt σ s H locs → lv_has ls 3 [(0, .ref (G.2.2 + 60)), (1, .ref (G.2.2 + o1)), (2, .int x2)] → W p l e rm0_passQuietYear s m args below meth c H locs 0 0 (MQ below (P_v G 212 tt u0 σ0) args s 0 0 (Fr G)) (F0 m 2 ls []) := by
  have hx := X.1
  have hb := X.2.1
  intro fu
  induction fu with
  | zero =>
    intro x2 σ H locs ls hf hR hl
    rw [f0_passQuietYear_2] at hf
    cases hf
  | succ fu ih =>
    intro x2 σ H locs ls hf hR hl
    rw [f0_passQuietYear_2] at hf
    refine lv_iload_n hx hb dX0_passQuietYear_2 rfl (lv_at hl 2 rfl) ?_
    refine lv_aload_n hx hb dX0_passQuietYear_3 rfl (lv_at hl 0 rfl) ?_
    obtain ⟨t_1, ht_2, kht_2, hf⟩ := z_r_e hf
    refine r_gd X hR fr_0_31 kh_60 ht_2 dX0_passQuietYear_4 ?_
    refine r_gi X hR fi_0_35 kht_2 dX0_passQuietYear_7 ?_
    refine lv_icmp_ge (tgt := 50) hx hb dX0_passQuietYear_10 (by decide) (fun c_3 => ?_) (fun c_3 => ?_)
    · replace hf := z_t c_3 hf
      exact w0_passQuietYear_50 X hr hlk N ho1   σ _ _ _ hf hR (lv_sub hl [1] rfl)
    · replace hf := z_f c_3 hf
      refine lv_aload_n hx hb dX0_passQuietYear_13 rfl (lv_at hl 1 rfl) ?_
      refine r_gi X hR fi_0_41 ho1 dX0_passQuietYear_14 ?_
      refine lv_iload_n hx hb dX0_passQuietYear_17 rfl (lv_at hl 2 rfl) ?_
      refine lv_ishr hx hb dX0_passQuietYear_18 ?_
      refine lv_iconst (v := (1 : Int32)) hx hb dX0_passQuietYear_19 (by decide) ?_
      refine lv_iand hx hb dX0_passQuietYear_20 ?_
      refine lv_if_eq (tgt := 44) hx hb dX0_passQuietYear_21 (by decide) (fun c_5 => ?_) (fun c_5 => ?_)
      · replace hf := z_t c_5 hf
        exact w0_passQuietYear_44 X hr hlk N ho1 ih x2 σ _ _ _ hf hR (lv_sub hl [0, 1, 2] rfl)
      · replace hf := z_f c_5 hf
        refine lv_aload_n hx hb dX0_passQuietYear_24 rfl (lv_at hl 1 rfl) ?_
        refine r_gs (t := (o1 + 1)) X hR fr_0_46 ho1 (sx_5_4 ho1) dX0_passQuietYear_25 ?_
        refine lv_iload_n hx hb dX0_passQuietYear_28 rfl (lv_at hl 2 rfl) ?_
        refine lv_aload_n hx hb dX0_passQuietYear_29 rfl (lv_at hl 1 rfl) ?_
        refine r_gs (t := (o1 + 1)) X hR fr_0_46 ho1 (sx_5_4 ho1) dX0_passQuietYear_30 ?_
        refine lv_iload_n hx hb dX0_passQuietYear_33 rfl (lv_at hl 2 rfl) ?_
        obtain ⟨hi_7, hf⟩ := z_c_e hf
        refine r_ial X hR (kx_5_4 ho1) hi_7 dX0_passQuietYear_34 ?_
        refine lv_iconst (v := (1 : Int32)) hx hb dX0_passQuietYear_35 (by decide) ?_
        refine lv_iadd hx hb dX0_passQuietYear_36 ?_
        refine lv_sipush (v := (999 : Int32)) hx hb dX0_passQuietYear_37 (by decide) ?_
        refine va_mmin hx hb (X.2.2.1.trans hl.1.symm) X.2.2.2.1 (X.2.2.2.2.1 _ jl_0_141) (X.2.2.2.2.1 _ jm_min_s) (X.2.2.2.2.1 _ jm_ini) (X.2.2.2.2.1 _ jm_min_c) (Nat.le_of_ble_eq_true rfl) (Nat.le_of_ble_eq_true rfl) (Nat.zero_le _) (Nat.zero_le _) dX0_passQuietYear_40 ?_
        obtain ⟨hi_8, hf⟩ := z_c_e hf
        refine r_ias X hR (kx_5_4 ho1) hi_8 dX0_passQuietYear_43 (fun H locs σ_9 eσ_9 hR => ?_)
        replace hf := z_l_e eσ_9 hf
        exact w0_passQuietYear_44 X hr hlk N ho1 ih x2 σ_9 _ _ _ hf hR (lv_sub hl [0, 1, 2] rfl)
set_option maxHeartbeats 4000000 in
set_option maxRecDepth 100000 in
theorem c0_passQuietYear (l : Launch) (G : Gp) (N : Nat) {o1 : Nat} (ho1 : (kd o1).1 = 5) {σ σ0 : Mm} {u0 : Unit} (hf : f0_passQuietYear N o1 σ = some (u0, σ0)) : Met l yX0_passQuietYear (WS yX0_passQuietYear cX0_passQuietYear 3 (none)) rm0_passQuietYear (va_Pc [.ref (G.2.2 + 60), .ref (G.2.2 + o1)] (Pd G 212 tt σ)) (P_v G 212 tt u0 σ0) 0 0 (Fr G) := by
  refine ct [(0, .ref (G.2.2 + 60)), (1, .ref (G.2.2 + o1))] rfl (by decide) (Nat.le_of_ble_eq_true rfl) ?_
  intro p e s m below meth c ls X hr hlk hR hl
  have X : Cx p s m _ c cX0_passQuietYear 3 RX0 G := X
  have hx := X.1
  have hb := X.2.1
  unfold f0_passQuietYear at hf
  refine lv_iconst (v := (0 : Int32)) hx hb dX0_passQuietYear_0 (by decide) ?_
  refine lv_istore_n (lv' := [(2, .int (0 : Int32)), (0, .ref (G.2.2 + 60)), (1, .ref (G.2.2 + o1))]) hx hb dX0_passQuietYear_1 rfl hl (by decide) rfl (fun ls hl => ?_)
  exact w0_passQuietYear_2 X hr hlk N ho1  N (0 : Int32) σ _ _ _ hf hR (lv_sub hl [1, 2, 0] rfl)
abbrev rm0_passYear : Room := { frames := 3, cells := 0, slots := 0, locals := 64 }
def f0_passYear_78 (N : Nat) (o1 : Nat) (σ : Mm) : Option (Unit × Mm) :=
  z_b (f0_passQuietYear N o1 σ) fun _ σ_5 =>
  some ((), σ_5)
def f0_passYear_72 (N : Nat) (k2 : Int32 → Mm → Option (Unit × Mm)) (o1 : Nat) (x2 : Int32) (x3 : Int32) (σ : Mm) : Option (Unit × Mm) :=
  z_l (x3 + (1 : Int32)) fun x3_9 =>
  k2 x3_9 σ
def f0_passYear_2 (N : Nat) (o1 : Nat) (x2 : Int32) : Nat → Int32 → Mm → Option (Unit × Mm)
  | 0, _, _ => none
  | fu + 1, x3, σ => z_r (gR σ 60 1) 3 fun t_1 =>
  if (gI σ t_1 2) ≤ x3 then (
  f0_passYear_78 N o1 σ) else (
  z_l (((1 : Int32) <<< (x3 &&& 31))) fun x4_7 =>
  if ((gI σ o1 1) &&& x4_7) = 0 then (
  f0_passYear_72 N (fun x3 σ => f0_passYear_2 N o1 x2 fu x3 σ) o1 x2 x3 σ) else (
  z_b (f0_deathIn100 N o1 x3 σ) fun r_10 σ_11 =>
  if r_10 ≤ 0 then (
  f0_passYear_72 N (fun x3 σ => f0_passYear_2 N o1 x2 fu x3 σ) o1 x2 x3 σ_11) else (
  z_b (f0_lotOf100 N x2 (((8 : Int32) * (gI σ_11 o1 0)) + x3) σ_11) fun r_14 σ_15 =>
  if r_10 ≤ r_14 then (
  f0_passYear_72 N (fun x3 σ => f0_passYear_2 N o1 x2 fu x3 σ) o1 x2 x3 σ_15) else (
  z_l (sI σ_15 o1 1 ((gI σ_15 o1 1) &&& (x4_7 ^^^ (-1 : Int32)))) fun σ_18 =>
  f0_passYear_72 N (fun x3 σ => f0_passYear_2 N o1 x2 fu x3 σ) o1 x2 x3 σ_18))))
def f0_passYear (N : Nat) (o1 : Nat) (x2 : Int32) (σ : Mm) : Option (Unit × Mm) :=
  f0_passYear_2 N o1 x2 N (0 : Int32) σ
set_option maxHeartbeats 4000000 in
set_option maxRecDepth 100000 in
theorem w0_passYear_78 (X : Cx p s m args c cX0_passYear 6 RX0 G) (hr : meth.sig.returnType = none) (hlk : meth.locks = false) (N : Nat) {o1 : Nat} (ho1 : (kd o1).1 = 5) :
    ∀ (σ : Mm) (H : Heap) (locs : List Loc) (ls : Array Slot), f0_passYear_78 N o1 σ = some (u0, σ0) → Rp G 212 tt σ s H locs → lv_has ls 6 [(0, .ref (G.2.2 + 60)), (1, .ref (G.2.2 + o1))] → W p l e rm0_passYear s m args below meth c H locs 0 0 (MQ below (P_v G 212 tt u0 σ0) args s 0 0 (Fr G)) (F0 m 78 ls []) := by
  have hx := X.1
  have hb := X.2.1
  intro σ H locs ls hf hR hl
  unfold f0_passYear_78 at hf
  refine lv_aload_n hx hb dX0_passYear_78 rfl (lv_at hl 0 rfl) ?_
  refine lv_aload_n hx hb dX0_passYear_79 rfl (lv_at hl 1 rfl) ?_
  obtain ⟨r_4, σ_5, hc_6, hf⟩ := z_b_e hf
  refine go_v hR (mv_run (As := [.ref (G.2.2 + o1)]) (rest := []) X hR mv_0_137 kh_60 (kd_lt kh_60 (by decide)) (c0_passQuietYear l G N ho1 hc_6) ⟨rfl, rfl, Nat.le_of_ble_eq_true rfl, Nat.le_of_ble_eq_true rfl⟩ rfl hl.1 rfl (Nat.le_of_ble_eq_true rfl) dX0_passYear_80 ⟨Nat.zero_le _, Nat.zero_le _⟩) (fun H locs hR => ?_)
  exact e_v X hR hr hlk hf dX0_passYear_83
set_option maxHeartbeats 4000000 in
set_option maxRecDepth 100000 in
theorem w0_passYear_72 (X : Cx p s m args c cX0_passYear 6 RX0 G) (hr : meth.sig.returnType = none) (hlk : meth.locks = false) (N : Nat) {o1 : Nat} (ho1 : (kd o1).1 = 5) {x2 : Int32} {k2 : Int32 → Mm → Option (Unit × Mm)} (hk2 : ∀ (x3 : Int32) (σ : Mm) (H : Heap) (locs : List Loc) (ls : Array Slot), k2 x3 σ = some (u0, σ0) → Rp G 212 tt σ s H locs → lv_has ls 6 [(0, .ref (G.2.2 + 60)), (1, .ref (G.2.2 + o1)), (2, .int x2), (3, .int x3)] → W p l e rm0_passYear s m args below meth c H locs 0 0 (MQ below (P_v G 212 tt u0 σ0) args s 0 0 (Fr G)) (F0 m 2 ls [])) :
    ∀ (x3 : Int32) (σ : Mm) (H : Heap) (locs : List Loc) (ls : Array Slot), f0_passYear_72 N k2 o1 x2 x3 σ = some (u0, σ0) → Rp G 212 tt σ s H locs → lv_has ls 6 [(0, .ref (G.2.2 + 60)), (1, .ref (G.2.2 + o1)), (2, .int x2), (3, .int x3)] → W p l e rm0_passYear s m args below meth c H locs 0 0 (MQ below (P_v G 212 tt u0 σ0) args s 0 0 (Fr G)) (F0 m 72 ls []) := by
  have hx := X.1
  have hb := X.2.1
  intro x3 σ H locs ls hf hR hl
  unfold f0_passYear_72 at hf
  obtain ⟨x3_9, ex3_9⟩ : ∃ z : Int32, z = x3 + (1 : Int32) := ⟨_, rfl⟩
  replace hf := z_l_e ex3_9 hf
  refine lv_iinc (v := x3_9) (lv' := [(3, .int x3_9), (0, .ref (G.2.2 + 60)), (1, .ref (G.2.2 + o1)), (2, .int x2)]) hx hb dX0_passYear_72 hl (k := 3) rfl (by rw [ex3_9]; rfl) (by decide) rfl (fun ls hl => ?_)
  refine lv_goto (tgt := 2) hx hb dX0_passYear_75 (by decide) ?_
  exact hk2 x3_9 σ _ _ _ hf hR (lv_sub hl [1, 2, 3, 0] rfl)
set_option maxHeartbeats 4000000 in
set_option maxRecDepth 100000 in
theorem w0_passYear_2 (X : Cx p s m args c cX0_passYear 6 RX0 G) (hr : meth.sig.returnType = none) (hlk : meth.locks = false) (N : Nat) {o1 : Nat} (ho1 : (kd o1).1 = 5) {x2 : Int32} :
    ∀ (fu : Nat) (x3 : Int32) (σ : Mm) (H : Heap) (locs : List Loc) (ls : Array Slot), f0_passYear_2 N o1 x2 fu x3 σ = some (u0, σ0) → Rp G 212 tt σ s H locs → lv_has ls 6 [(0, .ref (G.2.2 + 60)), (1, .ref (G.2.2 + o1)), (2, .int x2), (3, .int x3)] → W p l e rm0_passYear s m args below meth c H locs 0 0 (MQ below (P_v G 212 tt u0 σ0) args s 0 0 (Fr G)) (F0 m 2 ls []) := by
  have hx := X.1
  have hb := X.2.1
  intro fu
  induction fu with
  | zero =>
    intro x3 σ H locs ls hf hR hl
    rw [f0_passYear_2] at hf
    cases hf
  | succ fu ih =>
    intro x3 σ H locs ls hf hR hl
    rw [f0_passYear_2] at hf
    refine lv_iload_n hx hb dX0_passYear_2 rfl (lv_at hl 3 rfl) ?_
    refine lv_aload_n hx hb dX0_passYear_3 rfl (lv_at hl 0 rfl) ?_
    obtain ⟨t_1, ht_2, kht_2, hf⟩ := z_r_e hf
    refine r_gd X hR fr_0_31 kh_60 ht_2 dX0_passYear_4 ?_
    refine r_gi X hR fi_0_35 kht_2 dX0_passYear_7 ?_
    refine lv_icmp_ge (tgt := 78) hx hb dX0_passYear_10 (by decide) (fun c_3 => ?_) (fun c_3 => ?_)
    · replace hf := z_t c_3 hf
      exact w0_passYear_78 X hr hlk N ho1   σ _ _ _ hf hR (lv_sub hl [0, 1] rfl)
    · replace hf := z_f c_3 hf
      refine lv_iconst (v := (1 : Int32)) hx hb dX0_passYear_13 (by decide) ?_
      refine lv_iload_n hx hb dX0_passYear_14 rfl (lv_at hl 3 rfl) ?_
      refine lv_ishl hx hb dX0_passYear_15 ?_
      refine lv_topi (fun x4_7 ex4_7 => ?_)
      replace hf := z_l_e ex4_7 hf
      refine lv_istore (lv' := [(4, .int x4_7), (0, .ref (G.2.2 + 60)), (1, .ref (G.2.2 + o1)), (2, .int x2), (3, .int x3)]) hx hb dX0_passYear_16 hl (by decide) rfl (fun ls hl => ?_)
      refine lv_aload_n hx hb dX0_passYear_18 rfl (lv_at hl 2 rfl) ?_
      refine r_gi X hR fi_0_41 ho1 dX0_passYear_19 ?_
      refine lv_iload hx hb dX0_passYear_22 (lv_at hl 0 rfl) ?_
      refine lv_iand hx hb dX0_passYear_24 ?_
      refine lv_if_eq (tgt := 72) hx hb dX0_passYear_25 (by decide) (fun c_8 => ?_) (fun c_8 => ?_)
      · replace hf := z_t c_8 hf
        exact w0_passYear_72 X hr hlk N ho1 ih x3 σ _ _ _ hf hR (lv_sub hl [1, 2, 3, 4] rfl)
      · replace hf := z_f c_8 hf
        refine lv_aload_n hx hb dX0_passYear_28 rfl (lv_at hl 1 rfl) ?_
        refine lv_aload_n hx hb dX0_passYear_29 rfl (lv_at hl 2 rfl) ?_
        refine lv_iload_n hx hb dX0_passYear_30 rfl (lv_at hl 4 rfl) ?_
        obtain ⟨r_10, σ_11, hc_12, hf⟩ := z_b_e hf
        refine go_i hR (mv_run (As := [.ref (G.2.2 + o1), .int x3]) (rest := []) X hR mv_0_131 kh_60 (kd_lt kh_60 (by decide)) (c0_deathIn100 l G N ho1 hc_12) ⟨rfl, rfl, Nat.le_of_ble_eq_true rfl, Nat.le_of_ble_eq_true rfl⟩ rfl hl.1 rfl (Nat.le_of_ble_eq_true rfl) dX0_passYear_31 ⟨Nat.zero_le _, Nat.zero_le _⟩) (fun H locs hR => ?_)
        refine lv_istore (lv' := [(5, .int r_10), (4, .int x4_7), (0, .ref (G.2.2 + 60)), (1, .ref (G.2.2 + o1)), (2, .int x2), (3, .int x3)]) hx hb dX0_passYear_34 hl (by decide) rfl (fun ls hl => ?_)
        refine lv_iload hx hb dX0_passYear_36 (lv_at hl 0 rfl) ?_
        refine lv_if_le (tgt := 72) hx hb dX0_passYear_38 (by decide) (fun c_13 => ?_) (fun c_13 => ?_)
        · replace hf := z_t c_13 hf
          exact w0_passYear_72 X hr hlk N ho1 ih x3 σ_11 _ _ _ hf hR (lv_sub hl [2, 3, 4, 5] rfl)
        · replace hf := z_f c_13 hf
          refine lv_iload_n hx hb dX0_passYear_41 rfl (lv_at hl 4 rfl) ?_
          refine lv_bipush (v := (8 : Int32)) hx hb dX0_passYear_42 (by decide) ?_
          refine lv_aload_n hx hb dX0_passYear_44 rfl (lv_at hl 3 rfl) ?_
          refine r_gi X hR fi_0_52 ho1 dX0_passYear_45 ?_
          refine lv_imul hx hb dX0_passYear_48 ?_
          refine lv_iload_n hx hb dX0_passYear_49 rfl (lv_at hl 5 rfl) ?_
          refine lv_iadd hx hb dX0_passYear_50 ?_
          obtain ⟨r_14, σ_15, hc_16, hf⟩ := z_b_e hf
          refine go_i hR (ms_run (As := [.int x2, .int (((8 : Int32) * (gI σ_11 o1 0)) + x3)]) (rest := []) X hR ms_0_134 (c0_lotOf100 l G N hc_16) ⟨rfl, rfl, Nat.le_of_ble_eq_true rfl, Nat.le_of_ble_eq_true rfl⟩ rfl hl.1 rfl (Nat.le_of_ble_eq_true rfl) dX0_passYear_51 ⟨Nat.zero_le _, Nat.zero_le _⟩) (fun H locs hR => ?_)
          refine lv_iload hx hb dX0_passYear_54 (lv_at hl 0 rfl) ?_
          refine lv_icmp_ge (tgt := 72) hx hb dX0_passYear_56 (by decide) (fun c_17 => ?_) (fun c_17 => ?_)
          · replace hf := z_t c_17 hf
            exact w0_passYear_72 X hr hlk N ho1 ih x3 σ_15 _ _ _ hf hR (lv_sub hl [2, 3, 4, 5] rfl)
          · replace hf := z_f c_17 hf
            refine lv_aload_n hx hb dX0_passYear_59 rfl (lv_at hl 3 rfl) ?_
            refine lv_dup hx hb dX0_passYear_60 rfl ?_
            refine r_gi X hR fi_0_41 ho1 dX0_passYear_61 ?_
            refine lv_iload hx hb dX0_passYear_64 (lv_at hl 1 rfl) ?_
            refine lv_iconst (v := (-1 : Int32)) hx hb dX0_passYear_66 (by decide) ?_
            refine lv_ixor hx hb dX0_passYear_67 ?_
            refine lv_iand hx hb dX0_passYear_68 ?_
            refine r_pi X hR pi_0_41 ho1 dX0_passYear_69 (fun H locs σ_18 eσ_18 hR => ?_)
            replace hf := z_l_e eσ_18 hf
            exact w0_passYear_72 X hr hlk N ho1 ih x3 σ_18 _ _ _ hf hR (lv_sub hl [2, 3, 4, 5] rfl)
set_option maxHeartbeats 4000000 in
set_option maxRecDepth 100000 in
theorem c0_passYear (l : Launch) (G : Gp) (N : Nat) {o1 : Nat} (ho1 : (kd o1).1 = 5) {x2 : Int32} {σ σ0 : Mm} {u0 : Unit} (hf : f0_passYear N o1 x2 σ = some (u0, σ0)) : Met l yX0_passYear (WS yX0_passYear cX0_passYear 6 (none)) rm0_passYear (va_Pc [.ref (G.2.2 + 60), .ref (G.2.2 + o1), .int x2] (Pd G 212 tt σ)) (P_v G 212 tt u0 σ0) 0 0 (Fr G) := by
  refine ct [(0, .ref (G.2.2 + 60)), (1, .ref (G.2.2 + o1)), (2, .int x2)] rfl (by decide) (Nat.le_of_ble_eq_true rfl) ?_
  intro p e s m below meth c ls X hr hlk hR hl
  have X : Cx p s m _ c cX0_passYear 6 RX0 G := X
  have hx := X.1
  have hb := X.2.1
  unfold f0_passYear at hf
  refine lv_iconst (v := (0 : Int32)) hx hb dX0_passYear_0 (by decide) ?_
  refine lv_istore_n (lv' := [(3, .int (0 : Int32)), (0, .ref (G.2.2 + 60)), (1, .ref (G.2.2 + o1)), (2, .int x2)]) hx hb dX0_passYear_1 rfl hl (by decide) rfl (fun ls hl => ?_)
  exact w0_passYear_2 X hr hlk N ho1  N (0 : Int32) σ _ _ _ hf hR (lv_sub hl [1, 2, 3, 0] rfl)
end GEN
