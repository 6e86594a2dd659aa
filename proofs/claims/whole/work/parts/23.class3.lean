section GEN
variable {p : Program} {l : Launch} {e : Env} {s : State} {m : MethodId} {args : Array Value} {below : List Frame} {meth : Method} {c : Code} {G : Gp} {r0 : Int32} {l0 : Int64} {u0 : Unit} {σ0 : Mm}

abbrev rm7_measure : Room := { frames := 3, cells := 0, slots := 0, locals := 74 }
def f7_measure_119 (N : Nat) (k89 : Int32 → Mm → Option (Unit × Mm)) (o2 : Nat) (x3 : Int32) (x4 : Int32) (σ : Mm) : Option (Unit × Mm) :=
  z_l (x4 + (1 : Int32)) fun x4_5 =>
  k89 x4_5 σ
def f7_measure_89 (N : Nat) (o2 : Nat) (x3 : Int32) : Nat → Int32 → Mm → Option (Unit × Mm)
  | 0, _, _ => none
  | fu + 1, x4, σ => if x3 < x4 then (
  some ((), σ)) else (
  if (128 : Int32) ≤ x4 then (
  some ((), σ)) else (
  if (x4 &&& (x3 ^^^ (-1 : Int32))) = 0 then (
  z_b (f7_findThrough N x3 x4 σ) fun _ σ_7 =>
  f7_measure_119 N (fun x4 σ => f7_measure_89 N o2 x3 fu x4 σ) o2 x3 x4 σ_7) else (
  f7_measure_119 N (fun x4 σ => f7_measure_89 N o2 x3 fu x4 σ) o2 x3 x4 σ)))
def f7_measure_86 (N : Nat) (o2 : Nat) (x3 : Int32) (σ : Mm) : Option (Unit × Mm) :=
  f7_measure_89 N o2 x3 N (0 : Int32) σ
def f7_measure_80 (N : Nat) (k3 : Int32 → Mm → Option (Unit × Mm)) (o2 : Nat) (x3 : Int32) (x4 : Int32) (σ : Mm) : Option (Unit × Mm) :=
  z_l (x4 + (1 : Int32)) fun x4_13 =>
  k3 x4_13 σ
def f7_measure_74 (N : Nat) (k3 : Int32 → Mm → Option (Unit × Mm)) (k36 : Int32 → Mm → Option (Unit × Mm)) (o2 : Nat) (x3 : Int32) (x4 : Int32) (x5 : Int32) (σ : Mm) : Option (Unit × Mm) :=
  z_l (x5 + (1 : Int32)) fun x5_24 =>
  k36 x5_24 σ
def f7_measure_36 (N : Nat) (k3 : Int32 → Mm → Option (Unit × Mm)) (o2 : Nat) (x3 : Int32) (x4 : Int32) : Nat → Int32 → Mm → Option (Unit × Mm)
  | 0, _, _ => none
  | fu + 1, x5, σ => if (7 : Int32) ≤ x5 then (
  f7_measure_80 N k3 o2 x3 x4 σ) else (
  z_b (f7_isIn N x3 x5 σ) fun r_20 σ_21 =>
  if r_20 = 0 then (
  f7_measure_74 N k3 (fun x5 σ => f7_measure_36 N k3 o2 x3 x4 fu x5 σ) o2 x3 x4 x5 σ_21) else (
  z_b (f0_walking N o2 x4 x5 σ_21) fun r_25 σ_26 =>
  z_c (inB ((x4 * (7 : Int32)) + x5) 49) (z_l (sI σ_26 67 (ix ((x4 * (7 : Int32)) + x5)) r_25) fun σ_29 =>
  f7_measure_74 N k3 (fun x5 σ => f7_measure_36 N k3 o2 x3 x4 fu x5 σ) o2 x3 x4 x5 σ_29)))
def f7_measure_3 (N : Nat) (o2 : Nat) (x3 : Int32) : Nat → Int32 → Mm → Option (Unit × Mm)
  | 0, _, _ => none
  | fu + 1, x4, σ => if (7 : Int32) ≤ x4 then (
  f7_measure_86 N o2 x3 σ) else (
  z_b (f7_isIn N x3 x4 σ) fun r_9 σ_10 =>
  if r_9 = 0 then (
  f7_measure_80 N (fun x4 σ => f7_measure_3 N o2 x3 fu x4 σ) o2 x3 x4 σ_10) else (
  z_b (f0_asking N o2 x4 σ_10) fun r_14 σ_15 =>
  z_c (inB x4 7) (z_l (sI σ_15 68 (ix x4) r_14) fun σ_18 =>
  f7_measure_36 N (fun x4 σ => f7_measure_3 N o2 x3 fu x4 σ) o2 x3 x4 N (0 : Int32) σ_18)))
def f7_measure (N : Nat) (o2 : Nat) (x3 : Int32) (σ : Mm) : Option (Unit × Mm) :=
  f7_measure_3 N o2 x3 N (0 : Int32) σ
set_option maxHeartbeats 4000000 in
set_option maxRecDepth 100000 in
theorem w7_measure_119 (X : Cx p s m args c cX7_measure 6 RX7 G) (hr : meth.sig.returnType = none) (hlk : meth.locks = false) (N : Nat) {o2 : Nat} (ho2 : (kd o2).1 = 5) {x3 : Int32} {k89 : Int32 → Mm → Option (Unit × Mm)} (hk89 : ∀ (x4 : Int32) (σ : Mm) (H : Heap) (locs : List Loc) (ls : Array Slot), k89 x4 σ = some (u0, σ0) → Rp G 212 tt σ s H locs → lv_has ls 6 [(0, .ref (G.2.2 + 66)), (3, .int x3), (4, .int x4)] → W p l e rm7_measure s m args below meth c H locs 0 0 (MQ below (P_v G 212 tt u0 σ0) args s 0 0 (Fr G)) (F0 m 89 ls [])) :
    ∀ (x4 : Int32) (σ : Mm) (H : Heap) (locs : List Loc) (ls : Array Slot), f7_measure_119 N k89 o2 x3 x4 σ = some (u0, σ0) → Rp G 212 tt σ s H locs → lv_has ls 6 [(0, .ref (G.2.2 + 66)), (3, .int x3), (4, .int x4)] → W p l e rm7_measure s m args below meth c H locs 0 0 (MQ below (P_v G 212 tt u0 σ0) args s 0 0 (Fr G)) (F0 m 119 ls []) := by
  have hx := X.1
  have hb := X.2.1
  intro x4 σ H locs ls hf hR hl
  unfold f7_measure_119 at hf
  obtain ⟨x4_5, ex4_5⟩ : ∃ z : Int32, z = x4 + (1 : Int32) := ⟨_, rfl⟩
  replace hf := z_l_e ex4_5 hf
  refine lv_iinc (v := x4_5) (lv' := [(4, .int x4_5), (0, .ref (G.2.2 + 66)), (3, .int x3)]) hx hb dX7_measure_119 hl (k := 2) rfl (by rw [ex4_5]; rfl) (by decide) rfl (fun ls hl => ?_)
  refine lv_goto (tgt := 89) hx hb dX7_measure_122 (by decide) ?_
  exact hk89 x4_5 σ _ _ _ hf hR (lv_sub hl [1, 2, 0] rfl)
set_option maxHeartbeats 4000000 in
set_option maxRecDepth 100000 in
theorem w7_measure_89 (X : Cx p s m args c cX7_measure 6 RX7 G) (hr : meth.sig.returnType = none) (hlk : meth.locks = false) (N : Nat) {o2 : Nat} (ho2 : (kd o2).1 = 5) {x3 : Int32} :
    ∀ (fu : Nat) (x4 : Int32) (σ : Mm) (H : Heap) (locs : List Loc) (ls : Array Slot), f7_measure_89 N o2 x3 fu x4 σ = some (u0, σ0) → Rp G 212 tt σ s H locs → lv_has ls 6 [(0, .ref (G.2.2 + 66)), (3, .int x3), (4, .int x4)] → W p l e rm7_measure s m args below meth c H locs 0 0 (MQ below (P_v G 212 tt u0 σ0) args s 0 0 (Fr G)) (F0 m 89 ls []) := by
  have hx := X.1
  have hb := X.2.1
  intro fu
  induction fu with
  | zero =>
    intro x4 σ H locs ls hf hR hl
    rw [f7_measure_89] at hf
    cases hf
  | succ fu ih =>
    intro x4 σ H locs ls hf hR hl
    rw [f7_measure_89] at hf
    refine lv_iload hx hb dX7_measure_89 (lv_at hl 2 rfl) ?_
    refine lv_iload_n hx hb dX7_measure_91 rfl (lv_at hl 1 rfl) ?_
    refine lv_icmp_gt (tgt := 125) hx hb dX7_measure_92 (by decide) (fun c_2 => ?_) (fun c_2 => ?_)
    · replace hf := z_t c_2 hf
      exact e_v X hR hr hlk hf dX7_measure_125
    · replace hf := z_f c_2 hf
      refine lv_iload hx hb dX7_measure_95 (lv_at hl 2 rfl) ?_
      refine lv_sipush (v := (128 : Int32)) hx hb dX7_measure_97 (by decide) ?_
      refine lv_icmp_ge (tgt := 125) hx hb dX7_measure_100 (by decide) (fun c_3 => ?_) (fun c_3 => ?_)
      · replace hf := z_t c_3 hf
        exact e_v X hR hr hlk hf dX7_measure_125
      · replace hf := z_f c_3 hf
        refine lv_iload hx hb dX7_measure_103 (lv_at hl 2 rfl) ?_
        refine lv_iload_n hx hb dX7_measure_105 rfl (lv_at hl 1 rfl) ?_
        refine lv_iconst (v := (-1 : Int32)) hx hb dX7_measure_106 (by decide) ?_
        refine lv_ixor hx hb dX7_measure_107 ?_
        refine lv_iand hx hb dX7_measure_108 ?_
        refine lv_if_ne (tgt := 119) hx hb dX7_measure_109 (by decide) (fun c_4 => ?_) (fun c_4 => ?_)
        · replace hf := z_f c_4 hf
          exact w7_measure_119 X hr hlk N ho2 ih x4 σ _ _ _ hf hR (lv_sub hl [0, 1, 2] rfl)
        · replace hf := z_t c_4 hf
          refine lv_aload_n hx hb dX7_measure_112 rfl (lv_at hl 0 rfl) ?_
          refine lv_iload_n hx hb dX7_measure_113 rfl (lv_at hl 1 rfl) ?_
          refine lv_iload hx hb dX7_measure_114 (lv_at hl 2 rfl) ?_
          obtain ⟨r_6, σ_7, hc_8, hf⟩ := z_b_e hf
          refine go_v hR (mv_run (As := [.int x3, .int x4]) (rest := []) X hR mv_7_35 kh_66 (kd_lt kh_66 (by decide)) (c7_findThrough l G N hc_8) ⟨rfl, rfl, Nat.le_of_ble_eq_true rfl, Nat.le_of_ble_eq_true rfl⟩ rfl hl.1 rfl (Nat.le_of_ble_eq_true rfl) dX7_measure_116 ⟨Nat.zero_le _, Nat.zero_le _⟩) (fun H locs hR => ?_)
          exact w7_measure_119 X hr hlk N ho2 ih x4 σ_7 _ _ _ hf hR (lv_sub hl [0, 1, 2] rfl)
set_option maxHeartbeats 4000000 in
set_option maxRecDepth 100000 in
theorem w7_measure_86 (X : Cx p s m args c cX7_measure 6 RX7 G) (hr : meth.sig.returnType = none) (hlk : meth.locks = false) (N : Nat) {o2 : Nat} (ho2 : (kd o2).1 = 5) :
    ∀ (x3 : Int32) (σ : Mm) (H : Heap) (locs : List Loc) (ls : Array Slot), f7_measure_86 N o2 x3 σ = some (u0, σ0) → Rp G 212 tt σ s H locs → lv_has ls 6 [(0, .ref (G.2.2 + 66)), (3, .int x3)] → W p l e rm7_measure s m args below meth c H locs 0 0 (MQ below (P_v G 212 tt u0 σ0) args s 0 0 (Fr G)) (F0 m 86 ls []) := by
  have hx := X.1
  have hb := X.2.1
  intro x3 σ H locs ls hf hR hl
  unfold f7_measure_86 at hf
  refine lv_iconst (v := (0 : Int32)) hx hb dX7_measure_86 (by decide) ?_
  refine lv_istore (lv' := [(4, .int (0 : Int32)), (0, .ref (G.2.2 + 66)), (3, .int x3)]) hx hb dX7_measure_87 hl (by decide) rfl (fun ls hl => ?_)
  exact w7_measure_89 X hr hlk N ho2  N (0 : Int32) σ _ _ _ hf hR (lv_sub hl [1, 2, 0] rfl)
set_option maxHeartbeats 4000000 in
set_option maxRecDepth 100000 in
theorem w7_measure_80 (X : Cx p s m args c cX7_measure 6 RX7 G) (hr : meth.sig.returnType = none) (hlk : meth.locks = false) (N : Nat) {o2 : Nat} (ho2 : (kd o2).1 = 5) {x3 : Int32} {k3 : Int32 → Mm → Option (Unit × Mm)} (hk3 : ∀ (x4 : Int32) (σ : Mm) (H : Heap) (locs : List Loc) (ls : Array Slot), k3 x4 σ = some (u0, σ0) → Rp G 212 tt σ s H locs → lv_has ls 6 [(0, .ref (G.2.2 + 66)), (1, .ref (G.2.2 + 60)), (2, .ref (G.2.2 + o2)), (3, .int x3), (4, .int x4)] → W p l e rm7_measure s m args below meth c H locs 0 0 (MQ below (P_v G 212 tt u0 σ0) args s 0 0 (Fr G)) (F0 m 3 ls [])) :
    ∀ (x4 : Int32) (σ : Mm) (H : Heap) (locs : List Loc) (ls : Array Slot), f7_measure_80 N k3 o2 x3 x4 σ = some (u0, σ0) → Rp G 212 tt σ s H locs → lv_has ls 6 [(0, .ref (G.2.2 + 66)), (1, .ref (G.2.2 + 60)), (2, .ref (G.2.2 + o2)), (3, .int x3), (4, .int x4)] → W p l e rm7_measure s m args below meth c H locs 0 0 (MQ below (P_v G 212 tt u0 σ0) args s 0 0 (Fr G)) (F0 m 80 ls []) := by
  have hx := X.1
  have hb := X.2.1
  intro x4 σ H locs ls hf hR hl
  unfold f7_measure_80 at hf
  obtain ⟨x4_13, ex4_13⟩ : ∃ z : Int32, z = x4 + (1 : Int32) := ⟨_, rfl⟩
  replace hf := z_l_e ex4_13 hf
  refine lv_iinc (v := x4_13) (lv' := [(4, .int x4_13), (0, .ref (G.2.2 + 66)), (1, .ref (G.2.2 + 60)), (2, .ref (G.2.2 + o2)), (3, .int x3)]) hx hb dX7_measure_80 hl (k := 4) rfl (by rw [ex4_13]; rfl) (by decide) rfl (fun ls hl => ?_)
  refine lv_goto (tgt := 3) hx hb dX7_measure_83 (by decide) ?_
  exact hk3 x4_13 σ _ _ _ hf hR (lv_sub hl [1, 2, 3, 4, 0] rfl)
set_option maxHeartbeats 4000000 in
set_option maxRecDepth 100000 in
theorem w7_measure_74 (X : Cx p s m args c cX7_measure 6 RX7 G) (hr : meth.sig.returnType = none) (hlk : meth.locks = false) (N : Nat) {o2 : Nat} (ho2 : (kd o2).1 = 5) {x3 : Int32} {x4 : Int32} {k3 : Int32 → Mm → Option (Unit × Mm)} (hk3 : ∀ (x4 : Int32) (σ : Mm) (H : Heap) (locs : List Loc) (ls : Array Slot), k3 x4 σ = some (u0, σ0) → Rp G 212 tt σ s H locs → lv_has ls 6 [(0, .ref (G.2.2 + 66)), (1, .ref (G.2.2 + 60)), (2, .ref (G.2.2 + o2)), (3, .int x3), (4, .int x4)] → W p l e rm7_measure s m args below meth c H locs 0 0 (MQ below (P_v G 212 tt u0 σ0) args s 0 0 (Fr G)) (F0 m 3 ls [])) {k36 : Int32 → Mm → Option (Unit × Mm)} (hk36 : ∀ (x5 : Int32) (σ : Mm) (H : Heap) (locs : List Loc) (ls : Array Slot), k36 x5 σ = some (u0, σ0) → Rp G 212 tt σ s H locs → lv_has ls 6 [(0, .ref (G.2.2 + 66)), (1, .ref (G.2.2 + 60)), (2, .ref (G.2.2 + o2)), (3, .int x3), (4, .int x4), (5, .int x5)] → W p l e rm7_measure s m args below meth c H locs 0 0 (MQ below (P_v G 212 tt u0 σ0) args s 0 0 (Fr G)) (F0 m 36 ls [])) :
    ∀ (x5 : Int32) (σ : Mm) (H : Heap) (locs : List Loc) (ls : Array Slot), f7_measure_74 N k3 k36 o2 x3 x4 x5 σ = some (u0, σ0) → Rp G 212 tt σ s H locs → lv_has ls 6 [(0, .ref (G.2.2 + 66)), (1, .ref (G.2.2 + 60)), (2, .ref (G.2.2 + o2)), (3, .int x3), (4, .int x4), (5, .int x5)] → W p l e rm7_measure s m args below meth c H locs 0 0 (MQ below (P_v G 212 tt u0 σ0) args s 0 0 (Fr G)) (F0 m 74 ls []) := by
  have hx := X.1
  have hb := X.2.1
  intro x5 σ H locs ls hf hR hl
  unfold f7_measure_74 at hf
  obtain ⟨x5_24, ex5_24⟩ : ∃ z : Int32, z = x5 + (1 : Int32) := ⟨_, rfl⟩
  replace hf := z_l_e ex5_24 hf
  refine lv_iinc (v := x5_24) (lv' := [(5, .int x5_24), (0, .ref (G.2.2 + 66)), (1, .ref (G.2.2 + 60)), (2, .ref (G.2.2 + o2)), (3, .int x3), (4, .int x4)]) hx hb dX7_measure_74 hl (k := 5) rfl (by rw [ex5_24]; rfl) (by decide) rfl (fun ls hl => ?_)
  refine lv_goto (tgt := 36) hx hb dX7_measure_77 (by decide) ?_
  exact hk36 x5_24 σ _ _ _ hf hR (lv_sub hl [1, 2, 3, 4, 5, 0] rfl)
set_option maxHeartbeats 4000000 in
set_option maxRecDepth 100000 in
theorem w7_measure_36 (X : Cx p s m args c cX7_measure 6 RX7 G) (hr : meth.sig.returnType = none) (hlk : meth.locks = false) (N : Nat) {o2 : Nat} (ho2 : (kd o2).1 = 5) {x3 : Int32} {x4 : Int32} {k3 : Int32 → Mm → Option (Unit × Mm)} (hk3 : ∀ (x4 : Int32) (σ : Mm) (H : Heap) (locs : List Loc) (ls : Array Slot), k3 x4 σ = some (u0, σ0) → Rp G 212 tt σ s H locs → lv_has ls 6 [(0, .ref (G.2.2 + 66)), (1, .ref (G.2.2 + 60)), (2, .ref (G.2.2 + o2)), (3, .int x3), (4, .int x4)] → W p l e rm7_measure s m args below meth c H locs 0 0 (MQ below (P_v G 212 tt u0 σ0) args s 0 0 (Fr G)) (F0 m 3 ls [])) :
    ∀ (fu : Nat) (x5 : Int32) (σ : Mm) (H : Heap) (locs : List Loc) (ls : Array Slot), f7_measure_36 N k3 o2 x3 x4 fu x5 σ = some (u0, σ0) → Rp G 212 tt σ s H locs → lv_has ls 6 [(0, .ref (G.2.2 + 66)), (1, .ref (G.2.2 + 60)), (2, .ref (G.2.2 + o2)), (3, .int x3), (4, .int x4), (5, .int x5)] → W p l e rm7_measure s m args below meth c H locs 0 0 (MQ below (P_v G 212 tt u0 σ0) args s 0 0 (Fr G)) (F0 m 36 ls []) := by
  have hx := X.1
  have hb := X.2.1
  intro fu
  induction fu with
  | zero =>
    intro x5 σ H locs ls hf hR hl
    rw [f7_measure_36] at hf
    cases hf
  | succ fu ih =>
    intro x5 σ H locs ls hf hR hl
    rw [f7_measure_36] at hf
    refine lv_iload hx hb dX7_measure_36 (lv_at hl 5 rfl) ?_
    refine lv_bipush (v := (7 : Int32)) hx hb dX7_measure_38 (by decide) ?_
    refine lv_icmp_ge (tgt := 80) hx hb dX7_measure_40 (by decide) (fun c_19 => ?_) (fun c_19 => ?_)
    · replace hf := z_t c_19 hf
      exact w7_measure_80 X hr hlk N ho2 hk3 x4 σ _ _ _ hf hR (lv_sub hl [0, 1, 2, 3, 4] rfl)
    · replace hf := z_f c_19 hf
      refine lv_iload_n hx hb dX7_measure_43 rfl (lv_at hl 3 rfl) ?_
      refine lv_iload hx hb dX7_measure_44 (lv_at hl 5 rfl) ?_
      obtain ⟨r_20, σ_21, hc_22, hf⟩ := z_b_e hf
      refine go_i hR (ms_run (As := [.int x3, .int x5]) (rest := []) X hR ms_7_21 (c7_isIn l G N hc_22) ⟨rfl, rfl, Nat.le_of_ble_eq_true rfl, Nat.le_of_ble_eq_true rfl⟩ rfl hl.1 rfl (Nat.le_of_ble_eq_true rfl) dX7_measure_46 ⟨Nat.zero_le _, Nat.zero_le _⟩) (fun H locs hR => ?_)
      refine lv_if_eq (tgt := 74) hx hb dX7_measure_49 (by decide) (fun c_23 => ?_) (fun c_23 => ?_)
      · replace hf := z_t c_23 hf
        exact w7_measure_74 X hr hlk N ho2 hk3 ih x5 σ_21 _ _ _ hf hR (lv_sub hl [0, 1, 2, 3, 4, 5] rfl)
      · replace hf := z_f c_23 hf
        refine lv_aload_n hx hb dX7_measure_52 rfl (lv_at hl 0 rfl) ?_
        refine r_gs (t := 67) X hR fr_7_9 kh_66 (sx_7_0 kh_66) dX7_measure_53 ?_
        refine lv_iload hx hb dX7_measure_56 (lv_at hl 4 rfl) ?_
        refine lv_bipush (v := (7 : Int32)) hx hb dX7_measure_58 (by decide) ?_
        refine lv_imul hx hb dX7_measure_60 ?_
        refine lv_iload hx hb dX7_measure_61 (lv_at hl 5 rfl) ?_
        refine lv_iadd hx hb dX7_measure_63 ?_
        refine lv_aload_n hx hb dX7_measure_64 rfl (lv_at hl 1 rfl) ?_
        refine lv_aload_n hx hb dX7_measure_65 rfl (lv_at hl 2 rfl) ?_
        refine lv_iload hx hb dX7_measure_66 (lv_at hl 4 rfl) ?_
        refine lv_iload hx hb dX7_measure_68 (lv_at hl 5 rfl) ?_
        obtain ⟨r_25, σ_26, hc_27, hf⟩ := z_b_e hf
        refine go_i hR (mv_run (As := [.ref (G.2.2 + o2), .int x4, .int x5]) (rest := [.int ((x4 * (7 : Int32)) + x5), .ref (G.2.2 + 67)]) X hR mv_7_31 kh_60 (kd_lt kh_60 (by decide)) (c0_walking l G N ho2 hc_27) ⟨rfl, rfl, Nat.le_of_ble_eq_true rfl, Nat.le_of_ble_eq_true rfl⟩ rfl hl.1 rfl (Nat.le_of_ble_eq_true rfl) dX7_measure_70 ⟨Nat.zero_le _, Nat.zero_le _⟩) (fun H locs hR => ?_)
        obtain ⟨hi_28, hf⟩ := z_c_e hf
        refine r_ias X hR ka_67 hi_28 dX7_measure_73 (fun H locs σ_29 eσ_29 hR => ?_)
        replace hf := z_l_e eσ_29 hf
        exact w7_measure_74 X hr hlk N ho2 hk3 ih x5 σ_29 _ _ _ hf hR (lv_sub hl [0, 1, 2, 3, 4, 5] rfl)
set_option maxHeartbeats 4000000 in
set_option maxRecDepth 100000 in
theorem w7_measure_3 (X : Cx p s m args c cX7_measure 6 RX7 G) (hr : meth.sig.returnType = none) (hlk : meth.locks = false) (N : Nat) {o2 : Nat} (ho2 : (kd o2).1 = 5) {x3 : Int32} :
    ∀ (fu : Nat) (x4 : Int32) (σ : Mm) (H : Heap) (locs : List Loc) (ls : Array Slot), f7_measure_3 N o2 x3 fu x4 σ = some (u0, σ0) → Rp G 212 tt σ s H locs → lv_has ls 6 [(0, .ref (G.2.2 + 66)), (1, .ref (G.2.2 + 60)), (2, .ref (G.2.2 + o2)), (3, .int x3), (4, .int x4)] → W p l e rm7_measure s m args below meth c H locs 0 0 (MQ below (P_v G 212 tt u0 σ0) args s 0 0 (Fr G)) (F0 m 3 ls []) := by
  have hx := X.1
  have hb := X.2.1
  intro fu
  induction fu with
  | zero =>
    intro x4 σ H locs ls hf hR hl
    rw [f7_measure_3] at hf
    cases hf
  | succ fu ih =>
    intro x4 σ H locs ls hf hR hl
    rw [f7_measure_3] at hf
    refine lv_iload hx hb dX7_measure_3 (lv_at hl 4 rfl) ?_
    refine lv_bipush (v := (7 : Int32)) hx hb dX7_measure_5 (by decide) ?_
    refine lv_icmp_ge (tgt := 86) hx hb dX7_measure_7 (by decide) (fun c_1 => ?_) (fun c_1 => ?_)
    · replace hf := z_t c_1 hf
      exact w7_measure_86 X hr hlk N ho2  x3 σ _ _ _ hf hR (lv_sub hl [0, 3] rfl)
    · replace hf := z_f c_1 hf
      refine lv_iload_n hx hb dX7_measure_10 rfl (lv_at hl 3 rfl) ?_
      refine lv_iload hx hb dX7_measure_11 (lv_at hl 4 rfl) ?_
      obtain ⟨r_9, σ_10, hc_11, hf⟩ := z_b_e hf
      refine go_i hR (ms_run (As := [.int x3, .int x4]) (rest := []) X hR ms_7_21 (c7_isIn l G N hc_11) ⟨rfl, rfl, Nat.le_of_ble_eq_true rfl, Nat.le_of_ble_eq_true rfl⟩ rfl hl.1 rfl (Nat.le_of_ble_eq_true rfl) dX7_measure_13 ⟨Nat.zero_le _, Nat.zero_le _⟩) (fun H locs hR => ?_)
      refine lv_if_eq (tgt := 80) hx hb dX7_measure_16 (by decide) (fun c_12 => ?_) (fun c_12 => ?_)
      · replace hf := z_t c_12 hf
        exact w7_measure_80 X hr hlk N ho2 ih x4 σ_10 _ _ _ hf hR (lv_sub hl [0, 1, 2, 3, 4] rfl)
      · replace hf := z_f c_12 hf
        refine lv_aload_n hx hb dX7_measure_19 rfl (lv_at hl 0 rfl) ?_
        refine r_gs (t := 68) X hR fr_7_15 kh_66 (sx_7_1 kh_66) dX7_measure_20 ?_
        refine lv_iload hx hb dX7_measure_23 (lv_at hl 4 rfl) ?_
        refine lv_aload_n hx hb dX7_measure_25 rfl (lv_at hl 1 rfl) ?_
        refine lv_aload_n hx hb dX7_measure_26 rfl (lv_at hl 2 rfl) ?_
        refine lv_iload hx hb dX7_measure_27 (lv_at hl 4 rfl) ?_
        obtain ⟨r_14, σ_15, hc_16, hf⟩ := z_b_e hf
        refine go_i hR (mv_run (As := [.ref (G.2.2 + o2), .int x4]) (rest := [.int x4, .ref (G.2.2 + 68)]) X hR mv_7_25 kh_60 (kd_lt kh_60 (by decide)) (c0_asking l G N ho2 hc_16) ⟨rfl, rfl, Nat.le_of_ble_eq_true rfl, Nat.le_of_ble_eq_true rfl⟩ rfl hl.1 rfl (Nat.le_of_ble_eq_true rfl) dX7_measure_29 ⟨Nat.zero_le _, Nat.zero_le _⟩) (fun H locs hR => ?_)
        obtain ⟨hi_17, hf⟩ := z_c_e hf
        refine r_ias X hR ka_68 hi_17 dX7_measure_32 (fun H locs σ_18 eσ_18 hR => ?_)
        replace hf := z_l_e eσ_18 hf
        refine lv_iconst (v := (0 : Int32)) hx hb dX7_measure_33 (by decide) ?_
        refine lv_istore (lv' := [(5, .int (0 : Int32)), (0, .ref (G.2.2 + 66)), (1, .ref (G.2.2 + 60)), (2, .ref (G.2.2 + o2)), (3, .int x3), (4, .int x4)]) hx hb dX7_measure_34 hl (by decide) rfl (fun ls hl => ?_)
        exact w7_measure_36 X hr hlk N ho2 ih N (0 : Int32) σ_18 _ _ _ hf hR (lv_sub hl [1, 2, 3, 4, 5, 0] rfl)
set_option maxHeartbeats 4000000 in
set_option maxRecDepth 100000 in
theorem c7_measure (l : Launch) (G : Gp) (N : Nat) {o2 : Nat} (ho2 : (kd o2).1 = 5) {x3 : Int32} {σ σ0 : Mm} {u0 : Unit} (hf : f7_measure N o2 x3 σ = some (u0, σ0)) : Met l yX7_measure (WS yX7_measure cX7_measure 6 (none)) rm7_measure (va_Pc [.ref (G.2.2 + 66), .ref (G.2.2 + 60), .ref (G.2.2 + o2), .int x3] (Pd G 212 tt σ)) (P_v G 212 tt u0 σ0) 0 0 (Fr G) := by
  refine ct [(0, .ref (G.2.2 + 66)), (1, .ref (G.2.2 + 60)), (2, .ref (G.2.2 + o2)), (3, .int x3)] rfl (by decide) (Nat.le_of_ble_eq_true rfl) ?_
  intro p e s m below meth c ls X hr hlk hR hl
  have X : Cx p s m _ c cX7_measure 6 RX7 G := X
  have hx := X.1
  have hb := X.2.1
  unfold f7_measure at hf
  refine lv_iconst (v := (0 : Int32)) hx hb dX7_measure_0 (by decide) ?_
  refine lv_istore (lv' := [(4, .int (0 : Int32)), (0, .ref (G.2.2 + 66)), (1, .ref (G.2.2 + 60)), (2, .ref (G.2.2 + o2)), (3, .int x3)]) hx hb dX7_measure_1 hl (by decide) rfl (fun ls hl => ?_)
  exact w7_measure_3 X hr hlk N ho2  N (0 : Int32) σ _ _ _ hf hR (lv_sub hl [1, 2, 3, 4, 0] rfl)
abbrev rm7_firstPlot : Room := { frames := 1, cells := 0, slots := 0, locals := 21 }
def f7_firstPlot_61 (N : Nat) (k7 : Int32 → Int32 → Int32 → Mm → Option (Int32 × Mm)) (x1 : Int32) (x2 : Int32) (x3 : Int32) (x4 : Int32) (σ : Mm) : Option (Int32 × Mm) :=
  z_l (x4 + (1 : Int32)) fun x4_6 =>
  k7 x2 x3 x4_6 σ
def f7_firstPlot_55 (N : Nat) (k7 : Int32 → Int32 → Int32 → Mm → Option (Int32 × Mm)) (x1 : Int32) (x4 : Int32) (x5 : Int32) (σ : Mm) : Option (Int32 × Mm) :=
  f7_firstPlot_61 N k7 x1 x4 x5 x4 σ
def f7_firstPlot_7 (N : Nat) (x1 : Int32) : Nat → Int32 → Int32 → Int32 → Mm → Option (Int32 × Mm)
  | 0, _, _, _, _ => none
  | fu + 1, x2, x3, x4, σ => if (7 : Int32) ≤ x4 then (
  some (x2, σ)) else (
  z_b (f7_isIn N x1 x4 σ) fun r_2 σ_3 =>
  if r_2 = 0 then (
  f7_firstPlot_61 N (fun x2 x3 x4 σ => f7_firstPlot_7 N x1 fu x2 x3 x4 σ) x1 x2 x3 x4 σ_3) else (
  z_c (inB (((x1 &&& (((1 : Int32) <<< (x4 &&& 31)) ^^^ (-1 : Int32))) * (7 : Int32)) + x4) 896) (
  z_l ((gI σ_3 69 (ix (((x1 &&& (((1 : Int32) <<< (x4 &&& 31)) ^^^ (-1 : Int32))) * (7 : Int32)) + x4)))) fun x5_8 =>
  if x2 = (-1 : Int32) then (
  f7_firstPlot_55 N (fun x2 x3 x4 σ => f7_firstPlot_7 N x1 fu x2 x3 x4 σ) x1 x4 x5_8 σ_3) else (
  if x3 ≤ x5_8 then (
  f7_firstPlot_61 N (fun x2 x3 x4 σ => f7_firstPlot_7 N x1 fu x2 x3 x4 σ) x1 x2 x3 x4 σ_3) else (
  f7_firstPlot_55 N (fun x2 x3 x4 σ => f7_firstPlot_7 N x1 fu x2 x3 x4 σ) x1 x4 x5_8 σ_3)))))
def f7_firstPlot (N : Nat) (x1 : Int32) (σ : Mm) : Option (Int32 × Mm) :=
  f7_firstPlot_7 N x1 N (-1 : Int32) (0 : Int32) (0 : Int32) σ
set_option maxHeartbeats 4000000 in
set_option maxRecDepth 100000 in
theorem w7_firstPlot_61 (X : Cx p s m args c cX7_firstPlot 6 RX7 G) (hr : meth.sig.returnType = some .int) (hlk : meth.locks = false) (N : Nat) {x1 : Int32} {k7 : Int32 → Int32 → Int32 → Mm → Option (Int32 × Mm)} (hk7 : ∀ (x2 : Int32) (x3 : Int32) (x4 : Int32) (σ : Mm) (H : Heap) (locs : List Loc) (ls : Array Slot), k7 x2 x3 x4 σ = some (r0, σ0) → Rp G 212 tt σ s H locs → lv_has ls 6 [(0, .ref (G.2.2 + 66)), (1, .int x1), (2, .int x2), (3, .int x3), (4, .int x4)] → W p l e rm7_firstPlot s m args below meth c H locs 0 0 (MQ below (P_i G 212 tt r0 σ0) args s 0 0 (Fr G)) (F0 m 7 ls [])) :
    ∀ (x2 : Int32) (x3 : Int32) (x4 : Int32) (σ : Mm) (H : Heap) (locs : List Loc) (ls : Array Slot), f7_firstPlot_61 N k7 x1 x2 x3 x4 σ = some (r0, σ0) → Rp G 212 tt σ s H locs → lv_has ls 6 [(0, .ref (G.2.2 + 66)), (1, .int x1), (2, .int x2), (3, .int x3), (4, .int x4)] → W p l e rm7_firstPlot s m args below meth c H locs 0 0 (MQ below (P_i G 212 tt r0 σ0) args s 0 0 (Fr G)) (F0 m 61 ls []) := by
  have hx := X.1
  have hb := X.2.1
  intro x2 x3 x4 σ H locs ls hf hR hl
  unfold f7_firstPlot_61 at hf
  obtain ⟨x4_6, ex4_6⟩ : ∃ z : Int32, z = x4 + (1 : Int32) := ⟨_, rfl⟩
  replace hf := z_l_e ex4_6 hf
  refine lv_iinc (v := x4_6) (lv' := [(4, .int x4_6), (0, .ref (G.2.2 + 66)), (1, .int x1), (2, .int x2), (3, .int x3)]) hx hb dX7_firstPlot_61 hl (k := 4) rfl (by rw [ex4_6]; rfl) (by decide) rfl (fun ls hl => ?_)
  refine lv_goto (tgt := 7) hx hb dX7_firstPlot_64 (by decide) ?_
  exact hk7 x2 x3 x4_6 σ _ _ _ hf hR (lv_sub hl [1, 2, 3, 4, 0] rfl)
set_option maxHeartbeats 4000000 in
set_option maxRecDepth 100000 in
theorem w7_firstPlot_55 (X : Cx p s m args c cX7_firstPlot 6 RX7 G) (hr : meth.sig.returnType = some .int) (hlk : meth.locks = false) (N : Nat) {x1 : Int32} {k7 : Int32 → Int32 → Int32 → Mm → Option (Int32 × Mm)} (hk7 : ∀ (x2 : Int32) (x3 : Int32) (x4 : Int32) (σ : Mm) (H : Heap) (locs : List Loc) (ls : Array Slot), k7 x2 x3 x4 σ = some (r0, σ0) → Rp G 212 tt σ s H locs → lv_has ls 6 [(0, .ref (G.2.2 + 66)), (1, .int x1), (2, .int x2), (3, .int x3), (4, .int x4)] → W p l e rm7_firstPlot s m args below meth c H locs 0 0 (MQ below (P_i G 212 tt r0 σ0) args s 0 0 (Fr G)) (F0 m 7 ls [])) :
    ∀ (x4 : Int32) (x5 : Int32) (σ : Mm) (H : Heap) (locs : List Loc) (ls : Array Slot), f7_firstPlot_55 N k7 x1 x4 x5 σ = some (r0, σ0) → Rp G 212 tt σ s H locs → lv_has ls 6 [(0, .ref (G.2.2 + 66)), (1, .int x1), (4, .int x4), (5, .int x5)] → W p l e rm7_firstPlot s m args below meth c H locs 0 0 (MQ below (P_i G 212 tt r0 σ0) args s 0 0 (Fr G)) (F0 m 55 ls []) := by
  have hx := X.1
  have hb := X.2.1
  intro x4 x5 σ H locs ls hf hR hl
  unfold f7_firstPlot_55 at hf
  refine lv_iload hx hb dX7_firstPlot_55 (lv_at hl 2 rfl) ?_
  refine lv_istore_n (lv' := [(2, .int x4), (0, .ref (G.2.2 + 66)), (1, .int x1), (4, .int x4), (5, .int x5)]) hx hb dX7_firstPlot_57 rfl hl (by decide) rfl (fun ls hl => ?_)
  refine lv_iload hx hb dX7_firstPlot_58 (lv_at hl 4 rfl) ?_
  refine lv_istore_n (lv' := [(3, .int x5), (2, .int x4), (0, .ref (G.2.2 + 66)), (1, .int x1), (4, .int x4), (5, .int x5)]) hx hb dX7_firstPlot_60 rfl hl (by decide) rfl (fun ls hl => ?_)
  exact w7_firstPlot_61 X hr hlk N hk7 x4 x5 x4 σ _ _ _ hf hR (lv_sub hl [2, 3, 1, 0, 4] rfl)
set_option maxHeartbeats 4000000 in
set_option maxRecDepth 100000 in
theorem w7_firstPlot_7 (X : Cx p s m args c cX7_firstPlot 6 RX7 G) (hr : meth.sig.returnType = some .int) (hlk : meth.locks = false) (N : Nat) {x1 : Int32} :
    ∀ (fu : Nat) (x2 : Int32) (x3 : Int32) (x4 : Int32) (σ : Mm) (H : Heap) (locs : List Loc) (ls : Array Slot), f7_firstPlot_7 N x1 fu x2 x3 x4 σ = some (r0, σ0) → Rp G 212 tt σ s H locs → lv_has ls 6 [(0, .ref (G.2.2 + 66)), (1, .int x1), (2, .int x2), (3, .int x3), (4, .int x4)] → W p l e rm7_firstPlot s m args below meth c H locs 0 0 (MQ below (P_i G 212 tt r0 σ0) args s 0 0 (Fr G)) (F0 m 7 ls []) := by
  have hx := X.1
  have hb := X.2.1
  intro fu
  induction fu with
  | zero =>
    intro x2 x3 x4 σ H locs ls hf hR hl
    rw [f7_firstPlot_7] at hf
    cases hf
  | succ fu ih =>
    intro x2 x3 x4 σ H locs ls hf hR hl
    rw [f7_firstPlot_7] at hf
    refine lv_iload hx hb dX7_firstPlot_7 (lv_at hl 4 rfl) ?_
    refine lv_bipush (v := (7 : Int32)) hx hb dX7_firstPlot_9 (by decide) ?_
    refine lv_icmp_ge (tgt := 67) hx hb dX7_firstPlot_11 (by decide) (fun c_1 => ?_) (fun c_1 => ?_)
    · replace hf := z_t c_1 hf
      refine lv_iload_n hx hb dX7_firstPlot_67 rfl (lv_at hl 2 rfl) ?_
      exact e_i X hR hr hlk hf dX7_firstPlot_68
    · replace hf := z_f c_1 hf
      refine lv_iload_n hx hb dX7_firstPlot_14 rfl (lv_at hl 1 rfl) ?_
      refine lv_iload hx hb dX7_firstPlot_15 (lv_at hl 4 rfl) ?_
      obtain ⟨r_2, σ_3, hc_4, hf⟩ := z_b_e hf
      refine go_i hR (ms_run (As := [.int x1, .int x4]) (rest := []) X hR ms_7_21 (c7_isIn l G N hc_4) ⟨rfl, rfl, Nat.le_of_ble_eq_true rfl, Nat.le_of_ble_eq_true rfl⟩ rfl hl.1 rfl (Nat.le_of_ble_eq_true rfl) dX7_firstPlot_17 ⟨Nat.zero_le _, Nat.zero_le _⟩) (fun H locs hR => ?_)
      refine lv_if_eq (tgt := 61) hx hb dX7_firstPlot_20 (by decide) (fun c_5 => ?_) (fun c_5 => ?_)
      · replace hf := z_t c_5 hf
        exact w7_firstPlot_61 X hr hlk N ih x2 x3 x4 σ_3 _ _ _ hf hR (lv_sub hl [0, 1, 2, 3, 4] rfl)
      · replace hf := z_f c_5 hf
        refine lv_aload_n hx hb dX7_firstPlot_23 rfl (lv_at hl 0 rfl) ?_
        refine r_gs (t := 69) X hR fr_7_18 kh_66 (sx_7_2 kh_66) dX7_firstPlot_24 ?_
        refine lv_iload_n hx hb dX7_firstPlot_27 rfl (lv_at hl 1 rfl) ?_
        refine lv_iconst (v := (1 : Int32)) hx hb dX7_firstPlot_28 (by decide) ?_
        refine lv_iload hx hb dX7_firstPlot_29 (lv_at hl 4 rfl) ?_
        refine lv_ishl hx hb dX7_firstPlot_31 ?_
        refine lv_iconst (v := (-1 : Int32)) hx hb dX7_firstPlot_32 (by decide) ?_
        refine lv_ixor hx hb dX7_firstPlot_33 ?_
        refine lv_iand hx hb dX7_firstPlot_34 ?_
        refine lv_bipush (v := (7 : Int32)) hx hb dX7_firstPlot_35 (by decide) ?_
        refine lv_imul hx hb dX7_firstPlot_37 ?_
        refine lv_iload hx hb dX7_firstPlot_38 (lv_at hl 4 rfl) ?_
        refine lv_iadd hx hb dX7_firstPlot_40 ?_
        obtain ⟨hi_7, hf⟩ := z_c_e hf
        refine r_ial X hR ka_69 hi_7 dX7_firstPlot_41 ?_
        refine lv_topi (fun x5_8 ex5_8 => ?_)
        replace hf := z_l_e ex5_8 hf
        refine lv_istore (lv' := [(5, .int x5_8), (0, .ref (G.2.2 + 66)), (1, .int x1), (2, .int x2), (3, .int x3), (4, .int x4)]) hx hb dX7_firstPlot_42 hl (by decide) rfl (fun ls hl => ?_)
        refine lv_iload_n hx hb dX7_firstPlot_44 rfl (lv_at hl 3 rfl) ?_
        refine lv_iconst (v := (-1 : Int32)) hx hb dX7_firstPlot_45 (by decide) ?_
        refine lv_icmp_eq (tgt := 55) hx hb dX7_firstPlot_46 (by decide) (fun c_9 => ?_) (fun c_9 => ?_)
        · replace hf := z_t c_9 hf
          exact w7_firstPlot_55 X hr hlk N ih x4 x5_8 σ_3 _ _ _ hf hR (lv_sub hl [1, 2, 5, 0] rfl)
        · replace hf := z_f c_9 hf
          refine lv_iload hx hb dX7_firstPlot_49 (lv_at hl 0 rfl) ?_
          refine lv_iload_n hx hb dX7_firstPlot_51 rfl (lv_at hl 4 rfl) ?_
          refine lv_icmp_ge (tgt := 61) hx hb dX7_firstPlot_52 (by decide) (fun c_10 => ?_) (fun c_10 => ?_)
          · replace hf := z_t c_10 hf
            exact w7_firstPlot_61 X hr hlk N ih x2 x3 x4 σ_3 _ _ _ hf hR (lv_sub hl [1, 2, 3, 4, 5] rfl)
          · replace hf := z_f c_10 hf
            exact w7_firstPlot_55 X hr hlk N ih x4 x5_8 σ_3 _ _ _ hf hR (lv_sub hl [1, 2, 5, 0] rfl)
set_option maxHeartbeats 4000000 in
set_option maxRecDepth 100000 in
theorem c7_firstPlot (l : Launch) (G : Gp) (N : Nat) {x1 : Int32} {σ σ0 : Mm} {r0 : Int32} (hf : f7_firstPlot N x1 σ = some (r0, σ0)) : Met l yX7_firstPlot (WS yX7_firstPlot cX7_firstPlot 6 (some .int)) rm7_firstPlot (va_Pc [.ref (G.2.2 + 66), .int x1] (Pd G 212 tt σ)) (P_i G 212 tt r0 σ0) 0 0 (Fr G) := by
  refine ct [(0, .ref (G.2.2 + 66)), (1, .int x1)] rfl (by decide) (Nat.le_of_ble_eq_true rfl) ?_
  intro p e s m below meth c ls X hr hlk hR hl
  have X : Cx p s m _ c cX7_firstPlot 6 RX7 G := X
  have hx := X.1
  have hb := X.2.1
  unfold f7_firstPlot at hf
  refine lv_iconst (v := (-1 : Int32)) hx hb dX7_firstPlot_0 (by decide) ?_
  refine lv_istore_n (lv' := [(2, .int (-1 : Int32)), (0, .ref (G.2.2 + 66)), (1, .int x1)]) hx hb dX7_firstPlot_1 rfl hl (by decide) rfl (fun ls hl => ?_)
  refine lv_iconst (v := (0 : Int32)) hx hb dX7_firstPlot_2 (by decide) ?_
  refine lv_istore_n (lv' := [(3, .int (0 : Int32)), (2, .int (-1 : Int32)), (0, .ref (G.2.2 + 66)), (1, .int x1)]) hx hb dX7_firstPlot_3 rfl hl (by decide) rfl (fun ls hl => ?_)
  refine lv_iconst (v := (0 : Int32)) hx hb dX7_firstPlot_4 (by decide) ?_
  refine lv_istore (lv' := [(4, .int (0 : Int32)), (3, .int (0 : Int32)), (2, .int (-1 : Int32)), (0, .ref (G.2.2 + 66)), (1, .int x1)]) hx hb dX7_firstPlot_5 hl (by decide) rfl (fun ls hl => ?_)
  exact w7_firstPlot_7 X hr hlk N  N (-1 : Int32) (0 : Int32) (0 : Int32) σ _ _ _ hf hR (lv_sub hl [3, 4, 2, 1, 0] rfl)
abbrev rm7_askOfAll : Room := { frames := 1, cells := 0, slots := 0, locals := 21 }
def f7_askOfAll_27 (N : Nat) (k4 : Int32 → Int32 → Mm → Option (Int32 × Mm)) (x1 : Int32) (x2 : Int32) (x3 : Int32) (σ : Mm) : Option (Int32 × Mm) :=
  z_l (x3 + (1 : Int32)) fun x3_6 =>
  k4 x2 x3_6 σ
def f7_askOfAll_4 (N : Nat) (x1 : Int32) : Nat → Int32 → Int32 → Mm → Option (Int32 × Mm)
  | 0, _, _, _ => none
  | fu + 1, x2, x3, σ => if (7 : Int32) ≤ x3 then (
  some (x2, σ)) else (
  z_b (f7_isIn N x1 x3 σ) fun r_2 σ_3 =>
  if r_2 = 0 then (
  f7_askOfAll_27 N (fun x2 x3 σ => f7_askOfAll_4 N x1 fu x2 x3 σ) x1 x2 x3 σ_3) else (
  z_c (inB x3 7) (
  z_l ((x2 + (gI σ_3 68 (ix x3)))) fun x2_8 =>
  f7_askOfAll_27 N (fun x2 x3 σ => f7_askOfAll_4 N x1 fu x2 x3 σ) x1 x2_8 x3 σ_3)))
def f7_askOfAll (N : Nat) (x1 : Int32) (σ : Mm) : Option (Int32 × Mm) :=
  f7_askOfAll_4 N x1 N (0 : Int32) (0 : Int32) σ
set_option maxHeartbeats 4000000 in
set_option maxRecDepth 100000 in
theorem w7_askOfAll_27 (X : Cx p s m args c cX7_askOfAll 4 RX7 G) (hr : meth.sig.returnType = some .int) (hlk : meth.locks = false) (N : Nat) {x1 : Int32} {k4 : Int32 → Int32 → Mm → Option (Int32 × Mm)} (hk4 : ∀ (x2 : Int32) (x3 : Int32) (σ : Mm) (H : Heap) (locs : List Loc) (ls : Array Slot), k4 x2 x3 σ = some (r0, σ0) → Rp G 212 tt σ s H locs → lv_has ls 4 [(0, .ref (G.2.2 + 66)), (1, .int x1), (2, .int x2), (3, .int x3)] → W p l e rm7_askOfAll s m args below meth c H locs 0 0 (MQ below (P_i G 212 tt r0 σ0) args s 0 0 (Fr G)) (F0 m 4 ls [])) :
    ∀ (x2 : Int32) (x3 : Int32) (σ : Mm) (H : Heap) (locs : List Loc) (ls : Array Slot), f7_askOfAll_27 N k4 x1 x2 x3 σ = some (r0, σ0) → Rp G 212 tt σ s H locs → lv_has ls 4 [(0, .ref (G.2.2 + 66)), (1, .int x1), (2, .int x2), (3, .int x3)] → W p l e rm7_askOfAll s m args below meth c H locs 0 0 (MQ below (P_i G 212 tt r0 σ0) args s 0 0 (Fr G)) (F0 m 27 ls []) := by
  have hx := X.1
  have hb := X.2.1
  intro x2 x3 σ H locs ls hf hR hl
  unfold f7_askOfAll_27 at hf
  obtain ⟨x3_6, ex3_6⟩ : ∃ z : Int32, z = x3 + (1 : Int32) := ⟨_, rfl⟩
  replace hf := z_l_e ex3_6 hf
  refine lv_iinc (v := x3_6) (lv' := [(3, .int x3_6), (0, .ref (G.2.2 + 66)), (1, .int x1), (2, .int x2)]) hx hb dX7_askOfAll_27 hl (k := 3) rfl (by rw [ex3_6]; rfl) (by decide) rfl (fun ls hl => ?_)
  refine lv_goto (tgt := 4) hx hb dX7_askOfAll_30 (by decide) ?_
  exact hk4 x2 x3_6 σ _ _ _ hf hR (lv_sub hl [1, 2, 3, 0] rfl)
set_option maxHeartbeats 4000000 in
set_option maxRecDepth 100000 in
theorem w7_askOfAll_4 (X : Cx p s m args c cX7_askOfAll 4 RX7 G) (hr : meth.sig.returnType = some .int) (hlk : meth.locks = false) (N : Nat) {x1 : Int32} :
    ∀ (fu : Nat) (x2 : Int32) (x3 : Int32) (σ : Mm) (H : Heap) (locs : List Loc) (ls : Array Slot), f7_askOfAll_4 N x1 fu x2 x3 σ = some (r0, σ0) → Rp G 212 tt σ s H locs → lv_has ls 4 [(0, .ref (G.2.2 + 66)), (1, .int x1), (2, .int x2), (3, .int x3)] → W p l e rm7_askOfAll s m args below meth c H locs 0 0 (MQ below (P_i G 212 tt r0 σ0) args s 0 0 (Fr G)) (F0 m 4 ls []) := by
  have hx := X.1
  have hb := X.2.1
  intro fu
  induction fu with
  | zero =>
    intro x2 x3 σ H locs ls hf hR hl
    rw [f7_askOfAll_4] at hf
    cases hf
  | succ fu ih =>
    intro x2 x3 σ H locs ls hf hR hl
    rw [f7_askOfAll_4] at hf
    refine lv_iload_n hx hb dX7_askOfAll_4 rfl (lv_at hl 3 rfl) ?_
    refine lv_bipush (v := (7 : Int32)) hx hb dX7_askOfAll_5 (by decide) ?_
    refine lv_icmp_ge (tgt := 33) hx hb dX7_askOfAll_7 (by decide) (fun c_1 => ?_) (fun c_1 => ?_)
    · replace hf := z_t c_1 hf
      refine lv_iload_n hx hb dX7_askOfAll_33 rfl (lv_at hl 2 rfl) ?_
      exact e_i X hR hr hlk hf dX7_askOfAll_34
    · replace hf := z_f c_1 hf
      refine lv_iload_n hx hb dX7_askOfAll_10 rfl (lv_at hl 1 rfl) ?_
      refine lv_iload_n hx hb dX7_askOfAll_11 rfl (lv_at hl 3 rfl) ?_
      obtain ⟨r_2, σ_3, hc_4, hf⟩ := z_b_e hf
      refine go_i hR (ms_run (As := [.int x1, .int x3]) (rest := []) X hR ms_7_21 (c7_isIn l G N hc_4) ⟨rfl, rfl, Nat.le_of_ble_eq_true rfl, Nat.le_of_ble_eq_true rfl⟩ rfl hl.1 rfl (Nat.le_of_ble_eq_true rfl) dX7_askOfAll_12 ⟨Nat.zero_le _, Nat.zero_le _⟩) (fun H locs hR => ?_)
      refine lv_if_eq (tgt := 27) hx hb dX7_askOfAll_15 (by decide) (fun c_5 => ?_) (fun c_5 => ?_)
      · replace hf := z_t c_5 hf
        exact w7_askOfAll_27 X hr hlk N ih x2 x3 σ_3 _ _ _ hf hR (lv_sub hl [0, 1, 2, 3] rfl)
      · replace hf := z_f c_5 hf
        refine lv_iload_n hx hb dX7_askOfAll_18 rfl (lv_at hl 2 rfl) ?_
        refine lv_aload_n hx hb dX7_askOfAll_19 rfl (lv_at hl 0 rfl) ?_
        refine r_gs (t := 68) X hR fr_7_15 kh_66 (sx_7_1 kh_66) dX7_askOfAll_20 ?_
        refine lv_iload_n hx hb dX7_askOfAll_23 rfl (lv_at hl 3 rfl) ?_
        obtain ⟨hi_7, hf⟩ := z_c_e hf
        refine r_ial X hR ka_68 hi_7 dX7_askOfAll_24 ?_
        refine lv_iadd hx hb dX7_askOfAll_25 ?_
        refine lv_topi (fun x2_8 ex2_8 => ?_)
        replace hf := z_l_e ex2_8 hf
        refine lv_istore_n (lv' := [(2, .int x2_8), (0, .ref (G.2.2 + 66)), (1, .int x1), (3, .int x3)]) hx hb dX7_askOfAll_26 rfl hl (by decide) rfl (fun ls hl => ?_)
        exact w7_askOfAll_27 X hr hlk N ih x2_8 x3 σ_3 _ _ _ hf hR (lv_sub hl [1, 2, 0, 3] rfl)
set_option maxHeartbeats 4000000 in
set_option maxRecDepth 100000 in
theorem c7_askOfAll (l : Launch) (G : Gp) (N : Nat) {x1 : Int32} {σ σ0 : Mm} {r0 : Int32} (hf : f7_askOfAll N x1 σ = some (r0, σ0)) : Met l yX7_askOfAll (WS yX7_askOfAll cX7_askOfAll 4 (some .int)) rm7_askOfAll (va_Pc [.ref (G.2.2 + 66), .int x1] (Pd G 212 tt σ)) (P_i G 212 tt r0 σ0) 0 0 (Fr G) := by
  refine ct [(0, .ref (G.2.2 + 66)), (1, .int x1)] rfl (by decide) (Nat.le_of_ble_eq_true rfl) ?_
  intro p e s m below meth c ls X hr hlk hR hl
  have X : Cx p s m _ c cX7_askOfAll 4 RX7 G := X
  have hx := X.1
  have hb := X.2.1
  unfold f7_askOfAll at hf
  refine lv_iconst (v := (0 : Int32)) hx hb dX7_askOfAll_0 (by decide) ?_
  refine lv_istore_n (lv' := [(2, .int (0 : Int32)), (0, .ref (G.2.2 + 66)), (1, .int x1)]) hx hb dX7_askOfAll_1 rfl hl (by decide) rfl (fun ls hl => ?_)
  refine lv_iconst (v := (0 : Int32)) hx hb dX7_askOfAll_2 (by decide) ?_
  refine lv_istore_n (lv' := [(3, .int (0 : Int32)), (2, .int (0 : Int32)), (0, .ref (G.2.2 + 66)), (1, .int x1)]) hx hb dX7_askOfAll_3 rfl hl (by decide) rfl (fun ls hl => ?_)
  exact w7_askOfAll_4 X hr hlk N  N (0 : Int32) (0 : Int32) σ _ _ _ hf hR (lv_sub hl [2, 3, 1, 0] rfl)
abbrev rm7_shortest : Room := { frames := 2, cells := 0, slots := 0, locals := 46 }
def f7_shortest (N : Nat) (x1 : Int32) (σ : Mm) : Option (Int32 × Mm) :=
  z_b (f7_firstPlot N x1 σ) fun r_1 σ_2 =>
  if r_1 = (-1 : Int32) then (
  some ((0 : Int32), σ_2)) else (
  z_b (f7_askOfAll N x1 σ_2) fun r_5 σ_6 =>
  z_c (inB (((x1 &&& (((1 : Int32) <<< (r_1 &&& 31)) ^^^ (-1 : Int32))) * (7 : Int32)) + r_1) 896) (
  some ((r_5 + (gI σ_6 69 (ix (((x1 &&& (((1 : Int32) <<< (r_1 &&& 31)) ^^^ (-1 : Int32))) * (7 : Int32)) + r_1)))), σ_6)))
set_option maxHeartbeats 4000000 in
set_option maxRecDepth 100000 in
theorem c7_shortest (l : Launch) (G : Gp) (N : Nat) {x1 : Int32} {σ σ0 : Mm} {r0 : Int32} (hf : f7_shortest N x1 σ = some (r0, σ0)) : Met l yX7_shortest (WS yX7_shortest cX7_shortest 3 (some .int)) rm7_shortest (va_Pc [.ref (G.2.2 + 66), .int x1] (Pd G 212 tt σ)) (P_i G 212 tt r0 σ0) 0 0 (Fr G) := by
  refine ct [(0, .ref (G.2.2 + 66)), (1, .int x1)] rfl (by decide) (Nat.le_of_ble_eq_true rfl) ?_
  intro p e s m below meth c ls X hr hlk hR hl
  have X : Cx p s m _ c cX7_shortest 3 RX7 G := X
  have hx := X.1
  have hb := X.2.1
  unfold f7_shortest at hf
  refine lv_aload_n hx hb dX7_shortest_0 rfl (lv_at hl 0 rfl) ?_
  refine lv_iload_n hx hb dX7_shortest_1 rfl (lv_at hl 1 rfl) ?_
  obtain ⟨r_1, σ_2, hc_3, hf⟩ := z_b_e hf
  refine go_i hR (mv_run (As := [.int x1]) (rest := []) X hR mv_7_47 kh_66 (kd_lt kh_66 (by decide)) (c7_firstPlot l G N hc_3) ⟨rfl, rfl, Nat.le_of_ble_eq_true rfl, Nat.le_of_ble_eq_true rfl⟩ rfl hl.1 rfl (Nat.le_of_ble_eq_true rfl) dX7_shortest_2 ⟨Nat.zero_le _, Nat.zero_le _⟩) (fun H locs hR => ?_)
  refine lv_istore_n (lv' := [(2, .int r_1), (0, .ref (G.2.2 + 66)), (1, .int x1)]) hx hb dX7_shortest_5 rfl hl (by decide) rfl (fun ls hl => ?_)
  refine lv_iload_n hx hb dX7_shortest_6 rfl (lv_at hl 0 rfl) ?_
  refine lv_iconst (v := (-1 : Int32)) hx hb dX7_shortest_7 (by decide) ?_
  refine lv_icmp_ne (tgt := 13) hx hb dX7_shortest_8 (by decide) (fun c_4 => ?_) (fun c_4 => ?_)
  · replace hf := z_f c_4 hf
    refine lv_aload_n hx hb dX7_shortest_13 rfl (lv_at hl 1 rfl) ?_
    refine lv_iload_n hx hb dX7_shortest_14 rfl (lv_at hl 2 rfl) ?_
    obtain ⟨r_5, σ_6, hc_7, hf⟩ := z_b_e hf
    refine go_i hR (mv_run (As := [.int x1]) (rest := []) X hR mv_7_51 kh_66 (kd_lt kh_66 (by decide)) (c7_askOfAll l G N hc_7) ⟨rfl, rfl, Nat.le_of_ble_eq_true rfl, Nat.le_of_ble_eq_true rfl⟩ rfl hl.1 rfl (Nat.le_of_ble_eq_true rfl) dX7_shortest_15 ⟨Nat.zero_le _, Nat.zero_le _⟩) (fun H locs hR => ?_)
    refine lv_aload_n hx hb dX7_shortest_18 rfl (lv_at hl 1 rfl) ?_
    refine r_gs (t := 69) X hR fr_7_18 kh_66 (sx_7_2 kh_66) dX7_shortest_19 ?_
    refine lv_iload_n hx hb dX7_shortest_22 rfl (lv_at hl 2 rfl) ?_
    refine lv_iconst (v := (1 : Int32)) hx hb dX7_shortest_23 (by decide) ?_
    refine lv_iload_n hx hb dX7_shortest_24 rfl (lv_at hl 0 rfl) ?_
    refine lv_ishl hx hb dX7_shortest_25 ?_
    refine lv_iconst (v := (-1 : Int32)) hx hb dX7_shortest_26 (by decide) ?_
    refine lv_ixor hx hb dX7_shortest_27 ?_
    refine lv_iand hx hb dX7_shortest_28 ?_
    refine lv_bipush (v := (7 : Int32)) hx hb dX7_shortest_29 (by decide) ?_
    refine lv_imul hx hb dX7_shortest_31 ?_
    refine lv_iload_n hx hb dX7_shortest_32 rfl (lv_at hl 0 rfl) ?_
    refine lv_iadd hx hb dX7_shortest_33 ?_
    obtain ⟨hi_8, hf⟩ := z_c_e hf
    refine r_ial X hR ka_69 hi_8 dX7_shortest_34 ?_
    refine lv_iadd hx hb dX7_shortest_35 ?_
    exact e_i X hR hr hlk hf dX7_shortest_36
  · replace hf := z_t c_4 hf
    refine lv_iconst (v := (0 : Int32)) hx hb dX7_shortest_11 (by decide) ?_
    exact e_i X hR hr hlk hf dX7_shortest_12
abbrev rm7_plotAt : Room := { frames := 2, cells := 0, slots := 0, locals := 50 }
def f7_plotAt_12 (N : Nat) (x2 : Int32) : Nat → Int32 → Int32 → Int32 → Mm → Option (Int32 × Mm)
  | 0, _, _, _, _ => none
  | fu + 1, x3, x4, x5, σ => if x2 ≤ x5 then (
  some (x3, σ)) else (
  if x3 = (-1 : Int32) then (
  some (x3, σ)) else (
  z_l ((x4 &&& (((1 : Int32) <<< (x3 &&& 31)) ^^^ (-1 : Int32)))) fun x4_6 =>
  z_b (f7_nextPlot N x3 x4_6 σ) fun r_7 σ_8 =>
  z_l (x5 + (1 : Int32)) fun x5_10 =>
  f7_plotAt_12 N x2 fu r_7 x4_6 x5_10 σ_8))
def f7_plotAt (N : Nat) (x1 : Int32) (x2 : Int32) (σ : Mm) : Option (Int32 × Mm) :=
  z_b (f7_firstPlot N x1 σ) fun r_1 σ_2 =>
  f7_plotAt_12 N x2 N r_1 x1 (0 : Int32) σ_2
set_option maxHeartbeats 4000000 in
set_option maxRecDepth 100000 in
theorem w7_plotAt_12 (X : Cx p s m args c cX7_plotAt 6 RX7 G) (hr : meth.sig.returnType = some .int) (hlk : meth.locks = false) (N : Nat) {x2 : Int32} :
    ∀ (fu : Nat) (x3 : Int32) (x4 : Int32) (x5 : Int32) (σ : Mm) (H : Heap) (locs : List Loc) (ls : Array Slot), f7_plotAt_12 N x2 fu x3 x4 x5 σ = some (r0, σ0) → Rp G 212 tt σ s H locs → lv_has ls 6 [(0, .ref (G.2.2 + 66)), (2, .int x2), (3, .int x3), (4, .int x4), (5, .int x5)] → W p l e rm7_plotAt s m args below meth c H locs 0 0 (MQ below (P_i G 212 tt r0 σ0) args s 0 0 (Fr G)) (F0 m 12 ls []) := by
  have hx := X.1
  have hb := X.2.1
  intro fu
  induction fu with
  | zero =>
    intro x3 x4 x5 σ H locs ls hf hR hl
    rw [f7_plotAt_12] at hf
    cases hf
  | succ fu ih =>
    intro x3 x4 x5 σ H locs ls hf hR hl
    rw [f7_plotAt_12] at hf
    refine lv_iload hx hb dX7_plotAt_12 (lv_at hl 4 rfl) ?_
    refine lv_iload_n hx hb dX7_plotAt_14 rfl (lv_at hl 1 rfl) ?_
    refine lv_icmp_ge (tgt := 47) hx hb dX7_plotAt_15 (by decide) (fun c_4 => ?_) (fun c_4 => ?_)
    · replace hf := z_t c_4 hf
      refine lv_iload_n hx hb dX7_plotAt_47 rfl (lv_at hl 2 rfl) ?_
      exact e_i X hR hr hlk hf dX7_plotAt_48
    · replace hf := z_f c_4 hf
      refine lv_iload_n hx hb dX7_plotAt_18 rfl (lv_at hl 2 rfl) ?_
      refine lv_iconst (v := (-1 : Int32)) hx hb dX7_plotAt_19 (by decide) ?_
      refine lv_icmp_eq (tgt := 47) hx hb dX7_plotAt_20 (by decide) (fun c_5 => ?_) (fun c_5 => ?_)
      · replace hf := z_t c_5 hf
        refine lv_iload_n hx hb dX7_plotAt_47 rfl (lv_at hl 2 rfl) ?_
        exact e_i X hR hr hlk hf dX7_plotAt_48
      · replace hf := z_f c_5 hf
        refine lv_iload hx hb dX7_plotAt_23 (lv_at hl 3 rfl) ?_
        refine lv_iconst (v := (1 : Int32)) hx hb dX7_plotAt_25 (by decide) ?_
        refine lv_iload_n hx hb dX7_plotAt_26 rfl (lv_at hl 2 rfl) ?_
        refine lv_ishl hx hb dX7_plotAt_27 ?_
        refine lv_iconst (v := (-1 : Int32)) hx hb dX7_plotAt_28 (by decide) ?_
        refine lv_ixor hx hb dX7_plotAt_29 ?_
        refine lv_iand hx hb dX7_plotAt_30 ?_
        refine lv_topi (fun x4_6 ex4_6 => ?_)
        replace hf := z_l_e ex4_6 hf
        refine lv_istore (lv' := [(4, .int x4_6), (0, .ref (G.2.2 + 66)), (2, .int x2), (3, .int x3), (5, .int x5)]) hx hb dX7_plotAt_31 hl (by decide) rfl (fun ls hl => ?_)
        refine lv_aload_n hx hb dX7_plotAt_33 rfl (lv_at hl 1 rfl) ?_
        refine lv_iload_n hx hb dX7_plotAt_34 rfl (lv_at hl 3 rfl) ?_
        refine lv_iload hx hb dX7_plotAt_35 (lv_at hl 0 rfl) ?_
        obtain ⟨r_7, σ_8, hc_9, hf⟩ := z_b_e hf
        refine go_i hR (mv_run (As := [.int x3, .int x4_6]) (rest := []) X hR mv_7_39 kh_66 (kd_lt kh_66 (by decide)) (c7_nextPlot l G N hc_9) ⟨rfl, rfl, Nat.le_of_ble_eq_true rfl, Nat.le_of_ble_eq_true rfl⟩ rfl hl.1 rfl (Nat.le_of_ble_eq_true rfl) dX7_plotAt_37 ⟨Nat.zero_le _, Nat.zero_le _⟩) (fun H locs hR => ?_)
        refine lv_istore_n (lv' := [(3, .int r_7), (4, .int x4_6), (0, .ref (G.2.2 + 66)), (2, .int x2), (5, .int x5)]) hx hb dX7_plotAt_40 rfl hl (by decide) rfl (fun ls hl => ?_)
        obtain ⟨x5_10, ex5_10⟩ : ∃ z : Int32, z = x5 + (1 : Int32) := ⟨_, rfl⟩
        replace hf := z_l_e ex5_10 hf
        refine lv_iinc (v := x5_10) (lv' := [(5, .int x5_10), (3, .int r_7), (4, .int x4_6), (0, .ref (G.2.2 + 66)), (2, .int x2)]) hx hb dX7_plotAt_41 hl (k := 4) rfl (by rw [ex5_10]; rfl) (by decide) rfl (fun ls hl => ?_)
        refine lv_goto (tgt := 12) hx hb dX7_plotAt_44 (by decide) ?_
        exact ih r_7 x4_6 x5_10 σ_8 _ _ _ hf hR (lv_sub hl [3, 4, 1, 2, 0] rfl)
set_option maxHeartbeats 4000000 in
set_option maxRecDepth 100000 in
theorem c7_plotAt (l : Launch) (G : Gp) (N : Nat) {x1 : Int32} {x2 : Int32} {σ σ0 : Mm} {r0 : Int32} (hf : f7_plotAt N x1 x2 σ = some (r0, σ0)) : Met l yX7_plotAt (WS yX7_plotAt cX7_plotAt 6 (some .int)) rm7_plotAt (va_Pc [.ref (G.2.2 + 66), .int x1, .int x2] (Pd G 212 tt σ)) (P_i G 212 tt r0 σ0) 0 0 (Fr G) := by
  refine ct [(0, .ref (G.2.2 + 66)), (1, .int x1), (2, .int x2)] rfl (by decide) (Nat.le_of_ble_eq_true rfl) ?_
  intro p e s m below meth c ls X hr hlk hR hl
  have X : Cx p s m _ c cX7_plotAt 6 RX7 G := X
  have hx := X.1
  have hb := X.2.1
  unfold f7_plotAt at hf
  refine lv_aload_n hx hb dX7_plotAt_0 rfl (lv_at hl 0 rfl) ?_
  refine lv_iload_n hx hb dX7_plotAt_1 rfl (lv_at hl 1 rfl) ?_
  obtain ⟨r_1, σ_2, hc_3, hf⟩ := z_b_e hf
  refine go_i hR (mv_run (As := [.int x1]) (rest := []) X hR mv_7_47 kh_66 (kd_lt kh_66 (by decide)) (c7_firstPlot l G N hc_3) ⟨rfl, rfl, Nat.le_of_ble_eq_true rfl, Nat.le_of_ble_eq_true rfl⟩ rfl hl.1 rfl (Nat.le_of_ble_eq_true rfl) dX7_plotAt_2 ⟨Nat.zero_le _, Nat.zero_le _⟩) (fun H locs hR => ?_)
  refine lv_istore_n (lv' := [(3, .int r_1), (0, .ref (G.2.2 + 66)), (1, .int x1), (2, .int x2)]) hx hb dX7_plotAt_5 rfl hl (by decide) rfl (fun ls hl => ?_)
  refine lv_iload_n hx hb dX7_plotAt_6 rfl (lv_at hl 2 rfl) ?_
  refine lv_istore (lv' := [(4, .int x1), (3, .int r_1), (0, .ref (G.2.2 + 66)), (1, .int x1), (2, .int x2)]) hx hb dX7_plotAt_7 hl (by decide) rfl (fun ls hl => ?_)
  refine lv_iconst (v := (0 : Int32)) hx hb dX7_plotAt_9 (by decide) ?_
  refine lv_istore (lv' := [(5, .int (0 : Int32)), (4, .int x1), (3, .int r_1), (0, .ref (G.2.2 + 66)), (1, .int x1), (2, .int x2)]) hx hb dX7_plotAt_10 hl (by decide) rfl (fun ls hl => ?_)
  exact w7_plotAt_12 X hr hlk N  N r_1 x1 (0 : Int32) σ_2 _ _ _ hf hR (lv_sub hl [3, 5, 2, 1, 0] rfl)
abbrev rm7_mostFrom : Room := { frames := 2, cells := 0, slots := 0, locals := 44 }
def f7_mostFrom_77 (N : Nat) (k6 : Int32 → Int32 → Mm → Option (Int32 × Mm)) (x1 : Int32) (x2 : Int32) (x3 : Int32) (x4 : Int32) (x5 : Int32) (σ : Mm) : Option (Int32 × Mm) :=
  z_l (x5 + (1 : Int32)) fun x5_7 =>
  k6 x4 x5_7 σ
def f7_mostFrom_6 (N : Nat) (x1 : Int32) (x2 : Int32) (x3 : Int32) : Nat → Int32 → Int32 → Mm → Option (Int32 × Mm)
  | 0, _, _, _ => none
  | fu + 1, x4, x5, σ => if x2 < x5 then (
  some (x4, σ)) else (
  if (128 : Int32) ≤ x5 then (
  some (x4, σ)) else (
  z_b (f7_isIn N x5 x1 σ) fun r_3 σ_4 =>
  if r_3 = 0 then (
  z_c (inB x1 7) (
  z_b (f7_askOfAll N x5 σ_4) fun r_9 σ_10 =>
  z_c (inB ((x5 * (7 : Int32)) + x1) 896) (
  z_l ((((gI σ_4 68 (ix x1)) + r_9) + (gI σ_10 69 (ix ((x5 * (7 : Int32)) + x1))))) fun x6_13 =>
  if x3 < x6_13 then (
  f7_mostFrom_77 N (fun x4 x5 σ => f7_mostFrom_6 N x1 x2 x3 fu x4 x5 σ) x1 x2 x3 x4 x5 σ_10) else (
  z_l ((mxI x4 ((1 : Int32) + (bitC x5)))) fun x4_15 =>
  f7_mostFrom_77 N (fun x4 x5 σ => f7_mostFrom_6 N x1 x2 x3 fu x4 x5 σ) x1 x2 x3 x4_15 x5 σ_10)))) else (
  f7_mostFrom_77 N (fun x4 x5 σ => f7_mostFrom_6 N x1 x2 x3 fu x4 x5 σ) x1 x2 x3 x4 x5 σ_4)))
def f7_mostFrom (N : Nat) (x1 : Int32) (x2 : Int32) (x3 : Int32) (σ : Mm) : Option (Int32 × Mm) :=
  f7_mostFrom_6 N x1 x2 x3 N (0 : Int32) (0 : Int32) σ
set_option maxHeartbeats 4000000 in
set_option maxRecDepth 100000 in
theorem w7_mostFrom_77 (X : Cx p s m args c cX7_mostFrom 7 RX7 G) (hr : meth.sig.returnType = some .int) (hlk : meth.locks = false) (N : Nat) {x1 : Int32} {x2 : Int32} {x3 : Int32} {k6 : Int32 → Int32 → Mm → Option (Int32 × Mm)} (hk6 : ∀ (x4 : Int32) (x5 : Int32) (σ : Mm) (H : Heap) (locs : List Loc) (ls : Array Slot), k6 x4 x5 σ = some (r0, σ0) → Rp G 212 tt σ s H locs → lv_has ls 7 [(0, .ref (G.2.2 + 66)), (1, .int x1), (2, .int x2), (3, .int x3), (4, .int x4), (5, .int x5)] → W p l e rm7_mostFrom s m args below meth c H locs 0 0 (MQ below (P_i G 212 tt r0 σ0) args s 0 0 (Fr G)) (F0 m 6 ls [])) :
    ∀ (x4 : Int32) (x5 : Int32) (σ : Mm) (H : Heap) (locs : List Loc) (ls : Array Slot), f7_mostFrom_77 N k6 x1 x2 x3 x4 x5 σ = some (r0, σ0) → Rp G 212 tt σ s H locs → lv_has ls 7 [(0, .ref (G.2.2 + 66)), (1, .int x1), (2, .int x2), (3, .int x3), (4, .int x4), (5, .int x5)] → W p l e rm7_mostFrom s m args below meth c H locs 0 0 (MQ below (P_i G 212 tt r0 σ0) args s 0 0 (Fr G)) (F0 m 77 ls []) := by
  have hx := X.1
  have hb := X.2.1
  intro x4 x5 σ H locs ls hf hR hl
  unfold f7_mostFrom_77 at hf
  obtain ⟨x5_7, ex5_7⟩ : ∃ z : Int32, z = x5 + (1 : Int32) := ⟨_, rfl⟩
  replace hf := z_l_e ex5_7 hf
  refine lv_iinc (v := x5_7) (lv' := [(5, .int x5_7), (0, .ref (G.2.2 + 66)), (1, .int x1), (2, .int x2), (3, .int x3), (4, .int x4)]) hx hb dX7_mostFrom_77 hl (k := 5) rfl (by rw [ex5_7]; rfl) (by decide) rfl (fun ls hl => ?_)
  refine lv_goto (tgt := 6) hx hb dX7_mostFrom_80 (by decide) ?_
  exact hk6 x4 x5_7 σ _ _ _ hf hR (lv_sub hl [1, 2, 3, 4, 5, 0] rfl)
set_option maxHeartbeats 4000000 in
set_option maxRecDepth 100000 in
theorem w7_mostFrom_6 (X : Cx p s m args c cX7_mostFrom 7 RX7 G) (hr : meth.sig.returnType = some .int) (hlk : meth.locks = false) (N : Nat) {x1 : Int32} {x2 : Int32} {x3 : Int32} :
    ∀ (fu : Nat) (x4 : Int32) (x5 : Int32) (σ : Mm) (H : Heap) (locs : List Loc) (ls : Array Slot), f7_mostFrom_6 N x1 x2 x3 fu x4 x5 σ = some (r0, σ0) → Rp G 212 tt σ s H locs → lv_has ls 7 [(0, .ref (G.2.2 + 66)), (1, .int x1), (2, .int x2), (3, .int x3), (4, .int x4), (5, .int x5)] → W p l e rm7_mostFrom s m args below meth c H locs 0 0 (MQ below (P_i G 212 tt r0 σ0) args s 0 0 (Fr G)) (F0 m 6 ls []) := by
  have hx := X.1
  have hb := X.2.1
  intro fu
  induction fu with
  | zero =>
    intro x4 x5 σ H locs ls hf hR hl
    rw [f7_mostFrom_6] at hf
    cases hf
  | succ fu ih =>
    intro x4 x5 σ H locs ls hf hR hl
    rw [f7_mostFrom_6] at hf
    refine lv_iload hx hb dX7_mostFrom_6 (lv_at hl 5 rfl) ?_
    refine lv_iload_n hx hb dX7_mostFrom_8 rfl (lv_at hl 2 rfl) ?_
    refine lv_icmp_gt (tgt := 83) hx hb dX7_mostFrom_9 (by decide) (fun c_1 => ?_) (fun c_1 => ?_)
    · replace hf := z_t c_1 hf
      refine lv_iload hx hb dX7_mostFrom_83 (lv_at hl 4 rfl) ?_
      exact e_i X hR hr hlk hf dX7_mostFrom_85
    · replace hf := z_f c_1 hf
      refine lv_iload hx hb dX7_mostFrom_12 (lv_at hl 5 rfl) ?_
      refine lv_sipush (v := (128 : Int32)) hx hb dX7_mostFrom_14 (by decide) ?_
      refine lv_icmp_ge (tgt := 83) hx hb dX7_mostFrom_17 (by decide) (fun c_2 => ?_) (fun c_2 => ?_)
      · replace hf := z_t c_2 hf
        refine lv_iload hx hb dX7_mostFrom_83 (lv_at hl 4 rfl) ?_
        exact e_i X hR hr hlk hf dX7_mostFrom_85
      · replace hf := z_f c_2 hf
        refine lv_iload hx hb dX7_mostFrom_20 (lv_at hl 5 rfl) ?_
        refine lv_iload_n hx hb dX7_mostFrom_22 rfl (lv_at hl 1 rfl) ?_
        obtain ⟨r_3, σ_4, hc_5, hf⟩ := z_b_e hf
        refine go_i hR (ms_run (As := [.int x5, .int x1]) (rest := []) X hR ms_7_21 (c7_isIn l G N hc_5) ⟨rfl, rfl, Nat.le_of_ble_eq_true rfl, Nat.le_of_ble_eq_true rfl⟩ rfl hl.1 rfl (Nat.le_of_ble_eq_true rfl) dX7_mostFrom_23 ⟨Nat.zero_le _, Nat.zero_le _⟩) (fun H locs hR => ?_)
        refine lv_if_ne (tgt := 77) hx hb dX7_mostFrom_26 (by decide) (fun c_6 => ?_) (fun c_6 => ?_)
        · replace hf := z_f c_6 hf
          exact w7_mostFrom_77 X hr hlk N ih x4 x5 σ_4 _ _ _ hf hR (lv_sub hl [0, 1, 2, 3, 4, 5] rfl)
        · replace hf := z_t c_6 hf
          refine lv_aload_n hx hb dX7_mostFrom_29 rfl (lv_at hl 0 rfl) ?_
          refine r_gs (t := 68) X hR fr_7_15 kh_66 (sx_7_1 kh_66) dX7_mostFrom_30 ?_
          refine lv_iload_n hx hb dX7_mostFrom_33 rfl (lv_at hl 1 rfl) ?_
          obtain ⟨hi_8, hf⟩ := z_c_e hf
          refine r_ial X hR ka_68 hi_8 dX7_mostFrom_34 ?_
          refine lv_aload_n hx hb dX7_mostFrom_35 rfl (lv_at hl 0 rfl) ?_
          refine lv_iload hx hb dX7_mostFrom_36 (lv_at hl 5 rfl) ?_
          obtain ⟨r_9, σ_10, hc_11, hf⟩ := z_b_e hf
          refine go_i hR (mv_run (As := [.int x5]) (rest := [.int (gI σ_4 68 (ix x1))]) X hR mv_7_51 kh_66 (kd_lt kh_66 (by decide)) (c7_askOfAll l G N hc_11) ⟨rfl, rfl, Nat.le_of_ble_eq_true rfl, Nat.le_of_ble_eq_true rfl⟩ rfl hl.1 rfl (Nat.le_of_ble_eq_true rfl) dX7_mostFrom_38 ⟨Nat.zero_le _, Nat.zero_le _⟩) (fun H locs hR => ?_)
          refine lv_iadd hx hb dX7_mostFrom_41 ?_
          refine lv_aload_n hx hb dX7_mostFrom_42 rfl (lv_at hl 0 rfl) ?_
          refine r_gs (t := 69) X hR fr_7_18 kh_66 (sx_7_2 kh_66) dX7_mostFrom_43 ?_
          refine lv_iload hx hb dX7_mostFrom_46 (lv_at hl 5 rfl) ?_
          refine lv_bipush (v := (7 : Int32)) hx hb dX7_mostFrom_48 (by decide) ?_
          refine lv_imul hx hb dX7_mostFrom_50 ?_
          refine lv_iload_n hx hb dX7_mostFrom_51 rfl (lv_at hl 1 rfl) ?_
          refine lv_iadd hx hb dX7_mostFrom_52 ?_
          obtain ⟨hi_12, hf⟩ := z_c_e hf
          refine r_ial X hR ka_69 hi_12 dX7_mostFrom_53 ?_
          refine lv_iadd hx hb dX7_mostFrom_54 ?_
          refine lv_topi (fun x6_13 ex6_13 => ?_)
          replace hf := z_l_e ex6_13 hf
          refine lv_istore (lv' := [(6, .int x6_13), (0, .ref (G.2.2 + 66)), (1, .int x1), (2, .int x2), (3, .int x3), (4, .int x4), (5, .int x5)]) hx hb dX7_mostFrom_55 hl (by decide) rfl (fun ls hl => ?_)
          refine lv_iload hx hb dX7_mostFrom_57 (lv_at hl 0 rfl) ?_
          refine lv_iload_n hx hb dX7_mostFrom_59 rfl (lv_at hl 4 rfl) ?_
          refine lv_icmp_gt (tgt := 77) hx hb dX7_mostFrom_60 (by decide) (fun c_14 => ?_) (fun c_14 => ?_)
          · replace hf := z_t c_14 hf
            exact w7_mostFrom_77 X hr hlk N ih x4 x5 σ_10 _ _ _ hf hR (lv_sub hl [1, 2, 3, 4, 5, 6] rfl)
          · replace hf := z_f c_14 hf
            refine lv_iload hx hb dX7_mostFrom_63 (lv_at hl 5 rfl) ?_
            refine lv_iconst (v := (1 : Int32)) hx hb dX7_mostFrom_65 (by decide) ?_
            refine lv_iload hx hb dX7_mostFrom_66 (lv_at hl 6 rfl) ?_
            refine go_i hR (ms_run (As := [.int x5]) (rest := [.int (1 : Int32), .int x4]) X hR jms_7_54 (cJ_bitC l G) ⟨rfl, rfl, Nat.le_of_ble_eq_true rfl, Nat.le_of_ble_eq_true rfl⟩ rfl hl.1 rfl (Nat.le_of_ble_eq_true rfl) dX7_mostFrom_68 ⟨Nat.zero_le _, Nat.zero_le _⟩) (fun H locs hR => ?_)
            refine lv_iadd hx hb dX7_mostFrom_71 ?_
            refine va_mmax hx hb (X.2.2.1.trans hl.1.symm) X.2.2.2.1 (X.2.2.2.2.1 _ jl_7_59) (X.2.2.2.2.1 _ jm_max_s) (X.2.2.2.2.1 _ jm_ini) (X.2.2.2.2.1 _ jm_max_c) (Nat.le_of_ble_eq_true rfl) (Nat.le_of_ble_eq_true rfl) (Nat.zero_le _) (Nat.zero_le _) dX7_mostFrom_72 ?_
            refine lv_topi (fun x4_15 ex4_15 => ?_)
            replace hf := z_l_e ex4_15 hf
            refine lv_istore (lv' := [(4, .int x4_15), (6, .int x6_13), (0, .ref (G.2.2 + 66)), (1, .int x1), (2, .int x2), (3, .int x3), (5, .int x5)]) hx hb dX7_mostFrom_75 hl (by decide) rfl (fun ls hl => ?_)
            exact w7_mostFrom_77 X hr hlk N ih x4_15 x5 σ_10 _ _ _ hf hR (lv_sub hl [2, 3, 4, 5, 0, 6] rfl)
set_option maxHeartbeats 4000000 in
set_option maxRecDepth 100000 in
theorem c7_mostFrom (l : Launch) (G : Gp) (N : Nat) {x1 : Int32} {x2 : Int32} {x3 : Int32} {σ σ0 : Mm} {r0 : Int32} (hf : f7_mostFrom N x1 x2 x3 σ = some (r0, σ0)) : Met l yX7_mostFrom (WS yX7_mostFrom cX7_mostFrom 7 (some .int)) rm7_mostFrom (va_Pc [.ref (G.2.2 + 66), .int x1, .int x2, .int x3] (Pd G 212 tt σ)) (P_i G 212 tt r0 σ0) 0 0 (Fr G) := by
  refine ct [(0, .ref (G.2.2 + 66)), (1, .int x1), (2, .int x2), (3, .int x3)] rfl (by decide) (Nat.le_of_ble_eq_true rfl) ?_
  intro p e s m below meth c ls X hr hlk hR hl
  have X : Cx p s m _ c cX7_mostFrom 7 RX7 G := X
  have hx := X.1
  have hb := X.2.1
  unfold f7_mostFrom at hf
  refine lv_iconst (v := (0 : Int32)) hx hb dX7_mostFrom_0 (by decide) ?_
  refine lv_istore (lv' := [(4, .int (0 : Int32)), (0, .ref (G.2.2 + 66)), (1, .int x1), (2, .int x2), (3, .int x3)]) hx hb dX7_mostFrom_1 hl (by decide) rfl (fun ls hl => ?_)
  refine lv_iconst (v := (0 : Int32)) hx hb dX7_mostFrom_3 (by decide) ?_
  refine lv_istore (lv' := [(5, .int (0 : Int32)), (4, .int (0 : Int32)), (0, .ref (G.2.2 + 66)), (1, .int x1), (2, .int x2), (3, .int x3)]) hx hb dX7_mostFrom_4 hl (by decide) rfl (fun ls hl => ?_)
  exact w7_mostFrom_6 X hr hlk N  N (0 : Int32) (0 : Int32) σ _ _ _ hf hR (lv_sub hl [2, 3, 4, 5, 1, 0] rfl)
abbrev rm8_takeNewName : Room := { frames := 1, cells := 0, slots := 0, locals := 24 }
def f8_takeNewName (N : Nat) (x1 : Int32) (x2 : Int32) (σ : Mm) : Option (Int32 × Mm) :=
  if (gI σ 49 2) < (400 : Int32) then (
  z_r (gR σ 49 1) 3 fun t_2 =>
  z_b (f9_valueAt N (gI σ 49 2) σ) fun r_4 σ_5 =>
  z_b (f3_rowOfName N t_2 r_4 σ_5) fun r_7 σ_8 =>
  if r_7 = (-1 : Int32) then (
  z_r (gR σ_8 49 1) 3 fun t_11 =>
  z_b (f9_valueAt N (gI σ_8 49 2) σ_8) fun r_13 σ_14 =>
  z_b (f3_addName N t_11 r_13 x1 x2 σ_14) fun _ σ_17 =>
  z_l (sI σ_17 49 2 ((gI σ_17 49 2) + (1 : Int32))) fun σ_19 =>
  some ((1 : Int32), σ_19)) else (
  z_b (f9_refuse N (3 : Int32) (gI σ_8 49 2) σ_8) fun r_20 σ_21 =>
  z_c (isZ r_20) (some (r_20, σ_21)))) else (
  some ((0 : Int32), σ))
set_option maxHeartbeats 4000000 in
set_option maxRecDepth 100000 in
theorem c8_takeNewName (l : Launch) (G : Gp) (N : Nat) {x1 : Int32} {x2 : Int32} {σ σ0 : Mm} {r0 : Int32} (hf : f8_takeNewName N x1 x2 σ = some (r0, σ0)) : Met l yX8_takeNewName (WS yX8_takeNewName cX8_takeNewName 3 (some .boolean)) rm8_takeNewName (va_Pc [.ref (G.2.2 + 49), .int x1, .int x2] (Pd G 212 tt σ)) (P_i G 212 tt r0 σ0) 0 0 (Fr G) := by
  refine ct [(0, .ref (G.2.2 + 49)), (1, .int x1), (2, .int x2)] rfl (by decide) (Nat.le_of_ble_eq_true rfl) ?_
  intro p e s m below meth c ls X hr hlk hR hl
  have X : Cx p s m _ c cX8_takeNewName 3 RX8 G := X
  have hx := X.1
  have hb := X.2.1
  unfold f8_takeNewName at hf
  refine lv_aload_n hx hb dX8_takeNewName_0 rfl (lv_at hl 0 rfl) ?_
  refine r_gi X hR fi_8_9 kh_49 dX8_takeNewName_1 ?_
  refine lv_sipush (v := (400 : Int32)) hx hb dX8_takeNewName_4 (by decide) ?_
  refine lv_icmp_lt (tgt := 12) hx hb dX8_takeNewName_7 (by decide) (fun c_1 => ?_) (fun c_1 => ?_)
  · replace hf := z_t c_1 hf
    refine lv_aload_n hx hb dX8_takeNewName_12 rfl (lv_at hl 0 rfl) ?_
    obtain ⟨t_2, ht_3, kht_3, hf⟩ := z_r_e hf
    refine r_gd X hR fr_8_19 kh_49 ht_3 dX8_takeNewName_13 ?_
    refine lv_aload_n hx hb dX8_takeNewName_16 rfl (lv_at hl 0 rfl) ?_
    refine r_gs (t := 2) X hR fr_8_15 kh_49 (sx_8_0 kh_49) dX8_takeNewName_17 ?_
    refine lv_aload_n hx hb dX8_takeNewName_20 rfl (lv_at hl 0 rfl) ?_
    refine r_gi X hR fi_8_9 kh_49 dX8_takeNewName_21 ?_
    obtain ⟨r_4, σ_5, hc_6, hf⟩ := z_b_e hf
    refine go_l hR (mv_run (As := [.int (gI σ 49 2)]) (rest := [.ref (G.2.2 + t_2)]) X hR mv_8_117 kh_2 (kd_lt kh_2 (by decide)) (c9_valueAt l G N hc_6) ⟨rfl, rfl, Nat.le_of_ble_eq_true rfl, Nat.le_of_ble_eq_true rfl⟩ rfl hl.1 rfl (Nat.le_of_ble_eq_true rfl) dX8_takeNewName_24 ⟨Nat.zero_le _, Nat.zero_le _⟩) (fun H locs hR => ?_)
    obtain ⟨r_7, σ_8, hc_9, hf⟩ := z_b_e hf
    refine go_i hR (mv_run (As := [.long r_4]) (rest := []) X hR mv_8_121 kht_3 (kd_lt kht_3 (by decide)) (c3_rowOfName l G N kht_3 hc_9) ⟨rfl, rfl, Nat.le_of_ble_eq_true rfl, Nat.le_of_ble_eq_true rfl⟩ rfl hl.1 rfl (Nat.le_of_ble_eq_true rfl) dX8_takeNewName_27 ⟨Nat.zero_le _, Nat.zero_le _⟩) (fun H locs hR => ?_)
    refine lv_iconst (v := (-1 : Int32)) hx hb dX8_takeNewName_30 (by decide) ?_
    refine lv_icmp_eq (tgt := 47) hx hb dX8_takeNewName_31 (by decide) (fun c_10 => ?_) (fun c_10 => ?_)
    · replace hf := z_t c_10 hf
      refine lv_aload_n hx hb dX8_takeNewName_47 rfl (lv_at hl 0 rfl) ?_
      obtain ⟨t_11, ht_12, kht_12, hf⟩ := z_r_e hf
      refine r_gd X hR fr_8_19 kh_49 ht_12 dX8_takeNewName_48 ?_
      refine lv_aload_n hx hb dX8_takeNewName_51 rfl (lv_at hl 0 rfl) ?_
      refine r_gs (t := 2) X hR fr_8_15 kh_49 (sx_8_0 kh_49) dX8_takeNewName_52 ?_
      refine lv_aload_n hx hb dX8_takeNewName_55 rfl (lv_at hl 0 rfl) ?_
      refine r_gi X hR fi_8_9 kh_49 dX8_takeNewName_56 ?_
      obtain ⟨r_13, σ_14, hc_15, hf⟩ := z_b_e hf
      refine go_l hR (mv_run (As := [.int (gI σ_8 49 2)]) (rest := [.ref (G.2.2 + t_11)]) X hR mv_8_117 kh_2 (kd_lt kh_2 (by decide)) (c9_valueAt l G N hc_15) ⟨rfl, rfl, Nat.le_of_ble_eq_true rfl, Nat.le_of_ble_eq_true rfl⟩ rfl hl.1 rfl (Nat.le_of_ble_eq_true rfl) dX8_takeNewName_59 ⟨Nat.zero_le _, Nat.zero_le _⟩) (fun H locs hR => ?_)
      refine lv_iload_n hx hb dX8_takeNewName_62 rfl (lv_at hl 1 rfl) ?_
      refine lv_iload_n hx hb dX8_takeNewName_63 rfl (lv_at hl 2 rfl) ?_
      obtain ⟨r_16, σ_17, hc_18, hf⟩ := z_b_e hf
      refine go_v hR (mv_run (As := [.long r_13, .int x1, .int x2]) (rest := []) X hR mv_8_125 kht_12 (kd_lt kht_12 (by decide)) (c3_addName l G N kht_12 hc_18) ⟨rfl, rfl, Nat.le_of_ble_eq_true rfl, Nat.le_of_ble_eq_true rfl⟩ rfl hl.1 rfl (Nat.le_of_ble_eq_true rfl) dX8_takeNewName_64 ⟨Nat.zero_le _, Nat.zero_le _⟩) (fun H locs hR => ?_)
      refine lv_aload_n hx hb dX8_takeNewName_67 rfl (lv_at hl 0 rfl) ?_
      refine lv_dup hx hb dX8_takeNewName_68 rfl ?_
      refine r_gi X hR fi_8_9 kh_49 dX8_takeNewName_69 ?_
      refine lv_iconst (v := (1 : Int32)) hx hb dX8_takeNewName_72 (by decide) ?_
      refine lv_iadd hx hb dX8_takeNewName_73 ?_
      refine r_pi X hR pi_8_9 kh_49 dX8_takeNewName_74 (fun H locs σ_19 eσ_19 hR => ?_)
      replace hf := z_l_e eσ_19 hf
      refine lv_iconst (v := (1 : Int32)) hx hb dX8_takeNewName_77 (by decide) ?_
      exact e_z X hR hr hlk rfl hf dX8_takeNewName_78
    · replace hf := z_f c_10 hf
      refine lv_aload_n hx hb dX8_takeNewName_34 rfl (lv_at hl 0 rfl) ?_
      refine r_gs (t := 2) X hR fr_8_15 kh_49 (sx_8_0 kh_49) dX8_takeNewName_35 ?_
      refine lv_iconst (v := (3 : Int32)) hx hb dX8_takeNewName_38 (by decide) ?_
      refine lv_aload_n hx hb dX8_takeNewName_39 rfl (lv_at hl 0 rfl) ?_
      refine r_gi X hR fi_8_9 kh_49 dX8_takeNewName_40 ?_
      obtain ⟨r_20, σ_21, hc_22, hf⟩ := z_b_e hf
      refine go_i hR (mv_run (As := [.int (3 : Int32), .int (gI σ_8 49 2)]) (rest := []) X hR mv_8_101 kh_2 (kd_lt kh_2 (by decide)) (c9_refuse l G N hc_22) ⟨rfl, rfl, Nat.le_of_ble_eq_true rfl, Nat.le_of_ble_eq_true rfl⟩ rfl hl.1 rfl (Nat.le_of_ble_eq_true rfl) dX8_takeNewName_43 ⟨Nat.zero_le _, Nat.zero_le _⟩) (fun H locs hR => ?_)
      obtain ⟨hz_23, hf⟩ := z_c_e hf
      exact e_z X hR hr hlk hz_23 hf dX8_takeNewName_46
  · replace hf := z_f c_1 hf
    refine lv_iconst (v := (0 : Int32)) hx hb dX8_takeNewName_10 (by decide) ?_
    exact e_z X hR hr hlk rfl hf dX8_takeNewName_11
abbrev rm8_fillsPerson : Room := { frames := 2, cells := 0, slots := 0, locals := 46 }
def f8_fillsPerson (N : Nat) (σ : Mm) : Option (Int32 × Mm) :=
  z_r (gR σ 49 1) 3 fun t_1 =>
  z_l ((gI σ t_1 0)) fun x1_3 =>
  if (6 : Int32) ≤ x1_3 then (
  some ((0 : Int32), σ)) else (
  z_b (f8_takeNewName N (13 : Int32) x1_3 σ) fun r_5 σ_6 =>
  if r_5 = 0 then (
  some ((0 : Int32), σ_6)) else (
  z_r (gR σ_6 49 1) 3 fun t_9 =>
  z_l (sI σ_6 t_9 0 ((gI σ_6 t_9 0) + (1 : Int32))) fun σ_11 =>
  some ((1 : Int32), σ_11)))
set_option maxHeartbeats 4000000 in
set_option maxRecDepth 100000 in
theorem c8_fillsPerson (l : Launch) (G : Gp) (N : Nat) {σ σ0 : Mm} {r0 : Int32} (hf : f8_fillsPerson N σ = some (r0, σ0)) : Met l yX8_fillsPerson (WS yX8_fillsPerson cX8_fillsPerson 2 (some .boolean)) rm8_fillsPerson (va_Pc [.ref (G.2.2 + 49)] (Pd G 212 tt σ)) (P_i G 212 tt r0 σ0) 0 0 (Fr G) := by
  refine ct [(0, .ref (G.2.2 + 49))] rfl (by decide) (Nat.le_of_ble_eq_true rfl) ?_
  intro p e s m below meth c ls X hr hlk hR hl
  have X : Cx p s m _ c cX8_fillsPerson 2 RX8 G := X
  have hx := X.1
  have hb := X.2.1
  unfold f8_fillsPerson at hf
  refine lv_aload_n hx hb dX8_fillsPerson_0 rfl (lv_at hl 0 rfl) ?_
  obtain ⟨t_1, ht_2, kht_2, hf⟩ := z_r_e hf
  refine r_gd X hR fr_8_19 kh_49 ht_2 dX8_fillsPerson_1 ?_
  refine r_gi X hR fi_8_69 kht_2 dX8_fillsPerson_4 ?_
  refine lv_topi (fun x1_3 ex1_3 => ?_)
  replace hf := z_l_e ex1_3 hf
  refine lv_istore_n (lv' := [(1, .int x1_3), (0, .ref (G.2.2 + 49))]) hx hb dX8_fillsPerson_7 rfl hl (by decide) rfl (fun ls hl => ?_)
  refine lv_iload_n hx hb dX8_fillsPerson_8 rfl (lv_at hl 0 rfl) ?_
  refine lv_bipush (v := (6 : Int32)) hx hb dX8_fillsPerson_9 (by decide) ?_
  refine lv_icmp_ge (tgt := 24) hx hb dX8_fillsPerson_11 (by decide) (fun c_4 => ?_) (fun c_4 => ?_)
  · replace hf := z_t c_4 hf
    refine lv_iconst (v := (0 : Int32)) hx hb dX8_fillsPerson_24 (by decide) ?_
    exact e_z X hR hr hlk rfl hf dX8_fillsPerson_25
  · replace hf := z_f c_4 hf
    refine lv_aload_n hx hb dX8_fillsPerson_14 rfl (lv_at hl 1 rfl) ?_
    refine lv_bipush (v := (13 : Int32)) hx hb dX8_fillsPerson_15 (by decide) ?_
    refine lv_iload_n hx hb dX8_fillsPerson_17 rfl (lv_at hl 0 rfl) ?_
    obtain ⟨r_5, σ_6, hc_7, hf⟩ := z_b_e hf
    refine go_i hR (mv_run (As := [.int (13 : Int32), .int x1_3]) (rest := []) X hR mv_8_72 kh_49 (kd_lt kh_49 (by decide)) (c8_takeNewName l G N hc_7) ⟨rfl, rfl, Nat.le_of_ble_eq_true rfl, Nat.le_of_ble_eq_true rfl⟩ rfl hl.1 rfl (Nat.le_of_ble_eq_true rfl) dX8_fillsPerson_18 ⟨Nat.zero_le _, Nat.zero_le _⟩) (fun H locs hR => ?_)
    refine lv_if_ne (tgt := 26) hx hb dX8_fillsPerson_21 (by decide) (fun c_8 => ?_) (fun c_8 => ?_)
    · replace hf := z_f c_8 hf
      refine lv_aload_n hx hb dX8_fillsPerson_26 rfl (lv_at hl 1 rfl) ?_
      obtain ⟨t_9, ht_10, kht_10, hf⟩ := z_r_e hf
      refine r_gd X hR fr_8_19 kh_49 ht_10 dX8_fillsPerson_27 ?_
      refine lv_dup hx hb dX8_fillsPerson_30 rfl ?_
      refine r_gi X hR fi_8_69 kht_10 dX8_fillsPerson_31 ?_
      refine lv_iconst (v := (1 : Int32)) hx hb dX8_fillsPerson_34 (by decide) ?_
      refine lv_iadd hx hb dX8_fillsPerson_35 ?_
      refine r_pi X hR pi_8_69 kht_10 dX8_fillsPerson_36 (fun H locs σ_11 eσ_11 hR => ?_)
      replace hf := z_l_e eσ_11 hf
      refine lv_iconst (v := (1 : Int32)) hx hb dX8_fillsPerson_39 (by decide) ?_
      exact e_z X hR hr hlk rfl hf dX8_fillsPerson_40
    · replace hf := z_t c_8 hf
      refine lv_iconst (v := (0 : Int32)) hx hb dX8_fillsPerson_24 (by decide) ?_
      exact e_z X hR hr hlk rfl hf dX8_fillsPerson_25
abbrev rm8_takeNumber : Room := { frames := 1, cells := 0, slots := 0, locals := 22 }
def f8_takeNumber_48 (N : Nat) (x1 : Int32) (σ : Mm) : Option (Int32 × Mm) :=
  z_b (f9_refuse N (5 : Int32) (gI σ 49 2) σ) fun r_7 σ_8 =>
  some (x1, σ_8)
def f8_takeNumber (N : Nat) (x1 : Int32) (x2 : Int32) (σ : Mm) : Option (Int32 × Mm) :=
  if (gI σ 2 4) = 0 then (
  if (gI σ 49 2) < (400 : Int32) then (
  z_b (f9_valueAt N (gI σ 49 2) σ) fun r_3 σ_4 =>
  if (lg_cmp r_3 ((x1).toInt64)) < 0 then (
  f8_takeNumber_48 N x1 σ_4) else (
  if (lg_cmp r_3 ((x2).toInt64)) ≤ 0 then (
  z_l (sI σ_4 49 2 ((gI σ_4 49 2) + (1 : Int32))) fun σ_11 =>
  some (((r_3).toInt32), σ_11)) else (
  f8_takeNumber_48 N x1 σ_4))) else (
  some (x1, σ))) else (
  some (x1, σ))
set_option maxHeartbeats 4000000 in
set_option maxRecDepth 100000 in
theorem w8_takeNumber_48 (X : Cx p s m args c cX8_takeNumber 5 RX8 G) (hr : meth.sig.returnType = some .int) (hlk : meth.locks = false) (N : Nat) :
    ∀ (x1 : Int32) (σ : Mm) (H : Heap) (locs : List Loc) (ls : Array Slot), f8_takeNumber_48 N x1 σ = some (r0, σ0) → Rp G 212 tt σ s H locs → lv_has ls 5 [(0, .ref (G.2.2 + 49)), (1, .int x1)] → W p l e rm8_takeNumber s m args below meth c H locs 0 0 (MQ below (P_i G 212 tt r0 σ0) args s 0 0 (Fr G)) (F0 m 48 ls []) := by
  have hx := X.1
  have hb := X.2.1
  intro x1 σ H locs ls hf hR hl
  unfold f8_takeNumber_48 at hf
  refine lv_aload_n hx hb dX8_takeNumber_48 rfl (lv_at hl 0 rfl) ?_
  refine r_gs (t := 2) X hR fr_8_15 kh_49 (sx_8_0 kh_49) dX8_takeNumber_49 ?_
  refine lv_iconst (v := (5 : Int32)) hx hb dX8_takeNumber_52 (by decide) ?_
  refine lv_aload_n hx hb dX8_takeNumber_53 rfl (lv_at hl 0 rfl) ?_
  refine r_gi X hR fi_8_9 kh_49 dX8_takeNumber_54 ?_
  obtain ⟨r_7, σ_8, hc_9, hf⟩ := z_b_e hf
  refine go_i hR (mv_run (As := [.int (5 : Int32), .int (gI σ 49 2)]) (rest := []) X hR mv_8_101 kh_2 (kd_lt kh_2 (by decide)) (c9_refuse l G N hc_9) ⟨rfl, rfl, Nat.le_of_ble_eq_true rfl, Nat.le_of_ble_eq_true rfl⟩ rfl hl.1 rfl (Nat.le_of_ble_eq_true rfl) dX8_takeNumber_57 ⟨Nat.zero_le _, Nat.zero_le _⟩) (fun H locs hR => ?_)
  refine lv_pop hx hb dX8_takeNumber_60 rfl ?_
  refine lv_iload_n hx hb dX8_takeNumber_61 rfl (lv_at hl 1 rfl) ?_
  exact e_i X hR hr hlk hf dX8_takeNumber_62
set_option maxHeartbeats 4000000 in
set_option maxRecDepth 100000 in
theorem c8_takeNumber (l : Launch) (G : Gp) (N : Nat) {x1 : Int32} {x2 : Int32} {σ σ0 : Mm} {r0 : Int32} (hf : f8_takeNumber N x1 x2 σ = some (r0, σ0)) : Met l yX8_takeNumber (WS yX8_takeNumber cX8_takeNumber 5 (some .int)) rm8_takeNumber (va_Pc [.ref (G.2.2 + 49), .int x1, .int x2] (Pd G 212 tt σ)) (P_i G 212 tt r0 σ0) 0 0 (Fr G) := by
  refine ct [(0, .ref (G.2.2 + 49)), (1, .int x1), (2, .int x2)] rfl (by decide) (Nat.le_of_ble_eq_true rfl) ?_
  intro p e s m below meth c ls X hr hlk hR hl
  have X : Cx p s m _ c cX8_takeNumber 5 RX8 G := X
  have hx := X.1
  have hb := X.2.1
  unfold f8_takeNumber at hf
  refine lv_aload_n hx hb dX8_takeNumber_0 rfl (lv_at hl 0 rfl) ?_
  refine r_gs (t := 2) X hR fr_8_15 kh_49 (sx_8_0 kh_49) dX8_takeNumber_1 ?_
  refine r_gi X hR fi_8_58 kh_2 dX8_takeNumber_4 ?_
  refine lv_if_ne (tgt := 20) hx hb dX8_takeNumber_7 (by decide) (fun c_1 => ?_) (fun c_1 => ?_)
  · replace hf := z_f c_1 hf
    refine lv_iload_n hx hb dX8_takeNumber_20 rfl (lv_at hl 1 rfl) ?_
    exact e_i X hR hr hlk hf dX8_takeNumber_21
  · replace hf := z_t c_1 hf
    refine lv_aload_n hx hb dX8_takeNumber_10 rfl (lv_at hl 0 rfl) ?_
    refine r_gi X hR fi_8_9 kh_49 dX8_takeNumber_11 ?_
    refine lv_sipush (v := (400 : Int32)) hx hb dX8_takeNumber_14 (by decide) ?_
    refine lv_icmp_lt (tgt := 22) hx hb dX8_takeNumber_17 (by decide) (fun c_2 => ?_) (fun c_2 => ?_)
    · replace hf := z_t c_2 hf
      refine lv_aload_n hx hb dX8_takeNumber_22 rfl (lv_at hl 0 rfl) ?_
      refine r_gs (t := 2) X hR fr_8_15 kh_49 (sx_8_0 kh_49) dX8_takeNumber_23 ?_
      refine lv_aload_n hx hb dX8_takeNumber_26 rfl (lv_at hl 0 rfl) ?_
      refine r_gi X hR fi_8_9 kh_49 dX8_takeNumber_27 ?_
      obtain ⟨r_3, σ_4, hc_5, hf⟩ := z_b_e hf
      refine go_l hR (mv_run (As := [.int (gI σ 49 2)]) (rest := []) X hR mv_8_117 kh_2 (kd_lt kh_2 (by decide)) (c9_valueAt l G N hc_5) ⟨rfl, rfl, Nat.le_of_ble_eq_true rfl, Nat.le_of_ble_eq_true rfl⟩ rfl hl.1 rfl (Nat.le_of_ble_eq_true rfl) dX8_takeNumber_30 ⟨Nat.zero_le _, Nat.zero_le _⟩) (fun H locs hR => ?_)
      refine lv_lstore_n (lv' := [(3, .long r_3), (0, .ref (G.2.2 + 49)), (1, .int x1), (2, .int x2)]) hx hb dX8_takeNumber_33 rfl hl (by decide) rfl (fun ls hl => ?_)
      refine lv_lload_n hx hb dX8_takeNumber_34 rfl (lv_at hl 0 rfl) ?_
      refine lv_iload_n hx hb dX8_takeNumber_35 rfl (lv_at hl 2 rfl) ?_
      refine lv_i2l (v := ((x1).toInt64)) hx hb dX8_takeNumber_36 rfl ?_
      refine W.lcmp hx hb dX8_takeNumber_37 ?_
      refine lv_if_lt (tgt := 48) hx hb dX8_takeNumber_38 (by decide) (fun c_6 => ?_) (fun c_6 => ?_)
      · replace hf := z_t c_6 hf
        exact w8_takeNumber_48 X hr hlk N  x1 σ_4 _ _ _ hf hR (lv_sub hl [1, 2] rfl)
      · replace hf := z_f c_6 hf
        refine lv_lload_n hx hb dX8_takeNumber_41 rfl (lv_at hl 0 rfl) ?_
        refine lv_iload_n hx hb dX8_takeNumber_42 rfl (lv_at hl 3 rfl) ?_
        refine lv_i2l (v := ((x2).toInt64)) hx hb dX8_takeNumber_43 rfl ?_
        refine W.lcmp hx hb dX8_takeNumber_44 ?_
        refine lv_if_le (tgt := 63) hx hb dX8_takeNumber_45 (by decide) (fun c_10 => ?_) (fun c_10 => ?_)
        · replace hf := z_t c_10 hf
          refine lv_aload_n hx hb dX8_takeNumber_63 rfl (lv_at hl 1 rfl) ?_
          refine lv_dup hx hb dX8_takeNumber_64 rfl ?_
          refine r_gi X hR fi_8_9 kh_49 dX8_takeNumber_65 ?_
          refine lv_iconst (v := (1 : Int32)) hx hb dX8_takeNumber_68 (by decide) ?_
          refine lv_iadd hx hb dX8_takeNumber_69 ?_
          refine r_pi X hR pi_8_9 kh_49 dX8_takeNumber_70 (fun H locs σ_11 eσ_11 hR => ?_)
          replace hf := z_l_e eσ_11 hf
          refine lv_lload_n hx hb dX8_takeNumber_73 rfl (lv_at hl 0 rfl) ?_
          refine lv_l2i (v := ((r_3).toInt32)) hx hb dX8_takeNumber_74 rfl ?_
          exact e_i X hR hr hlk hf dX8_takeNumber_75
        · replace hf := z_f c_10 hf
          exact w8_takeNumber_48 X hr hlk N  x1 σ_4 _ _ _ hf hR (lv_sub hl [1, 2] rfl)
    · replace hf := z_f c_2 hf
      refine lv_iload_n hx hb dX8_takeNumber_20 rfl (lv_at hl 1 rfl) ?_
      exact e_i X hR hr hlk hf dX8_takeNumber_21
abbrev rm8_takeKnown : Room := { frames := 2, cells := 0, slots := 0, locals := 47 }
def f8_takeKnown (N : Nat) (x1 : Int32) (σ : Mm) : Option (Int32 × Mm) :=
  if (gI σ 2 4) = 0 then (
  if (gI σ 49 2) < (400 : Int32) then (
  z_r (gR σ 49 1) 3 fun t_3 =>
  z_b (f9_valueAt N (gI σ 49 2) σ) fun r_5 σ_6 =>
  z_b (f3_numberOfName N t_3 r_5 x1 σ_6) fun r_8 σ_9 =>
  if r_8 = (-1 : Int32) then (
  z_b (f9_refuse N (4 : Int32) (gI σ_9 49 2) σ_9) fun r_13 σ_14 =>
  some ((0 : Int32), σ_14)) else (
  z_l (sI σ_9 49 2 ((gI σ_9 49 2) + (1 : Int32))) fun σ_12 =>
  some (r_8, σ_12))) else (
  some ((0 : Int32), σ))) else (
  some ((0 : Int32), σ))
set_option maxHeartbeats 4000000 in
set_option maxRecDepth 100000 in
theorem c8_takeKnown (l : Launch) (G : Gp) (N : Nat) {x1 : Int32} {σ σ0 : Mm} {r0 : Int32} (hf : f8_takeKnown N x1 σ = some (r0, σ0)) : Met l yX8_takeKnown (WS yX8_takeKnown cX8_takeKnown 3 (some .int)) rm8_takeKnown (va_Pc [.ref (G.2.2 + 49), .int x1] (Pd G 212 tt σ)) (P_i G 212 tt r0 σ0) 0 0 (Fr G) := by
  refine ct [(0, .ref (G.2.2 + 49)), (1, .int x1)] rfl (by decide) (Nat.le_of_ble_eq_true rfl) ?_
  intro p e s m below meth c ls X hr hlk hR hl
  have X : Cx p s m _ c cX8_takeKnown 3 RX8 G := X
  have hx := X.1
  have hb := X.2.1
  unfold f8_takeKnown at hf
  refine lv_aload_n hx hb dX8_takeKnown_0 rfl (lv_at hl 0 rfl) ?_
  refine r_gs (t := 2) X hR fr_8_15 kh_49 (sx_8_0 kh_49) dX8_takeKnown_1 ?_
  refine r_gi X hR fi_8_58 kh_2 dX8_takeKnown_4 ?_
  refine lv_if_ne (tgt := 20) hx hb dX8_takeKnown_7 (by decide) (fun c_1 => ?_) (fun c_1 => ?_)
  · replace hf := z_f c_1 hf
    refine lv_iconst (v := (0 : Int32)) hx hb dX8_takeKnown_20 (by decide) ?_
    exact e_i X hR hr hlk hf dX8_takeKnown_21
  · replace hf := z_t c_1 hf
    refine lv_aload_n hx hb dX8_takeKnown_10 rfl (lv_at hl 0 rfl) ?_
    refine r_gi X hR fi_8_9 kh_49 dX8_takeKnown_11 ?_
    refine lv_sipush (v := (400 : Int32)) hx hb dX8_takeKnown_14 (by decide) ?_
    refine lv_icmp_lt (tgt := 22) hx hb dX8_takeKnown_17 (by decide) (fun c_2 => ?_) (fun c_2 => ?_)
    · replace hf := z_t c_2 hf
      refine lv_aload_n hx hb dX8_takeKnown_22 rfl (lv_at hl 0 rfl) ?_
      obtain ⟨t_3, ht_4, kht_4, hf⟩ := z_r_e hf
      refine r_gd X hR fr_8_19 kh_49 ht_4 dX8_takeKnown_23 ?_
      refine lv_aload_n hx hb dX8_takeKnown_26 rfl (lv_at hl 0 rfl) ?_
      refine r_gs (t := 2) X hR fr_8_15 kh_49 (sx_8_0 kh_49) dX8_takeKnown_27 ?_
      refine lv_aload_n hx hb dX8_takeKnown_30 rfl (lv_at hl 0 rfl) ?_
      refine r_gi X hR fi_8_9 kh_49 dX8_takeKnown_31 ?_
      obtain ⟨r_5, σ_6, hc_7, hf⟩ := z_b_e hf
      refine go_l hR (mv_run (As := [.int (gI σ 49 2)]) (rest := [.ref (G.2.2 + t_3)]) X hR mv_8_117 kh_2 (kd_lt kh_2 (by decide)) (c9_valueAt l G N hc_7) ⟨rfl, rfl, Nat.le_of_ble_eq_true rfl, Nat.le_of_ble_eq_true rfl⟩ rfl hl.1 rfl (Nat.le_of_ble_eq_true rfl) dX8_takeKnown_34 ⟨Nat.zero_le _, Nat.zero_le _⟩) (fun H locs hR => ?_)
      refine lv_iload_n hx hb dX8_takeKnown_37 rfl (lv_at hl 1 rfl) ?_
      obtain ⟨r_8, σ_9, hc_10, hf⟩ := z_b_e hf
      refine go_i hR (mv_run (As := [.long r_5, .int x1]) (rest := []) X hR mv_8_129 kht_4 (kd_lt kht_4 (by decide)) (c3_numberOfName l G N kht_4 hc_10) ⟨rfl, rfl, Nat.le_of_ble_eq_true rfl, Nat.le_of_ble_eq_true rfl⟩ rfl hl.1 rfl (Nat.le_of_ble_eq_true rfl) dX8_takeKnown_38 ⟨Nat.zero_le _, Nat.zero_le _⟩) (fun H locs hR => ?_)
      refine lv_istore_n (lv' := [(2, .int r_8), (0, .ref (G.2.2 + 49)), (1, .int x1)]) hx hb dX8_takeKnown_41 rfl hl (by decide) rfl (fun ls hl => ?_)
      refine lv_iload_n hx hb dX8_takeKnown_42 rfl (lv_at hl 0 rfl) ?_
      refine lv_iconst (v := (-1 : Int32)) hx hb dX8_takeKnown_43 (by decide) ?_
      refine lv_icmp_ne (tgt := 62) hx hb dX8_takeKnown_44 (by decide) (fun c_11 => ?_) (fun c_11 => ?_)
      · replace hf := z_f c_11 hf
        refine lv_aload_n hx hb dX8_takeKnown_62 rfl (lv_at hl 1 rfl) ?_
        refine lv_dup hx hb dX8_takeKnown_63 rfl ?_
        refine r_gi X hR fi_8_9 kh_49 dX8_takeKnown_64 ?_
        refine lv_iconst (v := (1 : Int32)) hx hb dX8_takeKnown_67 (by decide) ?_
        refine lv_iadd hx hb dX8_takeKnown_68 ?_
        refine r_pi X hR pi_8_9 kh_49 dX8_takeKnown_69 (fun H locs σ_12 eσ_12 hR => ?_)
        replace hf := z_l_e eσ_12 hf
        refine lv_iload_n hx hb dX8_takeKnown_72 rfl (lv_at hl 0 rfl) ?_
        exact e_i X hR hr hlk hf dX8_takeKnown_73
      · replace hf := z_t c_11 hf
        refine lv_aload_n hx hb dX8_takeKnown_47 rfl (lv_at hl 1 rfl) ?_
        refine r_gs (t := 2) X hR fr_8_15 kh_49 (sx_8_0 kh_49) dX8_takeKnown_48 ?_
        refine lv_iconst (v := (4 : Int32)) hx hb dX8_takeKnown_51 (by decide) ?_
        refine lv_aload_n hx hb dX8_takeKnown_52 rfl (lv_at hl 1 rfl) ?_
        refine r_gi X hR fi_8_9 kh_49 dX8_takeKnown_53 ?_
        obtain ⟨r_13, σ_14, hc_15, hf⟩ := z_b_e hf
        refine go_i hR (mv_run (As := [.int (4 : Int32), .int (gI σ_9 49 2)]) (rest := []) X hR mv_8_101 kh_2 (kd_lt kh_2 (by decide)) (c9_refuse l G N hc_15) ⟨rfl, rfl, Nat.le_of_ble_eq_true rfl, Nat.le_of_ble_eq_true rfl⟩ rfl hl.1 rfl (Nat.le_of_ble_eq_true rfl) dX8_takeKnown_56 ⟨Nat.zero_le _, Nat.zero_le _⟩) (fun H locs hR => ?_)
        refine lv_pop hx hb dX8_takeKnown_59 rfl ?_
        refine lv_iconst (v := (0 : Int32)) hx hb dX8_takeKnown_60 (by decide) ?_
        exact e_i X hR hr hlk hf dX8_takeKnown_61
    · replace hf := z_f c_2 hf
      refine lv_iconst (v := (0 : Int32)) hx hb dX8_takeKnown_20 (by decide) ?_
      exact e_i X hR hr hlk hf dX8_takeKnown_21
abbrev rm8_fillsPlot : Room := { frames := 3, cells := 0, slots := 0, locals := 69 }
def f8_fillsPlot (N : Nat) (σ : Mm) : Option (Int32 × Mm) :=
  z_r (gR σ 49 1) 3 fun t_1 =>
  z_l ((gI σ t_1 1)) fun x1_3 =>
  if (7 : Int32) ≤ x1_3 then (
  some ((0 : Int32), σ)) else (
  z_b (f8_takeNewName N (14 : Int32) x1_3 σ) fun r_5 σ_6 =>
  if r_5 = 0 then (
  some ((0 : Int32), σ_6)) else (
  z_r (gR σ_6 49 1) 3 fun t_9 =>
  z_b (f8_takeNumber N (0 : Int32) (9 : Int32) σ_6) fun r_11 σ_12 =>
  z_c (inB x1_3 7) (z_l (sI σ_12 (t_9 + 1) (ix x1_3) r_11) fun σ_15 =>
  z_r (gR σ_15 49 1) 3 fun t_16 =>
  z_b (f8_takeNumber N (0 : Int32) (9 : Int32) σ_15) fun r_18 σ_19 =>
  z_c (inB x1_3 7) (z_l (sI σ_19 (t_16 + 2) (ix x1_3) r_18) fun σ_22 =>
  z_r (gR σ_22 49 1) 3 fun t_23 =>
  z_b (f8_takeKnown N (13 : Int32) σ_22) fun r_25 σ_26 =>
  z_c (inB x1_3 7) (z_l (sI σ_26 (t_23 + 3) (ix x1_3) r_25) fun σ_29 =>
  z_r (gR σ_29 49 1) 3 fun t_30 =>
  z_l (sI σ_29 t_30 1 ((gI σ_29 t_30 1) + (1 : Int32))) fun σ_32 =>
  if (gI σ_32 2 4) = 0 then (
  some ((1 : Int32), σ_32)) else (
  some ((0 : Int32), σ_32)))))))
set_option maxHeartbeats 4000000 in
set_option maxRecDepth 100000 in
theorem c8_fillsPlot (l : Launch) (G : Gp) (N : Nat) {σ σ0 : Mm} {r0 : Int32} (hf : f8_fillsPlot N σ = some (r0, σ0)) : Met l yX8_fillsPlot (WS yX8_fillsPlot cX8_fillsPlot 2 (some .boolean)) rm8_fillsPlot (va_Pc [.ref (G.2.2 + 49)] (Pd G 212 tt σ)) (P_i G 212 tt r0 σ0) 0 0 (Fr G) := by
  refine ct [(0, .ref (G.2.2 + 49))] rfl (by decide) (Nat.le_of_ble_eq_true rfl) ?_
  intro p e s m below meth c ls X hr hlk hR hl
  have X : Cx p s m _ c cX8_fillsPlot 2 RX8 G := X
  have hx := X.1
  have hb := X.2.1
  unfold f8_fillsPlot at hf
  refine lv_aload_n hx hb dX8_fillsPlot_0 rfl (lv_at hl 0 rfl) ?_
  obtain ⟨t_1, ht_2, kht_2, hf⟩ := z_r_e hf
  refine r_gd X hR fr_8_19 kh_49 ht_2 dX8_fillsPlot_1 ?_
  refine r_gi X hR fi_8_76 kht_2 dX8_fillsPlot_4 ?_
  refine lv_topi (fun x1_3 ex1_3 => ?_)
  replace hf := z_l_e ex1_3 hf
  refine lv_istore_n (lv' := [(1, .int x1_3), (0, .ref (G.2.2 + 49))]) hx hb dX8_fillsPlot_7 rfl hl (by decide) rfl (fun ls hl => ?_)
  refine lv_iload_n hx hb dX8_fillsPlot_8 rfl (lv_at hl 0 rfl) ?_
  refine lv_bipush (v := (7 : Int32)) hx hb dX8_fillsPlot_9 (by decide) ?_
  refine lv_icmp_ge (tgt := 24) hx hb dX8_fillsPlot_11 (by decide) (fun c_4 => ?_) (fun c_4 => ?_)
  · replace hf := z_t c_4 hf
    refine lv_iconst (v := (0 : Int32)) hx hb dX8_fillsPlot_24 (by decide) ?_
    exact e_z X hR hr hlk rfl hf dX8_fillsPlot_25
  · replace hf := z_f c_4 hf
    refine lv_aload_n hx hb dX8_fillsPlot_14 rfl (lv_at hl 1 rfl) ?_
    refine lv_bipush (v := (14 : Int32)) hx hb dX8_fillsPlot_15 (by decide) ?_
    refine lv_iload_n hx hb dX8_fillsPlot_17 rfl (lv_at hl 0 rfl) ?_
    obtain ⟨r_5, σ_6, hc_7, hf⟩ := z_b_e hf
    refine go_i hR (mv_run (As := [.int (14 : Int32), .int x1_3]) (rest := []) X hR mv_8_72 kh_49 (kd_lt kh_49 (by decide)) (c8_takeNewName l G N hc_7) ⟨rfl, rfl, Nat.le_of_ble_eq_true rfl, Nat.le_of_ble_eq_true rfl⟩ rfl hl.1 rfl (Nat.le_of_ble_eq_true rfl) dX8_fillsPlot_18 ⟨Nat.zero_le _, Nat.zero_le _⟩) (fun H locs hR => ?_)
    refine lv_if_ne (tgt := 26) hx hb dX8_fillsPlot_21 (by decide) (fun c_8 => ?_) (fun c_8 => ?_)
    · replace hf := z_f c_8 hf
      refine lv_aload_n hx hb dX8_fillsPlot_26 rfl (lv_at hl 1 rfl) ?_
      obtain ⟨t_9, ht_10, kht_10, hf⟩ := z_r_e hf
      refine r_gd X hR fr_8_19 kh_49 ht_10 dX8_fillsPlot_27 ?_
      refine r_gs (t := (t_9 + 1)) X hR fr_8_79 kht_10 (sx_3_6 kht_10) dX8_fillsPlot_30 ?_
      refine lv_iload_n hx hb dX8_fillsPlot_33 rfl (lv_at hl 0 rfl) ?_
      refine lv_aload_n hx hb dX8_fillsPlot_34 rfl (lv_at hl 1 rfl) ?_
      refine lv_iconst (v := (0 : Int32)) hx hb dX8_fillsPlot_35 (by decide) ?_
      refine lv_bipush (v := (9 : Int32)) hx hb dX8_fillsPlot_36 (by decide) ?_
      obtain ⟨r_11, σ_12, hc_13, hf⟩ := z_b_e hf
      refine go_i hR (mv_run (As := [.int (0 : Int32), .int (9 : Int32)]) (rest := [.int x1_3, .ref (G.2.2 + (t_9 + 1))]) X hR mv_8_49 kh_49 (kd_lt kh_49 (by decide)) (c8_takeNumber l G N hc_13) ⟨rfl, rfl, Nat.le_of_ble_eq_true rfl, Nat.le_of_ble_eq_true rfl⟩ rfl hl.1 rfl (Nat.le_of_ble_eq_true rfl) dX8_fillsPlot_38 ⟨Nat.zero_le _, Nat.zero_le _⟩) (fun H locs hR => ?_)
      obtain ⟨hi_14, hf⟩ := z_c_e hf
      refine r_ias X hR (kx_3_6 kht_10) hi_14 dX8_fillsPlot_41 (fun H locs σ_15 eσ_15 hR => ?_)
      replace hf := z_l_e eσ_15 hf
      refine lv_aload_n hx hb dX8_fillsPlot_42 rfl (lv_at hl 1 rfl) ?_
      obtain ⟨t_16, ht_17, kht_17, hf⟩ := z_r_e hf
      refine r_gd X hR fr_8_19 kh_49 ht_17 dX8_fillsPlot_43 ?_
      refine r_gs (t := (t_16 + 2)) X hR fr_8_83 kht_17 (sx_3_7 kht_17) dX8_fillsPlot_46 ?_
      refine lv_iload_n hx hb dX8_fillsPlot_49 rfl (lv_at hl 0 rfl) ?_
      refine lv_aload_n hx hb dX8_fillsPlot_50 rfl (lv_at hl 1 rfl) ?_
      refine lv_iconst (v := (0 : Int32)) hx hb dX8_fillsPlot_51 (by decide) ?_
      refine lv_bipush (v := (9 : Int32)) hx hb dX8_fillsPlot_52 (by decide) ?_
      obtain ⟨r_18, σ_19, hc_20, hf⟩ := z_b_e hf
      refine go_i hR (mv_run (As := [.int (0 : Int32), .int (9 : Int32)]) (rest := [.int x1_3, .ref (G.2.2 + (t_16 + 2))]) X hR mv_8_49 kh_49 (kd_lt kh_49 (by decide)) (c8_takeNumber l G N hc_20) ⟨rfl, rfl, Nat.le_of_ble_eq_true rfl, Nat.le_of_ble_eq_true rfl⟩ rfl hl.1 rfl (Nat.le_of_ble_eq_true rfl) dX8_fillsPlot_54 ⟨Nat.zero_le _, Nat.zero_le _⟩) (fun H locs hR => ?_)
      obtain ⟨hi_21, hf⟩ := z_c_e hf
      refine r_ias X hR (kx_3_7 kht_17) hi_21 dX8_fillsPlot_57 (fun H locs σ_22 eσ_22 hR => ?_)
      replace hf := z_l_e eσ_22 hf
      refine lv_aload_n hx hb dX8_fillsPlot_58 rfl (lv_at hl 1 rfl) ?_
      obtain ⟨t_23, ht_24, kht_24, hf⟩ := z_r_e hf
      refine r_gd X hR fr_8_19 kh_49 ht_24 dX8_fillsPlot_59 ?_
      refine r_gs (t := (t_23 + 3)) X hR fr_8_86 kht_24 (sx_3_8 kht_24) dX8_fillsPlot_62 ?_
      refine lv_iload_n hx hb dX8_fillsPlot_65 rfl (lv_at hl 0 rfl) ?_
      refine lv_aload_n hx hb dX8_fillsPlot_66 rfl (lv_at hl 1 rfl) ?_
      refine lv_bipush (v := (13 : Int32)) hx hb dX8_fillsPlot_67 (by decide) ?_
      obtain ⟨r_25, σ_26, hc_27, hf⟩ := z_b_e hf
      refine go_i hR (mv_run (As := [.int (13 : Int32)]) (rest := [.int x1_3, .ref (G.2.2 + (t_23 + 3))]) X hR mv_8_89 kh_49 (kd_lt kh_49 (by decide)) (c8_takeKnown l G N hc_27) ⟨rfl, rfl, Nat.le_of_ble_eq_true rfl, Nat.le_of_ble_eq_true rfl⟩ rfl hl.1 rfl (Nat.le_of_ble_eq_true rfl) dX8_fillsPlot_69 ⟨Nat.zero_le _, Nat.zero_le _⟩) (fun H locs hR => ?_)
      obtain ⟨hi_28, hf⟩ := z_c_e hf
      refine r_ias X hR (kx_3_8 kht_24) hi_28 dX8_fillsPlot_72 (fun H locs σ_29 eσ_29 hR => ?_)
      replace hf := z_l_e eσ_29 hf
      refine lv_aload_n hx hb dX8_fillsPlot_73 rfl (lv_at hl 1 rfl) ?_
      obtain ⟨t_30, ht_31, kht_31, hf⟩ := z_r_e hf
      refine r_gd X hR fr_8_19 kh_49 ht_31 dX8_fillsPlot_74 ?_
      refine lv_dup hx hb dX8_fillsPlot_77 rfl ?_
      refine r_gi X hR fi_8_76 kht_31 dX8_fillsPlot_78 ?_
      refine lv_iconst (v := (1 : Int32)) hx hb dX8_fillsPlot_81 (by decide) ?_
      refine lv_iadd hx hb dX8_fillsPlot_82 ?_
      refine r_pi X hR pi_8_76 kht_31 dX8_fillsPlot_83 (fun H locs σ_32 eσ_32 hR => ?_)
      replace hf := z_l_e eσ_32 hf
      refine lv_aload_n hx hb dX8_fillsPlot_86 rfl (lv_at hl 1 rfl) ?_
      refine r_gs (t := 2) X hR fr_8_15 kh_49 (sx_8_0 kh_49) dX8_fillsPlot_87 ?_
      refine r_gi X hR fi_8_58 kh_2 dX8_fillsPlot_90 ?_
      refine lv_if_ne (tgt := 100) hx hb dX8_fillsPlot_93 (by decide) (fun c_33 => ?_) (fun c_33 => ?_)
      · replace hf := z_f c_33 hf
        refine lv_iconst (v := (0 : Int32)) hx hb dX8_fillsPlot_100 (by decide) ?_
        exact e_z X hR hr hlk rfl hf dX8_fillsPlot_101
      · replace hf := z_t c_33 hf
        refine lv_iconst (v := (1 : Int32)) hx hb dX8_fillsPlot_96 (by decide) ?_
        refine lv_goto (tgt := 101) hx hb dX8_fillsPlot_97 (by decide) ?_
        exact e_z X hR hr hlk rfl hf dX8_fillsPlot_101
    · replace hf := z_t c_8 hf
      refine lv_iconst (v := (0 : Int32)) hx hb dX8_fillsPlot_24 (by decide) ?_
      exact e_z X hR hr hlk rfl hf dX8_fillsPlot_25
abbrev rm8_fillsWitness : Room := { frames := 2, cells := 0, slots := 0, locals := 46 }
def f8_fillsWitness (N : Nat) (σ : Mm) : Option (Int32 × Mm) :=
  z_r (gR σ 49 1) 3 fun t_1 =>
  z_l ((gI σ t_1 2)) fun x1_3 =>
  if (7 : Int32) ≤ x1_3 then (
  some ((0 : Int32), σ)) else (
  z_b (f8_takeNewName N (15 : Int32) x1_3 σ) fun r_5 σ_6 =>
  if r_5 = 0 then (
  some ((0 : Int32), σ_6)) else (
  z_r (gR σ_6 49 1) 3 fun t_9 =>
  z_b (f8_takeNumber N (0 : Int32) (99 : Int32) σ_6) fun r_11 σ_12 =>
  z_c (inB x1_3 7) (z_l (sI σ_12 (t_9 + 4) (ix x1_3) r_11) fun σ_15 =>
  z_r (gR σ_15 49 1) 3 fun t_16 =>
  z_b (f8_takeNumber N (0 : Int32) (99 : Int32) σ_15) fun r_18 σ_19 =>
  z_c (inB x1_3 7) (z_l (sI σ_19 (t_16 + 5) (ix x1_3) r_18) fun σ_22 =>
  z_r (gR σ_22 49 1) 3 fun t_23 =>
  z_l (sI σ_22 t_23 2 ((gI σ_22 t_23 2) + (1 : Int32))) fun σ_25 =>
  if (gI σ_25 2 4) = 0 then (
  some ((1 : Int32), σ_25)) else (
  some ((0 : Int32), σ_25))))))
set_option maxHeartbeats 4000000 in
set_option maxRecDepth 100000 in
theorem c8_fillsWitness (l : Launch) (G : Gp) (N : Nat) {σ σ0 : Mm} {r0 : Int32} (hf : f8_fillsWitness N σ = some (r0, σ0)) : Met l yX8_fillsWitness (WS yX8_fillsWitness cX8_fillsWitness 2 (some .boolean)) rm8_fillsWitness (va_Pc [.ref (G.2.2 + 49)] (Pd G 212 tt σ)) (P_i G 212 tt r0 σ0) 0 0 (Fr G) := by
  refine ct [(0, .ref (G.2.2 + 49))] rfl (by decide) (Nat.le_of_ble_eq_true rfl) ?_
  intro p e s m below meth c ls X hr hlk hR hl
  have X : Cx p s m _ c cX8_fillsWitness 2 RX8 G := X
  have hx := X.1
  have hb := X.2.1
  unfold f8_fillsWitness at hf
  refine lv_aload_n hx hb dX8_fillsWitness_0 rfl (lv_at hl 0 rfl) ?_
  obtain ⟨t_1, ht_2, kht_2, hf⟩ := z_r_e hf
  refine r_gd X hR fr_8_19 kh_49 ht_2 dX8_fillsWitness_1 ?_
  refine r_gi X hR fi_8_92 kht_2 dX8_fillsWitness_4 ?_
  refine lv_topi (fun x1_3 ex1_3 => ?_)
  replace hf := z_l_e ex1_3 hf
  refine lv_istore_n (lv' := [(1, .int x1_3), (0, .ref (G.2.2 + 49))]) hx hb dX8_fillsWitness_7 rfl hl (by decide) rfl (fun ls hl => ?_)
  refine lv_iload_n hx hb dX8_fillsWitness_8 rfl (lv_at hl 0 rfl) ?_
  refine lv_bipush (v := (7 : Int32)) hx hb dX8_fillsWitness_9 (by decide) ?_
  refine lv_icmp_ge (tgt := 24) hx hb dX8_fillsWitness_11 (by decide) (fun c_4 => ?_) (fun c_4 => ?_)
  · replace hf := z_t c_4 hf
    refine lv_iconst (v := (0 : Int32)) hx hb dX8_fillsWitness_24 (by decide) ?_
    exact e_z X hR hr hlk rfl hf dX8_fillsWitness_25
  · replace hf := z_f c_4 hf
    refine lv_aload_n hx hb dX8_fillsWitness_14 rfl (lv_at hl 1 rfl) ?_
    refine lv_bipush (v := (15 : Int32)) hx hb dX8_fillsWitness_15 (by decide) ?_
    refine lv_iload_n hx hb dX8_fillsWitness_17 rfl (lv_at hl 0 rfl) ?_
    obtain ⟨r_5, σ_6, hc_7, hf⟩ := z_b_e hf
    refine go_i hR (mv_run (As := [.int (15 : Int32), .int x1_3]) (rest := []) X hR mv_8_72 kh_49 (kd_lt kh_49 (by decide)) (c8_takeNewName l G N hc_7) ⟨rfl, rfl, Nat.le_of_ble_eq_true rfl, Nat.le_of_ble_eq_true rfl⟩ rfl hl.1 rfl (Nat.le_of_ble_eq_true rfl) dX8_fillsWitness_18 ⟨Nat.zero_le _, Nat.zero_le _⟩) (fun H locs hR => ?_)
    refine lv_if_ne (tgt := 26) hx hb dX8_fillsWitness_21 (by decide) (fun c_8 => ?_) (fun c_8 => ?_)
    · replace hf := z_f c_8 hf
      refine lv_aload_n hx hb dX8_fillsWitness_26 rfl (lv_at hl 1 rfl) ?_
      obtain ⟨t_9, ht_10, kht_10, hf⟩ := z_r_e hf
      refine r_gd X hR fr_8_19 kh_49 ht_10 dX8_fillsWitness_27 ?_
      refine r_gs (t := (t_9 + 4)) X hR fr_8_95 kht_10 (sx_3_9 kht_10) dX8_fillsWitness_30 ?_
      refine lv_iload_n hx hb dX8_fillsWitness_33 rfl (lv_at hl 0 rfl) ?_
      refine lv_aload_n hx hb dX8_fillsWitness_34 rfl (lv_at hl 1 rfl) ?_
      refine lv_iconst (v := (0 : Int32)) hx hb dX8_fillsWitness_35 (by decide) ?_
      refine lv_bipush (v := (99 : Int32)) hx hb dX8_fillsWitness_36 (by decide) ?_
      obtain ⟨r_11, σ_12, hc_13, hf⟩ := z_b_e hf
      refine go_i hR (mv_run (As := [.int (0 : Int32), .int (99 : Int32)]) (rest := [.int x1_3, .ref (G.2.2 + (t_9 + 4))]) X hR mv_8_49 kh_49 (kd_lt kh_49 (by decide)) (c8_takeNumber l G N hc_13) ⟨rfl, rfl, Nat.le_of_ble_eq_true rfl, Nat.le_of_ble_eq_true rfl⟩ rfl hl.1 rfl (Nat.le_of_ble_eq_true rfl) dX8_fillsWitness_38 ⟨Nat.zero_le _, Nat.zero_le _⟩) (fun H locs hR => ?_)
      obtain ⟨hi_14, hf⟩ := z_c_e hf
      refine r_ias X hR (kx_3_9 kht_10) hi_14 dX8_fillsWitness_41 (fun H locs σ_15 eσ_15 hR => ?_)
      replace hf := z_l_e eσ_15 hf
      refine lv_aload_n hx hb dX8_fillsWitness_42 rfl (lv_at hl 1 rfl) ?_
      obtain ⟨t_16, ht_17, kht_17, hf⟩ := z_r_e hf
      refine r_gd X hR fr_8_19 kh_49 ht_17 dX8_fillsWitness_43 ?_
      refine r_gs (t := (t_16 + 5)) X hR fr_8_98 kht_17 (sx_3_10 kht_17) dX8_fillsWitness_46 ?_
      refine lv_iload_n hx hb dX8_fillsWitness_49 rfl (lv_at hl 0 rfl) ?_
      refine lv_aload_n hx hb dX8_fillsWitness_50 rfl (lv_at hl 1 rfl) ?_
      refine lv_iconst (v := (0 : Int32)) hx hb dX8_fillsWitness_51 (by decide) ?_
      refine lv_bipush (v := (99 : Int32)) hx hb dX8_fillsWitness_52 (by decide) ?_
      obtain ⟨r_18, σ_19, hc_20, hf⟩ := z_b_e hf
      refine go_i hR (mv_run (As := [.int (0 : Int32), .int (99 : Int32)]) (rest := [.int x1_3, .ref (G.2.2 + (t_16 + 5))]) X hR mv_8_49 kh_49 (kd_lt kh_49 (by decide)) (c8_takeNumber l G N hc_20) ⟨rfl, rfl, Nat.le_of_ble_eq_true rfl, Nat.le_of_ble_eq_true rfl⟩ rfl hl.1 rfl (Nat.le_of_ble_eq_true rfl) dX8_fillsWitness_54 ⟨Nat.zero_le _, Nat.zero_le _⟩) (fun H locs hR => ?_)
      obtain ⟨hi_21, hf⟩ := z_c_e hf
      refine r_ias X hR (kx_3_10 kht_17) hi_21 dX8_fillsWitness_57 (fun H locs σ_22 eσ_22 hR => ?_)
      replace hf := z_l_e eσ_22 hf
      refine lv_aload_n hx hb dX8_fillsWitness_58 rfl (lv_at hl 1 rfl) ?_
      obtain ⟨t_23, ht_24, kht_24, hf⟩ := z_r_e hf
      refine r_gd X hR fr_8_19 kh_49 ht_24 dX8_fillsWitness_59 ?_
      refine lv_dup hx hb dX8_fillsWitness_62 rfl ?_
      refine r_gi X hR fi_8_92 kht_24 dX8_fillsWitness_63 ?_
      refine lv_iconst (v := (1 : Int32)) hx hb dX8_fillsWitness_66 (by decide) ?_
      refine lv_iadd hx hb dX8_fillsWitness_67 ?_
      refine r_pi X hR pi_8_92 kht_24 dX8_fillsWitness_68 (fun H locs σ_25 eσ_25 hR => ?_)
      replace hf := z_l_e eσ_25 hf
      refine lv_aload_n hx hb dX8_fillsWitness_71 rfl (lv_at hl 1 rfl) ?_
      refine r_gs (t := 2) X hR fr_8_15 kh_49 (sx_8_0 kh_49) dX8_fillsWitness_72 ?_
      refine r_gi X hR fi_8_58 kh_2 dX8_fillsWitness_75 ?_
      refine lv_if_ne (tgt := 85) hx hb dX8_fillsWitness_78 (by decide) (fun c_26 => ?_) (fun c_26 => ?_)
      · replace hf := z_f c_26 hf
        refine lv_iconst (v := (0 : Int32)) hx hb dX8_fillsWitness_85 (by decide) ?_
        exact e_z X hR hr hlk rfl hf dX8_fillsWitness_86
      · replace hf := z_t c_26 hf
        refine lv_iconst (v := (1 : Int32)) hx hb dX8_fillsWitness_81 (by decide) ?_
        refine lv_goto (tgt := 86) hx hb dX8_fillsWitness_82 (by decide) ?_
        exact e_z X hR hr hlk rfl hf dX8_fillsWitness_86
    · replace hf := z_t c_8 hf
      refine lv_iconst (v := (0 : Int32)) hx hb dX8_fillsWitness_24 (by decide) ?_
      exact e_z X hR hr hlk rfl hf dX8_fillsWitness_25
abbrev rm8_fillsGiving : Room := { frames := 3, cells := 0, slots := 0, locals := 69 }
def f8_fillsGiving_155 (N : Nat) (x1 : Int32) (x2 : Int32) (x3 : Int32) (x4 : Int32) (x5 : Int32) (σ : Mm) : Option (Int32 × Mm) :=
  if (gI σ 2 4) = 0 then (
  z_r (gR σ 49 1) 3 fun t_16 =>
  if (gI σ t_16 3) < (12 : Int32) then (
  z_r (gR σ 49 1) 3 fun t_19 =>
  z_r (gR σ 49 1) 3 fun t_21 =>
  z_b (f1_put N (t_19 + 6) (gI σ t_21 3) x1 x2 x3 (-x4) x5 σ) fun _ σ_24 =>
  z_r (gR σ_24 49 1) 3 fun t_26 =>
  z_l (sI σ_24 t_26 3 ((gI σ_24 t_26 3) + (1 : Int32))) fun σ_28 =>
  some ((1 : Int32), σ_28)) else (
  some ((0 : Int32), σ))) else (
  some ((0 : Int32), σ))
def f8_fillsGiving_142 (N : Nat) (k66 : Int32 → Int32 → Mm → Option (Int32 × Mm)) (x1 : Int32) (x2 : Int32) (x3 : Int32) (x4 : Int32) (x5 : Int32) (x6 : Int32) (x7 : Int32) (σ : Mm) : Option (Int32 × Mm) :=
  z_l ((x5 ||| x7)) fun x5_39 =>
  z_l (x6 + (1 : Int32)) fun x6_40 =>
  k66 x5_39 x6_40 σ
def f8_fillsGiving_127 (N : Nat) (σ : Mm) : Option (Int32 × Mm) :=
  z_b (f9_refuse N (3 : Int32) ((gI σ 49 2) - (1 : Int32)) σ) fun r_42 σ_43 =>
  z_c (isZ r_42) (some (r_42, σ_43))
def f8_fillsGiving_66 (N : Nat) (x1 : Int32) (x2 : Int32) (x3 : Int32) (x4 : Int32) : Nat → Int32 → Int32 → Mm → Option (Int32 × Mm)
  | 0, _, _, _ => none
  | fu + 1, x5, x6, σ => if (400 : Int32) < x6 then (
  f8_fillsGiving_155 N x1 x2 x3 x4 x5 σ) else (
  if (gI σ 2 4) = 0 then (
  z_b (f9_kindAt N (gI σ 49 2) σ) fun r_30 σ_31 =>
  if r_30 = (2 : Int32) then (
  z_b (f8_takeKnown N (15 : Int32) σ_31) fun r_34 σ_35 =>
  z_l (((1 : Int32) <<< (r_34 &&& 31))) fun x7_37 =>
  if (gI σ_35 2 4) = 0 then (
  if (x5 &&& x7_37) = 0 then (
  f8_fillsGiving_142 N (fun x5 x6 σ => f8_fillsGiving_66 N x1 x2 x3 x4 fu x5 x6 σ) x1 x2 x3 x4 x5 x6 x7_37 σ_35) else (
  f8_fillsGiving_127 N σ_35)) else (
  f8_fillsGiving_142 N (fun x5 x6 σ => f8_fillsGiving_66 N x1 x2 x3 x4 fu x5 x6 σ) x1 x2 x3 x4 x5 x6 x7_37 σ_35)) else (
  f8_fillsGiving_155 N x1 x2 x3 x4 x5 σ_31)) else (
  f8_fillsGiving_155 N x1 x2 x3 x4 x5 σ))
def f8_fillsGiving_51 (N : Nat) (x1 : Int32) (x2 : Int32) (x3 : Int32) (σ : Mm) : Option (Int32 × Mm) :=
  z_b (f8_takeNumber N (0 : Int32) (99 : Int32) σ) fun r_11 σ_12 =>
  f8_fillsGiving_66 N x1 x2 x3 r_11 N (0 : Int32) (0 : Int32) σ_12
def f8_fillsGiving (N : Nat) (σ : Mm) : Option (Int32 × Mm) :=
  z_b (f8_takeKnown N (14 : Int32) σ) fun r_1 σ_2 =>
  z_b (f8_takeKnown N (13 : Int32) σ_2) fun r_4 σ_5 =>
  z_b (f8_takeKnown N (13 : Int32) σ_5) fun r_7 σ_8 =>
  if (gI σ_8 2 4) = 0 then (
  if r_4 = r_7 then (
  z_b (f9_refuse N (3 : Int32) ((gI σ_8 49 2) - (1 : Int32)) σ_8) fun r_47 σ_48 =>
  z_c (isZ r_47) (some (r_47, σ_48))) else (
  f8_fillsGiving_51 N r_1 r_4 r_7 σ_8)) else (
  f8_fillsGiving_51 N r_1 r_4 r_7 σ_8)
set_option maxHeartbeats 4000000 in
set_option maxRecDepth 100000 in
theorem w8_fillsGiving_155 (X : Cx p s m args c cX8_fillsGiving 8 RX8 G) (hr : meth.sig.returnType = some .boolean) (hlk : meth.locks = false) (N : Nat) :
    ∀ (x1 : Int32) (x2 : Int32) (x3 : Int32) (x4 : Int32) (x5 : Int32) (σ : Mm) (H : Heap) (locs : List Loc) (ls : Array Slot), f8_fillsGiving_155 N x1 x2 x3 x4 x5 σ = some (r0, σ0) → Rp G 212 tt σ s H locs → lv_has ls 8 [(0, .ref (G.2.2 + 49)), (1, .int x1), (2, .int x2), (3, .int x3), (4, .int x4), (5, .int x5)] → W p l e rm8_fillsGiving s m args below meth c H locs 0 0 (MQ below (P_i G 212 tt r0 σ0) args s 0 0 (Fr G)) (F0 m 155 ls []) := by
  have hx := X.1
  have hb := X.2.1
  intro x1 x2 x3 x4 x5 σ H locs ls hf hR hl
  unfold f8_fillsGiving_155 at hf
  refine lv_aload_n hx hb dX8_fillsGiving_155 rfl (lv_at hl 0 rfl) ?_
  refine r_gs (t := 2) X hR fr_8_15 kh_49 (sx_8_0 kh_49) dX8_fillsGiving_156 ?_
  refine r_gi X hR fi_8_58 kh_2 dX8_fillsGiving_159 ?_
  refine lv_if_ne (tgt := 177) hx hb dX8_fillsGiving_162 (by decide) (fun c_15 => ?_) (fun c_15 => ?_)
  · replace hf := z_f c_15 hf
    refine lv_iconst (v := (0 : Int32)) hx hb dX8_fillsGiving_177 (by decide) ?_
    exact e_z X hR hr hlk rfl hf dX8_fillsGiving_178
  · replace hf := z_t c_15 hf
    refine lv_aload_n hx hb dX8_fillsGiving_165 rfl (lv_at hl 0 rfl) ?_
    obtain ⟨t_16, ht_17, kht_17, hf⟩ := z_r_e hf
    refine r_gd X hR fr_8_19 kh_49 ht_17 dX8_fillsGiving_166 ?_
    refine r_gi X hR fi_8_104 kht_17 dX8_fillsGiving_169 ?_
    refine lv_bipush (v := (12 : Int32)) hx hb dX8_fillsGiving_172 (by decide) ?_
    refine lv_icmp_lt (tgt := 179) hx hb dX8_fillsGiving_174 (by decide) (fun c_18 => ?_) (fun c_18 => ?_)
    · replace hf := z_t c_18 hf
      refine lv_aload_n hx hb dX8_fillsGiving_179 rfl (lv_at hl 0 rfl) ?_
      obtain ⟨t_19, ht_20, kht_20, hf⟩ := z_r_e hf
      refine r_gd X hR fr_8_19 kh_49 ht_20 dX8_fillsGiving_180 ?_
      refine r_gs (t := (t_19 + 6)) X hR fr_8_107 kht_20 (sx_3_11 kht_20) dX8_fillsGiving_183 ?_
      refine lv_aload_n hx hb dX8_fillsGiving_186 rfl (lv_at hl 0 rfl) ?_
      obtain ⟨t_21, ht_22, kht_22, hf⟩ := z_r_e hf
      refine r_gd X hR fr_8_19 kh_49 ht_22 dX8_fillsGiving_187 ?_
      refine r_gi X hR fi_8_104 kht_22 dX8_fillsGiving_190 ?_
      refine lv_iload_n hx hb dX8_fillsGiving_193 rfl (lv_at hl 1 rfl) ?_
      refine lv_iload_n hx hb dX8_fillsGiving_194 rfl (lv_at hl 2 rfl) ?_
      refine lv_iload_n hx hb dX8_fillsGiving_195 rfl (lv_at hl 3 rfl) ?_
      refine lv_iload hx hb dX8_fillsGiving_196 (lv_at hl 4 rfl) ?_
      refine lv_ineg hx hb dX8_fillsGiving_198 ?_
      refine lv_iload hx hb dX8_fillsGiving_199 (lv_at hl 5 rfl) ?_
      obtain ⟨r_23, σ_24, hc_25, hf⟩ := z_b_e hf
      refine go_v hR (mv_run (As := [.int (gI σ t_21 3), .int x1, .int x2, .int x3, .int (-x4), .int x5]) (rest := []) X hR mv_8_111 (kx_3_11 kht_20) (kd_lt (kx_3_11 kht_20) (by decide)) (c1_put l G N (kx_3_11 kht_20) hc_25) ⟨rfl, rfl, Nat.le_of_ble_eq_true rfl, Nat.le_of_ble_eq_true rfl⟩ rfl hl.1 rfl (Nat.le_of_ble_eq_true rfl) dX8_fillsGiving_201 ⟨Nat.zero_le _, Nat.zero_le _⟩) (fun H locs hR => ?_)
      refine lv_aload_n hx hb dX8_fillsGiving_204 rfl (lv_at hl 0 rfl) ?_
      obtain ⟨t_26, ht_27, kht_27, hf⟩ := z_r_e hf
      refine r_gd X hR fr_8_19 kh_49 ht_27 dX8_fillsGiving_205 ?_
      refine lv_dup hx hb dX8_fillsGiving_208 rfl ?_
      refine r_gi X hR fi_8_104 kht_27 dX8_fillsGiving_209 ?_
      refine lv_iconst (v := (1 : Int32)) hx hb dX8_fillsGiving_212 (by decide) ?_
      refine lv_iadd hx hb dX8_fillsGiving_213 ?_
      refine r_pi X hR pi_8_104 kht_27 dX8_fillsGiving_214 (fun H locs σ_28 eσ_28 hR => ?_)
      replace hf := z_l_e eσ_28 hf
      refine lv_iconst (v := (1 : Int32)) hx hb dX8_fillsGiving_217 (by decide) ?_
      exact e_z X hR hr hlk rfl hf dX8_fillsGiving_218
    · replace hf := z_f c_18 hf
      refine lv_iconst (v := (0 : Int32)) hx hb dX8_fillsGiving_177 (by decide) ?_
      exact e_z X hR hr hlk rfl hf dX8_fillsGiving_178
set_option maxHeartbeats 4000000 in
set_option maxRecDepth 100000 in
theorem w8_fillsGiving_142 (X : Cx p s m args c cX8_fillsGiving 8 RX8 G) (hr : meth.sig.returnType = some .boolean) (hlk : meth.locks = false) (N : Nat) {x1 : Int32} {x2 : Int32} {x3 : Int32} {x4 : Int32} {k66 : Int32 → Int32 → Mm → Option (Int32 × Mm)} (hk66 : ∀ (x5 : Int32) (x6 : Int32) (σ : Mm) (H : Heap) (locs : List Loc) (ls : Array Slot), k66 x5 x6 σ = some (r0, σ0) → Rp G 212 tt σ s H locs → lv_has ls 8 [(0, .ref (G.2.2 + 49)), (1, .int x1), (2, .int x2), (3, .int x3), (4, .int x4), (5, .int x5), (6, .int x6)] → W p l e rm8_fillsGiving s m args below meth c H locs 0 0 (MQ below (P_i G 212 tt r0 σ0) args s 0 0 (Fr G)) (F0 m 66 ls [])) :
    ∀ (x5 : Int32) (x6 : Int32) (x7 : Int32) (σ : Mm) (H : Heap) (locs : List Loc) (ls : Array Slot), f8_fillsGiving_142 N k66 x1 x2 x3 x4 x5 x6 x7 σ = some (r0, σ0) → Rp G 212 tt σ s H locs → lv_has ls 8 [(0, .ref (G.2.2 + 49)), (1, .int x1), (2, .int x2), (3, .int x3), (4, .int x4), (5, .int x5), (6, .int x6), (7, .int x7)] → W p l e rm8_fillsGiving s m args below meth c H locs 0 0 (MQ below (P_i G 212 tt r0 σ0) args s 0 0 (Fr G)) (F0 m 142 ls []) := by
  have hx := X.1
  have hb := X.2.1
  intro x5 x6 x7 σ H locs ls hf hR hl
  unfold f8_fillsGiving_142 at hf
  refine lv_iload hx hb dX8_fillsGiving_142 (lv_at hl 5 rfl) ?_
  refine lv_iload hx hb dX8_fillsGiving_144 (lv_at hl 7 rfl) ?_
  refine lv_ior hx hb dX8_fillsGiving_146 ?_
  refine lv_topi (fun x5_39 ex5_39 => ?_)
  replace hf := z_l_e ex5_39 hf
  refine lv_istore (lv' := [(5, .int x5_39), (0, .ref (G.2.2 + 49)), (1, .int x1), (2, .int x2), (3, .int x3), (4, .int x4), (6, .int x6), (7, .int x7)]) hx hb dX8_fillsGiving_147 hl (by decide) rfl (fun ls hl => ?_)
  obtain ⟨x6_40, ex6_40⟩ : ∃ z : Int32, z = x6 + (1 : Int32) := ⟨_, rfl⟩
  replace hf := z_l_e ex6_40 hf
  refine lv_iinc (v := x6_40) (lv' := [(6, .int x6_40), (5, .int x5_39), (0, .ref (G.2.2 + 49)), (1, .int x1), (2, .int x2), (3, .int x3), (4, .int x4), (7, .int x7)]) hx hb dX8_fillsGiving_149 hl (k := 6) rfl (by rw [ex6_40]; rfl) (by decide) rfl (fun ls hl => ?_)
  refine lv_goto (tgt := 66) hx hb dX8_fillsGiving_152 (by decide) ?_
  exact hk66 x5_39 x6_40 σ _ _ _ hf hR (lv_sub hl [2, 3, 4, 5, 6, 1, 0] rfl)
set_option maxHeartbeats 4000000 in
set_option maxRecDepth 100000 in
theorem w8_fillsGiving_127 (X : Cx p s m args c cX8_fillsGiving 8 RX8 G) (hr : meth.sig.returnType = some .boolean) (hlk : meth.locks = false) (N : Nat) :
    ∀ (σ : Mm) (H : Heap) (locs : List Loc) (ls : Array Slot), f8_fillsGiving_127 N σ = some (r0, σ0) → Rp G 212 tt σ s H locs → lv_has ls 8 [(0, .ref (G.2.2 + 49))] → W p l e rm8_fillsGiving s m args below meth c H locs 0 0 (MQ below (P_i G 212 tt r0 σ0) args s 0 0 (Fr G)) (F0 m 127 ls []) := by
  have hx := X.1
  have hb := X.2.1
  intro σ H locs ls hf hR hl
  unfold f8_fillsGiving_127 at hf
  refine lv_aload_n hx hb dX8_fillsGiving_127 rfl (lv_at hl 0 rfl) ?_
  refine r_gs (t := 2) X hR fr_8_15 kh_49 (sx_8_0 kh_49) dX8_fillsGiving_128 ?_
  refine lv_iconst (v := (3 : Int32)) hx hb dX8_fillsGiving_131 (by decide) ?_
  refine lv_aload_n hx hb dX8_fillsGiving_132 rfl (lv_at hl 0 rfl) ?_
  refine r_gi X hR fi_8_9 kh_49 dX8_fillsGiving_133 ?_
  refine lv_iconst (v := (1 : Int32)) hx hb dX8_fillsGiving_136 (by decide) ?_
  refine lv_isub hx hb dX8_fillsGiving_137 ?_
  obtain ⟨r_42, σ_43, hc_44, hf⟩ := z_b_e hf
  refine go_i hR (mv_run (As := [.int (3 : Int32), .int ((gI σ 49 2) - (1 : Int32))]) (rest := []) X hR mv_8_101 kh_2 (kd_lt kh_2 (by decide)) (c9_refuse l G N hc_44) ⟨rfl, rfl, Nat.le_of_ble_eq_true rfl, Nat.le_of_ble_eq_true rfl⟩ rfl hl.1 rfl (Nat.le_of_ble_eq_true rfl) dX8_fillsGiving_138 ⟨Nat.zero_le _, Nat.zero_le _⟩) (fun H locs hR => ?_)
  obtain ⟨hz_45, hf⟩ := z_c_e hf
  exact e_z X hR hr hlk hz_45 hf dX8_fillsGiving_141
set_option maxHeartbeats 4000000 in
set_option maxRecDepth 100000 in
theorem w8_fillsGiving_66 (X : Cx p s m args c cX8_fillsGiving 8 RX8 G) (hr : meth.sig.returnType = some .boolean) (hlk : meth.locks = false) (N : Nat) {x1 : Int32} {x2 : Int32} {x3 : Int32} {x4 : Int32} :
    ∀ (fu : Nat) (x5 : Int32) (x6 : Int32) (σ : Mm) (H : Heap) (locs : List Loc) (ls : Array Slot), f8_fillsGiving_66 N x1 x2 x3 x4 fu x5 x6 σ = some (r0, σ0) → Rp G 212 tt σ s H locs → lv_has ls 8 [(0, .ref (G.2.2 + 49)), (1, .int x1), (2, .int x2), (3, .int x3), (4, .int x4), (5, .int x5), (6, .int x6)] → W p l e rm8_fillsGiving s m args below meth c H locs 0 0 (MQ below (P_i G 212 tt r0 σ0) args s 0 0 (Fr G)) (F0 m 66 ls []) := by
  have hx := X.1
  have hb := X.2.1
  intro fu
  induction fu with
  | zero =>
    intro x5 x6 σ H locs ls hf hR hl
    rw [f8_fillsGiving_66] at hf
    cases hf
  | succ fu ih =>
    intro x5 x6 σ H locs ls hf hR hl
    rw [f8_fillsGiving_66] at hf
    refine lv_iload hx hb dX8_fillsGiving_66 (lv_at hl 6 rfl) ?_
    refine lv_sipush (v := (400 : Int32)) hx hb dX8_fillsGiving_68 (by decide) ?_
    refine lv_icmp_gt (tgt := 155) hx hb dX8_fillsGiving_71 (by decide) (fun c_14 => ?_) (fun c_14 => ?_)
    · replace hf := z_t c_14 hf
      exact w8_fillsGiving_155 X hr hlk N  x1 x2 x3 x4 x5 σ _ _ _ hf hR (lv_sub hl [0, 1, 2, 3, 4, 5] rfl)
    · replace hf := z_f c_14 hf
      refine lv_aload_n hx hb dX8_fillsGiving_74 rfl (lv_at hl 0 rfl) ?_
      refine r_gs (t := 2) X hR fr_8_15 kh_49 (sx_8_0 kh_49) dX8_fillsGiving_75 ?_
      refine r_gi X hR fi_8_58 kh_2 dX8_fillsGiving_78 ?_
      refine lv_if_ne (tgt := 155) hx hb dX8_fillsGiving_81 (by decide) (fun c_29 => ?_) (fun c_29 => ?_)
      · replace hf := z_f c_29 hf
        exact w8_fillsGiving_155 X hr hlk N  x1 x2 x3 x4 x5 σ _ _ _ hf hR (lv_sub hl [0, 1, 2, 3, 4, 5] rfl)
      · replace hf := z_t c_29 hf
        refine lv_aload_n hx hb dX8_fillsGiving_84 rfl (lv_at hl 0 rfl) ?_
        refine r_gs (t := 2) X hR fr_8_15 kh_49 (sx_8_0 kh_49) dX8_fillsGiving_85 ?_
        refine lv_aload_n hx hb dX8_fillsGiving_88 rfl (lv_at hl 0 rfl) ?_
        refine r_gi X hR fi_8_9 kh_49 dX8_fillsGiving_89 ?_
        obtain ⟨r_30, σ_31, hc_32, hf⟩ := z_b_e hf
        refine go_i hR (mv_run (As := [.int (gI σ 49 2)]) (rest := []) X hR mv_8_23 kh_2 (kd_lt kh_2 (by decide)) (c9_kindAt l G N hc_32) ⟨rfl, rfl, Nat.le_of_ble_eq_true rfl, Nat.le_of_ble_eq_true rfl⟩ rfl hl.1 rfl (Nat.le_of_ble_eq_true rfl) dX8_fillsGiving_92 ⟨Nat.zero_le _, Nat.zero_le _⟩) (fun H locs hR => ?_)
        refine lv_iconst (v := (2 : Int32)) hx hb dX8_fillsGiving_95 (by decide) ?_
        refine lv_icmp_ne (tgt := 155) hx hb dX8_fillsGiving_96 (by decide) (fun c_33 => ?_) (fun c_33 => ?_)
        · replace hf := z_f c_33 hf
          exact w8_fillsGiving_155 X hr hlk N  x1 x2 x3 x4 x5 σ_31 _ _ _ hf hR (lv_sub hl [0, 1, 2, 3, 4, 5] rfl)
        · replace hf := z_t c_33 hf
          refine lv_iconst (v := (1 : Int32)) hx hb dX8_fillsGiving_99 (by decide) ?_
          refine lv_aload_n hx hb dX8_fillsGiving_100 rfl (lv_at hl 0 rfl) ?_
          refine lv_bipush (v := (15 : Int32)) hx hb dX8_fillsGiving_101 (by decide) ?_
          obtain ⟨r_34, σ_35, hc_36, hf⟩ := z_b_e hf
          refine go_i hR (mv_run (As := [.int (15 : Int32)]) (rest := [.int (1 : Int32)]) X hR mv_8_89 kh_49 (kd_lt kh_49 (by decide)) (c8_takeKnown l G N hc_36) ⟨rfl, rfl, Nat.le_of_ble_eq_true rfl, Nat.le_of_ble_eq_true rfl⟩ rfl hl.1 rfl (Nat.le_of_ble_eq_true rfl) dX8_fillsGiving_103 ⟨Nat.zero_le _, Nat.zero_le _⟩) (fun H locs hR => ?_)
          refine lv_ishl hx hb dX8_fillsGiving_106 ?_
          refine lv_topi (fun x7_37 ex7_37 => ?_)
          replace hf := z_l_e ex7_37 hf
          refine lv_istore (lv' := [(7, .int x7_37), (0, .ref (G.2.2 + 49)), (1, .int x1), (2, .int x2), (3, .int x3), (4, .int x4), (5, .int x5), (6, .int x6)]) hx hb dX8_fillsGiving_107 hl (by decide) rfl (fun ls hl => ?_)
          refine lv_aload_n hx hb dX8_fillsGiving_109 rfl (lv_at hl 1 rfl) ?_
          refine r_gs (t := 2) X hR fr_8_15 kh_49 (sx_8_0 kh_49) dX8_fillsGiving_110 ?_
          refine r_gi X hR fi_8_58 kh_2 dX8_fillsGiving_113 ?_
          refine lv_if_ne (tgt := 142) hx hb dX8_fillsGiving_116 (by decide) (fun c_38 => ?_) (fun c_38 => ?_)
          · replace hf := z_f c_38 hf
            exact w8_fillsGiving_142 X hr hlk N ih x5 x6 x7_37 σ_35 _ _ _ hf hR (lv_sub hl [1, 2, 3, 4, 5, 6, 7, 0] rfl)
          · replace hf := z_t c_38 hf
            refine lv_iload hx hb dX8_fillsGiving_119 (lv_at hl 6 rfl) ?_
            refine lv_iload hx hb dX8_fillsGiving_121 (lv_at hl 0 rfl) ?_
            refine lv_iand hx hb dX8_fillsGiving_123 ?_
            refine lv_if_eq (tgt := 142) hx hb dX8_fillsGiving_124 (by decide) (fun c_41 => ?_) (fun c_41 => ?_)
            · replace hf := z_t c_41 hf
              exact w8_fillsGiving_142 X hr hlk N ih x5 x6 x7_37 σ_35 _ _ _ hf hR (lv_sub hl [1, 2, 3, 4, 5, 6, 7, 0] rfl)
            · replace hf := z_f c_41 hf
              exact w8_fillsGiving_127 X hr hlk N   σ_35 _ _ _ hf hR (lv_sub hl [1] rfl)
set_option maxHeartbeats 4000000 in
set_option maxRecDepth 100000 in
theorem w8_fillsGiving_51 (X : Cx p s m args c cX8_fillsGiving 8 RX8 G) (hr : meth.sig.returnType = some .boolean) (hlk : meth.locks = false) (N : Nat) :
    ∀ (x1 : Int32) (x2 : Int32) (x3 : Int32) (σ : Mm) (H : Heap) (locs : List Loc) (ls : Array Slot), f8_fillsGiving_51 N x1 x2 x3 σ = some (r0, σ0) → Rp G 212 tt σ s H locs → lv_has ls 8 [(0, .ref (G.2.2 + 49)), (1, .int x1), (2, .int x2), (3, .int x3)] → W p l e rm8_fillsGiving s m args below meth c H locs 0 0 (MQ below (P_i G 212 tt r0 σ0) args s 0 0 (Fr G)) (F0 m 51 ls []) := by
  have hx := X.1
  have hb := X.2.1
  intro x1 x2 x3 σ H locs ls hf hR hl
  unfold f8_fillsGiving_51 at hf
  refine lv_aload_n hx hb dX8_fillsGiving_51 rfl (lv_at hl 0 rfl) ?_
  refine lv_iconst (v := (0 : Int32)) hx hb dX8_fillsGiving_52 (by decide) ?_
  refine lv_bipush (v := (99 : Int32)) hx hb dX8_fillsGiving_53 (by decide) ?_
  obtain ⟨r_11, σ_12, hc_13, hf⟩ := z_b_e hf
  refine go_i hR (mv_run (As := [.int (0 : Int32), .int (99 : Int32)]) (rest := []) X hR mv_8_49 kh_49 (kd_lt kh_49 (by decide)) (c8_takeNumber l G N hc_13) ⟨rfl, rfl, Nat.le_of_ble_eq_true rfl, Nat.le_of_ble_eq_true rfl⟩ rfl hl.1 rfl (Nat.le_of_ble_eq_true rfl) dX8_fillsGiving_55 ⟨Nat.zero_le _, Nat.zero_le _⟩) (fun H locs hR => ?_)
  refine lv_istore (lv' := [(4, .int r_11), (0, .ref (G.2.2 + 49)), (1, .int x1), (2, .int x2), (3, .int x3)]) hx hb dX8_fillsGiving_58 hl (by decide) rfl (fun ls hl => ?_)
  refine lv_iconst (v := (0 : Int32)) hx hb dX8_fillsGiving_60 (by decide) ?_
  refine lv_istore (lv' := [(5, .int (0 : Int32)), (4, .int r_11), (0, .ref (G.2.2 + 49)), (1, .int x1), (2, .int x2), (3, .int x3)]) hx hb dX8_fillsGiving_61 hl (by decide) rfl (fun ls hl => ?_)
  refine lv_iconst (v := (0 : Int32)) hx hb dX8_fillsGiving_63 (by decide) ?_
  refine lv_istore (lv' := [(6, .int (0 : Int32)), (5, .int (0 : Int32)), (4, .int r_11), (0, .ref (G.2.2 + 49)), (1, .int x1), (2, .int x2), (3, .int x3)]) hx hb dX8_fillsGiving_64 hl (by decide) rfl (fun ls hl => ?_)
  exact w8_fillsGiving_66 X hr hlk N  N (0 : Int32) (0 : Int32) σ_12 _ _ _ hf hR (lv_sub hl [3, 4, 5, 6, 2, 1, 0] rfl)
set_option maxHeartbeats 4000000 in
set_option maxRecDepth 100000 in
theorem c8_fillsGiving (l : Launch) (G : Gp) (N : Nat) {σ σ0 : Mm} {r0 : Int32} (hf : f8_fillsGiving N σ = some (r0, σ0)) : Met l yX8_fillsGiving (WS yX8_fillsGiving cX8_fillsGiving 8 (some .boolean)) rm8_fillsGiving (va_Pc [.ref (G.2.2 + 49)] (Pd G 212 tt σ)) (P_i G 212 tt r0 σ0) 0 0 (Fr G) := by
  refine ct [(0, .ref (G.2.2 + 49))] rfl (by decide) (Nat.le_of_ble_eq_true rfl) ?_
  intro p e s m below meth c ls X hr hlk hR hl
  have X : Cx p s m _ c cX8_fillsGiving 8 RX8 G := X
  have hx := X.1
  have hb := X.2.1
  unfold f8_fillsGiving at hf
  refine lv_aload_n hx hb dX8_fillsGiving_0 rfl (lv_at hl 0 rfl) ?_
  refine lv_bipush (v := (14 : Int32)) hx hb dX8_fillsGiving_1 (by decide) ?_
  obtain ⟨r_1, σ_2, hc_3, hf⟩ := z_b_e hf
  refine go_i hR (mv_run (As := [.int (14 : Int32)]) (rest := []) X hR mv_8_89 kh_49 (kd_lt kh_49 (by decide)) (c8_takeKnown l G N hc_3) ⟨rfl, rfl, Nat.le_of_ble_eq_true rfl, Nat.le_of_ble_eq_true rfl⟩ rfl hl.1 rfl (Nat.le_of_ble_eq_true rfl) dX8_fillsGiving_3 ⟨Nat.zero_le _, Nat.zero_le _⟩) (fun H locs hR => ?_)
  refine lv_istore_n (lv' := [(1, .int r_1), (0, .ref (G.2.2 + 49))]) hx hb dX8_fillsGiving_6 rfl hl (by decide) rfl (fun ls hl => ?_)
  refine lv_aload_n hx hb dX8_fillsGiving_7 rfl (lv_at hl 1 rfl) ?_
  refine lv_bipush (v := (13 : Int32)) hx hb dX8_fillsGiving_8 (by decide) ?_
  obtain ⟨r_4, σ_5, hc_6, hf⟩ := z_b_e hf
  refine go_i hR (mv_run (As := [.int (13 : Int32)]) (rest := []) X hR mv_8_89 kh_49 (kd_lt kh_49 (by decide)) (c8_takeKnown l G N hc_6) ⟨rfl, rfl, Nat.le_of_ble_eq_true rfl, Nat.le_of_ble_eq_true rfl⟩ rfl hl.1 rfl (Nat.le_of_ble_eq_true rfl) dX8_fillsGiving_10 ⟨Nat.zero_le _, Nat.zero_le _⟩) (fun H locs hR => ?_)
  refine lv_istore_n (lv' := [(2, .int r_4), (1, .int r_1), (0, .ref (G.2.2 + 49))]) hx hb dX8_fillsGiving_13 rfl hl (by decide) rfl (fun ls hl => ?_)
  refine lv_aload_n hx hb dX8_fillsGiving_14 rfl (lv_at hl 2 rfl) ?_
  refine lv_bipush (v := (13 : Int32)) hx hb dX8_fillsGiving_15 (by decide) ?_
  obtain ⟨r_7, σ_8, hc_9, hf⟩ := z_b_e hf
  refine go_i hR (mv_run (As := [.int (13 : Int32)]) (rest := []) X hR mv_8_89 kh_49 (kd_lt kh_49 (by decide)) (c8_takeKnown l G N hc_9) ⟨rfl, rfl, Nat.le_of_ble_eq_true rfl, Nat.le_of_ble_eq_true rfl⟩ rfl hl.1 rfl (Nat.le_of_ble_eq_true rfl) dX8_fillsGiving_17 ⟨Nat.zero_le _, Nat.zero_le _⟩) (fun H locs hR => ?_)
  refine lv_istore_n (lv' := [(3, .int r_7), (2, .int r_4), (1, .int r_1), (0, .ref (G.2.2 + 49))]) hx hb dX8_fillsGiving_20 rfl hl (by decide) rfl (fun ls hl => ?_)
  refine lv_aload_n hx hb dX8_fillsGiving_21 rfl (lv_at hl 3 rfl) ?_
  refine r_gs (t := 2) X hR fr_8_15 kh_49 (sx_8_0 kh_49) dX8_fillsGiving_22 ?_
  refine r_gi X hR fi_8_58 kh_2 dX8_fillsGiving_25 ?_
  refine lv_if_ne (tgt := 51) hx hb dX8_fillsGiving_28 (by decide) (fun c_10 => ?_) (fun c_10 => ?_)
  · replace hf := z_f c_10 hf
    exact w8_fillsGiving_51 X hr hlk N  r_1 r_4 r_7 σ_8 _ _ _ hf hR (lv_sub hl [3, 2, 1, 0] rfl)
  · replace hf := z_t c_10 hf
    refine lv_iload_n hx hb dX8_fillsGiving_31 rfl (lv_at hl 1 rfl) ?_
    refine lv_iload_n hx hb dX8_fillsGiving_32 rfl (lv_at hl 0 rfl) ?_
    refine lv_icmp_ne (tgt := 51) hx hb dX8_fillsGiving_33 (by decide) (fun c_46 => ?_) (fun c_46 => ?_)
    · replace hf := z_f c_46 hf
      exact w8_fillsGiving_51 X hr hlk N  r_1 r_4 r_7 σ_8 _ _ _ hf hR (lv_sub hl [3, 2, 1, 0] rfl)
    · replace hf := z_t c_46 hf
      refine lv_aload_n hx hb dX8_fillsGiving_36 rfl (lv_at hl 3 rfl) ?_
      refine r_gs (t := 2) X hR fr_8_15 kh_49 (sx_8_0 kh_49) dX8_fillsGiving_37 ?_
      refine lv_iconst (v := (3 : Int32)) hx hb dX8_fillsGiving_40 (by decide) ?_
      refine lv_aload_n hx hb dX8_fillsGiving_41 rfl (lv_at hl 3 rfl) ?_
      refine r_gi X hR fi_8_9 kh_49 dX8_fillsGiving_42 ?_
      refine lv_iconst (v := (1 : Int32)) hx hb dX8_fillsGiving_45 (by decide) ?_
      refine lv_isub hx hb dX8_fillsGiving_46 ?_
      obtain ⟨r_47, σ_48, hc_49, hf⟩ := z_b_e hf
      refine go_i hR (mv_run (As := [.int (3 : Int32), .int ((gI σ_8 49 2) - (1 : Int32))]) (rest := []) X hR mv_8_101 kh_2 (kd_lt kh_2 (by decide)) (c9_refuse l G N hc_49) ⟨rfl, rfl, Nat.le_of_ble_eq_true rfl, Nat.le_of_ble_eq_true rfl⟩ rfl hl.1 rfl (Nat.le_of_ble_eq_true rfl) dX8_fillsGiving_47 ⟨Nat.zero_le _, Nat.zero_le _⟩) (fun H locs hR => ?_)
      obtain ⟨hz_50, hf⟩ := z_c_e hf
      exact e_z X hR hr hlk hz_50 hf dX8_fillsGiving_50
abbrev rm8_fillsOne : Room := { frames := 4, cells := 0, slots := 0, locals := 96 }
def f8_fillsOne (N : Nat) (x1 : Int32) (σ : Mm) : Option (Int32 × Mm) :=
  if x1 = (13 : Int32) then (
  z_b (f8_fillsPerson N σ) fun r_1 σ_2 =>
  z_c (isZ r_1) (some (r_1, σ_2))) else (
  if x1 = (14 : Int32) then (
  z_b (f8_fillsPlot N σ) fun r_6 σ_7 =>
  z_c (isZ r_6) (some (r_6, σ_7))) else (
  if x1 = (15 : Int32) then (
  z_b (f8_fillsWitness N σ) fun r_11 σ_12 =>
  z_c (isZ r_11) (some (r_11, σ_12))) else (
  if x1 = (16 : Int32) then (
  z_b (f8_fillsGiving N σ) fun r_16 σ_17 =>
  z_c (isZ r_16) (some (r_16, σ_17))) else (
  if x1 = (17 : Int32) then (
  some ((1 : Int32), σ)) else (
  if x1 = (18 : Int32) then (
  some ((1 : Int32), σ)) else (
  if x1 = (19 : Int32) then (
  some ((1 : Int32), σ)) else (
  if x1 = (20 : Int32) then (
  some ((1 : Int32), σ)) else (
  if x1 = (21 : Int32) then (
  z_r (gR σ 49 1) 3 fun t_25 =>
  z_b (f8_takeNumber N (1 : Int32) (4 : Int32) σ) fun r_27 σ_28 =>
  z_l (sI σ_28 t_25 4 r_27) fun σ_30 =>
  if (gI σ_30 2 4) = 0 then (
  some ((1 : Int32), σ_30)) else (
  some ((0 : Int32), σ_30))) else (
  if x1 = (22 : Int32) then (
  z_r (gR σ 49 1) 3 fun t_33 =>
  z_b (f8_takeNumber N (0 : Int32) (9999 : Int32) σ) fun r_35 σ_36 =>
  z_l (sI σ_36 t_33 5 r_35) fun σ_38 =>
  if (gI σ_38 2 4) = 0 then (
  some ((1 : Int32), σ_38)) else (
  some ((0 : Int32), σ_38))) else (
  some ((1 : Int32), σ)))))))))))
set_option maxHeartbeats 4000000 in
set_option maxRecDepth 100000 in
theorem c8_fillsOne (l : Launch) (G : Gp) (N : Nat) {x1 : Int32} {σ σ0 : Mm} {r0 : Int32} (hf : f8_fillsOne N x1 σ = some (r0, σ0)) : Met l yX8_fillsOne (WS yX8_fillsOne cX8_fillsOne 2 (some .boolean)) rm8_fillsOne (va_Pc [.ref (G.2.2 + 49), .int x1] (Pd G 212 tt σ)) (P_i G 212 tt r0 σ0) 0 0 (Fr G) := by
  refine ct [(0, .ref (G.2.2 + 49)), (1, .int x1)] rfl (by decide) (Nat.le_of_ble_eq_true rfl) ?_
  intro p e s m below meth c ls X hr hlk hR hl
  have X : Cx p s m _ c cX8_fillsOne 2 RX8 G := X
  have hx := X.1
  have hb := X.2.1
  unfold f8_fillsOne at hf
  refine lv_iload_n hx hb dX8_fillsOne_0 rfl (lv_at hl 1 rfl) ?_
  by_cases c_5 : x1 = (13 : Int32)
  · replace hf := z_t c_5 hf
    refine lv_tableIn (off := 55) (tgt := 56) hx hb dX8_fillsOne_1 (by rw [c_5]; decide) (by rw [c_5]; decide) (by rw [c_5]; rfl) (by decide) ?_
    refine lv_aload_n hx hb dX8_fillsOne_56 rfl (lv_at hl 0 rfl) ?_
    obtain ⟨r_1, σ_2, hc_3, hf⟩ := z_b_e hf
    refine go_i hR (mv_run (As := []) (rest := []) X hR mv_8_36 kh_49 (kd_lt kh_49 (by decide)) (c8_fillsPerson l G N hc_3) ⟨rfl, rfl, Nat.le_of_ble_eq_true rfl, Nat.le_of_ble_eq_true rfl⟩ rfl hl.1 rfl (Nat.le_of_ble_eq_true rfl) dX8_fillsOne_57 ⟨Nat.zero_le _, Nat.zero_le _⟩) (fun H locs hR => ?_)
    obtain ⟨hz_4, hf⟩ := z_c_e hf
    exact e_z X hR hr hlk hz_4 hf dX8_fillsOne_60
  replace hf := z_f c_5 hf
  by_cases c_10 : x1 = (14 : Int32)
  · replace hf := z_t c_10 hf
    refine lv_tableIn (off := 60) (tgt := 61) hx hb dX8_fillsOne_1 (by rw [c_10]; decide) (by rw [c_10]; decide) (by rw [c_10]; rfl) (by decide) ?_
    refine lv_aload_n hx hb dX8_fillsOne_61 rfl (lv_at hl 0 rfl) ?_
    obtain ⟨r_6, σ_7, hc_8, hf⟩ := z_b_e hf
    refine go_i hR (mv_run (As := []) (rest := []) X hR mv_8_40 kh_49 (kd_lt kh_49 (by decide)) (c8_fillsPlot l G N hc_8) ⟨rfl, rfl, Nat.le_of_ble_eq_true rfl, Nat.le_of_ble_eq_true rfl⟩ rfl hl.1 rfl (Nat.le_of_ble_eq_true rfl) dX8_fillsOne_62 ⟨Nat.zero_le _, Nat.zero_le _⟩) (fun H locs hR => ?_)
    obtain ⟨hz_9, hf⟩ := z_c_e hf
    exact e_z X hR hr hlk hz_9 hf dX8_fillsOne_65
  replace hf := z_f c_10 hf
  by_cases c_15 : x1 = (15 : Int32)
  · replace hf := z_t c_15 hf
    refine lv_tableIn (off := 65) (tgt := 66) hx hb dX8_fillsOne_1 (by rw [c_15]; decide) (by rw [c_15]; decide) (by rw [c_15]; rfl) (by decide) ?_
    refine lv_aload_n hx hb dX8_fillsOne_66 rfl (lv_at hl 0 rfl) ?_
    obtain ⟨r_11, σ_12, hc_13, hf⟩ := z_b_e hf
    refine go_i hR (mv_run (As := []) (rest := []) X hR mv_8_43 kh_49 (kd_lt kh_49 (by decide)) (c8_fillsWitness l G N hc_13) ⟨rfl, rfl, Nat.le_of_ble_eq_true rfl, Nat.le_of_ble_eq_true rfl⟩ rfl hl.1 rfl (Nat.le_of_ble_eq_true rfl) dX8_fillsOne_67 ⟨Nat.zero_le _, Nat.zero_le _⟩) (fun H locs hR => ?_)
    obtain ⟨hz_14, hf⟩ := z_c_e hf
    exact e_z X hR hr hlk hz_14 hf dX8_fillsOne_70
  replace hf := z_f c_15 hf
  by_cases c_20 : x1 = (16 : Int32)
  · replace hf := z_t c_20 hf
    refine lv_tableIn (off := 70) (tgt := 71) hx hb dX8_fillsOne_1 (by rw [c_20]; decide) (by rw [c_20]; decide) (by rw [c_20]; rfl) (by decide) ?_
    refine lv_aload_n hx hb dX8_fillsOne_71 rfl (lv_at hl 0 rfl) ?_
    obtain ⟨r_16, σ_17, hc_18, hf⟩ := z_b_e hf
    refine go_i hR (mv_run (As := []) (rest := []) X hR mv_8_46 kh_49 (kd_lt kh_49 (by decide)) (c8_fillsGiving l G N hc_18) ⟨rfl, rfl, Nat.le_of_ble_eq_true rfl, Nat.le_of_ble_eq_true rfl⟩ rfl hl.1 rfl (Nat.le_of_ble_eq_true rfl) dX8_fillsOne_72 ⟨Nat.zero_le _, Nat.zero_le _⟩) (fun H locs hR => ?_)
    obtain ⟨hz_19, hf⟩ := z_c_e hf
    exact e_z X hR hr hlk hz_19 hf dX8_fillsOne_75
  replace hf := z_f c_20 hf
  by_cases c_21 : x1 = (17 : Int32)
  · replace hf := z_t c_21 hf
    refine lv_tableIn (off := 135) (tgt := 136) hx hb dX8_fillsOne_1 (by rw [c_21]; decide) (by rw [c_21]; decide) (by rw [c_21]; rfl) (by decide) ?_
    refine lv_iconst (v := (1 : Int32)) hx hb dX8_fillsOne_136 (by decide) ?_
    exact e_z X hR hr hlk rfl hf dX8_fillsOne_137
  replace hf := z_f c_21 hf
  by_cases c_22 : x1 = (18 : Int32)
  · replace hf := z_t c_22 hf
    refine lv_tableIn (off := 135) (tgt := 136) hx hb dX8_fillsOne_1 (by rw [c_22]; decide) (by rw [c_22]; decide) (by rw [c_22]; rfl) (by decide) ?_
    refine lv_iconst (v := (1 : Int32)) hx hb dX8_fillsOne_136 (by decide) ?_
    exact e_z X hR hr hlk rfl hf dX8_fillsOne_137
  replace hf := z_f c_22 hf
  by_cases c_23 : x1 = (19 : Int32)
  · replace hf := z_t c_23 hf
    refine lv_tableIn (off := 135) (tgt := 136) hx hb dX8_fillsOne_1 (by rw [c_23]; decide) (by rw [c_23]; decide) (by rw [c_23]; rfl) (by decide) ?_
    refine lv_iconst (v := (1 : Int32)) hx hb dX8_fillsOne_136 (by decide) ?_
    exact e_z X hR hr hlk rfl hf dX8_fillsOne_137
  replace hf := z_f c_23 hf
  by_cases c_24 : x1 = (20 : Int32)
  · replace hf := z_t c_24 hf
    refine lv_tableIn (off := 135) (tgt := 136) hx hb dX8_fillsOne_1 (by rw [c_24]; decide) (by rw [c_24]; decide) (by rw [c_24]; rfl) (by decide) ?_
    refine lv_iconst (v := (1 : Int32)) hx hb dX8_fillsOne_136 (by decide) ?_
    exact e_z X hR hr hlk rfl hf dX8_fillsOne_137
  replace hf := z_f c_24 hf
  by_cases c_32 : x1 = (21 : Int32)
  · replace hf := z_t c_32 hf
    refine lv_tableIn (off := 75) (tgt := 76) hx hb dX8_fillsOne_1 (by rw [c_32]; decide) (by rw [c_32]; decide) (by rw [c_32]; rfl) (by decide) ?_
    refine lv_aload_n hx hb dX8_fillsOne_76 rfl (lv_at hl 0 rfl) ?_
    obtain ⟨t_25, ht_26, kht_26, hf⟩ := z_r_e hf
    refine r_gd X hR fr_8_19 kh_49 ht_26 dX8_fillsOne_77 ?_
    refine lv_aload_n hx hb dX8_fillsOne_80 rfl (lv_at hl 0 rfl) ?_
    refine lv_iconst (v := (1 : Int32)) hx hb dX8_fillsOne_81 (by decide) ?_
    refine lv_iconst (v := (4 : Int32)) hx hb dX8_fillsOne_82 (by decide) ?_
    obtain ⟨r_27, σ_28, hc_29, hf⟩ := z_b_e hf
    refine go_i hR (mv_run (As := [.int (1 : Int32), .int (4 : Int32)]) (rest := [.ref (G.2.2 + t_25)]) X hR mv_8_49 kh_49 (kd_lt kh_49 (by decide)) (c8_takeNumber l G N hc_29) ⟨rfl, rfl, Nat.le_of_ble_eq_true rfl, Nat.le_of_ble_eq_true rfl⟩ rfl hl.1 rfl (Nat.le_of_ble_eq_true rfl) dX8_fillsOne_83 ⟨Nat.zero_le _, Nat.zero_le _⟩) (fun H locs hR => ?_)
    refine r_pi X hR pi_8_53 kht_26 dX8_fillsOne_86 (fun H locs σ_30 eσ_30 hR => ?_)
    replace hf := z_l_e eσ_30 hf
    refine lv_aload_n hx hb dX8_fillsOne_89 rfl (lv_at hl 0 rfl) ?_
    refine r_gs (t := 2) X hR fr_8_15 kh_49 (sx_8_0 kh_49) dX8_fillsOne_90 ?_
    refine r_gi X hR fi_8_58 kh_2 dX8_fillsOne_93 ?_
    refine lv_if_ne (tgt := 103) hx hb dX8_fillsOne_96 (by decide) (fun c_31 => ?_) (fun c_31 => ?_)
    · replace hf := z_f c_31 hf
      refine lv_iconst (v := (0 : Int32)) hx hb dX8_fillsOne_103 (by decide) ?_
      exact e_z X hR hr hlk rfl hf dX8_fillsOne_104
    · replace hf := z_t c_31 hf
      refine lv_iconst (v := (1 : Int32)) hx hb dX8_fillsOne_99 (by decide) ?_
      refine lv_goto (tgt := 104) hx hb dX8_fillsOne_100 (by decide) ?_
      exact e_z X hR hr hlk rfl hf dX8_fillsOne_104
  replace hf := z_f c_32 hf
  by_cases c_40 : x1 = (22 : Int32)
  · replace hf := z_t c_40 hf
    refine lv_tableIn (off := 104) (tgt := 105) hx hb dX8_fillsOne_1 (by rw [c_40]; decide) (by rw [c_40]; decide) (by rw [c_40]; rfl) (by decide) ?_
    refine lv_aload_n hx hb dX8_fillsOne_105 rfl (lv_at hl 0 rfl) ?_
    obtain ⟨t_33, ht_34, kht_34, hf⟩ := z_r_e hf
    refine r_gd X hR fr_8_19 kh_49 ht_34 dX8_fillsOne_106 ?_
    refine lv_aload_n hx hb dX8_fillsOne_109 rfl (lv_at hl 0 rfl) ?_
    refine lv_iconst (v := (0 : Int32)) hx hb dX8_fillsOne_110 (by decide) ?_
    refine lv_sipush (v := (9999 : Int32)) hx hb dX8_fillsOne_111 (by decide) ?_
    obtain ⟨r_35, σ_36, hc_37, hf⟩ := z_b_e hf
    refine go_i hR (mv_run (As := [.int (0 : Int32), .int (9999 : Int32)]) (rest := [.ref (G.2.2 + t_33)]) X hR mv_8_49 kh_49 (kd_lt kh_49 (by decide)) (c8_takeNumber l G N hc_37) ⟨rfl, rfl, Nat.le_of_ble_eq_true rfl, Nat.le_of_ble_eq_true rfl⟩ rfl hl.1 rfl (Nat.le_of_ble_eq_true rfl) dX8_fillsOne_114 ⟨Nat.zero_le _, Nat.zero_le _⟩) (fun H locs hR => ?_)
    refine r_pi X hR pi_8_61 kht_34 dX8_fillsOne_117 (fun H locs σ_38 eσ_38 hR => ?_)
    replace hf := z_l_e eσ_38 hf
    refine lv_aload_n hx hb dX8_fillsOne_120 rfl (lv_at hl 0 rfl) ?_
    refine r_gs (t := 2) X hR fr_8_15 kh_49 (sx_8_0 kh_49) dX8_fillsOne_121 ?_
    refine r_gi X hR fi_8_58 kh_2 dX8_fillsOne_124 ?_
    refine lv_if_ne (tgt := 134) hx hb dX8_fillsOne_127 (by decide) (fun c_39 => ?_) (fun c_39 => ?_)
    · replace hf := z_f c_39 hf
      refine lv_iconst (v := (0 : Int32)) hx hb dX8_fillsOne_134 (by decide) ?_
      exact e_z X hR hr hlk rfl hf dX8_fillsOne_135
    · replace hf := z_t c_39 hf
      refine lv_iconst (v := (1 : Int32)) hx hb dX8_fillsOne_130 (by decide) ?_
      refine lv_goto (tgt := 135) hx hb dX8_fillsOne_131 (by decide) ?_
      exact e_z X hR hr hlk rfl hf dX8_fillsOne_135
  replace hf := z_f c_40 hf
  refine lv_tableOut (tgt := 136) hx hb dX8_fillsOne_1 (sw_out x1 13 10 (by decide) (by decide) (fun j hj => ?_)) (by decide) ?_
  · rcases (show j = 0 ∨ j = 1 ∨ j = 2 ∨ j = 3 ∨ j = 4 ∨ j = 5 ∨ j = 6 ∨ j = 7 ∨ j = 8 ∨ j = 9 by omega) with rfl | rfl | rfl | rfl | rfl | rfl | rfl | rfl | rfl | rfl
    · exact fun h => c_5 (h.trans (by decide))
    · exact fun h => c_10 (h.trans (by decide))
    · exact fun h => c_15 (h.trans (by decide))
    · exact fun h => c_20 (h.trans (by decide))
    · exact fun h => c_21 (h.trans (by decide))
    · exact fun h => c_22 (h.trans (by decide))
    · exact fun h => c_23 (h.trans (by decide))
    · exact fun h => c_24 (h.trans (by decide))
    · exact fun h => c_32 (h.trans (by decide))
    · exact fun h => c_40 (h.trans (by decide))
  · refine lv_iconst (v := (1 : Int32)) hx hb dX8_fillsOne_136 (by decide) ?_
    exact e_z X hR hr hlk rfl hf dX8_fillsOne_137
abbrev rm8_passSemicolon : Room := { frames := 1, cells := 0, slots := 0, locals := 21 }
def f8_passSemicolon_50 (N : Nat) (σ : Mm) : Option (Unit × Mm) :=
  z_l (sI σ 49 2 (mnI ((gI σ 49 2) + (1 : Int32)) (400 : Int32))) fun σ_2 =>
  some ((), σ_2)
def f8_passSemicolon_2 (N : Nat) : Nat → Int32 → Mm → Option (Unit × Mm)
  | 0, _, _ => none
  | fu + 1, x1, σ => if (400 : Int32) < x1 then (
  f8_passSemicolon_50 N σ) else (
  if (400 : Int32) ≤ (gI σ 49 2) then (
  f8_passSemicolon_50 N σ) else (
  z_b (f9_kindAt N (gI σ 49 2) σ) fun r_4 σ_5 =>
  if r_4 = (4 : Int32) then (
  f8_passSemicolon_50 N σ_5) else (
  z_l (sI σ_5 49 2 ((gI σ_5 49 2) + (1 : Int32))) fun σ_8 =>
  z_l (x1 + (1 : Int32)) fun x1_9 =>
  f8_passSemicolon_2 N fu x1_9 σ_8)))
def f8_passSemicolon (N : Nat) (σ : Mm) : Option (Unit × Mm) :=
  f8_passSemicolon_2 N N (0 : Int32) σ
set_option maxHeartbeats 4000000 in
set_option maxRecDepth 100000 in
theorem w8_passSemicolon_50 (X : Cx p s m args c cX8_passSemicolon 2 RX8 G) (hr : meth.sig.returnType = none) (hlk : meth.locks = false) (N : Nat) :
    ∀ (σ : Mm) (H : Heap) (locs : List Loc) (ls : Array Slot), f8_passSemicolon_50 N σ = some (u0, σ0) → Rp G 212 tt σ s H locs → lv_has ls 2 [(0, .ref (G.2.2 + 49))] → W p l e rm8_passSemicolon s m args below meth c H locs 0 0 (MQ below (P_v G 212 tt u0 σ0) args s 0 0 (Fr G)) (F0 m 50 ls []) := by
  have hx := X.1
  have hb := X.2.1
  intro σ H locs ls hf hR hl
  unfold f8_passSemicolon_50 at hf
  refine lv_aload_n hx hb dX8_passSemicolon_50 rfl (lv_at hl 0 rfl) ?_
  refine lv_aload_n hx hb dX8_passSemicolon_51 rfl (lv_at hl 0 rfl) ?_
  refine r_gi X hR fi_8_9 kh_49 dX8_passSemicolon_52 ?_
  refine lv_iconst (v := (1 : Int32)) hx hb dX8_passSemicolon_55 (by decide) ?_
  refine lv_iadd hx hb dX8_passSemicolon_56 ?_
  refine lv_sipush (v := (400 : Int32)) hx hb dX8_passSemicolon_57 (by decide) ?_
  refine va_mmin hx hb (X.2.2.1.trans hl.1.symm) X.2.2.2.1 (X.2.2.2.2.1 _ jl_8_64) (X.2.2.2.2.1 _ jm_min_s) (X.2.2.2.2.1 _ jm_ini) (X.2.2.2.2.1 _ jm_min_c) (Nat.le_of_ble_eq_true rfl) (Nat.le_of_ble_eq_true rfl) (Nat.zero_le _) (Nat.zero_le _) dX8_passSemicolon_60 ?_
  refine r_pi X hR pi_8_9 kh_49 dX8_passSemicolon_63 (fun H locs σ_2 eσ_2 hR => ?_)
  replace hf := z_l_e eσ_2 hf
  exact e_v X hR hr hlk hf dX8_passSemicolon_66
set_option maxHeartbeats 4000000 in
set_option maxRecDepth 100000 in
theorem w8_passSemicolon_2 (X : Cx p s m args c cX8_passSemicolon 2 RX8 G) (hr : meth.sig.returnType = none) (hlk : meth.locks = false) (N : Nat) :
    ∀ (fu : Nat) (x1 : Int32) (σ : Mm) (H : Heap) (locs : List Loc) (ls : Array Slot), f8_passSemicolon_2 N fu x1 σ = some (u0, σ0) → Rp G 212 tt σ s H locs → lv_has ls 2 [(0, .ref (G.2.2 + 49)), (1, .int x1)] → W p l e rm8_passSemicolon s m args below meth c H locs 0 0 (MQ below (P_v G 212 tt u0 σ0) args s 0 0 (Fr G)) (F0 m 2 ls []) := by
  have hx := X.1
  have hb := X.2.1
  intro fu
  induction fu with
  | zero =>
    intro x1 σ H locs ls hf hR hl
    rw [f8_passSemicolon_2] at hf
    cases hf
  | succ fu ih =>
    intro x1 σ H locs ls hf hR hl
    rw [f8_passSemicolon_2] at hf
    refine lv_iload_n hx hb dX8_passSemicolon_2 rfl (lv_at hl 1 rfl) ?_
    refine lv_sipush (v := (400 : Int32)) hx hb dX8_passSemicolon_3 (by decide) ?_
    refine lv_icmp_gt (tgt := 50) hx hb dX8_passSemicolon_6 (by decide) (fun c_1 => ?_) (fun c_1 => ?_)
    · replace hf := z_t c_1 hf
      exact w8_passSemicolon_50 X hr hlk N   σ _ _ _ hf hR (lv_sub hl [0] rfl)
    · replace hf := z_f c_1 hf
      refine lv_aload_n hx hb dX8_passSemicolon_9 rfl (lv_at hl 0 rfl) ?_
      refine r_gi X hR fi_8_9 kh_49 dX8_passSemicolon_10 ?_
      refine lv_sipush (v := (400 : Int32)) hx hb dX8_passSemicolon_13 (by decide) ?_
      refine lv_icmp_ge (tgt := 50) hx hb dX8_passSemicolon_16 (by decide) (fun c_3 => ?_) (fun c_3 => ?_)
      · replace hf := z_t c_3 hf
        exact w8_passSemicolon_50 X hr hlk N   σ _ _ _ hf hR (lv_sub hl [0] rfl)
      · replace hf := z_f c_3 hf
        refine lv_aload_n hx hb dX8_passSemicolon_19 rfl (lv_at hl 0 rfl) ?_
        refine r_gs (t := 2) X hR fr_8_15 kh_49 (sx_8_0 kh_49) dX8_passSemicolon_20 ?_
        refine lv_aload_n hx hb dX8_passSemicolon_23 rfl (lv_at hl 0 rfl) ?_
        refine r_gi X hR fi_8_9 kh_49 dX8_passSemicolon_24 ?_
        obtain ⟨r_4, σ_5, hc_6, hf⟩ := z_b_e hf
        refine go_i hR (mv_run (As := [.int (gI σ 49 2)]) (rest := []) X hR mv_8_23 kh_2 (kd_lt kh_2 (by decide)) (c9_kindAt l G N hc_6) ⟨rfl, rfl, Nat.le_of_ble_eq_true rfl, Nat.le_of_ble_eq_true rfl⟩ rfl hl.1 rfl (Nat.le_of_ble_eq_true rfl) dX8_passSemicolon_27 ⟨Nat.zero_le _, Nat.zero_le _⟩) (fun H locs hR => ?_)
        refine lv_iconst (v := (4 : Int32)) hx hb dX8_passSemicolon_30 (by decide) ?_
        refine lv_icmp_eq (tgt := 50) hx hb dX8_passSemicolon_31 (by decide) (fun c_7 => ?_) (fun c_7 => ?_)
        · replace hf := z_t c_7 hf
          exact w8_passSemicolon_50 X hr hlk N   σ_5 _ _ _ hf hR (lv_sub hl [0] rfl)
        · replace hf := z_f c_7 hf
          refine lv_aload_n hx hb dX8_passSemicolon_34 rfl (lv_at hl 0 rfl) ?_
          refine lv_dup hx hb dX8_passSemicolon_35 rfl ?_
          refine r_gi X hR fi_8_9 kh_49 dX8_passSemicolon_36 ?_
          refine lv_iconst (v := (1 : Int32)) hx hb dX8_passSemicolon_39 (by decide) ?_
          refine lv_iadd hx hb dX8_passSemicolon_40 ?_
          refine r_pi X hR pi_8_9 kh_49 dX8_passSemicolon_41 (fun H locs σ_8 eσ_8 hR => ?_)
          replace hf := z_l_e eσ_8 hf
          obtain ⟨x1_9, ex1_9⟩ : ∃ z : Int32, z = x1 + (1 : Int32) := ⟨_, rfl⟩
          replace hf := z_l_e ex1_9 hf
          refine lv_iinc (v := x1_9) (lv' := [(1, .int x1_9), (0, .ref (G.2.2 + 49))]) hx hb dX8_passSemicolon_44 hl (k := 1) rfl (by rw [ex1_9]; rfl) (by decide) rfl (fun ls hl => ?_)
          refine lv_goto (tgt := 2) hx hb dX8_passSemicolon_47 (by decide) ?_
          exact ih x1_9 σ_8 _ _ _ hf hR (lv_sub hl [1, 0] rfl)
set_option maxHeartbeats 4000000 in
set_option maxRecDepth 100000 in
theorem c8_passSemicolon (l : Launch) (G : Gp) (N : Nat) {σ σ0 : Mm} {u0 : Unit} (hf : f8_passSemicolon N σ = some (u0, σ0)) : Met l yX8_passSemicolon (WS yX8_passSemicolon cX8_passSemicolon 2 (none)) rm8_passSemicolon (va_Pc [.ref (G.2.2 + 49)] (Pd G 212 tt σ)) (P_v G 212 tt u0 σ0) 0 0 (Fr G) := by
  refine ct [(0, .ref (G.2.2 + 49))] rfl (by decide) (Nat.le_of_ble_eq_true rfl) ?_
  intro p e s m below meth c ls X hr hlk hR hl
  have X : Cx p s m _ c cX8_passSemicolon 2 RX8 G := X
  have hx := X.1
  have hb := X.2.1
  unfold f8_passSemicolon at hf
  refine lv_iconst (v := (0 : Int32)) hx hb dX8_passSemicolon_0 (by decide) ?_
  refine lv_istore_n (lv' := [(1, .int (0 : Int32)), (0, .ref (G.2.2 + 49))]) hx hb dX8_passSemicolon_1 rfl hl (by decide) rfl (fun ls hl => ?_)
  exact w8_passSemicolon_2 X hr hlk N  N (0 : Int32) σ _ _ _ hf hR (lv_sub hl [1, 0] rfl)
abbrev rm8_fills : Room := { frames := 5, cells := 0, slots := 0, locals := 117 }
def f8_fills_12 (N : Nat) (o1 : Nat) : Nat → Int32 → Mm → Option (Int32 × Mm)
  | 0, _, _ => none
  | fu + 1, x2, σ => if (400 : Int32) < x2 then (
  some ((1 : Int32), σ)) else (
  if (400 : Int32) ≤ (gI σ 49 2) then (
  some ((1 : Int32), σ)) else (
  z_b (f9_kindAt N (gI σ 49 2) σ) fun r_5 σ_6 =>
  if r_5 = 0 then (
  some ((1 : Int32), σ_6)) else (
  z_b (f9_kindAt N (gI σ_6 49 2) σ_6) fun r_9 σ_10 =>
  z_l (sI σ_10 49 2 ((gI σ_10 49 2) + (1 : Int32))) fun σ_12 =>
  z_b (f8_fillsOne N r_9 σ_12) fun r_13 σ_14 =>
  if r_13 = 0 then (
  some ((0 : Int32), σ_14)) else (
  z_b (f8_passSemicolon N σ_14) fun _ σ_18 =>
  z_l (x2 + (1 : Int32)) fun x2_20 =>
  f8_fills_12 N o1 fu x2_20 σ_18))))
def f8_fills (N : Nat) (o1 : Nat) (σ : Mm) : Option (Int32 × Mm) :=
  z_l (sR σ 49 1 (some o1)) fun σ_1 =>
  z_l (sI σ_1 49 2 (0 : Int32)) fun σ_2 =>
  f8_fills_12 N o1 N (0 : Int32) σ_2
set_option maxHeartbeats 4000000 in
set_option maxRecDepth 100000 in
theorem w8_fills_12 (X : Cx p s m args c cX8_fills 4 RX8 G) (hr : meth.sig.returnType = some .boolean) (hlk : meth.locks = false) (N : Nat) {o1 : Nat} (ho1 : (kd o1).1 = 3) :
    ∀ (fu : Nat) (x2 : Int32) (σ : Mm) (H : Heap) (locs : List Loc) (ls : Array Slot), f8_fills_12 N o1 fu x2 σ = some (r0, σ0) → Rp G 212 tt σ s H locs → lv_has ls 4 [(0, .ref (G.2.2 + 49)), (2, .int x2)] → W p l e rm8_fills s m args below meth c H locs 0 0 (MQ below (P_i G 212 tt r0 σ0) args s 0 0 (Fr G)) (F0 m 12 ls []) := by
  have hx := X.1
  have hb := X.2.1
  intro fu
  induction fu with
  | zero =>
    intro x2 σ H locs ls hf hR hl
    rw [f8_fills_12] at hf
    cases hf
  | succ fu ih =>
    intro x2 σ H locs ls hf hR hl
    rw [f8_fills_12] at hf
    refine lv_iload_n hx hb dX8_fills_12 rfl (lv_at hl 1 rfl) ?_
    refine lv_sipush (v := (400 : Int32)) hx hb dX8_fills_13 (by decide) ?_
    refine lv_icmp_gt (tgt := 85) hx hb dX8_fills_16 (by decide) (fun c_3 => ?_) (fun c_3 => ?_)
    · replace hf := z_t c_3 hf
      refine lv_iconst (v := (1 : Int32)) hx hb dX8_fills_85 (by decide) ?_
      exact e_z X hR hr hlk rfl hf dX8_fills_86
    · replace hf := z_f c_3 hf
      refine lv_aload_n hx hb dX8_fills_19 rfl (lv_at hl 0 rfl) ?_
      refine r_gi X hR fi_8_9 kh_49 dX8_fills_20 ?_
      refine lv_sipush (v := (400 : Int32)) hx hb dX8_fills_23 (by decide) ?_
      refine lv_icmp_ge (tgt := 85) hx hb dX8_fills_26 (by decide) (fun c_4 => ?_) (fun c_4 => ?_)
      · replace hf := z_t c_4 hf
        refine lv_iconst (v := (1 : Int32)) hx hb dX8_fills_85 (by decide) ?_
        exact e_z X hR hr hlk rfl hf dX8_fills_86
      · replace hf := z_f c_4 hf
        refine lv_aload_n hx hb dX8_fills_29 rfl (lv_at hl 0 rfl) ?_
        refine r_gs (t := 2) X hR fr_8_15 kh_49 (sx_8_0 kh_49) dX8_fills_30 ?_
        refine lv_aload_n hx hb dX8_fills_33 rfl (lv_at hl 0 rfl) ?_
        refine r_gi X hR fi_8_9 kh_49 dX8_fills_34 ?_
        obtain ⟨r_5, σ_6, hc_7, hf⟩ := z_b_e hf
        refine go_i hR (mv_run (As := [.int (gI σ 49 2)]) (rest := []) X hR mv_8_23 kh_2 (kd_lt kh_2 (by decide)) (c9_kindAt l G N hc_7) ⟨rfl, rfl, Nat.le_of_ble_eq_true rfl, Nat.le_of_ble_eq_true rfl⟩ rfl hl.1 rfl (Nat.le_of_ble_eq_true rfl) dX8_fills_37 ⟨Nat.zero_le _, Nat.zero_le _⟩) (fun H locs hR => ?_)
        refine lv_if_eq (tgt := 85) hx hb dX8_fills_40 (by decide) (fun c_8 => ?_) (fun c_8 => ?_)
        · replace hf := z_t c_8 hf
          refine lv_iconst (v := (1 : Int32)) hx hb dX8_fills_85 (by decide) ?_
          exact e_z X hR hr hlk rfl hf dX8_fills_86
        · replace hf := z_f c_8 hf
          refine lv_aload_n hx hb dX8_fills_43 rfl (lv_at hl 0 rfl) ?_
          refine r_gs (t := 2) X hR fr_8_15 kh_49 (sx_8_0 kh_49) dX8_fills_44 ?_
          refine lv_aload_n hx hb dX8_fills_47 rfl (lv_at hl 0 rfl) ?_
          refine r_gi X hR fi_8_9 kh_49 dX8_fills_48 ?_
          obtain ⟨r_9, σ_10, hc_11, hf⟩ := z_b_e hf
          refine go_i hR (mv_run (As := [.int (gI σ_6 49 2)]) (rest := []) X hR mv_8_23 kh_2 (kd_lt kh_2 (by decide)) (c9_kindAt l G N hc_11) ⟨rfl, rfl, Nat.le_of_ble_eq_true rfl, Nat.le_of_ble_eq_true rfl⟩ rfl hl.1 rfl (Nat.le_of_ble_eq_true rfl) dX8_fills_51 ⟨Nat.zero_le _, Nat.zero_le _⟩) (fun H locs hR => ?_)
          refine lv_istore_n (lv' := [(3, .int r_9), (0, .ref (G.2.2 + 49)), (2, .int x2)]) hx hb dX8_fills_54 rfl hl (by decide) rfl (fun ls hl => ?_)
          refine lv_aload_n hx hb dX8_fills_55 rfl (lv_at hl 1 rfl) ?_
          refine lv_dup hx hb dX8_fills_56 rfl ?_
          refine r_gi X hR fi_8_9 kh_49 dX8_fills_57 ?_
          refine lv_iconst (v := (1 : Int32)) hx hb dX8_fills_60 (by decide) ?_
          refine lv_iadd hx hb dX8_fills_61 ?_
          refine r_pi X hR pi_8_9 kh_49 dX8_fills_62 (fun H locs σ_12 eσ_12 hR => ?_)
          replace hf := z_l_e eσ_12 hf
          refine lv_aload_n hx hb dX8_fills_65 rfl (lv_at hl 1 rfl) ?_
          refine lv_iload_n hx hb dX8_fills_66 rfl (lv_at hl 0 rfl) ?_
          obtain ⟨r_13, σ_14, hc_15, hf⟩ := z_b_e hf
          refine go_i hR (mv_run (As := [.int r_9]) (rest := []) X hR mv_8_29 kh_49 (kd_lt kh_49 (by decide)) (c8_fillsOne l G N hc_15) ⟨rfl, rfl, Nat.le_of_ble_eq_true rfl, Nat.le_of_ble_eq_true rfl⟩ rfl hl.1 rfl (Nat.le_of_ble_eq_true rfl) dX8_fills_67 ⟨Nat.zero_le _, Nat.zero_le _⟩) (fun H locs hR => ?_)
          refine lv_if_ne (tgt := 75) hx hb dX8_fills_70 (by decide) (fun c_16 => ?_) (fun c_16 => ?_)
          · replace hf := z_f c_16 hf
            refine lv_aload_n hx hb dX8_fills_75 rfl (lv_at hl 1 rfl) ?_
            obtain ⟨r_17, σ_18, hc_19, hf⟩ := z_b_e hf
            refine go_v hR (mv_run (As := []) (rest := []) X hR mv_8_33 kh_49 (kd_lt kh_49 (by decide)) (c8_passSemicolon l G N hc_19) ⟨rfl, rfl, Nat.le_of_ble_eq_true rfl, Nat.le_of_ble_eq_true rfl⟩ rfl hl.1 rfl (Nat.le_of_ble_eq_true rfl) dX8_fills_76 ⟨Nat.zero_le _, Nat.zero_le _⟩) (fun H locs hR => ?_)
            obtain ⟨x2_20, ex2_20⟩ : ∃ z : Int32, z = x2 + (1 : Int32) := ⟨_, rfl⟩
            replace hf := z_l_e ex2_20 hf
            refine lv_iinc (v := x2_20) (lv' := [(2, .int x2_20), (3, .int r_9), (0, .ref (G.2.2 + 49))]) hx hb dX8_fills_79 hl (k := 2) rfl (by rw [ex2_20]; rfl) (by decide) rfl (fun ls hl => ?_)
            refine lv_goto (tgt := 12) hx hb dX8_fills_82 (by decide) ?_
            exact ih x2_20 σ_18 _ _ _ hf hR (lv_sub hl [2, 0] rfl)
          · replace hf := z_t c_16 hf
            refine lv_iconst (v := (0 : Int32)) hx hb dX8_fills_73 (by decide) ?_
            exact e_z X hR hr hlk rfl hf dX8_fills_74
set_option maxHeartbeats 4000000 in
set_option maxRecDepth 100000 in
theorem c8_fills (l : Launch) (G : Gp) (N : Nat) {o1 : Nat} (ho1 : (kd o1).1 = 3) {σ σ0 : Mm} {r0 : Int32} (hf : f8_fills N o1 σ = some (r0, σ0)) : Met l yX8_fills (WS yX8_fills cX8_fills 4 (some .boolean)) rm8_fills (va_Pc [.ref (G.2.2 + 49), .ref (G.2.2 + o1)] (Pd G 212 tt σ)) (P_i G 212 tt r0 σ0) 0 0 (Fr G) := by
  refine ct [(0, .ref (G.2.2 + 49)), (1, .ref (G.2.2 + o1))] rfl (by decide) (Nat.le_of_ble_eq_true rfl) ?_
  intro p e s m below meth c ls X hr hlk hR hl
  have X : Cx p s m _ c cX8_fills 4 RX8 G := X
  have hx := X.1
  have hb := X.2.1
  unfold f8_fills at hf
  refine lv_aload_n hx hb dX8_fills_0 rfl (lv_at hl 0 rfl) ?_
  refine lv_aload_n hx hb dX8_fills_1 rfl (lv_at hl 1 rfl) ?_
  refine r_pr X hR pr_8_19 kh_49 (sn_8_1 kh_49) dX8_fills_2 (fun H locs σ_1 eσ_1 hR => ?_)
  replace hf := z_l_e eσ_1 hf
  refine lv_aload_n hx hb dX8_fills_5 rfl (lv_at hl 0 rfl) ?_
  refine lv_iconst (v := (0 : Int32)) hx hb dX8_fills_6 (by decide) ?_
  refine r_pi X hR pi_8_9 kh_49 dX8_fills_7 (fun H locs σ_2 eσ_2 hR => ?_)
  replace hf := z_l_e eσ_2 hf
  refine lv_iconst (v := (0 : Int32)) hx hb dX8_fills_10 (by decide) ?_
  refine lv_istore_n (lv' := [(2, .int (0 : Int32)), (0, .ref (G.2.2 + 49)), (1, .ref (G.2.2 + o1))]) hx hb dX8_fills_11 rfl hl (by decide) rfl (fun ls hl => ?_)
  exact w8_fills_12 X hr hlk N ho1  N (0 : Int32) σ_2 _ _ _ hf hR (lv_sub hl [1, 0] rfl)
end GEN
