-- Integer.bitCount
theorem jb_265 : Cond.constant RJ6 265 (1431655765) ∈ lw_g := in_g (List.mem_of_getElem? (i := 884) (by decide +kernel)) rfl
theorem jb_266 : Cond.constant RJ6 266 (858993459) ∈ lw_g := in_g (List.mem_of_getElem? (i := 885) (by decide +kernel)) rfl
theorem jb_267 : Cond.constant RJ6 267 (252645135) ∈ lw_g := in_g (List.mem_of_getElem? (i := 886) (by decide +kernel)) rfl
def bitC (x0 : Int32) : Int32 :=
  z_l (x0 - (ush x0 1 &&& 1431655765)) fun x1 =>
  z_l ((x1 &&& 858993459) + (ush x1 2 &&& 858993459)) fun x2 =>
  z_l ((x2 + ush x2 4) &&& 252645135) fun x3 =>
  z_l (x3 + ush x3 8) fun x4 =>
  z_l (x4 + ush x4 16) fun x5 => x5 &&& 63
set_option maxHeartbeats 4000000 in
set_option maxRecDepth 100000 in
theorem cJ_bitC (l : Launch) (G : Gp) {x0 : Int32} {σ : Mm} : Met l yJ6_bitCount_0f7a4 (WS yJ6_bitCount_0f7a4 cJ6_bitCount_0f7a4 1 (some .int)) ({ frames := 0, cells := 0, slots := 0, locals := 0 } : Room) (va_Pc [.int x0] (Pd G 212 tt σ)) (P_i G 212 tt (bitC x0) σ) 0 0 (Fr G) := by
  refine ct [(0, .int x0)] rfl (by decide) (Nat.le_of_ble_eq_true rfl) ?_
  intro p e s m below meth c ls X hr hlk hR hl
  have X : Cx p s m _ c cJ6_bitCount_0f7a4 1 RJ6 G := X
  have hx := X.1
  have hb := X.2.1
  refine lv_iload_n hx hb dJ6_bitCount_0f7a4_0 rfl (lv_at hl 0 rfl) ?_
  refine lv_iload_n hx hb dJ6_bitCount_0f7a4_1 rfl (lv_at hl 0 rfl) ?_
  refine lv_iconst (v := 1) hx hb dJ6_bitCount_0f7a4_2 (by decide) ?_
  refine lv_iushr (v := ush x0 1) hx hb dJ6_bitCount_0f7a4_3 rfl ?_
  refine lv_ldcw hx hb X.2.2.2.1 (X.2.2.2.2.1 _ jb_265) dJ6_bitCount_0f7a4_4 ?_
  refine lv_iand hx hb dJ6_bitCount_0f7a4_7 ?_
  refine lv_isub hx hb dJ6_bitCount_0f7a4_8 ?_
  refine lv_topi (fun x1 e1 => ?_)
  refine lv_istore_n (lv' := [(0, .int x1)]) hx hb dJ6_bitCount_0f7a4_9 rfl hl (by decide) rfl (fun ls hl => ?_)
  refine lv_iload_n hx hb dJ6_bitCount_0f7a4_10 rfl (lv_at hl 0 rfl) ?_
  refine lv_ldcw hx hb X.2.2.2.1 (X.2.2.2.2.1 _ jb_266) dJ6_bitCount_0f7a4_11 ?_
  refine lv_iand hx hb dJ6_bitCount_0f7a4_14 ?_
  refine lv_iload_n hx hb dJ6_bitCount_0f7a4_15 rfl (lv_at hl 0 rfl) ?_
  refine lv_iconst (v := 2) hx hb dJ6_bitCount_0f7a4_16 (by decide) ?_
  refine lv_iushr (v := ush x1 2) hx hb dJ6_bitCount_0f7a4_17 rfl ?_
  refine lv_ldcw hx hb X.2.2.2.1 (X.2.2.2.2.1 _ jb_266) dJ6_bitCount_0f7a4_18 ?_
  refine lv_iand hx hb dJ6_bitCount_0f7a4_21 ?_
  refine lv_iadd hx hb dJ6_bitCount_0f7a4_22 ?_
  refine lv_topi (fun x2 e2 => ?_)
  refine lv_istore_n (lv' := [(0, .int x2)]) hx hb dJ6_bitCount_0f7a4_23 rfl hl (by decide) rfl (fun ls hl => ?_)
  refine lv_iload_n hx hb dJ6_bitCount_0f7a4_24 rfl (lv_at hl 0 rfl) ?_
  refine lv_iload_n hx hb dJ6_bitCount_0f7a4_25 rfl (lv_at hl 0 rfl) ?_
  refine lv_iconst (v := 4) hx hb dJ6_bitCount_0f7a4_26 (by decide) ?_
  refine lv_iushr (v := ush x2 4) hx hb dJ6_bitCount_0f7a4_27 rfl ?_
  refine lv_iadd hx hb dJ6_bitCount_0f7a4_28 ?_
  refine lv_ldcw hx hb X.2.2.2.1 (X.2.2.2.2.1 _ jb_267) dJ6_bitCount_0f7a4_29 ?_
  refine lv_iand hx hb dJ6_bitCount_0f7a4_32 ?_
  refine lv_topi (fun x3 e3 => ?_)
  refine lv_istore_n (lv' := [(0, .int x3)]) hx hb dJ6_bitCount_0f7a4_33 rfl hl (by decide) rfl (fun ls hl => ?_)
  refine lv_iload_n hx hb dJ6_bitCount_0f7a4_34 rfl (lv_at hl 0 rfl) ?_
  refine lv_iload_n hx hb dJ6_bitCount_0f7a4_35 rfl (lv_at hl 0 rfl) ?_
  refine lv_bipush (v := 8) hx hb dJ6_bitCount_0f7a4_36 (by decide) ?_
  refine lv_iushr (v := ush x3 8) hx hb dJ6_bitCount_0f7a4_38 rfl ?_
  refine lv_iadd hx hb dJ6_bitCount_0f7a4_39 ?_
  refine lv_topi (fun x4 e4 => ?_)
  refine lv_istore_n (lv' := [(0, .int x4)]) hx hb dJ6_bitCount_0f7a4_40 rfl hl (by decide) rfl (fun ls hl => ?_)
  refine lv_iload_n hx hb dJ6_bitCount_0f7a4_41 rfl (lv_at hl 0 rfl) ?_
  refine lv_iload_n hx hb dJ6_bitCount_0f7a4_42 rfl (lv_at hl 0 rfl) ?_
  refine lv_bipush (v := 16) hx hb dJ6_bitCount_0f7a4_43 (by decide) ?_
  refine lv_iushr (v := ush x4 16) hx hb dJ6_bitCount_0f7a4_45 rfl ?_
  refine lv_iadd hx hb dJ6_bitCount_0f7a4_46 ?_
  refine lv_topi (fun x5 e5 => ?_)
  refine lv_istore_n (lv' := [(0, .int x5)]) hx hb dJ6_bitCount_0f7a4_47 rfl hl (by decide) rfl (fun ls hl => ?_)
  refine lv_iload_n hx hb dJ6_bitCount_0f7a4_48 rfl (lv_at hl 0 rfl) ?_
  refine lv_bipush (v := 63) hx hb dJ6_bitCount_0f7a4_49 (by decide) ?_
  refine lv_iand hx hb dJ6_bitCount_0f7a4_51 ?_
  have hv : some (x5 &&& 63, σ) = some (bitC x0, σ) := by
    rw [e5, e4, e3, e2, e1]
    rfl
  exact e_i X hR hr hlk hv dJ6_bitCount_0f7a4_52
theorem jms_0_73 : MS RX0 73 yJ6_bitCount_0f7a4 cJ6_bitCount_0f7a4 1 (some .int) 1 := ⟨in_g (List.mem_of_getElem? (i := 881) (by decide +kernel)) rfl, in_g (List.mem_of_getElem? (i := 882) (by decide +kernel)) rfl, in_g (List.mem_of_getElem? (i := 124) (by decide +kernel)) rfl, in_g (List.mem_of_getElem? (i := 883) (by decide +kernel)) rfl, by decide +kernel, by decide +kernel, by decide +kernel⟩
theorem jms_0_121 : MS RX0 121 yJ7_fill_53178 cJ7_fill_53178 4 (none) 2 := ⟨in_g (List.mem_of_getElem? (i := 1106) (by decide +kernel)) rfl, in_g (List.mem_of_getElem? (i := 1107) (by decide +kernel)) rfl, in_g (List.mem_of_getElem? (i := 125) (by decide +kernel)) rfl, in_g (List.mem_of_getElem? (i := 1108) (by decide +kernel)) rfl, by decide +kernel, by decide +kernel, by decide +kernel⟩
theorem jms_7_54 : MS RX7 54 yJ6_bitCount_0f7a4 cJ6_bitCount_0f7a4 1 (some .int) 1 := ⟨in_g (List.mem_of_getElem? (i := 1117) (by decide +kernel)) rfl, in_g (List.mem_of_getElem? (i := 882) (by decide +kernel)) rfl, in_g (List.mem_of_getElem? (i := 124) (by decide +kernel)) rfl, in_g (List.mem_of_getElem? (i := 883) (by decide +kernel)) rfl, by decide +kernel, by decide +kernel, by decide +kernel⟩
theorem jms_10_150 : MS RX10 150 yJ6_bitCount_0f7a4 cJ6_bitCount_0f7a4 1 (some .int) 1 := ⟨in_g (List.mem_of_getElem? (i := 899) (by decide +kernel)) rfl, in_g (List.mem_of_getElem? (i := 882) (by decide +kernel)) rfl, in_g (List.mem_of_getElem? (i := 124) (by decide +kernel)) rfl, in_g (List.mem_of_getElem? (i := 883) (by decide +kernel)) rfl, by decide +kernel, by decide +kernel, by decide +kernel⟩
section GEN
variable {p : Program} {l : Launch} {e : Env} {s : State} {m : MethodId} {args : Array Value} {below : List Frame} {meth : Method} {c : Code} {G : Gp} {r0 : Int32} {l0 : Int64} {u0 : Unit} {σ0 : Mm}
abbrev rmJ_fill : Room := { frames := 0, cells := 0, slots := 0, locals := 0 }
def fJ_fill_5 (N : Nat) (o0 : Nat) (x1 : Int32) (x3 : Int32) : Nat → Int32 → Mm → Option (Unit × Mm)
  | 0, _, _ => none
  | fu + 1, x2, σ => if x3 ≤ x2 then (
  some ((), σ)) else (
  z_c (inB x2 6) (z_l (sI σ o0 (ix x2) x1) fun σ_3 =>
  z_l (x2 + (1 : Int32)) fun x2_4 =>
  fJ_fill_5 N o0 x1 x3 fu x2_4 σ_3))
def fJ_fill (N : Nat) (o0 : Nat) (x1 : Int32) (σ : Mm) : Option (Unit × Mm) :=
  fJ_fill_5 N o0 x1 (6 : Int32) N (0 : Int32) σ
set_option maxHeartbeats 4000000 in
set_option maxRecDepth 100000 in
theorem wJ_fill_5 (X : Cx p s m args c cJ7_fill_53178 4 RJ7 G) (hr : meth.sig.returnType = none) (hlk : meth.locks = false) (N : Nat) {o0 : Nat} (ho0 : kd o0 = (13, 6)) {x1 : Int32} {x3 : Int32} :
    ∀ (fu : Nat) (x2 : Int32) (σ : Mm) (H : Heap) (locs : List Loc) (ls : Array Slot), fJ_fill_5 N o0 x1 x3 fu x2 σ = some (u0, σ0) → Rp G 212 tt σ s H locs → lv_has ls 4 [(0, .ref (G.2.2 + o0)), (1, .int x1), (2, .int x2), (3, .int x3)] → W p l e rmJ_fill s m args below meth c H locs 0 0 (MQ below (P_v G 212 tt u0 σ0) args s 0 0 (Fr G)) (F0 m 5 ls []) := by
  have hx := X.1
  have hb := X.2.1
  intro fu
  induction fu with
  | zero =>
    intro x2 σ H locs ls hf hR hl
    rw [fJ_fill_5] at hf
    cases hf
  | succ fu ih =>
    intro x2 σ H locs ls hf hR hl
    rw [fJ_fill_5] at hf
    refine lv_iload_n hx hb dJ7_fill_53178_5 rfl (lv_at hl 2 rfl) ?_
    refine lv_iload_n hx hb dJ7_fill_53178_6 rfl (lv_at hl 3 rfl) ?_
    refine lv_icmp_ge (tgt := 20) hx hb dJ7_fill_53178_7 (by decide) (fun c_1 => ?_) (fun c_1 => ?_)
    · replace hf := z_t c_1 hf
      exact e_v X hR hr hlk hf dJ7_fill_53178_20
    · replace hf := z_f c_1 hf
      refine lv_aload_n hx hb dJ7_fill_53178_10 rfl (lv_at hl 0 rfl) ?_
      refine lv_iload_n hx hb dJ7_fill_53178_11 rfl (lv_at hl 2 rfl) ?_
      refine lv_iload_n hx hb dJ7_fill_53178_12 rfl (lv_at hl 1 rfl) ?_
      obtain ⟨hi_2, hf⟩ := z_c_e hf
      refine r_ias X hR ho0 hi_2 dJ7_fill_53178_13 (fun H locs σ_3 eσ_3 hR => ?_)
      replace hf := z_l_e eσ_3 hf
      obtain ⟨x2_4, ex2_4⟩ : ∃ z : Int32, z = x2 + (1 : Int32) := ⟨_, rfl⟩
      replace hf := z_l_e ex2_4 hf
      refine lv_iinc (v := x2_4) (lv' := [(2, .int x2_4), (0, .ref (G.2.2 + o0)), (1, .int x1), (3, .int x3)]) hx hb dJ7_fill_53178_14 hl (k := 2) rfl (by rw [ex2_4]; rfl) (by decide) rfl (fun ls hl => ?_)
      refine lv_goto (tgt := 5) hx hb dJ7_fill_53178_17 (by decide) ?_
      exact ih x2_4 σ_3 _ _ _ hf hR (lv_sub hl [1, 2, 0, 3] rfl)
set_option maxHeartbeats 4000000 in
set_option maxRecDepth 100000 in
theorem cJ_fill (l : Launch) (G : Gp) (N : Nat) {o0 : Nat} (ho0 : kd o0 = (13, 6)) {x1 : Int32} {σ σ0 : Mm} {u0 : Unit} (hf : fJ_fill N o0 x1 σ = some (u0, σ0)) : Met l yJ7_fill_53178 (WS yJ7_fill_53178 cJ7_fill_53178 4 (none)) rmJ_fill (va_Pc [.ref (G.2.2 + o0), .int x1] (Pd G 212 tt σ)) (P_v G 212 tt u0 σ0) 0 0 (Fr G) := by
  refine ct [(0, .ref (G.2.2 + o0)), (1, .int x1)] rfl (by decide) (Nat.le_of_ble_eq_true rfl) ?_
  intro p e s m below meth c ls X hr hlk hR hl
  have X : Cx p s m _ c cJ7_fill_53178 4 RJ7 G := X
  have hx := X.1
  have hb := X.2.1
  unfold fJ_fill at hf
  refine lv_iconst (v := (0 : Int32)) hx hb dJ7_fill_53178_0 (by decide) ?_
  refine lv_istore_n (lv' := [(2, .int (0 : Int32)), (0, .ref (G.2.2 + o0)), (1, .int x1)]) hx hb dJ7_fill_53178_1 rfl hl (by decide) rfl (fun ls hl => ?_)
  refine lv_aload_n hx hb dJ7_fill_53178_2 rfl (lv_at hl 1 rfl) ?_
  refine r_len (v := (6 : Int32)) X hR ho0 (by decide) rfl dJ7_fill_53178_3 ?_
  refine lv_istore_n (lv' := [(3, .int (6 : Int32)), (2, .int (0 : Int32)), (0, .ref (G.2.2 + o0)), (1, .int x1)]) hx hb dJ7_fill_53178_4 rfl hl (by decide) rfl (fun ls hl => ?_)
  exact wJ_fill_5 X hr hlk N ho0  N (0 : Int32) σ _ _ _ hf hR (lv_sub hl [2, 3, 1, 0] rfl)
end GEN
