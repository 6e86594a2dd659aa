theorem js_38 : Cond.fieldLink RJ0 38 "java/lang/String" "COMPACT_STRINGS" "Z" ∈ lw_g := in_g (List.mem_of_getElem? (i := 149) (by decide +kernel)) rfl
theorem js_15 : Cond.fieldLink RJ0 15 "java/lang/String" "coder" "B" ∈ lw_g := in_g (List.mem_of_getElem? (i := 1899) (by decide +kernel)) rfl
theorem js_9 : Cond.fieldLink RJ0 9 "java/lang/String" "value" "[B" ∈ lw_g := in_g (List.mem_of_getElem? (i := 1900) (by decide +kernel)) rfl
theorem js_1053 : Cond.fieldLink RJ0 1053 "jdk/internal/util/Preconditions" "SIOOBE_FORMATTER" "Ljava/util/function/BiFunction;" ∈ lw_g := in_g (List.mem_of_getElem? (i := 157) (by decide +kernel)) rfl
theorem js_max : Cond.methodLink RJ1 92 Lib.Math.max.name ∈ lw_g := in_g (List.mem_of_getElem? (i := 658) (by decide +kernel)) rfl
theorem js_min : Cond.methodLink RJ1 38 Lib.Math.min.name ∈ lw_g := in_g (List.mem_of_getElem? (i := 661) (by decide +kernel)) rfl
def MVs (own : String) (index : Nat) (y : MethodName) (cc : ByteArray) (nL : Nat) (ret : Option FieldType) (na : Nat) : Prop :=
  Cond.methodLink own index y ∈ lw_g ∧ Cond.instanceMethod y ∈ lw_g ∧ Cond.selects "java/lang/String" y y ∈ lw_g ∧ Cond.initialized "java/lang/String" ∈ lw_g ∧ Cond.code y cc nL ret ∈ lw_g ∧
  (y.cls = "java/lang/String" ∧ y.cls ≠ "java/lang/invoke/MethodHandle" ∧ y.cls ≠ "java/lang/invoke/VarHandle" ∧ (parseMethodDescriptor y.desc).map (fun d => d.parameters.length) = some na)
theorem js_492 : MVs RJ0 492 yJ0_isLatin1_aae02 cJ0_isLatin1_aae02 1 (some .boolean) 0 := ⟨in_g (List.mem_of_getElem? (i := 145) (by decide +kernel)) rfl, in_g (List.mem_of_getElem? (i := 146) (by decide +kernel)) rfl, in_g (List.mem_of_getElem? (i := 147) (by decide +kernel)) rfl, in_g (List.mem_of_getElem? (i := 107) (by decide +kernel)) rfl, in_g (List.mem_of_getElem? (i := 148) (by decide +kernel)) rfl, rfl, by decide +kernel, by decide +kernel, by decide +kernel⟩
theorem js_335 : MVs RJ0 335 yJ0_coder_7d493 cJ0_coder_7d493 1 (some .byte) 0 := ⟨in_g (List.mem_of_getElem? (i := 648) (by decide +kernel)) rfl, in_g (List.mem_of_getElem? (i := 649) (by decide +kernel)) rfl, in_g (List.mem_of_getElem? (i := 650) (by decide +kernel)) rfl, in_g (List.mem_of_getElem? (i := 107) (by decide +kernel)) rfl, in_g (List.mem_of_getElem? (i := 651) (by decide +kernel)) rfl, rfl, by decide +kernel, by decide +kernel, by decide +kernel⟩
theorem js_505 : MVs RJ0 505 yJ0_length_8abf5 cJ0_length_8abf5 1 (some .int) 0 := ⟨in_g (List.mem_of_getElem? (i := 644) (by decide +kernel)) rfl, in_g (List.mem_of_getElem? (i := 645) (by decide +kernel)) rfl, in_g (List.mem_of_getElem? (i := 646) (by decide +kernel)) rfl, in_g (List.mem_of_getElem? (i := 107) (by decide +kernel)) rfl, in_g (List.mem_of_getElem? (i := 647) (by decide +kernel)) rfl, rfl, by decide +kernel, by decide +kernel, by decide +kernel⟩
theorem js_633 : MVs RJ0 633 yJ0_indexOf_7cf53 cJ0_indexOf_7cf53 3 (some .int) 2 := ⟨in_g (List.mem_of_getElem? (i := 640) (by decide +kernel)) rfl, in_g (List.mem_of_getElem? (i := 641) (by decide +kernel)) rfl, in_g (List.mem_of_getElem? (i := 642) (by decide +kernel)) rfl, in_g (List.mem_of_getElem? (i := 107) (by decide +kernel)) rfl, in_g (List.mem_of_getElem? (i := 643) (by decide +kernel)) rfl, rfl, by decide +kernel, by decide +kernel, by decide +kernel⟩
theorem js_ix : MVs RX9 72 yJ0_indexOf_0f7a4 cJ0_indexOf_0f7a4 2 (some .int) 1 := ⟨in_g (List.mem_of_getElem? (i := 636) (by decide +kernel)) rfl, in_g (List.mem_of_getElem? (i := 637) (by decide +kernel)) rfl, in_g (List.mem_of_getElem? (i := 638) (by decide +kernel)) rfl, in_g (List.mem_of_getElem? (i := 107) (by decide +kernel)) rfl, in_g (List.mem_of_getElem? (i := 639) (by decide +kernel)) rfl, rfl, by decide +kernel, by decide +kernel, by decide +kernel⟩
theorem js_ca : MVs RX9 34 yJ0_charAt_5068e cJ0_charAt_5068e 2 (some .char) 1 := ⟨in_g (List.mem_of_getElem? (i := 141) (by decide +kernel)) rfl, in_g (List.mem_of_getElem? (i := 142) (by decide +kernel)) rfl, in_g (List.mem_of_getElem? (i := 143) (by decide +kernel)) rfl, in_g (List.mem_of_getElem? (i := 107) (by decide +kernel)) rfl, in_g (List.mem_of_getElem? (i := 144) (by decide +kernel)) rfl, rfl, by decide +kernel, by decide +kernel, by decide +kernel⟩
theorem js_637 : MS RJ0 637 yJ1_indexOf_4cfef cJ1_indexOf_4cfef 4 (some .int) 4 := ⟨in_g (List.mem_of_getElem? (i := 652) (by decide +kernel)) rfl, in_g (List.mem_of_getElem? (i := 653) (by decide +kernel)) rfl, in_g (List.mem_of_getElem? (i := 108) (by decide +kernel)) rfl, in_g (List.mem_of_getElem? (i := 654) (by decide +kernel)) rfl, by decide +kernel, by decide +kernel, by decide +kernel⟩
theorem js_88 : MS RJ1 88 yJ1_canEncode_9a6ad cJ1_canEncode_9a6ad 1 (some .boolean) 1 := ⟨in_g (List.mem_of_getElem? (i := 655) (by decide +kernel)) rfl, in_g (List.mem_of_getElem? (i := 656) (by decide +kernel)) rfl, in_g (List.mem_of_getElem? (i := 108) (by decide +kernel)) rfl, in_g (List.mem_of_getElem? (i := 657) (by decide +kernel)) rfl, by decide +kernel, by decide +kernel, by decide +kernel⟩
theorem js_95 : MS RJ1 95 yJ1_indexOfChar_4cfef cJ1_indexOfChar_4cfef 6 (some .int) 4 := ⟨in_g (List.mem_of_getElem? (i := 664) (by decide +kernel)) rfl, in_g (List.mem_of_getElem? (i := 665) (by decide +kernel)) rfl, in_g (List.mem_of_getElem? (i := 108) (by decide +kernel)) rfl, in_g (List.mem_of_getElem? (i := 666) (by decide +kernel)) rfl, by decide +kernel, by decide +kernel, by decide +kernel⟩
theorem js_495 : MS RJ0 495 yJ1_charAt_3b067 cJ1_charAt_3b067 2 (some .char) 2 := ⟨in_g (List.mem_of_getElem? (i := 151) (by decide +kernel)) rfl, in_g (List.mem_of_getElem? (i := 152) (by decide +kernel)) rfl, in_g (List.mem_of_getElem? (i := 108) (by decide +kernel)) rfl, in_g (List.mem_of_getElem? (i := 153) (by decide +kernel)) rfl, by decide +kernel, by decide +kernel, by decide +kernel⟩
theorem js_cs : MS RJ1 9 yJ0_checkIndex_df160 cJ0_checkIndex_df160 2 (none) 2 := ⟨in_g (List.mem_of_getElem? (i := 154) (by decide +kernel)) rfl, in_g (List.mem_of_getElem? (i := 155) (by decide +kernel)) rfl, in_g (List.mem_of_getElem? (i := 107) (by decide +kernel)) rfl, in_g (List.mem_of_getElem? (i := 156) (by decide +kernel)) rfl, by decide +kernel, by decide +kernel, by decide +kernel⟩
theorem js_1059 : MS RJ0 1059 yJ3_checkIndex_8e157 cJ3_checkIndex_8e157 3 (some .int) 3 := ⟨in_g (List.mem_of_getElem? (i := 159) (by decide +kernel)) rfl, in_g (List.mem_of_getElem? (i := 160) (by decide +kernel)) rfl, in_g (List.mem_of_getElem? (i := 109) (by decide +kernel)) rfl, in_g (List.mem_of_getElem? (i := 161) (by decide +kernel)) rfl, by decide +kernel, by decide +kernel, by decide +kernel⟩
section STR
variable {p : Program} {l : Launch} {e : Env} {R : Room} {s : State} {m : MethodId} {args : Array Value} {below : List Frame} {meth : Method} {c : Code} {H : Heap} {locs : List Loc} {cells slots : Nat} {Q : State → Prop}
variable {cc : ByteArray} {pc : Nat} {ls : Array Slot} {rest : List Value} {own : String} {nL : Nat} {G : Gp} {n : Nat} {F : Nat → Bool} {σ : Mm}
variable {y : MethodName} {cy : ByteArray} {nY : Nat} {ret : Option FieldType} {rm : Room} {index na i : Nat} {As : List Value} {Qc : Array Value → State → Outcome → State → Prop} {r0 : Int32} {σ0 : Mm}
theorem sv_run (X : Cx p s m args c cc nL own G) (hR : Rp G n F σ s H locs) (mv : MVs own index y cy nY ret na) (hi : i < 2) (hM : Met l y (WS y cy nY ret) rm (va_Pc (.ref (adK G i) :: As) (Pd G n F σ)) Qc 0 0 (Fr G)) (hrm : RM rm R nY) (hna : As.length = na) (hls : ls.size = nL) {st0 : List Value} (hst : st0 = As.reverse ++ .ref (adK G i) :: rest) (hW : (rest.map fun v => v.category).sum ≤ 8) (hdg : decode cc pc = .ok (.invokevirtual index, 3)) (hf : cells ≤ R.cells ∧ slots ≤ R.slots) :
    va_Run p l e R s m args below meth c H locs cells slots 0 0 (F0 m pc ls st0) rest (Qc (Value.ref (adK G i) :: As).toArray) (Fr G) := by
  obtain ⟨hx, hb, hml, hown, hts, hK, hE⟩ := X
  obtain ⟨hP, hz, hS0, hRf⟩ := hR
  obtain ⟨h1, h2, h3, h4, h5, hd⟩ := mv
  have cw : CallW R s args own "java/lang/String" index y cy nY ret (WS y cy nY ret) rm 0 0 na := by
    refine cwV (Ts := lw_g) (ws' := lw_g) na hts ?_ rfl hrm.1 hrm.2.1 hd hrm.2.2
    intro w hw
    unfold wsV at hw
    rcases List.mem_append.mp hw with hw | hw
    · simp only [List.mem_cons, List.not_mem_nil, or_false] at hw
      rcases hw with rfl | rfl | rfl | rfl
      · exact lw_goodIn h1
      · exact lw_goodIn h2
      · exact lw_goodIn h3
      · exact lw_goodIn h4
    · exact WS_good h5 w hw
  exact va_runV (Ts := lw_g) (As := As) (rest := rest) ⟨hx, hb, hml, hown, hts⟩ hM cw ⟨Pd_blind, vk_recv hE.2.2.2.2.1 hi hS0, fun U hU hW => ⟨rfl, Wd_moved hP hz hK hRf hU hW.alike, Ex_warm hE hS0 hU hW⟩⟩ rfl hna hls hst (lv_room hW) hdg hf
theorem e_n (X : Cx p s m args c cc nL own G) (hR : Rp G n F σ s H locs) {ty : FieldType} (hr : meth.sig.returnType = some ty) (hlk : meth.locks = false) {v : Int32} (hv : narrow ty (.int v) = .int v) (hf : some (v, σ) = some (r0, σ0)) (hdg : decode cc pc = .ok (.ireturn, 1)) :
    W p l e R s m args below meth c H locs cells slots (MQ below (P_i G n F r0 σ0) args s cells slots (Fr G)) (F0 m pc ls [.int v]) := by
  obtain ⟨rfl, rfl⟩ := Prod.mk.inj (Option.some.inj hf)
  exact W.zret X.1 X.2.1 hr hv (fun t ht hW => ⟨⟨v, σ, rfl, ⟨rfl, rfl⟩, Wd_moved hR.1 hR.2.1 X.2.2.2.2.2.1 hR.2.2.2 ht hW.alike⟩, hR.2.2.1.F ht⟩) hR.2.2.1.2.2 hdg hlk
end STR
abbrev rmS0 : Room := { frames := 0, cells := 0, slots := 0, locals := 0 }
abbrev rmS1 : Room := { frames := 1, cells := 0, slots := 0, locals := 25 }
abbrev rmS2 : Room := { frames := 2, cells := 0, slots := 0, locals := 48 }
abbrev rmS3 : Room := { frames := 3, cells := 0, slots := 0, locals := 70 }
theorem cS_coder (l : Launch) (G : Gp) {n : Nat} {F : Nat → Bool} {σ : Mm} {i : Nat} (hi : i < 2) : Met l yJ0_coder_7d493 (WS yJ0_coder_7d493 cJ0_coder_7d493 1 (some .byte)) rmS0 (va_Pc [.ref (adK G i)] (Pd G n F σ)) (P_i G n F 0 σ) 0 0 (Fr G) := by
  refine ct [(0, .ref (adK G i))] rfl (by decide) (Nat.le_of_ble_eq_true rfl) ?_
  intro p e s m below meth c ls X hr hlk hR hl
  have X : Cx p s m _ c cJ0_coder_7d493 1 RJ0 G := X
  have hx := X.1
  have hb := X.2.1
  have hE := X.2.2.2.2.2.2
  refine va_gets hx hb hE.1 hR.2.2.1 X.2.2.2.1 (X.2.2.2.2.1 _ js_38) (fun _ h => h) dJ0_coder_7d493_0 ?_
  refine lv_if_eq (tgt := 13) hx hb dJ0_coder_7d493_3 (by decide) (fun c => absurd c (by decide)) (fun c => ?_)
  refine lv_aload_n hx hb dJ0_coder_7d493_6 rfl (lv_at hl 0 rfl) ?_
  refine vk_getf hx hb (hE.2.2.2.2.1.1 i hi).2.1 hR.2.2.1 X.2.2.2.1 (X.2.2.2.2.1 _ js_15) (fun _ h => h) dJ0_coder_7d493_7 ?_
  refine lv_goto (tgt := 14) hx hb dJ0_coder_7d493_10 (by decide) ?_
  exact e_n X hR hr hlk rfl rfl dJ0_coder_7d493_14
theorem cS_isLatin1 (l : Launch) (G : Gp) {n : Nat} {F : Nat → Bool} {σ : Mm} {i : Nat} (hi : i < 2) : Met l yJ0_isLatin1_aae02 (WS yJ0_isLatin1_aae02 cJ0_isLatin1_aae02 1 (some .boolean)) rmS0 (va_Pc [.ref (adK G i)] (Pd G n F σ)) (P_i G n F 1 σ) 0 0 (Fr G) := by
  refine ct [(0, .ref (adK G i))] rfl (by decide) (Nat.le_of_ble_eq_true rfl) ?_
  intro p e s m below meth c ls X hr hlk hR hl
  have X : Cx p s m _ c cJ0_isLatin1_aae02 1 RJ0 G := X
  have hx := X.1
  have hb := X.2.1
  have hE := X.2.2.2.2.2.2
  refine va_gets hx hb hE.1 hR.2.2.1 X.2.2.2.1 (X.2.2.2.2.1 _ js_38) (fun _ h => h) dJ0_isLatin1_aae02_0 ?_
  refine lv_if_eq (tgt := 17) hx hb dJ0_isLatin1_aae02_3 (by decide) (fun c => absurd c (by decide)) (fun c => ?_)
  refine lv_aload_n hx hb dJ0_isLatin1_aae02_6 rfl (lv_at hl 0 rfl) ?_
  refine vk_getf hx hb (hE.2.2.2.2.1.1 i hi).2.1 hR.2.2.1 X.2.2.2.1 (X.2.2.2.2.1 _ js_15) (fun _ h => h) dJ0_isLatin1_aae02_7 ?_
  refine lv_if_ne (tgt := 17) hx hb dJ0_isLatin1_aae02_10 (by decide) (fun c => absurd rfl c) (fun c => ?_)
  refine lv_iconst (v := 1) hx hb dJ0_isLatin1_aae02_13 (by decide) ?_
  refine lv_goto (tgt := 18) hx hb dJ0_isLatin1_aae02_14 (by decide) ?_
  exact e_z X hR hr hlk rfl rfl dJ0_isLatin1_aae02_18
theorem cS_length (l : Launch) (G : Gp) {n : Nat} {F : Nat → Bool} {σ : Mm} : Met l yJ0_length_8abf5 (WS yJ0_length_8abf5 cJ0_length_8abf5 1 (some .int)) rmS1 (va_Pc [.ref (adK G 0)] (Pd G n F σ)) (P_i G n F 9 σ) 0 0 (Fr G) := by
  refine ct [(0, .ref (adK G 0))] rfl (by decide) (Nat.le_of_ble_eq_true rfl) ?_
  intro p e s m below meth c ls X hr hlk hR hl
  have X : Cx p s m _ c cJ0_length_8abf5 1 RJ0 G := X
  have hx := X.1
  have hb := X.2.1
  have hE := X.2.2.2.2.2.2
  refine lv_aload_n hx hb dJ0_length_8abf5_0 rfl (lv_at hl 0 rfl) ?_
  refine vk_getf hx hb (hE.2.2.2.2.1.1 0 (by decide)).2.2.1 hR.2.2.1 X.2.2.2.1 (X.2.2.2.2.1 _ js_9) (fun _ h => h) dJ0_length_8abf5_1 ?_
  refine va_tlen (v := 9) hx hb (hE.2.2.2.2.1.1 0 (by decide)).2.2.2 hR.2.2.1 (by decide) dJ0_length_8abf5_4 ?_
  refine lv_aload_n hx hb dJ0_length_8abf5_5 rfl (lv_at hl 0 rfl) ?_
  refine go_i hR (sv_run (As := []) (rest := [.int 9]) X hR js_335 (i := 0) (by decide) (cS_coder l G (by decide)) ⟨rfl, rfl, Nat.le_of_ble_eq_true rfl, Nat.le_of_ble_eq_true rfl⟩ rfl hl.1 rfl (Nat.le_of_ble_eq_true rfl) dJ0_length_8abf5_6 ⟨Nat.zero_le _, Nat.zero_le _⟩) (fun H locs hR => ?_)
  refine lv_ishr hx hb dJ0_length_8abf5_9 ?_
  exact e_i X hR hr hlk (by rw [show ((9 : Int32) >>> ((0 : Int32) &&& 31)) = 9 by decide]) dJ0_length_8abf5_10
/-- indexOf on the signs -/
def sIxF (b : Int32) : Nat → Nat → Int32
  | 0, _ => -1
  | fu + 1, k => if (sBy.getD 0 []).getD k 0 = b then nI k else sIxF b fu (k + 1)
def sCan (x : Int32) : Int32 := if x < 0 then 0 else if 255 < x then 0 else 1
def sIx (x : Int32) : Int32 := if sCan x = 0 then -1 else sIxF x.toInt8.toInt32 9 0
section STR2
variable {p : Program} {l : Launch} {e : Env} {s : State} {m : MethodId} {args : Array Value} {below : List Frame} {meth : Method} {c : Code} {G : Gp} {n : Nat} {F : Nat → Bool} {σ : Mm}
theorem wS_ixc (X : Cx p s m args c cJ1_indexOfChar_4cfef 6 RJ1 G) (hr : meth.sig.returnType = some .int) (hlk : meth.locks = false) {b : Int32} : ∀ (fu k : Nat), fu + k = 9 → ∀ (H : Heap) (locs : List Loc) (ls : Array Slot), Rp G n F σ s H locs → lv_has ls 6 [(0, .ref (adV G 0)), (3, .int 9), (4, .int b), (5, .int (nI k))] →
    W p l e rmS0 s m args below meth c H locs 0 0 (MQ below (P_i G n F (sIxF b fu k) σ) args s 0 0 (Fr G)) (F0 m 7 ls []) := by
  have hx := X.1
  have hb := X.2.1
  have hE := X.2.2.2.2.2.2
  intro fu
  induction fu with
  | zero =>
    intro k hk H locs ls hR hl
    have hk : k = 9 := by omega
    subst hk
    refine lv_iload hx hb dJ1_indexOfChar_4cfef_7 (lv_at hl 3 rfl) ?_
    refine lv_iload_n hx hb dJ1_indexOfChar_4cfef_9 rfl (lv_at hl 1 rfl) ?_
    refine lv_icmp_ge (tgt := 31) hx hb dJ1_indexOfChar_4cfef_10 (by decide) (fun c => ?_) (fun c => absurd (by decide) c)
    refine lv_iconst (v := -1) hx hb dJ1_indexOfChar_4cfef_31 (by decide) ?_
    exact e_i X hR hr hlk rfl dJ1_indexOfChar_4cfef_32
  | succ fu ih =>
    intro k hk H locs ls hR hl
    refine lv_iload hx hb dJ1_indexOfChar_4cfef_7 (lv_at hl 3 rfl) ?_
    refine lv_iload_n hx hb dJ1_indexOfChar_4cfef_9 rfl (lv_at hl 1 rfl) ?_
    refine lv_icmp_ge (tgt := 31) hx hb dJ1_indexOfChar_4cfef_10 (by decide) (fun c => absurd c (nI_ge (b := 9) (by omega) (by decide))) (fun c => ?_)
    refine lv_aload_n hx hb dJ1_indexOfChar_4cfef_13 rfl (lv_at hl 0 rfl) ?_
    refine lv_iload hx hb dJ1_indexOfChar_4cfef_14 (lv_at hl 3 rfl) ?_
    refine va_tb (v := .int ((sBy.getD 0 []).getD k 0)) hx hb (hE.2.2.2.2.1.1 0 (by decide)).2.2.2 hR.2.2.1 (vp_in_nI (show k < 9 by omega) (by decide)) (by rw [nI_clamp (by omega)]) dJ1_indexOfChar_4cfef_16 ?_
    refine lv_iload hx hb dJ1_indexOfChar_4cfef_17 (lv_at hl 2 rfl) ?_
    refine lv_icmp_ne (tgt := 25) hx hb dJ1_indexOfChar_4cfef_19 (by decide) (fun c => ?_) (fun c => ?_)
    · refine lv_iinc (v := nI (k + 1)) (lv' := [(5, .int (nI (k + 1))), (0, .ref (adV G 0)), (3, .int 9), (4, .int b)]) hx hb dJ1_indexOfChar_4cfef_25 hl (k := 3) rfl (nI_1 k) (by decide) rfl (fun ls hl => ?_)
      refine lv_goto (tgt := 7) hx hb dJ1_indexOfChar_4cfef_28 (by decide) ?_
      rw [show sIxF b (fu + 1) k = sIxF b fu (k + 1) by rw [sIxF, if_neg c]]
      exact ih (k + 1) (by omega) _ _ _ hR (lv_sub hl [1, 2, 3, 0] rfl)
    · refine lv_iload hx hb dJ1_indexOfChar_4cfef_22 (lv_at hl 3 rfl) ?_
      exact e_i X hR hr hlk (by rw [sIxF, if_pos c]) dJ1_indexOfChar_4cfef_24
end STR2
theorem cS_indexOfChar (l : Launch) (G : Gp) {n : Nat} {F : Nat → Bool} {σ : Mm} {x : Int32} : Met l yJ1_indexOfChar_4cfef (WS yJ1_indexOfChar_4cfef cJ1_indexOfChar_4cfef 6 (some .int)) rmS0 (va_Pc [.ref (adV G 0), .int x, .int 0, .int 9] (Pd G n F σ)) (P_i G n F (sIxF x.toInt8.toInt32 9 0) σ) 0 0 (Fr G) := by
  refine ct [(0, .ref (adV G 0)), (1, .int x), (2, .int 0), (3, .int 9)] rfl (by decide) (Nat.le_of_ble_eq_true rfl) ?_
  intro p e s m below meth c ls X hr hlk hR hl
  have X : Cx p s m _ c cJ1_indexOfChar_4cfef 6 RJ1 G := X
  have hx := X.1
  have hb := X.2.1
  refine lv_iload_n hx hb dJ1_indexOfChar_4cfef_0 rfl (lv_at hl 1 rfl) ?_
  refine lv_i2b (v := x.toInt8.toInt32) hx hb dJ1_indexOfChar_4cfef_1 rfl ?_
  refine lv_istore (lv' := [(4, .int x.toInt8.toInt32), (0, .ref (adV G 0)), (1, .int x), (2, .int 0), (3, .int 9)]) hx hb dJ1_indexOfChar_4cfef_2 hl (by decide) rfl (fun ls hl => ?_)
  refine lv_iload_n hx hb dJ1_indexOfChar_4cfef_4 rfl (lv_at hl 3 rfl) ?_
  refine lv_istore (lv' := [(5, .int 0), (4, .int x.toInt8.toInt32), (0, .ref (adV G 0)), (1, .int x), (2, .int 0), (3, .int 9)]) hx hb dJ1_indexOfChar_4cfef_5 hl (by decide) rfl (fun ls hl => ?_)
  exact wS_ixc X hr hlk 9 0 rfl _ _ _ hR (lv_sub hl [2, 5, 1, 0] rfl)
theorem cS_canEncode (l : Launch) (G : Gp) {n : Nat} {F : Nat → Bool} {σ : Mm} {x : Int32} : Met l yJ1_canEncode_9a6ad (WS yJ1_canEncode_9a6ad cJ1_canEncode_9a6ad 1 (some .boolean)) rmS0 (va_Pc [.int x] (Pd G n F σ)) (P_i G n F (sCan x) σ) 0 0 (Fr G) := by
  refine ct [(0, .int x)] rfl (by decide) (Nat.le_of_ble_eq_true rfl) ?_
  intro p e s m below meth c ls X hr hlk hR hl
  have X : Cx p s m _ c cJ1_canEncode_9a6ad 1 RJ1 G := X
  have hx := X.1
  have hb := X.2.1
  refine lv_iload_n hx hb dJ1_canEncode_9a6ad_0 rfl (lv_at hl 0 rfl) ?_
  refine lv_if_lt (tgt := 15) hx hb dJ1_canEncode_9a6ad_1 (by decide) (fun c1 => ?_) (fun c1 => ?_)
  · refine lv_iconst (v := 0) hx hb dJ1_canEncode_9a6ad_15 (by decide) ?_
    exact e_z X hR hr hlk rfl (by rw [sCan, if_pos c1]) dJ1_canEncode_9a6ad_16
  · refine lv_iload_n hx hb dJ1_canEncode_9a6ad_4 rfl (lv_at hl 0 rfl) ?_
    refine lv_sipush (v := 255) hx hb dJ1_canEncode_9a6ad_5 (by decide) ?_
    refine lv_icmp_gt (tgt := 15) hx hb dJ1_canEncode_9a6ad_8 (by decide) (fun c2 => ?_) (fun c2 => ?_)
    · refine lv_iconst (v := 0) hx hb dJ1_canEncode_9a6ad_15 (by decide) ?_
      exact e_z X hR hr hlk rfl (by rw [sCan, if_neg c1, if_pos c2]) dJ1_canEncode_9a6ad_16
    · refine lv_iconst (v := 1) hx hb dJ1_canEncode_9a6ad_11 (by decide) ?_
      refine lv_goto (tgt := 16) hx hb dJ1_canEncode_9a6ad_12 (by decide) ?_
      exact e_z X hR hr hlk rfl (by rw [sCan, if_neg c1, if_neg c2]) dJ1_canEncode_9a6ad_16
set_option maxHeartbeats 4000000 in
theorem cS_l1indexOf (l : Launch) (G : Gp) {n : Nat} {F : Nat → Bool} {σ : Mm} {x : Int32} : Met l yJ1_indexOf_4cfef (WS yJ1_indexOf_4cfef cJ1_indexOf_4cfef 4 (some .int)) rmS1 (va_Pc [.ref (adV G 0), .int x, .int 0, .int 9] (Pd G n F σ)) (P_i G n F (sIx x) σ) 0 0 (Fr G) := by
  refine ct [(0, .ref (adV G 0)), (1, .int x), (2, .int 0), (3, .int 9)] rfl (by decide) (Nat.le_of_ble_eq_true rfl) ?_
  intro p e s m below meth c ls X hr hlk hR hl
  have X : Cx p s m _ c cJ1_indexOf_4cfef 4 RJ1 G := X
  have hx := X.1
  have hb := X.2.1
  have hE := X.2.2.2.2.2.2
  refine lv_iload_n hx hb dJ1_indexOf_4cfef_0 rfl (lv_at hl 1 rfl) ?_
  refine go_i hR (ms_run (As := [.int x]) (rest := []) X hR js_88 (cS_canEncode l G) ⟨rfl, rfl, Nat.le_of_ble_eq_true rfl, Nat.le_of_ble_eq_true rfl⟩ rfl hl.1 rfl (Nat.le_of_ble_eq_true rfl) dJ1_indexOf_4cfef_1 ⟨Nat.zero_le _, Nat.zero_le _⟩) (fun H locs hR => ?_)
  refine lv_if_ne (tgt := 9) hx hb dJ1_indexOf_4cfef_4 (by decide) (fun c1 => ?_) (fun c1 => ?_)
  · refine lv_iload_n hx hb dJ1_indexOf_4cfef_9 rfl (lv_at hl 2 rfl) ?_
    refine lv_iconst (v := 0) hx hb dJ1_indexOf_4cfef_10 (by decide) ?_
    refine va_mmax hx hb (X.2.2.1.trans hl.1.symm) X.2.2.2.1 (X.2.2.2.2.1 _ js_max) (X.2.2.2.2.1 _ jm_max_s) (X.2.2.2.2.1 _ jm_ini) (X.2.2.2.2.1 _ jm_max_c) (Nat.le_of_ble_eq_true rfl) (Nat.le_of_ble_eq_true rfl) (Nat.zero_le _) (Nat.zero_le _) dJ1_indexOf_4cfef_11 ?_
    refine W.eq (g2 := F0 m 14 ls [.int 0]) (by rw [show (if (0 : Int32) < 0 then (0 : Int32) else 0) = 0 by decide]) ?_
    refine lv_istore_n (lv' := [(2, .int 0), (0, .ref (adV G 0)), (1, .int x), (3, .int 9)]) hx hb dJ1_indexOf_4cfef_14 rfl hl (by decide) rfl (fun ls hl => ?_)
    refine lv_iload_n hx hb dJ1_indexOf_4cfef_15 rfl (lv_at hl 3 rfl) ?_
    refine lv_aload_n hx hb dJ1_indexOf_4cfef_16 rfl (lv_at hl 1 rfl) ?_
    refine va_tlen (v := 9) hx hb (hE.2.2.2.2.1.1 0 (by decide)).2.2.2 hR.2.2.1 (by decide) dJ1_indexOf_4cfef_17 ?_
    refine va_mmin hx hb (X.2.2.1.trans hl.1.symm) X.2.2.2.1 (X.2.2.2.2.1 _ js_min) (X.2.2.2.2.1 _ jm_min_s) (X.2.2.2.2.1 _ jm_ini) (X.2.2.2.2.1 _ jm_min_c) (Nat.le_of_ble_eq_true rfl) (Nat.le_of_ble_eq_true rfl) (Nat.zero_le _) (Nat.zero_le _) dJ1_indexOf_4cfef_18 ?_
    refine W.eq (g2 := F0 m 21 ls [.int 9]) (by rw [show (if (9 : Int32) < 9 then (9 : Int32) else 9) = 9 by decide]) ?_
    refine lv_istore_n (lv' := [(3, .int 9), (2, .int 0), (0, .ref (adV G 0)), (1, .int x)]) hx hb dJ1_indexOf_4cfef_21 rfl hl (by decide) rfl (fun ls hl => ?_)
    refine lv_iload_n hx hb dJ1_indexOf_4cfef_22 rfl (lv_at hl 1 rfl) ?_
    refine lv_iload_n hx hb dJ1_indexOf_4cfef_23 rfl (lv_at hl 0 rfl) ?_
    refine lv_icmp_lt (tgt := 29) hx hb dJ1_indexOf_4cfef_24 (by decide) (fun c2 => ?_) (fun c2 => absurd (by decide) c2)
    refine lv_aload_n hx hb dJ1_indexOf_4cfef_29 rfl (lv_at hl 2 rfl) ?_
    refine lv_iload_n hx hb dJ1_indexOf_4cfef_30 rfl (lv_at hl 3 rfl) ?_
    refine lv_iload_n hx hb dJ1_indexOf_4cfef_31 rfl (lv_at hl 1 rfl) ?_
    refine lv_iload_n hx hb dJ1_indexOf_4cfef_32 rfl (lv_at hl 0 rfl) ?_
    refine go_i hR (ms_run (As := [.ref (adV G 0), .int x, .int 0, .int 9]) (rest := []) X hR js_95 (cS_indexOfChar l G) ⟨rfl, rfl, Nat.le_of_ble_eq_true rfl, Nat.le_of_ble_eq_true rfl⟩ rfl hl.1 rfl (Nat.le_of_ble_eq_true rfl) dJ1_indexOf_4cfef_33 ⟨Nat.zero_le _, Nat.zero_le _⟩) (fun H locs hR => ?_)
    exact e_i X hR hr hlk (by rw [sIx, if_neg c1]) dJ1_indexOf_4cfef_36
  · refine lv_iconst (v := -1) hx hb dJ1_indexOf_4cfef_7 (by decide) ?_
    exact e_i X hR hr hlk (by rw [sIx, if_pos c1]) dJ1_indexOf_4cfef_8
theorem cS_indexOf2 (l : Launch) (G : Gp) {n : Nat} {F : Nat → Bool} {σ : Mm} {x : Int32} : Met l yJ0_indexOf_7cf53 (WS yJ0_indexOf_7cf53 cJ0_indexOf_7cf53 3 (some .int)) rmS2 (va_Pc [.ref (adK G 0), .int x, .int 0] (Pd G n F σ)) (P_i G n F (sIx x) σ) 0 0 (Fr G) := by
  refine ct [(0, .ref (adK G 0)), (1, .int x), (2, .int 0)] rfl (by decide) (Nat.le_of_ble_eq_true rfl) ?_
  intro p e s m below meth c ls X hr hlk hR hl
  have X : Cx p s m _ c cJ0_indexOf_7cf53 3 RJ0 G := X
  have hx := X.1
  have hb := X.2.1
  have hE := X.2.2.2.2.2.2
  refine lv_aload_n hx hb dJ0_indexOf_7cf53_0 rfl (lv_at hl 0 rfl) ?_
  refine go_i hR (sv_run (As := []) (rest := []) X hR js_492 (i := 0) (by decide) (cS_isLatin1 l G (by decide)) ⟨rfl, rfl, Nat.le_of_ble_eq_true rfl, Nat.le_of_ble_eq_true rfl⟩ rfl hl.1 rfl (Nat.le_of_ble_eq_true rfl) dJ0_indexOf_7cf53_1 ⟨Nat.zero_le _, Nat.zero_le _⟩) (fun H locs hR => ?_)
  refine lv_if_eq (tgt := 23) hx hb dJ0_indexOf_7cf53_4 (by decide) (fun c => absurd c (by decide)) (fun c => ?_)
  refine lv_aload_n hx hb dJ0_indexOf_7cf53_7 rfl (lv_at hl 0 rfl) ?_
  refine vk_getf hx hb (hE.2.2.2.2.1.1 0 (by decide)).2.2.1 hR.2.2.1 X.2.2.2.1 (X.2.2.2.2.1 _ js_9) (fun _ h => h) dJ0_indexOf_7cf53_8 ?_
  refine lv_iload_n hx hb dJ0_indexOf_7cf53_11 rfl (lv_at hl 1 rfl) ?_
  refine lv_iload_n hx hb dJ0_indexOf_7cf53_12 rfl (lv_at hl 2 rfl) ?_
  refine lv_aload_n hx hb dJ0_indexOf_7cf53_13 rfl (lv_at hl 0 rfl) ?_
  refine go_i hR (sv_run (As := []) (rest := [.int 0, .int x, .ref (adV G 0)]) X hR js_505 (i := 0) (by decide) (cS_length l G) ⟨rfl, rfl, Nat.le_of_ble_eq_true rfl, Nat.le_of_ble_eq_true rfl⟩ rfl hl.1 rfl (Nat.le_of_ble_eq_true rfl) dJ0_indexOf_7cf53_14 ⟨Nat.zero_le _, Nat.zero_le _⟩) (fun H locs hR => ?_)
  refine go_i hR (ms_run (As := [.ref (adV G 0), .int x, .int 0, .int 9]) (rest := []) X hR js_637 (cS_l1indexOf l G) ⟨rfl, rfl, Nat.le_of_ble_eq_true rfl, Nat.le_of_ble_eq_true rfl⟩ rfl hl.1 rfl (Nat.le_of_ble_eq_true rfl) dJ0_indexOf_7cf53_17 ⟨Nat.zero_le _, Nat.zero_le _⟩) (fun H locs hR => ?_)
  refine lv_goto (tgt := 36) hx hb dJ0_indexOf_7cf53_20 (by decide) ?_
  exact e_i X hR hr hlk rfl dJ0_indexOf_7cf53_36
theorem cS_indexOf (l : Launch) (G : Gp) {n : Nat} {F : Nat → Bool} {σ : Mm} {x : Int32} : Met l yJ0_indexOf_0f7a4 (WS yJ0_indexOf_0f7a4 cJ0_indexOf_0f7a4 2 (some .int)) rmS3 (va_Pc [.ref (adK G 0), .int x] (Pd G n F σ)) (P_i G n F (sIx x) σ) 0 0 (Fr G) := by
  refine ct [(0, .ref (adK G 0)), (1, .int x)] rfl (by decide) (Nat.le_of_ble_eq_true rfl) ?_
  intro p e s m below meth c ls X hr hlk hR hl
  have X : Cx p s m _ c cJ0_indexOf_0f7a4 2 RJ0 G := X
  have hx := X.1
  have hb := X.2.1
  refine lv_aload_n hx hb dJ0_indexOf_0f7a4_0 rfl (lv_at hl 0 rfl) ?_
  refine lv_iload_n hx hb dJ0_indexOf_0f7a4_1 rfl (lv_at hl 1 rfl) ?_
  refine lv_iconst (v := 0) hx hb dJ0_indexOf_0f7a4_2 (by decide) ?_
  refine go_i hR (sv_run (As := [.int x, .int 0]) (rest := []) X hR js_633 (i := 0) (by decide) (cS_indexOf2 l G) ⟨rfl, rfl, Nat.le_of_ble_eq_true rfl, Nat.le_of_ble_eq_true rfl⟩ rfl hl.1 rfl (Nat.le_of_ble_eq_true rfl) dJ0_indexOf_0f7a4_3 ⟨Nat.zero_le _, Nat.zero_le _⟩) (fun H locs hR => ?_)
  exact e_i X hR hr hlk rfl dJ0_indexOf_0f7a4_6
-- charAt on the words
theorem cS_pcheck (l : Launch) (G : Gp) {n : Nat} {F : Nat → Bool} {σ : Mm} {k : Int32} {v : Value} (hv : v = .null ∨ ∃ t : Nat, v = .ref t) (hk : inB k 176 = true) : Met l yJ3_checkIndex_8e157 (WS yJ3_checkIndex_8e157 cJ3_checkIndex_8e157 3 (some .int)) rmS0 (va_Pc [.int k, .int 176, v] (Pd G n F σ)) (P_i G n F k σ) 0 0 (Fr G) := by
  have h0 : ¬ k < 0 := fun h => inB_in hk (Or.inl h)
  have h1 : k < 176 := by
    obtain ⟨j, hj, rfl⟩ := vp_in_of (inB_in hk) (by decide)
    exact nI_lt hj (by decide)
  have key : ∀ (lv : List (Nat × Value)), lv[0]? = some (0, .int k) → lv[1]? = some (1, .int 176) → lv_args 0 [.int k, .int 176, v] = lv → (lg_sl [.int k, .int 176, v]).length ≤ 3 → Met l yJ3_checkIndex_8e157 (WS yJ3_checkIndex_8e157 cJ3_checkIndex_8e157 3 (some .int)) rmS0 (va_Pc [.int k, .int 176, v] (Pd G n F σ)) (P_i G n F k σ) 0 0 (Fr G) := by
    intro lv g0 g1 hlv hlen
    refine ct lv hlv (by decide) hlen ?_
    intro p e s m below meth c ls X hr hlk hR hl
    have X : Cx p s m _ c cJ3_checkIndex_8e157 3 RJ3 G := X
    have hx := X.1
    have hb := X.2.1
    refine lv_iload_n hx hb dJ3_checkIndex_8e157_0 rfl (lv_at hl 0 g0) ?_
    refine lv_if_lt (tgt := 9) hx hb dJ3_checkIndex_8e157_1 (by decide) (fun c => absurd c h0) (fun c => ?_)
    refine lv_iload_n hx hb dJ3_checkIndex_8e157_4 rfl (lv_at hl 0 g0) ?_
    refine lv_iload_n hx hb dJ3_checkIndex_8e157_5 rfl (lv_at hl 1 g1) ?_
    refine lv_icmp_lt (tgt := 16) hx hb dJ3_checkIndex_8e157_6 (by decide) (fun c => ?_) (fun c => absurd h1 c)
    refine lv_iload_n hx hb dJ3_checkIndex_8e157_16 rfl (lv_at hl 0 g0) ?_
    exact e_i X hR hr hlk rfl dJ3_checkIndex_8e157_17
  rcases hv with rfl | ⟨t, rfl⟩
  · exact key [(0, .int k), (1, .int 176), (2, .null)] rfl rfl rfl (Nat.le_of_ble_eq_true rfl)
  · exact key [(0, .int k), (1, .int 176), (2, .ref t)] rfl rfl rfl (Nat.le_of_ble_eq_true rfl)
theorem cS_checkIndex (l : Launch) (G : Gp) {n : Nat} {F : Nat → Bool} {σ : Mm} {k : Int32} (hk : inB k 176 = true) : Met l yJ0_checkIndex_df160 (WS yJ0_checkIndex_df160 cJ0_checkIndex_df160 2 none) rmS1 (va_Pc [.int k, .int 176] (Pd G n F σ)) (P_v G n F () σ) 0 0 (Fr G) := by
  refine ct [(0, .int k), (1, .int 176)] rfl (by decide) (Nat.le_of_ble_eq_true rfl) ?_
  intro p e s m below meth c ls X hr hlk hR hl
  have X : Cx p s m _ c cJ0_checkIndex_df160 2 RJ0 G := X
  have hx := X.1
  have hb := X.2.1
  have hE := X.2.2.2.2.2.2
  refine lv_iload_n hx hb dJ0_checkIndex_df160_0 rfl (lv_at hl 0 rfl) ?_
  refine lv_iload_n hx hb dJ0_checkIndex_df160_1 rfl (lv_at hl 1 rfl) ?_
  rcases hE.2.1 with hZ | ⟨t, hZ⟩
  · refine va_gets hx hb hZ hR.2.2.1 X.2.2.2.1 (X.2.2.2.2.1 _ js_1053) (fun _ h => h) dJ0_checkIndex_df160_2 ?_
    refine go_i hR (ms_run (As := [.int k, .int 176, .null]) (rest := []) X hR js_1059 (cS_pcheck l G (Or.inl rfl) hk) ⟨rfl, rfl, Nat.le_of_ble_eq_true rfl, Nat.le_of_ble_eq_true rfl⟩ rfl hl.1 rfl (Nat.le_of_ble_eq_true rfl) dJ0_checkIndex_df160_5 ⟨Nat.zero_le _, Nat.zero_le _⟩) (fun H locs hR => ?_)
    refine lv_pop hx hb dJ0_checkIndex_df160_8 rfl ?_
    exact e_v X hR hr hlk rfl dJ0_checkIndex_df160_9
  · refine va_gets hx hb hZ hR.2.2.1 X.2.2.2.1 (X.2.2.2.2.1 _ js_1053) (fun _ h => h) dJ0_checkIndex_df160_2 ?_
    refine go_i hR (ms_run (As := [.int k, .int 176, .ref t]) (rest := []) X hR js_1059 (cS_pcheck l G (Or.inr ⟨t, rfl⟩) hk) ⟨rfl, rfl, Nat.le_of_ble_eq_true rfl, Nat.le_of_ble_eq_true rfl⟩ rfl hl.1 rfl (Nat.le_of_ble_eq_true rfl) dJ0_checkIndex_df160_5 ⟨Nat.zero_le _, Nat.zero_le _⟩) (fun H locs hR => ?_)
    refine lv_pop hx hb dJ0_checkIndex_df160_8 rfl ?_
    exact e_v X hR hr hlk rfl dJ0_checkIndex_df160_9
/-- the char at k of the words -/
def sCh (k : Int32) : Int32 := (((sBy.getD 1 []).getD (ix k) 0 &&& 255).toUInt32 % 65536).toInt32
abbrev rmS2c : Room := { frames := 2, cells := 0, slots := 0, locals := 46 }
abbrev rmS3c : Room := { frames := 3, cells := 0, slots := 0, locals := 67 }
theorem cS_l1charAt (l : Launch) (G : Gp) {n : Nat} {F : Nat → Bool} {σ : Mm} {k : Int32} (hk : inB k 176 = true) : Met l yJ1_charAt_3b067 (WS yJ1_charAt_3b067 cJ1_charAt_3b067 2 (some .char)) rmS2c (va_Pc [.ref (adV G 1), .int k] (Pd G n F σ)) (P_i G n F (sCh k) σ) 0 0 (Fr G) := by
  refine ct [(0, .ref (adV G 1)), (1, .int k)] rfl (by decide) (Nat.le_of_ble_eq_true rfl) ?_
  intro p e s m below meth c ls X hr hlk hR hl
  have X : Cx p s m _ c cJ1_charAt_3b067 2 RJ1 G := X
  have hx := X.1
  have hb := X.2.1
  have hE := X.2.2.2.2.2.2
  refine lv_iload_n hx hb dJ1_charAt_3b067_0 rfl (lv_at hl 1 rfl) ?_
  refine lv_aload_n hx hb dJ1_charAt_3b067_1 rfl (lv_at hl 0 rfl) ?_
  refine va_tlen (v := 176) hx hb (hE.2.2.2.2.1.1 1 (by decide)).2.2.2 hR.2.2.1 (by decide) dJ1_charAt_3b067_2 ?_
  refine go_v hR (ms_run (As := [.int k, .int 176]) (rest := []) X hR js_cs (cS_checkIndex l G hk) ⟨rfl, rfl, Nat.le_of_ble_eq_true rfl, Nat.le_of_ble_eq_true rfl⟩ rfl hl.1 rfl (Nat.le_of_ble_eq_true rfl) dJ1_charAt_3b067_3 ⟨Nat.zero_le _, Nat.zero_le _⟩) (fun H locs hR => ?_)
  refine lv_aload_n hx hb dJ1_charAt_3b067_6 rfl (lv_at hl 0 rfl) ?_
  refine lv_iload_n hx hb dJ1_charAt_3b067_7 rfl (lv_at hl 1 rfl) ?_
  refine va_tb (v := .int ((sBy.getD 1 []).getD (ix k) 0)) hx hb (hE.2.2.2.2.1.1 1 (by decide)).2.2.2 hR.2.2.1 (inB_in hk) rfl dJ1_charAt_3b067_8 ?_
  refine lv_sipush (v := 255) hx hb dJ1_charAt_3b067_9 (by decide) ?_
  refine lv_iand hx hb dJ1_charAt_3b067_12 ?_
  refine lv_i2c (v := sCh k) hx hb dJ1_charAt_3b067_13 rfl ?_
  exact e_n X hR hr hlk (pk_nc _) rfl dJ1_charAt_3b067_14
theorem cS_charAt (l : Launch) (G : Gp) {n : Nat} {F : Nat → Bool} {σ : Mm} {k : Int32} (hk : inB k 176 = true) : Met l yJ0_charAt_5068e (WS yJ0_charAt_5068e cJ0_charAt_5068e 2 (some .char)) rmS3c (va_Pc [.ref (adK G 1), .int k] (Pd G n F σ)) (P_i G n F (sCh k) σ) 0 0 (Fr G) := by
  refine ct [(0, .ref (adK G 1)), (1, .int k)] rfl (by decide) (Nat.le_of_ble_eq_true rfl) ?_
  intro p e s m below meth c ls X hr hlk hR hl
  have X : Cx p s m _ c cJ0_charAt_5068e 2 RJ0 G := X
  have hx := X.1
  have hb := X.2.1
  have hE := X.2.2.2.2.2.2
  refine lv_aload_n hx hb dJ0_charAt_5068e_0 rfl (lv_at hl 0 rfl) ?_
  refine go_i hR (sv_run (As := []) (rest := []) X hR js_492 (i := 1) (by decide) (cS_isLatin1 l G (by decide)) ⟨rfl, rfl, Nat.le_of_ble_eq_true rfl, Nat.le_of_ble_eq_true rfl⟩ rfl hl.1 rfl (Nat.le_of_ble_eq_true rfl) dJ0_charAt_5068e_1 ⟨Nat.zero_le _, Nat.zero_le _⟩) (fun H locs hR => ?_)
  refine lv_if_eq (tgt := 16) hx hb dJ0_charAt_5068e_4 (by decide) (fun c => absurd c (by decide)) (fun c => ?_)
  refine lv_aload_n hx hb dJ0_charAt_5068e_7 rfl (lv_at hl 0 rfl) ?_
  refine vk_getf hx hb (hE.2.2.2.2.1.1 1 (by decide)).2.2.1 hR.2.2.1 X.2.2.2.1 (X.2.2.2.2.1 _ js_9) (fun _ h => h) dJ0_charAt_5068e_8 ?_
  refine lv_iload_n hx hb dJ0_charAt_5068e_11 rfl (lv_at hl 1 rfl) ?_
  refine go_i hR (ms_run (As := [.ref (adV G 1), .int k]) (rest := []) X hR js_495 (cS_l1charAt l G hk) ⟨rfl, rfl, Nat.le_of_ble_eq_true rfl, Nat.le_of_ble_eq_true rfl⟩ rfl hl.1 rfl (Nat.le_of_ble_eq_true rfl) dJ0_charAt_5068e_12 ⟨Nat.zero_le _, Nat.zero_le _⟩) (fun H locs hR => ?_)
  exact e_n X hR hr hlk (pk_nc _) rfl dJ0_charAt_5068e_15
