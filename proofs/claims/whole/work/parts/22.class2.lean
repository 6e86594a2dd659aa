section GEN
variable {p : Program} {l : Launch} {e : Env} {s : State} {m : MethodId} {args : Array Value} {below : List Frame} {meth : Method} {c : Code} {G : Gp} {r0 : Int32} {l0 : Int64} {u0 : Unit} {σ0 : Mm}

abbrev rm2_hasRoom : Room := { frames := 1, cells := 0, slots := 0, locals := 22 }
def f2_hasRoom (N : Nat) (x1 : Int32) (x2 : Int32) (σ : Mm) : Option (Int32 × Mm) :=
  if x1 ≤ x2 then (
  some ((1 : Int32), σ)) else (
  z_b (f9_refuse N (2 : Int32) (gI σ 47 2) σ) fun r_2 σ_3 =>
  if r_2 = 0 then (
  some ((0 : Int32), σ_3)) else (
  some ((1 : Int32), σ_3)))
set_option maxHeartbeats 4000000 in
set_option maxRecDepth 100000 in
theorem c2_hasRoom (l : Launch) (G : Gp) (N : Nat) {x1 : Int32} {x2 : Int32} {σ σ0 : Mm} {r0 : Int32} (hf : f2_hasRoom N x1 x2 σ = some (r0, σ0)) : Met l yX2_hasRoom (WS yX2_hasRoom cX2_hasRoom 3 (some .boolean)) rm2_hasRoom (va_Pc [.ref (G.2.2 + 47), .int x1, .int x2] (Pd G 212 tt σ)) (P_i G 212 tt r0 σ0) 0 0 (Fr G) := by
  refine ct [(0, .ref (G.2.2 + 47)), (1, .int x1), (2, .int x2)] rfl (by decide) (Nat.le_of_ble_eq_true rfl) ?_
  intro p e s m below meth c ls X hr hlk hR hl
  have X : Cx p s m _ c cX2_hasRoom 3 RX2 G := X
  have hx := X.1
  have hb := X.2.1
  unfold f2_hasRoom at hf
  refine lv_iload_n hx hb dX2_hasRoom_0 rfl (lv_at hl 1 rfl) ?_
  refine lv_iload_n hx hb dX2_hasRoom_1 rfl (lv_at hl 2 rfl) ?_
  refine lv_icmp_le (tgt := 20) hx hb dX2_hasRoom_2 (by decide) (fun c_1 => ?_) (fun c_1 => ?_)
  · replace hf := z_t c_1 hf
    refine lv_iconst (v := (1 : Int32)) hx hb dX2_hasRoom_20 (by decide) ?_
    refine lv_goto (tgt := 25) hx hb dX2_hasRoom_21 (by decide) ?_
    exact e_z X hR hr hlk rfl hf dX2_hasRoom_25
  · replace hf := z_f c_1 hf
    refine lv_aload_n hx hb dX2_hasRoom_5 rfl (lv_at hl 0 rfl) ?_
    refine r_gs (t := 2) X hR fr_2_37 kh_47 (sx_2_0 kh_47) dX2_hasRoom_6 ?_
    refine lv_iconst (v := (2 : Int32)) hx hb dX2_hasRoom_9 (by decide) ?_
    refine lv_aload_n hx hb dX2_hasRoom_10 rfl (lv_at hl 0 rfl) ?_
    refine r_gi X hR fi_2_9 kh_47 dX2_hasRoom_11 ?_
    obtain ⟨r_2, σ_3, hc_4, hf⟩ := z_b_e hf
    refine go_i hR (mv_run (As := [.int (2 : Int32), .int (gI σ 47 2)]) (rest := []) X hR mv_2_72 kh_2 (kd_lt kh_2 (by decide)) (c9_refuse l G N hc_4) ⟨rfl, rfl, Nat.le_of_ble_eq_true rfl, Nat.le_of_ble_eq_true rfl⟩ rfl hl.1 rfl (Nat.le_of_ble_eq_true rfl) dX2_hasRoom_14 ⟨Nat.zero_le _, Nat.zero_le _⟩) (fun H locs hR => ?_)
    refine lv_if_eq (tgt := 24) hx hb dX2_hasRoom_17 (by decide) (fun c_5 => ?_) (fun c_5 => ?_)
    · replace hf := z_t c_5 hf
      refine lv_iconst (v := (0 : Int32)) hx hb dX2_hasRoom_24 (by decide) ?_
      exact e_z X hR hr hlk rfl hf dX2_hasRoom_25
    · replace hf := z_f c_5 hf
      refine lv_iconst (v := (1 : Int32)) hx hb dX2_hasRoom_20 (by decide) ?_
      refine lv_goto (tgt := 25) hx hb dX2_hasRoom_21 (by decide) ?_
      exact e_z X hR hr hlk rfl hf dX2_hasRoom_25
abbrev rm2_takeNames : Room := { frames := 2, cells := 0, slots := 0, locals := 43 }
def f2_takeNames_2 (N : Nat) : Nat → Int32 → Mm → Option (Int32 × Mm)
  | 0, _, _ => none
  | fu + 1, x1, σ => if (400 : Int32) < x1 then (
  some ((1 : Int32), σ)) else (
  z_b (f9_kindAt N (gI σ 47 2) σ) fun r_2 σ_3 =>
  if r_2 = (2 : Int32) then (
  z_b (f2_take N (2 : Int32) σ_3) fun r_6 σ_7 =>
  if r_6 = 0 then (
  some ((0 : Int32), σ_7)) else (
  z_l (x1 + (1 : Int32)) fun x1_10 =>
  f2_takeNames_2 N fu x1_10 σ_7)) else (
  some ((1 : Int32), σ_3)))
def f2_takeNames (N : Nat) (σ : Mm) : Option (Int32 × Mm) :=
  f2_takeNames_2 N N (0 : Int32) σ
set_option maxHeartbeats 4000000 in
set_option maxRecDepth 100000 in
theorem w2_takeNames_2 (X : Cx p s m args c cX2_takeNames 2 RX2 G) (hr : meth.sig.returnType = some .boolean) (hlk : meth.locks = false) (N : Nat) :
    ∀ (fu : Nat) (x1 : Int32) (σ : Mm) (H : Heap) (locs : List Loc) (ls : Array Slot), f2_takeNames_2 N fu x1 σ = some (r0, σ0) → Rp G 212 tt σ s H locs → lv_has ls 2 [(0, .ref (G.2.2 + 47)), (1, .int x1)] → W p l e rm2_takeNames s m args below meth c H locs 0 0 (MQ below (P_i G 212 tt r0 σ0) args s 0 0 (Fr G)) (F0 m 2 ls []) := by
  have hx := X.1
  have hb := X.2.1
  intro fu
  induction fu with
  | zero =>
    intro x1 σ H locs ls hf hR hl
    rw [f2_takeNames_2] at hf
    cases hf
  | succ fu ih =>
    intro x1 σ H locs ls hf hR hl
    rw [f2_takeNames_2] at hf
    refine lv_iload_n hx hb dX2_takeNames_2 rfl (lv_at hl 1 rfl) ?_
    refine lv_sipush (v := (400 : Int32)) hx hb dX2_takeNames_3 (by decide) ?_
    refine lv_icmp_gt (tgt := 40) hx hb dX2_takeNames_6 (by decide) (fun c_1 => ?_) (fun c_1 => ?_)
    · replace hf := z_t c_1 hf
      refine lv_iconst (v := (1 : Int32)) hx hb dX2_takeNames_40 (by decide) ?_
      exact e_z X hR hr hlk rfl hf dX2_takeNames_41
    · replace hf := z_f c_1 hf
      refine lv_aload_n hx hb dX2_takeNames_9 rfl (lv_at hl 0 rfl) ?_
      refine r_gs (t := 2) X hR fr_2_37 kh_47 (sx_2_0 kh_47) dX2_takeNames_10 ?_
      refine lv_aload_n hx hb dX2_takeNames_13 rfl (lv_at hl 0 rfl) ?_
      refine r_gi X hR fi_2_9 kh_47 dX2_takeNames_14 ?_
      obtain ⟨r_2, σ_3, hc_4, hf⟩ := z_b_e hf
      refine go_i hR (mv_run (As := [.int (gI σ 47 2)]) (rest := []) X hR mv_2_48 kh_2 (kd_lt kh_2 (by decide)) (c9_kindAt l G N hc_4) ⟨rfl, rfl, Nat.le_of_ble_eq_true rfl, Nat.le_of_ble_eq_true rfl⟩ rfl hl.1 rfl (Nat.le_of_ble_eq_true rfl) dX2_takeNames_17 ⟨Nat.zero_le _, Nat.zero_le _⟩) (fun H locs hR => ?_)
      refine lv_iconst (v := (2 : Int32)) hx hb dX2_takeNames_20 (by decide) ?_
      refine lv_icmp_ne (tgt := 40) hx hb dX2_takeNames_21 (by decide) (fun c_5 => ?_) (fun c_5 => ?_)
      · replace hf := z_f c_5 hf
        refine lv_iconst (v := (1 : Int32)) hx hb dX2_takeNames_40 (by decide) ?_
        exact e_z X hR hr hlk rfl hf dX2_takeNames_41
      · replace hf := z_t c_5 hf
        refine lv_aload_n hx hb dX2_takeNames_24 rfl (lv_at hl 0 rfl) ?_
        refine lv_iconst (v := (2 : Int32)) hx hb dX2_takeNames_25 (by decide) ?_
        obtain ⟨r_6, σ_7, hc_8, hf⟩ := z_b_e hf
        refine go_i hR (mv_run (As := [.int (2 : Int32)]) (rest := []) X hR mv_2_65 kh_47 (kd_lt kh_47 (by decide)) (c2_take l G N hc_8) ⟨rfl, rfl, Nat.le_of_ble_eq_true rfl, Nat.le_of_ble_eq_true rfl⟩ rfl hl.1 rfl (Nat.le_of_ble_eq_true rfl) dX2_takeNames_26 ⟨Nat.zero_le _, Nat.zero_le _⟩) (fun H locs hR => ?_)
        refine lv_if_ne (tgt := 34) hx hb dX2_takeNames_29 (by decide) (fun c_9 => ?_) (fun c_9 => ?_)
        · replace hf := z_f c_9 hf
          obtain ⟨x1_10, ex1_10⟩ : ∃ z : Int32, z = x1 + (1 : Int32) := ⟨_, rfl⟩
          replace hf := z_l_e ex1_10 hf
          refine lv_iinc (v := x1_10) (lv' := [(1, .int x1_10), (0, .ref (G.2.2 + 47))]) hx hb dX2_takeNames_34 hl (k := 1) rfl (by rw [ex1_10]; rfl) (by decide) rfl (fun ls hl => ?_)
          refine lv_goto (tgt := 2) hx hb dX2_takeNames_37 (by decide) ?_
          exact ih x1_10 σ_7 _ _ _ hf hR (lv_sub hl [1, 0] rfl)
        · replace hf := z_t c_9 hf
          refine lv_iconst (v := (0 : Int32)) hx hb dX2_takeNames_32 (by decide) ?_
          exact e_z X hR hr hlk rfl hf dX2_takeNames_33
set_option maxHeartbeats 4000000 in
set_option maxRecDepth 100000 in
theorem c2_takeNames (l : Launch) (G : Gp) (N : Nat) {σ σ0 : Mm} {r0 : Int32} (hf : f2_takeNames N σ = some (r0, σ0)) : Met l yX2_takeNames (WS yX2_takeNames cX2_takeNames 2 (some .boolean)) rm2_takeNames (va_Pc [.ref (G.2.2 + 47)] (Pd G 212 tt σ)) (P_i G 212 tt r0 σ0) 0 0 (Fr G) := by
  refine ct [(0, .ref (G.2.2 + 47))] rfl (by decide) (Nat.le_of_ble_eq_true rfl) ?_
  intro p e s m below meth c ls X hr hlk hR hl
  have X : Cx p s m _ c cX2_takeNames 2 RX2 G := X
  have hx := X.1
  have hb := X.2.1
  unfold f2_takeNames at hf
  refine lv_iconst (v := (0 : Int32)) hx hb dX2_takeNames_0 (by decide) ?_
  refine lv_istore_n (lv' := [(1, .int (0 : Int32)), (0, .ref (G.2.2 + 47))]) hx hb dX2_takeNames_1 rfl hl (by decide) rfl (fun ls hl => ?_)
  exact w2_takeNames_2 X hr hlk N  N (0 : Int32) σ _ _ _ hf hR (lv_sub hl [1, 0] rfl)
abbrev rm2_keepsTell : Room := { frames := 3, cells := 0, slots := 0, locals := 64 }
def f2_keepsTell_369 (N : Nat) (σ : Mm) : Option (Int32 × Mm) :=
  z_b (f9_refuse N (1 : Int32) (gI σ 47 2) σ) fun r_109 σ_110 =>
  z_c (isZ r_109) (some (r_109, σ_110))
def f2_keepsTell (N : Nat) (x1 : Int32) (σ : Mm) : Option (Int32 × Mm) :=
  if x1 = (13 : Int32) then (
  z_l (sI σ 47 3 ((gI σ 47 3) + (1 : Int32))) fun σ_1 =>
  z_b (f2_hasRoom N (gI σ_1 47 3) (6 : Int32) σ_1) fun r_2 σ_3 =>
  if r_2 = 0 then (
  some ((0 : Int32), σ_3)) else (
  z_b (f2_take N x1 σ_3) fun r_6 σ_7 =>
  if r_6 = 0 then (
  some ((0 : Int32), σ_7)) else (
  z_b (f2_take N (2 : Int32) σ_7) fun r_10 σ_11 =>
  if r_10 = 0 then (
  some ((0 : Int32), σ_11)) else (
  z_b (f2_take N (4 : Int32) σ_11) fun r_14 σ_15 =>
  if r_14 = 0 then (
  some ((0 : Int32), σ_15)) else (
  some ((1 : Int32), σ_15)))))) else (
  if x1 = (14 : Int32) then (
  z_l (sI σ 47 4 ((gI σ 47 4) + (1 : Int32))) fun σ_19 =>
  z_b (f2_hasRoom N (gI σ_19 47 4) (7 : Int32) σ_19) fun r_20 σ_21 =>
  if r_20 = 0 then (
  some ((0 : Int32), σ_21)) else (
  z_b (f2_take N x1 σ_21) fun r_24 σ_25 =>
  if r_24 = 0 then (
  some ((0 : Int32), σ_25)) else (
  z_b (f2_take N (2 : Int32) σ_25) fun r_28 σ_29 =>
  if r_28 = 0 then (
  some ((0 : Int32), σ_29)) else (
  z_b (f2_take N (3 : Int32) σ_29) fun r_32 σ_33 =>
  if r_32 = 0 then (
  some ((0 : Int32), σ_33)) else (
  z_b (f2_take N (3 : Int32) σ_33) fun r_36 σ_37 =>
  if r_36 = 0 then (
  some ((0 : Int32), σ_37)) else (
  z_b (f2_take N (2 : Int32) σ_37) fun r_40 σ_41 =>
  if r_40 = 0 then (
  some ((0 : Int32), σ_41)) else (
  z_b (f2_take N (4 : Int32) σ_41) fun r_44 σ_45 =>
  if r_44 = 0 then (
  some ((0 : Int32), σ_45)) else (
  some ((1 : Int32), σ_45))))))))) else (
  if x1 = (15 : Int32) then (
  z_l (sI σ 47 5 ((gI σ 47 5) + (1 : Int32))) fun σ_49 =>
  z_b (f2_hasRoom N (gI σ_49 47 5) (7 : Int32) σ_49) fun r_50 σ_51 =>
  if r_50 = 0 then (
  some ((0 : Int32), σ_51)) else (
  z_b (f2_take N x1 σ_51) fun r_54 σ_55 =>
  if r_54 = 0 then (
  some ((0 : Int32), σ_55)) else (
  z_b (f2_take N (2 : Int32) σ_55) fun r_58 σ_59 =>
  if r_58 = 0 then (
  some ((0 : Int32), σ_59)) else (
  z_b (f2_take N (3 : Int32) σ_59) fun r_62 σ_63 =>
  if r_62 = 0 then (
  some ((0 : Int32), σ_63)) else (
  z_b (f2_take N (3 : Int32) σ_63) fun r_66 σ_67 =>
  if r_66 = 0 then (
  some ((0 : Int32), σ_67)) else (
  z_b (f2_take N (4 : Int32) σ_67) fun r_70 σ_71 =>
  if r_70 = 0 then (
  some ((0 : Int32), σ_71)) else (
  some ((1 : Int32), σ_71)))))))) else (
  if x1 = (16 : Int32) then (
  z_l (sI σ 47 6 ((gI σ 47 6) + (1 : Int32))) fun σ_75 =>
  z_b (f2_hasRoom N (gI σ_75 47 6) (12 : Int32) σ_75) fun r_76 σ_77 =>
  if r_76 = 0 then (
  some ((0 : Int32), σ_77)) else (
  z_b (f2_take N x1 σ_77) fun r_80 σ_81 =>
  if r_80 = 0 then (
  some ((0 : Int32), σ_81)) else (
  z_b (f2_take N (2 : Int32) σ_81) fun r_84 σ_85 =>
  if r_84 = 0 then (
  some ((0 : Int32), σ_85)) else (
  z_b (f2_take N (2 : Int32) σ_85) fun r_88 σ_89 =>
  if r_88 = 0 then (
  some ((0 : Int32), σ_89)) else (
  z_b (f2_take N (2 : Int32) σ_89) fun r_92 σ_93 =>
  if r_92 = 0 then (
  some ((0 : Int32), σ_93)) else (
  z_b (f2_take N (3 : Int32) σ_93) fun r_96 σ_97 =>
  if r_96 = 0 then (
  some ((0 : Int32), σ_97)) else (
  z_b (f2_takeNames N σ_97) fun r_100 σ_101 =>
  if r_100 = 0 then (
  some ((0 : Int32), σ_101)) else (
  z_b (f2_take N (4 : Int32) σ_101) fun r_104 σ_105 =>
  if r_104 = 0 then (
  some ((0 : Int32), σ_105)) else (
  some ((1 : Int32), σ_105)))))))))) else (
  if x1 = (17 : Int32) then (
  f2_keepsTell_369 N σ) else (
  if x1 = (18 : Int32) then (
  f2_keepsTell_369 N σ) else (
  if x1 = (19 : Int32) then (
  f2_keepsTell_369 N σ) else (
  if x1 = (20 : Int32) then (
  f2_keepsTell_369 N σ) else (
  if x1 = (21 : Int32) then (
  z_b (f2_take N x1 σ) fun r_117 σ_118 =>
  if r_117 = 0 then (
  some ((0 : Int32), σ_118)) else (
  z_b (f2_take N (3 : Int32) σ_118) fun r_121 σ_122 =>
  if r_121 = 0 then (
  some ((0 : Int32), σ_122)) else (
  z_b (f2_take N (4 : Int32) σ_122) fun r_125 σ_126 =>
  if r_125 = 0 then (
  some ((0 : Int32), σ_126)) else (
  some ((1 : Int32), σ_126))))) else (
  if x1 = (22 : Int32) then (
  z_b (f2_take N x1 σ) fun r_130 σ_131 =>
  if r_130 = 0 then (
  some ((0 : Int32), σ_131)) else (
  z_b (f2_take N (3 : Int32) σ_131) fun r_134 σ_135 =>
  if r_134 = 0 then (
  some ((0 : Int32), σ_135)) else (
  z_b (f2_take N (4 : Int32) σ_135) fun r_138 σ_139 =>
  if r_138 = 0 then (
  some ((0 : Int32), σ_139)) else (
  some ((1 : Int32), σ_139))))) else (
  f2_keepsTell_369 N σ))))))))))
set_option maxHeartbeats 4000000 in
set_option maxRecDepth 100000 in
theorem w2_keepsTell_369 (X : Cx p s m args c cX2_keepsTell 2 RX2 G) (hr : meth.sig.returnType = some .boolean) (hlk : meth.locks = false) (N : Nat) :
    ∀ (σ : Mm) (H : Heap) (locs : List Loc) (ls : Array Slot), f2_keepsTell_369 N σ = some (r0, σ0) → Rp G 212 tt σ s H locs → lv_has ls 2 [(0, .ref (G.2.2 + 47))] → W p l e rm2_keepsTell s m args below meth c H locs 0 0 (MQ below (P_i G 212 tt r0 σ0) args s 0 0 (Fr G)) (F0 m 369 ls []) := by
  have hx := X.1
  have hb := X.2.1
  intro σ H locs ls hf hR hl
  unfold f2_keepsTell_369 at hf
  refine lv_aload_n hx hb dX2_keepsTell_369 rfl (lv_at hl 0 rfl) ?_
  refine r_gs (t := 2) X hR fr_2_37 kh_47 (sx_2_0 kh_47) dX2_keepsTell_370 ?_
  refine lv_iconst (v := (1 : Int32)) hx hb dX2_keepsTell_373 (by decide) ?_
  refine lv_aload_n hx hb dX2_keepsTell_374 rfl (lv_at hl 0 rfl) ?_
  refine r_gi X hR fi_2_9 kh_47 dX2_keepsTell_375 ?_
  obtain ⟨r_109, σ_110, hc_111, hf⟩ := z_b_e hf
  refine go_i hR (mv_run (As := [.int (1 : Int32), .int (gI σ 47 2)]) (rest := []) X hR mv_2_72 kh_2 (kd_lt kh_2 (by decide)) (c9_refuse l G N hc_111) ⟨rfl, rfl, Nat.le_of_ble_eq_true rfl, Nat.le_of_ble_eq_true rfl⟩ rfl hl.1 rfl (Nat.le_of_ble_eq_true rfl) dX2_keepsTell_378 ⟨Nat.zero_le _, Nat.zero_le _⟩) (fun H locs hR => ?_)
  obtain ⟨hz_112, hf⟩ := z_c_e hf
  exact e_z X hR hr hlk hz_112 hf dX2_keepsTell_381
set_option maxHeartbeats 4000000 in
set_option maxRecDepth 100000 in
theorem c2_keepsTell (l : Launch) (G : Gp) (N : Nat) {x1 : Int32} {σ σ0 : Mm} {r0 : Int32} (hf : f2_keepsTell N x1 σ = some (r0, σ0)) : Met l yX2_keepsTell (WS yX2_keepsTell cX2_keepsTell 2 (some .boolean)) rm2_keepsTell (va_Pc [.ref (G.2.2 + 47), .int x1] (Pd G 212 tt σ)) (P_i G 212 tt r0 σ0) 0 0 (Fr G) := by
  refine ct [(0, .ref (G.2.2 + 47)), (1, .int x1)] rfl (by decide) (Nat.le_of_ble_eq_true rfl) ?_
  intro p e s m below meth c ls X hr hlk hR hl
  have X : Cx p s m _ c cX2_keepsTell 2 RX2 G := X
  have hx := X.1
  have hb := X.2.1
  unfold f2_keepsTell at hf
  refine lv_iload_n hx hb dX2_keepsTell_0 rfl (lv_at hl 1 rfl) ?_
  by_cases c_18 : x1 = (13 : Int32)
  · replace hf := z_t c_18 hf
    refine lv_tableIn (off := 55) (tgt := 56) hx hb dX2_keepsTell_1 (by rw [c_18]; decide) (by rw [c_18]; decide) (by rw [c_18]; rfl) (by decide) ?_
    refine lv_aload_n hx hb dX2_keepsTell_56 rfl (lv_at hl 0 rfl) ?_
    refine lv_dup hx hb dX2_keepsTell_57 rfl ?_
    refine r_gi X hR fi_2_15 kh_47 dX2_keepsTell_58 ?_
    refine lv_iconst (v := (1 : Int32)) hx hb dX2_keepsTell_61 (by decide) ?_
    refine lv_iadd hx hb dX2_keepsTell_62 ?_
    refine r_pi X hR pi_2_15 kh_47 dX2_keepsTell_63 (fun H locs σ_1 eσ_1 hR => ?_)
    replace hf := z_l_e eσ_1 hf
    refine lv_aload_n hx hb dX2_keepsTell_66 rfl (lv_at hl 0 rfl) ?_
    refine lv_aload_n hx hb dX2_keepsTell_67 rfl (lv_at hl 0 rfl) ?_
    refine r_gi X hR fi_2_15 kh_47 dX2_keepsTell_68 ?_
    refine lv_bipush (v := (6 : Int32)) hx hb dX2_keepsTell_71 (by decide) ?_
    obtain ⟨r_2, σ_3, hc_4, hf⟩ := z_b_e hf
    refine go_i hR (mv_run (As := [.int (gI σ_1 47 3), .int (6 : Int32)]) (rest := []) X hR mv_2_61 kh_47 (kd_lt kh_47 (by decide)) (c2_hasRoom l G N hc_4) ⟨rfl, rfl, Nat.le_of_ble_eq_true rfl, Nat.le_of_ble_eq_true rfl⟩ rfl hl.1 rfl (Nat.le_of_ble_eq_true rfl) dX2_keepsTell_73 ⟨Nat.zero_le _, Nat.zero_le _⟩) (fun H locs hR => ?_)
    refine lv_if_eq (tgt := 107) hx hb dX2_keepsTell_76 (by decide) (fun c_5 => ?_) (fun c_5 => ?_)
    · replace hf := z_t c_5 hf
      refine lv_iconst (v := (0 : Int32)) hx hb dX2_keepsTell_107 (by decide) ?_
      exact e_z X hR hr hlk rfl hf dX2_keepsTell_108
    · replace hf := z_f c_5 hf
      refine lv_aload_n hx hb dX2_keepsTell_79 rfl (lv_at hl 0 rfl) ?_
      refine lv_iload_n hx hb dX2_keepsTell_80 rfl (lv_at hl 1 rfl) ?_
      obtain ⟨r_6, σ_7, hc_8, hf⟩ := z_b_e hf
      refine go_i hR (mv_run (As := [.int x1]) (rest := []) X hR mv_2_65 kh_47 (kd_lt kh_47 (by decide)) (c2_take l G N hc_8) ⟨rfl, rfl, Nat.le_of_ble_eq_true rfl, Nat.le_of_ble_eq_true rfl⟩ rfl hl.1 rfl (Nat.le_of_ble_eq_true rfl) dX2_keepsTell_81 ⟨Nat.zero_le _, Nat.zero_le _⟩) (fun H locs hR => ?_)
      refine lv_if_eq (tgt := 107) hx hb dX2_keepsTell_84 (by decide) (fun c_9 => ?_) (fun c_9 => ?_)
      · replace hf := z_t c_9 hf
        refine lv_iconst (v := (0 : Int32)) hx hb dX2_keepsTell_107 (by decide) ?_
        exact e_z X hR hr hlk rfl hf dX2_keepsTell_108
      · replace hf := z_f c_9 hf
        refine lv_aload_n hx hb dX2_keepsTell_87 rfl (lv_at hl 0 rfl) ?_
        refine lv_iconst (v := (2 : Int32)) hx hb dX2_keepsTell_88 (by decide) ?_
        obtain ⟨r_10, σ_11, hc_12, hf⟩ := z_b_e hf
        refine go_i hR (mv_run (As := [.int (2 : Int32)]) (rest := []) X hR mv_2_65 kh_47 (kd_lt kh_47 (by decide)) (c2_take l G N hc_12) ⟨rfl, rfl, Nat.le_of_ble_eq_true rfl, Nat.le_of_ble_eq_true rfl⟩ rfl hl.1 rfl (Nat.le_of_ble_eq_true rfl) dX2_keepsTell_89 ⟨Nat.zero_le _, Nat.zero_le _⟩) (fun H locs hR => ?_)
        refine lv_if_eq (tgt := 107) hx hb dX2_keepsTell_92 (by decide) (fun c_13 => ?_) (fun c_13 => ?_)
        · replace hf := z_t c_13 hf
          refine lv_iconst (v := (0 : Int32)) hx hb dX2_keepsTell_107 (by decide) ?_
          exact e_z X hR hr hlk rfl hf dX2_keepsTell_108
        · replace hf := z_f c_13 hf
          refine lv_aload_n hx hb dX2_keepsTell_95 rfl (lv_at hl 0 rfl) ?_
          refine lv_iconst (v := (4 : Int32)) hx hb dX2_keepsTell_96 (by decide) ?_
          obtain ⟨r_14, σ_15, hc_16, hf⟩ := z_b_e hf
          refine go_i hR (mv_run (As := [.int (4 : Int32)]) (rest := []) X hR mv_2_65 kh_47 (kd_lt kh_47 (by decide)) (c2_take l G N hc_16) ⟨rfl, rfl, Nat.le_of_ble_eq_true rfl, Nat.le_of_ble_eq_true rfl⟩ rfl hl.1 rfl (Nat.le_of_ble_eq_true rfl) dX2_keepsTell_97 ⟨Nat.zero_le _, Nat.zero_le _⟩) (fun H locs hR => ?_)
          refine lv_if_eq (tgt := 107) hx hb dX2_keepsTell_100 (by decide) (fun c_17 => ?_) (fun c_17 => ?_)
          · replace hf := z_t c_17 hf
            refine lv_iconst (v := (0 : Int32)) hx hb dX2_keepsTell_107 (by decide) ?_
            exact e_z X hR hr hlk rfl hf dX2_keepsTell_108
          · replace hf := z_f c_17 hf
            refine lv_iconst (v := (1 : Int32)) hx hb dX2_keepsTell_103 (by decide) ?_
            refine lv_goto (tgt := 108) hx hb dX2_keepsTell_104 (by decide) ?_
            exact e_z X hR hr hlk rfl hf dX2_keepsTell_108
  replace hf := z_f c_18 hf
  by_cases c_48 : x1 = (14 : Int32)
  · replace hf := z_t c_48 hf
    refine lv_tableIn (off := 108) (tgt := 109) hx hb dX2_keepsTell_1 (by rw [c_48]; decide) (by rw [c_48]; decide) (by rw [c_48]; rfl) (by decide) ?_
    refine lv_aload_n hx hb dX2_keepsTell_109 rfl (lv_at hl 0 rfl) ?_
    refine lv_dup hx hb dX2_keepsTell_110 rfl ?_
    refine r_gi X hR fi_2_18 kh_47 dX2_keepsTell_111 ?_
    refine lv_iconst (v := (1 : Int32)) hx hb dX2_keepsTell_114 (by decide) ?_
    refine lv_iadd hx hb dX2_keepsTell_115 ?_
    refine r_pi X hR pi_2_18 kh_47 dX2_keepsTell_116 (fun H locs σ_19 eσ_19 hR => ?_)
    replace hf := z_l_e eσ_19 hf
    refine lv_aload_n hx hb dX2_keepsTell_119 rfl (lv_at hl 0 rfl) ?_
    refine lv_aload_n hx hb dX2_keepsTell_120 rfl (lv_at hl 0 rfl) ?_
    refine r_gi X hR fi_2_18 kh_47 dX2_keepsTell_121 ?_
    refine lv_bipush (v := (7 : Int32)) hx hb dX2_keepsTell_124 (by decide) ?_
    obtain ⟨r_20, σ_21, hc_22, hf⟩ := z_b_e hf
    refine go_i hR (mv_run (As := [.int (gI σ_19 47 4), .int (7 : Int32)]) (rest := []) X hR mv_2_61 kh_47 (kd_lt kh_47 (by decide)) (c2_hasRoom l G N hc_22) ⟨rfl, rfl, Nat.le_of_ble_eq_true rfl, Nat.le_of_ble_eq_true rfl⟩ rfl hl.1 rfl (Nat.le_of_ble_eq_true rfl) dX2_keepsTell_126 ⟨Nat.zero_le _, Nat.zero_le _⟩) (fun H locs hR => ?_)
    refine lv_if_eq (tgt := 184) hx hb dX2_keepsTell_129 (by decide) (fun c_23 => ?_) (fun c_23 => ?_)
    · replace hf := z_t c_23 hf
      refine lv_iconst (v := (0 : Int32)) hx hb dX2_keepsTell_184 (by decide) ?_
      exact e_z X hR hr hlk rfl hf dX2_keepsTell_185
    · replace hf := z_f c_23 hf
      refine lv_aload_n hx hb dX2_keepsTell_132 rfl (lv_at hl 0 rfl) ?_
      refine lv_iload_n hx hb dX2_keepsTell_133 rfl (lv_at hl 1 rfl) ?_
      obtain ⟨r_24, σ_25, hc_26, hf⟩ := z_b_e hf
      refine go_i hR (mv_run (As := [.int x1]) (rest := []) X hR mv_2_65 kh_47 (kd_lt kh_47 (by decide)) (c2_take l G N hc_26) ⟨rfl, rfl, Nat.le_of_ble_eq_true rfl, Nat.le_of_ble_eq_true rfl⟩ rfl hl.1 rfl (Nat.le_of_ble_eq_true rfl) dX2_keepsTell_134 ⟨Nat.zero_le _, Nat.zero_le _⟩) (fun H locs hR => ?_)
      refine lv_if_eq (tgt := 184) hx hb dX2_keepsTell_137 (by decide) (fun c_27 => ?_) (fun c_27 => ?_)
      · replace hf := z_t c_27 hf
        refine lv_iconst (v := (0 : Int32)) hx hb dX2_keepsTell_184 (by decide) ?_
        exact e_z X hR hr hlk rfl hf dX2_keepsTell_185
      · replace hf := z_f c_27 hf
        refine lv_aload_n hx hb dX2_keepsTell_140 rfl (lv_at hl 0 rfl) ?_
        refine lv_iconst (v := (2 : Int32)) hx hb dX2_keepsTell_141 (by decide) ?_
        obtain ⟨r_28, σ_29, hc_30, hf⟩ := z_b_e hf
        refine go_i hR (mv_run (As := [.int (2 : Int32)]) (rest := []) X hR mv_2_65 kh_47 (kd_lt kh_47 (by decide)) (c2_take l G N hc_30) ⟨rfl, rfl, Nat.le_of_ble_eq_true rfl, Nat.le_of_ble_eq_true rfl⟩ rfl hl.1 rfl (Nat.le_of_ble_eq_true rfl) dX2_keepsTell_142 ⟨Nat.zero_le _, Nat.zero_le _⟩) (fun H locs hR => ?_)
        refine lv_if_eq (tgt := 184) hx hb dX2_keepsTell_145 (by decide) (fun c_31 => ?_) (fun c_31 => ?_)
        · replace hf := z_t c_31 hf
          refine lv_iconst (v := (0 : Int32)) hx hb dX2_keepsTell_184 (by decide) ?_
          exact e_z X hR hr hlk rfl hf dX2_keepsTell_185
        · replace hf := z_f c_31 hf
          refine lv_aload_n hx hb dX2_keepsTell_148 rfl (lv_at hl 0 rfl) ?_
          refine lv_iconst (v := (3 : Int32)) hx hb dX2_keepsTell_149 (by decide) ?_
          obtain ⟨r_32, σ_33, hc_34, hf⟩ := z_b_e hf
          refine go_i hR (mv_run (As := [.int (3 : Int32)]) (rest := []) X hR mv_2_65 kh_47 (kd_lt kh_47 (by decide)) (c2_take l G N hc_34) ⟨rfl, rfl, Nat.le_of_ble_eq_true rfl, Nat.le_of_ble_eq_true rfl⟩ rfl hl.1 rfl (Nat.le_of_ble_eq_true rfl) dX2_keepsTell_150 ⟨Nat.zero_le _, Nat.zero_le _⟩) (fun H locs hR => ?_)
          refine lv_if_eq (tgt := 184) hx hb dX2_keepsTell_153 (by decide) (fun c_35 => ?_) (fun c_35 => ?_)
          · replace hf := z_t c_35 hf
            refine lv_iconst (v := (0 : Int32)) hx hb dX2_keepsTell_184 (by decide) ?_
            exact e_z X hR hr hlk rfl hf dX2_keepsTell_185
          · replace hf := z_f c_35 hf
            refine lv_aload_n hx hb dX2_keepsTell_156 rfl (lv_at hl 0 rfl) ?_
            refine lv_iconst (v := (3 : Int32)) hx hb dX2_keepsTell_157 (by decide) ?_
            obtain ⟨r_36, σ_37, hc_38, hf⟩ := z_b_e hf
            refine go_i hR (mv_run (As := [.int (3 : Int32)]) (rest := []) X hR mv_2_65 kh_47 (kd_lt kh_47 (by decide)) (c2_take l G N hc_38) ⟨rfl, rfl, Nat.le_of_ble_eq_true rfl, Nat.le_of_ble_eq_true rfl⟩ rfl hl.1 rfl (Nat.le_of_ble_eq_true rfl) dX2_keepsTell_158 ⟨Nat.zero_le _, Nat.zero_le _⟩) (fun H locs hR => ?_)
            refine lv_if_eq (tgt := 184) hx hb dX2_keepsTell_161 (by decide) (fun c_39 => ?_) (fun c_39 => ?_)
            · replace hf := z_t c_39 hf
              refine lv_iconst (v := (0 : Int32)) hx hb dX2_keepsTell_184 (by decide) ?_
              exact e_z X hR hr hlk rfl hf dX2_keepsTell_185
            · replace hf := z_f c_39 hf
              refine lv_aload_n hx hb dX2_keepsTell_164 rfl (lv_at hl 0 rfl) ?_
              refine lv_iconst (v := (2 : Int32)) hx hb dX2_keepsTell_165 (by decide) ?_
              obtain ⟨r_40, σ_41, hc_42, hf⟩ := z_b_e hf
              refine go_i hR (mv_run (As := [.int (2 : Int32)]) (rest := []) X hR mv_2_65 kh_47 (kd_lt kh_47 (by decide)) (c2_take l G N hc_42) ⟨rfl, rfl, Nat.le_of_ble_eq_true rfl, Nat.le_of_ble_eq_true rfl⟩ rfl hl.1 rfl (Nat.le_of_ble_eq_true rfl) dX2_keepsTell_166 ⟨Nat.zero_le _, Nat.zero_le _⟩) (fun H locs hR => ?_)
              refine lv_if_eq (tgt := 184) hx hb dX2_keepsTell_169 (by decide) (fun c_43 => ?_) (fun c_43 => ?_)
              · replace hf := z_t c_43 hf
                refine lv_iconst (v := (0 : Int32)) hx hb dX2_keepsTell_184 (by decide) ?_
                exact e_z X hR hr hlk rfl hf dX2_keepsTell_185
              · replace hf := z_f c_43 hf
                refine lv_aload_n hx hb dX2_keepsTell_172 rfl (lv_at hl 0 rfl) ?_
                refine lv_iconst (v := (4 : Int32)) hx hb dX2_keepsTell_173 (by decide) ?_
                obtain ⟨r_44, σ_45, hc_46, hf⟩ := z_b_e hf
                refine go_i hR (mv_run (As := [.int (4 : Int32)]) (rest := []) X hR mv_2_65 kh_47 (kd_lt kh_47 (by decide)) (c2_take l G N hc_46) ⟨rfl, rfl, Nat.le_of_ble_eq_true rfl, Nat.le_of_ble_eq_true rfl⟩ rfl hl.1 rfl (Nat.le_of_ble_eq_true rfl) dX2_keepsTell_174 ⟨Nat.zero_le _, Nat.zero_le _⟩) (fun H locs hR => ?_)
                refine lv_if_eq (tgt := 184) hx hb dX2_keepsTell_177 (by decide) (fun c_47 => ?_) (fun c_47 => ?_)
                · replace hf := z_t c_47 hf
                  refine lv_iconst (v := (0 : Int32)) hx hb dX2_keepsTell_184 (by decide) ?_
                  exact e_z X hR hr hlk rfl hf dX2_keepsTell_185
                · replace hf := z_f c_47 hf
                  refine lv_iconst (v := (1 : Int32)) hx hb dX2_keepsTell_180 (by decide) ?_
                  refine lv_goto (tgt := 185) hx hb dX2_keepsTell_181 (by decide) ?_
                  exact e_z X hR hr hlk rfl hf dX2_keepsTell_185
  replace hf := z_f c_48 hf
  by_cases c_74 : x1 = (15 : Int32)
  · replace hf := z_t c_74 hf
    refine lv_tableIn (off := 185) (tgt := 186) hx hb dX2_keepsTell_1 (by rw [c_74]; decide) (by rw [c_74]; decide) (by rw [c_74]; rfl) (by decide) ?_
    refine lv_aload_n hx hb dX2_keepsTell_186 rfl (lv_at hl 0 rfl) ?_
    refine lv_dup hx hb dX2_keepsTell_187 rfl ?_
    refine r_gi X hR fi_2_21 kh_47 dX2_keepsTell_188 ?_
    refine lv_iconst (v := (1 : Int32)) hx hb dX2_keepsTell_191 (by decide) ?_
    refine lv_iadd hx hb dX2_keepsTell_192 ?_
    refine r_pi X hR pi_2_21 kh_47 dX2_keepsTell_193 (fun H locs σ_49 eσ_49 hR => ?_)
    replace hf := z_l_e eσ_49 hf
    refine lv_aload_n hx hb dX2_keepsTell_196 rfl (lv_at hl 0 rfl) ?_
    refine lv_aload_n hx hb dX2_keepsTell_197 rfl (lv_at hl 0 rfl) ?_
    refine r_gi X hR fi_2_21 kh_47 dX2_keepsTell_198 ?_
    refine lv_bipush (v := (7 : Int32)) hx hb dX2_keepsTell_201 (by decide) ?_
    obtain ⟨r_50, σ_51, hc_52, hf⟩ := z_b_e hf
    refine go_i hR (mv_run (As := [.int (gI σ_49 47 5), .int (7 : Int32)]) (rest := []) X hR mv_2_61 kh_47 (kd_lt kh_47 (by decide)) (c2_hasRoom l G N hc_52) ⟨rfl, rfl, Nat.le_of_ble_eq_true rfl, Nat.le_of_ble_eq_true rfl⟩ rfl hl.1 rfl (Nat.le_of_ble_eq_true rfl) dX2_keepsTell_203 ⟨Nat.zero_le _, Nat.zero_le _⟩) (fun H locs hR => ?_)
    refine lv_if_eq (tgt := 253) hx hb dX2_keepsTell_206 (by decide) (fun c_53 => ?_) (fun c_53 => ?_)
    · replace hf := z_t c_53 hf
      refine lv_iconst (v := (0 : Int32)) hx hb dX2_keepsTell_253 (by decide) ?_
      exact e_z X hR hr hlk rfl hf dX2_keepsTell_254
    · replace hf := z_f c_53 hf
      refine lv_aload_n hx hb dX2_keepsTell_209 rfl (lv_at hl 0 rfl) ?_
      refine lv_iload_n hx hb dX2_keepsTell_210 rfl (lv_at hl 1 rfl) ?_
      obtain ⟨r_54, σ_55, hc_56, hf⟩ := z_b_e hf
      refine go_i hR (mv_run (As := [.int x1]) (rest := []) X hR mv_2_65 kh_47 (kd_lt kh_47 (by decide)) (c2_take l G N hc_56) ⟨rfl, rfl, Nat.le_of_ble_eq_true rfl, Nat.le_of_ble_eq_true rfl⟩ rfl hl.1 rfl (Nat.le_of_ble_eq_true rfl) dX2_keepsTell_211 ⟨Nat.zero_le _, Nat.zero_le _⟩) (fun H locs hR => ?_)
      refine lv_if_eq (tgt := 253) hx hb dX2_keepsTell_214 (by decide) (fun c_57 => ?_) (fun c_57 => ?_)
      · replace hf := z_t c_57 hf
        refine lv_iconst (v := (0 : Int32)) hx hb dX2_keepsTell_253 (by decide) ?_
        exact e_z X hR hr hlk rfl hf dX2_keepsTell_254
      · replace hf := z_f c_57 hf
        refine lv_aload_n hx hb dX2_keepsTell_217 rfl (lv_at hl 0 rfl) ?_
        refine lv_iconst (v := (2 : Int32)) hx hb dX2_keepsTell_218 (by decide) ?_
        obtain ⟨r_58, σ_59, hc_60, hf⟩ := z_b_e hf
        refine go_i hR (mv_run (As := [.int (2 : Int32)]) (rest := []) X hR mv_2_65 kh_47 (kd_lt kh_47 (by decide)) (c2_take l G N hc_60) ⟨rfl, rfl, Nat.le_of_ble_eq_true rfl, Nat.le_of_ble_eq_true rfl⟩ rfl hl.1 rfl (Nat.le_of_ble_eq_true rfl) dX2_keepsTell_219 ⟨Nat.zero_le _, Nat.zero_le _⟩) (fun H locs hR => ?_)
        refine lv_if_eq (tgt := 253) hx hb dX2_keepsTell_222 (by decide) (fun c_61 => ?_) (fun c_61 => ?_)
        · replace hf := z_t c_61 hf
          refine lv_iconst (v := (0 : Int32)) hx hb dX2_keepsTell_253 (by decide) ?_
          exact e_z X hR hr hlk rfl hf dX2_keepsTell_254
        · replace hf := z_f c_61 hf
          refine lv_aload_n hx hb dX2_keepsTell_225 rfl (lv_at hl 0 rfl) ?_
          refine lv_iconst (v := (3 : Int32)) hx hb dX2_keepsTell_226 (by decide) ?_
          obtain ⟨r_62, σ_63, hc_64, hf⟩ := z_b_e hf
          refine go_i hR (mv_run (As := [.int (3 : Int32)]) (rest := []) X hR mv_2_65 kh_47 (kd_lt kh_47 (by decide)) (c2_take l G N hc_64) ⟨rfl, rfl, Nat.le_of_ble_eq_true rfl, Nat.le_of_ble_eq_true rfl⟩ rfl hl.1 rfl (Nat.le_of_ble_eq_true rfl) dX2_keepsTell_227 ⟨Nat.zero_le _, Nat.zero_le _⟩) (fun H locs hR => ?_)
          refine lv_if_eq (tgt := 253) hx hb dX2_keepsTell_230 (by decide) (fun c_65 => ?_) (fun c_65 => ?_)
          · replace hf := z_t c_65 hf
            refine lv_iconst (v := (0 : Int32)) hx hb dX2_keepsTell_253 (by decide) ?_
            exact e_z X hR hr hlk rfl hf dX2_keepsTell_254
          · replace hf := z_f c_65 hf
            refine lv_aload_n hx hb dX2_keepsTell_233 rfl (lv_at hl 0 rfl) ?_
            refine lv_iconst (v := (3 : Int32)) hx hb dX2_keepsTell_234 (by decide) ?_
            obtain ⟨r_66, σ_67, hc_68, hf⟩ := z_b_e hf
            refine go_i hR (mv_run (As := [.int (3 : Int32)]) (rest := []) X hR mv_2_65 kh_47 (kd_lt kh_47 (by decide)) (c2_take l G N hc_68) ⟨rfl, rfl, Nat.le_of_ble_eq_true rfl, Nat.le_of_ble_eq_true rfl⟩ rfl hl.1 rfl (Nat.le_of_ble_eq_true rfl) dX2_keepsTell_235 ⟨Nat.zero_le _, Nat.zero_le _⟩) (fun H locs hR => ?_)
            refine lv_if_eq (tgt := 253) hx hb dX2_keepsTell_238 (by decide) (fun c_69 => ?_) (fun c_69 => ?_)
            · replace hf := z_t c_69 hf
              refine lv_iconst (v := (0 : Int32)) hx hb dX2_keepsTell_253 (by decide) ?_
              exact e_z X hR hr hlk rfl hf dX2_keepsTell_254
            · replace hf := z_f c_69 hf
              refine lv_aload_n hx hb dX2_keepsTell_241 rfl (lv_at hl 0 rfl) ?_
              refine lv_iconst (v := (4 : Int32)) hx hb dX2_keepsTell_242 (by decide) ?_
              obtain ⟨r_70, σ_71, hc_72, hf⟩ := z_b_e hf
              refine go_i hR (mv_run (As := [.int (4 : Int32)]) (rest := []) X hR mv_2_65 kh_47 (kd_lt kh_47 (by decide)) (c2_take l G N hc_72) ⟨rfl, rfl, Nat.le_of_ble_eq_true rfl, Nat.le_of_ble_eq_true rfl⟩ rfl hl.1 rfl (Nat.le_of_ble_eq_true rfl) dX2_keepsTell_243 ⟨Nat.zero_le _, Nat.zero_le _⟩) (fun H locs hR => ?_)
              refine lv_if_eq (tgt := 253) hx hb dX2_keepsTell_246 (by decide) (fun c_73 => ?_) (fun c_73 => ?_)
              · replace hf := z_t c_73 hf
                refine lv_iconst (v := (0 : Int32)) hx hb dX2_keepsTell_253 (by decide) ?_
                exact e_z X hR hr hlk rfl hf dX2_keepsTell_254
              · replace hf := z_f c_73 hf
                refine lv_iconst (v := (1 : Int32)) hx hb dX2_keepsTell_249 (by decide) ?_
                refine lv_goto (tgt := 254) hx hb dX2_keepsTell_250 (by decide) ?_
                exact e_z X hR hr hlk rfl hf dX2_keepsTell_254
  replace hf := z_f c_74 hf
  by_cases c_108 : x1 = (16 : Int32)
  · replace hf := z_t c_108 hf
    refine lv_tableIn (off := 254) (tgt := 255) hx hb dX2_keepsTell_1 (by rw [c_108]; decide) (by rw [c_108]; decide) (by rw [c_108]; rfl) (by decide) ?_
    refine lv_aload_n hx hb dX2_keepsTell_255 rfl (lv_at hl 0 rfl) ?_
    refine lv_dup hx hb dX2_keepsTell_256 rfl ?_
    refine r_gi X hR fi_2_24 kh_47 dX2_keepsTell_257 ?_
    refine lv_iconst (v := (1 : Int32)) hx hb dX2_keepsTell_260 (by decide) ?_
    refine lv_iadd hx hb dX2_keepsTell_261 ?_
    refine r_pi X hR pi_2_24 kh_47 dX2_keepsTell_262 (fun H locs σ_75 eσ_75 hR => ?_)
    replace hf := z_l_e eσ_75 hf
    refine lv_aload_n hx hb dX2_keepsTell_265 rfl (lv_at hl 0 rfl) ?_
    refine lv_aload_n hx hb dX2_keepsTell_266 rfl (lv_at hl 0 rfl) ?_
    refine r_gi X hR fi_2_24 kh_47 dX2_keepsTell_267 ?_
    refine lv_bipush (v := (12 : Int32)) hx hb dX2_keepsTell_270 (by decide) ?_
    obtain ⟨r_76, σ_77, hc_78, hf⟩ := z_b_e hf
    refine go_i hR (mv_run (As := [.int (gI σ_75 47 6), .int (12 : Int32)]) (rest := []) X hR mv_2_61 kh_47 (kd_lt kh_47 (by decide)) (c2_hasRoom l G N hc_78) ⟨rfl, rfl, Nat.le_of_ble_eq_true rfl, Nat.le_of_ble_eq_true rfl⟩ rfl hl.1 rfl (Nat.le_of_ble_eq_true rfl) dX2_keepsTell_272 ⟨Nat.zero_le _, Nat.zero_le _⟩) (fun H locs hR => ?_)
    refine lv_if_eq (tgt := 337) hx hb dX2_keepsTell_275 (by decide) (fun c_79 => ?_) (fun c_79 => ?_)
    · replace hf := z_t c_79 hf
      refine lv_iconst (v := (0 : Int32)) hx hb dX2_keepsTell_337 (by decide) ?_
      exact e_z X hR hr hlk rfl hf dX2_keepsTell_338
    · replace hf := z_f c_79 hf
      refine lv_aload_n hx hb dX2_keepsTell_278 rfl (lv_at hl 0 rfl) ?_
      refine lv_iload_n hx hb dX2_keepsTell_279 rfl (lv_at hl 1 rfl) ?_
      obtain ⟨r_80, σ_81, hc_82, hf⟩ := z_b_e hf
      refine go_i hR (mv_run (As := [.int x1]) (rest := []) X hR mv_2_65 kh_47 (kd_lt kh_47 (by decide)) (c2_take l G N hc_82) ⟨rfl, rfl, Nat.le_of_ble_eq_true rfl, Nat.le_of_ble_eq_true rfl⟩ rfl hl.1 rfl (Nat.le_of_ble_eq_true rfl) dX2_keepsTell_280 ⟨Nat.zero_le _, Nat.zero_le _⟩) (fun H locs hR => ?_)
      refine lv_if_eq (tgt := 337) hx hb dX2_keepsTell_283 (by decide) (fun c_83 => ?_) (fun c_83 => ?_)
      · replace hf := z_t c_83 hf
        refine lv_iconst (v := (0 : Int32)) hx hb dX2_keepsTell_337 (by decide) ?_
        exact e_z X hR hr hlk rfl hf dX2_keepsTell_338
      · replace hf := z_f c_83 hf
        refine lv_aload_n hx hb dX2_keepsTell_286 rfl (lv_at hl 0 rfl) ?_
        refine lv_iconst (v := (2 : Int32)) hx hb dX2_keepsTell_287 (by decide) ?_
        obtain ⟨r_84, σ_85, hc_86, hf⟩ := z_b_e hf
        refine go_i hR (mv_run (As := [.int (2 : Int32)]) (rest := []) X hR mv_2_65 kh_47 (kd_lt kh_47 (by decide)) (c2_take l G N hc_86) ⟨rfl, rfl, Nat.le_of_ble_eq_true rfl, Nat.le_of_ble_eq_true rfl⟩ rfl hl.1 rfl (Nat.le_of_ble_eq_true rfl) dX2_keepsTell_288 ⟨Nat.zero_le _, Nat.zero_le _⟩) (fun H locs hR => ?_)
        refine lv_if_eq (tgt := 337) hx hb dX2_keepsTell_291 (by decide) (fun c_87 => ?_) (fun c_87 => ?_)
        · replace hf := z_t c_87 hf
          refine lv_iconst (v := (0 : Int32)) hx hb dX2_keepsTell_337 (by decide) ?_
          exact e_z X hR hr hlk rfl hf dX2_keepsTell_338
        · replace hf := z_f c_87 hf
          refine lv_aload_n hx hb dX2_keepsTell_294 rfl (lv_at hl 0 rfl) ?_
          refine lv_iconst (v := (2 : Int32)) hx hb dX2_keepsTell_295 (by decide) ?_
          obtain ⟨r_88, σ_89, hc_90, hf⟩ := z_b_e hf
          refine go_i hR (mv_run (As := [.int (2 : Int32)]) (rest := []) X hR mv_2_65 kh_47 (kd_lt kh_47 (by decide)) (c2_take l G N hc_90) ⟨rfl, rfl, Nat.le_of_ble_eq_true rfl, Nat.le_of_ble_eq_true rfl⟩ rfl hl.1 rfl (Nat.le_of_ble_eq_true rfl) dX2_keepsTell_296 ⟨Nat.zero_le _, Nat.zero_le _⟩) (fun H locs hR => ?_)
          refine lv_if_eq (tgt := 337) hx hb dX2_keepsTell_299 (by decide) (fun c_91 => ?_) (fun c_91 => ?_)
          · replace hf := z_t c_91 hf
            refine lv_iconst (v := (0 : Int32)) hx hb dX2_keepsTell_337 (by decide) ?_
            exact e_z X hR hr hlk rfl hf dX2_keepsTell_338
          · replace hf := z_f c_91 hf
            refine lv_aload_n hx hb dX2_keepsTell_302 rfl (lv_at hl 0 rfl) ?_
            refine lv_iconst (v := (2 : Int32)) hx hb dX2_keepsTell_303 (by decide) ?_
            obtain ⟨r_92, σ_93, hc_94, hf⟩ := z_b_e hf
            refine go_i hR (mv_run (As := [.int (2 : Int32)]) (rest := []) X hR mv_2_65 kh_47 (kd_lt kh_47 (by decide)) (c2_take l G N hc_94) ⟨rfl, rfl, Nat.le_of_ble_eq_true rfl, Nat.le_of_ble_eq_true rfl⟩ rfl hl.1 rfl (Nat.le_of_ble_eq_true rfl) dX2_keepsTell_304 ⟨Nat.zero_le _, Nat.zero_le _⟩) (fun H locs hR => ?_)
            refine lv_if_eq (tgt := 337) hx hb dX2_keepsTell_307 (by decide) (fun c_95 => ?_) (fun c_95 => ?_)
            · replace hf := z_t c_95 hf
              refine lv_iconst (v := (0 : Int32)) hx hb dX2_keepsTell_337 (by decide) ?_
              exact e_z X hR hr hlk rfl hf dX2_keepsTell_338
            · replace hf := z_f c_95 hf
              refine lv_aload_n hx hb dX2_keepsTell_310 rfl (lv_at hl 0 rfl) ?_
              refine lv_iconst (v := (3 : Int32)) hx hb dX2_keepsTell_311 (by decide) ?_
              obtain ⟨r_96, σ_97, hc_98, hf⟩ := z_b_e hf
              refine go_i hR (mv_run (As := [.int (3 : Int32)]) (rest := []) X hR mv_2_65 kh_47 (kd_lt kh_47 (by decide)) (c2_take l G N hc_98) ⟨rfl, rfl, Nat.le_of_ble_eq_true rfl, Nat.le_of_ble_eq_true rfl⟩ rfl hl.1 rfl (Nat.le_of_ble_eq_true rfl) dX2_keepsTell_312 ⟨Nat.zero_le _, Nat.zero_le _⟩) (fun H locs hR => ?_)
              refine lv_if_eq (tgt := 337) hx hb dX2_keepsTell_315 (by decide) (fun c_99 => ?_) (fun c_99 => ?_)
              · replace hf := z_t c_99 hf
                refine lv_iconst (v := (0 : Int32)) hx hb dX2_keepsTell_337 (by decide) ?_
                exact e_z X hR hr hlk rfl hf dX2_keepsTell_338
              · replace hf := z_f c_99 hf
                refine lv_aload_n hx hb dX2_keepsTell_318 rfl (lv_at hl 0 rfl) ?_
                obtain ⟨r_100, σ_101, hc_102, hf⟩ := z_b_e hf
                refine go_i hR (mv_run (As := []) (rest := []) X hR mv_2_68 kh_47 (kd_lt kh_47 (by decide)) (c2_takeNames l G N hc_102) ⟨rfl, rfl, Nat.le_of_ble_eq_true rfl, Nat.le_of_ble_eq_true rfl⟩ rfl hl.1 rfl (Nat.le_of_ble_eq_true rfl) dX2_keepsTell_319 ⟨Nat.zero_le _, Nat.zero_le _⟩) (fun H locs hR => ?_)
                refine lv_if_eq (tgt := 337) hx hb dX2_keepsTell_322 (by decide) (fun c_103 => ?_) (fun c_103 => ?_)
                · replace hf := z_t c_103 hf
                  refine lv_iconst (v := (0 : Int32)) hx hb dX2_keepsTell_337 (by decide) ?_
                  exact e_z X hR hr hlk rfl hf dX2_keepsTell_338
                · replace hf := z_f c_103 hf
                  refine lv_aload_n hx hb dX2_keepsTell_325 rfl (lv_at hl 0 rfl) ?_
                  refine lv_iconst (v := (4 : Int32)) hx hb dX2_keepsTell_326 (by decide) ?_
                  obtain ⟨r_104, σ_105, hc_106, hf⟩ := z_b_e hf
                  refine go_i hR (mv_run (As := [.int (4 : Int32)]) (rest := []) X hR mv_2_65 kh_47 (kd_lt kh_47 (by decide)) (c2_take l G N hc_106) ⟨rfl, rfl, Nat.le_of_ble_eq_true rfl, Nat.le_of_ble_eq_true rfl⟩ rfl hl.1 rfl (Nat.le_of_ble_eq_true rfl) dX2_keepsTell_327 ⟨Nat.zero_le _, Nat.zero_le _⟩) (fun H locs hR => ?_)
                  refine lv_if_eq (tgt := 337) hx hb dX2_keepsTell_330 (by decide) (fun c_107 => ?_) (fun c_107 => ?_)
                  · replace hf := z_t c_107 hf
                    refine lv_iconst (v := (0 : Int32)) hx hb dX2_keepsTell_337 (by decide) ?_
                    exact e_z X hR hr hlk rfl hf dX2_keepsTell_338
                  · replace hf := z_f c_107 hf
                    refine lv_iconst (v := (1 : Int32)) hx hb dX2_keepsTell_333 (by decide) ?_
                    refine lv_goto (tgt := 338) hx hb dX2_keepsTell_334 (by decide) ?_
                    exact e_z X hR hr hlk rfl hf dX2_keepsTell_338
  replace hf := z_f c_108 hf
  by_cases c_113 : x1 = (17 : Int32)
  · replace hf := z_t c_113 hf
    refine lv_tableIn (off := 368) (tgt := 369) hx hb dX2_keepsTell_1 (by rw [c_113]; decide) (by rw [c_113]; decide) (by rw [c_113]; rfl) (by decide) ?_
    exact w2_keepsTell_369 X hr hlk N   σ _ _ _ hf hR (lv_sub hl [0] rfl)
  replace hf := z_f c_113 hf
  by_cases c_114 : x1 = (18 : Int32)
  · replace hf := z_t c_114 hf
    refine lv_tableIn (off := 368) (tgt := 369) hx hb dX2_keepsTell_1 (by rw [c_114]; decide) (by rw [c_114]; decide) (by rw [c_114]; rfl) (by decide) ?_
    exact w2_keepsTell_369 X hr hlk N   σ _ _ _ hf hR (lv_sub hl [0] rfl)
  replace hf := z_f c_114 hf
  by_cases c_115 : x1 = (19 : Int32)
  · replace hf := z_t c_115 hf
    refine lv_tableIn (off := 368) (tgt := 369) hx hb dX2_keepsTell_1 (by rw [c_115]; decide) (by rw [c_115]; decide) (by rw [c_115]; rfl) (by decide) ?_
    exact w2_keepsTell_369 X hr hlk N   σ _ _ _ hf hR (lv_sub hl [0] rfl)
  replace hf := z_f c_115 hf
  by_cases c_116 : x1 = (20 : Int32)
  · replace hf := z_t c_116 hf
    refine lv_tableIn (off := 368) (tgt := 369) hx hb dX2_keepsTell_1 (by rw [c_116]; decide) (by rw [c_116]; decide) (by rw [c_116]; rfl) (by decide) ?_
    exact w2_keepsTell_369 X hr hlk N   σ _ _ _ hf hR (lv_sub hl [0] rfl)
  replace hf := z_f c_116 hf
  by_cases c_129 : x1 = (21 : Int32)
  · replace hf := z_t c_129 hf
    refine lv_tableIn (off := 338) (tgt := 339) hx hb dX2_keepsTell_1 (by rw [c_129]; decide) (by rw [c_129]; decide) (by rw [c_129]; rfl) (by decide) ?_
    refine lv_aload_n hx hb dX2_keepsTell_339 rfl (lv_at hl 0 rfl) ?_
    refine lv_iload_n hx hb dX2_keepsTell_340 rfl (lv_at hl 1 rfl) ?_
    obtain ⟨r_117, σ_118, hc_119, hf⟩ := z_b_e hf
    refine go_i hR (mv_run (As := [.int x1]) (rest := []) X hR mv_2_65 kh_47 (kd_lt kh_47 (by decide)) (c2_take l G N hc_119) ⟨rfl, rfl, Nat.le_of_ble_eq_true rfl, Nat.le_of_ble_eq_true rfl⟩ rfl hl.1 rfl (Nat.le_of_ble_eq_true rfl) dX2_keepsTell_341 ⟨Nat.zero_le _, Nat.zero_le _⟩) (fun H locs hR => ?_)
    refine lv_if_eq (tgt := 367) hx hb dX2_keepsTell_344 (by decide) (fun c_120 => ?_) (fun c_120 => ?_)
    · replace hf := z_t c_120 hf
      refine lv_iconst (v := (0 : Int32)) hx hb dX2_keepsTell_367 (by decide) ?_
      exact e_z X hR hr hlk rfl hf dX2_keepsTell_368
    · replace hf := z_f c_120 hf
      refine lv_aload_n hx hb dX2_keepsTell_347 rfl (lv_at hl 0 rfl) ?_
      refine lv_iconst (v := (3 : Int32)) hx hb dX2_keepsTell_348 (by decide) ?_
      obtain ⟨r_121, σ_122, hc_123, hf⟩ := z_b_e hf
      refine go_i hR (mv_run (As := [.int (3 : Int32)]) (rest := []) X hR mv_2_65 kh_47 (kd_lt kh_47 (by decide)) (c2_take l G N hc_123) ⟨rfl, rfl, Nat.le_of_ble_eq_true rfl, Nat.le_of_ble_eq_true rfl⟩ rfl hl.1 rfl (Nat.le_of_ble_eq_true rfl) dX2_keepsTell_349 ⟨Nat.zero_le _, Nat.zero_le _⟩) (fun H locs hR => ?_)
      refine lv_if_eq (tgt := 367) hx hb dX2_keepsTell_352 (by decide) (fun c_124 => ?_) (fun c_124 => ?_)
      · replace hf := z_t c_124 hf
        refine lv_iconst (v := (0 : Int32)) hx hb dX2_keepsTell_367 (by decide) ?_
        exact e_z X hR hr hlk rfl hf dX2_keepsTell_368
      · replace hf := z_f c_124 hf
        refine lv_aload_n hx hb dX2_keepsTell_355 rfl (lv_at hl 0 rfl) ?_
        refine lv_iconst (v := (4 : Int32)) hx hb dX2_keepsTell_356 (by decide) ?_
        obtain ⟨r_125, σ_126, hc_127, hf⟩ := z_b_e hf
        refine go_i hR (mv_run (As := [.int (4 : Int32)]) (rest := []) X hR mv_2_65 kh_47 (kd_lt kh_47 (by decide)) (c2_take l G N hc_127) ⟨rfl, rfl, Nat.le_of_ble_eq_true rfl, Nat.le_of_ble_eq_true rfl⟩ rfl hl.1 rfl (Nat.le_of_ble_eq_true rfl) dX2_keepsTell_357 ⟨Nat.zero_le _, Nat.zero_le _⟩) (fun H locs hR => ?_)
        refine lv_if_eq (tgt := 367) hx hb dX2_keepsTell_360 (by decide) (fun c_128 => ?_) (fun c_128 => ?_)
        · replace hf := z_t c_128 hf
          refine lv_iconst (v := (0 : Int32)) hx hb dX2_keepsTell_367 (by decide) ?_
          exact e_z X hR hr hlk rfl hf dX2_keepsTell_368
        · replace hf := z_f c_128 hf
          refine lv_iconst (v := (1 : Int32)) hx hb dX2_keepsTell_363 (by decide) ?_
          refine lv_goto (tgt := 368) hx hb dX2_keepsTell_364 (by decide) ?_
          exact e_z X hR hr hlk rfl hf dX2_keepsTell_368
  replace hf := z_f c_129 hf
  by_cases c_142 : x1 = (22 : Int32)
  · replace hf := z_t c_142 hf
    refine lv_tableIn (off := 338) (tgt := 339) hx hb dX2_keepsTell_1 (by rw [c_142]; decide) (by rw [c_142]; decide) (by rw [c_142]; rfl) (by decide) ?_
    refine lv_aload_n hx hb dX2_keepsTell_339 rfl (lv_at hl 0 rfl) ?_
    refine lv_iload_n hx hb dX2_keepsTell_340 rfl (lv_at hl 1 rfl) ?_
    obtain ⟨r_130, σ_131, hc_132, hf⟩ := z_b_e hf
    refine go_i hR (mv_run (As := [.int x1]) (rest := []) X hR mv_2_65 kh_47 (kd_lt kh_47 (by decide)) (c2_take l G N hc_132) ⟨rfl, rfl, Nat.le_of_ble_eq_true rfl, Nat.le_of_ble_eq_true rfl⟩ rfl hl.1 rfl (Nat.le_of_ble_eq_true rfl) dX2_keepsTell_341 ⟨Nat.zero_le _, Nat.zero_le _⟩) (fun H locs hR => ?_)
    refine lv_if_eq (tgt := 367) hx hb dX2_keepsTell_344 (by decide) (fun c_133 => ?_) (fun c_133 => ?_)
    · replace hf := z_t c_133 hf
      refine lv_iconst (v := (0 : Int32)) hx hb dX2_keepsTell_367 (by decide) ?_
      exact e_z X hR hr hlk rfl hf dX2_keepsTell_368
    · replace hf := z_f c_133 hf
      refine lv_aload_n hx hb dX2_keepsTell_347 rfl (lv_at hl 0 rfl) ?_
      refine lv_iconst (v := (3 : Int32)) hx hb dX2_keepsTell_348 (by decide) ?_
      obtain ⟨r_134, σ_135, hc_136, hf⟩ := z_b_e hf
      refine go_i hR (mv_run (As := [.int (3 : Int32)]) (rest := []) X hR mv_2_65 kh_47 (kd_lt kh_47 (by decide)) (c2_take l G N hc_136) ⟨rfl, rfl, Nat.le_of_ble_eq_true rfl, Nat.le_of_ble_eq_true rfl⟩ rfl hl.1 rfl (Nat.le_of_ble_eq_true rfl) dX2_keepsTell_349 ⟨Nat.zero_le _, Nat.zero_le _⟩) (fun H locs hR => ?_)
      refine lv_if_eq (tgt := 367) hx hb dX2_keepsTell_352 (by decide) (fun c_137 => ?_) (fun c_137 => ?_)
      · replace hf := z_t c_137 hf
        refine lv_iconst (v := (0 : Int32)) hx hb dX2_keepsTell_367 (by decide) ?_
        exact e_z X hR hr hlk rfl hf dX2_keepsTell_368
      · replace hf := z_f c_137 hf
        refine lv_aload_n hx hb dX2_keepsTell_355 rfl (lv_at hl 0 rfl) ?_
        refine lv_iconst (v := (4 : Int32)) hx hb dX2_keepsTell_356 (by decide) ?_
        obtain ⟨r_138, σ_139, hc_140, hf⟩ := z_b_e hf
        refine go_i hR (mv_run (As := [.int (4 : Int32)]) (rest := []) X hR mv_2_65 kh_47 (kd_lt kh_47 (by decide)) (c2_take l G N hc_140) ⟨rfl, rfl, Nat.le_of_ble_eq_true rfl, Nat.le_of_ble_eq_true rfl⟩ rfl hl.1 rfl (Nat.le_of_ble_eq_true rfl) dX2_keepsTell_357 ⟨Nat.zero_le _, Nat.zero_le _⟩) (fun H locs hR => ?_)
        refine lv_if_eq (tgt := 367) hx hb dX2_keepsTell_360 (by decide) (fun c_141 => ?_) (fun c_141 => ?_)
        · replace hf := z_t c_141 hf
          refine lv_iconst (v := (0 : Int32)) hx hb dX2_keepsTell_367 (by decide) ?_
          exact e_z X hR hr hlk rfl hf dX2_keepsTell_368
        · replace hf := z_f c_141 hf
          refine lv_iconst (v := (1 : Int32)) hx hb dX2_keepsTell_363 (by decide) ?_
          refine lv_goto (tgt := 368) hx hb dX2_keepsTell_364 (by decide) ?_
          exact e_z X hR hr hlk rfl hf dX2_keepsTell_368
  replace hf := z_f c_142 hf
  refine lv_tableOut (tgt := 369) hx hb dX2_keepsTell_1 (sw_out x1 13 10 (by decide) (by decide) (fun j hj => ?_)) (by decide) ?_
  · rcases (show j = 0 ∨ j = 1 ∨ j = 2 ∨ j = 3 ∨ j = 4 ∨ j = 5 ∨ j = 6 ∨ j = 7 ∨ j = 8 ∨ j = 9 by omega) with rfl | rfl | rfl | rfl | rfl | rfl | rfl | rfl | rfl | rfl
    · exact fun h => c_18 (h.trans (by decide))
    · exact fun h => c_48 (h.trans (by decide))
    · exact fun h => c_74 (h.trans (by decide))
    · exact fun h => c_108 (h.trans (by decide))
    · exact fun h => c_113 (h.trans (by decide))
    · exact fun h => c_114 (h.trans (by decide))
    · exact fun h => c_115 (h.trans (by decide))
    · exact fun h => c_116 (h.trans (by decide))
    · exact fun h => c_129 (h.trans (by decide))
    · exact fun h => c_142 (h.trans (by decide))
  · exact w2_keepsTell_369 X hr hlk N   σ _ _ _ hf hR (lv_sub hl [0] rfl)
abbrev rm2_keeps : Room := { frames := 5, cells := 0, slots := 0, locals := 112 }
def f2_keeps_113 (N : Nat) (k35 : Int32 → Mm → Option (Int32 × Mm)) (o1 : Nat) (x2 : Int32) (σ : Mm) : Option (Int32 × Mm) :=
  z_l (x2 + (1 : Int32)) fun x2_21 =>
  k35 x2_21 σ
def f2_keeps_85 (N : Nat) (k35 : Int32 → Mm → Option (Int32 × Mm)) (o1 : Nat) (x2 : Int32) (x3 : Int32) (s0 : Int32) (σ : Mm) : Option (Int32 × Mm) :=
  if s0 = 0 then (
  z_b (f2_keepsTell N x3 σ) fun r_17 σ_18 =>
  if r_17 = 0 then (
  some ((0 : Int32), σ_18)) else (
  f2_keeps_113 N k35 o1 x2 σ_18)) else (
  z_b (f2_keepsLaw N x3 σ) fun r_22 σ_23 =>
  if r_22 = 0 then (
  some ((0 : Int32), σ_23)) else (
  f2_keeps_113 N k35 o1 x2 σ_23))
def f2_keeps_84 (N : Nat) (k35 : Int32 → Mm → Option (Int32 × Mm)) (o1 : Nat) (x2 : Int32) (x3 : Int32) (σ : Mm) : Option (Int32 × Mm) :=
  f2_keeps_85 N k35 o1 x2 x3 (0 : Int32) σ
def f2_keeps_35 (N : Nat) (o1 : Nat) : Nat → Int32 → Mm → Option (Int32 × Mm)
  | 0, _, _ => none
  | fu + 1, x2, σ => if (400 : Int32) < x2 then (
  some ((1 : Int32), σ)) else (
  z_b (f9_kindAt N (gI σ 47 2) σ) fun r_8 σ_9 =>
  if r_8 = 0 then (
  some ((1 : Int32), σ_9)) else (
  z_b (f9_kindAt N (gI σ_9 47 2) σ_9) fun r_12 σ_13 =>
  if r_12 < (17 : Int32) then (
  f2_keeps_84 N (fun x2 σ => f2_keeps_35 N o1 fu x2 σ) o1 x2 r_12 σ_13) else (
  if (20 : Int32) < r_12 then (
  f2_keeps_84 N (fun x2 σ => f2_keeps_35 N o1 fu x2 σ) o1 x2 r_12 σ_13) else (
  f2_keeps_85 N (fun x2 σ => f2_keeps_35 N o1 fu x2 σ) o1 x2 r_12 (1 : Int32) σ_13))))
def f2_keeps (N : Nat) (o1 : Nat) (σ : Mm) : Option (Int32 × Mm) :=
  z_l (sR σ 47 1 (some (o1 + 12))) fun σ_1 =>
  z_l (sI σ_1 47 2 (0 : Int32)) fun σ_2 =>
  z_l (sI σ_2 47 3 (0 : Int32)) fun σ_3 =>
  z_l (sI σ_3 47 4 (0 : Int32)) fun σ_4 =>
  z_l (sI σ_4 47 5 (0 : Int32)) fun σ_5 =>
  z_l (sI σ_5 47 6 (0 : Int32)) fun σ_6 =>
  f2_keeps_35 N o1 N (0 : Int32) σ_6
set_option maxHeartbeats 4000000 in
set_option maxRecDepth 100000 in
theorem w2_keeps_113 (X : Cx p s m args c cX2_keeps 5 RX2 G) (hr : meth.sig.returnType = some .boolean) (hlk : meth.locks = false) (N : Nat) {o1 : Nat} (ho1 : (kd o1).1 = 3) {k35 : Int32 → Mm → Option (Int32 × Mm)} (hk35 : ∀ (x2 : Int32) (σ : Mm) (H : Heap) (locs : List Loc) (ls : Array Slot), k35 x2 σ = some (r0, σ0) → Rp G 212 tt σ s H locs → lv_has ls 5 [(0, .ref (G.2.2 + 47)), (2, .int x2)] → W p l e rm2_keeps s m args below meth c H locs 0 0 (MQ below (P_i G 212 tt r0 σ0) args s 0 0 (Fr G)) (F0 m 35 ls [])) :
    ∀ (x2 : Int32) (σ : Mm) (H : Heap) (locs : List Loc) (ls : Array Slot), f2_keeps_113 N k35 o1 x2 σ = some (r0, σ0) → Rp G 212 tt σ s H locs → lv_has ls 5 [(0, .ref (G.2.2 + 47)), (2, .int x2)] → W p l e rm2_keeps s m args below meth c H locs 0 0 (MQ below (P_i G 212 tt r0 σ0) args s 0 0 (Fr G)) (F0 m 113 ls []) := by
  have hx := X.1
  have hb := X.2.1
  intro x2 σ H locs ls hf hR hl
  unfold f2_keeps_113 at hf
  obtain ⟨x2_21, ex2_21⟩ : ∃ z : Int32, z = x2 + (1 : Int32) := ⟨_, rfl⟩
  replace hf := z_l_e ex2_21 hf
  refine lv_iinc (v := x2_21) (lv' := [(2, .int x2_21), (0, .ref (G.2.2 + 47))]) hx hb dX2_keeps_113 hl (k := 1) rfl (by rw [ex2_21]; rfl) (by decide) rfl (fun ls hl => ?_)
  refine lv_goto (tgt := 35) hx hb dX2_keeps_116 (by decide) ?_
  exact hk35 x2_21 σ _ _ _ hf hR (lv_sub hl [1, 0] rfl)
set_option maxHeartbeats 4000000 in
set_option maxRecDepth 100000 in
theorem w2_keeps_85 (X : Cx p s m args c cX2_keeps 5 RX2 G) (hr : meth.sig.returnType = some .boolean) (hlk : meth.locks = false) (N : Nat) {o1 : Nat} (ho1 : (kd o1).1 = 3) {k35 : Int32 → Mm → Option (Int32 × Mm)} (hk35 : ∀ (x2 : Int32) (σ : Mm) (H : Heap) (locs : List Loc) (ls : Array Slot), k35 x2 σ = some (r0, σ0) → Rp G 212 tt σ s H locs → lv_has ls 5 [(0, .ref (G.2.2 + 47)), (2, .int x2)] → W p l e rm2_keeps s m args below meth c H locs 0 0 (MQ below (P_i G 212 tt r0 σ0) args s 0 0 (Fr G)) (F0 m 35 ls [])) :
    ∀ (x2 : Int32) (x3 : Int32) (s0 : Int32) (σ : Mm) (H : Heap) (locs : List Loc) (ls : Array Slot), f2_keeps_85 N k35 o1 x2 x3 s0 σ = some (r0, σ0) → Rp G 212 tt σ s H locs → lv_has ls 5 [(0, .ref (G.2.2 + 47)), (2, .int x2), (3, .int x3)] → W p l e rm2_keeps s m args below meth c H locs 0 0 (MQ below (P_i G 212 tt r0 σ0) args s 0 0 (Fr G)) (F0 m 85 ls [.int s0]) := by
  have hx := X.1
  have hb := X.2.1
  intro x2 x3 s0 σ H locs ls hf hR hl
  unfold f2_keeps_85 at hf
  refine lv_istore (lv' := [(4, .int s0), (0, .ref (G.2.2 + 47)), (2, .int x2), (3, .int x3)]) hx hb dX2_keeps_85 hl (by decide) rfl (fun ls hl => ?_)
  refine lv_iload hx hb dX2_keeps_87 (lv_at hl 0 rfl) ?_
  refine lv_if_eq (tgt := 103) hx hb dX2_keeps_89 (by decide) (fun c_16 => ?_) (fun c_16 => ?_)
  · replace hf := z_t c_16 hf
    refine lv_aload_n hx hb dX2_keeps_103 rfl (lv_at hl 1 rfl) ?_
    refine lv_iload_n hx hb dX2_keeps_104 rfl (lv_at hl 3 rfl) ?_
    obtain ⟨r_17, σ_18, hc_19, hf⟩ := z_b_e hf
    refine go_i hR (mv_run (As := [.int x3]) (rest := []) X hR mv_2_58 kh_47 (kd_lt kh_47 (by decide)) (c2_keepsTell l G N hc_19) ⟨rfl, rfl, Nat.le_of_ble_eq_true rfl, Nat.le_of_ble_eq_true rfl⟩ rfl hl.1 rfl (Nat.le_of_ble_eq_true rfl) dX2_keeps_105 ⟨Nat.zero_le _, Nat.zero_le _⟩) (fun H locs hR => ?_)
    refine lv_if_ne (tgt := 113) hx hb dX2_keeps_108 (by decide) (fun c_20 => ?_) (fun c_20 => ?_)
    · replace hf := z_f c_20 hf
      exact w2_keeps_113 X hr hlk N ho1 hk35 x2 σ_18 _ _ _ hf hR (lv_sub hl [1, 2] rfl)
    · replace hf := z_t c_20 hf
      refine lv_iconst (v := (0 : Int32)) hx hb dX2_keeps_111 (by decide) ?_
      exact e_z X hR hr hlk rfl hf dX2_keeps_112
  · replace hf := z_f c_16 hf
    refine lv_aload_n hx hb dX2_keeps_92 rfl (lv_at hl 1 rfl) ?_
    refine lv_iload_n hx hb dX2_keeps_93 rfl (lv_at hl 3 rfl) ?_
    obtain ⟨r_22, σ_23, hc_24, hf⟩ := z_b_e hf
    refine go_i hR (mv_run (As := [.int x3]) (rest := []) X hR mv_2_54 kh_47 (kd_lt kh_47 (by decide)) (c2_keepsLaw l G N hc_24) ⟨rfl, rfl, Nat.le_of_ble_eq_true rfl, Nat.le_of_ble_eq_true rfl⟩ rfl hl.1 rfl (Nat.le_of_ble_eq_true rfl) dX2_keeps_94 ⟨Nat.zero_le _, Nat.zero_le _⟩) (fun H locs hR => ?_)
    refine lv_if_eq (tgt := 111) hx hb dX2_keeps_97 (by decide) (fun c_25 => ?_) (fun c_25 => ?_)
    · replace hf := z_t c_25 hf
      refine lv_iconst (v := (0 : Int32)) hx hb dX2_keeps_111 (by decide) ?_
      exact e_z X hR hr hlk rfl hf dX2_keeps_112
    · replace hf := z_f c_25 hf
      refine lv_goto (tgt := 113) hx hb dX2_keeps_100 (by decide) ?_
      exact w2_keeps_113 X hr hlk N ho1 hk35 x2 σ_23 _ _ _ hf hR (lv_sub hl [1, 2] rfl)
set_option maxHeartbeats 4000000 in
set_option maxRecDepth 100000 in
theorem w2_keeps_84 (X : Cx p s m args c cX2_keeps 5 RX2 G) (hr : meth.sig.returnType = some .boolean) (hlk : meth.locks = false) (N : Nat) {o1 : Nat} (ho1 : (kd o1).1 = 3) {k35 : Int32 → Mm → Option (Int32 × Mm)} (hk35 : ∀ (x2 : Int32) (σ : Mm) (H : Heap) (locs : List Loc) (ls : Array Slot), k35 x2 σ = some (r0, σ0) → Rp G 212 tt σ s H locs → lv_has ls 5 [(0, .ref (G.2.2 + 47)), (2, .int x2)] → W p l e rm2_keeps s m args below meth c H locs 0 0 (MQ below (P_i G 212 tt r0 σ0) args s 0 0 (Fr G)) (F0 m 35 ls [])) :
    ∀ (x2 : Int32) (x3 : Int32) (σ : Mm) (H : Heap) (locs : List Loc) (ls : Array Slot), f2_keeps_84 N k35 o1 x2 x3 σ = some (r0, σ0) → Rp G 212 tt σ s H locs → lv_has ls 5 [(0, .ref (G.2.2 + 47)), (2, .int x2), (3, .int x3)] → W p l e rm2_keeps s m args below meth c H locs 0 0 (MQ below (P_i G 212 tt r0 σ0) args s 0 0 (Fr G)) (F0 m 84 ls []) := by
  have hx := X.1
  have hb := X.2.1
  intro x2 x3 σ H locs ls hf hR hl
  unfold f2_keeps_84 at hf
  refine lv_iconst (v := (0 : Int32)) hx hb dX2_keeps_84 (by decide) ?_
  exact w2_keeps_85 X hr hlk N ho1 hk35 x2 x3 (0 : Int32) σ _ _ _ hf hR (lv_sub hl [0, 1, 2] rfl)
set_option maxHeartbeats 4000000 in
set_option maxRecDepth 100000 in
theorem w2_keeps_35 (X : Cx p s m args c cX2_keeps 5 RX2 G) (hr : meth.sig.returnType = some .boolean) (hlk : meth.locks = false) (N : Nat) {o1 : Nat} (ho1 : (kd o1).1 = 3) :
    ∀ (fu : Nat) (x2 : Int32) (σ : Mm) (H : Heap) (locs : List Loc) (ls : Array Slot), f2_keeps_35 N o1 fu x2 σ = some (r0, σ0) → Rp G 212 tt σ s H locs → lv_has ls 5 [(0, .ref (G.2.2 + 47)), (2, .int x2)] → W p l e rm2_keeps s m args below meth c H locs 0 0 (MQ below (P_i G 212 tt r0 σ0) args s 0 0 (Fr G)) (F0 m 35 ls []) := by
  have hx := X.1
  have hb := X.2.1
  intro fu
  induction fu with
  | zero =>
    intro x2 σ H locs ls hf hR hl
    rw [f2_keeps_35] at hf
    cases hf
  | succ fu ih =>
    intro x2 σ H locs ls hf hR hl
    rw [f2_keeps_35] at hf
    refine lv_iload_n hx hb dX2_keeps_35 rfl (lv_at hl 1 rfl) ?_
    refine lv_sipush (v := (400 : Int32)) hx hb dX2_keeps_36 (by decide) ?_
    refine lv_icmp_gt (tgt := 119) hx hb dX2_keeps_39 (by decide) (fun c_7 => ?_) (fun c_7 => ?_)
    · replace hf := z_t c_7 hf
      refine lv_iconst (v := (1 : Int32)) hx hb dX2_keeps_119 (by decide) ?_
      exact e_z X hR hr hlk rfl hf dX2_keeps_120
    · replace hf := z_f c_7 hf
      refine lv_aload_n hx hb dX2_keeps_42 rfl (lv_at hl 0 rfl) ?_
      refine r_gs (t := 2) X hR fr_2_37 kh_47 (sx_2_0 kh_47) dX2_keeps_43 ?_
      refine lv_aload_n hx hb dX2_keeps_46 rfl (lv_at hl 0 rfl) ?_
      refine r_gi X hR fi_2_9 kh_47 dX2_keeps_47 ?_
      obtain ⟨r_8, σ_9, hc_10, hf⟩ := z_b_e hf
      refine go_i hR (mv_run (As := [.int (gI σ 47 2)]) (rest := []) X hR mv_2_48 kh_2 (kd_lt kh_2 (by decide)) (c9_kindAt l G N hc_10) ⟨rfl, rfl, Nat.le_of_ble_eq_true rfl, Nat.le_of_ble_eq_true rfl⟩ rfl hl.1 rfl (Nat.le_of_ble_eq_true rfl) dX2_keeps_50 ⟨Nat.zero_le _, Nat.zero_le _⟩) (fun H locs hR => ?_)
      refine lv_if_eq (tgt := 119) hx hb dX2_keeps_53 (by decide) (fun c_11 => ?_) (fun c_11 => ?_)
      · replace hf := z_t c_11 hf
        refine lv_iconst (v := (1 : Int32)) hx hb dX2_keeps_119 (by decide) ?_
        exact e_z X hR hr hlk rfl hf dX2_keeps_120
      · replace hf := z_f c_11 hf
        refine lv_aload_n hx hb dX2_keeps_56 rfl (lv_at hl 0 rfl) ?_
        refine r_gs (t := 2) X hR fr_2_37 kh_47 (sx_2_0 kh_47) dX2_keeps_57 ?_
        refine lv_aload_n hx hb dX2_keeps_60 rfl (lv_at hl 0 rfl) ?_
        refine r_gi X hR fi_2_9 kh_47 dX2_keeps_61 ?_
        obtain ⟨r_12, σ_13, hc_14, hf⟩ := z_b_e hf
        refine go_i hR (mv_run (As := [.int (gI σ_9 47 2)]) (rest := []) X hR mv_2_48 kh_2 (kd_lt kh_2 (by decide)) (c9_kindAt l G N hc_14) ⟨rfl, rfl, Nat.le_of_ble_eq_true rfl, Nat.le_of_ble_eq_true rfl⟩ rfl hl.1 rfl (Nat.le_of_ble_eq_true rfl) dX2_keeps_64 ⟨Nat.zero_le _, Nat.zero_le _⟩) (fun H locs hR => ?_)
        refine lv_istore_n (lv' := [(3, .int r_12), (0, .ref (G.2.2 + 47)), (2, .int x2)]) hx hb dX2_keeps_67 rfl hl (by decide) rfl (fun ls hl => ?_)
        refine lv_iload_n hx hb dX2_keeps_68 rfl (lv_at hl 0 rfl) ?_
        refine lv_bipush (v := (17 : Int32)) hx hb dX2_keeps_69 (by decide) ?_
        refine lv_icmp_lt (tgt := 84) hx hb dX2_keeps_71 (by decide) (fun c_15 => ?_) (fun c_15 => ?_)
        · replace hf := z_t c_15 hf
          exact w2_keeps_84 X hr hlk N ho1 ih x2 r_12 σ_13 _ _ _ hf hR (lv_sub hl [1, 2, 0] rfl)
        · replace hf := z_f c_15 hf
          refine lv_iload_n hx hb dX2_keeps_74 rfl (lv_at hl 0 rfl) ?_
          refine lv_bipush (v := (20 : Int32)) hx hb dX2_keeps_75 (by decide) ?_
          refine lv_icmp_gt (tgt := 84) hx hb dX2_keeps_77 (by decide) (fun c_26 => ?_) (fun c_26 => ?_)
          · replace hf := z_t c_26 hf
            exact w2_keeps_84 X hr hlk N ho1 ih x2 r_12 σ_13 _ _ _ hf hR (lv_sub hl [1, 2, 0] rfl)
          · replace hf := z_f c_26 hf
            refine lv_iconst (v := (1 : Int32)) hx hb dX2_keeps_80 (by decide) ?_
            refine lv_goto (tgt := 85) hx hb dX2_keeps_81 (by decide) ?_
            exact w2_keeps_85 X hr hlk N ho1 ih x2 r_12 (1 : Int32) σ_13 _ _ _ hf hR (lv_sub hl [1, 2, 0] rfl)
set_option maxHeartbeats 4000000 in
set_option maxRecDepth 100000 in
theorem c2_keeps (l : Launch) (G : Gp) (N : Nat) {o1 : Nat} (ho1 : (kd o1).1 = 3) {σ σ0 : Mm} {r0 : Int32} (hf : f2_keeps N o1 σ = some (r0, σ0)) : Met l yX2_keeps (WS yX2_keeps cX2_keeps 5 (some .boolean)) rm2_keeps (va_Pc [.ref (G.2.2 + 47), .ref (G.2.2 + o1)] (Pd G 212 tt σ)) (P_i G 212 tt r0 σ0) 0 0 (Fr G) := by
  refine ct [(0, .ref (G.2.2 + 47)), (1, .ref (G.2.2 + o1))] rfl (by decide) (Nat.le_of_ble_eq_true rfl) ?_
  intro p e s m below meth c ls X hr hlk hR hl
  have X : Cx p s m _ c cX2_keeps 5 RX2 G := X
  have hx := X.1
  have hb := X.2.1
  unfold f2_keeps at hf
  refine lv_aload_n hx hb dX2_keeps_0 rfl (lv_at hl 0 rfl) ?_
  refine lv_aload_n hx hb dX2_keeps_1 rfl (lv_at hl 1 rfl) ?_
  refine r_gs (t := (o1 + 12)) X hR fr_2_41 ho1 (sx_3_12 ho1) dX2_keeps_2 ?_
  refine r_pr X hR pr_2_47 kh_47 (sn_2_1 kh_47) dX2_keeps_5 (fun H locs σ_1 eσ_1 hR => ?_)
  replace hf := z_l_e eσ_1 hf
  refine lv_aload_n hx hb dX2_keeps_8 rfl (lv_at hl 0 rfl) ?_
  refine lv_iconst (v := (0 : Int32)) hx hb dX2_keeps_9 (by decide) ?_
  refine r_pi X hR pi_2_9 kh_47 dX2_keeps_10 (fun H locs σ_2 eσ_2 hR => ?_)
  replace hf := z_l_e eσ_2 hf
  refine lv_aload_n hx hb dX2_keeps_13 rfl (lv_at hl 0 rfl) ?_
  refine lv_iconst (v := (0 : Int32)) hx hb dX2_keeps_14 (by decide) ?_
  refine r_pi X hR pi_2_15 kh_47 dX2_keeps_15 (fun H locs σ_3 eσ_3 hR => ?_)
  replace hf := z_l_e eσ_3 hf
  refine lv_aload_n hx hb dX2_keeps_18 rfl (lv_at hl 0 rfl) ?_
  refine lv_iconst (v := (0 : Int32)) hx hb dX2_keeps_19 (by decide) ?_
  refine r_pi X hR pi_2_18 kh_47 dX2_keeps_20 (fun H locs σ_4 eσ_4 hR => ?_)
  replace hf := z_l_e eσ_4 hf
  refine lv_aload_n hx hb dX2_keeps_23 rfl (lv_at hl 0 rfl) ?_
  refine lv_iconst (v := (0 : Int32)) hx hb dX2_keeps_24 (by decide) ?_
  refine r_pi X hR pi_2_21 kh_47 dX2_keeps_25 (fun H locs σ_5 eσ_5 hR => ?_)
  replace hf := z_l_e eσ_5 hf
  refine lv_aload_n hx hb dX2_keeps_28 rfl (lv_at hl 0 rfl) ?_
  refine lv_iconst (v := (0 : Int32)) hx hb dX2_keeps_29 (by decide) ?_
  refine r_pi X hR pi_2_24 kh_47 dX2_keeps_30 (fun H locs σ_6 eσ_6 hR => ?_)
  replace hf := z_l_e eσ_6 hf
  refine lv_iconst (v := (0 : Int32)) hx hb dX2_keeps_33 (by decide) ?_
  refine lv_istore_n (lv' := [(2, .int (0 : Int32)), (0, .ref (G.2.2 + 47)), (1, .ref (G.2.2 + o1))]) hx hb dX2_keeps_34 rfl hl (by decide) rfl (fun ls hl => ?_)
  exact w2_keeps_35 X hr hlk N ho1  N (0 : Int32) σ_6 _ _ _ hf hR (lv_sub hl [1, 0] rfl)
abbrev rm4_clear : Room := { frames := 1, cells := 0, slots := 0, locals := 23 }
def f4_clear (N : Nat) (o : Nat) (σ : Mm) : Option (Unit × Mm) :=
  z_l (sI σ o 2 (0 : Int32)) fun σ_1 =>
  z_b (f4_begin N o (0 : Int32) σ_1) fun _ σ_3 =>
  z_b (f4_put N o (1 : Int32) (1 : Int32) σ_3) fun r_5 σ_6 =>
  z_b (f4_put N o (1 : Int32) (2 : Int32) σ_6) fun r_8 σ_9 =>
  z_b (f4_put N o (7 : Int32) (0 : Int32) σ_9) fun r_11 σ_12 =>
  z_b (f4_put N o (3 : Int32) (0 : Int32) σ_12) fun r_14 σ_15 =>
  z_b (f4_begin N o (1 : Int32) σ_15) fun _ σ_18 =>
  z_b (f4_put N o (0 : Int32) (0 : Int32) σ_18) fun r_20 σ_21 =>
  z_b (f4_put N o (3 : Int32) (0 : Int32) σ_21) fun r_23 σ_24 =>
  z_b (f4_begin N o (2 : Int32) σ_24) fun _ σ_27 =>
  z_b (f4_put N o (1 : Int32) (6 : Int32) σ_27) fun r_29 σ_30 =>
  z_b (f4_put N o (3 : Int32) (0 : Int32) σ_30) fun r_32 σ_33 =>
  z_b (f4_begin N o (3 : Int32) σ_33) fun _ σ_36 =>
  z_b (f4_put N o (0 : Int32) (1 : Int32) σ_36) fun r_38 σ_39 =>
  z_b (f4_put N o (3 : Int32) (0 : Int32) σ_39) fun r_41 σ_42 =>
  some ((), σ_42)
set_option maxHeartbeats 4000000 in
set_option maxRecDepth 100000 in
theorem c4_clear (l : Launch) (G : Gp) (N : Nat) {o : Nat} (ho : (kd o).1 = 4) {σ σ0 : Mm} {u0 : Unit} (hf : f4_clear N o σ = some (u0, σ0)) : Met l yX4_clear (WS yX4_clear cX4_clear 1 (none)) rm4_clear (va_Pc [.ref (G.2.2 + o)] (Pd G 212 tt σ)) (P_v G 212 tt u0 σ0) 0 0 (Fr G) := by
  refine ct [(0, .ref (G.2.2 + o))] rfl (by decide) (Nat.le_of_ble_eq_true rfl) ?_
  intro p e s m below meth c ls X hr hlk hR hl
  have X : Cx p s m _ c cX4_clear 1 RX4 G := X
  have hx := X.1
  have hb := X.2.1
  unfold f4_clear at hf
  refine lv_aload_n hx hb dX4_clear_0 rfl (lv_at hl 0 rfl) ?_
  refine lv_iconst (v := (0 : Int32)) hx hb dX4_clear_1 (by decide) ?_
  refine r_pi X hR pi_4_18 ho dX4_clear_2 (fun H locs σ_1 eσ_1 hR => ?_)
  replace hf := z_l_e eσ_1 hf
  refine lv_aload_n hx hb dX4_clear_5 rfl (lv_at hl 0 rfl) ?_
  refine lv_iconst (v := (0 : Int32)) hx hb dX4_clear_6 (by decide) ?_
  obtain ⟨r_2, σ_3, hc_4, hf⟩ := z_b_e hf
  refine go_v hR (mv_run (As := [.int (0 : Int32)]) (rest := []) X hR mv_4_28 ho (kd_lt ho (by decide)) (c4_begin l G N ho hc_4) ⟨rfl, rfl, Nat.le_of_ble_eq_true rfl, Nat.le_of_ble_eq_true rfl⟩ rfl hl.1 rfl (Nat.le_of_ble_eq_true rfl) dX4_clear_7 ⟨Nat.zero_le _, Nat.zero_le _⟩) (fun H locs hR => ?_)
  refine lv_aload_n hx hb dX4_clear_10 rfl (lv_at hl 0 rfl) ?_
  refine lv_iconst (v := (1 : Int32)) hx hb dX4_clear_11 (by decide) ?_
  refine lv_iconst (v := (1 : Int32)) hx hb dX4_clear_12 (by decide) ?_
  obtain ⟨r_5, σ_6, hc_7, hf⟩ := z_b_e hf
  refine go_i hR (mv_run (As := [.int (1 : Int32), .int (1 : Int32)]) (rest := []) X hR mv_4_32 ho (kd_lt ho (by decide)) (c4_put l G N ho hc_7) ⟨rfl, rfl, Nat.le_of_ble_eq_true rfl, Nat.le_of_ble_eq_true rfl⟩ rfl hl.1 rfl (Nat.le_of_ble_eq_true rfl) dX4_clear_13 ⟨Nat.zero_le _, Nat.zero_le _⟩) (fun H locs hR => ?_)
  refine lv_pop hx hb dX4_clear_16 rfl ?_
  refine lv_aload_n hx hb dX4_clear_17 rfl (lv_at hl 0 rfl) ?_
  refine lv_iconst (v := (1 : Int32)) hx hb dX4_clear_18 (by decide) ?_
  refine lv_iconst (v := (2 : Int32)) hx hb dX4_clear_19 (by decide) ?_
  obtain ⟨r_8, σ_9, hc_10, hf⟩ := z_b_e hf
  refine go_i hR (mv_run (As := [.int (1 : Int32), .int (2 : Int32)]) (rest := []) X hR mv_4_32 ho (kd_lt ho (by decide)) (c4_put l G N ho hc_10) ⟨rfl, rfl, Nat.le_of_ble_eq_true rfl, Nat.le_of_ble_eq_true rfl⟩ rfl hl.1 rfl (Nat.le_of_ble_eq_true rfl) dX4_clear_20 ⟨Nat.zero_le _, Nat.zero_le _⟩) (fun H locs hR => ?_)
  refine lv_pop hx hb dX4_clear_23 rfl ?_
  refine lv_aload_n hx hb dX4_clear_24 rfl (lv_at hl 0 rfl) ?_
  refine lv_bipush (v := (7 : Int32)) hx hb dX4_clear_25 (by decide) ?_
  refine lv_iconst (v := (0 : Int32)) hx hb dX4_clear_27 (by decide) ?_
  obtain ⟨r_11, σ_12, hc_13, hf⟩ := z_b_e hf
  refine go_i hR (mv_run (As := [.int (7 : Int32), .int (0 : Int32)]) (rest := []) X hR mv_4_32 ho (kd_lt ho (by decide)) (c4_put l G N ho hc_13) ⟨rfl, rfl, Nat.le_of_ble_eq_true rfl, Nat.le_of_ble_eq_true rfl⟩ rfl hl.1 rfl (Nat.le_of_ble_eq_true rfl) dX4_clear_28 ⟨Nat.zero_le _, Nat.zero_le _⟩) (fun H locs hR => ?_)
  refine lv_pop hx hb dX4_clear_31 rfl ?_
  refine lv_aload_n hx hb dX4_clear_32 rfl (lv_at hl 0 rfl) ?_
  refine lv_iconst (v := (3 : Int32)) hx hb dX4_clear_33 (by decide) ?_
  refine lv_iconst (v := (0 : Int32)) hx hb dX4_clear_34 (by decide) ?_
  obtain ⟨r_14, σ_15, hc_16, hf⟩ := z_b_e hf
  refine go_i hR (mv_run (As := [.int (3 : Int32), .int (0 : Int32)]) (rest := []) X hR mv_4_32 ho (kd_lt ho (by decide)) (c4_put l G N ho hc_16) ⟨rfl, rfl, Nat.le_of_ble_eq_true rfl, Nat.le_of_ble_eq_true rfl⟩ rfl hl.1 rfl (Nat.le_of_ble_eq_true rfl) dX4_clear_35 ⟨Nat.zero_le _, Nat.zero_le _⟩) (fun H locs hR => ?_)
  refine lv_pop hx hb dX4_clear_38 rfl ?_
  refine lv_aload_n hx hb dX4_clear_39 rfl (lv_at hl 0 rfl) ?_
  refine lv_iconst (v := (1 : Int32)) hx hb dX4_clear_40 (by decide) ?_
  obtain ⟨r_17, σ_18, hc_19, hf⟩ := z_b_e hf
  refine go_v hR (mv_run (As := [.int (1 : Int32)]) (rest := []) X hR mv_4_28 ho (kd_lt ho (by decide)) (c4_begin l G N ho hc_19) ⟨rfl, rfl, Nat.le_of_ble_eq_true rfl, Nat.le_of_ble_eq_true rfl⟩ rfl hl.1 rfl (Nat.le_of_ble_eq_true rfl) dX4_clear_41 ⟨Nat.zero_le _, Nat.zero_le _⟩) (fun H locs hR => ?_)
  refine lv_aload_n hx hb dX4_clear_44 rfl (lv_at hl 0 rfl) ?_
  refine lv_iconst (v := (0 : Int32)) hx hb dX4_clear_45 (by decide) ?_
  refine lv_iconst (v := (0 : Int32)) hx hb dX4_clear_46 (by decide) ?_
  obtain ⟨r_20, σ_21, hc_22, hf⟩ := z_b_e hf
  refine go_i hR (mv_run (As := [.int (0 : Int32), .int (0 : Int32)]) (rest := []) X hR mv_4_32 ho (kd_lt ho (by decide)) (c4_put l G N ho hc_22) ⟨rfl, rfl, Nat.le_of_ble_eq_true rfl, Nat.le_of_ble_eq_true rfl⟩ rfl hl.1 rfl (Nat.le_of_ble_eq_true rfl) dX4_clear_47 ⟨Nat.zero_le _, Nat.zero_le _⟩) (fun H locs hR => ?_)
  refine lv_pop hx hb dX4_clear_50 rfl ?_
  refine lv_aload_n hx hb dX4_clear_51 rfl (lv_at hl 0 rfl) ?_
  refine lv_iconst (v := (3 : Int32)) hx hb dX4_clear_52 (by decide) ?_
  refine lv_iconst (v := (0 : Int32)) hx hb dX4_clear_53 (by decide) ?_
  obtain ⟨r_23, σ_24, hc_25, hf⟩ := z_b_e hf
  refine go_i hR (mv_run (As := [.int (3 : Int32), .int (0 : Int32)]) (rest := []) X hR mv_4_32 ho (kd_lt ho (by decide)) (c4_put l G N ho hc_25) ⟨rfl, rfl, Nat.le_of_ble_eq_true rfl, Nat.le_of_ble_eq_true rfl⟩ rfl hl.1 rfl (Nat.le_of_ble_eq_true rfl) dX4_clear_54 ⟨Nat.zero_le _, Nat.zero_le _⟩) (fun H locs hR => ?_)
  refine lv_pop hx hb dX4_clear_57 rfl ?_
  refine lv_aload_n hx hb dX4_clear_58 rfl (lv_at hl 0 rfl) ?_
  refine lv_iconst (v := (2 : Int32)) hx hb dX4_clear_59 (by decide) ?_
  obtain ⟨r_26, σ_27, hc_28, hf⟩ := z_b_e hf
  refine go_v hR (mv_run (As := [.int (2 : Int32)]) (rest := []) X hR mv_4_28 ho (kd_lt ho (by decide)) (c4_begin l G N ho hc_28) ⟨rfl, rfl, Nat.le_of_ble_eq_true rfl, Nat.le_of_ble_eq_true rfl⟩ rfl hl.1 rfl (Nat.le_of_ble_eq_true rfl) dX4_clear_60 ⟨Nat.zero_le _, Nat.zero_le _⟩) (fun H locs hR => ?_)
  refine lv_aload_n hx hb dX4_clear_63 rfl (lv_at hl 0 rfl) ?_
  refine lv_iconst (v := (1 : Int32)) hx hb dX4_clear_64 (by decide) ?_
  refine lv_bipush (v := (6 : Int32)) hx hb dX4_clear_65 (by decide) ?_
  obtain ⟨r_29, σ_30, hc_31, hf⟩ := z_b_e hf
  refine go_i hR (mv_run (As := [.int (1 : Int32), .int (6 : Int32)]) (rest := []) X hR mv_4_32 ho (kd_lt ho (by decide)) (c4_put l G N ho hc_31) ⟨rfl, rfl, Nat.le_of_ble_eq_true rfl, Nat.le_of_ble_eq_true rfl⟩ rfl hl.1 rfl (Nat.le_of_ble_eq_true rfl) dX4_clear_67 ⟨Nat.zero_le _, Nat.zero_le _⟩) (fun H locs hR => ?_)
  refine lv_pop hx hb dX4_clear_70 rfl ?_
  refine lv_aload_n hx hb dX4_clear_71 rfl (lv_at hl 0 rfl) ?_
  refine lv_iconst (v := (3 : Int32)) hx hb dX4_clear_72 (by decide) ?_
  refine lv_iconst (v := (0 : Int32)) hx hb dX4_clear_73 (by decide) ?_
  obtain ⟨r_32, σ_33, hc_34, hf⟩ := z_b_e hf
  refine go_i hR (mv_run (As := [.int (3 : Int32), .int (0 : Int32)]) (rest := []) X hR mv_4_32 ho (kd_lt ho (by decide)) (c4_put l G N ho hc_34) ⟨rfl, rfl, Nat.le_of_ble_eq_true rfl, Nat.le_of_ble_eq_true rfl⟩ rfl hl.1 rfl (Nat.le_of_ble_eq_true rfl) dX4_clear_74 ⟨Nat.zero_le _, Nat.zero_le _⟩) (fun H locs hR => ?_)
  refine lv_pop hx hb dX4_clear_77 rfl ?_
  refine lv_aload_n hx hb dX4_clear_78 rfl (lv_at hl 0 rfl) ?_
  refine lv_iconst (v := (3 : Int32)) hx hb dX4_clear_79 (by decide) ?_
  obtain ⟨r_35, σ_36, hc_37, hf⟩ := z_b_e hf
  refine go_v hR (mv_run (As := [.int (3 : Int32)]) (rest := []) X hR mv_4_28 ho (kd_lt ho (by decide)) (c4_begin l G N ho hc_37) ⟨rfl, rfl, Nat.le_of_ble_eq_true rfl, Nat.le_of_ble_eq_true rfl⟩ rfl hl.1 rfl (Nat.le_of_ble_eq_true rfl) dX4_clear_80 ⟨Nat.zero_le _, Nat.zero_le _⟩) (fun H locs hR => ?_)
  refine lv_aload_n hx hb dX4_clear_83 rfl (lv_at hl 0 rfl) ?_
  refine lv_iconst (v := (0 : Int32)) hx hb dX4_clear_84 (by decide) ?_
  refine lv_iconst (v := (1 : Int32)) hx hb dX4_clear_85 (by decide) ?_
  obtain ⟨r_38, σ_39, hc_40, hf⟩ := z_b_e hf
  refine go_i hR (mv_run (As := [.int (0 : Int32), .int (1 : Int32)]) (rest := []) X hR mv_4_32 ho (kd_lt ho (by decide)) (c4_put l G N ho hc_40) ⟨rfl, rfl, Nat.le_of_ble_eq_true rfl, Nat.le_of_ble_eq_true rfl⟩ rfl hl.1 rfl (Nat.le_of_ble_eq_true rfl) dX4_clear_86 ⟨Nat.zero_le _, Nat.zero_le _⟩) (fun H locs hR => ?_)
  refine lv_pop hx hb dX4_clear_89 rfl ?_
  refine lv_aload_n hx hb dX4_clear_90 rfl (lv_at hl 0 rfl) ?_
  refine lv_iconst (v := (3 : Int32)) hx hb dX4_clear_91 (by decide) ?_
  refine lv_iconst (v := (0 : Int32)) hx hb dX4_clear_92 (by decide) ?_
  obtain ⟨r_41, σ_42, hc_43, hf⟩ := z_b_e hf
  refine go_i hR (mv_run (As := [.int (3 : Int32), .int (0 : Int32)]) (rest := []) X hR mv_4_32 ho (kd_lt ho (by decide)) (c4_put l G N ho hc_43) ⟨rfl, rfl, Nat.le_of_ble_eq_true rfl, Nat.le_of_ble_eq_true rfl⟩ rfl hl.1 rfl (Nat.le_of_ble_eq_true rfl) dX4_clear_93 ⟨Nat.zero_le _, Nat.zero_le _⟩) (fun H locs hR => ?_)
  refine lv_pop hx hb dX4_clear_96 rfl ?_
  exact e_v X hR hr hlk hf dX4_clear_97
abbrev rm3_clear : Room := { frames := 2, cells := 0, slots := 0, locals := 43 }
def f3_clear (N : Nat) (o : Nat) (σ : Mm) : Option (Unit × Mm) :=
  z_l (sI σ o 0 (0 : Int32)) fun σ_1 =>
  z_l (sI σ_1 o 1 (0 : Int32)) fun σ_2 =>
  z_l (sI σ_2 o 2 (0 : Int32)) fun σ_3 =>
  z_l (sI σ_3 o 3 (0 : Int32)) fun σ_4 =>
  z_l (sI σ_4 o 4 (1 : Int32)) fun σ_5 =>
  z_l (sI σ_5 o 5 (0 : Int32)) fun σ_6 =>
  z_l (sI σ_6 o 16 (0 : Int32)) fun σ_7 =>
  z_b (f4_clear N (o + 12) σ_7) fun _ σ_9 =>
  some ((), σ_9)
set_option maxHeartbeats 4000000 in
set_option maxRecDepth 100000 in
theorem c3_clear (l : Launch) (G : Gp) (N : Nat) {o : Nat} (ho : (kd o).1 = 3) {σ σ0 : Mm} {u0 : Unit} (hf : f3_clear N o σ = some (u0, σ0)) : Met l yX3_clear (WS yX3_clear cX3_clear 1 (none)) rm3_clear (va_Pc [.ref (G.2.2 + o)] (Pd G 212 tt σ)) (P_v G 212 tt u0 σ0) 0 0 (Fr G) := by
  refine ct [(0, .ref (G.2.2 + o))] rfl (by decide) (Nat.le_of_ble_eq_true rfl) ?_
  intro p e s m below meth c ls X hr hlk hR hl
  have X : Cx p s m _ c cX3_clear 1 RX3 G := X
  have hx := X.1
  have hb := X.2.1
  unfold f3_clear at hf
  refine lv_aload_n hx hb dX3_clear_0 rfl (lv_at hl 0 rfl) ?_
  refine lv_iconst (v := (0 : Int32)) hx hb dX3_clear_1 (by decide) ?_
  refine r_pi X hR pi_3_9 ho dX3_clear_2 (fun H locs σ_1 eσ_1 hR => ?_)
  replace hf := z_l_e eσ_1 hf
  refine lv_aload_n hx hb dX3_clear_5 rfl (lv_at hl 0 rfl) ?_
  refine lv_iconst (v := (0 : Int32)) hx hb dX3_clear_6 (by decide) ?_
  refine r_pi X hR pi_3_15 ho dX3_clear_7 (fun H locs σ_2 eσ_2 hR => ?_)
  replace hf := z_l_e eσ_2 hf
  refine lv_aload_n hx hb dX3_clear_10 rfl (lv_at hl 0 rfl) ?_
  refine lv_iconst (v := (0 : Int32)) hx hb dX3_clear_11 (by decide) ?_
  refine r_pi X hR pi_3_18 ho dX3_clear_12 (fun H locs σ_3 eσ_3 hR => ?_)
  replace hf := z_l_e eσ_3 hf
  refine lv_aload_n hx hb dX3_clear_15 rfl (lv_at hl 0 rfl) ?_
  refine lv_iconst (v := (0 : Int32)) hx hb dX3_clear_16 (by decide) ?_
  refine r_pi X hR pi_3_21 ho dX3_clear_17 (fun H locs σ_4 eσ_4 hR => ?_)
  replace hf := z_l_e eσ_4 hf
  refine lv_aload_n hx hb dX3_clear_20 rfl (lv_at hl 0 rfl) ?_
  refine lv_iconst (v := (1 : Int32)) hx hb dX3_clear_21 (by decide) ?_
  refine r_pi X hR pi_3_24 ho dX3_clear_22 (fun H locs σ_5 eσ_5 hR => ?_)
  replace hf := z_l_e eσ_5 hf
  refine lv_aload_n hx hb dX3_clear_25 rfl (lv_at hl 0 rfl) ?_
  refine lv_iconst (v := (0 : Int32)) hx hb dX3_clear_26 (by decide) ?_
  refine r_pi X hR pi_3_27 ho dX3_clear_27 (fun H locs σ_6 eσ_6 hR => ?_)
  replace hf := z_l_e eσ_6 hf
  refine lv_aload_n hx hb dX3_clear_30 rfl (lv_at hl 0 rfl) ?_
  refine lv_iconst (v := (0 : Int32)) hx hb dX3_clear_31 (by decide) ?_
  refine r_pi X hR pi_3_70 ho dX3_clear_32 (fun H locs σ_7 eσ_7 hR => ?_)
  replace hf := z_l_e eσ_7 hf
  refine lv_aload_n hx hb dX3_clear_35 rfl (lv_at hl 0 rfl) ?_
  refine r_gs (t := (o + 12)) X hR fr_3_56 ho (sx_3_12 ho) dX3_clear_36 ?_
  obtain ⟨r_8, σ_9, hc_10, hf⟩ := z_b_e hf
  refine go_v hR (mv_run (As := []) (rest := []) X hR mv_3_73 (kx_3_12 ho) (kd_lt (kx_3_12 ho) (by decide)) (c4_clear l G N (kx_3_12 ho) hc_10) ⟨rfl, rfl, Nat.le_of_ble_eq_true rfl, Nat.le_of_ble_eq_true rfl⟩ rfl hl.1 rfl (Nat.le_of_ble_eq_true rfl) dX3_clear_39 ⟨Nat.zero_le _, Nat.zero_le _⟩) (fun H locs hR => ?_)
  exact e_v X hR hr hlk hf dX3_clear_42
abbrev rm3_addName : Room := { frames := 0, cells := 0, slots := 0, locals := 0 }
def f3_addName (N : Nat) (o : Nat) (x1 : Int64) (x3 : Int32) (x4 : Int32) (σ : Mm) : Option (Unit × Mm) :=
  if (20 : Int32) ≤ (gI σ o 16) then (
  some ((), σ)) else (
  z_c (inB (gI σ o 16) 20) (z_l (sL σ (o + 17) (ix (gI σ o 16)) x1) fun σ_3 =>
  z_c (inB (gI σ_3 o 16) 20) (z_l (sI σ_3 (o + 18) (ix (gI σ_3 o 16)) x3) fun σ_5 =>
  z_c (inB (gI σ_5 o 16) 20) (z_l (sI σ_5 (o + 19) (ix (gI σ_5 o 16)) x4) fun σ_7 =>
  z_l (sI σ_7 o 16 ((gI σ_7 o 16) + (1 : Int32))) fun σ_8 =>
  some ((), σ_8)))))
set_option maxHeartbeats 4000000 in
set_option maxRecDepth 100000 in
theorem c3_addName (l : Launch) (G : Gp) (N : Nat) {o : Nat} (ho : (kd o).1 = 3) {x1 : Int64} {x3 : Int32} {x4 : Int32} {σ σ0 : Mm} {u0 : Unit} (hf : f3_addName N o x1 x3 x4 σ = some (u0, σ0)) : Met l yX3_addName (WS yX3_addName cX3_addName 5 (none)) rm3_addName (va_Pc [.ref (G.2.2 + o), .long x1, .int x3, .int x4] (Pd G 212 tt σ)) (P_v G 212 tt u0 σ0) 0 0 (Fr G) := by
  refine ct [(0, .ref (G.2.2 + o)), (1, .long x1), (3, .int x3), (4, .int x4)] rfl (by decide) (Nat.le_of_ble_eq_true rfl) ?_
  intro p e s m below meth c ls X hr hlk hR hl
  have X : Cx p s m _ c cX3_addName 5 RX3 G := X
  have hx := X.1
  have hb := X.2.1
  unfold f3_addName at hf
  refine lv_aload_n hx hb dX3_addName_0 rfl (lv_at hl 0 rfl) ?_
  refine r_gi X hR fi_3_70 ho dX3_addName_1 ?_
  refine lv_aload_n hx hb dX3_addName_4 rfl (lv_at hl 0 rfl) ?_
  refine r_gs (t := (o + 17)) X hR fr_3_60 ho (sx_3_13 ho) dX3_addName_5 ?_
  refine r_len (v := (20 : Int32)) X hR (kx_3_13 ho) (by decide) rfl dX3_addName_8 ?_
  refine lv_icmp_ge (tgt := 53) hx hb dX3_addName_9 (by decide) (fun c_1 => ?_) (fun c_1 => ?_)
  · replace hf := z_t c_1 hf
    exact e_v X hR hr hlk hf dX3_addName_53
  · replace hf := z_f c_1 hf
    refine lv_aload_n hx hb dX3_addName_12 rfl (lv_at hl 0 rfl) ?_
    refine r_gs (t := (o + 17)) X hR fr_3_60 ho (sx_3_13 ho) dX3_addName_13 ?_
    refine lv_aload_n hx hb dX3_addName_16 rfl (lv_at hl 0 rfl) ?_
    refine r_gi X hR fi_3_70 ho dX3_addName_17 ?_
    refine lv_lload_n hx hb dX3_addName_20 rfl (lv_at hl 1 rfl) ?_
    obtain ⟨hi_2, hf⟩ := z_c_e hf
    refine r_las X hR (kx_3_13 ho) hi_2 dX3_addName_21 (fun H locs σ_3 eσ_3 hR => ?_)
    replace hf := z_l_e eσ_3 hf
    refine lv_aload_n hx hb dX3_addName_22 rfl (lv_at hl 0 rfl) ?_
    refine r_gs (t := (o + 18)) X hR fr_3_64 ho (sx_3_14 ho) dX3_addName_23 ?_
    refine lv_aload_n hx hb dX3_addName_26 rfl (lv_at hl 0 rfl) ?_
    refine r_gi X hR fi_3_70 ho dX3_addName_27 ?_
    refine lv_iload_n hx hb dX3_addName_30 rfl (lv_at hl 2 rfl) ?_
    obtain ⟨hi_4, hf⟩ := z_c_e hf
    refine r_ias X hR (kx_3_14 ho) hi_4 dX3_addName_31 (fun H locs σ_5 eσ_5 hR => ?_)
    replace hf := z_l_e eσ_5 hf
    refine lv_aload_n hx hb dX3_addName_32 rfl (lv_at hl 0 rfl) ?_
    refine r_gs (t := (o + 19)) X hR fr_3_67 ho (sx_3_15 ho) dX3_addName_33 ?_
    refine lv_aload_n hx hb dX3_addName_36 rfl (lv_at hl 0 rfl) ?_
    refine r_gi X hR fi_3_70 ho dX3_addName_37 ?_
    refine lv_iload hx hb dX3_addName_40 (lv_at hl 3 rfl) ?_
    obtain ⟨hi_6, hf⟩ := z_c_e hf
    refine r_ias X hR (kx_3_15 ho) hi_6 dX3_addName_42 (fun H locs σ_7 eσ_7 hR => ?_)
    replace hf := z_l_e eσ_7 hf
    refine lv_aload_n hx hb dX3_addName_43 rfl (lv_at hl 0 rfl) ?_
    refine lv_dup hx hb dX3_addName_44 rfl ?_
    refine r_gi X hR fi_3_70 ho dX3_addName_45 ?_
    refine lv_iconst (v := (1 : Int32)) hx hb dX3_addName_48 (by decide) ?_
    refine lv_iadd hx hb dX3_addName_49 ?_
    refine r_pi X hR pi_3_70 ho dX3_addName_50 (fun H locs σ_8 eσ_8 hR => ?_)
    replace hf := z_l_e eσ_8 hf
    exact e_v X hR hr hlk hf dX3_addName_53
abbrev rm3_rowOfName : Room := { frames := 0, cells := 0, slots := 0, locals := 0 }
def f3_rowOfName_2 (N : Nat) (o : Nat) (x1 : Int64) : Nat → Int32 → Mm → Option (Int32 × Mm)
  | 0, _, _ => none
  | fu + 1, x3, σ => if (gI σ o 16) ≤ x3 then (
  some ((-1 : Int32), σ)) else (
  z_c (inB x3 20) (
  if (lg_cmp (gL σ (o + 17) (ix x3)) x1) = 0 then (
  some (x3, σ)) else (
  z_l (x3 + (1 : Int32)) fun x3_4 =>
  f3_rowOfName_2 N o x1 fu x3_4 σ)))
def f3_rowOfName (N : Nat) (o : Nat) (x1 : Int64) (σ : Mm) : Option (Int32 × Mm) :=
  f3_rowOfName_2 N o x1 N (0 : Int32) σ
set_option maxHeartbeats 4000000 in
set_option maxRecDepth 100000 in
theorem w3_rowOfName_2 (X : Cx p s m args c cX3_rowOfName 4 RX3 G) (hr : meth.sig.returnType = some .int) (hlk : meth.locks = false) (N : Nat) {o : Nat} (ho : (kd o).1 = 3) {x1 : Int64} :
    ∀ (fu : Nat) (x3 : Int32) (σ : Mm) (H : Heap) (locs : List Loc) (ls : Array Slot), f3_rowOfName_2 N o x1 fu x3 σ = some (r0, σ0) → Rp G 212 tt σ s H locs → lv_has ls 4 [(0, .ref (G.2.2 + o)), (1, .long x1), (3, .int x3)] → W p l e rm3_rowOfName s m args below meth c H locs 0 0 (MQ below (P_i G 212 tt r0 σ0) args s 0 0 (Fr G)) (F0 m 2 ls []) := by
  have hx := X.1
  have hb := X.2.1
  intro fu
  induction fu with
  | zero =>
    intro x3 σ H locs ls hf hR hl
    rw [f3_rowOfName_2] at hf
    cases hf
  | succ fu ih =>
    intro x3 σ H locs ls hf hR hl
    rw [f3_rowOfName_2] at hf
    refine lv_iload_n hx hb dX3_rowOfName_2 rfl (lv_at hl 2 rfl) ?_
    refine lv_aload_n hx hb dX3_rowOfName_3 rfl (lv_at hl 0 rfl) ?_
    refine r_gi X hR fi_3_70 ho dX3_rowOfName_4 ?_
    refine lv_icmp_ge (tgt := 29) hx hb dX3_rowOfName_7 (by decide) (fun c_1 => ?_) (fun c_1 => ?_)
    · replace hf := z_t c_1 hf
      refine lv_iconst (v := (-1 : Int32)) hx hb dX3_rowOfName_29 (by decide) ?_
      exact e_i X hR hr hlk hf dX3_rowOfName_30
    · replace hf := z_f c_1 hf
      refine lv_aload_n hx hb dX3_rowOfName_10 rfl (lv_at hl 0 rfl) ?_
      refine r_gs (t := (o + 17)) X hR fr_3_60 ho (sx_3_13 ho) dX3_rowOfName_11 ?_
      refine lv_iload_n hx hb dX3_rowOfName_14 rfl (lv_at hl 2 rfl) ?_
      obtain ⟨hi_2, hf⟩ := z_c_e hf
      refine r_lal X hR (kx_3_13 ho) hi_2 dX3_rowOfName_15 ?_
      refine lv_lload_n hx hb dX3_rowOfName_16 rfl (lv_at hl 1 rfl) ?_
      refine W.lcmp hx hb dX3_rowOfName_17 ?_
      refine lv_if_ne (tgt := 23) hx hb dX3_rowOfName_18 (by decide) (fun c_3 => ?_) (fun c_3 => ?_)
      · replace hf := z_f c_3 hf
        obtain ⟨x3_4, ex3_4⟩ : ∃ z : Int32, z = x3 + (1 : Int32) := ⟨_, rfl⟩
        replace hf := z_l_e ex3_4 hf
        refine lv_iinc (v := x3_4) (lv' := [(3, .int x3_4), (0, .ref (G.2.2 + o)), (1, .long x1)]) hx hb dX3_rowOfName_23 hl (k := 2) rfl (by rw [ex3_4]; rfl) (by decide) rfl (fun ls hl => ?_)
        refine lv_goto (tgt := 2) hx hb dX3_rowOfName_26 (by decide) ?_
        exact ih x3_4 σ _ _ _ hf hR (lv_sub hl [1, 2, 0] rfl)
      · replace hf := z_t c_3 hf
        refine lv_iload_n hx hb dX3_rowOfName_21 rfl (lv_at hl 2 rfl) ?_
        exact e_i X hR hr hlk hf dX3_rowOfName_22
set_option maxHeartbeats 4000000 in
set_option maxRecDepth 100000 in
theorem c3_rowOfName (l : Launch) (G : Gp) (N : Nat) {o : Nat} (ho : (kd o).1 = 3) {x1 : Int64} {σ σ0 : Mm} {r0 : Int32} (hf : f3_rowOfName N o x1 σ = some (r0, σ0)) : Met l yX3_rowOfName (WS yX3_rowOfName cX3_rowOfName 4 (some .int)) rm3_rowOfName (va_Pc [.ref (G.2.2 + o), .long x1] (Pd G 212 tt σ)) (P_i G 212 tt r0 σ0) 0 0 (Fr G) := by
  refine ct [(0, .ref (G.2.2 + o)), (1, .long x1)] rfl (by decide) (Nat.le_of_ble_eq_true rfl) ?_
  intro p e s m below meth c ls X hr hlk hR hl
  have X : Cx p s m _ c cX3_rowOfName 4 RX3 G := X
  have hx := X.1
  have hb := X.2.1
  unfold f3_rowOfName at hf
  refine lv_iconst (v := (0 : Int32)) hx hb dX3_rowOfName_0 (by decide) ?_
  refine lv_istore_n (lv' := [(3, .int (0 : Int32)), (0, .ref (G.2.2 + o)), (1, .long x1)]) hx hb dX3_rowOfName_1 rfl hl (by decide) rfl (fun ls hl => ?_)
  exact w3_rowOfName_2 X hr hlk N ho  N (0 : Int32) σ _ _ _ hf hR (lv_sub hl [1, 2, 0] rfl)
abbrev rm3_numberOfName : Room := { frames := 1, cells := 0, slots := 0, locals := 23 }
def f3_numberOfName (N : Nat) (o : Nat) (x1 : Int64) (x3 : Int32) (σ : Mm) : Option (Int32 × Mm) :=
  z_b (f3_rowOfName N o x1 σ) fun r_1 σ_2 =>
  if r_1 = (-1 : Int32) then (
  some ((-1 : Int32), σ_2)) else (
  z_c (inB r_1 20) (
  if (gI σ_2 (o + 18) (ix r_1)) = x3 then (
  z_c (inB r_1 20) (
  some ((gI σ_2 (o + 19) (ix r_1)), σ_2))) else (
  some ((-1 : Int32), σ_2))))
set_option maxHeartbeats 4000000 in
set_option maxRecDepth 100000 in
theorem c3_numberOfName (l : Launch) (G : Gp) (N : Nat) {o : Nat} (ho : (kd o).1 = 3) {x1 : Int64} {x3 : Int32} {σ σ0 : Mm} {r0 : Int32} (hf : f3_numberOfName N o x1 x3 σ = some (r0, σ0)) : Met l yX3_numberOfName (WS yX3_numberOfName cX3_numberOfName 5 (some .int)) rm3_numberOfName (va_Pc [.ref (G.2.2 + o), .long x1, .int x3] (Pd G 212 tt σ)) (P_i G 212 tt r0 σ0) 0 0 (Fr G) := by
  refine ct [(0, .ref (G.2.2 + o)), (1, .long x1), (3, .int x3)] rfl (by decide) (Nat.le_of_ble_eq_true rfl) ?_
  intro p e s m below meth c ls X hr hlk hR hl
  have X : Cx p s m _ c cX3_numberOfName 5 RX3 G := X
  have hx := X.1
  have hb := X.2.1
  unfold f3_numberOfName at hf
  refine lv_aload_n hx hb dX3_numberOfName_0 rfl (lv_at hl 0 rfl) ?_
  refine lv_lload_n hx hb dX3_numberOfName_1 rfl (lv_at hl 1 rfl) ?_
  obtain ⟨r_1, σ_2, hc_3, hf⟩ := z_b_e hf
  refine go_i hR (mv_run (As := [.long x1]) (rest := []) X hR mv_3_76 ho (kd_lt ho (by decide)) (c3_rowOfName l G N ho hc_3) ⟨rfl, rfl, Nat.le_of_ble_eq_true rfl, Nat.le_of_ble_eq_true rfl⟩ rfl hl.1 rfl (Nat.le_of_ble_eq_true rfl) dX3_numberOfName_2 ⟨Nat.zero_le _, Nat.zero_le _⟩) (fun H locs hR => ?_)
  refine lv_istore (lv' := [(4, .int r_1), (0, .ref (G.2.2 + o)), (1, .long x1), (3, .int x3)]) hx hb dX3_numberOfName_5 hl (by decide) rfl (fun ls hl => ?_)
  refine lv_iload hx hb dX3_numberOfName_7 (lv_at hl 0 rfl) ?_
  refine lv_iconst (v := (-1 : Int32)) hx hb dX3_numberOfName_9 (by decide) ?_
  refine lv_icmp_eq (tgt := 24) hx hb dX3_numberOfName_10 (by decide) (fun c_4 => ?_) (fun c_4 => ?_)
  · replace hf := z_t c_4 hf
    refine lv_iconst (v := (-1 : Int32)) hx hb dX3_numberOfName_24 (by decide) ?_
    exact e_i X hR hr hlk hf dX3_numberOfName_25
  · replace hf := z_f c_4 hf
    refine lv_aload_n hx hb dX3_numberOfName_13 rfl (lv_at hl 1 rfl) ?_
    refine r_gs (t := (o + 18)) X hR fr_3_64 ho (sx_3_14 ho) dX3_numberOfName_14 ?_
    refine lv_iload hx hb dX3_numberOfName_17 (lv_at hl 0 rfl) ?_
    obtain ⟨hi_5, hf⟩ := z_c_e hf
    refine r_ial X hR (kx_3_14 ho) hi_5 dX3_numberOfName_19 ?_
    refine lv_iload_n hx hb dX3_numberOfName_20 rfl (lv_at hl 3 rfl) ?_
    refine lv_icmp_eq (tgt := 26) hx hb dX3_numberOfName_21 (by decide) (fun c_6 => ?_) (fun c_6 => ?_)
    · replace hf := z_t c_6 hf
      refine lv_aload_n hx hb dX3_numberOfName_26 rfl (lv_at hl 1 rfl) ?_
      refine r_gs (t := (o + 19)) X hR fr_3_67 ho (sx_3_15 ho) dX3_numberOfName_27 ?_
      refine lv_iload hx hb dX3_numberOfName_30 (lv_at hl 0 rfl) ?_
      obtain ⟨hi_7, hf⟩ := z_c_e hf
      refine r_ial X hR (kx_3_15 ho) hi_7 dX3_numberOfName_32 ?_
      exact e_i X hR hr hlk hf dX3_numberOfName_33
    · replace hf := z_f c_6 hf
      refine lv_iconst (v := (-1 : Int32)) hx hb dX3_numberOfName_24 (by decide) ?_
      exact e_i X hR hr hlk hf dX3_numberOfName_25
abbrev rm5_begin : Room := { frames := 1, cells := 0, slots := 0, locals := 47 }
def f5_begin (N : Nat) (o : Nat) (o1 : Nat) (σ : Mm) : Option (Unit × Mm) :=
  z_l (sI σ o 0 (0 : Int32)) fun σ_1 =>
  z_l (sI σ_1 o 1 (((1 : Int32) <<< ((gI σ_1 o1 2) &&& 31)) - (1 : Int32))) fun σ_2 =>
  z_l (sI σ_2 o 2 (0 : Int32)) fun σ_3 =>
  z_l (sI σ_3 o 3 (gI σ_3 o1 3)) fun σ_4 =>
  z_l (sIr σ_4 (o + 1) (va_cpy (σ_4.1 (o1 + 4)) (σ_4.1 (o + 1)) 0 0 7)) fun σ_5 =>
  some ((), σ_5)
set_option maxHeartbeats 4000000 in
set_option maxRecDepth 100000 in
theorem c5_begin (l : Launch) (G : Gp) (N : Nat) {o : Nat} {o1 : Nat} (ho : (kd o).1 = 5) (ho1 : (kd o1).1 = 3) {σ σ0 : Mm} {u0 : Unit} (hf : f5_begin N o o1 σ = some (u0, σ0)) : Met l yX5_begin (WS yX5_begin cX5_begin 2 (none)) rm5_begin (va_Pc [.ref (G.2.2 + o), .ref (G.2.2 + o1)] (Pd G 212 tt σ)) (P_v G 212 tt u0 σ0) 0 0 (Fr G) := by
  refine ct [(0, .ref (G.2.2 + o)), (1, .ref (G.2.2 + o1))] rfl (by decide) (Nat.le_of_ble_eq_true rfl) ?_
  intro p e s m below meth c ls X hr hlk hR hl
  have X : Cx p s m _ c cX5_begin 2 RX5 G := X
  have hx := X.1
  have hb := X.2.1
  unfold f5_begin at hf
  refine lv_aload_n hx hb dX5_begin_0 rfl (lv_at hl 0 rfl) ?_
  refine lv_iconst (v := (0 : Int32)) hx hb dX5_begin_1 (by decide) ?_
  refine r_pi X hR pi_5_9 ho dX5_begin_2 (fun H locs σ_1 eσ_1 hR => ?_)
  replace hf := z_l_e eσ_1 hf
  refine lv_aload_n hx hb dX5_begin_5 rfl (lv_at hl 0 rfl) ?_
  refine lv_iconst (v := (1 : Int32)) hx hb dX5_begin_6 (by decide) ?_
  refine lv_aload_n hx hb dX5_begin_7 rfl (lv_at hl 1 rfl) ?_
  refine r_gi X hR fi_5_28 ho1 dX5_begin_8 ?_
  refine lv_ishl hx hb dX5_begin_11 ?_
  refine lv_iconst (v := (1 : Int32)) hx hb dX5_begin_12 (by decide) ?_
  refine lv_isub hx hb dX5_begin_13 ?_
  refine r_pi X hR pi_5_15 ho dX5_begin_14 (fun H locs σ_2 eσ_2 hR => ?_)
  replace hf := z_l_e eσ_2 hf
  refine lv_aload_n hx hb dX5_begin_17 rfl (lv_at hl 0 rfl) ?_
  refine lv_iconst (v := (0 : Int32)) hx hb dX5_begin_18 (by decide) ?_
  refine r_pi X hR pi_5_18 ho dX5_begin_19 (fun H locs σ_3 eσ_3 hR => ?_)
  replace hf := z_l_e eσ_3 hf
  refine lv_aload_n hx hb dX5_begin_22 rfl (lv_at hl 0 rfl) ?_
  refine lv_aload_n hx hb dX5_begin_23 rfl (lv_at hl 1 rfl) ?_
  refine r_gi X hR fi_5_33 ho1 dX5_begin_24 ?_
  refine r_pi X hR pi_5_21 ho dX5_begin_27 (fun H locs σ_4 eσ_4 hR => ?_)
  replace hf := z_l_e eσ_4 hf
  refine lv_aload_n hx hb dX5_begin_30 rfl (lv_at hl 1 rfl) ?_
  refine r_gs (t := (o1 + 4)) X hR fr_5_34 ho1 (sx_3_9 ho1) dX5_begin_31 ?_
  refine lv_iconst (v := (0 : Int32)) hx hb dX5_begin_34 (by decide) ?_
  refine lv_aload_n hx hb dX5_begin_35 rfl (lv_at hl 0 rfl) ?_
  refine r_gs (t := (o + 1)) X hR fr_5_24 ho (sx_5_4 ho) dX5_begin_36 ?_
  refine lv_iconst (v := (0 : Int32)) hx hb dX5_begin_39 (by decide) ?_
  refine lv_bipush (v := (7 : Int32)) hx hb dX5_begin_40 (by decide) ?_
  refine r_cpy (nn := (7 : Int32)) X hR (kx_3_9 ho1) (kx_5_4 ho) (by decide) (by decide) hl.1 jl_5_35 (Nat.le_of_ble_eq_true rfl) (by decide) dX5_begin_42 (fun H locs σ_5 eσ_5 hR => ?_)
  replace hf := z_l_e eσ_5 hf
  exact e_v X hR hr hlk hf dX5_begin_45
abbrev rm5_become : Room := { frames := 1, cells := 0, slots := 0, locals := 47 }
def f5_become (N : Nat) (o : Nat) (o1 : Nat) (σ : Mm) : Option (Unit × Mm) :=
  z_l (sI σ o 0 (gI σ o1 0)) fun σ_1 =>
  z_l (sI σ_1 o 1 (gI σ_1 o1 1)) fun σ_2 =>
  z_l (sI σ_2 o 2 (gI σ_2 o1 2)) fun σ_3 =>
  z_l (sI σ_3 o 3 (gI σ_3 o1 3)) fun σ_4 =>
  z_l (sIr σ_4 (o + 1) (va_cpy (σ_4.1 (o1 + 1)) (σ_4.1 (o + 1)) 0 0 7)) fun σ_5 =>
  some ((), σ_5)
set_option maxHeartbeats 4000000 in
set_option maxRecDepth 100000 in
theorem c5_become (l : Launch) (G : Gp) (N : Nat) {o : Nat} {o1 : Nat} (ho : (kd o).1 = 5) (ho1 : (kd o1).1 = 5) {σ σ0 : Mm} {u0 : Unit} (hf : f5_become N o o1 σ = some (u0, σ0)) : Met l yX5_become (WS yX5_become cX5_become 2 (none)) rm5_become (va_Pc [.ref (G.2.2 + o), .ref (G.2.2 + o1)] (Pd G 212 tt σ)) (P_v G 212 tt u0 σ0) 0 0 (Fr G) := by
  refine ct [(0, .ref (G.2.2 + o)), (1, .ref (G.2.2 + o1))] rfl (by decide) (Nat.le_of_ble_eq_true rfl) ?_
  intro p e s m below meth c ls X hr hlk hR hl
  have X : Cx p s m _ c cX5_become 2 RX5 G := X
  have hx := X.1
  have hb := X.2.1
  unfold f5_become at hf
  refine lv_aload_n hx hb dX5_become_0 rfl (lv_at hl 0 rfl) ?_
  refine lv_aload_n hx hb dX5_become_1 rfl (lv_at hl 1 rfl) ?_
  refine r_gi X hR fi_5_9 ho1 dX5_become_2 ?_
  refine r_pi X hR pi_5_9 ho dX5_become_5 (fun H locs σ_1 eσ_1 hR => ?_)
  replace hf := z_l_e eσ_1 hf
  refine lv_aload_n hx hb dX5_become_8 rfl (lv_at hl 0 rfl) ?_
  refine lv_aload_n hx hb dX5_become_9 rfl (lv_at hl 1 rfl) ?_
  refine r_gi X hR fi_5_15 ho1 dX5_become_10 ?_
  refine r_pi X hR pi_5_15 ho dX5_become_13 (fun H locs σ_2 eσ_2 hR => ?_)
  replace hf := z_l_e eσ_2 hf
  refine lv_aload_n hx hb dX5_become_16 rfl (lv_at hl 0 rfl) ?_
  refine lv_aload_n hx hb dX5_become_17 rfl (lv_at hl 1 rfl) ?_
  refine r_gi X hR fi_5_18 ho1 dX5_become_18 ?_
  refine r_pi X hR pi_5_18 ho dX5_become_21 (fun H locs σ_3 eσ_3 hR => ?_)
  replace hf := z_l_e eσ_3 hf
  refine lv_aload_n hx hb dX5_become_24 rfl (lv_at hl 0 rfl) ?_
  refine lv_aload_n hx hb dX5_become_25 rfl (lv_at hl 1 rfl) ?_
  refine r_gi X hR fi_5_21 ho1 dX5_become_26 ?_
  refine r_pi X hR pi_5_21 ho dX5_become_29 (fun H locs σ_4 eσ_4 hR => ?_)
  replace hf := z_l_e eσ_4 hf
  refine lv_aload_n hx hb dX5_become_32 rfl (lv_at hl 1 rfl) ?_
  refine r_gs (t := (o1 + 1)) X hR fr_5_24 ho1 (sx_5_4 ho1) dX5_become_33 ?_
  refine lv_iconst (v := (0 : Int32)) hx hb dX5_become_36 (by decide) ?_
  refine lv_aload_n hx hb dX5_become_37 rfl (lv_at hl 0 rfl) ?_
  refine r_gs (t := (o + 1)) X hR fr_5_24 ho (sx_5_4 ho) dX5_become_38 ?_
  refine lv_iconst (v := (0 : Int32)) hx hb dX5_become_41 (by decide) ?_
  refine lv_bipush (v := (7 : Int32)) hx hb dX5_become_42 (by decide) ?_
  refine r_cpy (nn := (7 : Int32)) X hR (kx_5_4 ho1) (kx_5_4 ho) (by decide) (by decide) hl.1 jl_5_35 (Nat.le_of_ble_eq_true rfl) (by decide) dX5_become_44 (fun H locs σ_5 eσ_5 hR => ?_)
  replace hf := z_l_e eσ_5 hf
  exact e_v X hR hr hlk hf dX5_become_47
abbrev rm6_forgetAll : Room := { frames := 0, cells := 0, slots := 0, locals := 0 }
def f6_forgetAll (N : Nat) (σ : Mm) : Option (Unit × Mm) :=
  z_l (sI σ 70 2 (0 : Int32)) fun σ_1 =>
  z_l (sI σ_1 70 5 (0 : Int32)) fun σ_2 =>
  some ((), σ_2)
set_option maxHeartbeats 4000000 in
set_option maxRecDepth 100000 in
theorem c6_forgetAll (l : Launch) (G : Gp) (N : Nat) {σ σ0 : Mm} {u0 : Unit} (hf : f6_forgetAll N σ = some (u0, σ0)) : Met l yX6_forgetAll (WS yX6_forgetAll cX6_forgetAll 1 (none)) rm6_forgetAll (va_Pc [.ref (G.2.2 + 70)] (Pd G 212 tt σ)) (P_v G 212 tt u0 σ0) 0 0 (Fr G) := by
  refine ct [(0, .ref (G.2.2 + 70))] rfl (by decide) (Nat.le_of_ble_eq_true rfl) ?_
  intro p e s m below meth c ls X hr hlk hR hl
  have X : Cx p s m _ c cX6_forgetAll 1 RX6 G := X
  have hx := X.1
  have hb := X.2.1
  unfold f6_forgetAll at hf
  refine lv_aload_n hx hb dX6_forgetAll_0 rfl (lv_at hl 0 rfl) ?_
  refine lv_iconst (v := (0 : Int32)) hx hb dX6_forgetAll_1 (by decide) ?_
  refine r_pi X hR pi_6_21 kh_70 dX6_forgetAll_2 (fun H locs σ_1 eσ_1 hR => ?_)
  replace hf := z_l_e eσ_1 hf
  refine lv_aload_n hx hb dX6_forgetAll_5 rfl (lv_at hl 0 rfl) ?_
  refine lv_iconst (v := (0 : Int32)) hx hb dX6_forgetAll_6 (by decide) ?_
  refine r_pi X hR pi_6_33 kh_70 dX6_forgetAll_7 (fun H locs σ_2 eσ_2 hR => ?_)
  replace hf := z_l_e eσ_2 hf
  exact e_v X hR hr hlk hf dX6_forgetAll_10
abbrev rm6_keep : Room := { frames := 2, cells := 0, slots := 0, locals := 68 }
def f6_keep_35 (N : Nat) (o1 : Nat) (s1 : Int32) (σ : Mm) : Option (Unit × Mm) :=
  z_l (sI σ 70 1 s1) fun σ_6 =>
  z_l (sI σ_6 70 2 (mnI ((gI σ_6 70 2) + (1 : Int32)) (30 : Int32))) fun σ_7 =>
  some ((), σ_7)
def f6_keep (N : Nat) (o1 : Nat) (σ : Mm) : Option (Unit × Mm) :=
  z_c (inB (gI σ 70 1) 30) (
  z_b (f5_become N (74 + 2 * ix (gI σ 70 1)) o1 σ) fun _ σ_3 =>
  if (30 : Int32) ≤ ((gI σ_3 70 1) + (1 : Int32)) then (
  f6_keep_35 N o1 (0 : Int32) σ_3) else (
  f6_keep_35 N o1 ((gI σ_3 70 1) + (1 : Int32)) σ_3))
set_option maxHeartbeats 4000000 in
set_option maxRecDepth 100000 in
theorem w6_keep_35 (X : Cx p s m args c cX6_keep 2 RX6 G) (hr : meth.sig.returnType = none) (hlk : meth.locks = false) (N : Nat) {o1 : Nat} (ho1 : (kd o1).1 = 5) :
    ∀ (s1 : Int32) (σ : Mm) (H : Heap) (locs : List Loc) (ls : Array Slot), f6_keep_35 N o1 s1 σ = some (u0, σ0) → Rp G 212 tt σ s H locs → lv_has ls 2 [(0, .ref (G.2.2 + 70))] → W p l e rm6_keep s m args below meth c H locs 0 0 (MQ below (P_v G 212 tt u0 σ0) args s 0 0 (Fr G)) (F0 m 35 ls [.int s1, .ref (G.2.2 + 70)]) := by
  have hx := X.1
  have hb := X.2.1
  intro s1 σ H locs ls hf hR hl
  unfold f6_keep_35 at hf
  refine r_pi X hR pi_6_17 kh_70 dX6_keep_35 (fun H locs σ_6 eσ_6 hR => ?_)
  replace hf := z_l_e eσ_6 hf
  refine lv_aload_n hx hb dX6_keep_38 rfl (lv_at hl 0 rfl) ?_
  refine lv_aload_n hx hb dX6_keep_39 rfl (lv_at hl 0 rfl) ?_
  refine r_gi X hR fi_6_21 kh_70 dX6_keep_40 ?_
  refine lv_iconst (v := (1 : Int32)) hx hb dX6_keep_43 (by decide) ?_
  refine lv_iadd hx hb dX6_keep_44 ?_
  refine lv_bipush (v := (30 : Int32)) hx hb dX6_keep_45 (by decide) ?_
  refine va_mmin hx hb (X.2.2.1.trans hl.1.symm) X.2.2.2.1 (X.2.2.2.2.1 _ jl_6_42) (X.2.2.2.2.1 _ jm_min_s) (X.2.2.2.2.1 _ jm_ini) (X.2.2.2.2.1 _ jm_min_c) (Nat.le_of_ble_eq_true rfl) (Nat.le_of_ble_eq_true rfl) (Nat.zero_le _) (Nat.zero_le _) dX6_keep_47 ?_
  refine r_pi X hR pi_6_21 kh_70 dX6_keep_50 (fun H locs σ_7 eσ_7 hR => ?_)
  replace hf := z_l_e eσ_7 hf
  exact e_v X hR hr hlk hf dX6_keep_53
set_option maxHeartbeats 4000000 in
set_option maxRecDepth 100000 in
theorem c6_keep (l : Launch) (G : Gp) (N : Nat) {o1 : Nat} (ho1 : (kd o1).1 = 5) {σ σ0 : Mm} {u0 : Unit} (hf : f6_keep N o1 σ = some (u0, σ0)) : Met l yX6_keep (WS yX6_keep cX6_keep 2 (none)) rm6_keep (va_Pc [.ref (G.2.2 + 70), .ref (G.2.2 + o1)] (Pd G 212 tt σ)) (P_v G 212 tt u0 σ0) 0 0 (Fr G) := by
  refine ct [(0, .ref (G.2.2 + 70)), (1, .ref (G.2.2 + o1))] rfl (by decide) (Nat.le_of_ble_eq_true rfl) ?_
  intro p e s m below meth c ls X hr hlk hR hl
  have X : Cx p s m _ c cX6_keep 2 RX6 G := X
  have hx := X.1
  have hb := X.2.1
  unfold f6_keep at hf
  refine lv_aload_n hx hb dX6_keep_0 rfl (lv_at hl 0 rfl) ?_
  refine r_gs (t := 71) X hR fr_6_11 kh_70 (sx_6_0 kh_70) dX6_keep_1 ?_
  refine lv_aload_n hx hb dX6_keep_4 rfl (lv_at hl 0 rfl) ?_
  refine r_gi X hR fi_6_17 kh_70 dX6_keep_5 ?_
  obtain ⟨hi_1, hf⟩ := z_c_e hf
  refine r_aal (t := 74 + 2 * ix (gI σ 70 1)) X hR kq_71 hi_1 (sa_71 hi_1) dX6_keep_8 ?_
  refine lv_aload_n hx hb dX6_keep_9 rfl (lv_at hl 1 rfl) ?_
  obtain ⟨r_2, σ_3, hc_4, hf⟩ := z_b_e hf
  refine go_v hR (mv_run (As := [.ref (G.2.2 + o1)]) (rest := []) X hR mv_6_38 (ka_71_o hi_1) (kd_lt (ka_71_o hi_1) (by decide)) (c5_become l G N (ka_71_o hi_1) ho1 hc_4) ⟨rfl, rfl, Nat.le_of_ble_eq_true rfl, Nat.le_of_ble_eq_true rfl⟩ rfl hl.1 rfl (Nat.le_of_ble_eq_true rfl) dX6_keep_10 ⟨Nat.zero_le _, Nat.zero_le _⟩) (fun H locs hR => ?_)
  refine lv_aload_n hx hb dX6_keep_13 rfl (lv_at hl 0 rfl) ?_
  refine lv_aload_n hx hb dX6_keep_14 rfl (lv_at hl 0 rfl) ?_
  refine r_gi X hR fi_6_17 kh_70 dX6_keep_15 ?_
  refine lv_iconst (v := (1 : Int32)) hx hb dX6_keep_18 (by decide) ?_
  refine lv_iadd hx hb dX6_keep_19 ?_
  refine lv_bipush (v := (30 : Int32)) hx hb dX6_keep_20 (by decide) ?_
  refine lv_icmp_ge (tgt := 34) hx hb dX6_keep_22 (by decide) (fun c_5 => ?_) (fun c_5 => ?_)
  · replace hf := z_t c_5 hf
    refine lv_iconst (v := (0 : Int32)) hx hb dX6_keep_34 (by decide) ?_
    exact w6_keep_35 X hr hlk N ho1  (0 : Int32) σ_3 _ _ _ hf hR (lv_sub hl [0] rfl)
  · replace hf := z_f c_5 hf
    refine lv_aload_n hx hb dX6_keep_25 rfl (lv_at hl 0 rfl) ?_
    refine r_gi X hR fi_6_17 kh_70 dX6_keep_26 ?_
    refine lv_iconst (v := (1 : Int32)) hx hb dX6_keep_29 (by decide) ?_
    refine lv_iadd hx hb dX6_keep_30 ?_
    refine lv_goto (tgt := 35) hx hb dX6_keep_31 (by decide) ?_
    exact w6_keep_35 X hr hlk N ho1  ((gI σ_3 70 1) + (1 : Int32)) σ_3 _ _ _ hf hR (lv_sub hl [0] rfl)
abbrev rm6_takeBack : Room := { frames := 2, cells := 0, slots := 0, locals := 68 }
def f6_takeBack_28 (N : Nat) (o1 : Nat) (s1 : Int32) (σ : Mm) : Option (Int32 × Mm) :=
  z_l (sI σ 70 1 s1) fun σ_3 =>
  z_c (inB (gI σ_3 70 1) 30) (
  z_b (f5_become N o1 (74 + 2 * ix (gI σ_3 70 1)) σ_3) fun _ σ_6 =>
  z_l (sI σ_6 70 2 ((gI σ_6 70 2) - (1 : Int32))) fun σ_8 =>
  some ((1 : Int32), σ_8))
def f6_takeBack (N : Nat) (o1 : Nat) (σ : Mm) : Option (Int32 × Mm) :=
  if (gI σ 70 2) = 0 then (
  some ((0 : Int32), σ)) else (
  if (gI σ 70 1) ≤ 0 then (
  f6_takeBack_28 N o1 (29 : Int32) σ) else (
  f6_takeBack_28 N o1 ((gI σ 70 1) - (1 : Int32)) σ))
set_option maxHeartbeats 4000000 in
set_option maxRecDepth 100000 in
theorem w6_takeBack_28 (X : Cx p s m args c cX6_takeBack 2 RX6 G) (hr : meth.sig.returnType = some .boolean) (hlk : meth.locks = false) (N : Nat) {o1 : Nat} (ho1 : (kd o1).1 = 5) :
    ∀ (s1 : Int32) (σ : Mm) (H : Heap) (locs : List Loc) (ls : Array Slot), f6_takeBack_28 N o1 s1 σ = some (r0, σ0) → Rp G 212 tt σ s H locs → lv_has ls 2 [(0, .ref (G.2.2 + 70)), (1, .ref (G.2.2 + o1))] → W p l e rm6_takeBack s m args below meth c H locs 0 0 (MQ below (P_i G 212 tt r0 σ0) args s 0 0 (Fr G)) (F0 m 28 ls [.int s1, .ref (G.2.2 + 70)]) := by
  have hx := X.1
  have hb := X.2.1
  intro s1 σ H locs ls hf hR hl
  unfold f6_takeBack_28 at hf
  refine r_pi X hR pi_6_17 kh_70 dX6_takeBack_28 (fun H locs σ_3 eσ_3 hR => ?_)
  replace hf := z_l_e eσ_3 hf
  refine lv_aload_n hx hb dX6_takeBack_31 rfl (lv_at hl 1 rfl) ?_
  refine lv_aload_n hx hb dX6_takeBack_32 rfl (lv_at hl 0 rfl) ?_
  refine r_gs (t := 71) X hR fr_6_11 kh_70 (sx_6_0 kh_70) dX6_takeBack_33 ?_
  refine lv_aload_n hx hb dX6_takeBack_36 rfl (lv_at hl 0 rfl) ?_
  refine r_gi X hR fi_6_17 kh_70 dX6_takeBack_37 ?_
  obtain ⟨hi_4, hf⟩ := z_c_e hf
  refine r_aal (t := 74 + 2 * ix (gI σ_3 70 1)) X hR kq_71 hi_4 (sa_71 hi_4) dX6_takeBack_40 ?_
  obtain ⟨r_5, σ_6, hc_7, hf⟩ := z_b_e hf
  refine go_v hR (mv_run (As := [.ref (G.2.2 + (74 + 2 * ix (gI σ_3 70 1)))]) (rest := []) X hR mv_6_38 ho1 (kd_lt ho1 (by decide)) (c5_become l G N ho1 (ka_71_o hi_4) hc_7) ⟨rfl, rfl, Nat.le_of_ble_eq_true rfl, Nat.le_of_ble_eq_true rfl⟩ rfl hl.1 rfl (Nat.le_of_ble_eq_true rfl) dX6_takeBack_41 ⟨Nat.zero_le _, Nat.zero_le _⟩) (fun H locs hR => ?_)
  refine lv_aload_n hx hb dX6_takeBack_44 rfl (lv_at hl 0 rfl) ?_
  refine lv_dup hx hb dX6_takeBack_45 rfl ?_
  refine r_gi X hR fi_6_21 kh_70 dX6_takeBack_46 ?_
  refine lv_iconst (v := (1 : Int32)) hx hb dX6_takeBack_49 (by decide) ?_
  refine lv_isub hx hb dX6_takeBack_50 ?_
  refine r_pi X hR pi_6_21 kh_70 dX6_takeBack_51 (fun H locs σ_8 eσ_8 hR => ?_)
  replace hf := z_l_e eσ_8 hf
  refine lv_iconst (v := (1 : Int32)) hx hb dX6_takeBack_54 (by decide) ?_
  exact e_z X hR hr hlk rfl hf dX6_takeBack_55
set_option maxHeartbeats 4000000 in
set_option maxRecDepth 100000 in
theorem c6_takeBack (l : Launch) (G : Gp) (N : Nat) {o1 : Nat} (ho1 : (kd o1).1 = 5) {σ σ0 : Mm} {r0 : Int32} (hf : f6_takeBack N o1 σ = some (r0, σ0)) : Met l yX6_takeBack (WS yX6_takeBack cX6_takeBack 2 (some .boolean)) rm6_takeBack (va_Pc [.ref (G.2.2 + 70), .ref (G.2.2 + o1)] (Pd G 212 tt σ)) (P_i G 212 tt r0 σ0) 0 0 (Fr G) := by
  refine ct [(0, .ref (G.2.2 + 70)), (1, .ref (G.2.2 + o1))] rfl (by decide) (Nat.le_of_ble_eq_true rfl) ?_
  intro p e s m below meth c ls X hr hlk hR hl
  have X : Cx p s m _ c cX6_takeBack 2 RX6 G := X
  have hx := X.1
  have hb := X.2.1
  unfold f6_takeBack at hf
  refine lv_aload_n hx hb dX6_takeBack_0 rfl (lv_at hl 0 rfl) ?_
  refine r_gi X hR fi_6_21 kh_70 dX6_takeBack_1 ?_
  refine lv_if_ne (tgt := 9) hx hb dX6_takeBack_4 (by decide) (fun c_1 => ?_) (fun c_1 => ?_)
  · replace hf := z_f c_1 hf
    refine lv_aload_n hx hb dX6_takeBack_9 rfl (lv_at hl 0 rfl) ?_
    refine lv_aload_n hx hb dX6_takeBack_10 rfl (lv_at hl 0 rfl) ?_
    refine r_gi X hR fi_6_17 kh_70 dX6_takeBack_11 ?_
    refine lv_if_le (tgt := 26) hx hb dX6_takeBack_14 (by decide) (fun c_2 => ?_) (fun c_2 => ?_)
    · replace hf := z_t c_2 hf
      refine lv_bipush (v := (29 : Int32)) hx hb dX6_takeBack_26 (by decide) ?_
      exact w6_takeBack_28 X hr hlk N ho1  (29 : Int32) σ _ _ _ hf hR (lv_sub hl [0, 1] rfl)
    · replace hf := z_f c_2 hf
      refine lv_aload_n hx hb dX6_takeBack_17 rfl (lv_at hl 0 rfl) ?_
      refine r_gi X hR fi_6_17 kh_70 dX6_takeBack_18 ?_
      refine lv_iconst (v := (1 : Int32)) hx hb dX6_takeBack_21 (by decide) ?_
      refine lv_isub hx hb dX6_takeBack_22 ?_
      refine lv_goto (tgt := 28) hx hb dX6_takeBack_23 (by decide) ?_
      exact w6_takeBack_28 X hr hlk N ho1  ((gI σ 70 1) - (1 : Int32)) σ _ _ _ hf hR (lv_sub hl [0, 1] rfl)
  · replace hf := z_t c_1 hf
    refine lv_iconst (v := (0 : Int32)) hx hb dX6_takeBack_7 (by decide) ?_
    exact e_z X hR hr hlk rfl hf dX6_takeBack_8
abbrev rm6_holdIn : Room := { frames := 2, cells := 0, slots := 0, locals := 68 }
def f6_holdIn (N : Nat) (o2 : Nat) (o3 : Nat) (x1 : Int32) (σ : Mm) : Option (Unit × Mm) :=
  z_c (inB x1 3) (
  z_b (f5_become N (134 + 8 * ix x1) o2 σ) fun _ σ_3 =>
  z_c (inB x1 3) (
  z_b (f1_become N (136 + 8 * ix x1) o3 σ_3) fun _ σ_7 =>
  z_l (sI σ_7 70 5 ((gI σ_7 70 5) ||| ((1 : Int32) <<< (x1 &&& 31)))) fun σ_9 =>
  some ((), σ_9)))
set_option maxHeartbeats 4000000 in
set_option maxRecDepth 100000 in
theorem c6_holdIn (l : Launch) (G : Gp) (N : Nat) {o2 : Nat} {o3 : Nat} (ho2 : (kd o2).1 = 5) (ho3 : (kd o3).1 = 1) {x1 : Int32} {σ σ0 : Mm} {u0 : Unit} (hf : f6_holdIn N o2 o3 x1 σ = some (u0, σ0)) : Met l yX6_holdIn (WS yX6_holdIn cX6_holdIn 4 (none)) rm6_holdIn (va_Pc [.ref (G.2.2 + 70), .int x1, .ref (G.2.2 + o2), .ref (G.2.2 + o3)] (Pd G 212 tt σ)) (P_v G 212 tt u0 σ0) 0 0 (Fr G) := by
  refine ct [(0, .ref (G.2.2 + 70)), (1, .int x1), (2, .ref (G.2.2 + o2)), (3, .ref (G.2.2 + o3))] rfl (by decide) (Nat.le_of_ble_eq_true rfl) ?_
  intro p e s m below meth c ls X hr hlk hR hl
  have X : Cx p s m _ c cX6_holdIn 4 RX6 G := X
  have hx := X.1
  have hb := X.2.1
  unfold f6_holdIn at hf
  refine lv_aload_n hx hb dX6_holdIn_0 rfl (lv_at hl 0 rfl) ?_
  refine r_gs (t := 72) X hR fr_6_24 kh_70 (sx_6_3 kh_70) dX6_holdIn_1 ?_
  refine lv_iload_n hx hb dX6_holdIn_4 rfl (lv_at hl 1 rfl) ?_
  obtain ⟨hi_1, hf⟩ := z_c_e hf
  refine r_aal (t := 134 + 8 * ix x1) X hR kq_72 hi_1 (sa_72 hi_1) dX6_holdIn_5 ?_
  refine lv_aload_n hx hb dX6_holdIn_6 rfl (lv_at hl 2 rfl) ?_
  obtain ⟨r_2, σ_3, hc_4, hf⟩ := z_b_e hf
  refine go_v hR (mv_run (As := [.ref (G.2.2 + o2)]) (rest := []) X hR mv_6_38 (ka_72_o hi_1) (kd_lt (ka_72_o hi_1) (by decide)) (c5_become l G N (ka_72_o hi_1) ho2 hc_4) ⟨rfl, rfl, Nat.le_of_ble_eq_true rfl, Nat.le_of_ble_eq_true rfl⟩ rfl hl.1 rfl (Nat.le_of_ble_eq_true rfl) dX6_holdIn_7 ⟨Nat.zero_le _, Nat.zero_le _⟩) (fun H locs hR => ?_)
  refine lv_aload_n hx hb dX6_holdIn_10 rfl (lv_at hl 0 rfl) ?_
  refine r_gs (t := 73) X hR fr_6_29 kh_70 (sx_6_4 kh_70) dX6_holdIn_11 ?_
  refine lv_iload_n hx hb dX6_holdIn_14 rfl (lv_at hl 1 rfl) ?_
  obtain ⟨hi_5, hf⟩ := z_c_e hf
  refine r_aal (t := 136 + 8 * ix x1) X hR kq_73 hi_5 (sa_73 hi_5) dX6_holdIn_15 ?_
  refine lv_aload_n hx hb dX6_holdIn_16 rfl (lv_at hl 3 rfl) ?_
  obtain ⟨r_6, σ_7, hc_8, hf⟩ := z_b_e hf
  refine go_v hR (mv_run (As := [.ref (G.2.2 + o3)]) (rest := []) X hR mv_6_48 (ka_73_o hi_5) (kd_lt (ka_73_o hi_5) (by decide)) (c1_become l G N (ka_73_o hi_5) ho3 hc_8) ⟨rfl, rfl, Nat.le_of_ble_eq_true rfl, Nat.le_of_ble_eq_true rfl⟩ rfl hl.1 rfl (Nat.le_of_ble_eq_true rfl) dX6_holdIn_17 ⟨Nat.zero_le _, Nat.zero_le _⟩) (fun H locs hR => ?_)
  refine lv_aload_n hx hb dX6_holdIn_20 rfl (lv_at hl 0 rfl) ?_
  refine lv_dup hx hb dX6_holdIn_21 rfl ?_
  refine r_gi X hR fi_6_33 kh_70 dX6_holdIn_22 ?_
  refine lv_iconst (v := (1 : Int32)) hx hb dX6_holdIn_25 (by decide) ?_
  refine lv_iload_n hx hb dX6_holdIn_26 rfl (lv_at hl 1 rfl) ?_
  refine lv_ishl hx hb dX6_holdIn_27 ?_
  refine lv_ior hx hb dX6_holdIn_28 ?_
  refine r_pi X hR pi_6_33 kh_70 dX6_holdIn_29 (fun H locs σ_9 eσ_9 hR => ?_)
  replace hf := z_l_e eσ_9 hf
  exact e_v X hR hr hlk hf dX6_holdIn_32
abbrev rm6_goOnFrom : Room := { frames := 2, cells := 0, slots := 0, locals := 68 }
def f6_goOnFrom (N : Nat) (o2 : Nat) (o3 : Nat) (x1 : Int32) (σ : Mm) : Option (Int32 × Mm) :=
  if (((gI σ 70 5) >>> (x1 &&& 31)) &&& (1 : Int32)) = 0 then (
  some ((0 : Int32), σ)) else (
  z_c (inB x1 3) (
  z_b (f5_become N o2 (134 + 8 * ix x1) σ) fun _ σ_4 =>
  z_c (inB x1 3) (
  z_b (f1_become N o3 (136 + 8 * ix x1) σ_4) fun _ σ_8 =>
  z_l (sI σ_8 70 2 (0 : Int32)) fun σ_10 =>
  some ((1 : Int32), σ_10))))
set_option maxHeartbeats 4000000 in
set_option maxRecDepth 100000 in
theorem c6_goOnFrom (l : Launch) (G : Gp) (N : Nat) {o2 : Nat} {o3 : Nat} (ho2 : (kd o2).1 = 5) (ho3 : (kd o3).1 = 1) {x1 : Int32} {σ σ0 : Mm} {r0 : Int32} (hf : f6_goOnFrom N o2 o3 x1 σ = some (r0, σ0)) : Met l yX6_goOnFrom (WS yX6_goOnFrom cX6_goOnFrom 4 (some .boolean)) rm6_goOnFrom (va_Pc [.ref (G.2.2 + 70), .int x1, .ref (G.2.2 + o2), .ref (G.2.2 + o3)] (Pd G 212 tt σ)) (P_i G 212 tt r0 σ0) 0 0 (Fr G) := by
  refine ct [(0, .ref (G.2.2 + 70)), (1, .int x1), (2, .ref (G.2.2 + o2)), (3, .ref (G.2.2 + o3))] rfl (by decide) (Nat.le_of_ble_eq_true rfl) ?_
  intro p e s m below meth c ls X hr hlk hR hl
  have X : Cx p s m _ c cX6_goOnFrom 4 RX6 G := X
  have hx := X.1
  have hb := X.2.1
  unfold f6_goOnFrom at hf
  refine lv_aload_n hx hb dX6_goOnFrom_0 rfl (lv_at hl 0 rfl) ?_
  refine r_gi X hR fi_6_33 kh_70 dX6_goOnFrom_1 ?_
  refine lv_iload_n hx hb dX6_goOnFrom_4 rfl (lv_at hl 1 rfl) ?_
  refine lv_ishr hx hb dX6_goOnFrom_5 ?_
  refine lv_iconst (v := (1 : Int32)) hx hb dX6_goOnFrom_6 (by decide) ?_
  refine lv_iand hx hb dX6_goOnFrom_7 ?_
  refine lv_if_ne (tgt := 13) hx hb dX6_goOnFrom_8 (by decide) (fun c_1 => ?_) (fun c_1 => ?_)
  · replace hf := z_f c_1 hf
    refine lv_aload_n hx hb dX6_goOnFrom_13 rfl (lv_at hl 2 rfl) ?_
    refine lv_aload_n hx hb dX6_goOnFrom_14 rfl (lv_at hl 0 rfl) ?_
    refine r_gs (t := 72) X hR fr_6_24 kh_70 (sx_6_3 kh_70) dX6_goOnFrom_15 ?_
    refine lv_iload_n hx hb dX6_goOnFrom_18 rfl (lv_at hl 1 rfl) ?_
    obtain ⟨hi_2, hf⟩ := z_c_e hf
    refine r_aal (t := 134 + 8 * ix x1) X hR kq_72 hi_2 (sa_72 hi_2) dX6_goOnFrom_19 ?_
    obtain ⟨r_3, σ_4, hc_5, hf⟩ := z_b_e hf
    refine go_v hR (mv_run (As := [.ref (G.2.2 + (134 + 8 * ix x1))]) (rest := []) X hR mv_6_38 ho2 (kd_lt ho2 (by decide)) (c5_become l G N ho2 (ka_72_o hi_2) hc_5) ⟨rfl, rfl, Nat.le_of_ble_eq_true rfl, Nat.le_of_ble_eq_true rfl⟩ rfl hl.1 rfl (Nat.le_of_ble_eq_true rfl) dX6_goOnFrom_20 ⟨Nat.zero_le _, Nat.zero_le _⟩) (fun H locs hR => ?_)
    refine lv_aload_n hx hb dX6_goOnFrom_23 rfl (lv_at hl 3 rfl) ?_
    refine lv_aload_n hx hb dX6_goOnFrom_24 rfl (lv_at hl 0 rfl) ?_
    refine r_gs (t := 73) X hR fr_6_29 kh_70 (sx_6_4 kh_70) dX6_goOnFrom_25 ?_
    refine lv_iload_n hx hb dX6_goOnFrom_28 rfl (lv_at hl 1 rfl) ?_
    obtain ⟨hi_6, hf⟩ := z_c_e hf
    refine r_aal (t := 136 + 8 * ix x1) X hR kq_73 hi_6 (sa_73 hi_6) dX6_goOnFrom_29 ?_
    obtain ⟨r_7, σ_8, hc_9, hf⟩ := z_b_e hf
    refine go_v hR (mv_run (As := [.ref (G.2.2 + (136 + 8 * ix x1))]) (rest := []) X hR mv_6_48 ho3 (kd_lt ho3 (by decide)) (c1_become l G N ho3 (ka_73_o hi_6) hc_9) ⟨rfl, rfl, Nat.le_of_ble_eq_true rfl, Nat.le_of_ble_eq_true rfl⟩ rfl hl.1 rfl (Nat.le_of_ble_eq_true rfl) dX6_goOnFrom_30 ⟨Nat.zero_le _, Nat.zero_le _⟩) (fun H locs hR => ?_)
    refine lv_aload_n hx hb dX6_goOnFrom_33 rfl (lv_at hl 0 rfl) ?_
    refine lv_iconst (v := (0 : Int32)) hx hb dX6_goOnFrom_34 (by decide) ?_
    refine r_pi X hR pi_6_21 kh_70 dX6_goOnFrom_35 (fun H locs σ_10 eσ_10 hR => ?_)
    replace hf := z_l_e eσ_10 hf
    refine lv_iconst (v := (1 : Int32)) hx hb dX6_goOnFrom_38 (by decide) ?_
    exact e_z X hR hr hlk rfl hf dX6_goOnFrom_39
  · replace hf := z_t c_1 hf
    refine lv_iconst (v := (0 : Int32)) hx hb dX6_goOnFrom_11 (by decide) ?_
    exact e_z X hR hr hlk rfl hf dX6_goOnFrom_12
abbrev rm7_isIn : Room := { frames := 0, cells := 0, slots := 0, locals := 0 }
def f7_isIn (N : Nat) (x0 : Int32) (x1 : Int32) (σ : Mm) : Option (Int32 × Mm) :=
  if ((x0 >>> (x1 &&& 31)) &&& (1 : Int32)) = 0 then (
  some ((0 : Int32), σ)) else (
  some ((1 : Int32), σ))
set_option maxHeartbeats 4000000 in
set_option maxRecDepth 100000 in
theorem c7_isIn (l : Launch) (G : Gp) (N : Nat) {x0 : Int32} {x1 : Int32} {σ σ0 : Mm} {r0 : Int32} (hf : f7_isIn N x0 x1 σ = some (r0, σ0)) : Met l yX7_isIn (WS yX7_isIn cX7_isIn 2 (some .boolean)) rm7_isIn (va_Pc [.int x0, .int x1] (Pd G 212 tt σ)) (P_i G 212 tt r0 σ0) 0 0 (Fr G) := by
  refine ct [(0, .int x0), (1, .int x1)] rfl (by decide) (Nat.le_of_ble_eq_true rfl) ?_
  intro p e s m below meth c ls X hr hlk hR hl
  have X : Cx p s m _ c cX7_isIn 2 RX7 G := X
  have hx := X.1
  have hb := X.2.1
  unfold f7_isIn at hf
  refine lv_iload_n hx hb dX7_isIn_0 rfl (lv_at hl 0 rfl) ?_
  refine lv_iload_n hx hb dX7_isIn_1 rfl (lv_at hl 1 rfl) ?_
  refine lv_ishr hx hb dX7_isIn_2 ?_
  refine lv_iconst (v := (1 : Int32)) hx hb dX7_isIn_3 (by decide) ?_
  refine lv_iand hx hb dX7_isIn_4 ?_
  refine lv_if_eq (tgt := 12) hx hb dX7_isIn_5 (by decide) (fun c_1 => ?_) (fun c_1 => ?_)
  · replace hf := z_t c_1 hf
    refine lv_iconst (v := (0 : Int32)) hx hb dX7_isIn_12 (by decide) ?_
    exact e_z X hR hr hlk rfl hf dX7_isIn_13
  · replace hf := z_f c_1 hf
    refine lv_iconst (v := (1 : Int32)) hx hb dX7_isIn_8 (by decide) ?_
    refine lv_goto (tgt := 13) hx hb dX7_isIn_9 (by decide) ?_
    exact e_z X hR hr hlk rfl hf dX7_isIn_13
abbrev rm7_lengthBy : Room := { frames := 0, cells := 0, slots := 0, locals := 0 }
def f7_lengthBy (N : Nat) (x1 : Int32) (x2 : Int32) (x3 : Int32) (σ : Mm) : Option (Int32 × Mm) :=
  z_l ((x3 &&& (((1 : Int32) <<< (x2 &&& 31)) ^^^ (-1 : Int32)))) fun x4_1 =>
  z_c (inB ((x1 * (7 : Int32)) + x2) 49) (
  z_c (inB ((x4_1 * (7 : Int32)) + x2) 896) (
  some (((gI σ 67 (ix ((x1 * (7 : Int32)) + x2))) + (gI σ 69 (ix ((x4_1 * (7 : Int32)) + x2)))), σ)))
set_option maxHeartbeats 4000000 in
set_option maxRecDepth 100000 in
theorem c7_lengthBy (l : Launch) (G : Gp) (N : Nat) {x1 : Int32} {x2 : Int32} {x3 : Int32} {σ σ0 : Mm} {r0 : Int32} (hf : f7_lengthBy N x1 x2 x3 σ = some (r0, σ0)) : Met l yX7_lengthBy (WS yX7_lengthBy cX7_lengthBy 5 (some .int)) rm7_lengthBy (va_Pc [.ref (G.2.2 + 66), .int x1, .int x2, .int x3] (Pd G 212 tt σ)) (P_i G 212 tt r0 σ0) 0 0 (Fr G) := by
  refine ct [(0, .ref (G.2.2 + 66)), (1, .int x1), (2, .int x2), (3, .int x3)] rfl (by decide) (Nat.le_of_ble_eq_true rfl) ?_
  intro p e s m below meth c ls X hr hlk hR hl
  have X : Cx p s m _ c cX7_lengthBy 5 RX7 G := X
  have hx := X.1
  have hb := X.2.1
  unfold f7_lengthBy at hf
  refine lv_iload_n hx hb dX7_lengthBy_0 rfl (lv_at hl 3 rfl) ?_
  refine lv_iconst (v := (1 : Int32)) hx hb dX7_lengthBy_1 (by decide) ?_
  refine lv_iload_n hx hb dX7_lengthBy_2 rfl (lv_at hl 2 rfl) ?_
  refine lv_ishl hx hb dX7_lengthBy_3 ?_
  refine lv_iconst (v := (-1 : Int32)) hx hb dX7_lengthBy_4 (by decide) ?_
  refine lv_ixor hx hb dX7_lengthBy_5 ?_
  refine lv_iand hx hb dX7_lengthBy_6 ?_
  refine lv_topi (fun x4_1 ex4_1 => ?_)
  replace hf := z_l_e ex4_1 hf
  refine lv_istore (lv' := [(4, .int x4_1), (0, .ref (G.2.2 + 66)), (1, .int x1), (2, .int x2), (3, .int x3)]) hx hb dX7_lengthBy_7 hl (by decide) rfl (fun ls hl => ?_)
  refine lv_aload_n hx hb dX7_lengthBy_9 rfl (lv_at hl 1 rfl) ?_
  refine r_gs (t := 67) X hR fr_7_9 kh_66 (sx_7_0 kh_66) dX7_lengthBy_10 ?_
  refine lv_iload_n hx hb dX7_lengthBy_13 rfl (lv_at hl 2 rfl) ?_
  refine lv_bipush (v := (7 : Int32)) hx hb dX7_lengthBy_14 (by decide) ?_
  refine lv_imul hx hb dX7_lengthBy_16 ?_
  refine lv_iload_n hx hb dX7_lengthBy_17 rfl (lv_at hl 3 rfl) ?_
  refine lv_iadd hx hb dX7_lengthBy_18 ?_
  obtain ⟨hi_2, hf⟩ := z_c_e hf
  refine r_ial X hR ka_67 hi_2 dX7_lengthBy_19 ?_
  refine lv_aload_n hx hb dX7_lengthBy_20 rfl (lv_at hl 1 rfl) ?_
  refine r_gs (t := 69) X hR fr_7_18 kh_66 (sx_7_2 kh_66) dX7_lengthBy_21 ?_
  refine lv_iload hx hb dX7_lengthBy_24 (lv_at hl 0 rfl) ?_
  refine lv_bipush (v := (7 : Int32)) hx hb dX7_lengthBy_26 (by decide) ?_
  refine lv_imul hx hb dX7_lengthBy_28 ?_
  refine lv_iload_n hx hb dX7_lengthBy_29 rfl (lv_at hl 3 rfl) ?_
  refine lv_iadd hx hb dX7_lengthBy_30 ?_
  obtain ⟨hi_3, hf⟩ := z_c_e hf
  refine r_ial X hR ka_69 hi_3 dX7_lengthBy_31 ?_
  refine lv_iadd hx hb dX7_lengthBy_32 ?_
  exact e_i X hR hr hlk hf dX7_lengthBy_33
abbrev rm7_nextPlot : Room := { frames := 1, cells := 0, slots := 0, locals := 24 }
def f7_nextPlot_53 (N : Nat) (k8 : Int32 → Int32 → Int32 → Mm → Option (Int32 × Mm)) (x1 : Int32) (x2 : Int32) (x3 : Int32) (x4 : Int32) (x5 : Int32) (σ : Mm) : Option (Int32 × Mm) :=
  z_l (x5 + (1 : Int32)) fun x5_6 =>
  k8 x3 x4 x5_6 σ
def f7_nextPlot_46 (N : Nat) (k8 : Int32 → Int32 → Int32 → Mm → Option (Int32 × Mm)) (x1 : Int32) (x2 : Int32) (x5 : Int32) (x6 : Int32) (σ : Mm) : Option (Int32 × Mm) :=
  f7_nextPlot_53 N k8 x1 x2 x5 x6 x5 σ
def f7_nextPlot_8 (N : Nat) (x1 : Int32) (x2 : Int32) : Nat → Int32 → Int32 → Int32 → Mm → Option (Int32 × Mm)
  | 0, _, _, _, _ => none
  | fu + 1, x3, x4, x5, σ => if (7 : Int32) ≤ x5 then (
  some (x3, σ)) else (
  z_b (f7_isIn N x2 x5 σ) fun r_2 σ_3 =>
  if r_2 = 0 then (
  f7_nextPlot_53 N (fun x3 x4 x5 σ => f7_nextPlot_8 N x1 x2 fu x3 x4 x5 σ) x1 x2 x3 x4 x5 σ_3) else (
  z_b (f7_lengthBy N x1 x5 x2 σ_3) fun r_7 σ_8 =>
  if x3 = (-1 : Int32) then (
  f7_nextPlot_46 N (fun x3 x4 x5 σ => f7_nextPlot_8 N x1 x2 fu x3 x4 x5 σ) x1 x2 x5 r_7 σ_8) else (
  if x4 ≤ r_7 then (
  f7_nextPlot_53 N (fun x3 x4 x5 σ => f7_nextPlot_8 N x1 x2 fu x3 x4 x5 σ) x1 x2 x3 x4 x5 σ_8) else (
  f7_nextPlot_46 N (fun x3 x4 x5 σ => f7_nextPlot_8 N x1 x2 fu x3 x4 x5 σ) x1 x2 x5 r_7 σ_8))))
def f7_nextPlot (N : Nat) (x1 : Int32) (x2 : Int32) (σ : Mm) : Option (Int32 × Mm) :=
  f7_nextPlot_8 N x1 x2 N (-1 : Int32) (0 : Int32) (0 : Int32) σ
set_option maxHeartbeats 4000000 in
set_option maxRecDepth 100000 in
theorem w7_nextPlot_53 (X : Cx p s m args c cX7_nextPlot 7 RX7 G) (hr : meth.sig.returnType = some .int) (hlk : meth.locks = false) (N : Nat) {x1 : Int32} {x2 : Int32} {k8 : Int32 → Int32 → Int32 → Mm → Option (Int32 × Mm)} (hk8 : ∀ (x3 : Int32) (x4 : Int32) (x5 : Int32) (σ : Mm) (H : Heap) (locs : List Loc) (ls : Array Slot), k8 x3 x4 x5 σ = some (r0, σ0) → Rp G 212 tt σ s H locs → lv_has ls 7 [(0, .ref (G.2.2 + 66)), (1, .int x1), (2, .int x2), (3, .int x3), (4, .int x4), (5, .int x5)] → W p l e rm7_nextPlot s m args below meth c H locs 0 0 (MQ below (P_i G 212 tt r0 σ0) args s 0 0 (Fr G)) (F0 m 8 ls [])) :
    ∀ (x3 : Int32) (x4 : Int32) (x5 : Int32) (σ : Mm) (H : Heap) (locs : List Loc) (ls : Array Slot), f7_nextPlot_53 N k8 x1 x2 x3 x4 x5 σ = some (r0, σ0) → Rp G 212 tt σ s H locs → lv_has ls 7 [(0, .ref (G.2.2 + 66)), (1, .int x1), (2, .int x2), (3, .int x3), (4, .int x4), (5, .int x5)] → W p l e rm7_nextPlot s m args below meth c H locs 0 0 (MQ below (P_i G 212 tt r0 σ0) args s 0 0 (Fr G)) (F0 m 53 ls []) := by
  have hx := X.1
  have hb := X.2.1
  intro x3 x4 x5 σ H locs ls hf hR hl
  unfold f7_nextPlot_53 at hf
  obtain ⟨x5_6, ex5_6⟩ : ∃ z : Int32, z = x5 + (1 : Int32) := ⟨_, rfl⟩
  replace hf := z_l_e ex5_6 hf
  refine lv_iinc (v := x5_6) (lv' := [(5, .int x5_6), (0, .ref (G.2.2 + 66)), (1, .int x1), (2, .int x2), (3, .int x3), (4, .int x4)]) hx hb dX7_nextPlot_53 hl (k := 5) rfl (by rw [ex5_6]; rfl) (by decide) rfl (fun ls hl => ?_)
  refine lv_goto (tgt := 8) hx hb dX7_nextPlot_56 (by decide) ?_
  exact hk8 x3 x4 x5_6 σ _ _ _ hf hR (lv_sub hl [1, 2, 3, 4, 5, 0] rfl)
set_option maxHeartbeats 4000000 in
set_option maxRecDepth 100000 in
theorem w7_nextPlot_46 (X : Cx p s m args c cX7_nextPlot 7 RX7 G) (hr : meth.sig.returnType = some .int) (hlk : meth.locks = false) (N : Nat) {x1 : Int32} {x2 : Int32} {k8 : Int32 → Int32 → Int32 → Mm → Option (Int32 × Mm)} (hk8 : ∀ (x3 : Int32) (x4 : Int32) (x5 : Int32) (σ : Mm) (H : Heap) (locs : List Loc) (ls : Array Slot), k8 x3 x4 x5 σ = some (r0, σ0) → Rp G 212 tt σ s H locs → lv_has ls 7 [(0, .ref (G.2.2 + 66)), (1, .int x1), (2, .int x2), (3, .int x3), (4, .int x4), (5, .int x5)] → W p l e rm7_nextPlot s m args below meth c H locs 0 0 (MQ below (P_i G 212 tt r0 σ0) args s 0 0 (Fr G)) (F0 m 8 ls [])) :
    ∀ (x5 : Int32) (x6 : Int32) (σ : Mm) (H : Heap) (locs : List Loc) (ls : Array Slot), f7_nextPlot_46 N k8 x1 x2 x5 x6 σ = some (r0, σ0) → Rp G 212 tt σ s H locs → lv_has ls 7 [(0, .ref (G.2.2 + 66)), (1, .int x1), (2, .int x2), (5, .int x5), (6, .int x6)] → W p l e rm7_nextPlot s m args below meth c H locs 0 0 (MQ below (P_i G 212 tt r0 σ0) args s 0 0 (Fr G)) (F0 m 46 ls []) := by
  have hx := X.1
  have hb := X.2.1
  intro x5 x6 σ H locs ls hf hR hl
  unfold f7_nextPlot_46 at hf
  refine lv_iload hx hb dX7_nextPlot_46 (lv_at hl 3 rfl) ?_
  refine lv_istore_n (lv' := [(3, .int x5), (0, .ref (G.2.2 + 66)), (1, .int x1), (2, .int x2), (5, .int x5), (6, .int x6)]) hx hb dX7_nextPlot_48 rfl hl (by decide) rfl (fun ls hl => ?_)
  refine lv_iload hx hb dX7_nextPlot_49 (lv_at hl 5 rfl) ?_
  refine lv_istore (lv' := [(4, .int x6), (3, .int x5), (0, .ref (G.2.2 + 66)), (1, .int x1), (2, .int x2), (5, .int x5), (6, .int x6)]) hx hb dX7_nextPlot_51 hl (by decide) rfl (fun ls hl => ?_)
  exact w7_nextPlot_53 X hr hlk N hk8 x5 x6 x5 σ _ _ _ hf hR (lv_sub hl [2, 3, 4, 1, 0, 5] rfl)
set_option maxHeartbeats 4000000 in
set_option maxRecDepth 100000 in
theorem w7_nextPlot_8 (X : Cx p s m args c cX7_nextPlot 7 RX7 G) (hr : meth.sig.returnType = some .int) (hlk : meth.locks = false) (N : Nat) {x1 : Int32} {x2 : Int32} :
    ∀ (fu : Nat) (x3 : Int32) (x4 : Int32) (x5 : Int32) (σ : Mm) (H : Heap) (locs : List Loc) (ls : Array Slot), f7_nextPlot_8 N x1 x2 fu x3 x4 x5 σ = some (r0, σ0) → Rp G 212 tt σ s H locs → lv_has ls 7 [(0, .ref (G.2.2 + 66)), (1, .int x1), (2, .int x2), (3, .int x3), (4, .int x4), (5, .int x5)] → W p l e rm7_nextPlot s m args below meth c H locs 0 0 (MQ below (P_i G 212 tt r0 σ0) args s 0 0 (Fr G)) (F0 m 8 ls []) := by
  have hx := X.1
  have hb := X.2.1
  intro fu
  induction fu with
  | zero =>
    intro x3 x4 x5 σ H locs ls hf hR hl
    rw [f7_nextPlot_8] at hf
    cases hf
  | succ fu ih =>
    intro x3 x4 x5 σ H locs ls hf hR hl
    rw [f7_nextPlot_8] at hf
    refine lv_iload hx hb dX7_nextPlot_8 (lv_at hl 5 rfl) ?_
    refine lv_bipush (v := (7 : Int32)) hx hb dX7_nextPlot_10 (by decide) ?_
    refine lv_icmp_ge (tgt := 59) hx hb dX7_nextPlot_12 (by decide) (fun c_1 => ?_) (fun c_1 => ?_)
    · replace hf := z_t c_1 hf
      refine lv_iload_n hx hb dX7_nextPlot_59 rfl (lv_at hl 3 rfl) ?_
      exact e_i X hR hr hlk hf dX7_nextPlot_60
    · replace hf := z_f c_1 hf
      refine lv_iload_n hx hb dX7_nextPlot_15 rfl (lv_at hl 2 rfl) ?_
      refine lv_iload hx hb dX7_nextPlot_16 (lv_at hl 5 rfl) ?_
      obtain ⟨r_2, σ_3, hc_4, hf⟩ := z_b_e hf
      refine go_i hR (ms_run (As := [.int x2, .int x5]) (rest := []) X hR ms_7_21 (c7_isIn l G N hc_4) ⟨rfl, rfl, Nat.le_of_ble_eq_true rfl, Nat.le_of_ble_eq_true rfl⟩ rfl hl.1 rfl (Nat.le_of_ble_eq_true rfl) dX7_nextPlot_18 ⟨Nat.zero_le _, Nat.zero_le _⟩) (fun H locs hR => ?_)
      refine lv_if_eq (tgt := 53) hx hb dX7_nextPlot_21 (by decide) (fun c_5 => ?_) (fun c_5 => ?_)
      · replace hf := z_t c_5 hf
        exact w7_nextPlot_53 X hr hlk N ih x3 x4 x5 σ_3 _ _ _ hf hR (lv_sub hl [0, 1, 2, 3, 4, 5] rfl)
      · replace hf := z_f c_5 hf
        refine lv_aload_n hx hb dX7_nextPlot_24 rfl (lv_at hl 0 rfl) ?_
        refine lv_iload_n hx hb dX7_nextPlot_25 rfl (lv_at hl 1 rfl) ?_
        refine lv_iload hx hb dX7_nextPlot_26 (lv_at hl 5 rfl) ?_
        refine lv_iload_n hx hb dX7_nextPlot_28 rfl (lv_at hl 2 rfl) ?_
        obtain ⟨r_7, σ_8, hc_9, hf⟩ := z_b_e hf
        refine go_i hR (mv_run (As := [.int x1, .int x5, .int x2]) (rest := []) X hR mv_7_43 kh_66 (kd_lt kh_66 (by decide)) (c7_lengthBy l G N hc_9) ⟨rfl, rfl, Nat.le_of_ble_eq_true rfl, Nat.le_of_ble_eq_true rfl⟩ rfl hl.1 rfl (Nat.le_of_ble_eq_true rfl) dX7_nextPlot_29 ⟨Nat.zero_le _, Nat.zero_le _⟩) (fun H locs hR => ?_)
        refine lv_istore (lv' := [(6, .int r_7), (0, .ref (G.2.2 + 66)), (1, .int x1), (2, .int x2), (3, .int x3), (4, .int x4), (5, .int x5)]) hx hb dX7_nextPlot_32 hl (by decide) rfl (fun ls hl => ?_)
        refine lv_iload_n hx hb dX7_nextPlot_34 rfl (lv_at hl 4 rfl) ?_
        refine lv_iconst (v := (-1 : Int32)) hx hb dX7_nextPlot_35 (by decide) ?_
        refine lv_icmp_eq (tgt := 46) hx hb dX7_nextPlot_36 (by decide) (fun c_10 => ?_) (fun c_10 => ?_)
        · replace hf := z_t c_10 hf
          exact w7_nextPlot_46 X hr hlk N ih x5 r_7 σ_8 _ _ _ hf hR (lv_sub hl [1, 2, 3, 6, 0] rfl)
        · replace hf := z_f c_10 hf
          refine lv_iload hx hb dX7_nextPlot_39 (lv_at hl 0 rfl) ?_
          refine lv_iload hx hb dX7_nextPlot_41 (lv_at hl 5 rfl) ?_
          refine lv_icmp_ge (tgt := 53) hx hb dX7_nextPlot_43 (by decide) (fun c_11 => ?_) (fun c_11 => ?_)
          · replace hf := z_t c_11 hf
            exact w7_nextPlot_53 X hr hlk N ih x3 x4 x5 σ_8 _ _ _ hf hR (lv_sub hl [1, 2, 3, 4, 5, 6] rfl)
          · replace hf := z_f c_11 hf
            exact w7_nextPlot_46 X hr hlk N ih x5 r_7 σ_8 _ _ _ hf hR (lv_sub hl [1, 2, 3, 6, 0] rfl)
set_option maxHeartbeats 4000000 in
set_option maxRecDepth 100000 in
theorem c7_nextPlot (l : Launch) (G : Gp) (N : Nat) {x1 : Int32} {x2 : Int32} {σ σ0 : Mm} {r0 : Int32} (hf : f7_nextPlot N x1 x2 σ = some (r0, σ0)) : Met l yX7_nextPlot (WS yX7_nextPlot cX7_nextPlot 7 (some .int)) rm7_nextPlot (va_Pc [.ref (G.2.2 + 66), .int x1, .int x2] (Pd G 212 tt σ)) (P_i G 212 tt r0 σ0) 0 0 (Fr G) := by
  refine ct [(0, .ref (G.2.2 + 66)), (1, .int x1), (2, .int x2)] rfl (by decide) (Nat.le_of_ble_eq_true rfl) ?_
  intro p e s m below meth c ls X hr hlk hR hl
  have X : Cx p s m _ c cX7_nextPlot 7 RX7 G := X
  have hx := X.1
  have hb := X.2.1
  unfold f7_nextPlot at hf
  refine lv_iconst (v := (-1 : Int32)) hx hb dX7_nextPlot_0 (by decide) ?_
  refine lv_istore_n (lv' := [(3, .int (-1 : Int32)), (0, .ref (G.2.2 + 66)), (1, .int x1), (2, .int x2)]) hx hb dX7_nextPlot_1 rfl hl (by decide) rfl (fun ls hl => ?_)
  refine lv_iconst (v := (0 : Int32)) hx hb dX7_nextPlot_2 (by decide) ?_
  refine lv_istore (lv' := [(4, .int (0 : Int32)), (3, .int (-1 : Int32)), (0, .ref (G.2.2 + 66)), (1, .int x1), (2, .int x2)]) hx hb dX7_nextPlot_3 hl (by decide) rfl (fun ls hl => ?_)
  refine lv_iconst (v := (0 : Int32)) hx hb dX7_nextPlot_5 (by decide) ?_
  refine lv_istore (lv' := [(5, .int (0 : Int32)), (4, .int (0 : Int32)), (3, .int (-1 : Int32)), (0, .ref (G.2.2 + 66)), (1, .int x1), (2, .int x2)]) hx hb dX7_nextPlot_6 hl (by decide) rfl (fun ls hl => ?_)
  exact w7_nextPlot_8 X hr hlk N  N (-1 : Int32) (0 : Int32) (0 : Int32) σ _ _ _ hf hR (lv_sub hl [3, 4, 5, 2, 1, 0] rfl)
abbrev rm7_findThrough : Room := { frames := 2, cells := 0, slots := 0, locals := 50 }
def f7_findThrough_57 (N : Nat) (k2 : Int32 → Mm → Option (Unit × Mm)) (x1 : Int32) (x2 : Int32) (x3 : Int32) (σ : Mm) : Option (Unit × Mm) :=
  z_l (x3 + (1 : Int32)) fun x3_6 =>
  k2 x3_6 σ
def f7_findThrough_56 (N : Nat) (k2 : Int32 → Mm → Option (Unit × Mm)) (x1 : Int32) (x2 : Int32) (x3 : Int32) (s1 : Int32) (s2 : Int32) (σ : Mm) : Option (Unit × Mm) :=
  z_c (inB s1 896) (z_l (sI σ 69 (ix s1) s2) fun σ_15 =>
  f7_findThrough_57 N k2 x1 x2 x3 σ_15)
def f7_findThrough_2 (N : Nat) (x1 : Int32) (x2 : Int32) : Nat → Int32 → Mm → Option (Unit × Mm)
  | 0, _, _ => none
  | fu + 1, x3, σ => if (7 : Int32) ≤ x3 then (
  some ((), σ)) else (
  z_b (f7_isIn N (x1 &&& (x2 ^^^ (-1 : Int32))) x3 σ) fun r_2 σ_3 =>
  if r_2 = 0 then (
  f7_findThrough_57 N (fun x3 σ => f7_findThrough_2 N x1 x2 fu x3 σ) x1 x2 x3 σ_3) else (
  z_b (f7_nextPlot N x3 x2 σ_3) fun r_7 σ_8 =>
  if r_7 = (-1 : Int32) then (
  f7_findThrough_56 N (fun x3 σ => f7_findThrough_2 N x1 x2 fu x3 σ) x1 x2 x3 ((x2 * (7 : Int32)) + x3) (0 : Int32) σ_8) else (
  z_b (f7_lengthBy N x3 r_7 x2 σ_8) fun r_11 σ_12 =>
  f7_findThrough_56 N (fun x3 σ => f7_findThrough_2 N x1 x2 fu x3 σ) x1 x2 x3 ((x2 * (7 : Int32)) + x3) r_11 σ_12)))
def f7_findThrough (N : Nat) (x1 : Int32) (x2 : Int32) (σ : Mm) : Option (Unit × Mm) :=
  f7_findThrough_2 N x1 x2 N (0 : Int32) σ
set_option maxHeartbeats 4000000 in
set_option maxRecDepth 100000 in
theorem w7_findThrough_57 (X : Cx p s m args c cX7_findThrough 5 RX7 G) (hr : meth.sig.returnType = none) (hlk : meth.locks = false) (N : Nat) {x1 : Int32} {x2 : Int32} {k2 : Int32 → Mm → Option (Unit × Mm)} (hk2 : ∀ (x3 : Int32) (σ : Mm) (H : Heap) (locs : List Loc) (ls : Array Slot), k2 x3 σ = some (u0, σ0) → Rp G 212 tt σ s H locs → lv_has ls 5 [(0, .ref (G.2.2 + 66)), (1, .int x1), (2, .int x2), (3, .int x3)] → W p l e rm7_findThrough s m args below meth c H locs 0 0 (MQ below (P_v G 212 tt u0 σ0) args s 0 0 (Fr G)) (F0 m 2 ls [])) :
    ∀ (x3 : Int32) (σ : Mm) (H : Heap) (locs : List Loc) (ls : Array Slot), f7_findThrough_57 N k2 x1 x2 x3 σ = some (u0, σ0) → Rp G 212 tt σ s H locs → lv_has ls 5 [(0, .ref (G.2.2 + 66)), (1, .int x1), (2, .int x2), (3, .int x3)] → W p l e rm7_findThrough s m args below meth c H locs 0 0 (MQ below (P_v G 212 tt u0 σ0) args s 0 0 (Fr G)) (F0 m 57 ls []) := by
  have hx := X.1
  have hb := X.2.1
  intro x3 σ H locs ls hf hR hl
  unfold f7_findThrough_57 at hf
  obtain ⟨x3_6, ex3_6⟩ : ∃ z : Int32, z = x3 + (1 : Int32) := ⟨_, rfl⟩
  replace hf := z_l_e ex3_6 hf
  refine lv_iinc (v := x3_6) (lv' := [(3, .int x3_6), (0, .ref (G.2.2 + 66)), (1, .int x1), (2, .int x2)]) hx hb dX7_findThrough_57 hl (k := 3) rfl (by rw [ex3_6]; rfl) (by decide) rfl (fun ls hl => ?_)
  refine lv_goto (tgt := 2) hx hb dX7_findThrough_60 (by decide) ?_
  exact hk2 x3_6 σ _ _ _ hf hR (lv_sub hl [1, 2, 3, 0] rfl)
set_option maxHeartbeats 4000000 in
set_option maxRecDepth 100000 in
theorem w7_findThrough_56 (X : Cx p s m args c cX7_findThrough 5 RX7 G) (hr : meth.sig.returnType = none) (hlk : meth.locks = false) (N : Nat) {x1 : Int32} {x2 : Int32} {k2 : Int32 → Mm → Option (Unit × Mm)} (hk2 : ∀ (x3 : Int32) (σ : Mm) (H : Heap) (locs : List Loc) (ls : Array Slot), k2 x3 σ = some (u0, σ0) → Rp G 212 tt σ s H locs → lv_has ls 5 [(0, .ref (G.2.2 + 66)), (1, .int x1), (2, .int x2), (3, .int x3)] → W p l e rm7_findThrough s m args below meth c H locs 0 0 (MQ below (P_v G 212 tt u0 σ0) args s 0 0 (Fr G)) (F0 m 2 ls [])) :
    ∀ (x3 : Int32) (s1 : Int32) (s2 : Int32) (σ : Mm) (H : Heap) (locs : List Loc) (ls : Array Slot), f7_findThrough_56 N k2 x1 x2 x3 s1 s2 σ = some (u0, σ0) → Rp G 212 tt σ s H locs → lv_has ls 5 [(0, .ref (G.2.2 + 66)), (1, .int x1), (2, .int x2), (3, .int x3)] → W p l e rm7_findThrough s m args below meth c H locs 0 0 (MQ below (P_v G 212 tt u0 σ0) args s 0 0 (Fr G)) (F0 m 56 ls [.int s2, .int s1, .ref (G.2.2 + 69)]) := by
  have hx := X.1
  have hb := X.2.1
  intro x3 s1 s2 σ H locs ls hf hR hl
  unfold f7_findThrough_56 at hf
  obtain ⟨hi_14, hf⟩ := z_c_e hf
  refine r_ias X hR ka_69 hi_14 dX7_findThrough_56 (fun H locs σ_15 eσ_15 hR => ?_)
  replace hf := z_l_e eσ_15 hf
  exact w7_findThrough_57 X hr hlk N hk2 x3 σ_15 _ _ _ hf hR (lv_sub hl [0, 1, 2, 3] rfl)
set_option maxHeartbeats 4000000 in
set_option maxRecDepth 100000 in
theorem w7_findThrough_2 (X : Cx p s m args c cX7_findThrough 5 RX7 G) (hr : meth.sig.returnType = none) (hlk : meth.locks = false) (N : Nat) {x1 : Int32} {x2 : Int32} :
    ∀ (fu : Nat) (x3 : Int32) (σ : Mm) (H : Heap) (locs : List Loc) (ls : Array Slot), f7_findThrough_2 N x1 x2 fu x3 σ = some (u0, σ0) → Rp G 212 tt σ s H locs → lv_has ls 5 [(0, .ref (G.2.2 + 66)), (1, .int x1), (2, .int x2), (3, .int x3)] → W p l e rm7_findThrough s m args below meth c H locs 0 0 (MQ below (P_v G 212 tt u0 σ0) args s 0 0 (Fr G)) (F0 m 2 ls []) := by
  have hx := X.1
  have hb := X.2.1
  intro fu
  induction fu with
  | zero =>
    intro x3 σ H locs ls hf hR hl
    rw [f7_findThrough_2] at hf
    cases hf
  | succ fu ih =>
    intro x3 σ H locs ls hf hR hl
    rw [f7_findThrough_2] at hf
    refine lv_iload_n hx hb dX7_findThrough_2 rfl (lv_at hl 3 rfl) ?_
    refine lv_bipush (v := (7 : Int32)) hx hb dX7_findThrough_3 (by decide) ?_
    refine lv_icmp_ge (tgt := 63) hx hb dX7_findThrough_5 (by decide) (fun c_1 => ?_) (fun c_1 => ?_)
    · replace hf := z_t c_1 hf
      exact e_v X hR hr hlk hf dX7_findThrough_63
    · replace hf := z_f c_1 hf
      refine lv_iload_n hx hb dX7_findThrough_8 rfl (lv_at hl 1 rfl) ?_
      refine lv_iload_n hx hb dX7_findThrough_9 rfl (lv_at hl 2 rfl) ?_
      refine lv_iconst (v := (-1 : Int32)) hx hb dX7_findThrough_10 (by decide) ?_
      refine lv_ixor hx hb dX7_findThrough_11 ?_
      refine lv_iand hx hb dX7_findThrough_12 ?_
      refine lv_iload_n hx hb dX7_findThrough_13 rfl (lv_at hl 3 rfl) ?_
      obtain ⟨r_2, σ_3, hc_4, hf⟩ := z_b_e hf
      refine go_i hR (ms_run (As := [.int (x1 &&& (x2 ^^^ (-1 : Int32))), .int x3]) (rest := []) X hR ms_7_21 (c7_isIn l G N hc_4) ⟨rfl, rfl, Nat.le_of_ble_eq_true rfl, Nat.le_of_ble_eq_true rfl⟩ rfl hl.1 rfl (Nat.le_of_ble_eq_true rfl) dX7_findThrough_14 ⟨Nat.zero_le _, Nat.zero_le _⟩) (fun H locs hR => ?_)
      refine lv_if_eq (tgt := 57) hx hb dX7_findThrough_17 (by decide) (fun c_5 => ?_) (fun c_5 => ?_)
      · replace hf := z_t c_5 hf
        exact w7_findThrough_57 X hr hlk N ih x3 σ_3 _ _ _ hf hR (lv_sub hl [0, 1, 2, 3] rfl)
      · replace hf := z_f c_5 hf
        refine lv_aload_n hx hb dX7_findThrough_20 rfl (lv_at hl 0 rfl) ?_
        refine lv_iload_n hx hb dX7_findThrough_21 rfl (lv_at hl 3 rfl) ?_
        refine lv_iload_n hx hb dX7_findThrough_22 rfl (lv_at hl 2 rfl) ?_
        obtain ⟨r_7, σ_8, hc_9, hf⟩ := z_b_e hf
        refine go_i hR (mv_run (As := [.int x3, .int x2]) (rest := []) X hR mv_7_39 kh_66 (kd_lt kh_66 (by decide)) (c7_nextPlot l G N hc_9) ⟨rfl, rfl, Nat.le_of_ble_eq_true rfl, Nat.le_of_ble_eq_true rfl⟩ rfl hl.1 rfl (Nat.le_of_ble_eq_true rfl) dX7_findThrough_23 ⟨Nat.zero_le _, Nat.zero_le _⟩) (fun H locs hR => ?_)
        refine lv_istore (lv' := [(4, .int r_7), (0, .ref (G.2.2 + 66)), (1, .int x1), (2, .int x2), (3, .int x3)]) hx hb dX7_findThrough_26 hl (by decide) rfl (fun ls hl => ?_)
        refine lv_aload_n hx hb dX7_findThrough_28 rfl (lv_at hl 1 rfl) ?_
        refine r_gs (t := 69) X hR fr_7_18 kh_66 (sx_7_2 kh_66) dX7_findThrough_29 ?_
        refine lv_iload_n hx hb dX7_findThrough_32 rfl (lv_at hl 3 rfl) ?_
        refine lv_bipush (v := (7 : Int32)) hx hb dX7_findThrough_33 (by decide) ?_
        refine lv_imul hx hb dX7_findThrough_35 ?_
        refine lv_iload_n hx hb dX7_findThrough_36 rfl (lv_at hl 4 rfl) ?_
        refine lv_iadd hx hb dX7_findThrough_37 ?_
        refine lv_iload hx hb dX7_findThrough_38 (lv_at hl 0 rfl) ?_
        refine lv_iconst (v := (-1 : Int32)) hx hb dX7_findThrough_40 (by decide) ?_
        refine lv_icmp_ne (tgt := 48) hx hb dX7_findThrough_41 (by decide) (fun c_10 => ?_) (fun c_10 => ?_)
        · replace hf := z_f c_10 hf
          refine lv_aload_n hx hb dX7_findThrough_48 rfl (lv_at hl 1 rfl) ?_
          refine lv_iload_n hx hb dX7_findThrough_49 rfl (lv_at hl 4 rfl) ?_
          refine lv_iload hx hb dX7_findThrough_50 (lv_at hl 0 rfl) ?_
          refine lv_iload_n hx hb dX7_findThrough_52 rfl (lv_at hl 3 rfl) ?_
          obtain ⟨r_11, σ_12, hc_13, hf⟩ := z_b_e hf
          refine go_i hR (mv_run (As := [.int x3, .int r_7, .int x2]) (rest := [.int ((x2 * (7 : Int32)) + x3), .ref (G.2.2 + 69)]) X hR mv_7_43 kh_66 (kd_lt kh_66 (by decide)) (c7_lengthBy l G N hc_13) ⟨rfl, rfl, Nat.le_of_ble_eq_true rfl, Nat.le_of_ble_eq_true rfl⟩ rfl hl.1 rfl (Nat.le_of_ble_eq_true rfl) dX7_findThrough_53 ⟨Nat.zero_le _, Nat.zero_le _⟩) (fun H locs hR => ?_)
          exact w7_findThrough_56 X hr hlk N ih x3 ((x2 * (7 : Int32)) + x3) r_11 σ_12 _ _ _ hf hR (lv_sub hl [1, 2, 3, 4] rfl)
        · replace hf := z_t c_10 hf
          refine lv_iconst (v := (0 : Int32)) hx hb dX7_findThrough_44 (by decide) ?_
          refine lv_goto (tgt := 56) hx hb dX7_findThrough_45 (by decide) ?_
          exact w7_findThrough_56 X hr hlk N ih x3 ((x2 * (7 : Int32)) + x3) (0 : Int32) σ_8 _ _ _ hf hR (lv_sub hl [1, 2, 3, 4] rfl)
set_option maxHeartbeats 4000000 in
set_option maxRecDepth 100000 in
theorem c7_findThrough (l : Launch) (G : Gp) (N : Nat) {x1 : Int32} {x2 : Int32} {σ σ0 : Mm} {u0 : Unit} (hf : f7_findThrough N x1 x2 σ = some (u0, σ0)) : Met l yX7_findThrough (WS yX7_findThrough cX7_findThrough 5 (none)) rm7_findThrough (va_Pc [.ref (G.2.2 + 66), .int x1, .int x2] (Pd G 212 tt σ)) (P_v G 212 tt u0 σ0) 0 0 (Fr G) := by
  refine ct [(0, .ref (G.2.2 + 66)), (1, .int x1), (2, .int x2)] rfl (by decide) (Nat.le_of_ble_eq_true rfl) ?_
  intro p e s m below meth c ls X hr hlk hR hl
  have X : Cx p s m _ c cX7_findThrough 5 RX7 G := X
  have hx := X.1
  have hb := X.2.1
  unfold f7_findThrough at hf
  refine lv_iconst (v := (0 : Int32)) hx hb dX7_findThrough_0 (by decide) ?_
  refine lv_istore_n (lv' := [(3, .int (0 : Int32)), (0, .ref (G.2.2 + 66)), (1, .int x1), (2, .int x2)]) hx hb dX7_findThrough_1 rfl hl (by decide) rfl (fun ls hl => ?_)
  exact w7_findThrough_2 X hr hlk N  N (0 : Int32) σ _ _ _ hf hR (lv_sub hl [1, 2, 3, 0] rfl)
end GEN
