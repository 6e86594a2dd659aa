section GEN
variable {p : Program} {l : Launch} {e : Env} {s : State} {m : MethodId} {args : Array Value} {below : List Frame} {meth : Method} {c : Code} {G : Gp} {r0 : Int32} {l0 : Int64} {u0 : Unit} {σ0 : Mm}

abbrev rm11_begins : Room := { frames := 0, cells := 0, slots := 0, locals := 0 }
def f11_begins_225 (N : Nat) (σ : Mm) : Option (Unit × Mm) :=
  z_c (inB (gI σ 160 18) 2) (
  z_l (sI σ 160 57 (gI σ 185 (ix (gI σ 160 18)))) fun σ_10 =>
  z_l (sI σ_10 160 58 (0 : Int32)) fun σ_11 =>
  z_l (sI σ_11 160 59 (0 : Int32)) fun σ_12 =>
  some ((), σ_12))
def f11_begins_90 (N : Nat) : Nat → Int32 → Mm → Option (Unit × Mm)
  | 0, _, _ => none
  | fu + 1, x1, σ => z_c (inB (gI σ 160 18) 2) (
  if (gI σ 178 (ix (gI σ 160 18))) ≤ x1 then (
  f11_begins_225 N σ) else (
  z_c (inB (((12 : Int32) * (gI σ 160 18)) + x1) 24) (
  z_c (inB ((17 : Int32) + x1) 117) (z_l (sI σ 199 (ix ((17 : Int32) + x1)) (gI σ 179 (ix (((12 : Int32) * (gI σ 160 18)) + x1)))) fun σ_15 =>
  z_c (inB (((12 : Int32) * (gI σ_15 160 18)) + x1) 24) (
  z_c (inB ((37 : Int32) + x1) 117) (z_l (sI σ_15 199 (ix ((37 : Int32) + x1)) (gI σ_15 180 (ix (((12 : Int32) * (gI σ_15 160 18)) + x1)))) fun σ_18 =>
  z_c (inB (((12 : Int32) * (gI σ_18 160 18)) + x1) 24) (
  z_c (inB ((57 : Int32) + x1) 117) (z_l (sI σ_18 199 (ix ((57 : Int32) + x1)) (gI σ_18 181 (ix (((12 : Int32) * (gI σ_18 160 18)) + x1)))) fun σ_21 =>
  z_c (inB (((12 : Int32) * (gI σ_21 160 18)) + x1) 24) (
  z_c (inB ((77 : Int32) + x1) 117) (z_l (sI σ_21 199 (ix ((77 : Int32) + x1)) (-(gI σ_21 182 (ix (((12 : Int32) * (gI σ_21 160 18)) + x1))))) fun σ_24 =>
  z_c (inB (((12 : Int32) * (gI σ_24 160 18)) + x1) 24) (
  z_c (inB ((97 : Int32) + x1) 117) (z_l (sI σ_24 199 (ix ((97 : Int32) + x1)) (gI σ_24 183 (ix (((12 : Int32) * (gI σ_24 160 18)) + x1)))) fun σ_27 =>
  z_l (x1 + (1 : Int32)) fun x1_28 =>
  f11_begins_90 N fu x1_28 σ_27))))))))))))
def f11_begins_72 (N : Nat) (σ : Mm) : Option (Unit × Mm) :=
  z_c (inB (gI σ 160 18) 2) (
  z_c (inB (15 : Int32) 117) (z_l (sI σ 199 (ix (15 : Int32)) (gI σ 178 (ix (gI σ 160 18)))) fun σ_6 =>
  f11_begins_90 N N (0 : Int32) σ_6))
def f11_begins_23 (N : Nat) : Nat → Int32 → Mm → Option (Unit × Mm)
  | 0, _, _ => none
  | fu + 1, x1, σ => z_c (inB (gI σ 160 18) 2) (
  if (gI σ 175 (ix (gI σ 160 18))) ≤ x1 then (
  f11_begins_72 N σ) else (
  z_c (inB (((7 : Int32) * (gI σ 160 18)) + x1) 14) (
  z_c (inB x1 117) (z_l (sI σ 199 (ix x1) (gI σ 176 (ix (((7 : Int32) * (gI σ 160 18)) + x1)))) fun σ_31 =>
  z_c (inB ((7 : Int32) + x1) 117) (z_l (sI σ_31 199 (ix ((7 : Int32) + x1)) (1 : Int32)) fun σ_33 =>
  z_l (x1 + (1 : Int32)) fun x1_34 =>
  f11_begins_23 N fu x1_34 σ_33)))))
def f11_begins_21 (N : Nat) (σ : Mm) : Option (Unit × Mm) :=
  f11_begins_23 N N (0 : Int32) σ
def f11_begins_2 (N : Nat) : Nat → Int32 → Mm → Option (Unit × Mm)
  | 0, _, _ => none
  | fu + 1, x1, σ => if (117 : Int32) ≤ x1 then (
  f11_begins_21 N σ) else (
  z_c (inB x1 117) (z_l (sI σ 199 (ix x1) (0 : Int32)) fun σ_36 =>
  z_l (x1 + (1 : Int32)) fun x1_37 =>
  f11_begins_2 N fu x1_37 σ_36))
def f11_begins (N : Nat) (σ : Mm) : Option (Unit × Mm) :=
  f11_begins_2 N N (0 : Int32) σ
set_option maxHeartbeats 4000000 in
set_option maxRecDepth 100000 in
theorem w11_begins_225 (X : Cx p s m args c cX11_begins 2 RX11 G) (hr : meth.sig.returnType = none) (hlk : meth.locks = false) (N : Nat) :
    ∀ (σ : Mm) (H : Heap) (locs : List Loc) (ls : Array Slot), f11_begins_225 N σ = some (u0, σ0) → Rp G 212 tt σ s H locs → lv_has ls 2 [(0, .ref (G.2.2 + 160))] → W p l e rm11_begins s m args below meth c H locs 0 0 (MQ below (P_v G 212 tt u0 σ0) args s 0 0 (Fr G)) (F0 m 225 ls []) := by
  have hx := X.1
  have hb := X.2.1
  intro σ H locs ls hf hR hl
  unfold f11_begins_225 at hf
  refine lv_aload_n hx hb dX11_begins_225 rfl (lv_at hl 0 rfl) ?_
  refine lv_aload_n hx hb dX11_begins_226 rfl (lv_at hl 0 rfl) ?_
  refine r_gs (t := 185) X hR fr_11_91 kh_160 (sx_11_38 kh_160) dX11_begins_227 ?_
  refine lv_aload_n hx hb dX11_begins_230 rfl (lv_at hl 0 rfl) ?_
  refine r_gi X hR fi_11_254 kh_160 dX11_begins_231 ?_
  obtain ⟨hi_9, hf⟩ := z_c_e hf
  refine r_ial X hR ka_185 hi_9 dX11_begins_234 ?_
  refine r_pi X hR pi_11_344 kh_160 dX11_begins_235 (fun H locs σ_10 eσ_10 hR => ?_)
  replace hf := z_l_e eσ_10 hf
  refine lv_aload_n hx hb dX11_begins_238 rfl (lv_at hl 0 rfl) ?_
  refine lv_iconst (v := (0 : Int32)) hx hb dX11_begins_239 (by decide) ?_
  refine r_pz X hR pz_11_347 kh_160 rfl dX11_begins_240 (fun H locs σ_11 eσ_11 hR => ?_)
  replace hf := z_l_e eσ_11 hf
  refine lv_aload_n hx hb dX11_begins_243 rfl (lv_at hl 0 rfl) ?_
  refine lv_iconst (v := (0 : Int32)) hx hb dX11_begins_244 (by decide) ?_
  refine r_pz X hR pz_11_350 kh_160 rfl dX11_begins_245 (fun H locs σ_12 eσ_12 hR => ?_)
  replace hf := z_l_e eσ_12 hf
  exact e_v X hR hr hlk hf dX11_begins_248
set_option maxHeartbeats 4000000 in
set_option maxRecDepth 100000 in
theorem w11_begins_90 (X : Cx p s m args c cX11_begins 2 RX11 G) (hr : meth.sig.returnType = none) (hlk : meth.locks = false) (N : Nat) :
    ∀ (fu : Nat) (x1 : Int32) (σ : Mm) (H : Heap) (locs : List Loc) (ls : Array Slot), f11_begins_90 N fu x1 σ = some (u0, σ0) → Rp G 212 tt σ s H locs → lv_has ls 2 [(0, .ref (G.2.2 + 160)), (1, .int x1)] → W p l e rm11_begins s m args below meth c H locs 0 0 (MQ below (P_v G 212 tt u0 σ0) args s 0 0 (Fr G)) (F0 m 90 ls []) := by
  have hx := X.1
  have hb := X.2.1
  intro fu
  induction fu with
  | zero =>
    intro x1 σ H locs ls hf hR hl
    rw [f11_begins_90] at hf
    cases hf
  | succ fu ih =>
    intro x1 σ H locs ls hf hR hl
    rw [f11_begins_90] at hf
    refine lv_iload_n hx hb dX11_begins_90 rfl (lv_at hl 1 rfl) ?_
    refine lv_aload_n hx hb dX11_begins_91 rfl (lv_at hl 0 rfl) ?_
    refine r_gs (t := 178) X hR fr_11_70 kh_160 (sx_11_31 kh_160) dX11_begins_92 ?_
    refine lv_aload_n hx hb dX11_begins_95 rfl (lv_at hl 0 rfl) ?_
    refine r_gi X hR fi_11_254 kh_160 dX11_begins_96 ?_
    obtain ⟨hi_7, hf⟩ := z_c_e hf
    refine r_ial X hR ka_178 hi_7 dX11_begins_99 ?_
    refine lv_icmp_ge (tgt := 225) hx hb dX11_begins_100 (by decide) (fun c_8 => ?_) (fun c_8 => ?_)
    · replace hf := z_t c_8 hf
      exact w11_begins_225 X hr hlk N   σ _ _ _ hf hR (lv_sub hl [0] rfl)
    · replace hf := z_f c_8 hf
      refine lv_aload_n hx hb dX11_begins_103 rfl (lv_at hl 0 rfl) ?_
      refine r_gs (t := 199) X hR fr_11_134 kh_160 (sx_11_56 kh_160) dX11_begins_104 ?_
      refine lv_bipush (v := (17 : Int32)) hx hb dX11_begins_107 (by decide) ?_
      refine lv_iload_n hx hb dX11_begins_109 rfl (lv_at hl 1 rfl) ?_
      refine lv_iadd hx hb dX11_begins_110 ?_
      refine lv_aload_n hx hb dX11_begins_111 rfl (lv_at hl 0 rfl) ?_
      refine r_gs (t := 179) X hR fr_11_73 kh_160 (sx_11_32 kh_160) dX11_begins_112 ?_
      refine lv_bipush (v := (12 : Int32)) hx hb dX11_begins_115 (by decide) ?_
      refine lv_aload_n hx hb dX11_begins_117 rfl (lv_at hl 0 rfl) ?_
      refine r_gi X hR fi_11_254 kh_160 dX11_begins_118 ?_
      refine lv_imul hx hb dX11_begins_121 ?_
      refine lv_iload_n hx hb dX11_begins_122 rfl (lv_at hl 1 rfl) ?_
      refine lv_iadd hx hb dX11_begins_123 ?_
      obtain ⟨hi_13, hf⟩ := z_c_e hf
      refine r_ial X hR ka_179 hi_13 dX11_begins_124 ?_
      obtain ⟨hi_14, hf⟩ := z_c_e hf
      refine r_ias X hR ka_199 hi_14 dX11_begins_125 (fun H locs σ_15 eσ_15 hR => ?_)
      replace hf := z_l_e eσ_15 hf
      refine lv_aload_n hx hb dX11_begins_126 rfl (lv_at hl 0 rfl) ?_
      refine r_gs (t := 199) X hR fr_11_134 kh_160 (sx_11_56 kh_160) dX11_begins_127 ?_
      refine lv_bipush (v := (37 : Int32)) hx hb dX11_begins_130 (by decide) ?_
      refine lv_iload_n hx hb dX11_begins_132 rfl (lv_at hl 1 rfl) ?_
      refine lv_iadd hx hb dX11_begins_133 ?_
      refine lv_aload_n hx hb dX11_begins_134 rfl (lv_at hl 0 rfl) ?_
      refine r_gs (t := 180) X hR fr_11_76 kh_160 (sx_11_33 kh_160) dX11_begins_135 ?_
      refine lv_bipush (v := (12 : Int32)) hx hb dX11_begins_138 (by decide) ?_
      refine lv_aload_n hx hb dX11_begins_140 rfl (lv_at hl 0 rfl) ?_
      refine r_gi X hR fi_11_254 kh_160 dX11_begins_141 ?_
      refine lv_imul hx hb dX11_begins_144 ?_
      refine lv_iload_n hx hb dX11_begins_145 rfl (lv_at hl 1 rfl) ?_
      refine lv_iadd hx hb dX11_begins_146 ?_
      obtain ⟨hi_16, hf⟩ := z_c_e hf
      refine r_ial X hR ka_180 hi_16 dX11_begins_147 ?_
      obtain ⟨hi_17, hf⟩ := z_c_e hf
      refine r_ias X hR ka_199 hi_17 dX11_begins_148 (fun H locs σ_18 eσ_18 hR => ?_)
      replace hf := z_l_e eσ_18 hf
      refine lv_aload_n hx hb dX11_begins_149 rfl (lv_at hl 0 rfl) ?_
      refine r_gs (t := 199) X hR fr_11_134 kh_160 (sx_11_56 kh_160) dX11_begins_150 ?_
      refine lv_bipush (v := (57 : Int32)) hx hb dX11_begins_153 (by decide) ?_
      refine lv_iload_n hx hb dX11_begins_155 rfl (lv_at hl 1 rfl) ?_
      refine lv_iadd hx hb dX11_begins_156 ?_
      refine lv_aload_n hx hb dX11_begins_157 rfl (lv_at hl 0 rfl) ?_
      refine r_gs (t := 181) X hR fr_11_79 kh_160 (sx_11_34 kh_160) dX11_begins_158 ?_
      refine lv_bipush (v := (12 : Int32)) hx hb dX11_begins_161 (by decide) ?_
      refine lv_aload_n hx hb dX11_begins_163 rfl (lv_at hl 0 rfl) ?_
      refine r_gi X hR fi_11_254 kh_160 dX11_begins_164 ?_
      refine lv_imul hx hb dX11_begins_167 ?_
      refine lv_iload_n hx hb dX11_begins_168 rfl (lv_at hl 1 rfl) ?_
      refine lv_iadd hx hb dX11_begins_169 ?_
      obtain ⟨hi_19, hf⟩ := z_c_e hf
      refine r_ial X hR ka_181 hi_19 dX11_begins_170 ?_
      obtain ⟨hi_20, hf⟩ := z_c_e hf
      refine r_ias X hR ka_199 hi_20 dX11_begins_171 (fun H locs σ_21 eσ_21 hR => ?_)
      replace hf := z_l_e eσ_21 hf
      refine lv_aload_n hx hb dX11_begins_172 rfl (lv_at hl 0 rfl) ?_
      refine r_gs (t := 199) X hR fr_11_134 kh_160 (sx_11_56 kh_160) dX11_begins_173 ?_
      refine lv_bipush (v := (77 : Int32)) hx hb dX11_begins_176 (by decide) ?_
      refine lv_iload_n hx hb dX11_begins_178 rfl (lv_at hl 1 rfl) ?_
      refine lv_iadd hx hb dX11_begins_179 ?_
      refine lv_aload_n hx hb dX11_begins_180 rfl (lv_at hl 0 rfl) ?_
      refine r_gs (t := 182) X hR fr_11_82 kh_160 (sx_11_35 kh_160) dX11_begins_181 ?_
      refine lv_bipush (v := (12 : Int32)) hx hb dX11_begins_184 (by decide) ?_
      refine lv_aload_n hx hb dX11_begins_186 rfl (lv_at hl 0 rfl) ?_
      refine r_gi X hR fi_11_254 kh_160 dX11_begins_187 ?_
      refine lv_imul hx hb dX11_begins_190 ?_
      refine lv_iload_n hx hb dX11_begins_191 rfl (lv_at hl 1 rfl) ?_
      refine lv_iadd hx hb dX11_begins_192 ?_
      obtain ⟨hi_22, hf⟩ := z_c_e hf
      refine r_ial X hR ka_182 hi_22 dX11_begins_193 ?_
      refine lv_ineg hx hb dX11_begins_194 ?_
      obtain ⟨hi_23, hf⟩ := z_c_e hf
      refine r_ias X hR ka_199 hi_23 dX11_begins_195 (fun H locs σ_24 eσ_24 hR => ?_)
      replace hf := z_l_e eσ_24 hf
      refine lv_aload_n hx hb dX11_begins_196 rfl (lv_at hl 0 rfl) ?_
      refine r_gs (t := 199) X hR fr_11_134 kh_160 (sx_11_56 kh_160) dX11_begins_197 ?_
      refine lv_bipush (v := (97 : Int32)) hx hb dX11_begins_200 (by decide) ?_
      refine lv_iload_n hx hb dX11_begins_202 rfl (lv_at hl 1 rfl) ?_
      refine lv_iadd hx hb dX11_begins_203 ?_
      refine lv_aload_n hx hb dX11_begins_204 rfl (lv_at hl 0 rfl) ?_
      refine r_gs (t := 183) X hR fr_11_85 kh_160 (sx_11_36 kh_160) dX11_begins_205 ?_
      refine lv_bipush (v := (12 : Int32)) hx hb dX11_begins_208 (by decide) ?_
      refine lv_aload_n hx hb dX11_begins_210 rfl (lv_at hl 0 rfl) ?_
      refine r_gi X hR fi_11_254 kh_160 dX11_begins_211 ?_
      refine lv_imul hx hb dX11_begins_214 ?_
      refine lv_iload_n hx hb dX11_begins_215 rfl (lv_at hl 1 rfl) ?_
      refine lv_iadd hx hb dX11_begins_216 ?_
      obtain ⟨hi_25, hf⟩ := z_c_e hf
      refine r_ial X hR ka_183 hi_25 dX11_begins_217 ?_
      obtain ⟨hi_26, hf⟩ := z_c_e hf
      refine r_ias X hR ka_199 hi_26 dX11_begins_218 (fun H locs σ_27 eσ_27 hR => ?_)
      replace hf := z_l_e eσ_27 hf
      obtain ⟨x1_28, ex1_28⟩ : ∃ z : Int32, z = x1 + (1 : Int32) := ⟨_, rfl⟩
      replace hf := z_l_e ex1_28 hf
      refine lv_iinc (v := x1_28) (lv' := [(1, .int x1_28), (0, .ref (G.2.2 + 160))]) hx hb dX11_begins_219 hl (k := 1) rfl (by rw [ex1_28]; rfl) (by decide) rfl (fun ls hl => ?_)
      refine lv_goto (tgt := 90) hx hb dX11_begins_222 (by decide) ?_
      exact ih x1_28 σ_27 _ _ _ hf hR (lv_sub hl [1, 0] rfl)
set_option maxHeartbeats 4000000 in
set_option maxRecDepth 100000 in
theorem w11_begins_72 (X : Cx p s m args c cX11_begins 2 RX11 G) (hr : meth.sig.returnType = none) (hlk : meth.locks = false) (N : Nat) :
    ∀ (σ : Mm) (H : Heap) (locs : List Loc) (ls : Array Slot), f11_begins_72 N σ = some (u0, σ0) → Rp G 212 tt σ s H locs → lv_has ls 2 [(0, .ref (G.2.2 + 160))] → W p l e rm11_begins s m args below meth c H locs 0 0 (MQ below (P_v G 212 tt u0 σ0) args s 0 0 (Fr G)) (F0 m 72 ls []) := by
  have hx := X.1
  have hb := X.2.1
  intro σ H locs ls hf hR hl
  unfold f11_begins_72 at hf
  refine lv_aload_n hx hb dX11_begins_72 rfl (lv_at hl 0 rfl) ?_
  refine r_gs (t := 199) X hR fr_11_134 kh_160 (sx_11_56 kh_160) dX11_begins_73 ?_
  refine lv_bipush (v := (15 : Int32)) hx hb dX11_begins_76 (by decide) ?_
  refine lv_aload_n hx hb dX11_begins_78 rfl (lv_at hl 0 rfl) ?_
  refine r_gs (t := 178) X hR fr_11_70 kh_160 (sx_11_31 kh_160) dX11_begins_79 ?_
  refine lv_aload_n hx hb dX11_begins_82 rfl (lv_at hl 0 rfl) ?_
  refine r_gi X hR fi_11_254 kh_160 dX11_begins_83 ?_
  obtain ⟨hi_4, hf⟩ := z_c_e hf
  refine r_ial X hR ka_178 hi_4 dX11_begins_86 ?_
  obtain ⟨hi_5, hf⟩ := z_c_e hf
  refine r_ias X hR ka_199 hi_5 dX11_begins_87 (fun H locs σ_6 eσ_6 hR => ?_)
  replace hf := z_l_e eσ_6 hf
  refine lv_iconst (v := (0 : Int32)) hx hb dX11_begins_88 (by decide) ?_
  refine lv_istore_n (lv' := [(1, .int (0 : Int32)), (0, .ref (G.2.2 + 160))]) hx hb dX11_begins_89 rfl hl (by decide) rfl (fun ls hl => ?_)
  exact w11_begins_90 X hr hlk N  N (0 : Int32) σ_6 _ _ _ hf hR (lv_sub hl [1, 0] rfl)
set_option maxHeartbeats 4000000 in
set_option maxRecDepth 100000 in
theorem w11_begins_23 (X : Cx p s m args c cX11_begins 2 RX11 G) (hr : meth.sig.returnType = none) (hlk : meth.locks = false) (N : Nat) :
    ∀ (fu : Nat) (x1 : Int32) (σ : Mm) (H : Heap) (locs : List Loc) (ls : Array Slot), f11_begins_23 N fu x1 σ = some (u0, σ0) → Rp G 212 tt σ s H locs → lv_has ls 2 [(0, .ref (G.2.2 + 160)), (1, .int x1)] → W p l e rm11_begins s m args below meth c H locs 0 0 (MQ below (P_v G 212 tt u0 σ0) args s 0 0 (Fr G)) (F0 m 23 ls []) := by
  have hx := X.1
  have hb := X.2.1
  intro fu
  induction fu with
  | zero =>
    intro x1 σ H locs ls hf hR hl
    rw [f11_begins_23] at hf
    cases hf
  | succ fu ih =>
    intro x1 σ H locs ls hf hR hl
    rw [f11_begins_23] at hf
    refine lv_iload_n hx hb dX11_begins_23 rfl (lv_at hl 1 rfl) ?_
    refine lv_aload_n hx hb dX11_begins_24 rfl (lv_at hl 0 rfl) ?_
    refine r_gs (t := 175) X hR fr_11_61 kh_160 (sx_11_28 kh_160) dX11_begins_25 ?_
    refine lv_aload_n hx hb dX11_begins_28 rfl (lv_at hl 0 rfl) ?_
    refine r_gi X hR fi_11_254 kh_160 dX11_begins_29 ?_
    obtain ⟨hi_2, hf⟩ := z_c_e hf
    refine r_ial X hR ka_175 hi_2 dX11_begins_32 ?_
    refine lv_icmp_ge (tgt := 72) hx hb dX11_begins_33 (by decide) (fun c_3 => ?_) (fun c_3 => ?_)
    · replace hf := z_t c_3 hf
      exact w11_begins_72 X hr hlk N   σ _ _ _ hf hR (lv_sub hl [0] rfl)
    · replace hf := z_f c_3 hf
      refine lv_aload_n hx hb dX11_begins_36 rfl (lv_at hl 0 rfl) ?_
      refine r_gs (t := 199) X hR fr_11_134 kh_160 (sx_11_56 kh_160) dX11_begins_37 ?_
      refine lv_iload_n hx hb dX11_begins_40 rfl (lv_at hl 1 rfl) ?_
      refine lv_aload_n hx hb dX11_begins_41 rfl (lv_at hl 0 rfl) ?_
      refine r_gs (t := 176) X hR fr_11_64 kh_160 (sx_11_29 kh_160) dX11_begins_42 ?_
      refine lv_bipush (v := (7 : Int32)) hx hb dX11_begins_45 (by decide) ?_
      refine lv_aload_n hx hb dX11_begins_47 rfl (lv_at hl 0 rfl) ?_
      refine r_gi X hR fi_11_254 kh_160 dX11_begins_48 ?_
      refine lv_imul hx hb dX11_begins_51 ?_
      refine lv_iload_n hx hb dX11_begins_52 rfl (lv_at hl 1 rfl) ?_
      refine lv_iadd hx hb dX11_begins_53 ?_
      obtain ⟨hi_29, hf⟩ := z_c_e hf
      refine r_ial X hR ka_176 hi_29 dX11_begins_54 ?_
      obtain ⟨hi_30, hf⟩ := z_c_e hf
      refine r_ias X hR ka_199 hi_30 dX11_begins_55 (fun H locs σ_31 eσ_31 hR => ?_)
      replace hf := z_l_e eσ_31 hf
      refine lv_aload_n hx hb dX11_begins_56 rfl (lv_at hl 0 rfl) ?_
      refine r_gs (t := 199) X hR fr_11_134 kh_160 (sx_11_56 kh_160) dX11_begins_57 ?_
      refine lv_bipush (v := (7 : Int32)) hx hb dX11_begins_60 (by decide) ?_
      refine lv_iload_n hx hb dX11_begins_62 rfl (lv_at hl 1 rfl) ?_
      refine lv_iadd hx hb dX11_begins_63 ?_
      refine lv_iconst (v := (1 : Int32)) hx hb dX11_begins_64 (by decide) ?_
      obtain ⟨hi_32, hf⟩ := z_c_e hf
      refine r_ias X hR ka_199 hi_32 dX11_begins_65 (fun H locs σ_33 eσ_33 hR => ?_)
      replace hf := z_l_e eσ_33 hf
      obtain ⟨x1_34, ex1_34⟩ : ∃ z : Int32, z = x1 + (1 : Int32) := ⟨_, rfl⟩
      replace hf := z_l_e ex1_34 hf
      refine lv_iinc (v := x1_34) (lv' := [(1, .int x1_34), (0, .ref (G.2.2 + 160))]) hx hb dX11_begins_66 hl (k := 1) rfl (by rw [ex1_34]; rfl) (by decide) rfl (fun ls hl => ?_)
      refine lv_goto (tgt := 23) hx hb dX11_begins_69 (by decide) ?_
      exact ih x1_34 σ_33 _ _ _ hf hR (lv_sub hl [1, 0] rfl)
set_option maxHeartbeats 4000000 in
set_option maxRecDepth 100000 in
theorem w11_begins_21 (X : Cx p s m args c cX11_begins 2 RX11 G) (hr : meth.sig.returnType = none) (hlk : meth.locks = false) (N : Nat) :
    ∀ (σ : Mm) (H : Heap) (locs : List Loc) (ls : Array Slot), f11_begins_21 N σ = some (u0, σ0) → Rp G 212 tt σ s H locs → lv_has ls 2 [(0, .ref (G.2.2 + 160))] → W p l e rm11_begins s m args below meth c H locs 0 0 (MQ below (P_v G 212 tt u0 σ0) args s 0 0 (Fr G)) (F0 m 21 ls []) := by
  have hx := X.1
  have hb := X.2.1
  intro σ H locs ls hf hR hl
  unfold f11_begins_21 at hf
  refine lv_iconst (v := (0 : Int32)) hx hb dX11_begins_21 (by decide) ?_
  refine lv_istore_n (lv' := [(1, .int (0 : Int32)), (0, .ref (G.2.2 + 160))]) hx hb dX11_begins_22 rfl hl (by decide) rfl (fun ls hl => ?_)
  exact w11_begins_23 X hr hlk N  N (0 : Int32) σ _ _ _ hf hR (lv_sub hl [1, 0] rfl)
set_option maxHeartbeats 4000000 in
set_option maxRecDepth 100000 in
theorem w11_begins_2 (X : Cx p s m args c cX11_begins 2 RX11 G) (hr : meth.sig.returnType = none) (hlk : meth.locks = false) (N : Nat) :
    ∀ (fu : Nat) (x1 : Int32) (σ : Mm) (H : Heap) (locs : List Loc) (ls : Array Slot), f11_begins_2 N fu x1 σ = some (u0, σ0) → Rp G 212 tt σ s H locs → lv_has ls 2 [(0, .ref (G.2.2 + 160)), (1, .int x1)] → W p l e rm11_begins s m args below meth c H locs 0 0 (MQ below (P_v G 212 tt u0 σ0) args s 0 0 (Fr G)) (F0 m 2 ls []) := by
  have hx := X.1
  have hb := X.2.1
  intro fu
  induction fu with
  | zero =>
    intro x1 σ H locs ls hf hR hl
    rw [f11_begins_2] at hf
    cases hf
  | succ fu ih =>
    intro x1 σ H locs ls hf hR hl
    rw [f11_begins_2] at hf
    refine lv_iload_n hx hb dX11_begins_2 rfl (lv_at hl 1 rfl) ?_
    refine lv_bipush (v := (117 : Int32)) hx hb dX11_begins_3 (by decide) ?_
    refine lv_icmp_ge (tgt := 21) hx hb dX11_begins_5 (by decide) (fun c_1 => ?_) (fun c_1 => ?_)
    · replace hf := z_t c_1 hf
      exact w11_begins_21 X hr hlk N   σ _ _ _ hf hR (lv_sub hl [0] rfl)
    · replace hf := z_f c_1 hf
      refine lv_aload_n hx hb dX11_begins_8 rfl (lv_at hl 0 rfl) ?_
      refine r_gs (t := 199) X hR fr_11_134 kh_160 (sx_11_56 kh_160) dX11_begins_9 ?_
      refine lv_iload_n hx hb dX11_begins_12 rfl (lv_at hl 1 rfl) ?_
      refine lv_iconst (v := (0 : Int32)) hx hb dX11_begins_13 (by decide) ?_
      obtain ⟨hi_35, hf⟩ := z_c_e hf
      refine r_ias X hR ka_199 hi_35 dX11_begins_14 (fun H locs σ_36 eσ_36 hR => ?_)
      replace hf := z_l_e eσ_36 hf
      obtain ⟨x1_37, ex1_37⟩ : ∃ z : Int32, z = x1 + (1 : Int32) := ⟨_, rfl⟩
      replace hf := z_l_e ex1_37 hf
      refine lv_iinc (v := x1_37) (lv' := [(1, .int x1_37), (0, .ref (G.2.2 + 160))]) hx hb dX11_begins_15 hl (k := 1) rfl (by rw [ex1_37]; rfl) (by decide) rfl (fun ls hl => ?_)
      refine lv_goto (tgt := 2) hx hb dX11_begins_18 (by decide) ?_
      exact ih x1_37 σ_36 _ _ _ hf hR (lv_sub hl [1, 0] rfl)
set_option maxHeartbeats 4000000 in
set_option maxRecDepth 100000 in
theorem c11_begins (l : Launch) (G : Gp) (N : Nat) {σ σ0 : Mm} {u0 : Unit} (hf : f11_begins N σ = some (u0, σ0)) : Met l yX11_begins (WS yX11_begins cX11_begins 2 (none)) rm11_begins (va_Pc [.ref (G.2.2 + 160)] (Pd G 212 tt σ)) (P_v G 212 tt u0 σ0) 0 0 (Fr G) := by
  refine ct [(0, .ref (G.2.2 + 160))] rfl (by decide) (Nat.le_of_ble_eq_true rfl) ?_
  intro p e s m below meth c ls X hr hlk hR hl
  have X : Cx p s m _ c cX11_begins 2 RX11 G := X
  have hx := X.1
  have hb := X.2.1
  unfold f11_begins at hf
  refine lv_iconst (v := (0 : Int32)) hx hb dX11_begins_0 (by decide) ?_
  refine lv_istore_n (lv' := [(1, .int (0 : Int32)), (0, .ref (G.2.2 + 160))]) hx hb dX11_begins_1 rfl hl (by decide) rfl (fun ls hl => ?_)
  exact w11_begins_2 X hr hlk N  N (0 : Int32) σ _ _ _ hf hR (lv_sub hl [1, 0] rfl)
abbrev rm11_keepsRow : Room := { frames := 0, cells := 0, slots := 0, locals := 0 }
def f11_keepsRow_2 (N : Nat) : Nat → Int32 → Mm → Option (Unit × Mm)
  | 0, _, _ => none
  | fu + 1, x1, σ => if (117 : Int32) ≤ x1 then (
  some ((), σ)) else (
  z_c (inB x1 117) (
  z_c (inB x1 117) (z_l (sI σ 198 (ix x1) (gI σ 199 (ix x1))) fun σ_4 =>
  z_l (x1 + (1 : Int32)) fun x1_5 =>
  f11_keepsRow_2 N fu x1_5 σ_4)))
def f11_keepsRow (N : Nat) (σ : Mm) : Option (Unit × Mm) :=
  f11_keepsRow_2 N N (0 : Int32) σ
set_option maxHeartbeats 4000000 in
set_option maxRecDepth 100000 in
theorem w11_keepsRow_2 (X : Cx p s m args c cX11_keepsRow 2 RX11 G) (hr : meth.sig.returnType = none) (hlk : meth.locks = false) (N : Nat) :
    ∀ (fu : Nat) (x1 : Int32) (σ : Mm) (H : Heap) (locs : List Loc) (ls : Array Slot), f11_keepsRow_2 N fu x1 σ = some (u0, σ0) → Rp G 212 tt σ s H locs → lv_has ls 2 [(0, .ref (G.2.2 + 160)), (1, .int x1)] → W p l e rm11_keepsRow s m args below meth c H locs 0 0 (MQ below (P_v G 212 tt u0 σ0) args s 0 0 (Fr G)) (F0 m 2 ls []) := by
  have hx := X.1
  have hb := X.2.1
  intro fu
  induction fu with
  | zero =>
    intro x1 σ H locs ls hf hR hl
    rw [f11_keepsRow_2] at hf
    cases hf
  | succ fu ih =>
    intro x1 σ H locs ls hf hR hl
    rw [f11_keepsRow_2] at hf
    refine lv_iload_n hx hb dX11_keepsRow_2 rfl (lv_at hl 1 rfl) ?_
    refine lv_bipush (v := (117 : Int32)) hx hb dX11_keepsRow_3 (by decide) ?_
    refine lv_icmp_ge (tgt := 26) hx hb dX11_keepsRow_5 (by decide) (fun c_1 => ?_) (fun c_1 => ?_)
    · replace hf := z_t c_1 hf
      exact e_v X hR hr hlk hf dX11_keepsRow_26
    · replace hf := z_f c_1 hf
      refine lv_aload_n hx hb dX11_keepsRow_8 rfl (lv_at hl 0 rfl) ?_
      refine r_gs (t := 198) X hR fr_11_131 kh_160 (sx_11_55 kh_160) dX11_keepsRow_9 ?_
      refine lv_iload_n hx hb dX11_keepsRow_12 rfl (lv_at hl 1 rfl) ?_
      refine lv_aload_n hx hb dX11_keepsRow_13 rfl (lv_at hl 0 rfl) ?_
      refine r_gs (t := 199) X hR fr_11_134 kh_160 (sx_11_56 kh_160) dX11_keepsRow_14 ?_
      refine lv_iload_n hx hb dX11_keepsRow_17 rfl (lv_at hl 1 rfl) ?_
      obtain ⟨hi_2, hf⟩ := z_c_e hf
      refine r_ial X hR ka_199 hi_2 dX11_keepsRow_18 ?_
      obtain ⟨hi_3, hf⟩ := z_c_e hf
      refine r_ias X hR ka_198 hi_3 dX11_keepsRow_19 (fun H locs σ_4 eσ_4 hR => ?_)
      replace hf := z_l_e eσ_4 hf
      obtain ⟨x1_5, ex1_5⟩ : ∃ z : Int32, z = x1 + (1 : Int32) := ⟨_, rfl⟩
      replace hf := z_l_e ex1_5 hf
      refine lv_iinc (v := x1_5) (lv' := [(1, .int x1_5), (0, .ref (G.2.2 + 160))]) hx hb dX11_keepsRow_20 hl (k := 1) rfl (by rw [ex1_5]; rfl) (by decide) rfl (fun ls hl => ?_)
      refine lv_goto (tgt := 2) hx hb dX11_keepsRow_23 (by decide) ?_
      exact ih x1_5 σ_4 _ _ _ hf hR (lv_sub hl [1, 0] rfl)
set_option maxHeartbeats 4000000 in
set_option maxRecDepth 100000 in
theorem c11_keepsRow (l : Launch) (G : Gp) (N : Nat) {σ σ0 : Mm} {u0 : Unit} (hf : f11_keepsRow N σ = some (u0, σ0)) : Met l yX11_keepsRow (WS yX11_keepsRow cX11_keepsRow 2 (none)) rm11_keepsRow (va_Pc [.ref (G.2.2 + 160)] (Pd G 212 tt σ)) (P_v G 212 tt u0 σ0) 0 0 (Fr G) := by
  refine ct [(0, .ref (G.2.2 + 160))] rfl (by decide) (Nat.le_of_ble_eq_true rfl) ?_
  intro p e s m below meth c ls X hr hlk hR hl
  have X : Cx p s m _ c cX11_keepsRow 2 RX11 G := X
  have hx := X.1
  have hb := X.2.1
  unfold f11_keepsRow at hf
  refine lv_iconst (v := (0 : Int32)) hx hb dX11_keepsRow_0 (by decide) ?_
  refine lv_istore_n (lv' := [(1, .int (0 : Int32)), (0, .ref (G.2.2 + 160))]) hx hb dX11_keepsRow_1 rfl hl (by decide) rfl (fun ls hl => ?_)
  exact w11_keepsRow_2 X hr hlk N  N (0 : Int32) σ _ _ _ hf hR (lv_sub hl [1, 0] rfl)
abbrev rm11_read : Room := { frames := 7, cells := 0, slots := 0, locals := 147 }
def f11_read_219 (N : Nat) : Nat → Int32 → Mm → Option (Int32 × Mm)
  | 0, _, _ => none
  | fu + 1, x1, σ => if (3 : Int32) ≤ x1 then (
  some ((0 : Int32), σ)) else (
  z_c (inB x1 3) (z_l (sI σ 210 (ix x1) (vp_nar .boolean (0 : Int32))) fun σ_35 =>
  z_l (x1 + (1 : Int32)) fun x1_36 =>
  f11_read_219 N fu x1_36 σ_35))
def f11_read_164 (N : Nat) (s1 : Int32) (σ : Mm) : Option (Int32 × Mm) :=
  z_l (sI σ 160 17 s1) fun σ_21 =>
  if (gI σ_21 160 13) ≤ 0 then (
  if (gI σ_21 160 15) ≤ 0 then (
  z_l (sI σ_21 160 18 (gI σ_21 160 19)) fun σ_24 =>
  z_b (f11_begins N σ_24) fun _ σ_26 =>
  z_b (f11_keepsRow N σ_26) fun _ σ_29 =>
  z_l (sI σ_29 160 63 (0 : Int32)) fun σ_31 =>
  z_l (sI σ_31 160 69 (0 : Int32)) fun σ_32 =>
  f11_read_219 N N (0 : Int32) σ_32) else (
  some ((gI σ_21 160 15), σ_21))) else (
  some ((gI σ_21 160 13), σ_21))
def f11_read_134 (N : Nat) (σ : Mm) : Option (Int32 × Mm) :=
  if (gI σ 160 13) ≤ 0 then (
  if (gI σ 160 15) ≤ 0 then (
  f11_read_164 N (-1 : Int32) σ) else (
  f11_read_164 N (gI σ 160 16) σ)) else (
  f11_read_164 N (gI σ 160 14) σ)
def f11_read_112 (N : Nat) : Nat → Mm → Option (Int32 × Mm)
  | 0, _ => none
  | fu + 1, σ => if (gI σ 160 13) = 0 then (
  z_b (f11_is N (0 : Int32) σ) fun r_37 σ_38 =>
  if r_37 = 0 then (
  z_b (f11_tellOne N σ_38) fun _ σ_42 =>
  f11_read_112 N fu σ_42) else (
  f11_read_134 N σ_38)) else (
  f11_read_134 N σ)
def f11_read_36 (N : Nat) (σ : Mm) : Option (Int32 × Mm) :=
  z_l (sI σ 160 2 (0 : Int32)) fun σ_3 =>
  z_b (f11_cut N σ_3) fun _ σ_5 =>
  z_l (sI σ_5 160 11 (0 : Int32)) fun σ_7 =>
  z_l (sI σ_7 160 12 (0 : Int32)) fun σ_8 =>
  z_l (sI σ_8 160 13 (0 : Int32)) fun σ_9 =>
  z_l (sI σ_9 160 15 (0 : Int32)) fun σ_10 =>
  z_l (sI σ_10 160 19 ((1 : Int32) - (gI σ_10 160 18))) fun σ_11 =>
  z_l (sI σ_11 160 20 (0 : Int32)) fun σ_12 =>
  z_b (f11_plain N (gI σ_12 160 19) σ_12) fun _ σ_14 =>
  z_l (sI σ_14 160 41 ((130 : Int32) * (gI σ_14 160 19))) fun σ_16 =>
  z_l (sI σ_16 160 47 ((420 : Int32) * (gI σ_16 160 19))) fun σ_17 =>
  f11_read_112 N N σ_17
def f11_read_10 (N : Nat) : Nat → Int32 → Mm → Option (Int32 × Mm)
  | 0, _, _ => none
  | fu + 1, x1, σ => if (gI σ 160 4) ≤ x1 then (
  f11_read_36 N σ) else (
  z_c (inB x1 2000) (
  z_c (inB x1 2000) (z_l (sI σ 162 (ix x1) (vp_nar .byte (gI σ 161 (ix x1)))) fun σ_46 =>
  z_l (x1 + (1 : Int32)) fun x1_47 =>
  f11_read_10 N fu x1_47 σ_46)))
def f11_read (N : Nat) (σ : Mm) : Option (Int32 × Mm) :=
  z_l (sI σ 160 4 (gI σ 160 2)) fun σ_1 =>
  f11_read_10 N N (0 : Int32) σ_1
set_option maxHeartbeats 4000000 in
set_option maxRecDepth 100000 in
theorem w11_read_219 (X : Cx p s m args c cX11_read 2 RX11 G) (hr : meth.sig.returnType = some .int) (hlk : meth.locks = false) (N : Nat) :
    ∀ (fu : Nat) (x1 : Int32) (σ : Mm) (H : Heap) (locs : List Loc) (ls : Array Slot), f11_read_219 N fu x1 σ = some (r0, σ0) → Rp G 212 tt σ s H locs → lv_has ls 2 [(0, .ref (G.2.2 + 160)), (1, .int x1)] → W p l e rm11_read s m args below meth c H locs 0 0 (MQ below (P_i G 212 tt r0 σ0) args s 0 0 (Fr G)) (F0 m 219 ls []) := by
  have hx := X.1
  have hb := X.2.1
  intro fu
  induction fu with
  | zero =>
    intro x1 σ H locs ls hf hR hl
    rw [f11_read_219] at hf
    cases hf
  | succ fu ih =>
    intro x1 σ H locs ls hf hR hl
    rw [f11_read_219] at hf
    refine lv_iload_n hx hb dX11_read_219 rfl (lv_at hl 1 rfl) ?_
    refine lv_iconst (v := (3 : Int32)) hx hb dX11_read_220 (by decide) ?_
    refine lv_icmp_ge (tgt := 237) hx hb dX11_read_221 (by decide) (fun c_33 => ?_) (fun c_33 => ?_)
    · replace hf := z_t c_33 hf
      refine lv_iconst (v := (0 : Int32)) hx hb dX11_read_237 (by decide) ?_
      exact e_i X hR hr hlk hf dX11_read_238
    · replace hf := z_f c_33 hf
      refine lv_aload_n hx hb dX11_read_224 rfl (lv_at hl 0 rfl) ?_
      refine r_gs (t := 210) X hR fr_11_167 kh_160 (sx_11_72 kh_160) dX11_read_225 ?_
      refine lv_iload_n hx hb dX11_read_228 rfl (lv_at hl 1 rfl) ?_
      refine lv_iconst (v := (0 : Int32)) hx hb dX11_read_229 (by decide) ?_
      obtain ⟨hi_34, hf⟩ := z_c_e hf
      refine r_zas X hR ka_210 hi_34 dX11_read_230 (fun H locs σ_35 eσ_35 hR => ?_)
      replace hf := z_l_e eσ_35 hf
      obtain ⟨x1_36, ex1_36⟩ : ∃ z : Int32, z = x1 + (1 : Int32) := ⟨_, rfl⟩
      replace hf := z_l_e ex1_36 hf
      refine lv_iinc (v := x1_36) (lv' := [(1, .int x1_36), (0, .ref (G.2.2 + 160))]) hx hb dX11_read_231 hl (k := 1) rfl (by rw [ex1_36]; rfl) (by decide) rfl (fun ls hl => ?_)
      refine lv_goto (tgt := 219) hx hb dX11_read_234 (by decide) ?_
      exact ih x1_36 σ_35 _ _ _ hf hR (lv_sub hl [1, 0] rfl)
set_option maxHeartbeats 4000000 in
set_option maxRecDepth 100000 in
theorem w11_read_164 (X : Cx p s m args c cX11_read 2 RX11 G) (hr : meth.sig.returnType = some .int) (hlk : meth.locks = false) (N : Nat) :
    ∀ (s1 : Int32) (σ : Mm) (H : Heap) (locs : List Loc) (ls : Array Slot), f11_read_164 N s1 σ = some (r0, σ0) → Rp G 212 tt σ s H locs → lv_has ls 2 [(0, .ref (G.2.2 + 160))] → W p l e rm11_read s m args below meth c H locs 0 0 (MQ below (P_i G 212 tt r0 σ0) args s 0 0 (Fr G)) (F0 m 164 ls [.int s1, .ref (G.2.2 + 160)]) := by
  have hx := X.1
  have hb := X.2.1
  intro s1 σ H locs ls hf hR hl
  unfold f11_read_164 at hf
  refine r_pi X hR pi_11_37 kh_160 dX11_read_164 (fun H locs σ_21 eσ_21 hR => ?_)
  replace hf := z_l_e eσ_21 hf
  refine lv_aload_n hx hb dX11_read_167 rfl (lv_at hl 0 rfl) ?_
  refine r_gi X hR fi_11_224 kh_160 dX11_read_168 ?_
  refine lv_if_le (tgt := 179) hx hb dX11_read_171 (by decide) (fun c_22 => ?_) (fun c_22 => ?_)
  · replace hf := z_t c_22 hf
    refine lv_aload_n hx hb dX11_read_179 rfl (lv_at hl 0 rfl) ?_
    refine r_gi X hR fi_11_233 kh_160 dX11_read_180 ?_
    refine lv_if_le (tgt := 191) hx hb dX11_read_183 (by decide) (fun c_23 => ?_) (fun c_23 => ?_)
    · replace hf := z_t c_23 hf
      refine lv_aload_n hx hb dX11_read_191 rfl (lv_at hl 0 rfl) ?_
      refine lv_aload_n hx hb dX11_read_192 rfl (lv_at hl 0 rfl) ?_
      refine r_gi X hR fi_11_257 kh_160 dX11_read_193 ?_
      refine r_pi X hR pi_11_254 kh_160 dX11_read_196 (fun H locs σ_24 eσ_24 hR => ?_)
      replace hf := z_l_e eσ_24 hf
      refine lv_aload_n hx hb dX11_read_199 rfl (lv_at hl 0 rfl) ?_
      obtain ⟨r_25, σ_26, hc_27, hf⟩ := z_b_e hf
      refine go_v hR (mv_run (As := []) (rest := []) X hR mv_11_181 kh_160 (kd_lt kh_160 (by decide)) (c11_begins l G N hc_27) ⟨rfl, rfl, Nat.le_of_ble_eq_true rfl, Nat.le_of_ble_eq_true rfl⟩ rfl hl.1 rfl (Nat.le_of_ble_eq_true rfl) dX11_read_200 ⟨Nat.zero_le _, Nat.zero_le _⟩) (fun H locs hR => ?_)
      refine lv_aload_n hx hb dX11_read_203 rfl (lv_at hl 0 rfl) ?_
      obtain ⟨r_28, σ_29, hc_30, hf⟩ := z_b_e hf
      refine go_v hR (mv_run (As := []) (rest := []) X hR mv_11_184 kh_160 (kd_lt kh_160 (by decide)) (c11_keepsRow l G N hc_30) ⟨rfl, rfl, Nat.le_of_ble_eq_true rfl, Nat.le_of_ble_eq_true rfl⟩ rfl hl.1 rfl (Nat.le_of_ble_eq_true rfl) dX11_read_204 ⟨Nat.zero_le _, Nat.zero_le _⟩) (fun H locs hR => ?_)
      refine lv_aload_n hx hb dX11_read_207 rfl (lv_at hl 0 rfl) ?_
      refine lv_iconst (v := (0 : Int32)) hx hb dX11_read_208 (by decide) ?_
      refine r_pi X hR pi_11_272 kh_160 dX11_read_209 (fun H locs σ_31 eσ_31 hR => ?_)
      replace hf := z_l_e eσ_31 hf
      refine lv_aload_n hx hb dX11_read_212 rfl (lv_at hl 0 rfl) ?_
      refine lv_iconst (v := (0 : Int32)) hx hb dX11_read_213 (by decide) ?_
      refine r_pi X hR pi_11_275 kh_160 dX11_read_214 (fun H locs σ_32 eσ_32 hR => ?_)
      replace hf := z_l_e eσ_32 hf
      refine lv_iconst (v := (0 : Int32)) hx hb dX11_read_217 (by decide) ?_
      refine lv_istore_n (lv' := [(1, .int (0 : Int32)), (0, .ref (G.2.2 + 160))]) hx hb dX11_read_218 rfl hl (by decide) rfl (fun ls hl => ?_)
      exact w11_read_219 X hr hlk N  N (0 : Int32) σ_32 _ _ _ hf hR (lv_sub hl [1, 0] rfl)
    · replace hf := z_f c_23 hf
      refine lv_aload_n hx hb dX11_read_186 rfl (lv_at hl 0 rfl) ?_
      refine r_gi X hR fi_11_233 kh_160 dX11_read_187 ?_
      exact e_i X hR hr hlk hf dX11_read_190
  · replace hf := z_f c_22 hf
    refine lv_aload_n hx hb dX11_read_174 rfl (lv_at hl 0 rfl) ?_
    refine r_gi X hR fi_11_224 kh_160 dX11_read_175 ?_
    exact e_i X hR hr hlk hf dX11_read_178
set_option maxHeartbeats 4000000 in
set_option maxRecDepth 100000 in
theorem w11_read_134 (X : Cx p s m args c cX11_read 2 RX11 G) (hr : meth.sig.returnType = some .int) (hlk : meth.locks = false) (N : Nat) :
    ∀ (σ : Mm) (H : Heap) (locs : List Loc) (ls : Array Slot), f11_read_134 N σ = some (r0, σ0) → Rp G 212 tt σ s H locs → lv_has ls 2 [(0, .ref (G.2.2 + 160))] → W p l e rm11_read s m args below meth c H locs 0 0 (MQ below (P_i G 212 tt r0 σ0) args s 0 0 (Fr G)) (F0 m 134 ls []) := by
  have hx := X.1
  have hb := X.2.1
  intro σ H locs ls hf hR hl
  unfold f11_read_134 at hf
  refine lv_aload_n hx hb dX11_read_134 rfl (lv_at hl 0 rfl) ?_
  refine lv_aload_n hx hb dX11_read_135 rfl (lv_at hl 0 rfl) ?_
  refine r_gi X hR fi_11_224 kh_160 dX11_read_136 ?_
  refine lv_if_le (tgt := 149) hx hb dX11_read_139 (by decide) (fun c_19 => ?_) (fun c_19 => ?_)
  · replace hf := z_t c_19 hf
    refine lv_aload_n hx hb dX11_read_149 rfl (lv_at hl 0 rfl) ?_
    refine r_gi X hR fi_11_233 kh_160 dX11_read_150 ?_
    refine lv_if_le (tgt := 163) hx hb dX11_read_153 (by decide) (fun c_20 => ?_) (fun c_20 => ?_)
    · replace hf := z_t c_20 hf
      refine lv_iconst (v := (-1 : Int32)) hx hb dX11_read_163 (by decide) ?_
      exact w11_read_164 X hr hlk N  (-1 : Int32) σ _ _ _ hf hR (lv_sub hl [0] rfl)
    · replace hf := z_f c_20 hf
      refine lv_aload_n hx hb dX11_read_156 rfl (lv_at hl 0 rfl) ?_
      refine r_gi X hR fi_11_236 kh_160 dX11_read_157 ?_
      refine lv_goto (tgt := 164) hx hb dX11_read_160 (by decide) ?_
      exact w11_read_164 X hr hlk N  (gI σ 160 16) σ _ _ _ hf hR (lv_sub hl [0] rfl)
  · replace hf := z_f c_19 hf
    refine lv_aload_n hx hb dX11_read_142 rfl (lv_at hl 0 rfl) ?_
    refine r_gi X hR fi_11_230 kh_160 dX11_read_143 ?_
    refine lv_goto (tgt := 164) hx hb dX11_read_146 (by decide) ?_
    exact w11_read_164 X hr hlk N  (gI σ 160 14) σ _ _ _ hf hR (lv_sub hl [0] rfl)
set_option maxHeartbeats 4000000 in
set_option maxRecDepth 100000 in
theorem w11_read_112 (X : Cx p s m args c cX11_read 2 RX11 G) (hr : meth.sig.returnType = some .int) (hlk : meth.locks = false) (N : Nat) :
    ∀ (fu : Nat) (σ : Mm) (H : Heap) (locs : List Loc) (ls : Array Slot), f11_read_112 N fu σ = some (r0, σ0) → Rp G 212 tt σ s H locs → lv_has ls 2 [(0, .ref (G.2.2 + 160))] → W p l e rm11_read s m args below meth c H locs 0 0 (MQ below (P_i G 212 tt r0 σ0) args s 0 0 (Fr G)) (F0 m 112 ls []) := by
  have hx := X.1
  have hb := X.2.1
  intro fu
  induction fu with
  | zero =>
    intro σ H locs ls hf hR hl
    rw [f11_read_112] at hf
    cases hf
  | succ fu ih =>
    intro σ H locs ls hf hR hl
    rw [f11_read_112] at hf
    refine lv_aload_n hx hb dX11_read_112 rfl (lv_at hl 0 rfl) ?_
    refine r_gi X hR fi_11_224 kh_160 dX11_read_113 ?_
    refine lv_if_ne (tgt := 134) hx hb dX11_read_116 (by decide) (fun c_18 => ?_) (fun c_18 => ?_)
    · replace hf := z_f c_18 hf
      exact w11_read_134 X hr hlk N   σ _ _ _ hf hR (lv_sub hl [0] rfl)
    · replace hf := z_t c_18 hf
      refine lv_aload_n hx hb dX11_read_119 rfl (lv_at hl 0 rfl) ?_
      refine lv_iconst (v := (0 : Int32)) hx hb dX11_read_120 (by decide) ?_
      obtain ⟨r_37, σ_38, hc_39, hf⟩ := z_b_e hf
      refine go_i hR (mv_run (As := [.int (0 : Int32)]) (rest := []) X hR mv_11_242 kh_160 (kd_lt kh_160 (by decide)) (c11_is l G N hc_39) ⟨rfl, rfl, Nat.le_of_ble_eq_true rfl, Nat.le_of_ble_eq_true rfl⟩ rfl hl.1 rfl (Nat.le_of_ble_eq_true rfl) dX11_read_121 ⟨Nat.zero_le _, Nat.zero_le _⟩) (fun H locs hR => ?_)
      refine lv_if_ne (tgt := 134) hx hb dX11_read_124 (by decide) (fun c_40 => ?_) (fun c_40 => ?_)
      · replace hf := z_f c_40 hf
        exact w11_read_134 X hr hlk N   σ_38 _ _ _ hf hR (lv_sub hl [0] rfl)
      · replace hf := z_t c_40 hf
        refine lv_aload_n hx hb dX11_read_127 rfl (lv_at hl 0 rfl) ?_
        obtain ⟨r_41, σ_42, hc_43, hf⟩ := z_b_e hf
        refine go_v hR (mv_run (As := []) (rest := []) X hR mv_11_269 kh_160 (kd_lt kh_160 (by decide)) (c11_tellOne l G N hc_43) ⟨rfl, rfl, Nat.le_of_ble_eq_true rfl, Nat.le_of_ble_eq_true rfl⟩ rfl hl.1 rfl (Nat.le_of_ble_eq_true rfl) dX11_read_128 ⟨Nat.zero_le _, Nat.zero_le _⟩) (fun H locs hR => ?_)
        refine lv_goto (tgt := 112) hx hb dX11_read_131 (by decide) ?_
        exact ih  σ_42 _ _ _ hf hR (lv_sub hl [0] rfl)
set_option maxHeartbeats 4000000 in
set_option maxRecDepth 100000 in
theorem w11_read_36 (X : Cx p s m args c cX11_read 2 RX11 G) (hr : meth.sig.returnType = some .int) (hlk : meth.locks = false) (N : Nat) :
    ∀ (σ : Mm) (H : Heap) (locs : List Loc) (ls : Array Slot), f11_read_36 N σ = some (r0, σ0) → Rp G 212 tt σ s H locs → lv_has ls 2 [(0, .ref (G.2.2 + 160))] → W p l e rm11_read s m args below meth c H locs 0 0 (MQ below (P_i G 212 tt r0 σ0) args s 0 0 (Fr G)) (F0 m 36 ls []) := by
  have hx := X.1
  have hb := X.2.1
  intro σ H locs ls hf hR hl
  unfold f11_read_36 at hf
  refine lv_aload_n hx hb dX11_read_36 rfl (lv_at hl 0 rfl) ?_
  refine lv_iconst (v := (0 : Int32)) hx hb dX11_read_37 (by decide) ?_
  refine r_pi X hR pi_11_187 kh_160 dX11_read_38 (fun H locs σ_3 eσ_3 hR => ?_)
  replace hf := z_l_e eσ_3 hf
  refine lv_aload_n hx hb dX11_read_41 rfl (lv_at hl 0 rfl) ?_
  obtain ⟨r_4, σ_5, hc_6, hf⟩ := z_b_e hf
  refine go_v hR (mv_run (As := []) (rest := []) X hR mv_11_248 kh_160 (kd_lt kh_160 (by decide)) (c11_cut l G N hc_6) ⟨rfl, rfl, Nat.le_of_ble_eq_true rfl, Nat.le_of_ble_eq_true rfl⟩ rfl hl.1 rfl (Nat.le_of_ble_eq_true rfl) dX11_read_42 ⟨Nat.zero_le _, Nat.zero_le _⟩) (fun H locs hR => ?_)
  refine lv_aload_n hx hb dX11_read_45 rfl (lv_at hl 0 rfl) ?_
  refine lv_iconst (v := (0 : Int32)) hx hb dX11_read_46 (by decide) ?_
  refine r_pi X hR pi_11_227 kh_160 dX11_read_47 (fun H locs σ_7 eσ_7 hR => ?_)
  replace hf := z_l_e eσ_7 hf
  refine lv_aload_n hx hb dX11_read_50 rfl (lv_at hl 0 rfl) ?_
  refine lv_iconst (v := (0 : Int32)) hx hb dX11_read_51 (by decide) ?_
  refine r_pi X hR pi_11_251 kh_160 dX11_read_52 (fun H locs σ_8 eσ_8 hR => ?_)
  replace hf := z_l_e eσ_8 hf
  refine lv_aload_n hx hb dX11_read_55 rfl (lv_at hl 0 rfl) ?_
  refine lv_iconst (v := (0 : Int32)) hx hb dX11_read_56 (by decide) ?_
  refine r_pi X hR pi_11_224 kh_160 dX11_read_57 (fun H locs σ_9 eσ_9 hR => ?_)
  replace hf := z_l_e eσ_9 hf
  refine lv_aload_n hx hb dX11_read_60 rfl (lv_at hl 0 rfl) ?_
  refine lv_iconst (v := (0 : Int32)) hx hb dX11_read_61 (by decide) ?_
  refine r_pi X hR pi_11_233 kh_160 dX11_read_62 (fun H locs σ_10 eσ_10 hR => ?_)
  replace hf := z_l_e eσ_10 hf
  refine lv_aload_n hx hb dX11_read_65 rfl (lv_at hl 0 rfl) ?_
  refine lv_iconst (v := (1 : Int32)) hx hb dX11_read_66 (by decide) ?_
  refine lv_aload_n hx hb dX11_read_67 rfl (lv_at hl 0 rfl) ?_
  refine r_gi X hR fi_11_254 kh_160 dX11_read_68 ?_
  refine lv_isub hx hb dX11_read_71 ?_
  refine r_pi X hR pi_11_257 kh_160 dX11_read_72 (fun H locs σ_11 eσ_11 hR => ?_)
  replace hf := z_l_e eσ_11 hf
  refine lv_aload_n hx hb dX11_read_75 rfl (lv_at hl 0 rfl) ?_
  refine lv_iconst (v := (0 : Int32)) hx hb dX11_read_76 (by decide) ?_
  refine r_pi X hR pi_11_260 kh_160 dX11_read_77 (fun H locs σ_12 eσ_12 hR => ?_)
  replace hf := z_l_e eσ_12 hf
  refine lv_aload_n hx hb dX11_read_80 rfl (lv_at hl 0 rfl) ?_
  refine lv_aload_n hx hb dX11_read_81 rfl (lv_at hl 0 rfl) ?_
  refine r_gi X hR fi_11_257 kh_160 dX11_read_82 ?_
  obtain ⟨r_13, σ_14, hc_15, hf⟩ := z_b_e hf
  refine go_v hR (mv_run (As := [.int (gI σ_12 160 19)]) (rest := []) X hR mv_11_173 kh_160 (kd_lt kh_160 (by decide)) (c11_plain l G N hc_15) ⟨rfl, rfl, Nat.le_of_ble_eq_true rfl, Nat.le_of_ble_eq_true rfl⟩ rfl hl.1 rfl (Nat.le_of_ble_eq_true rfl) dX11_read_85 ⟨Nat.zero_le _, Nat.zero_le _⟩) (fun H locs hR => ?_)
  refine lv_aload_n hx hb dX11_read_88 rfl (lv_at hl 0 rfl) ?_
  refine lv_sipush (v := (130 : Int32)) hx hb dX11_read_89 (by decide) ?_
  refine lv_aload_n hx hb dX11_read_92 rfl (lv_at hl 0 rfl) ?_
  refine r_gi X hR fi_11_257 kh_160 dX11_read_93 ?_
  refine lv_imul hx hb dX11_read_96 ?_
  refine r_pi X hR pi_11_263 kh_160 dX11_read_97 (fun H locs σ_16 eσ_16 hR => ?_)
  replace hf := z_l_e eσ_16 hf
  refine lv_aload_n hx hb dX11_read_100 rfl (lv_at hl 0 rfl) ?_
  refine lv_sipush (v := (420 : Int32)) hx hb dX11_read_101 (by decide) ?_
  refine lv_aload_n hx hb dX11_read_104 rfl (lv_at hl 0 rfl) ?_
  refine r_gi X hR fi_11_257 kh_160 dX11_read_105 ?_
  refine lv_imul hx hb dX11_read_108 ?_
  refine r_pi X hR pi_11_266 kh_160 dX11_read_109 (fun H locs σ_17 eσ_17 hR => ?_)
  replace hf := z_l_e eσ_17 hf
  exact w11_read_112 X hr hlk N  N  σ_17 _ _ _ hf hR (lv_sub hl [0] rfl)
set_option maxHeartbeats 4000000 in
set_option maxRecDepth 100000 in
theorem w11_read_10 (X : Cx p s m args c cX11_read 2 RX11 G) (hr : meth.sig.returnType = some .int) (hlk : meth.locks = false) (N : Nat) :
    ∀ (fu : Nat) (x1 : Int32) (σ : Mm) (H : Heap) (locs : List Loc) (ls : Array Slot), f11_read_10 N fu x1 σ = some (r0, σ0) → Rp G 212 tt σ s H locs → lv_has ls 2 [(0, .ref (G.2.2 + 160)), (1, .int x1)] → W p l e rm11_read s m args below meth c H locs 0 0 (MQ below (P_i G 212 tt r0 σ0) args s 0 0 (Fr G)) (F0 m 10 ls []) := by
  have hx := X.1
  have hb := X.2.1
  intro fu
  induction fu with
  | zero =>
    intro x1 σ H locs ls hf hR hl
    rw [f11_read_10] at hf
    cases hf
  | succ fu ih =>
    intro x1 σ H locs ls hf hR hl
    rw [f11_read_10] at hf
    refine lv_iload_n hx hb dX11_read_10 rfl (lv_at hl 1 rfl) ?_
    refine lv_aload_n hx hb dX11_read_11 rfl (lv_at hl 0 rfl) ?_
    refine r_gi X hR fi_11_193 kh_160 dX11_read_12 ?_
    refine lv_icmp_ge (tgt := 36) hx hb dX11_read_15 (by decide) (fun c_2 => ?_) (fun c_2 => ?_)
    · replace hf := z_t c_2 hf
      exact w11_read_36 X hr hlk N   σ _ _ _ hf hR (lv_sub hl [0] rfl)
    · replace hf := z_f c_2 hf
      refine lv_aload_n hx hb dX11_read_18 rfl (lv_at hl 0 rfl) ?_
      refine r_gs (t := 162) X hR fr_11_17 kh_160 (sx_11_3 kh_160) dX11_read_19 ?_
      refine lv_iload_n hx hb dX11_read_22 rfl (lv_at hl 1 rfl) ?_
      refine lv_aload_n hx hb dX11_read_23 rfl (lv_at hl 0 rfl) ?_
      refine r_gs (t := 161) X hR fr_11_13 kh_160 (sx_11_1 kh_160) dX11_read_24 ?_
      refine lv_iload_n hx hb dX11_read_27 rfl (lv_at hl 1 rfl) ?_
      obtain ⟨hi_44, hf⟩ := z_c_e hf
      refine r_bal X hR ka_161 hi_44 dX11_read_28 ?_
      obtain ⟨hi_45, hf⟩ := z_c_e hf
      refine r_bas X hR ka_162 hi_45 dX11_read_29 (fun H locs σ_46 eσ_46 hR => ?_)
      replace hf := z_l_e eσ_46 hf
      obtain ⟨x1_47, ex1_47⟩ : ∃ z : Int32, z = x1 + (1 : Int32) := ⟨_, rfl⟩
      replace hf := z_l_e ex1_47 hf
      refine lv_iinc (v := x1_47) (lv' := [(1, .int x1_47), (0, .ref (G.2.2 + 160))]) hx hb dX11_read_30 hl (k := 1) rfl (by rw [ex1_47]; rfl) (by decide) rfl (fun ls hl => ?_)
      refine lv_goto (tgt := 10) hx hb dX11_read_33 (by decide) ?_
      exact ih x1_47 σ_46 _ _ _ hf hR (lv_sub hl [1, 0] rfl)
set_option maxHeartbeats 4000000 in
set_option maxRecDepth 100000 in
theorem c11_read (l : Launch) (G : Gp) (N : Nat) {σ σ0 : Mm} {r0 : Int32} (hf : f11_read N σ = some (r0, σ0)) : Met l yX11_read (WS yX11_read cX11_read 2 (some .int)) rm11_read (va_Pc [.ref (G.2.2 + 160)] (Pd G 212 tt σ)) (P_i G 212 tt r0 σ0) 0 0 (Fr G) := by
  refine ct [(0, .ref (G.2.2 + 160))] rfl (by decide) (Nat.le_of_ble_eq_true rfl) ?_
  intro p e s m below meth c ls X hr hlk hR hl
  have X : Cx p s m _ c cX11_read 2 RX11 G := X
  have hx := X.1
  have hb := X.2.1
  unfold f11_read at hf
  refine lv_aload_n hx hb dX11_read_0 rfl (lv_at hl 0 rfl) ?_
  refine lv_aload_n hx hb dX11_read_1 rfl (lv_at hl 0 rfl) ?_
  refine r_gi X hR fi_11_187 kh_160 dX11_read_2 ?_
  refine r_pi X hR pi_11_193 kh_160 dX11_read_5 (fun H locs σ_1 eσ_1 hR => ?_)
  replace hf := z_l_e eσ_1 hf
  refine lv_iconst (v := (0 : Int32)) hx hb dX11_read_8 (by decide) ?_
  refine lv_istore_n (lv' := [(1, .int (0 : Int32)), (0, .ref (G.2.2 + 160))]) hx hb dX11_read_9 rfl hl (by decide) rfl (fun ls hl => ?_)
  exact w11_read_10 X hr hlk N  N (0 : Int32) σ_1 _ _ _ hf hR (lv_sub hl [1, 0] rfl)
abbrev rm11_place : Room := { frames := 0, cells := 0, slots := 0, locals := 0 }
def f11_place (N : Nat) (σ : Mm) : Option (Int32 × Mm) :=
  some ((gI σ 160 17), σ)
set_option maxHeartbeats 4000000 in
set_option maxRecDepth 100000 in
theorem c11_place (l : Launch) (G : Gp) (N : Nat) {σ σ0 : Mm} {r0 : Int32} (hf : f11_place N σ = some (r0, σ0)) : Met l yX11_place (WS yX11_place cX11_place 1 (some .int)) rm11_place (va_Pc [.ref (G.2.2 + 160)] (Pd G 212 tt σ)) (P_i G 212 tt r0 σ0) 0 0 (Fr G) := by
  refine ct [(0, .ref (G.2.2 + 160))] rfl (by decide) (Nat.le_of_ble_eq_true rfl) ?_
  intro p e s m below meth c ls X hr hlk hR hl
  have X : Cx p s m _ c cX11_place 1 RX11 G := X
  have hx := X.1
  have hb := X.2.1
  unfold f11_place at hf
  refine lv_aload_n hx hb dX11_place_0 rfl (lv_at hl 0 rfl) ?_
  refine r_gi X hR fi_11_37 kh_160 dX11_place_1 ?_
  exact e_i X hR hr hlk hf dX11_place_4
abbrev rm11_termOf : Room := { frames := 0, cells := 0, slots := 0, locals := 0 }
def f11_termOf_159 (N : Nat) (k5 : Int32 → Int32 → Mm → Option (Int32 × Mm)) (x2 : Int32) (x3 : Int32) (x4 : Int32) (σ : Mm) : Option (Int32 × Mm) :=
  z_l (x4 + (1 : Int32)) fun x4_17 =>
  k5 x3 x4_17 σ
def f11_termOf_158 (N : Nat) (k5 : Int32 → Int32 → Mm → Option (Int32 × Mm)) (x2 : Int32) (x3 : Int32) (x4 : Int32) (s1 : Int32) (s2 : Int32) (σ : Mm) : Option (Int32 × Mm) :=
  z_c (inB s1 400) (z_l (sI σ 197 (ix s1) s2) fun σ_16 =>
  f11_termOf_159 N k5 x2 x3 x4 σ_16)
def f11_termOf_104 (N : Nat) (k5 : Int32 → Int32 → Mm → Option (Int32 × Mm)) (x2 : Int32) (x3 : Int32) (x4 : Int32) (x5 : Int32) (x6 : Int32) (x7 : Int32) (σ : Mm) : Option (Int32 × Mm) :=
  if x5 = (2 : Int32) then (
  f11_termOf_158 N k5 x2 x3 x4 (x3 - (1 : Int32)) (x6 + x7) σ) else (
  if x5 = (3 : Int32) then (
  f11_termOf_158 N k5 x2 x3 x4 (x3 - (1 : Int32)) (x6 - x7) σ) else (
  if x5 = (4 : Int32) then (
  f11_termOf_158 N k5 x2 x3 x4 (x3 - (1 : Int32)) (x6 * x7) σ) else (
  z_c (!(x7 == 0)) (
  f11_termOf_158 N k5 x2 x3 x4 (x3 - (1 : Int32)) (x6 / x7) σ))))
def f11_termOf_97 (N : Nat) (σ : Mm) : Option (Int32 × Mm) :=
  z_l (sI σ 160 54 (1 : Int32)) fun σ_20 =>
  some ((0 : Int32), σ_20)
def f11_termOf_58 (N : Nat) (k5 : Int32 → Int32 → Mm → Option (Int32 × Mm)) (x2 : Int32) (x3 : Int32) (x4 : Int32) (s1 : Int32) (s2 : Int32) (σ : Mm) : Option (Int32 × Mm) :=
  z_c (inB s1 400) (z_l (sI σ 197 (ix s1) s2) fun σ_25 =>
  z_l (x3 + (1 : Int32)) fun x3_26 =>
  f11_termOf_159 N k5 x2 x3_26 x4 σ_25)
def f11_termOf_5 (N : Nat) (x2 : Int32) : Nat → Int32 → Int32 → Mm → Option (Int32 × Mm)
  | 0, _, _, _ => none
  | fu + 1, x3, x4, σ => if x2 ≤ x4 then (
  z_c (inB (0 : Int32) 400) (
  some ((gI σ 197 (ix (0 : Int32))), σ))) else (
  z_c (inB x4 840) (
  z_l ((gI σ 193 (ix x4))) fun x5_4 =>
  if (2 : Int32) ≤ x5_4 then (
  z_l (x3 + (-1 : Int32)) fun x3_6 =>
  z_c (inB (x3_6 - (1 : Int32)) 400) (
  z_l ((gI σ 197 (ix (x3_6 - (1 : Int32))))) fun x6_8 =>
  z_c (inB x3_6 400) (
  z_l ((gI σ 197 (ix x3_6))) fun x7_10 =>
  if x5_4 = (5 : Int32) then (
  if x7_10 = 0 then (
  f11_termOf_97 N σ) else (
  f11_termOf_104 N (fun x3 x4 σ => f11_termOf_5 N x2 fu x3 x4 σ) x2 x3_6 x4 x5_4 x6_8 x7_10 σ)) else (
  f11_termOf_104 N (fun x3 x4 σ => f11_termOf_5 N x2 fu x3 x4 σ) x2 x3_6 x4 x5_4 x6_8 x7_10 σ)))) else (
  if x5_4 = 0 then (
  z_c (inB x4 840) (
  f11_termOf_58 N (fun x3 x4 σ => f11_termOf_5 N x2 fu x3 x4 σ) x2 x3 x4 x3 (gI σ 194 (ix x4)) σ)) else (
  z_c (inB x4 840) (
  z_c (inB (gI σ 194 (ix x4)) 9) (
  f11_termOf_58 N (fun x3 x4 σ => f11_termOf_5 N x2 fu x3 x4 σ) x2 x3 x4 x3 (gI σ 196 (ix (gI σ 194 (ix x4)))) σ))))))
def f11_termOf (N : Nat) (x1 : Int32) (x2 : Int32) (σ : Mm) : Option (Int32 × Mm) :=
  f11_termOf_5 N x2 N (0 : Int32) x1 σ
set_option maxHeartbeats 4000000 in
set_option maxRecDepth 100000 in
theorem w11_termOf_159 (X : Cx p s m args c cX11_termOf 8 RX11 G) (hr : meth.sig.returnType = some .int) (hlk : meth.locks = false) (N : Nat) {x2 : Int32} {k5 : Int32 → Int32 → Mm → Option (Int32 × Mm)} (hk5 : ∀ (x3 : Int32) (x4 : Int32) (σ : Mm) (H : Heap) (locs : List Loc) (ls : Array Slot), k5 x3 x4 σ = some (r0, σ0) → Rp G 212 tt σ s H locs → lv_has ls 8 [(0, .ref (G.2.2 + 160)), (2, .int x2), (3, .int x3), (4, .int x4)] → W p l e rm11_termOf s m args below meth c H locs 0 0 (MQ below (P_i G 212 tt r0 σ0) args s 0 0 (Fr G)) (F0 m 5 ls [])) :
    ∀ (x3 : Int32) (x4 : Int32) (σ : Mm) (H : Heap) (locs : List Loc) (ls : Array Slot), f11_termOf_159 N k5 x2 x3 x4 σ = some (r0, σ0) → Rp G 212 tt σ s H locs → lv_has ls 8 [(0, .ref (G.2.2 + 160)), (2, .int x2), (3, .int x3), (4, .int x4)] → W p l e rm11_termOf s m args below meth c H locs 0 0 (MQ below (P_i G 212 tt r0 σ0) args s 0 0 (Fr G)) (F0 m 159 ls []) := by
  have hx := X.1
  have hb := X.2.1
  intro x3 x4 σ H locs ls hf hR hl
  unfold f11_termOf_159 at hf
  obtain ⟨x4_17, ex4_17⟩ : ∃ z : Int32, z = x4 + (1 : Int32) := ⟨_, rfl⟩
  replace hf := z_l_e ex4_17 hf
  refine lv_iinc (v := x4_17) (lv' := [(4, .int x4_17), (0, .ref (G.2.2 + 160)), (2, .int x2), (3, .int x3)]) hx hb dX11_termOf_159 hl (k := 3) rfl (by rw [ex4_17]; rfl) (by decide) rfl (fun ls hl => ?_)
  refine lv_goto (tgt := 5) hx hb dX11_termOf_162 (by decide) ?_
  exact hk5 x3 x4_17 σ _ _ _ hf hR (lv_sub hl [1, 2, 3, 0] rfl)
set_option maxHeartbeats 4000000 in
set_option maxRecDepth 100000 in
theorem w11_termOf_158 (X : Cx p s m args c cX11_termOf 8 RX11 G) (hr : meth.sig.returnType = some .int) (hlk : meth.locks = false) (N : Nat) {x2 : Int32} {k5 : Int32 → Int32 → Mm → Option (Int32 × Mm)} (hk5 : ∀ (x3 : Int32) (x4 : Int32) (σ : Mm) (H : Heap) (locs : List Loc) (ls : Array Slot), k5 x3 x4 σ = some (r0, σ0) → Rp G 212 tt σ s H locs → lv_has ls 8 [(0, .ref (G.2.2 + 160)), (2, .int x2), (3, .int x3), (4, .int x4)] → W p l e rm11_termOf s m args below meth c H locs 0 0 (MQ below (P_i G 212 tt r0 σ0) args s 0 0 (Fr G)) (F0 m 5 ls [])) :
    ∀ (x3 : Int32) (x4 : Int32) (s1 : Int32) (s2 : Int32) (σ : Mm) (H : Heap) (locs : List Loc) (ls : Array Slot), f11_termOf_158 N k5 x2 x3 x4 s1 s2 σ = some (r0, σ0) → Rp G 212 tt σ s H locs → lv_has ls 8 [(0, .ref (G.2.2 + 160)), (2, .int x2), (3, .int x3), (4, .int x4)] → W p l e rm11_termOf s m args below meth c H locs 0 0 (MQ below (P_i G 212 tt r0 σ0) args s 0 0 (Fr G)) (F0 m 158 ls [.int s2, .int s1, .ref (G.2.2 + 197)]) := by
  have hx := X.1
  have hb := X.2.1
  intro x3 x4 s1 s2 σ H locs ls hf hR hl
  unfold f11_termOf_158 at hf
  obtain ⟨hi_15, hf⟩ := z_c_e hf
  refine r_ias X hR ka_197 hi_15 dX11_termOf_158 (fun H locs σ_16 eσ_16 hR => ?_)
  replace hf := z_l_e eσ_16 hf
  exact w11_termOf_159 X hr hlk N hk5 x3 x4 σ_16 _ _ _ hf hR (lv_sub hl [0, 1, 2, 3] rfl)
set_option maxHeartbeats 4000000 in
set_option maxRecDepth 100000 in
theorem w11_termOf_104 (X : Cx p s m args c cX11_termOf 8 RX11 G) (hr : meth.sig.returnType = some .int) (hlk : meth.locks = false) (N : Nat) {x2 : Int32} {k5 : Int32 → Int32 → Mm → Option (Int32 × Mm)} (hk5 : ∀ (x3 : Int32) (x4 : Int32) (σ : Mm) (H : Heap) (locs : List Loc) (ls : Array Slot), k5 x3 x4 σ = some (r0, σ0) → Rp G 212 tt σ s H locs → lv_has ls 8 [(0, .ref (G.2.2 + 160)), (2, .int x2), (3, .int x3), (4, .int x4)] → W p l e rm11_termOf s m args below meth c H locs 0 0 (MQ below (P_i G 212 tt r0 σ0) args s 0 0 (Fr G)) (F0 m 5 ls [])) :
    ∀ (x3 : Int32) (x4 : Int32) (x5 : Int32) (x6 : Int32) (x7 : Int32) (σ : Mm) (H : Heap) (locs : List Loc) (ls : Array Slot), f11_termOf_104 N k5 x2 x3 x4 x5 x6 x7 σ = some (r0, σ0) → Rp G 212 tt σ s H locs → lv_has ls 8 [(0, .ref (G.2.2 + 160)), (2, .int x2), (3, .int x3), (4, .int x4), (5, .int x5), (6, .int x6), (7, .int x7)] → W p l e rm11_termOf s m args below meth c H locs 0 0 (MQ below (P_i G 212 tt r0 σ0) args s 0 0 (Fr G)) (F0 m 104 ls []) := by
  have hx := X.1
  have hb := X.2.1
  intro x3 x4 x5 x6 x7 σ H locs ls hf hR hl
  unfold f11_termOf_104 at hf
  refine lv_aload_n hx hb dX11_termOf_104 rfl (lv_at hl 0 rfl) ?_
  refine r_gs (t := 197) X hR fr_11_128 kh_160 (sx_11_53 kh_160) dX11_termOf_105 ?_
  refine lv_iload_n hx hb dX11_termOf_108 rfl (lv_at hl 2 rfl) ?_
  refine lv_iconst (v := (1 : Int32)) hx hb dX11_termOf_109 (by decide) ?_
  refine lv_isub hx hb dX11_termOf_110 ?_
  refine lv_iload hx hb dX11_termOf_111 (lv_at hl 4 rfl) ?_
  refine lv_iconst (v := (2 : Int32)) hx hb dX11_termOf_113 (by decide) ?_
  refine lv_icmp_ne (tgt := 125) hx hb dX11_termOf_114 (by decide) (fun c_12 => ?_) (fun c_12 => ?_)
  · replace hf := z_f c_12 hf
    refine lv_iload hx hb dX11_termOf_125 (lv_at hl 4 rfl) ?_
    refine lv_iconst (v := (3 : Int32)) hx hb dX11_termOf_127 (by decide) ?_
    refine lv_icmp_ne (tgt := 139) hx hb dX11_termOf_128 (by decide) (fun c_13 => ?_) (fun c_13 => ?_)
    · replace hf := z_f c_13 hf
      refine lv_iload hx hb dX11_termOf_139 (lv_at hl 4 rfl) ?_
      refine lv_iconst (v := (4 : Int32)) hx hb dX11_termOf_141 (by decide) ?_
      refine lv_icmp_ne (tgt := 153) hx hb dX11_termOf_142 (by decide) (fun c_14 => ?_) (fun c_14 => ?_)
      · replace hf := z_f c_14 hf
        refine lv_iload hx hb dX11_termOf_153 (lv_at hl 5 rfl) ?_
        refine lv_iload hx hb dX11_termOf_155 (lv_at hl 6 rfl) ?_
        obtain ⟨hn_18, hf⟩ := z_c_e hf
        refine lv_idiv hx hb dX11_termOf_157 (z_ne0 hn_18) ?_
        exact w11_termOf_158 X hr hlk N hk5 x3 x4 (x3 - (1 : Int32)) (x6 / x7) σ _ _ _ hf hR (lv_sub hl [0, 1, 2, 3] rfl)
      · replace hf := z_t c_14 hf
        refine lv_iload hx hb dX11_termOf_145 (lv_at hl 5 rfl) ?_
        refine lv_iload hx hb dX11_termOf_147 (lv_at hl 6 rfl) ?_
        refine lv_imul hx hb dX11_termOf_149 ?_
        refine lv_goto (tgt := 158) hx hb dX11_termOf_150 (by decide) ?_
        exact w11_termOf_158 X hr hlk N hk5 x3 x4 (x3 - (1 : Int32)) (x6 * x7) σ _ _ _ hf hR (lv_sub hl [0, 1, 2, 3] rfl)
    · replace hf := z_t c_13 hf
      refine lv_iload hx hb dX11_termOf_131 (lv_at hl 5 rfl) ?_
      refine lv_iload hx hb dX11_termOf_133 (lv_at hl 6 rfl) ?_
      refine lv_isub hx hb dX11_termOf_135 ?_
      refine lv_goto (tgt := 158) hx hb dX11_termOf_136 (by decide) ?_
      exact w11_termOf_158 X hr hlk N hk5 x3 x4 (x3 - (1 : Int32)) (x6 - x7) σ _ _ _ hf hR (lv_sub hl [0, 1, 2, 3] rfl)
  · replace hf := z_t c_12 hf
    refine lv_iload hx hb dX11_termOf_117 (lv_at hl 5 rfl) ?_
    refine lv_iload hx hb dX11_termOf_119 (lv_at hl 6 rfl) ?_
    refine lv_iadd hx hb dX11_termOf_121 ?_
    refine lv_goto (tgt := 158) hx hb dX11_termOf_122 (by decide) ?_
    exact w11_termOf_158 X hr hlk N hk5 x3 x4 (x3 - (1 : Int32)) (x6 + x7) σ _ _ _ hf hR (lv_sub hl [0, 1, 2, 3] rfl)
set_option maxHeartbeats 4000000 in
set_option maxRecDepth 100000 in
theorem w11_termOf_97 (X : Cx p s m args c cX11_termOf 8 RX11 G) (hr : meth.sig.returnType = some .int) (hlk : meth.locks = false) (N : Nat) :
    ∀ (σ : Mm) (H : Heap) (locs : List Loc) (ls : Array Slot), f11_termOf_97 N σ = some (r0, σ0) → Rp G 212 tt σ s H locs → lv_has ls 8 [(0, .ref (G.2.2 + 160))] → W p l e rm11_termOf s m args below meth c H locs 0 0 (MQ below (P_i G 212 tt r0 σ0) args s 0 0 (Fr G)) (F0 m 97 ls []) := by
  have hx := X.1
  have hb := X.2.1
  intro σ H locs ls hf hR hl
  unfold f11_termOf_97 at hf
  refine lv_aload_n hx hb dX11_termOf_97 rfl (lv_at hl 0 rfl) ?_
  refine lv_iconst (v := (1 : Int32)) hx hb dX11_termOf_98 (by decide) ?_
  refine r_pz X hR pz_11_336 kh_160 rfl dX11_termOf_99 (fun H locs σ_20 eσ_20 hR => ?_)
  replace hf := z_l_e eσ_20 hf
  refine lv_iconst (v := (0 : Int32)) hx hb dX11_termOf_102 (by decide) ?_
  exact e_i X hR hr hlk hf dX11_termOf_103
set_option maxHeartbeats 4000000 in
set_option maxRecDepth 100000 in
theorem w11_termOf_58 (X : Cx p s m args c cX11_termOf 8 RX11 G) (hr : meth.sig.returnType = some .int) (hlk : meth.locks = false) (N : Nat) {x2 : Int32} {k5 : Int32 → Int32 → Mm → Option (Int32 × Mm)} (hk5 : ∀ (x3 : Int32) (x4 : Int32) (σ : Mm) (H : Heap) (locs : List Loc) (ls : Array Slot), k5 x3 x4 σ = some (r0, σ0) → Rp G 212 tt σ s H locs → lv_has ls 8 [(0, .ref (G.2.2 + 160)), (2, .int x2), (3, .int x3), (4, .int x4)] → W p l e rm11_termOf s m args below meth c H locs 0 0 (MQ below (P_i G 212 tt r0 σ0) args s 0 0 (Fr G)) (F0 m 5 ls [])) :
    ∀ (x3 : Int32) (x4 : Int32) (s1 : Int32) (s2 : Int32) (σ : Mm) (H : Heap) (locs : List Loc) (ls : Array Slot), f11_termOf_58 N k5 x2 x3 x4 s1 s2 σ = some (r0, σ0) → Rp G 212 tt σ s H locs → lv_has ls 8 [(0, .ref (G.2.2 + 160)), (2, .int x2), (3, .int x3), (4, .int x4)] → W p l e rm11_termOf s m args below meth c H locs 0 0 (MQ below (P_i G 212 tt r0 σ0) args s 0 0 (Fr G)) (F0 m 58 ls [.int s2, .int s1, .ref (G.2.2 + 197)]) := by
  have hx := X.1
  have hb := X.2.1
  intro x3 x4 s1 s2 σ H locs ls hf hR hl
  unfold f11_termOf_58 at hf
  obtain ⟨hi_24, hf⟩ := z_c_e hf
  refine r_ias X hR ka_197 hi_24 dX11_termOf_58 (fun H locs σ_25 eσ_25 hR => ?_)
  replace hf := z_l_e eσ_25 hf
  obtain ⟨x3_26, ex3_26⟩ : ∃ z : Int32, z = x3 + (1 : Int32) := ⟨_, rfl⟩
  replace hf := z_l_e ex3_26 hf
  refine lv_iinc (v := x3_26) (lv' := [(3, .int x3_26), (0, .ref (G.2.2 + 160)), (2, .int x2), (4, .int x4)]) hx hb dX11_termOf_59 hl (k := 2) rfl (by rw [ex3_26]; rfl) (by decide) rfl (fun ls hl => ?_)
  refine lv_goto (tgt := 159) hx hb dX11_termOf_62 (by decide) ?_
  exact w11_termOf_159 X hr hlk N hk5 x3_26 x4 σ_25 _ _ _ hf hR (lv_sub hl [1, 2, 0, 3] rfl)
set_option maxHeartbeats 4000000 in
set_option maxRecDepth 100000 in
theorem w11_termOf_5 (X : Cx p s m args c cX11_termOf 8 RX11 G) (hr : meth.sig.returnType = some .int) (hlk : meth.locks = false) (N : Nat) {x2 : Int32} :
    ∀ (fu : Nat) (x3 : Int32) (x4 : Int32) (σ : Mm) (H : Heap) (locs : List Loc) (ls : Array Slot), f11_termOf_5 N x2 fu x3 x4 σ = some (r0, σ0) → Rp G 212 tt σ s H locs → lv_has ls 8 [(0, .ref (G.2.2 + 160)), (2, .int x2), (3, .int x3), (4, .int x4)] → W p l e rm11_termOf s m args below meth c H locs 0 0 (MQ below (P_i G 212 tt r0 σ0) args s 0 0 (Fr G)) (F0 m 5 ls []) := by
  have hx := X.1
  have hb := X.2.1
  intro fu
  induction fu with
  | zero =>
    intro x3 x4 σ H locs ls hf hR hl
    rw [f11_termOf_5] at hf
    cases hf
  | succ fu ih =>
    intro x3 x4 σ H locs ls hf hR hl
    rw [f11_termOf_5] at hf
    refine lv_iload hx hb dX11_termOf_5 (lv_at hl 3 rfl) ?_
    refine lv_iload_n hx hb dX11_termOf_7 rfl (lv_at hl 1 rfl) ?_
    refine lv_icmp_ge (tgt := 165) hx hb dX11_termOf_8 (by decide) (fun c_1 => ?_) (fun c_1 => ?_)
    · replace hf := z_t c_1 hf
      refine lv_aload_n hx hb dX11_termOf_165 rfl (lv_at hl 0 rfl) ?_
      refine r_gs (t := 197) X hR fr_11_128 kh_160 (sx_11_53 kh_160) dX11_termOf_166 ?_
      refine lv_iconst (v := (0 : Int32)) hx hb dX11_termOf_169 (by decide) ?_
      obtain ⟨hi_2, hf⟩ := z_c_e hf
      refine r_ial X hR ka_197 hi_2 dX11_termOf_170 ?_
      exact e_i X hR hr hlk hf dX11_termOf_171
    · replace hf := z_f c_1 hf
      refine lv_aload_n hx hb dX11_termOf_11 rfl (lv_at hl 0 rfl) ?_
      refine r_gs (t := 193) X hR fr_11_116 kh_160 (sx_11_48 kh_160) dX11_termOf_12 ?_
      refine lv_iload hx hb dX11_termOf_15 (lv_at hl 3 rfl) ?_
      obtain ⟨hi_3, hf⟩ := z_c_e hf
      refine r_ial X hR ka_193 hi_3 dX11_termOf_17 ?_
      refine lv_topi (fun x5_4 ex5_4 => ?_)
      replace hf := z_l_e ex5_4 hf
      refine lv_istore (lv' := [(5, .int x5_4), (0, .ref (G.2.2 + 160)), (2, .int x2), (3, .int x3), (4, .int x4)]) hx hb dX11_termOf_18 hl (by decide) rfl (fun ls hl => ?_)
      refine lv_iload hx hb dX11_termOf_20 (lv_at hl 0 rfl) ?_
      refine lv_iconst (v := (2 : Int32)) hx hb dX11_termOf_22 (by decide) ?_
      refine lv_icmp_ge (tgt := 65) hx hb dX11_termOf_23 (by decide) (fun c_5 => ?_) (fun c_5 => ?_)
      · replace hf := z_t c_5 hf
        obtain ⟨x3_6, ex3_6⟩ : ∃ z : Int32, z = x3 + (-1 : Int32) := ⟨_, rfl⟩
        replace hf := z_l_e ex3_6 hf
        refine lv_iinc (v := x3_6) (lv' := [(3, .int x3_6), (5, .int x5_4), (0, .ref (G.2.2 + 160)), (2, .int x2), (4, .int x4)]) hx hb dX11_termOf_65 hl (k := 3) rfl (by rw [ex3_6]; rfl) (by decide) rfl (fun ls hl => ?_)
        refine lv_aload_n hx hb dX11_termOf_68 rfl (lv_at hl 2 rfl) ?_
        refine r_gs (t := 197) X hR fr_11_128 kh_160 (sx_11_53 kh_160) dX11_termOf_69 ?_
        refine lv_iload_n hx hb dX11_termOf_72 rfl (lv_at hl 0 rfl) ?_
        refine lv_iconst (v := (1 : Int32)) hx hb dX11_termOf_73 (by decide) ?_
        refine lv_isub hx hb dX11_termOf_74 ?_
        obtain ⟨hi_7, hf⟩ := z_c_e hf
        refine r_ial X hR ka_197 hi_7 dX11_termOf_75 ?_
        refine lv_topi (fun x6_8 ex6_8 => ?_)
        replace hf := z_l_e ex6_8 hf
        refine lv_istore (lv' := [(6, .int x6_8), (3, .int x3_6), (5, .int x5_4), (0, .ref (G.2.2 + 160)), (2, .int x2), (4, .int x4)]) hx hb dX11_termOf_76 hl (by decide) rfl (fun ls hl => ?_)
        refine lv_aload_n hx hb dX11_termOf_78 rfl (lv_at hl 3 rfl) ?_
        refine r_gs (t := 197) X hR fr_11_128 kh_160 (sx_11_53 kh_160) dX11_termOf_79 ?_
        refine lv_iload_n hx hb dX11_termOf_82 rfl (lv_at hl 1 rfl) ?_
        obtain ⟨hi_9, hf⟩ := z_c_e hf
        refine r_ial X hR ka_197 hi_9 dX11_termOf_83 ?_
        refine lv_topi (fun x7_10 ex7_10 => ?_)
        replace hf := z_l_e ex7_10 hf
        refine lv_istore (lv' := [(7, .int x7_10), (6, .int x6_8), (3, .int x3_6), (5, .int x5_4), (0, .ref (G.2.2 + 160)), (2, .int x2), (4, .int x4)]) hx hb dX11_termOf_84 hl (by decide) rfl (fun ls hl => ?_)
        refine lv_iload hx hb dX11_termOf_86 (lv_at hl 3 rfl) ?_
        refine lv_iconst (v := (5 : Int32)) hx hb dX11_termOf_88 (by decide) ?_
        refine lv_icmp_ne (tgt := 104) hx hb dX11_termOf_89 (by decide) (fun c_11 => ?_) (fun c_11 => ?_)
        · replace hf := z_f c_11 hf
          exact w11_termOf_104 X hr hlk N ih x3_6 x4 x5_4 x6_8 x7_10 σ _ _ _ hf hR (lv_sub hl [4, 5, 2, 6, 3, 1, 0] rfl)
        · replace hf := z_t c_11 hf
          refine lv_iload hx hb dX11_termOf_92 (lv_at hl 0 rfl) ?_
          refine lv_if_ne (tgt := 104) hx hb dX11_termOf_94 (by decide) (fun c_19 => ?_) (fun c_19 => ?_)
          · replace hf := z_f c_19 hf
            exact w11_termOf_104 X hr hlk N ih x3_6 x4 x5_4 x6_8 x7_10 σ _ _ _ hf hR (lv_sub hl [4, 5, 2, 6, 3, 1, 0] rfl)
          · replace hf := z_t c_19 hf
            exact w11_termOf_97 X hr hlk N   σ _ _ _ hf hR (lv_sub hl [4] rfl)
      · replace hf := z_f c_5 hf
        refine lv_aload_n hx hb dX11_termOf_26 rfl (lv_at hl 1 rfl) ?_
        refine r_gs (t := 197) X hR fr_11_128 kh_160 (sx_11_53 kh_160) dX11_termOf_27 ?_
        refine lv_iload_n hx hb dX11_termOf_30 rfl (lv_at hl 3 rfl) ?_
        refine lv_iload hx hb dX11_termOf_31 (lv_at hl 0 rfl) ?_
        refine lv_if_ne (tgt := 46) hx hb dX11_termOf_33 (by decide) (fun c_21 => ?_) (fun c_21 => ?_)
        · replace hf := z_f c_21 hf
          refine lv_aload_n hx hb dX11_termOf_46 rfl (lv_at hl 1 rfl) ?_
          refine r_gs (t := 196) X hR fr_11_125 kh_160 (sx_11_52 kh_160) dX11_termOf_47 ?_
          refine lv_aload_n hx hb dX11_termOf_50 rfl (lv_at hl 1 rfl) ?_
          refine r_gs (t := 194) X hR fr_11_119 kh_160 (sx_11_49 kh_160) dX11_termOf_51 ?_
          refine lv_iload hx hb dX11_termOf_54 (lv_at hl 4 rfl) ?_
          obtain ⟨hi_22, hf⟩ := z_c_e hf
          refine r_ial X hR ka_194 hi_22 dX11_termOf_56 ?_
          obtain ⟨hi_23, hf⟩ := z_c_e hf
          refine r_ial X hR ka_196 hi_23 dX11_termOf_57 ?_
          exact w11_termOf_58 X hr hlk N ih x3 x4 x3 (gI σ 196 (ix (gI σ 194 (ix x4)))) σ _ _ _ hf hR (lv_sub hl [1, 2, 3, 4] rfl)
        · replace hf := z_t c_21 hf
          refine lv_aload_n hx hb dX11_termOf_36 rfl (lv_at hl 1 rfl) ?_
          refine r_gs (t := 194) X hR fr_11_119 kh_160 (sx_11_49 kh_160) dX11_termOf_37 ?_
          refine lv_iload hx hb dX11_termOf_40 (lv_at hl 4 rfl) ?_
          obtain ⟨hi_27, hf⟩ := z_c_e hf
          refine r_ial X hR ka_194 hi_27 dX11_termOf_42 ?_
          refine lv_goto (tgt := 58) hx hb dX11_termOf_43 (by decide) ?_
          exact w11_termOf_58 X hr hlk N ih x3 x4 x3 (gI σ 194 (ix x4)) σ _ _ _ hf hR (lv_sub hl [1, 2, 3, 4] rfl)
set_option maxHeartbeats 4000000 in
set_option maxRecDepth 100000 in
theorem c11_termOf (l : Launch) (G : Gp) (N : Nat) {x1 : Int32} {x2 : Int32} {σ σ0 : Mm} {r0 : Int32} (hf : f11_termOf N x1 x2 σ = some (r0, σ0)) : Met l yX11_termOf (WS yX11_termOf cX11_termOf 8 (some .int)) rm11_termOf (va_Pc [.ref (G.2.2 + 160), .int x1, .int x2] (Pd G 212 tt σ)) (P_i G 212 tt r0 σ0) 0 0 (Fr G) := by
  refine ct [(0, .ref (G.2.2 + 160)), (1, .int x1), (2, .int x2)] rfl (by decide) (Nat.le_of_ble_eq_true rfl) ?_
  intro p e s m below meth c ls X hr hlk hR hl
  have X : Cx p s m _ c cX11_termOf 8 RX11 G := X
  have hx := X.1
  have hb := X.2.1
  unfold f11_termOf at hf
  refine lv_iconst (v := (0 : Int32)) hx hb dX11_termOf_0 (by decide) ?_
  refine lv_istore_n (lv' := [(3, .int (0 : Int32)), (0, .ref (G.2.2 + 160)), (1, .int x1), (2, .int x2)]) hx hb dX11_termOf_1 rfl hl (by decide) rfl (fun ls hl => ?_)
  refine lv_iload_n hx hb dX11_termOf_2 rfl (lv_at hl 2 rfl) ?_
  refine lv_istore (lv' := [(4, .int x1), (3, .int (0 : Int32)), (0, .ref (G.2.2 + 160)), (1, .int x1), (2, .int x2)]) hx hb dX11_termOf_3 hl (by decide) rfl (fun ls hl => ?_)
  exact w11_termOf_5 X hr hlk N  N (0 : Int32) x1 σ _ _ _ hf hR (lv_sub hl [2, 4, 1, 0] rfl)
abbrev rm11_in : Room := { frames := 0, cells := 0, slots := 0, locals := 0 }
def f11_in (N : Nat) (x0 : Int32) (x1 : Int32) (x2 : Int32) (σ : Mm) : Option (Int32 × Mm) :=
  if x0 < x1 then (
  some ((0 : Int32), σ)) else (
  if x2 < x0 then (
  some ((0 : Int32), σ)) else (
  some ((1 : Int32), σ)))
set_option maxHeartbeats 4000000 in
set_option maxRecDepth 100000 in
theorem c11_in (l : Launch) (G : Gp) (N : Nat) {x0 : Int32} {x1 : Int32} {x2 : Int32} {σ σ0 : Mm} {r0 : Int32} (hf : f11_in N x0 x1 x2 σ = some (r0, σ0)) : Met l yX11_in (WS yX11_in cX11_in 3 (some .boolean)) rm11_in (va_Pc [.int x0, .int x1, .int x2] (Pd G 212 tt σ)) (P_i G 212 tt r0 σ0) 0 0 (Fr G) := by
  refine ct [(0, .int x0), (1, .int x1), (2, .int x2)] rfl (by decide) (Nat.le_of_ble_eq_true rfl) ?_
  intro p e s m below meth c ls X hr hlk hR hl
  have X : Cx p s m _ c cX11_in 3 RX11 G := X
  have hx := X.1
  have hb := X.2.1
  unfold f11_in at hf
  refine lv_iload_n hx hb dX11_in_0 rfl (lv_at hl 0 rfl) ?_
  refine lv_iload_n hx hb dX11_in_1 rfl (lv_at hl 1 rfl) ?_
  refine lv_icmp_lt (tgt := 14) hx hb dX11_in_2 (by decide) (fun c_1 => ?_) (fun c_1 => ?_)
  · replace hf := z_t c_1 hf
    refine lv_iconst (v := (0 : Int32)) hx hb dX11_in_14 (by decide) ?_
    exact e_z X hR hr hlk rfl hf dX11_in_15
  · replace hf := z_f c_1 hf
    refine lv_iload_n hx hb dX11_in_5 rfl (lv_at hl 0 rfl) ?_
    refine lv_iload_n hx hb dX11_in_6 rfl (lv_at hl 2 rfl) ?_
    refine lv_icmp_gt (tgt := 14) hx hb dX11_in_7 (by decide) (fun c_2 => ?_) (fun c_2 => ?_)
    · replace hf := z_t c_2 hf
      refine lv_iconst (v := (0 : Int32)) hx hb dX11_in_14 (by decide) ?_
      exact e_z X hR hr hlk rfl hf dX11_in_15
    · replace hf := z_f c_2 hf
      refine lv_iconst (v := (1 : Int32)) hx hb dX11_in_10 (by decide) ?_
      refine lv_goto (tgt := 15) hx hb dX11_in_11 (by decide) ?_
      exact e_z X hR hr hlk rfl hf dX11_in_15
abbrev rm11_held : Room := { frames := 0, cells := 0, slots := 0, locals := 0 }
def f11_held (N : Nat) (x0 : Int32) (x1 : Int32) (x2 : Int32) (σ : Mm) : Option (Int32 × Mm) :=
  if x1 ≤ x0 then (
  if x0 ≤ x2 then (
  some (x0, σ)) else (
  some (x2, σ))) else (
  some (x1, σ))
set_option maxHeartbeats 4000000 in
set_option maxRecDepth 100000 in
theorem c11_held (l : Launch) (G : Gp) (N : Nat) {x0 : Int32} {x1 : Int32} {x2 : Int32} {σ σ0 : Mm} {r0 : Int32} (hf : f11_held N x0 x1 x2 σ = some (r0, σ0)) : Met l yX11_held (WS yX11_held cX11_held 3 (some .int)) rm11_held (va_Pc [.int x0, .int x1, .int x2] (Pd G 212 tt σ)) (P_i G 212 tt r0 σ0) 0 0 (Fr G) := by
  refine ct [(0, .int x0), (1, .int x1), (2, .int x2)] rfl (by decide) (Nat.le_of_ble_eq_true rfl) ?_
  intro p e s m below meth c ls X hr hlk hR hl
  have X : Cx p s m _ c cX11_held 3 RX11 G := X
  have hx := X.1
  have hb := X.2.1
  unfold f11_held at hf
  refine lv_iload_n hx hb dX11_held_0 rfl (lv_at hl 0 rfl) ?_
  refine lv_iload_n hx hb dX11_held_1 rfl (lv_at hl 1 rfl) ?_
  refine lv_icmp_ge (tgt := 9) hx hb dX11_held_2 (by decide) (fun c_1 => ?_) (fun c_1 => ?_)
  · replace hf := z_t c_1 hf
    refine lv_iload_n hx hb dX11_held_9 rfl (lv_at hl 0 rfl) ?_
    refine lv_iload_n hx hb dX11_held_10 rfl (lv_at hl 2 rfl) ?_
    refine lv_icmp_le (tgt := 18) hx hb dX11_held_11 (by decide) (fun c_2 => ?_) (fun c_2 => ?_)
    · replace hf := z_t c_2 hf
      refine lv_iload_n hx hb dX11_held_18 rfl (lv_at hl 0 rfl) ?_
      exact e_i X hR hr hlk hf dX11_held_19
    · replace hf := z_f c_2 hf
      refine lv_iload_n hx hb dX11_held_14 rfl (lv_at hl 2 rfl) ?_
      refine lv_goto (tgt := 19) hx hb dX11_held_15 (by decide) ?_
      exact e_i X hR hr hlk hf dX11_held_19
  · replace hf := z_f c_1 hf
    refine lv_iload_n hx hb dX11_held_5 rfl (lv_at hl 1 rfl) ?_
    refine lv_goto (tgt := 19) hx hb dX11_held_6 (by decide) ?_
    exact e_i X hR hr hlk hf dX11_held_19
abbrev rm11_bits : Room := { frames := 0, cells := 0, slots := 0, locals := 0 }
def f11_bits_4 (N : Nat) (x0 : Int32) : Nat → Int32 → Int32 → Mm → Option (Int32 × Mm)
  | 0, _, _, _ => none
  | fu + 1, x1, x2, σ => if (20 : Int32) ≤ x2 then (
  some (x1, σ)) else (
  z_l ((x1 + ((x0 >>> (x2 &&& 31)) &&& (1 : Int32)))) fun x1_2 =>
  z_l (x2 + (1 : Int32)) fun x2_3 =>
  f11_bits_4 N x0 fu x1_2 x2_3 σ)
def f11_bits (N : Nat) (x0 : Int32) (σ : Mm) : Option (Int32 × Mm) :=
  f11_bits_4 N x0 N (0 : Int32) (0 : Int32) σ
set_option maxHeartbeats 4000000 in
set_option maxRecDepth 100000 in
theorem w11_bits_4 (X : Cx p s m args c cX11_bits 3 RX11 G) (hr : meth.sig.returnType = some .int) (hlk : meth.locks = false) (N : Nat) {x0 : Int32} :
    ∀ (fu : Nat) (x1 : Int32) (x2 : Int32) (σ : Mm) (H : Heap) (locs : List Loc) (ls : Array Slot), f11_bits_4 N x0 fu x1 x2 σ = some (r0, σ0) → Rp G 212 tt σ s H locs → lv_has ls 3 [(0, .int x0), (1, .int x1), (2, .int x2)] → W p l e rm11_bits s m args below meth c H locs 0 0 (MQ below (P_i G 212 tt r0 σ0) args s 0 0 (Fr G)) (F0 m 4 ls []) := by
  have hx := X.1
  have hb := X.2.1
  intro fu
  induction fu with
  | zero =>
    intro x1 x2 σ H locs ls hf hR hl
    rw [f11_bits_4] at hf
    cases hf
  | succ fu ih =>
    intro x1 x2 σ H locs ls hf hR hl
    rw [f11_bits_4] at hf
    refine lv_iload_n hx hb dX11_bits_4 rfl (lv_at hl 2 rfl) ?_
    refine lv_bipush (v := (20 : Int32)) hx hb dX11_bits_5 (by decide) ?_
    refine lv_icmp_ge (tgt := 24) hx hb dX11_bits_7 (by decide) (fun c_1 => ?_) (fun c_1 => ?_)
    · replace hf := z_t c_1 hf
      refine lv_iload_n hx hb dX11_bits_24 rfl (lv_at hl 1 rfl) ?_
      exact e_i X hR hr hlk hf dX11_bits_25
    · replace hf := z_f c_1 hf
      refine lv_iload_n hx hb dX11_bits_10 rfl (lv_at hl 1 rfl) ?_
      refine lv_iload_n hx hb dX11_bits_11 rfl (lv_at hl 0 rfl) ?_
      refine lv_iload_n hx hb dX11_bits_12 rfl (lv_at hl 2 rfl) ?_
      refine lv_ishr hx hb dX11_bits_13 ?_
      refine lv_iconst (v := (1 : Int32)) hx hb dX11_bits_14 (by decide) ?_
      refine lv_iand hx hb dX11_bits_15 ?_
      refine lv_iadd hx hb dX11_bits_16 ?_
      refine lv_topi (fun x1_2 ex1_2 => ?_)
      replace hf := z_l_e ex1_2 hf
      refine lv_istore_n (lv' := [(1, .int x1_2), (0, .int x0), (2, .int x2)]) hx hb dX11_bits_17 rfl hl (by decide) rfl (fun ls hl => ?_)
      obtain ⟨x2_3, ex2_3⟩ : ∃ z : Int32, z = x2 + (1 : Int32) := ⟨_, rfl⟩
      replace hf := z_l_e ex2_3 hf
      refine lv_iinc (v := x2_3) (lv' := [(2, .int x2_3), (1, .int x1_2), (0, .int x0)]) hx hb dX11_bits_18 hl (k := 2) rfl (by rw [ex2_3]; rfl) (by decide) rfl (fun ls hl => ?_)
      refine lv_goto (tgt := 4) hx hb dX11_bits_21 (by decide) ?_
      exact ih x1_2 x2_3 σ _ _ _ hf hR (lv_sub hl [2, 1, 0] rfl)
set_option maxHeartbeats 4000000 in
set_option maxRecDepth 100000 in
theorem c11_bits (l : Launch) (G : Gp) (N : Nat) {x0 : Int32} {σ σ0 : Mm} {r0 : Int32} (hf : f11_bits N x0 σ = some (r0, σ0)) : Met l yX11_bits (WS yX11_bits cX11_bits 3 (some .int)) rm11_bits (va_Pc [.int x0] (Pd G 212 tt σ)) (P_i G 212 tt r0 σ0) 0 0 (Fr G) := by
  refine ct [(0, .int x0)] rfl (by decide) (Nat.le_of_ble_eq_true rfl) ?_
  intro p e s m below meth c ls X hr hlk hR hl
  have X : Cx p s m _ c cX11_bits 3 RX11 G := X
  have hx := X.1
  have hb := X.2.1
  unfold f11_bits at hf
  refine lv_iconst (v := (0 : Int32)) hx hb dX11_bits_0 (by decide) ?_
  refine lv_istore_n (lv' := [(1, .int (0 : Int32)), (0, .int x0)]) hx hb dX11_bits_1 rfl hl (by decide) rfl (fun ls hl => ?_)
  refine lv_iconst (v := (0 : Int32)) hx hb dX11_bits_2 (by decide) ?_
  refine lv_istore_n (lv' := [(2, .int (0 : Int32)), (1, .int (0 : Int32)), (0, .int x0)]) hx hb dX11_bits_3 rfl hl (by decide) rfl (fun ls hl => ?_)
  exact w11_bits_4 X hr hlk N  N (0 : Int32) (0 : Int32) σ _ _ _ hf hR (lv_sub hl [2, 1, 0] rfl)
abbrev rm11_isPerson : Room := { frames := 1, cells := 0, slots := 0, locals := 22 }
def f11_isPerson (N : Nat) (x1 : Int32) (σ : Mm) : Option (Int32 × Mm) :=
  z_c (inB (gI σ 160 18) 2) (
  z_b (f11_in N x1 (0 : Int32) ((gI σ 170 (ix (gI σ 160 18))) - (1 : Int32)) σ) fun r_2 σ_3 =>
  z_c (isZ r_2) (some (r_2, σ_3)))
set_option maxHeartbeats 4000000 in
set_option maxRecDepth 100000 in
theorem c11_isPerson (l : Launch) (G : Gp) (N : Nat) {x1 : Int32} {σ σ0 : Mm} {r0 : Int32} (hf : f11_isPerson N x1 σ = some (r0, σ0)) : Met l yX11_isPerson (WS yX11_isPerson cX11_isPerson 2 (some .boolean)) rm11_isPerson (va_Pc [.ref (G.2.2 + 160), .int x1] (Pd G 212 tt σ)) (P_i G 212 tt r0 σ0) 0 0 (Fr G) := by
  refine ct [(0, .ref (G.2.2 + 160)), (1, .int x1)] rfl (by decide) (Nat.le_of_ble_eq_true rfl) ?_
  intro p e s m below meth c ls X hr hlk hR hl
  have X : Cx p s m _ c cX11_isPerson 2 RX11 G := X
  have hx := X.1
  have hb := X.2.1
  unfold f11_isPerson at hf
  refine lv_iload_n hx hb dX11_isPerson_0 rfl (lv_at hl 1 rfl) ?_
  refine lv_iconst (v := (0 : Int32)) hx hb dX11_isPerson_1 (by decide) ?_
  refine lv_aload_n hx hb dX11_isPerson_2 rfl (lv_at hl 0 rfl) ?_
  refine r_gs (t := 170) X hR fr_11_46 kh_160 (sx_11_23 kh_160) dX11_isPerson_3 ?_
  refine lv_aload_n hx hb dX11_isPerson_6 rfl (lv_at hl 0 rfl) ?_
  refine r_gi X hR fi_11_254 kh_160 dX11_isPerson_7 ?_
  obtain ⟨hi_1, hf⟩ := z_c_e hf
  refine r_ial X hR ka_170 hi_1 dX11_isPerson_10 ?_
  refine lv_iconst (v := (1 : Int32)) hx hb dX11_isPerson_11 (by decide) ?_
  refine lv_isub hx hb dX11_isPerson_12 ?_
  obtain ⟨r_2, σ_3, hc_4, hf⟩ := z_b_e hf
  refine go_i hR (ms_run (As := [.int x1, .int (0 : Int32), .int ((gI σ 170 (ix (gI σ 160 18))) - (1 : Int32))]) (rest := []) X hR ms_11_340 (c11_in l G N hc_4) ⟨rfl, rfl, Nat.le_of_ble_eq_true rfl, Nat.le_of_ble_eq_true rfl⟩ rfl hl.1 rfl (Nat.le_of_ble_eq_true rfl) dX11_isPerson_13 ⟨Nat.zero_le _, Nat.zero_le _⟩) (fun H locs hR => ?_)
  obtain ⟨hz_5, hf⟩ := z_c_e hf
  exact e_z X hR hr hlk hz_5 hf dX11_isPerson_16
abbrev rm11_isPlot : Room := { frames := 1, cells := 0, slots := 0, locals := 22 }
def f11_isPlot (N : Nat) (x1 : Int32) (σ : Mm) : Option (Int32 × Mm) :=
  z_c (inB (gI σ 160 18) 2) (
  z_b (f11_in N x1 (0 : Int32) ((gI σ 171 (ix (gI σ 160 18))) - (1 : Int32)) σ) fun r_2 σ_3 =>
  z_c (isZ r_2) (some (r_2, σ_3)))
set_option maxHeartbeats 4000000 in
set_option maxRecDepth 100000 in
theorem c11_isPlot (l : Launch) (G : Gp) (N : Nat) {x1 : Int32} {σ σ0 : Mm} {r0 : Int32} (hf : f11_isPlot N x1 σ = some (r0, σ0)) : Met l yX11_isPlot (WS yX11_isPlot cX11_isPlot 2 (some .boolean)) rm11_isPlot (va_Pc [.ref (G.2.2 + 160), .int x1] (Pd G 212 tt σ)) (P_i G 212 tt r0 σ0) 0 0 (Fr G) := by
  refine ct [(0, .ref (G.2.2 + 160)), (1, .int x1)] rfl (by decide) (Nat.le_of_ble_eq_true rfl) ?_
  intro p e s m below meth c ls X hr hlk hR hl
  have X : Cx p s m _ c cX11_isPlot 2 RX11 G := X
  have hx := X.1
  have hb := X.2.1
  unfold f11_isPlot at hf
  refine lv_iload_n hx hb dX11_isPlot_0 rfl (lv_at hl 1 rfl) ?_
  refine lv_iconst (v := (0 : Int32)) hx hb dX11_isPlot_1 (by decide) ?_
  refine lv_aload_n hx hb dX11_isPlot_2 rfl (lv_at hl 0 rfl) ?_
  refine r_gs (t := 171) X hR fr_11_49 kh_160 (sx_11_24 kh_160) dX11_isPlot_3 ?_
  refine lv_aload_n hx hb dX11_isPlot_6 rfl (lv_at hl 0 rfl) ?_
  refine r_gi X hR fi_11_254 kh_160 dX11_isPlot_7 ?_
  obtain ⟨hi_1, hf⟩ := z_c_e hf
  refine r_ial X hR ka_171 hi_1 dX11_isPlot_10 ?_
  refine lv_iconst (v := (1 : Int32)) hx hb dX11_isPlot_11 (by decide) ?_
  refine lv_isub hx hb dX11_isPlot_12 ?_
  obtain ⟨r_2, σ_3, hc_4, hf⟩ := z_b_e hf
  refine go_i hR (ms_run (As := [.int x1, .int (0 : Int32), .int ((gI σ 171 (ix (gI σ 160 18))) - (1 : Int32))]) (rest := []) X hR ms_11_340 (c11_in l G N hc_4) ⟨rfl, rfl, Nat.le_of_ble_eq_true rfl, Nat.le_of_ble_eq_true rfl⟩ rfl hl.1 rfl (Nat.le_of_ble_eq_true rfl) dX11_isPlot_13 ⟨Nat.zero_le _, Nat.zero_le _⟩) (fun H locs hR => ?_)
  obtain ⟨hz_5, hf⟩ := z_c_e hf
  exact e_z X hR hr hlk hz_5 hf dX11_isPlot_16
abbrev rm11_isWitness : Room := { frames := 1, cells := 0, slots := 0, locals := 22 }
def f11_isWitness (N : Nat) (x1 : Int32) (σ : Mm) : Option (Int32 × Mm) :=
  z_c (inB (gI σ 160 18) 2) (
  z_b (f11_in N x1 (0 : Int32) ((gI σ 175 (ix (gI σ 160 18))) - (1 : Int32)) σ) fun r_2 σ_3 =>
  z_c (isZ r_2) (some (r_2, σ_3)))
set_option maxHeartbeats 4000000 in
set_option maxRecDepth 100000 in
theorem c11_isWitness (l : Launch) (G : Gp) (N : Nat) {x1 : Int32} {σ σ0 : Mm} {r0 : Int32} (hf : f11_isWitness N x1 σ = some (r0, σ0)) : Met l yX11_isWitness (WS yX11_isWitness cX11_isWitness 2 (some .boolean)) rm11_isWitness (va_Pc [.ref (G.2.2 + 160), .int x1] (Pd G 212 tt σ)) (P_i G 212 tt r0 σ0) 0 0 (Fr G) := by
  refine ct [(0, .ref (G.2.2 + 160)), (1, .int x1)] rfl (by decide) (Nat.le_of_ble_eq_true rfl) ?_
  intro p e s m below meth c ls X hr hlk hR hl
  have X : Cx p s m _ c cX11_isWitness 2 RX11 G := X
  have hx := X.1
  have hb := X.2.1
  unfold f11_isWitness at hf
  refine lv_iload_n hx hb dX11_isWitness_0 rfl (lv_at hl 1 rfl) ?_
  refine lv_iconst (v := (0 : Int32)) hx hb dX11_isWitness_1 (by decide) ?_
  refine lv_aload_n hx hb dX11_isWitness_2 rfl (lv_at hl 0 rfl) ?_
  refine r_gs (t := 175) X hR fr_11_61 kh_160 (sx_11_28 kh_160) dX11_isWitness_3 ?_
  refine lv_aload_n hx hb dX11_isWitness_6 rfl (lv_at hl 0 rfl) ?_
  refine r_gi X hR fi_11_254 kh_160 dX11_isWitness_7 ?_
  obtain ⟨hi_1, hf⟩ := z_c_e hf
  refine r_ial X hR ka_175 hi_1 dX11_isWitness_10 ?_
  refine lv_iconst (v := (1 : Int32)) hx hb dX11_isWitness_11 (by decide) ?_
  refine lv_isub hx hb dX11_isWitness_12 ?_
  obtain ⟨r_2, σ_3, hc_4, hf⟩ := z_b_e hf
  refine go_i hR (ms_run (As := [.int x1, .int (0 : Int32), .int ((gI σ 175 (ix (gI σ 160 18))) - (1 : Int32))]) (rest := []) X hR ms_11_340 (c11_in l G N hc_4) ⟨rfl, rfl, Nat.le_of_ble_eq_true rfl, Nat.le_of_ble_eq_true rfl⟩ rfl hl.1 rfl (Nat.le_of_ble_eq_true rfl) dX11_isWitness_13 ⟨Nat.zero_le _, Nat.zero_le _⟩) (fun H locs hR => ?_)
  obtain ⟨hz_5, hf⟩ := z_c_e hf
  exact e_z X hR hr hlk hz_5 hf dX11_isWitness_16
abbrev rm11_isGiving : Room := { frames := 1, cells := 0, slots := 0, locals := 22 }
def f11_isGiving (N : Nat) (x1 : Int32) (σ : Mm) : Option (Int32 × Mm) :=
  z_c (inB (15 : Int32) 117) (
  z_b (f11_in N x1 (0 : Int32) ((gI σ 198 (ix (15 : Int32))) - (1 : Int32)) σ) fun r_2 σ_3 =>
  z_c (isZ r_2) (some (r_2, σ_3)))
set_option maxHeartbeats 4000000 in
set_option maxRecDepth 100000 in
theorem c11_isGiving (l : Launch) (G : Gp) (N : Nat) {x1 : Int32} {σ σ0 : Mm} {r0 : Int32} (hf : f11_isGiving N x1 σ = some (r0, σ0)) : Met l yX11_isGiving (WS yX11_isGiving cX11_isGiving 2 (some .boolean)) rm11_isGiving (va_Pc [.ref (G.2.2 + 160), .int x1] (Pd G 212 tt σ)) (P_i G 212 tt r0 σ0) 0 0 (Fr G) := by
  refine ct [(0, .ref (G.2.2 + 160)), (1, .int x1)] rfl (by decide) (Nat.le_of_ble_eq_true rfl) ?_
  intro p e s m below meth c ls X hr hlk hR hl
  have X : Cx p s m _ c cX11_isGiving 2 RX11 G := X
  have hx := X.1
  have hb := X.2.1
  unfold f11_isGiving at hf
  refine lv_iload_n hx hb dX11_isGiving_0 rfl (lv_at hl 1 rfl) ?_
  refine lv_iconst (v := (0 : Int32)) hx hb dX11_isGiving_1 (by decide) ?_
  refine lv_aload_n hx hb dX11_isGiving_2 rfl (lv_at hl 0 rfl) ?_
  refine r_gs (t := 198) X hR fr_11_131 kh_160 (sx_11_55 kh_160) dX11_isGiving_3 ?_
  refine lv_bipush (v := (15 : Int32)) hx hb dX11_isGiving_6 (by decide) ?_
  obtain ⟨hi_1, hf⟩ := z_c_e hf
  refine r_ial X hR ka_198 hi_1 dX11_isGiving_8 ?_
  refine lv_iconst (v := (1 : Int32)) hx hb dX11_isGiving_9 (by decide) ?_
  refine lv_isub hx hb dX11_isGiving_10 ?_
  obtain ⟨r_2, σ_3, hc_4, hf⟩ := z_b_e hf
  refine go_i hR (ms_run (As := [.int x1, .int (0 : Int32), .int ((gI σ 198 (ix (15 : Int32))) - (1 : Int32))]) (rest := []) X hR ms_11_340 (c11_in l G N hc_4) ⟨rfl, rfl, Nat.le_of_ble_eq_true rfl, Nat.le_of_ble_eq_true rfl⟩ rfl hl.1 rfl (Nat.le_of_ble_eq_true rfl) dX11_isGiving_11 ⟨Nat.zero_le _, Nat.zero_le _⟩) (fun H locs hR => ?_)
  obtain ⟨hz_5, hf⟩ := z_c_e hf
  exact e_z X hR hr hlk hz_5 hf dX11_isGiving_14
abbrev rm11_copies : Room := { frames := 0, cells := 0, slots := 0, locals := 0 }
def f11_copies_26 (N : Nat) (σ : Mm) : Option (Unit × Mm) :=
  z_c (inB (gI σ 160 18) 2) (
  z_l (sI σ 160 57 (gI σ 185 (ix (gI σ 160 18)))) fun σ_3 =>
  z_l (sI σ_3 160 58 (0 : Int32)) fun σ_4 =>
  z_l (sI σ_4 160 59 (0 : Int32)) fun σ_5 =>
  some ((), σ_5))
def f11_copies_2 (N : Nat) : Nat → Int32 → Mm → Option (Unit × Mm)
  | 0, _, _ => none
  | fu + 1, x1, σ => if (117 : Int32) ≤ x1 then (
  f11_copies_26 N σ) else (
  z_c (inB x1 117) (
  z_c (inB x1 117) (z_l (sI σ 199 (ix x1) (gI σ 198 (ix x1))) fun σ_8 =>
  z_l (x1 + (1 : Int32)) fun x1_9 =>
  f11_copies_2 N fu x1_9 σ_8)))
def f11_copies (N : Nat) (σ : Mm) : Option (Unit × Mm) :=
  f11_copies_2 N N (0 : Int32) σ
set_option maxHeartbeats 4000000 in
set_option maxRecDepth 100000 in
theorem w11_copies_26 (X : Cx p s m args c cX11_copies 2 RX11 G) (hr : meth.sig.returnType = none) (hlk : meth.locks = false) (N : Nat) :
    ∀ (σ : Mm) (H : Heap) (locs : List Loc) (ls : Array Slot), f11_copies_26 N σ = some (u0, σ0) → Rp G 212 tt σ s H locs → lv_has ls 2 [(0, .ref (G.2.2 + 160))] → W p l e rm11_copies s m args below meth c H locs 0 0 (MQ below (P_v G 212 tt u0 σ0) args s 0 0 (Fr G)) (F0 m 26 ls []) := by
  have hx := X.1
  have hb := X.2.1
  intro σ H locs ls hf hR hl
  unfold f11_copies_26 at hf
  refine lv_aload_n hx hb dX11_copies_26 rfl (lv_at hl 0 rfl) ?_
  refine lv_aload_n hx hb dX11_copies_27 rfl (lv_at hl 0 rfl) ?_
  refine r_gs (t := 185) X hR fr_11_91 kh_160 (sx_11_38 kh_160) dX11_copies_28 ?_
  refine lv_aload_n hx hb dX11_copies_31 rfl (lv_at hl 0 rfl) ?_
  refine r_gi X hR fi_11_254 kh_160 dX11_copies_32 ?_
  obtain ⟨hi_2, hf⟩ := z_c_e hf
  refine r_ial X hR ka_185 hi_2 dX11_copies_35 ?_
  refine r_pi X hR pi_11_344 kh_160 dX11_copies_36 (fun H locs σ_3 eσ_3 hR => ?_)
  replace hf := z_l_e eσ_3 hf
  refine lv_aload_n hx hb dX11_copies_39 rfl (lv_at hl 0 rfl) ?_
  refine lv_iconst (v := (0 : Int32)) hx hb dX11_copies_40 (by decide) ?_
  refine r_pz X hR pz_11_347 kh_160 rfl dX11_copies_41 (fun H locs σ_4 eσ_4 hR => ?_)
  replace hf := z_l_e eσ_4 hf
  refine lv_aload_n hx hb dX11_copies_44 rfl (lv_at hl 0 rfl) ?_
  refine lv_iconst (v := (0 : Int32)) hx hb dX11_copies_45 (by decide) ?_
  refine r_pz X hR pz_11_350 kh_160 rfl dX11_copies_46 (fun H locs σ_5 eσ_5 hR => ?_)
  replace hf := z_l_e eσ_5 hf
  exact e_v X hR hr hlk hf dX11_copies_49
set_option maxHeartbeats 4000000 in
set_option maxRecDepth 100000 in
theorem w11_copies_2 (X : Cx p s m args c cX11_copies 2 RX11 G) (hr : meth.sig.returnType = none) (hlk : meth.locks = false) (N : Nat) :
    ∀ (fu : Nat) (x1 : Int32) (σ : Mm) (H : Heap) (locs : List Loc) (ls : Array Slot), f11_copies_2 N fu x1 σ = some (u0, σ0) → Rp G 212 tt σ s H locs → lv_has ls 2 [(0, .ref (G.2.2 + 160)), (1, .int x1)] → W p l e rm11_copies s m args below meth c H locs 0 0 (MQ below (P_v G 212 tt u0 σ0) args s 0 0 (Fr G)) (F0 m 2 ls []) := by
  have hx := X.1
  have hb := X.2.1
  intro fu
  induction fu with
  | zero =>
    intro x1 σ H locs ls hf hR hl
    rw [f11_copies_2] at hf
    cases hf
  | succ fu ih =>
    intro x1 σ H locs ls hf hR hl
    rw [f11_copies_2] at hf
    refine lv_iload_n hx hb dX11_copies_2 rfl (lv_at hl 1 rfl) ?_
    refine lv_bipush (v := (117 : Int32)) hx hb dX11_copies_3 (by decide) ?_
    refine lv_icmp_ge (tgt := 26) hx hb dX11_copies_5 (by decide) (fun c_1 => ?_) (fun c_1 => ?_)
    · replace hf := z_t c_1 hf
      exact w11_copies_26 X hr hlk N   σ _ _ _ hf hR (lv_sub hl [0] rfl)
    · replace hf := z_f c_1 hf
      refine lv_aload_n hx hb dX11_copies_8 rfl (lv_at hl 0 rfl) ?_
      refine r_gs (t := 199) X hR fr_11_134 kh_160 (sx_11_56 kh_160) dX11_copies_9 ?_
      refine lv_iload_n hx hb dX11_copies_12 rfl (lv_at hl 1 rfl) ?_
      refine lv_aload_n hx hb dX11_copies_13 rfl (lv_at hl 0 rfl) ?_
      refine r_gs (t := 198) X hR fr_11_131 kh_160 (sx_11_55 kh_160) dX11_copies_14 ?_
      refine lv_iload_n hx hb dX11_copies_17 rfl (lv_at hl 1 rfl) ?_
      obtain ⟨hi_6, hf⟩ := z_c_e hf
      refine r_ial X hR ka_198 hi_6 dX11_copies_18 ?_
      obtain ⟨hi_7, hf⟩ := z_c_e hf
      refine r_ias X hR ka_199 hi_7 dX11_copies_19 (fun H locs σ_8 eσ_8 hR => ?_)
      replace hf := z_l_e eσ_8 hf
      obtain ⟨x1_9, ex1_9⟩ : ∃ z : Int32, z = x1 + (1 : Int32) := ⟨_, rfl⟩
      replace hf := z_l_e ex1_9 hf
      refine lv_iinc (v := x1_9) (lv' := [(1, .int x1_9), (0, .ref (G.2.2 + 160))]) hx hb dX11_copies_20 hl (k := 1) rfl (by rw [ex1_9]; rfl) (by decide) rfl (fun ls hl => ?_)
      refine lv_goto (tgt := 2) hx hb dX11_copies_23 (by decide) ?_
      exact ih x1_9 σ_8 _ _ _ hf hR (lv_sub hl [1, 0] rfl)
set_option maxHeartbeats 4000000 in
set_option maxRecDepth 100000 in
theorem c11_copies (l : Launch) (G : Gp) (N : Nat) {σ σ0 : Mm} {u0 : Unit} (hf : f11_copies N σ = some (u0, σ0)) : Met l yX11_copies (WS yX11_copies cX11_copies 2 (none)) rm11_copies (va_Pc [.ref (G.2.2 + 160)] (Pd G 212 tt σ)) (P_v G 212 tt u0 σ0) 0 0 (Fr G) := by
  refine ct [(0, .ref (G.2.2 + 160))] rfl (by decide) (Nat.le_of_ble_eq_true rfl) ?_
  intro p e s m below meth c ls X hr hlk hR hl
  have X : Cx p s m _ c cX11_copies 2 RX11 G := X
  have hx := X.1
  have hb := X.2.1
  unfold f11_copies at hf
  refine lv_iconst (v := (0 : Int32)) hx hb dX11_copies_0 (by decide) ?_
  refine lv_istore_n (lv' := [(1, .int (0 : Int32)), (0, .ref (G.2.2 + 160))]) hx hb dX11_copies_1 rfl hl (by decide) rfl (fun ls hl => ?_)
  exact w11_copies_2 X hr hlk N  N (0 : Int32) σ _ _ _ hf hR (lv_sub hl [1, 0] rfl)
abbrev rm11_mixed : Room := { frames := 0, cells := 0, slots := 0, locals := 0 }
def f11_mixed (N : Nat) (x0 : Int32) (x1 : Int32) (σ : Mm) : Option (Int32 × Mm) :=
  z_l ((((x0 ^^^ x1) * (1103515245 : Int32)) + (12345 : Int32))) fun x2_1 =>
  some ((x2_1 ^^^ (ush x2_1 (15 : Int32))), σ)
set_option maxHeartbeats 4000000 in
set_option maxRecDepth 100000 in
theorem c11_mixed (l : Launch) (G : Gp) (N : Nat) {x0 : Int32} {x1 : Int32} {σ σ0 : Mm} {r0 : Int32} (hf : f11_mixed N x0 x1 σ = some (r0, σ0)) : Met l yX11_mixed (WS yX11_mixed cX11_mixed 3 (some .int)) rm11_mixed (va_Pc [.int x0, .int x1] (Pd G 212 tt σ)) (P_i G 212 tt r0 σ0) 0 0 (Fr G) := by
  refine ct [(0, .int x0), (1, .int x1)] rfl (by decide) (Nat.le_of_ble_eq_true rfl) ?_
  intro p e s m below meth c ls X hr hlk hR hl
  have X : Cx p s m _ c cX11_mixed 3 RX11 G := X
  have hx := X.1
  have hb := X.2.1
  unfold f11_mixed at hf
  refine lv_iload_n hx hb dX11_mixed_0 rfl (lv_at hl 0 rfl) ?_
  refine lv_iload_n hx hb dX11_mixed_1 rfl (lv_at hl 1 rfl) ?_
  refine lv_ixor hx hb dX11_mixed_2 ?_
  refine lv_ldcw hx hb X.2.2.2.1 (X.2.2.2.2.1 _ co_11_353) dX11_mixed_3 ?_
  refine lv_imul hx hb dX11_mixed_6 ?_
  refine lv_sipush (v := (12345 : Int32)) hx hb dX11_mixed_7 (by decide) ?_
  refine lv_iadd hx hb dX11_mixed_10 ?_
  refine lv_topi (fun x2_1 ex2_1 => ?_)
  replace hf := z_l_e ex2_1 hf
  refine lv_istore_n (lv' := [(2, .int x2_1), (0, .int x0), (1, .int x1)]) hx hb dX11_mixed_11 rfl hl (by decide) rfl (fun ls hl => ?_)
  refine lv_iload_n hx hb dX11_mixed_12 rfl (lv_at hl 0 rfl) ?_
  refine lv_iload_n hx hb dX11_mixed_13 rfl (lv_at hl 0 rfl) ?_
  refine lv_bipush (v := (15 : Int32)) hx hb dX11_mixed_14 (by decide) ?_
  refine lv_iushr (v := (ush x2_1 (15 : Int32))) hx hb dX11_mixed_16 rfl ?_
  refine lv_ixor hx hb dX11_mixed_17 ?_
  exact e_i X hR hr hlk hf dX11_mixed_18
abbrev rm11_lotOf : Room := { frames := 1, cells := 0, slots := 0, locals := 22 }
def f11_lotOf (N : Nat) (x1 : Int32) (σ : Mm) : Option (Int32 × Mm) :=
  z_b (f11_mixed N (gI σ 160 57) (117 : Int32) σ) fun r_1 σ_2 =>
  z_b (f11_mixed N r_1 x1 σ_2) fun r_4 σ_5 =>
  some (((ush r_4 (1 : Int32)) - (ush r_4 (1 : Int32)) / (100 : Int32) * (100 : Int32)), σ_5)
set_option maxHeartbeats 4000000 in
set_option maxRecDepth 100000 in
theorem c11_lotOf (l : Launch) (G : Gp) (N : Nat) {x1 : Int32} {σ σ0 : Mm} {r0 : Int32} (hf : f11_lotOf N x1 σ = some (r0, σ0)) : Met l yX11_lotOf (WS yX11_lotOf cX11_lotOf 2 (some .int)) rm11_lotOf (va_Pc [.ref (G.2.2 + 160), .int x1] (Pd G 212 tt σ)) (P_i G 212 tt r0 σ0) 0 0 (Fr G) := by
  refine ct [(0, .ref (G.2.2 + 160)), (1, .int x1)] rfl (by decide) (Nat.le_of_ble_eq_true rfl) ?_
  intro p e s m below meth c ls X hr hlk hR hl
  have X : Cx p s m _ c cX11_lotOf 2 RX11 G := X
  have hx := X.1
  have hb := X.2.1
  unfold f11_lotOf at hf
  refine lv_aload_n hx hb dX11_lotOf_0 rfl (lv_at hl 0 rfl) ?_
  refine r_gi X hR fi_11_344 kh_160 dX11_lotOf_1 ?_
  refine lv_bipush (v := (117 : Int32)) hx hb dX11_lotOf_4 (by decide) ?_
  obtain ⟨r_1, σ_2, hc_3, hf⟩ := z_b_e hf
  refine go_i hR (ms_run (As := [.int (gI σ 160 57), .int (117 : Int32)]) (rest := []) X hR ms_11_354 (c11_mixed l G N hc_3) ⟨rfl, rfl, Nat.le_of_ble_eq_true rfl, Nat.le_of_ble_eq_true rfl⟩ rfl hl.1 rfl (Nat.le_of_ble_eq_true rfl) dX11_lotOf_6 ⟨Nat.zero_le _, Nat.zero_le _⟩) (fun H locs hR => ?_)
  refine lv_iload_n hx hb dX11_lotOf_9 rfl (lv_at hl 1 rfl) ?_
  obtain ⟨r_4, σ_5, hc_6, hf⟩ := z_b_e hf
  refine go_i hR (ms_run (As := [.int r_1, .int x1]) (rest := []) X hR ms_11_354 (c11_mixed l G N hc_6) ⟨rfl, rfl, Nat.le_of_ble_eq_true rfl, Nat.le_of_ble_eq_true rfl⟩ rfl hl.1 rfl (Nat.le_of_ble_eq_true rfl) dX11_lotOf_10 ⟨Nat.zero_le _, Nat.zero_le _⟩) (fun H locs hR => ?_)
  refine lv_iconst (v := (1 : Int32)) hx hb dX11_lotOf_13 (by decide) ?_
  refine lv_iushr (v := (ush r_4 (1 : Int32))) hx hb dX11_lotOf_14 rfl ?_
  refine lv_bipush (v := (100 : Int32)) hx hb dX11_lotOf_15 (by decide) ?_
  refine lv_irem hx hb dX11_lotOf_17 (by decide) ?_
  exact e_i X hR hr hlk hf dX11_lotOf_18
abbrev rm11_looks : Room := { frames := 0, cells := 0, slots := 0, locals := 0 }
def f11_looks_21 (N : Nat) (σ : Mm) : Option (Unit × Mm) :=
  z_c (inB (14 : Int32) 117) (
  z_c (inB (3 : Int32) 9) (z_l (sI σ 196 (ix (3 : Int32)) (gI σ 199 (ix (14 : Int32)))) fun σ_4 =>
  some ((), σ_4)))
def f11_looks_2 (N : Nat) : Nat → Int32 → Mm → Option (Unit × Mm)
  | 0, _, _ => none
  | fu + 1, x1, σ => if (9 : Int32) ≤ x1 then (
  f11_looks_21 N σ) else (
  z_c (inB x1 9) (z_l (sI σ 196 (ix x1) (0 : Int32)) fun σ_6 =>
  z_l (x1 + (1 : Int32)) fun x1_7 =>
  f11_looks_2 N fu x1_7 σ_6))
def f11_looks (N : Nat) (σ : Mm) : Option (Unit × Mm) :=
  f11_looks_2 N N (0 : Int32) σ
set_option maxHeartbeats 4000000 in
set_option maxRecDepth 100000 in
theorem w11_looks_21 (X : Cx p s m args c cX11_looks 2 RX11 G) (hr : meth.sig.returnType = none) (hlk : meth.locks = false) (N : Nat) :
    ∀ (σ : Mm) (H : Heap) (locs : List Loc) (ls : Array Slot), f11_looks_21 N σ = some (u0, σ0) → Rp G 212 tt σ s H locs → lv_has ls 2 [(0, .ref (G.2.2 + 160))] → W p l e rm11_looks s m args below meth c H locs 0 0 (MQ below (P_v G 212 tt u0 σ0) args s 0 0 (Fr G)) (F0 m 21 ls []) := by
  have hx := X.1
  have hb := X.2.1
  intro σ H locs ls hf hR hl
  unfold f11_looks_21 at hf
  refine lv_aload_n hx hb dX11_looks_21 rfl (lv_at hl 0 rfl) ?_
  refine r_gs (t := 196) X hR fr_11_125 kh_160 (sx_11_52 kh_160) dX11_looks_22 ?_
  refine lv_iconst (v := (3 : Int32)) hx hb dX11_looks_25 (by decide) ?_
  refine lv_aload_n hx hb dX11_looks_26 rfl (lv_at hl 0 rfl) ?_
  refine r_gs (t := 199) X hR fr_11_134 kh_160 (sx_11_56 kh_160) dX11_looks_27 ?_
  refine lv_bipush (v := (14 : Int32)) hx hb dX11_looks_30 (by decide) ?_
  obtain ⟨hi_2, hf⟩ := z_c_e hf
  refine r_ial X hR ka_199 hi_2 dX11_looks_32 ?_
  obtain ⟨hi_3, hf⟩ := z_c_e hf
  refine r_ias X hR ka_196 hi_3 dX11_looks_33 (fun H locs σ_4 eσ_4 hR => ?_)
  replace hf := z_l_e eσ_4 hf
  exact e_v X hR hr hlk hf dX11_looks_34
set_option maxHeartbeats 4000000 in
set_option maxRecDepth 100000 in
theorem w11_looks_2 (X : Cx p s m args c cX11_looks 2 RX11 G) (hr : meth.sig.returnType = none) (hlk : meth.locks = false) (N : Nat) :
    ∀ (fu : Nat) (x1 : Int32) (σ : Mm) (H : Heap) (locs : List Loc) (ls : Array Slot), f11_looks_2 N fu x1 σ = some (u0, σ0) → Rp G 212 tt σ s H locs → lv_has ls 2 [(0, .ref (G.2.2 + 160)), (1, .int x1)] → W p l e rm11_looks s m args below meth c H locs 0 0 (MQ below (P_v G 212 tt u0 σ0) args s 0 0 (Fr G)) (F0 m 2 ls []) := by
  have hx := X.1
  have hb := X.2.1
  intro fu
  induction fu with
  | zero =>
    intro x1 σ H locs ls hf hR hl
    rw [f11_looks_2] at hf
    cases hf
  | succ fu ih =>
    intro x1 σ H locs ls hf hR hl
    rw [f11_looks_2] at hf
    refine lv_iload_n hx hb dX11_looks_2 rfl (lv_at hl 1 rfl) ?_
    refine lv_bipush (v := (9 : Int32)) hx hb dX11_looks_3 (by decide) ?_
    refine lv_icmp_ge (tgt := 21) hx hb dX11_looks_5 (by decide) (fun c_1 => ?_) (fun c_1 => ?_)
    · replace hf := z_t c_1 hf
      exact w11_looks_21 X hr hlk N   σ _ _ _ hf hR (lv_sub hl [0] rfl)
    · replace hf := z_f c_1 hf
      refine lv_aload_n hx hb dX11_looks_8 rfl (lv_at hl 0 rfl) ?_
      refine r_gs (t := 196) X hR fr_11_125 kh_160 (sx_11_52 kh_160) dX11_looks_9 ?_
      refine lv_iload_n hx hb dX11_looks_12 rfl (lv_at hl 1 rfl) ?_
      refine lv_iconst (v := (0 : Int32)) hx hb dX11_looks_13 (by decide) ?_
      obtain ⟨hi_5, hf⟩ := z_c_e hf
      refine r_ias X hR ka_196 hi_5 dX11_looks_14 (fun H locs σ_6 eσ_6 hR => ?_)
      replace hf := z_l_e eσ_6 hf
      obtain ⟨x1_7, ex1_7⟩ : ∃ z : Int32, z = x1 + (1 : Int32) := ⟨_, rfl⟩
      replace hf := z_l_e ex1_7 hf
      refine lv_iinc (v := x1_7) (lv' := [(1, .int x1_7), (0, .ref (G.2.2 + 160))]) hx hb dX11_looks_15 hl (k := 1) rfl (by rw [ex1_7]; rfl) (by decide) rfl (fun ls hl => ?_)
      refine lv_goto (tgt := 2) hx hb dX11_looks_18 (by decide) ?_
      exact ih x1_7 σ_6 _ _ _ hf hR (lv_sub hl [1, 0] rfl)
set_option maxHeartbeats 4000000 in
set_option maxRecDepth 100000 in
theorem c11_looks (l : Launch) (G : Gp) (N : Nat) {σ σ0 : Mm} {u0 : Unit} (hf : f11_looks N σ = some (u0, σ0)) : Met l yX11_looks (WS yX11_looks cX11_looks 2 (none)) rm11_looks (va_Pc [.ref (G.2.2 + 160)] (Pd G 212 tt σ)) (P_v G 212 tt u0 σ0) 0 0 (Fr G) := by
  refine ct [(0, .ref (G.2.2 + 160))] rfl (by decide) (Nat.le_of_ble_eq_true rfl) ?_
  intro p e s m below meth c ls X hr hlk hR hl
  have X : Cx p s m _ c cX11_looks 2 RX11 G := X
  have hx := X.1
  have hb := X.2.1
  unfold f11_looks at hf
  refine lv_iconst (v := (0 : Int32)) hx hb dX11_looks_0 (by decide) ?_
  refine lv_istore_n (lv' := [(1, .int (0 : Int32)), (0, .ref (G.2.2 + 160))]) hx hb dX11_looks_1 rfl hl (by decide) rfl (fun ls hl => ?_)
  exact w11_looks_2 X hr hlk N  N (0 : Int32) σ _ _ _ hf hR (lv_sub hl [1, 0] rfl)
abbrev rm11_lawTells : Room := { frames := 1, cells := 0, slots := 0, locals := 27 }
def f11_lawTells_119 (N : Nat) (x4 : Int32) (σ : Mm) : Option (Int32 × Mm) :=
  z_c (inB x4 260) (
  z_c (inB x4 260) (
  z_b (f11_termOf N (gI σ 191 (ix x4)) (gI σ 192 (ix x4)) σ) fun r_14 σ_15 =>
  if (gI σ_15 160 54) = 0 then (
  some (r_14, σ_15)) else (
  some ((0 : Int32), σ_15))))
def f11_lawTells_39 (N : Nat) (x3 : Int32) : Nat → Int32 → Mm → Option (Int32 × Mm)
  | 0, _, _ => none
  | fu + 1, x4, σ => z_c (inB x3 8) (
  if (gI σ 187 (ix x3)) ≤ x4 then (
  some ((0 : Int32), σ)) else (
  z_c (inB x4 260) (
  if (gI σ 188 (ix x4)) = 0 then (
  f11_lawTells_119 N x4 σ) else (
  z_c (inB x4 260) (
  z_c (inB x4 260) (
  z_b (f11_termOf N (gI σ 189 (ix x4)) (gI σ 190 (ix x4)) σ) fun r_20 σ_21 =>
  z_c (inB x4 260) (
  z_c (inB x4 260) (
  z_b (f11_termOf N (gI σ_21 190 (ix x4)) (gI σ_21 191 (ix x4)) σ_21) fun r_25 σ_26 =>
  if (gI σ_26 160 54) = 0 then (
  if r_20 < r_25 then (
  f11_lawTells_119 N x4 σ_26) else (
  z_l (x4 + (1 : Int32)) fun x4_30 =>
  f11_lawTells_39 N x3 fu x4_30 σ_26)) else (
  some ((0 : Int32), σ_26))))))))))
def f11_lawTells (N : Nat) (x1 : Int32) (x2 : Int32) (σ : Mm) : Option (Int32 × Mm) :=
  z_l ((((4 : Int32) * (gI σ 160 18)) + x1)) fun x3_1 =>
  z_c (inB x3_1 8) (
  z_c (inB x3_1 8) (
  if (gI σ 186 (ix x3_1)) = (gI σ 187 (ix x3_1)) then (
  some (x2, σ)) else (
  z_l (sI σ 160 54 (0 : Int32)) fun σ_5 =>
  z_c (inB x3_1 8) (
  z_l ((gI σ_5 186 (ix x3_1))) fun x4_7 =>
  f11_lawTells_39 N x3_1 N x4_7 σ_5))))
set_option maxHeartbeats 4000000 in
set_option maxRecDepth 100000 in
theorem w11_lawTells_119 (X : Cx p s m args c cX11_lawTells 7 RX11 G) (hr : meth.sig.returnType = some .int) (hlk : meth.locks = false) (N : Nat) :
    ∀ (x4 : Int32) (σ : Mm) (H : Heap) (locs : List Loc) (ls : Array Slot), f11_lawTells_119 N x4 σ = some (r0, σ0) → Rp G 212 tt σ s H locs → lv_has ls 7 [(0, .ref (G.2.2 + 160)), (4, .int x4)] → W p l e rm11_lawTells s m args below meth c H locs 0 0 (MQ below (P_i G 212 tt r0 σ0) args s 0 0 (Fr G)) (F0 m 119 ls []) := by
  have hx := X.1
  have hb := X.2.1
  intro x4 σ H locs ls hf hR hl
  unfold f11_lawTells_119 at hf
  refine lv_aload_n hx hb dX11_lawTells_119 rfl (lv_at hl 0 rfl) ?_
  refine lv_aload_n hx hb dX11_lawTells_120 rfl (lv_at hl 0 rfl) ?_
  refine r_gs (t := 191) X hR fr_11_110 kh_160 (sx_11_45 kh_160) dX11_lawTells_121 ?_
  refine lv_iload hx hb dX11_lawTells_124 (lv_at hl 1 rfl) ?_
  obtain ⟨hi_12, hf⟩ := z_c_e hf
  refine r_ial X hR ka_191 hi_12 dX11_lawTells_126 ?_
  refine lv_aload_n hx hb dX11_lawTells_127 rfl (lv_at hl 0 rfl) ?_
  refine r_gs (t := 192) X hR fr_11_113 kh_160 (sx_11_46 kh_160) dX11_lawTells_128 ?_
  refine lv_iload hx hb dX11_lawTells_131 (lv_at hl 1 rfl) ?_
  obtain ⟨hi_13, hf⟩ := z_c_e hf
  refine r_ial X hR ka_192 hi_13 dX11_lawTells_133 ?_
  obtain ⟨r_14, σ_15, hc_16, hf⟩ := z_b_e hf
  refine go_i hR (mv_run (As := [.int (gI σ 191 (ix x4)), .int (gI σ 192 (ix x4))]) (rest := []) X hR mv_11_357 kh_160 (kd_lt kh_160 (by decide)) (c11_termOf l G N hc_16) ⟨rfl, rfl, Nat.le_of_ble_eq_true rfl, Nat.le_of_ble_eq_true rfl⟩ rfl hl.1 rfl (Nat.le_of_ble_eq_true rfl) dX11_lawTells_134 ⟨Nat.zero_le _, Nat.zero_le _⟩) (fun H locs hR => ?_)
  refine lv_istore (lv' := [(5, .int r_14), (0, .ref (G.2.2 + 160)), (4, .int x4)]) hx hb dX11_lawTells_137 hl (by decide) rfl (fun ls hl => ?_)
  refine lv_aload_n hx hb dX11_lawTells_139 rfl (lv_at hl 1 rfl) ?_
  refine r_gi X hR fi_11_336 kh_160 dX11_lawTells_140 ?_
  refine lv_if_eq (tgt := 150) hx hb dX11_lawTells_143 (by decide) (fun c_17 => ?_) (fun c_17 => ?_)
  · replace hf := z_t c_17 hf
    refine lv_iload hx hb dX11_lawTells_150 (lv_at hl 0 rfl) ?_
    exact e_i X hR hr hlk hf dX11_lawTells_152
  · replace hf := z_f c_17 hf
    refine lv_iconst (v := (0 : Int32)) hx hb dX11_lawTells_146 (by decide) ?_
    refine lv_goto (tgt := 152) hx hb dX11_lawTells_147 (by decide) ?_
    exact e_i X hR hr hlk hf dX11_lawTells_152
set_option maxHeartbeats 4000000 in
set_option maxRecDepth 100000 in
theorem w11_lawTells_39 (X : Cx p s m args c cX11_lawTells 7 RX11 G) (hr : meth.sig.returnType = some .int) (hlk : meth.locks = false) (N : Nat) {x3 : Int32} :
    ∀ (fu : Nat) (x4 : Int32) (σ : Mm) (H : Heap) (locs : List Loc) (ls : Array Slot), f11_lawTells_39 N x3 fu x4 σ = some (r0, σ0) → Rp G 212 tt σ s H locs → lv_has ls 7 [(0, .ref (G.2.2 + 160)), (3, .int x3), (4, .int x4)] → W p l e rm11_lawTells s m args below meth c H locs 0 0 (MQ below (P_i G 212 tt r0 σ0) args s 0 0 (Fr G)) (F0 m 39 ls []) := by
  have hx := X.1
  have hb := X.2.1
  intro fu
  induction fu with
  | zero =>
    intro x4 σ H locs ls hf hR hl
    rw [f11_lawTells_39] at hf
    cases hf
  | succ fu ih =>
    intro x4 σ H locs ls hf hR hl
    rw [f11_lawTells_39] at hf
    refine lv_iload hx hb dX11_lawTells_39 (lv_at hl 2 rfl) ?_
    refine lv_aload_n hx hb dX11_lawTells_41 rfl (lv_at hl 0 rfl) ?_
    refine r_gs (t := 187) X hR fr_11_97 kh_160 (sx_11_40 kh_160) dX11_lawTells_42 ?_
    refine lv_iload_n hx hb dX11_lawTells_45 rfl (lv_at hl 1 rfl) ?_
    obtain ⟨hi_8, hf⟩ := z_c_e hf
    refine r_ial X hR ka_187 hi_8 dX11_lawTells_46 ?_
    refine lv_icmp_ge (tgt := 159) hx hb dX11_lawTells_47 (by decide) (fun c_9 => ?_) (fun c_9 => ?_)
    · replace hf := z_t c_9 hf
      refine lv_iconst (v := (0 : Int32)) hx hb dX11_lawTells_159 (by decide) ?_
      exact e_i X hR hr hlk hf dX11_lawTells_160
    · replace hf := z_f c_9 hf
      refine lv_aload_n hx hb dX11_lawTells_50 rfl (lv_at hl 0 rfl) ?_
      refine r_gs (t := 188) X hR fr_11_100 kh_160 (sx_11_42 kh_160) dX11_lawTells_51 ?_
      refine lv_iload hx hb dX11_lawTells_54 (lv_at hl 2 rfl) ?_
      obtain ⟨hi_10, hf⟩ := z_c_e hf
      refine r_zal X hR ka_188 hi_10 dX11_lawTells_56 ?_
      refine lv_if_eq (tgt := 119) hx hb dX11_lawTells_57 (by decide) (fun c_11 => ?_) (fun c_11 => ?_)
      · replace hf := z_t c_11 hf
        exact w11_lawTells_119 X hr hlk N  x4 σ _ _ _ hf hR (lv_sub hl [0, 2] rfl)
      · replace hf := z_f c_11 hf
        refine lv_aload_n hx hb dX11_lawTells_60 rfl (lv_at hl 0 rfl) ?_
        refine lv_aload_n hx hb dX11_lawTells_61 rfl (lv_at hl 0 rfl) ?_
        refine r_gs (t := 189) X hR fr_11_104 kh_160 (sx_11_43 kh_160) dX11_lawTells_62 ?_
        refine lv_iload hx hb dX11_lawTells_65 (lv_at hl 2 rfl) ?_
        obtain ⟨hi_18, hf⟩ := z_c_e hf
        refine r_ial X hR ka_189 hi_18 dX11_lawTells_67 ?_
        refine lv_aload_n hx hb dX11_lawTells_68 rfl (lv_at hl 0 rfl) ?_
        refine r_gs (t := 190) X hR fr_11_107 kh_160 (sx_11_44 kh_160) dX11_lawTells_69 ?_
        refine lv_iload hx hb dX11_lawTells_72 (lv_at hl 2 rfl) ?_
        obtain ⟨hi_19, hf⟩ := z_c_e hf
        refine r_ial X hR ka_190 hi_19 dX11_lawTells_74 ?_
        obtain ⟨r_20, σ_21, hc_22, hf⟩ := z_b_e hf
        refine go_i hR (mv_run (As := [.int (gI σ 189 (ix x4)), .int (gI σ 190 (ix x4))]) (rest := []) X hR mv_11_357 kh_160 (kd_lt kh_160 (by decide)) (c11_termOf l G N hc_22) ⟨rfl, rfl, Nat.le_of_ble_eq_true rfl, Nat.le_of_ble_eq_true rfl⟩ rfl hl.1 rfl (Nat.le_of_ble_eq_true rfl) dX11_lawTells_75 ⟨Nat.zero_le _, Nat.zero_le _⟩) (fun H locs hR => ?_)
        refine lv_istore (lv' := [(5, .int r_20), (0, .ref (G.2.2 + 160)), (3, .int x3), (4, .int x4)]) hx hb dX11_lawTells_78 hl (by decide) rfl (fun ls hl => ?_)
        refine lv_aload_n hx hb dX11_lawTells_80 rfl (lv_at hl 1 rfl) ?_
        refine lv_aload_n hx hb dX11_lawTells_81 rfl (lv_at hl 1 rfl) ?_
        refine r_gs (t := 190) X hR fr_11_107 kh_160 (sx_11_44 kh_160) dX11_lawTells_82 ?_
        refine lv_iload hx hb dX11_lawTells_85 (lv_at hl 3 rfl) ?_
        obtain ⟨hi_23, hf⟩ := z_c_e hf
        refine r_ial X hR ka_190 hi_23 dX11_lawTells_87 ?_
        refine lv_aload_n hx hb dX11_lawTells_88 rfl (lv_at hl 1 rfl) ?_
        refine r_gs (t := 191) X hR fr_11_110 kh_160 (sx_11_45 kh_160) dX11_lawTells_89 ?_
        refine lv_iload hx hb dX11_lawTells_92 (lv_at hl 3 rfl) ?_
        obtain ⟨hi_24, hf⟩ := z_c_e hf
        refine r_ial X hR ka_191 hi_24 dX11_lawTells_94 ?_
        obtain ⟨r_25, σ_26, hc_27, hf⟩ := z_b_e hf
        refine go_i hR (mv_run (As := [.int (gI σ_21 190 (ix x4)), .int (gI σ_21 191 (ix x4))]) (rest := []) X hR mv_11_357 kh_160 (kd_lt kh_160 (by decide)) (c11_termOf l G N hc_27) ⟨rfl, rfl, Nat.le_of_ble_eq_true rfl, Nat.le_of_ble_eq_true rfl⟩ rfl hl.1 rfl (Nat.le_of_ble_eq_true rfl) dX11_lawTells_95 ⟨Nat.zero_le _, Nat.zero_le _⟩) (fun H locs hR => ?_)
        refine lv_istore (lv' := [(6, .int r_25), (5, .int r_20), (0, .ref (G.2.2 + 160)), (3, .int x3), (4, .int x4)]) hx hb dX11_lawTells_98 hl (by decide) rfl (fun ls hl => ?_)
        refine lv_aload_n hx hb dX11_lawTells_100 rfl (lv_at hl 2 rfl) ?_
        refine r_gi X hR fi_11_336 kh_160 dX11_lawTells_101 ?_
        refine lv_if_eq (tgt := 109) hx hb dX11_lawTells_104 (by decide) (fun c_28 => ?_) (fun c_28 => ?_)
        · replace hf := z_t c_28 hf
          refine lv_iload hx hb dX11_lawTells_109 (lv_at hl 1 rfl) ?_
          refine lv_iload hx hb dX11_lawTells_111 (lv_at hl 0 rfl) ?_
          refine lv_icmp_lt (tgt := 119) hx hb dX11_lawTells_113 (by decide) (fun c_29 => ?_) (fun c_29 => ?_)
          · replace hf := z_t c_29 hf
            exact w11_lawTells_119 X hr hlk N  x4 σ_26 _ _ _ hf hR (lv_sub hl [2, 4] rfl)
          · replace hf := z_f c_29 hf
            refine lv_goto (tgt := 153) hx hb dX11_lawTells_116 (by decide) ?_
            obtain ⟨x4_30, ex4_30⟩ : ∃ z : Int32, z = x4 + (1 : Int32) := ⟨_, rfl⟩
            replace hf := z_l_e ex4_30 hf
            refine lv_iinc (v := x4_30) (lv' := [(4, .int x4_30), (6, .int r_25), (5, .int r_20), (0, .ref (G.2.2 + 160)), (3, .int x3)]) hx hb dX11_lawTells_153 hl (k := 4) rfl (by rw [ex4_30]; rfl) (by decide) rfl (fun ls hl => ?_)
            refine lv_goto (tgt := 39) hx hb dX11_lawTells_156 (by decide) ?_
            exact ih x4_30 σ_26 _ _ _ hf hR (lv_sub hl [3, 4, 0] rfl)
        · replace hf := z_f c_28 hf
          refine lv_iconst (v := (0 : Int32)) hx hb dX11_lawTells_107 (by decide) ?_
          exact e_i X hR hr hlk hf dX11_lawTells_108
set_option maxHeartbeats 4000000 in
set_option maxRecDepth 100000 in
theorem c11_lawTells (l : Launch) (G : Gp) (N : Nat) {x1 : Int32} {x2 : Int32} {σ σ0 : Mm} {r0 : Int32} (hf : f11_lawTells N x1 x2 σ = some (r0, σ0)) : Met l yX11_lawTells (WS yX11_lawTells cX11_lawTells 7 (some .int)) rm11_lawTells (va_Pc [.ref (G.2.2 + 160), .int x1, .int x2] (Pd G 212 tt σ)) (P_i G 212 tt r0 σ0) 0 0 (Fr G) := by
  refine ct [(0, .ref (G.2.2 + 160)), (1, .int x1), (2, .int x2)] rfl (by decide) (Nat.le_of_ble_eq_true rfl) ?_
  intro p e s m below meth c ls X hr hlk hR hl
  have X : Cx p s m _ c cX11_lawTells 7 RX11 G := X
  have hx := X.1
  have hb := X.2.1
  unfold f11_lawTells at hf
  refine lv_iconst (v := (4 : Int32)) hx hb dX11_lawTells_0 (by decide) ?_
  refine lv_aload_n hx hb dX11_lawTells_1 rfl (lv_at hl 0 rfl) ?_
  refine r_gi X hR fi_11_254 kh_160 dX11_lawTells_2 ?_
  refine lv_imul hx hb dX11_lawTells_5 ?_
  refine lv_iload_n hx hb dX11_lawTells_6 rfl (lv_at hl 1 rfl) ?_
  refine lv_iadd hx hb dX11_lawTells_7 ?_
  refine lv_topi (fun x3_1 ex3_1 => ?_)
  replace hf := z_l_e ex3_1 hf
  refine lv_istore_n (lv' := [(3, .int x3_1), (0, .ref (G.2.2 + 160)), (1, .int x1), (2, .int x2)]) hx hb dX11_lawTells_8 rfl hl (by decide) rfl (fun ls hl => ?_)
  refine lv_aload_n hx hb dX11_lawTells_9 rfl (lv_at hl 1 rfl) ?_
  refine r_gs (t := 186) X hR fr_11_94 kh_160 (sx_11_39 kh_160) dX11_lawTells_10 ?_
  refine lv_iload_n hx hb dX11_lawTells_13 rfl (lv_at hl 0 rfl) ?_
  obtain ⟨hi_2, hf⟩ := z_c_e hf
  refine r_ial X hR ka_186 hi_2 dX11_lawTells_14 ?_
  refine lv_aload_n hx hb dX11_lawTells_15 rfl (lv_at hl 1 rfl) ?_
  refine r_gs (t := 187) X hR fr_11_97 kh_160 (sx_11_40 kh_160) dX11_lawTells_16 ?_
  refine lv_iload_n hx hb dX11_lawTells_19 rfl (lv_at hl 0 rfl) ?_
  obtain ⟨hi_3, hf⟩ := z_c_e hf
  refine r_ial X hR ka_187 hi_3 dX11_lawTells_20 ?_
  refine lv_icmp_ne (tgt := 26) hx hb dX11_lawTells_21 (by decide) (fun c_4 => ?_) (fun c_4 => ?_)
  · replace hf := z_f c_4 hf
    refine lv_aload_n hx hb dX11_lawTells_26 rfl (lv_at hl 1 rfl) ?_
    refine lv_iconst (v := (0 : Int32)) hx hb dX11_lawTells_27 (by decide) ?_
    refine r_pz X hR pz_11_336 kh_160 rfl dX11_lawTells_28 (fun H locs σ_5 eσ_5 hR => ?_)
    replace hf := z_l_e eσ_5 hf
    refine lv_aload_n hx hb dX11_lawTells_31 rfl (lv_at hl 1 rfl) ?_
    refine r_gs (t := 186) X hR fr_11_94 kh_160 (sx_11_39 kh_160) dX11_lawTells_32 ?_
    refine lv_iload_n hx hb dX11_lawTells_35 rfl (lv_at hl 0 rfl) ?_
    obtain ⟨hi_6, hf⟩ := z_c_e hf
    refine r_ial X hR ka_186 hi_6 dX11_lawTells_36 ?_
    refine lv_topi (fun x4_7 ex4_7 => ?_)
    replace hf := z_l_e ex4_7 hf
    refine lv_istore (lv' := [(4, .int x4_7), (3, .int x3_1), (0, .ref (G.2.2 + 160)), (1, .int x1), (2, .int x2)]) hx hb dX11_lawTells_37 hl (by decide) rfl (fun ls hl => ?_)
    exact w11_lawTells_39 X hr hlk N  N x4_7 σ_5 _ _ _ hf hR (lv_sub hl [2, 1, 0] rfl)
  · replace hf := z_t c_4 hf
    refine lv_iload_n hx hb dX11_lawTells_24 rfl (lv_at hl 3 rfl) ?_
    exact e_i X hR hr hlk hf dX11_lawTells_25
abbrev rm11_looksAt : Room := { frames := 1, cells := 0, slots := 0, locals := 21 }
def f11_looksAt (N : Nat) (x1 : Int32) (σ : Mm) : Option (Unit × Mm) :=
  z_b (f11_looks N σ) fun _ σ_2 =>
  z_c (inB x1 117) (
  z_c (inB (0 : Int32) 9) (z_l (sI σ_2 196 (ix (0 : Int32)) (gI σ_2 199 (ix x1))) fun σ_6 =>
  z_c (inB (((7 : Int32) * (gI σ_6 160 18)) + x1) 14) (
  z_c (inB (1 : Int32) 9) (z_l (sI σ_6 196 (ix (1 : Int32)) (gI σ_6 177 (ix (((7 : Int32) * (gI σ_6 160 18)) + x1)))) fun σ_9 =>
  z_c (inB (4 : Int32) 9) (z_l (sI σ_9 196 (ix (4 : Int32)) x1) fun σ_11 =>
  some ((), σ_11))))))
set_option maxHeartbeats 4000000 in
set_option maxRecDepth 100000 in
theorem c11_looksAt (l : Launch) (G : Gp) (N : Nat) {x1 : Int32} {σ σ0 : Mm} {u0 : Unit} (hf : f11_looksAt N x1 σ = some (u0, σ0)) : Met l yX11_looksAt (WS yX11_looksAt cX11_looksAt 2 (none)) rm11_looksAt (va_Pc [.ref (G.2.2 + 160), .int x1] (Pd G 212 tt σ)) (P_v G 212 tt u0 σ0) 0 0 (Fr G) := by
  refine ct [(0, .ref (G.2.2 + 160)), (1, .int x1)] rfl (by decide) (Nat.le_of_ble_eq_true rfl) ?_
  intro p e s m below meth c ls X hr hlk hR hl
  have X : Cx p s m _ c cX11_looksAt 2 RX11 G := X
  have hx := X.1
  have hb := X.2.1
  unfold f11_looksAt at hf
  refine lv_aload_n hx hb dX11_looksAt_0 rfl (lv_at hl 0 rfl) ?_
  obtain ⟨r_1, σ_2, hc_3, hf⟩ := z_b_e hf
  refine go_v hR (mv_run (As := []) (rest := []) X hR mv_11_360 kh_160 (kd_lt kh_160 (by decide)) (c11_looks l G N hc_3) ⟨rfl, rfl, Nat.le_of_ble_eq_true rfl, Nat.le_of_ble_eq_true rfl⟩ rfl hl.1 rfl (Nat.le_of_ble_eq_true rfl) dX11_looksAt_1 ⟨Nat.zero_le _, Nat.zero_le _⟩) (fun H locs hR => ?_)
  refine lv_aload_n hx hb dX11_looksAt_4 rfl (lv_at hl 0 rfl) ?_
  refine r_gs (t := 196) X hR fr_11_125 kh_160 (sx_11_52 kh_160) dX11_looksAt_5 ?_
  refine lv_iconst (v := (0 : Int32)) hx hb dX11_looksAt_8 (by decide) ?_
  refine lv_aload_n hx hb dX11_looksAt_9 rfl (lv_at hl 0 rfl) ?_
  refine r_gs (t := 199) X hR fr_11_134 kh_160 (sx_11_56 kh_160) dX11_looksAt_10 ?_
  refine lv_iload_n hx hb dX11_looksAt_13 rfl (lv_at hl 1 rfl) ?_
  obtain ⟨hi_4, hf⟩ := z_c_e hf
  refine r_ial X hR ka_199 hi_4 dX11_looksAt_14 ?_
  obtain ⟨hi_5, hf⟩ := z_c_e hf
  refine r_ias X hR ka_196 hi_5 dX11_looksAt_15 (fun H locs σ_6 eσ_6 hR => ?_)
  replace hf := z_l_e eσ_6 hf
  refine lv_aload_n hx hb dX11_looksAt_16 rfl (lv_at hl 0 rfl) ?_
  refine r_gs (t := 196) X hR fr_11_125 kh_160 (sx_11_52 kh_160) dX11_looksAt_17 ?_
  refine lv_iconst (v := (1 : Int32)) hx hb dX11_looksAt_20 (by decide) ?_
  refine lv_aload_n hx hb dX11_looksAt_21 rfl (lv_at hl 0 rfl) ?_
  refine r_gs (t := 177) X hR fr_11_67 kh_160 (sx_11_30 kh_160) dX11_looksAt_22 ?_
  refine lv_bipush (v := (7 : Int32)) hx hb dX11_looksAt_25 (by decide) ?_
  refine lv_aload_n hx hb dX11_looksAt_27 rfl (lv_at hl 0 rfl) ?_
  refine r_gi X hR fi_11_254 kh_160 dX11_looksAt_28 ?_
  refine lv_imul hx hb dX11_looksAt_31 ?_
  refine lv_iload_n hx hb dX11_looksAt_32 rfl (lv_at hl 1 rfl) ?_
  refine lv_iadd hx hb dX11_looksAt_33 ?_
  obtain ⟨hi_7, hf⟩ := z_c_e hf
  refine r_ial X hR ka_177 hi_7 dX11_looksAt_34 ?_
  obtain ⟨hi_8, hf⟩ := z_c_e hf
  refine r_ias X hR ka_196 hi_8 dX11_looksAt_35 (fun H locs σ_9 eσ_9 hR => ?_)
  replace hf := z_l_e eσ_9 hf
  refine lv_aload_n hx hb dX11_looksAt_36 rfl (lv_at hl 0 rfl) ?_
  refine r_gs (t := 196) X hR fr_11_125 kh_160 (sx_11_52 kh_160) dX11_looksAt_37 ?_
  refine lv_iconst (v := (4 : Int32)) hx hb dX11_looksAt_40 (by decide) ?_
  refine lv_iload_n hx hb dX11_looksAt_41 rfl (lv_at hl 1 rfl) ?_
  obtain ⟨hi_10, hf⟩ := z_c_e hf
  refine r_ias X hR ka_196 hi_10 dX11_looksAt_42 (fun H locs σ_11 eσ_11 hR => ?_)
  replace hf := z_l_e eσ_11 hf
  exact e_v X hR hr hlk hf dX11_looksAt_43
abbrev rm11_doesSwear : Room := { frames := 2, cells := 0, slots := 0, locals := 53 }
def f11_doesSwear (N : Nat) (x1 : Int32) (x2 : Int32) (σ : Mm) : Option (Int32 × Mm) :=
  z_c (inB ((7 : Int32) + x1) 117) (
  if (gI σ 199 (ix ((7 : Int32) + x1))) = 0 then (
  some ((0 : Int32), σ)) else (
  z_c (inB ((97 : Int32) + x2) 117) (
  if (((gI σ 199 (ix ((97 : Int32) + x2))) >>> (x1 &&& 31)) &&& (1 : Int32)) = 0 then (
  some ((0 : Int32), σ)) else (
  z_b (f11_looksAt N x1 σ) fun _ σ_6 =>
  z_c (inB (14 : Int32) 117) (
  z_c (inB ((77 : Int32) + x2) 117) (
  z_c (inB (2 : Int32) 9) (z_l (sI σ_6 196 (ix (2 : Int32)) ((gI σ_6 199 (ix (14 : Int32))) - (gI σ_6 199 (ix ((77 : Int32) + x2))))) fun σ_11 =>
  z_c (inB ((97 : Int32) + x2) 117) (
  z_b (f11_bits N (gI σ_11 199 (ix ((97 : Int32) + x2))) σ_11) fun r_13 σ_14 =>
  z_c (inB (5 : Int32) 9) (z_l (sI σ_14 196 (ix (5 : Int32)) r_13) fun σ_17 =>
  z_c (inB (1 : Int32) 9) (
  z_c (inB (2 : Int32) 9) (
  z_b (f11_lawTells N (0 : Int32) ((gI σ_17 196 (ix (1 : Int32))) - (gI σ_17 196 (ix (2 : Int32)))) σ_17) fun r_20 σ_21 =>
  if r_20 ≤ 0 then (
  some ((0 : Int32), σ_21)) else (
  some ((1 : Int32), σ_21)))))))))))))
set_option maxHeartbeats 4000000 in
set_option maxRecDepth 100000 in
theorem c11_doesSwear (l : Launch) (G : Gp) (N : Nat) {x1 : Int32} {x2 : Int32} {σ σ0 : Mm} {r0 : Int32} (hf : f11_doesSwear N x1 x2 σ = some (r0, σ0)) : Met l yX11_doesSwear (WS yX11_doesSwear cX11_doesSwear 3 (some .boolean)) rm11_doesSwear (va_Pc [.ref (G.2.2 + 160), .int x1, .int x2] (Pd G 212 tt σ)) (P_i G 212 tt r0 σ0) 0 0 (Fr G) := by
  refine ct [(0, .ref (G.2.2 + 160)), (1, .int x1), (2, .int x2)] rfl (by decide) (Nat.le_of_ble_eq_true rfl) ?_
  intro p e s m below meth c ls X hr hlk hR hl
  have X : Cx p s m _ c cX11_doesSwear 3 RX11 G := X
  have hx := X.1
  have hb := X.2.1
  unfold f11_doesSwear at hf
  refine lv_aload_n hx hb dX11_doesSwear_0 rfl (lv_at hl 0 rfl) ?_
  refine r_gs (t := 199) X hR fr_11_134 kh_160 (sx_11_56 kh_160) dX11_doesSwear_1 ?_
  refine lv_bipush (v := (7 : Int32)) hx hb dX11_doesSwear_4 (by decide) ?_
  refine lv_iload_n hx hb dX11_doesSwear_6 rfl (lv_at hl 1 rfl) ?_
  refine lv_iadd hx hb dX11_doesSwear_7 ?_
  obtain ⟨hi_1, hf⟩ := z_c_e hf
  refine r_ial X hR ka_199 hi_1 dX11_doesSwear_8 ?_
  refine lv_if_eq (tgt := 28) hx hb dX11_doesSwear_9 (by decide) (fun c_2 => ?_) (fun c_2 => ?_)
  · replace hf := z_t c_2 hf
    refine lv_iconst (v := (0 : Int32)) hx hb dX11_doesSwear_28 (by decide) ?_
    exact e_z X hR hr hlk rfl hf dX11_doesSwear_29
  · replace hf := z_f c_2 hf
    refine lv_aload_n hx hb dX11_doesSwear_12 rfl (lv_at hl 0 rfl) ?_
    refine r_gs (t := 199) X hR fr_11_134 kh_160 (sx_11_56 kh_160) dX11_doesSwear_13 ?_
    refine lv_bipush (v := (97 : Int32)) hx hb dX11_doesSwear_16 (by decide) ?_
    refine lv_iload_n hx hb dX11_doesSwear_18 rfl (lv_at hl 2 rfl) ?_
    refine lv_iadd hx hb dX11_doesSwear_19 ?_
    obtain ⟨hi_3, hf⟩ := z_c_e hf
    refine r_ial X hR ka_199 hi_3 dX11_doesSwear_20 ?_
    refine lv_iload_n hx hb dX11_doesSwear_21 rfl (lv_at hl 1 rfl) ?_
    refine lv_ishr hx hb dX11_doesSwear_22 ?_
    refine lv_iconst (v := (1 : Int32)) hx hb dX11_doesSwear_23 (by decide) ?_
    refine lv_iand hx hb dX11_doesSwear_24 ?_
    refine lv_if_ne (tgt := 30) hx hb dX11_doesSwear_25 (by decide) (fun c_4 => ?_) (fun c_4 => ?_)
    · replace hf := z_f c_4 hf
      refine lv_aload_n hx hb dX11_doesSwear_30 rfl (lv_at hl 0 rfl) ?_
      refine lv_iload_n hx hb dX11_doesSwear_31 rfl (lv_at hl 1 rfl) ?_
      obtain ⟨r_5, σ_6, hc_7, hf⟩ := z_b_e hf
      refine go_v hR (mv_run (As := [.int x1]) (rest := []) X hR mv_11_363 kh_160 (kd_lt kh_160 (by decide)) (c11_looksAt l G N hc_7) ⟨rfl, rfl, Nat.le_of_ble_eq_true rfl, Nat.le_of_ble_eq_true rfl⟩ rfl hl.1 rfl (Nat.le_of_ble_eq_true rfl) dX11_doesSwear_32 ⟨Nat.zero_le _, Nat.zero_le _⟩) (fun H locs hR => ?_)
      refine lv_aload_n hx hb dX11_doesSwear_35 rfl (lv_at hl 0 rfl) ?_
      refine r_gs (t := 196) X hR fr_11_125 kh_160 (sx_11_52 kh_160) dX11_doesSwear_36 ?_
      refine lv_iconst (v := (2 : Int32)) hx hb dX11_doesSwear_39 (by decide) ?_
      refine lv_aload_n hx hb dX11_doesSwear_40 rfl (lv_at hl 0 rfl) ?_
      refine r_gs (t := 199) X hR fr_11_134 kh_160 (sx_11_56 kh_160) dX11_doesSwear_41 ?_
      refine lv_bipush (v := (14 : Int32)) hx hb dX11_doesSwear_44 (by decide) ?_
      obtain ⟨hi_8, hf⟩ := z_c_e hf
      refine r_ial X hR ka_199 hi_8 dX11_doesSwear_46 ?_
      refine lv_aload_n hx hb dX11_doesSwear_47 rfl (lv_at hl 0 rfl) ?_
      refine r_gs (t := 199) X hR fr_11_134 kh_160 (sx_11_56 kh_160) dX11_doesSwear_48 ?_
      refine lv_bipush (v := (77 : Int32)) hx hb dX11_doesSwear_51 (by decide) ?_
      refine lv_iload_n hx hb dX11_doesSwear_53 rfl (lv_at hl 2 rfl) ?_
      refine lv_iadd hx hb dX11_doesSwear_54 ?_
      obtain ⟨hi_9, hf⟩ := z_c_e hf
      refine r_ial X hR ka_199 hi_9 dX11_doesSwear_55 ?_
      refine lv_isub hx hb dX11_doesSwear_56 ?_
      obtain ⟨hi_10, hf⟩ := z_c_e hf
      refine r_ias X hR ka_196 hi_10 dX11_doesSwear_57 (fun H locs σ_11 eσ_11 hR => ?_)
      replace hf := z_l_e eσ_11 hf
      refine lv_aload_n hx hb dX11_doesSwear_58 rfl (lv_at hl 0 rfl) ?_
      refine r_gs (t := 196) X hR fr_11_125 kh_160 (sx_11_52 kh_160) dX11_doesSwear_59 ?_
      refine lv_iconst (v := (5 : Int32)) hx hb dX11_doesSwear_62 (by decide) ?_
      refine lv_aload_n hx hb dX11_doesSwear_63 rfl (lv_at hl 0 rfl) ?_
      refine r_gs (t := 199) X hR fr_11_134 kh_160 (sx_11_56 kh_160) dX11_doesSwear_64 ?_
      refine lv_bipush (v := (97 : Int32)) hx hb dX11_doesSwear_67 (by decide) ?_
      refine lv_iload_n hx hb dX11_doesSwear_69 rfl (lv_at hl 2 rfl) ?_
      refine lv_iadd hx hb dX11_doesSwear_70 ?_
      obtain ⟨hi_12, hf⟩ := z_c_e hf
      refine r_ial X hR ka_199 hi_12 dX11_doesSwear_71 ?_
      obtain ⟨r_13, σ_14, hc_15, hf⟩ := z_b_e hf
      refine go_i hR (ms_run (As := [.int (gI σ_11 199 (ix ((97 : Int32) + x2)))]) (rest := [.int (5 : Int32), .ref (G.2.2 + 196)]) X hR ms_11_366 (c11_bits l G N hc_15) ⟨rfl, rfl, Nat.le_of_ble_eq_true rfl, Nat.le_of_ble_eq_true rfl⟩ rfl hl.1 rfl (Nat.le_of_ble_eq_true rfl) dX11_doesSwear_72 ⟨Nat.zero_le _, Nat.zero_le _⟩) (fun H locs hR => ?_)
      obtain ⟨hi_16, hf⟩ := z_c_e hf
      refine r_ias X hR ka_196 hi_16 dX11_doesSwear_75 (fun H locs σ_17 eσ_17 hR => ?_)
      replace hf := z_l_e eσ_17 hf
      refine lv_aload_n hx hb dX11_doesSwear_76 rfl (lv_at hl 0 rfl) ?_
      refine lv_iconst (v := (0 : Int32)) hx hb dX11_doesSwear_77 (by decide) ?_
      refine lv_aload_n hx hb dX11_doesSwear_78 rfl (lv_at hl 0 rfl) ?_
      refine r_gs (t := 196) X hR fr_11_125 kh_160 (sx_11_52 kh_160) dX11_doesSwear_79 ?_
      refine lv_iconst (v := (1 : Int32)) hx hb dX11_doesSwear_82 (by decide) ?_
      obtain ⟨hi_18, hf⟩ := z_c_e hf
      refine r_ial X hR ka_196 hi_18 dX11_doesSwear_83 ?_
      refine lv_aload_n hx hb dX11_doesSwear_84 rfl (lv_at hl 0 rfl) ?_
      refine r_gs (t := 196) X hR fr_11_125 kh_160 (sx_11_52 kh_160) dX11_doesSwear_85 ?_
      refine lv_iconst (v := (2 : Int32)) hx hb dX11_doesSwear_88 (by decide) ?_
      obtain ⟨hi_19, hf⟩ := z_c_e hf
      refine r_ial X hR ka_196 hi_19 dX11_doesSwear_89 ?_
      refine lv_isub hx hb dX11_doesSwear_90 ?_
      obtain ⟨r_20, σ_21, hc_22, hf⟩ := z_b_e hf
      refine go_i hR (mv_run (As := [.int (0 : Int32), .int ((gI σ_17 196 (ix (1 : Int32))) - (gI σ_17 196 (ix (2 : Int32))))]) (rest := []) X hR mv_11_369 kh_160 (kd_lt kh_160 (by decide)) (c11_lawTells l G N hc_22) ⟨rfl, rfl, Nat.le_of_ble_eq_true rfl, Nat.le_of_ble_eq_true rfl⟩ rfl hl.1 rfl (Nat.le_of_ble_eq_true rfl) dX11_doesSwear_91 ⟨Nat.zero_le _, Nat.zero_le _⟩) (fun H locs hR => ?_)
      refine lv_if_le (tgt := 101) hx hb dX11_doesSwear_94 (by decide) (fun c_23 => ?_) (fun c_23 => ?_)
      · replace hf := z_t c_23 hf
        refine lv_iconst (v := (0 : Int32)) hx hb dX11_doesSwear_101 (by decide) ?_
        exact e_z X hR hr hlk rfl hf dX11_doesSwear_102
      · replace hf := z_f c_23 hf
        refine lv_iconst (v := (1 : Int32)) hx hb dX11_doesSwear_97 (by decide) ?_
        refine lv_goto (tgt := 102) hx hb dX11_doesSwear_98 (by decide) ?_
        exact e_z X hR hr hlk rfl hf dX11_doesSwear_102
    · replace hf := z_t c_4 hf
      refine lv_iconst (v := (0 : Int32)) hx hb dX11_doesSwear_28 (by decide) ?_
      exact e_z X hR hr hlk rfl hf dX11_doesSwear_29
end GEN
