-- ===== end of PART A; then your names; then what follows =====
/-! THE CLAIM OUT OF ONE WALK OF THE LAW'S BODY. Your part is whole_start (and what it stands on); all else here is the same for every law, but numbers. -/
def R_law : String := "TurfGivingLaw"
def lw_P (b : Addr) (xs : List Int32) (args : Array Value) (s : State) : Prop := args = #[.ref b] ∧ s.IntsAt b xs ∧ xs.length ≤ 3072 ∧ (Jvm.Cond.and given_1 narrow_1).before args s = true
def lw_Q (_ : Array Value) (s : State) (o : Outcome) (t : State) : Prop := o = .returned (some (.int 1)) ∧ Framed s o t [] 600000 7302250
def lw_Z (below : List Frame) (a : Array Value) (s : State) : State → Prop := fun t => ∃ o, t.status = .running ∧ Ended t below o ∧ lw_Q a s o t
/-- the law's own end, with 1 on the stack, nothing written that was there before, its room as the claim has it -/
theorem lw_ret {p : Program} {l : Launch} {e : Env} {s : State} {m : MethodId} {below : List Frame} {meth : Method} {c : Code} {b : Nat} (hx : p.tables.exec = Jvm.exec) (hb : c.code = code) (hr : meth.sig.returnType = ret) (hlocks : meth.locks = false) {pc : Nat} {H : Heap} {ls : Array Slot} (hdg : decode code pc = .ok (.ireturn, 1)) : W p l e room_1 s m #[Value.ref b] below meth c H [] 600000 7302250 (lw_Z below #[Value.ref b] s) (F0 m pc ls [.int 1]) := by
  intro T hT X
  obtain ⟨fs, hret, hrun, hended, hW, hframe⟩ := X.leave (v := some (.int 1)) (hlocks := hlocks) (fun h => by rw [hr] at h; cases h)
  have hmeth' : T.vm.method? m = some meth := X.method'
  refine ⟨T.setFrames fs, ?_, .returned (some (.int 1)), hrun, hended, rfl, ⟨_, rfl⟩, hW, hframe⟩
  jvm_step X.here [X.here.top, hx, hb, hdg, hmeth', hr, ret, narrow_b1]
  (try refine ⟨rfl, ?_⟩); (try refine ⟨rfl, ?_⟩)
  first | (intro acts; rw [hret _ acts rfl rfl rfl]) | rw [hret _ _ rfl rfl rfl]
  exact Steps.refl _
/-- what holds at the law's entry: the machine, the code, the tables' words (any of lw_tbl by 'hts w (by decide +kernel)'), the script of L ints xs at the cell b, what the Statement gives of the start (any of its parts by flat_of_before) -/
def lw_At (p : Program) (s : State) (m : MethodId) (meth : Method) (c : Code) (b L : Nat) (xs : Nat → Int32) : Prop :=
  p.tables.exec = Jvm.exec ∧ c.code = code ∧ meth.sig.returnType = ret ∧ c.maxLocals = 4 ∧ s.vm.findClass R_law = some m.cls ∧ (∀ w ∈ lw_tbl, w.before #[Value.ref b] s = true) ∧ va_X b L xs s s.heap ∧ b < s.heap.size ∧ meth.locks = false ∧ (Jvm.Cond.and given_1 narrow_1).before #[Value.ref b] s = true
section GEN
variable {p : Program} {l : Launch} {e : Env} {s : State} {m : MethodId} {args : Array Value} {below : List Frame} {meth : Method} {c : Code} {G : Gp} {r0 : Int32} {l0 : Int64} {u0 : Unit} {σ0 : Mm}
def fL_1326 (N : Nat) (k18 : Int32 → Mm → Option (Int32 × Mm)) (L : Nat) (xs : Nat → Int32) (x3 : Int32) (σ : Mm) : Option (Int32 × Mm) :=
  z_l (x3 + (6 : Int32)) fun x3_20 =>
  k18 x3_20 σ
def fL_200 (N : Nat) (k18 : Int32 → Mm → Option (Int32 × Mm)) (L : Nat) (xs : Nat → Int32) (x3 : Int32) (σ : Mm) : Option (Int32 × Mm) :=
  z_c (inB (x3 + (1 : Int32)) L) (
  z_c (inB (x3 + (2 : Int32)) L) (
  z_c (inB (x3 + (3 : Int32)) L) (
  z_c (inB (x3 + (4 : Int32)) L) (
  z_c (inB (x3 + (5 : Int32)) L) (
  z_b (f10_feed N (xs (ix (x3 + (1 : Int32)))) (xs (ix (x3 + (2 : Int32)))) (xs (ix (x3 + (3 : Int32)))) (xs (ix (x3 + (4 : Int32)))) (xs (ix (x3 + (5 : Int32)))) σ) fun r_8 σ_9 =>
  z_c (inB (x3 + (1 : Int32)) L) (
  z_c (inB (x3 + (2 : Int32)) L) (
  z_c (inB (x3 + (3 : Int32)) L) (
  z_c (inB (x3 + (4 : Int32)) L) (
  z_c (inB (x3 + (5 : Int32)) L) (
  z_b (f11_feed N (xs (ix (x3 + (1 : Int32)))) (xs (ix (x3 + (2 : Int32)))) (xs (ix (x3 + (3 : Int32)))) (xs (ix (x3 + (4 : Int32)))) (xs (ix (x3 + (5 : Int32)))) σ_9) fun r_16 σ_17 =>
  if r_8 = r_16 then (
  fL_1326 N k18 L xs x3 σ_17) else (
  some (0, σ_17))))))))))))
def fL_263 (N : Nat) (k18 : Int32 → Mm → Option (Int32 × Mm)) (L : Nat) (xs : Nat → Int32) (x3 : Int32) (σ : Mm) : Option (Int32 × Mm) :=
  z_c (inB (x3 + (1 : Int32)) L) (
  z_b (f10_back N (xs (ix (x3 + (1 : Int32)))) σ) fun r_23 σ_24 =>
  z_c (inB (x3 + (1 : Int32)) L) (
  z_b (f11_back N (xs (ix (x3 + (1 : Int32)))) σ_24) fun r_27 σ_28 =>
  if r_23 = r_27 then (
  fL_1326 N k18 L xs x3 σ_28) else (
  some (0, σ_28))))
def fL_286 (N : Nat) (k18 : Int32 → Mm → Option (Int32 × Mm)) (L : Nat) (xs : Nat → Int32) (x3 : Int32) (σ : Mm) : Option (Int32 × Mm) :=
  z_b (f10_read N σ) fun r_32 σ_33 =>
  z_b (f11_read N σ_33) fun r_35 σ_36 =>
  if r_32 = r_35 then (
  fL_1326 N k18 L xs x3 σ_36) else (
  some (0, σ_36))
def fL_299 (N : Nat) (k18 : Int32 → Mm → Option (Int32 × Mm)) (L : Nat) (xs : Nat → Int32) (x3 : Int32) (σ : Mm) : Option (Int32 × Mm) :=
  z_b (f10_place N σ) fun r_40 σ_41 =>
  z_b (f11_place N σ_41) fun r_43 σ_44 =>
  if r_40 = r_43 then (
  fL_1326 N k18 L xs x3 σ_44) else (
  some (0, σ_44))
def fL_312 (N : Nat) (k18 : Int32 → Mm → Option (Int32 × Mm)) (L : Nat) (xs : Nat → Int32) (x3 : Int32) (σ : Mm) : Option (Int32 × Mm) :=
  z_c (inB (x3 + (1 : Int32)) L) (
  z_c (inB (x3 + (2 : Int32)) L) (
  z_b (f10_plot N (xs (ix (x3 + (1 : Int32)))) (xs (ix (x3 + (2 : Int32)))) σ) fun r_50 σ_51 =>
  z_c (inB (x3 + (1 : Int32)) L) (
  z_c (inB (x3 + (2 : Int32)) L) (
  z_b (f11_plot N (xs (ix (x3 + (1 : Int32)))) (xs (ix (x3 + (2 : Int32)))) σ_51) fun r_55 σ_56 =>
  if r_50 = r_55 then (
  fL_1326 N k18 L xs x3 σ_56) else (
  some (0, σ_56))))))
def fL_345 (N : Nat) (k18 : Int32 → Mm → Option (Int32 × Mm)) (L : Nat) (xs : Nat → Int32) (x3 : Int32) (σ : Mm) : Option (Int32 × Mm) :=
  z_c (inB (x3 + (1 : Int32)) L) (
  z_c (inB (x3 + (2 : Int32)) L) (
  z_b (f10_witness N (xs (ix (x3 + (1 : Int32)))) (xs (ix (x3 + (2 : Int32)))) σ) fun r_62 σ_63 =>
  z_c (inB (x3 + (1 : Int32)) L) (
  z_c (inB (x3 + (2 : Int32)) L) (
  z_b (f11_witness N (xs (ix (x3 + (1 : Int32)))) (xs (ix (x3 + (2 : Int32)))) σ_63) fun r_67 σ_68 =>
  if r_62 = r_67 then (
  fL_1326 N k18 L xs x3 σ_68) else (
  some (0, σ_68))))))
def fL_378 (N : Nat) (k18 : Int32 → Mm → Option (Int32 × Mm)) (L : Nat) (xs : Nat → Int32) (x3 : Int32) (σ : Mm) : Option (Int32 × Mm) :=
  z_c (inB (x3 + (1 : Int32)) L) (
  z_c (inB (x3 + (2 : Int32)) L) (
  z_b (f10_giving N (xs (ix (x3 + (1 : Int32)))) (xs (ix (x3 + (2 : Int32)))) σ) fun r_74 σ_75 =>
  z_c (inB (x3 + (1 : Int32)) L) (
  z_c (inB (x3 + (2 : Int32)) L) (
  z_b (f11_giving N (xs (ix (x3 + (1 : Int32)))) (xs (ix (x3 + (2 : Int32)))) σ_75) fun r_79 σ_80 =>
  if r_74 = r_79 then (
  fL_1326 N k18 L xs x3 σ_80) else (
  some (0, σ_80))))))
def fL_411 (N : Nat) (k18 : Int32 → Mm → Option (Int32 × Mm)) (L : Nat) (xs : Nat → Int32) (x3 : Int32) (σ : Mm) : Option (Int32 × Mm) :=
  z_c (inB (x3 + (1 : Int32)) L) (
  z_c (inB (x3 + (2 : Int32)) L) (
  z_c (inB (x3 + (3 : Int32)) L) (
  z_c (inB (x3 + (4 : Int32)) L) (
  z_b (f10_give N (xs (ix (x3 + (1 : Int32)))) (xs (ix (x3 + (2 : Int32)))) (xs (ix (x3 + (3 : Int32)))) (xs (ix (x3 + (4 : Int32)))) σ) fun r_88 σ_89 =>
  z_c (inB (x3 + (1 : Int32)) L) (
  z_c (inB (x3 + (2 : Int32)) L) (
  z_c (inB (x3 + (3 : Int32)) L) (
  z_c (inB (x3 + (4 : Int32)) L) (
  z_b (f11_give N (xs (ix (x3 + (1 : Int32)))) (xs (ix (x3 + (2 : Int32)))) (xs (ix (x3 + (3 : Int32)))) (xs (ix (x3 + (4 : Int32)))) σ_89) fun r_95 σ_96 =>
  if r_88 = r_95 then (
  fL_1326 N k18 L xs x3 σ_96) else (
  some (0, σ_96))))))))))
def fL_505 (N : Nat) (k18 : Int32 → Mm → Option (Int32 × Mm)) (L : Nat) (xs : Nat → Int32) (x3 : Int32) (s0 : Int32) (s2 : Int32) (s3 : Int32) (σ : Mm) : Option (Int32 × Mm) :=
  z_b (f11_unsay N s2 s3 σ) fun r_109 σ_110 =>
  if s0 = r_109 then (
  fL_1326 N k18 L xs x3 σ_110) else (
  some (0, σ_110))
def fL_483 (N : Nat) (k18 : Int32 → Mm → Option (Int32 × Mm)) (L : Nat) (xs : Nat → Int32) (x3 : Int32) (s1 : Int32) (s2 : Int32) (σ : Mm) : Option (Int32 × Mm) :=
  z_b (f10_unsay N s1 s2 σ) fun r_103 σ_104 =>
  z_c (inB (x3 + (1 : Int32)) L) (
  z_c (inB (x3 + (2 : Int32)) L) (
  if (xs (ix (x3 + (2 : Int32)))) = 0 then (
  fL_505 N k18 L xs x3 r_103 (xs (ix (x3 + (1 : Int32)))) (0 : Int32) σ_104) else (
  fL_505 N k18 L xs x3 r_103 (xs (ix (x3 + (1 : Int32)))) (1 : Int32) σ_104)))
def fL_464 (N : Nat) (k18 : Int32 → Mm → Option (Int32 × Mm)) (L : Nat) (xs : Nat → Int32) (x3 : Int32) (σ : Mm) : Option (Int32 × Mm) :=
  z_c (inB (x3 + (1 : Int32)) L) (
  z_c (inB (x3 + (2 : Int32)) L) (
  if (xs (ix (x3 + (2 : Int32)))) = 0 then (
  fL_483 N k18 L xs x3 (xs (ix (x3 + (1 : Int32)))) (0 : Int32) σ) else (
  fL_483 N k18 L xs x3 (xs (ix (x3 + (1 : Int32)))) (1 : Int32) σ)))
def fL_513 (N : Nat) (k18 : Int32 → Mm → Option (Int32 × Mm)) (L : Nat) (xs : Nat → Int32) (x3 : Int32) (σ : Mm) : Option (Int32 × Mm) :=
  z_c (inB (x3 + (1 : Int32)) L) (
  z_b (f10_years N (xs (ix (x3 + (1 : Int32)))) σ) fun r_115 σ_116 =>
  z_c (inB (x3 + (1 : Int32)) L) (
  z_b (f11_years N (xs (ix (x3 + (1 : Int32)))) σ_116) fun r_119 σ_120 =>
  if r_115 = r_119 then (
  fL_1326 N k18 L xs x3 σ_120) else (
  some (0, σ_120))))
def fL_536 (N : Nat) (k18 : Int32 → Mm → Option (Int32 × Mm)) (L : Nat) (xs : Nat → Int32) (x3 : Int32) (σ : Mm) : Option (Int32 × Mm) :=
  z_b (f10_undo N σ) fun r_124 σ_125 =>
  z_b (f11_undo N σ_125) fun r_127 σ_128 =>
  if r_124 = r_127 then (
  fL_1326 N k18 L xs x3 σ_128) else (
  some (0, σ_128))
def fL_549 (N : Nat) (k18 : Int32 → Mm → Option (Int32 × Mm)) (L : Nat) (xs : Nat → Int32) (x3 : Int32) (σ : Mm) : Option (Int32 × Mm) :=
  z_c (inB (x3 + (1 : Int32)) L) (
  z_b (f10_lasts N (xs (ix (x3 + (1 : Int32)))) σ) fun r_133 σ_134 =>
  z_c (inB (x3 + (1 : Int32)) L) (
  z_b (f11_lasts N (xs (ix (x3 + (1 : Int32)))) σ_134) fun r_137 σ_138 =>
  if r_133 = r_137 then (
  fL_1326 N k18 L xs x3 σ_138) else (
  some (0, σ_138))))
def fL_572 (N : Nat) (k18 : Int32 → Mm → Option (Int32 × Mm)) (L : Nat) (xs : Nat → Int32) (x3 : Int32) (σ : Mm) : Option (Int32 × Mm) :=
  z_b (f10_book N σ) fun r_142 σ_143 =>
  z_b (f11_book N σ_143) fun r_145 σ_146 =>
  if r_142 = r_145 then (
  fL_1326 N k18 L xs x3 σ_146) else (
  some (0, σ_146))
def fL_585 (N : Nat) (k18 : Int32 → Mm → Option (Int32 × Mm)) (L : Nat) (xs : Nat → Int32) (x3 : Int32) (σ : Mm) : Option (Int32 × Mm) :=
  z_c (inB (x3 + (1 : Int32)) L) (
  z_b (f10_hangs N (xs (ix (x3 + (1 : Int32)))) σ) fun r_151 σ_152 =>
  z_c (inB (x3 + (1 : Int32)) L) (
  z_b (f11_hangs N (xs (ix (x3 + (1 : Int32)))) σ_152) fun r_155 σ_156 =>
  if r_151 = r_155 then (
  fL_1326 N k18 L xs x3 σ_156) else (
  some (0, σ_156))))
def fL_608 (N : Nat) (k18 : Int32 → Mm → Option (Int32 × Mm)) (L : Nat) (xs : Nat → Int32) (x3 : Int32) (σ : Mm) : Option (Int32 × Mm) :=
  z_c (inB (x3 + (1 : Int32)) L) (
  z_c (inB (x3 + (2 : Int32)) L) (
  z_b (f10_cover N (xs (ix (x3 + (1 : Int32)))) (xs (ix (x3 + (2 : Int32)))) σ) fun r_162 σ_163 =>
  z_c (inB (x3 + (1 : Int32)) L) (
  z_c (inB (x3 + (2 : Int32)) L) (
  z_b (f11_cover N (xs (ix (x3 + (1 : Int32)))) (xs (ix (x3 + (2 : Int32)))) σ_163) fun r_167 σ_168 =>
  if r_162 = r_167 then (
  fL_1326 N k18 L xs x3 σ_168) else (
  some (0, σ_168))))))
def fL_641 (N : Nat) (k18 : Int32 → Mm → Option (Int32 × Mm)) (L : Nat) (xs : Nat → Int32) (x3 : Int32) (σ : Mm) : Option (Int32 × Mm) :=
  z_c (inB (x3 + (1 : Int32)) L) (
  z_c (inB (x3 + (2 : Int32)) L) (
  z_b (f10_walk N (xs (ix (x3 + (1 : Int32)))) (xs (ix (x3 + (2 : Int32)))) σ) fun r_174 σ_175 =>
  z_c (inB (x3 + (1 : Int32)) L) (
  z_c (inB (x3 + (2 : Int32)) L) (
  z_b (f11_walk N (xs (ix (x3 + (1 : Int32)))) (xs (ix (x3 + (2 : Int32)))) σ_175) fun r_179 σ_180 =>
  if r_174 = r_179 then (
  fL_1326 N k18 L xs x3 σ_180) else (
  some (0, σ_180))))))
def fL_674 (N : Nat) (k18 : Int32 → Mm → Option (Int32 × Mm)) (L : Nat) (xs : Nat → Int32) (x3 : Int32) (σ : Mm) : Option (Int32 × Mm) :=
  z_c (inB (x3 + (1 : Int32)) L) (
  z_b (f10_asks N (xs (ix (x3 + (1 : Int32)))) σ) fun r_185 σ_186 =>
  z_c (inB (x3 + (1 : Int32)) L) (
  z_b (f11_asks N (xs (ix (x3 + (1 : Int32)))) σ_186) fun r_189 σ_190 =>
  if r_185 = r_189 then (
  fL_1326 N k18 L xs x3 σ_190) else (
  some (0, σ_190))))
def fL_697 (N : Nat) (k18 : Int32 → Mm → Option (Int32 × Mm)) (L : Nat) (xs : Nat → Int32) (x3 : Int32) (σ : Mm) : Option (Int32 × Mm) :=
  z_c (inB (x3 + (1 : Int32)) L) (
  z_c (inB (x3 + (2 : Int32)) L) (
  z_b (f10_round N (xs (ix (x3 + (1 : Int32)))) (xs (ix (x3 + (2 : Int32)))) σ) fun r_196 σ_197 =>
  z_c (inB (x3 + (1 : Int32)) L) (
  z_c (inB (x3 + (2 : Int32)) L) (
  z_b (f11_round N (xs (ix (x3 + (1 : Int32)))) (xs (ix (x3 + (2 : Int32)))) σ_197) fun r_201 σ_202 =>
  if r_196 = r_201 then (
  fL_1326 N k18 L xs x3 σ_202) else (
  some (0, σ_202))))))
def fL_730 (N : Nat) (k18 : Int32 → Mm → Option (Int32 × Mm)) (L : Nat) (xs : Nat → Int32) (x3 : Int32) (σ : Mm) : Option (Int32 × Mm) :=
  z_c (inB (x3 + (1 : Int32)) L) (
  z_c (inB (x3 + (2 : Int32)) L) (
  z_b (f10_has N (xs (ix (x3 + (1 : Int32)))) (xs (ix (x3 + (2 : Int32)))) σ) fun r_208 σ_209 =>
  z_c (inB (x3 + (1 : Int32)) L) (
  z_c (inB (x3 + (2 : Int32)) L) (
  z_b (f11_has N (xs (ix (x3 + (1 : Int32)))) (xs (ix (x3 + (2 : Int32)))) σ_209) fun r_213 σ_214 =>
  if r_208 = r_213 then (
  fL_1326 N k18 L xs x3 σ_214) else (
  some (0, σ_214))))))
def fL_763 (N : Nat) (k18 : Int32 → Mm → Option (Int32 × Mm)) (L : Nat) (xs : Nat → Int32) (x3 : Int32) (σ : Mm) : Option (Int32 × Mm) :=
  z_c (inB (x3 + (1 : Int32)) L) (
  z_c (inB (x3 + (2 : Int32)) L) (
  z_b (f10_within N (xs (ix (x3 + (1 : Int32)))) (xs (ix (x3 + (2 : Int32)))) σ) fun r_220 σ_221 =>
  z_c (inB (x3 + (1 : Int32)) L) (
  z_c (inB (x3 + (2 : Int32)) L) (
  z_b (f11_within N (xs (ix (x3 + (1 : Int32)))) (xs (ix (x3 + (2 : Int32)))) σ_221) fun r_225 σ_226 =>
  if r_220 = r_225 then (
  fL_1326 N k18 L xs x3 σ_226) else (
  some (0, σ_226))))))
def fL_796 (N : Nat) (k18 : Int32 → Mm → Option (Int32 × Mm)) (L : Nat) (xs : Nat → Int32) (x3 : Int32) (σ : Mm) : Option (Int32 × Mm) :=
  z_c (inB (x3 + (1 : Int32)) L) (
  z_c (inB (x3 + (2 : Int32)) L) (
  z_b (f10_rich N (xs (ix (x3 + (1 : Int32)))) (xs (ix (x3 + (2 : Int32)))) σ) fun r_232 σ_233 =>
  z_c (inB (x3 + (1 : Int32)) L) (
  z_c (inB (x3 + (2 : Int32)) L) (
  z_b (f11_rich N (xs (ix (x3 + (1 : Int32)))) (xs (ix (x3 + (2 : Int32)))) σ_233) fun r_237 σ_238 =>
  if r_232 = r_237 then (
  fL_1326 N k18 L xs x3 σ_238) else (
  some (0, σ_238))))))
def fL_829 (N : Nat) (k18 : Int32 → Mm → Option (Int32 × Mm)) (L : Nat) (xs : Nat → Int32) (x3 : Int32) (σ : Mm) : Option (Int32 × Mm) :=
  z_c (inB (x3 + (1 : Int32)) L) (
  z_c (inB (x3 + (2 : Int32)) L) (
  z_b (f10_chain N (xs (ix (x3 + (1 : Int32)))) (xs (ix (x3 + (2 : Int32)))) σ) fun r_244 σ_245 =>
  z_c (inB (x3 + (1 : Int32)) L) (
  z_c (inB (x3 + (2 : Int32)) L) (
  z_b (f11_chain N (xs (ix (x3 + (1 : Int32)))) (xs (ix (x3 + (2 : Int32)))) σ_245) fun r_249 σ_250 =>
  if r_244 = r_249 then (
  fL_1326 N k18 L xs x3 σ_250) else (
  some (0, σ_250))))))
def fL_862 (N : Nat) (k18 : Int32 → Mm → Option (Int32 × Mm)) (L : Nat) (xs : Nat → Int32) (x3 : Int32) (σ : Mm) : Option (Int32 × Mm) :=
  z_c (inB (x3 + (1 : Int32)) L) (
  z_b (f10_idle N (xs (ix (x3 + (1 : Int32)))) σ) fun r_255 σ_256 =>
  z_c (inB (x3 + (1 : Int32)) L) (
  z_b (f11_idle N (xs (ix (x3 + (1 : Int32)))) σ_256) fun r_259 σ_260 =>
  if r_255 = r_259 then (
  fL_1326 N k18 L xs x3 σ_260) else (
  some (0, σ_260))))
def fL_885 (N : Nat) (k18 : Int32 → Mm → Option (Int32 × Mm)) (L : Nat) (xs : Nat → Int32) (x3 : Int32) (σ : Mm) : Option (Int32 × Mm) :=
  z_c (inB (x3 + (1 : Int32)) L) (
  z_b (f10_eldest N (xs (ix (x3 + (1 : Int32)))) σ) fun r_265 σ_266 =>
  z_c (inB (x3 + (1 : Int32)) L) (
  z_b (f11_eldest N (xs (ix (x3 + (1 : Int32)))) σ_266) fun r_269 σ_270 =>
  if r_265 = r_269 then (
  fL_1326 N k18 L xs x3 σ_270) else (
  some (0, σ_270))))
def fL_908 (N : Nat) (k18 : Int32 → Mm → Option (Int32 × Mm)) (L : Nat) (xs : Nat → Int32) (x3 : Int32) (σ : Mm) : Option (Int32 × Mm) :=
  z_c (inB (x3 + (1 : Int32)) L) (
  z_b (f10_lapse N (xs (ix (x3 + (1 : Int32)))) σ) fun r_275 σ_276 =>
  z_c (inB (x3 + (1 : Int32)) L) (
  z_b (f11_lapse N (xs (ix (x3 + (1 : Int32)))) σ_276) fun r_279 σ_280 =>
  if r_275 = r_279 then (
  fL_1326 N k18 L xs x3 σ_280) else (
  some (0, σ_280))))
def fL_931 (N : Nat) (k18 : Int32 → Mm → Option (Int32 × Mm)) (L : Nat) (xs : Nat → Int32) (x3 : Int32) (σ : Mm) : Option (Int32 × Mm) :=
  z_c (inB (x3 + (1 : Int32)) L) (
  z_b (f10_passes N (xs (ix (x3 + (1 : Int32)))) σ) fun r_285 σ_286 =>
  z_c (inB (x3 + (1 : Int32)) L) (
  z_b (f11_passes N (xs (ix (x3 + (1 : Int32)))) σ_286) fun r_289 σ_290 =>
  if r_285 = r_289 then (
  fL_1326 N k18 L xs x3 σ_290) else (
  some (0, σ_290))))
def fL_954 (N : Nat) (k18 : Int32 → Mm → Option (Int32 × Mm)) (L : Nat) (xs : Nat → Int32) (x3 : Int32) (σ : Mm) : Option (Int32 × Mm) :=
  z_c (inB (x3 + (1 : Int32)) L) (
  z_b (f10_weakest N (xs (ix (x3 + (1 : Int32)))) σ) fun r_295 σ_296 =>
  z_c (inB (x3 + (1 : Int32)) L) (
  z_b (f11_weakest N (xs (ix (x3 + (1 : Int32)))) σ_296) fun r_299 σ_300 =>
  if r_295 = r_299 then (
  fL_1326 N k18 L xs x3 σ_300) else (
  some (0, σ_300))))
def fL_977 (N : Nat) (k18 : Int32 → Mm → Option (Int32 × Mm)) (L : Nat) (xs : Nat → Int32) (x3 : Int32) (σ : Mm) : Option (Int32 × Mm) :=
  z_c (inB (x3 + (1 : Int32)) L) (
  z_c (inB (x3 + (2 : Int32)) L) (
  z_b (f10_ownerIn N (xs (ix (x3 + (1 : Int32)))) (xs (ix (x3 + (2 : Int32)))) σ) fun r_306 σ_307 =>
  z_c (inB (x3 + (1 : Int32)) L) (
  z_c (inB (x3 + (2 : Int32)) L) (
  z_b (f11_ownerIn N (xs (ix (x3 + (1 : Int32)))) (xs (ix (x3 + (2 : Int32)))) σ_307) fun r_311 σ_312 =>
  if r_306 = r_311 then (
  fL_1326 N k18 L xs x3 σ_312) else (
  some (0, σ_312))))))
def fL_1010 (N : Nat) (k18 : Int32 → Mm → Option (Int32 × Mm)) (L : Nat) (xs : Nat → Int32) (x3 : Int32) (σ : Mm) : Option (Int32 × Mm) :=
  z_c (inB (x3 + (1 : Int32)) L) (
  z_c (inB (x3 + (2 : Int32)) L) (
  z_c (inB (x3 + (3 : Int32)) L) (
  z_b (f10_then N (xs (ix (x3 + (1 : Int32)))) (xs (ix (x3 + (2 : Int32)))) (xs (ix (x3 + (3 : Int32)))) σ) fun r_319 σ_320 =>
  z_c (inB (x3 + (1 : Int32)) L) (
  z_c (inB (x3 + (2 : Int32)) L) (
  z_c (inB (x3 + (3 : Int32)) L) (
  z_b (f11_then N (xs (ix (x3 + (1 : Int32)))) (xs (ix (x3 + (2 : Int32)))) (xs (ix (x3 + (3 : Int32)))) σ_320) fun r_325 σ_326 =>
  if r_319 = r_325 then (
  fL_1326 N k18 L xs x3 σ_326) else (
  some (0, σ_326))))))))
def fL_1053 (N : Nat) (k18 : Int32 → Mm → Option (Int32 × Mm)) (L : Nat) (xs : Nat → Int32) (x3 : Int32) (σ : Mm) : Option (Int32 × Mm) :=
  z_c (inB (x3 + (1 : Int32)) L) (
  z_c (inB (x3 + (2 : Int32)) L) (
  z_b (f10_swearIn N (xs (ix (x3 + (1 : Int32)))) (xs (ix (x3 + (2 : Int32)))) σ) fun r_332 σ_333 =>
  z_c (inB (x3 + (1 : Int32)) L) (
  z_c (inB (x3 + (2 : Int32)) L) (
  z_b (f11_swearIn N (xs (ix (x3 + (1 : Int32)))) (xs (ix (x3 + (2 : Int32)))) σ_333) fun r_337 σ_338 =>
  if r_332 = r_337 then (
  fL_1326 N k18 L xs x3 σ_338) else (
  some (0, σ_338))))))
def fL_1086 (N : Nat) (k18 : Int32 → Mm → Option (Int32 × Mm)) (L : Nat) (xs : Nat → Int32) (x3 : Int32) (σ : Mm) : Option (Int32 × Mm) :=
  z_c (inB (x3 + (1 : Int32)) L) (
  z_c (inB (x3 + (2 : Int32)) L) (
  z_c (inB (x3 + (3 : Int32)) L) (
  z_c (inB (x3 + (4 : Int32)) L) (
  z_b (f10_year N (xs (ix (x3 + (1 : Int32)))) (xs (ix (x3 + (2 : Int32)))) (xs (ix (x3 + (3 : Int32)))) (xs (ix (x3 + (4 : Int32)))) σ) fun r_346 σ_347 =>
  z_c (inB (x3 + (1 : Int32)) L) (
  z_c (inB (x3 + (2 : Int32)) L) (
  z_c (inB (x3 + (3 : Int32)) L) (
  z_c (inB (x3 + (4 : Int32)) L) (
  z_b (f11_year N (xs (ix (x3 + (1 : Int32)))) (xs (ix (x3 + (2 : Int32)))) (xs (ix (x3 + (3 : Int32)))) (xs (ix (x3 + (4 : Int32)))) σ_347) fun r_353 σ_354 =>
  if r_346 = r_353 then (
  fL_1326 N k18 L xs x3 σ_354) else (
  some (0, σ_354))))))))))
def fL_1180 (N : Nat) (k18 : Int32 → Mm → Option (Int32 × Mm)) (L : Nat) (xs : Nat → Int32) (x3 : Int32) (s0 : Int32) (s2 : Int32) (s3 : Int32) (σ : Mm) : Option (Int32 × Mm) :=
  z_b (f11_tell N s2 s3 σ) fun r_367 σ_368 =>
  if s0 = r_367 then (
  fL_1326 N k18 L xs x3 σ_368) else (
  some (0, σ_368))
def fL_1158 (N : Nat) (k18 : Int32 → Mm → Option (Int32 × Mm)) (L : Nat) (xs : Nat → Int32) (x3 : Int32) (s1 : Int32) (s2 : Int32) (σ : Mm) : Option (Int32 × Mm) :=
  z_b (f10_tell N s1 s2 σ) fun r_361 σ_362 =>
  z_c (inB (x3 + (1 : Int32)) L) (
  z_c (inB (x3 + (2 : Int32)) L) (
  if (xs (ix (x3 + (2 : Int32)))) = 0 then (
  fL_1180 N k18 L xs x3 r_361 (xs (ix (x3 + (1 : Int32)))) (0 : Int32) σ_362) else (
  fL_1180 N k18 L xs x3 r_361 (xs (ix (x3 + (1 : Int32)))) (1 : Int32) σ_362)))
def fL_1139 (N : Nat) (k18 : Int32 → Mm → Option (Int32 × Mm)) (L : Nat) (xs : Nat → Int32) (x3 : Int32) (σ : Mm) : Option (Int32 × Mm) :=
  z_c (inB (x3 + (1 : Int32)) L) (
  z_c (inB (x3 + (2 : Int32)) L) (
  if (xs (ix (x3 + (2 : Int32)))) = 0 then (
  fL_1158 N k18 L xs x3 (xs (ix (x3 + (1 : Int32)))) (0 : Int32) σ) else (
  fL_1158 N k18 L xs x3 (xs (ix (x3 + (1 : Int32)))) (1 : Int32) σ)))
def fL_1188 (N : Nat) (k18 : Int32 → Mm → Option (Int32 × Mm)) (L : Nat) (xs : Nat → Int32) (x3 : Int32) (σ : Mm) : Option (Int32 × Mm) :=
  z_b (f10_forget N σ) fun r_372 σ_373 =>
  z_b (f11_forget N σ_373) fun r_375 σ_376 =>
  if r_372 = r_375 then (
  fL_1326 N k18 L xs x3 σ_376) else (
  some (0, σ_376))
def fL_1201 (N : Nat) (k18 : Int32 → Mm → Option (Int32 × Mm)) (L : Nat) (xs : Nat → Int32) (x3 : Int32) (σ : Mm) : Option (Int32 × Mm) :=
  z_c (inB (x3 + (1 : Int32)) L) (
  z_c (inB (x3 + (2 : Int32)) L) (
  z_b (f10_which N (xs (ix (x3 + (1 : Int32)))) (xs (ix (x3 + (2 : Int32)))) σ) fun r_382 σ_383 =>
  z_c (inB (x3 + (1 : Int32)) L) (
  z_c (inB (x3 + (2 : Int32)) L) (
  z_b (f11_which N (xs (ix (x3 + (1 : Int32)))) (xs (ix (x3 + (2 : Int32)))) σ_383) fun r_387 σ_388 =>
  if r_382 = r_387 then (
  fL_1326 N k18 L xs x3 σ_388) else (
  some (0, σ_388))))))
def fL_1234 (N : Nat) (k18 : Int32 → Mm → Option (Int32 × Mm)) (L : Nat) (xs : Nat → Int32) (x3 : Int32) (σ : Mm) : Option (Int32 × Mm) :=
  z_c (inB (x3 + (1 : Int32)) L) (
  z_b (f10_ask N (xs (ix (x3 + (1 : Int32)))) σ) fun r_393 σ_394 =>
  z_c (inB (x3 + (1 : Int32)) L) (
  z_b (f11_ask N (xs (ix (x3 + (1 : Int32)))) σ_394) fun r_397 σ_398 =>
  if r_393 = r_397 then (
  fL_1326 N k18 L xs x3 σ_398) else (
  some (0, σ_398))))
def fL_1257 (N : Nat) (k18 : Int32 → Mm → Option (Int32 × Mm)) (L : Nat) (xs : Nat → Int32) (x3 : Int32) (σ : Mm) : Option (Int32 × Mm) :=
  z_c (inB (x3 + (1 : Int32)) L) (
  z_b (f10_hold N (xs (ix (x3 + (1 : Int32)))) σ) fun r_403 σ_404 =>
  z_c (inB (x3 + (1 : Int32)) L) (
  z_b (f11_hold N (xs (ix (x3 + (1 : Int32)))) σ_404) fun r_407 σ_408 =>
  if r_403 = r_407 then (
  fL_1326 N k18 L xs x3 σ_408) else (
  some (0, σ_408))))
def fL_1280 (N : Nat) (k18 : Int32 → Mm → Option (Int32 × Mm)) (L : Nat) (xs : Nat → Int32) (x3 : Int32) (σ : Mm) : Option (Int32 × Mm) :=
  z_c (inB (x3 + (1 : Int32)) L) (
  z_b (f10_restore N (xs (ix (x3 + (1 : Int32)))) σ) fun r_413 σ_414 =>
  z_c (inB (x3 + (1 : Int32)) L) (
  z_b (f11_restore N (xs (ix (x3 + (1 : Int32)))) σ_414) fun r_417 σ_418 =>
  if r_413 = r_417 then (
  fL_1326 N k18 L xs x3 σ_418) else (
  some (0, σ_418))))
def fL_1303 (N : Nat) (k18 : Int32 → Mm → Option (Int32 × Mm)) (L : Nat) (xs : Nat → Int32) (x3 : Int32) (σ : Mm) : Option (Int32 × Mm) :=
  z_c (inB (x3 + (1 : Int32)) L) (
  z_b (f10_count N (xs (ix (x3 + (1 : Int32)))) σ) fun r_423 σ_424 =>
  z_c (inB (x3 + (1 : Int32)) L) (
  z_b (f11_count N (xs (ix (x3 + (1 : Int32)))) σ_424) fun r_427 σ_428 =>
  if r_423 = r_427 then (
  fL_1326 N k18 L xs x3 σ_428) else (
  some (0, σ_428))))
def fL_18 (N : Nat) (L : Nat) (xs : Nat → Int32) : Nat → Int32 → Mm → Option (Int32 × Mm)
  | 0, _, _ => none
  | fu + 1, x3, σ => if ((Int32.ofNat L) - (6 : Int32)) < x3 then (
  some (1, σ)) else (
  z_c (inB x3 L) (
  if ((xs (ix x3)) &&& (63 : Int32)) = (0 : Int32) then (
  fL_200 N (fun x3 σ => fL_18 N L xs fu x3 σ) L xs x3 σ) else (
  if ((xs (ix x3)) &&& (63 : Int32)) = (1 : Int32) then (
  fL_263 N (fun x3 σ => fL_18 N L xs fu x3 σ) L xs x3 σ) else (
  if ((xs (ix x3)) &&& (63 : Int32)) = (2 : Int32) then (
  fL_286 N (fun x3 σ => fL_18 N L xs fu x3 σ) L xs x3 σ) else (
  if ((xs (ix x3)) &&& (63 : Int32)) = (3 : Int32) then (
  fL_299 N (fun x3 σ => fL_18 N L xs fu x3 σ) L xs x3 σ) else (
  if ((xs (ix x3)) &&& (63 : Int32)) = (4 : Int32) then (
  fL_312 N (fun x3 σ => fL_18 N L xs fu x3 σ) L xs x3 σ) else (
  if ((xs (ix x3)) &&& (63 : Int32)) = (5 : Int32) then (
  fL_345 N (fun x3 σ => fL_18 N L xs fu x3 σ) L xs x3 σ) else (
  if ((xs (ix x3)) &&& (63 : Int32)) = (6 : Int32) then (
  fL_378 N (fun x3 σ => fL_18 N L xs fu x3 σ) L xs x3 σ) else (
  if ((xs (ix x3)) &&& (63 : Int32)) = (7 : Int32) then (
  fL_411 N (fun x3 σ => fL_18 N L xs fu x3 σ) L xs x3 σ) else (
  if ((xs (ix x3)) &&& (63 : Int32)) = (8 : Int32) then (
  fL_464 N (fun x3 σ => fL_18 N L xs fu x3 σ) L xs x3 σ) else (
  if ((xs (ix x3)) &&& (63 : Int32)) = (9 : Int32) then (
  fL_513 N (fun x3 σ => fL_18 N L xs fu x3 σ) L xs x3 σ) else (
  if ((xs (ix x3)) &&& (63 : Int32)) = (10 : Int32) then (
  fL_536 N (fun x3 σ => fL_18 N L xs fu x3 σ) L xs x3 σ) else (
  if ((xs (ix x3)) &&& (63 : Int32)) = (11 : Int32) then (
  fL_549 N (fun x3 σ => fL_18 N L xs fu x3 σ) L xs x3 σ) else (
  if ((xs (ix x3)) &&& (63 : Int32)) = (12 : Int32) then (
  fL_572 N (fun x3 σ => fL_18 N L xs fu x3 σ) L xs x3 σ) else (
  if ((xs (ix x3)) &&& (63 : Int32)) = (13 : Int32) then (
  fL_585 N (fun x3 σ => fL_18 N L xs fu x3 σ) L xs x3 σ) else (
  if ((xs (ix x3)) &&& (63 : Int32)) = (14 : Int32) then (
  fL_608 N (fun x3 σ => fL_18 N L xs fu x3 σ) L xs x3 σ) else (
  if ((xs (ix x3)) &&& (63 : Int32)) = (15 : Int32) then (
  fL_641 N (fun x3 σ => fL_18 N L xs fu x3 σ) L xs x3 σ) else (
  if ((xs (ix x3)) &&& (63 : Int32)) = (16 : Int32) then (
  fL_674 N (fun x3 σ => fL_18 N L xs fu x3 σ) L xs x3 σ) else (
  if ((xs (ix x3)) &&& (63 : Int32)) = (17 : Int32) then (
  fL_697 N (fun x3 σ => fL_18 N L xs fu x3 σ) L xs x3 σ) else (
  if ((xs (ix x3)) &&& (63 : Int32)) = (18 : Int32) then (
  fL_730 N (fun x3 σ => fL_18 N L xs fu x3 σ) L xs x3 σ) else (
  if ((xs (ix x3)) &&& (63 : Int32)) = (19 : Int32) then (
  fL_763 N (fun x3 σ => fL_18 N L xs fu x3 σ) L xs x3 σ) else (
  if ((xs (ix x3)) &&& (63 : Int32)) = (20 : Int32) then (
  fL_796 N (fun x3 σ => fL_18 N L xs fu x3 σ) L xs x3 σ) else (
  if ((xs (ix x3)) &&& (63 : Int32)) = (21 : Int32) then (
  fL_829 N (fun x3 σ => fL_18 N L xs fu x3 σ) L xs x3 σ) else (
  if ((xs (ix x3)) &&& (63 : Int32)) = (22 : Int32) then (
  fL_862 N (fun x3 σ => fL_18 N L xs fu x3 σ) L xs x3 σ) else (
  if ((xs (ix x3)) &&& (63 : Int32)) = (23 : Int32) then (
  fL_885 N (fun x3 σ => fL_18 N L xs fu x3 σ) L xs x3 σ) else (
  if ((xs (ix x3)) &&& (63 : Int32)) = (24 : Int32) then (
  fL_908 N (fun x3 σ => fL_18 N L xs fu x3 σ) L xs x3 σ) else (
  if ((xs (ix x3)) &&& (63 : Int32)) = (25 : Int32) then (
  fL_931 N (fun x3 σ => fL_18 N L xs fu x3 σ) L xs x3 σ) else (
  if ((xs (ix x3)) &&& (63 : Int32)) = (26 : Int32) then (
  fL_954 N (fun x3 σ => fL_18 N L xs fu x3 σ) L xs x3 σ) else (
  if ((xs (ix x3)) &&& (63 : Int32)) = (27 : Int32) then (
  fL_977 N (fun x3 σ => fL_18 N L xs fu x3 σ) L xs x3 σ) else (
  if ((xs (ix x3)) &&& (63 : Int32)) = (28 : Int32) then (
  fL_1010 N (fun x3 σ => fL_18 N L xs fu x3 σ) L xs x3 σ) else (
  if ((xs (ix x3)) &&& (63 : Int32)) = (29 : Int32) then (
  fL_1053 N (fun x3 σ => fL_18 N L xs fu x3 σ) L xs x3 σ) else (
  if ((xs (ix x3)) &&& (63 : Int32)) = (30 : Int32) then (
  fL_1086 N (fun x3 σ => fL_18 N L xs fu x3 σ) L xs x3 σ) else (
  if ((xs (ix x3)) &&& (63 : Int32)) = (31 : Int32) then (
  fL_1139 N (fun x3 σ => fL_18 N L xs fu x3 σ) L xs x3 σ) else (
  if ((xs (ix x3)) &&& (63 : Int32)) = (32 : Int32) then (
  fL_1188 N (fun x3 σ => fL_18 N L xs fu x3 σ) L xs x3 σ) else (
  if ((xs (ix x3)) &&& (63 : Int32)) = (33 : Int32) then (
  fL_1201 N (fun x3 σ => fL_18 N L xs fu x3 σ) L xs x3 σ) else (
  if ((xs (ix x3)) &&& (63 : Int32)) = (34 : Int32) then (
  fL_1234 N (fun x3 σ => fL_18 N L xs fu x3 σ) L xs x3 σ) else (
  if ((xs (ix x3)) &&& (63 : Int32)) = (35 : Int32) then (
  fL_1257 N (fun x3 σ => fL_18 N L xs fu x3 σ) L xs x3 σ) else (
  if ((xs (ix x3)) &&& (63 : Int32)) = (36 : Int32) then (
  fL_1280 N (fun x3 σ => fL_18 N L xs fu x3 σ) L xs x3 σ) else (
  if ((xs (ix x3)) &&& (63 : Int32)) = (37 : Int32) then (
  fL_1303 N (fun x3 σ => fL_18 N L xs fu x3 σ) L xs x3 σ) else (
  fL_1326 N (fun x3 σ => fL_18 N L xs fu x3 σ) L xs x3 σ))))))))))))))))))))))))))))))))))))))))
set_option maxHeartbeats 4000000 in
set_option maxRecDepth 100000 in
theorem wL_1326 (X : Cx p s m args c cL_law 4 RL G) (hr : meth.sig.returnType = ret) (hlk : meth.locks = false) {b : Nat} {L : Nat} {xs : Nat → Int32} (hX : va_X b L xs s s.heap) (hbl : b < s.heap.size) (hbA : ¬ Fr G b) (hG : G.2.2 = s.heap.size) (hav : args = #[Value.ref b]) (N : Nat) {k18 : Int32 → Mm → Option (Int32 × Mm)} (hk18 : ∀ (x3 : Int32) (σ : Mm) (H : Heap) (locs : List Loc) (ls : Array Slot), k18 x3 σ = some (1, σ0) → Rp G 212 tt σ s H locs → lv_has ls 4 [(0, .ref b), (1, .ref (G.2.2 + 0)), (2, .ref (G.2.2 + 160)), (3, .int x3)] → W p l e room_1 s m args below meth c H locs 212 21984 (lw_Z below args s) (F0 m 18 ls [])) :
    ∀ (x3 : Int32) (σ : Mm) (H : Heap) (locs : List Loc) (ls : Array Slot), fL_1326 N k18 L xs x3 σ = some (1, σ0) → Rp G 212 tt σ s H locs → lv_has ls 4 [(0, .ref b), (1, .ref (G.2.2 + 0)), (2, .ref (G.2.2 + 160)), (3, .int x3)] → W p l e room_1 s m args below meth c H locs 212 21984 (lw_Z below args s) (F0 m 1326 ls []) := by
  have hx := X.1
  have hb := X.2.1
  intro x3 σ H locs ls hf hR hl
  unfold fL_1326 at hf
  obtain ⟨x3_20, ex3_20⟩ : ∃ z : Int32, z = x3 + (6 : Int32) := ⟨_, rfl⟩
  replace hf := z_l_e ex3_20 hf
  refine lv_iinc (v := x3_20) (lv' := [(3, .int x3_20), (0, .ref b), (1, .ref (G.2.2 + 0)), (2, .ref (G.2.2 + 160))]) hx hb dL_law_1326 hl (k := 3) rfl (by rw [ex3_20]; rfl) (by decide) rfl (fun ls hl => ?_)
  refine lv_goto (tgt := 18) hx hb dL_law_1329 (by decide) ?_
  exact hk18 x3_20 σ _ _ _ hf hR (lv_sub hl [1, 2, 3, 0] rfl)
set_option maxHeartbeats 4000000 in
set_option maxRecDepth 100000 in
theorem wL_200 (X : Cx p s m args c cL_law 4 RL G) (hr : meth.sig.returnType = ret) (hlk : meth.locks = false) {b : Nat} {L : Nat} {xs : Nat → Int32} (hX : va_X b L xs s s.heap) (hbl : b < s.heap.size) (hbA : ¬ Fr G b) (hG : G.2.2 = s.heap.size) (hav : args = #[Value.ref b]) (N : Nat) {k18 : Int32 → Mm → Option (Int32 × Mm)} (hk18 : ∀ (x3 : Int32) (σ : Mm) (H : Heap) (locs : List Loc) (ls : Array Slot), k18 x3 σ = some (1, σ0) → Rp G 212 tt σ s H locs → lv_has ls 4 [(0, .ref b), (1, .ref (G.2.2 + 0)), (2, .ref (G.2.2 + 160)), (3, .int x3)] → W p l e room_1 s m args below meth c H locs 212 21984 (lw_Z below args s) (F0 m 18 ls [])) :
    ∀ (x3 : Int32) (σ : Mm) (H : Heap) (locs : List Loc) (ls : Array Slot), fL_200 N k18 L xs x3 σ = some (1, σ0) → Rp G 212 tt σ s H locs → lv_has ls 4 [(0, .ref b), (1, .ref (G.2.2 + 0)), (2, .ref (G.2.2 + 160)), (3, .int x3)] → W p l e room_1 s m args below meth c H locs 212 21984 (lw_Z below args s) (F0 m 200 ls []) := by
  have hx := X.1
  have hb := X.2.1
  intro x3 σ H locs ls hf hR hl
  unfold fL_200 at hf
  refine lv_aload_n hx hb dL_law_200 rfl (lv_at hl 1 rfl) ?_
  refine lv_aload_n hx hb dL_law_201 rfl (lv_at hl 0 rfl) ?_
  refine lv_iload_n hx hb dL_law_202 rfl (lv_at hl 3 rfl) ?_
  refine lv_iconst (v := (1 : Int32)) hx hb dL_law_203 (by decide) ?_
  refine lv_iadd hx hb dL_law_204 ?_
  obtain ⟨hi_3, hf⟩ := z_c_e hf
  refine va_sld hx hb hX hbl hbA hR.2.2.1 (inB_in hi_3) dL_law_205 ?_
  refine lv_aload_n hx hb dL_law_206 rfl (lv_at hl 0 rfl) ?_
  refine lv_iload_n hx hb dL_law_207 rfl (lv_at hl 3 rfl) ?_
  refine lv_iconst (v := (2 : Int32)) hx hb dL_law_208 (by decide) ?_
  refine lv_iadd hx hb dL_law_209 ?_
  obtain ⟨hi_4, hf⟩ := z_c_e hf
  refine va_sld hx hb hX hbl hbA hR.2.2.1 (inB_in hi_4) dL_law_210 ?_
  refine lv_aload_n hx hb dL_law_211 rfl (lv_at hl 0 rfl) ?_
  refine lv_iload_n hx hb dL_law_212 rfl (lv_at hl 3 rfl) ?_
  refine lv_iconst (v := (3 : Int32)) hx hb dL_law_213 (by decide) ?_
  refine lv_iadd hx hb dL_law_214 ?_
  obtain ⟨hi_5, hf⟩ := z_c_e hf
  refine va_sld hx hb hX hbl hbA hR.2.2.1 (inB_in hi_5) dL_law_215 ?_
  refine lv_aload_n hx hb dL_law_216 rfl (lv_at hl 0 rfl) ?_
  refine lv_iload_n hx hb dL_law_217 rfl (lv_at hl 3 rfl) ?_
  refine lv_iconst (v := (4 : Int32)) hx hb dL_law_218 (by decide) ?_
  refine lv_iadd hx hb dL_law_219 ?_
  obtain ⟨hi_6, hf⟩ := z_c_e hf
  refine va_sld hx hb hX hbl hbA hR.2.2.1 (inB_in hi_6) dL_law_220 ?_
  refine lv_aload_n hx hb dL_law_221 rfl (lv_at hl 0 rfl) ?_
  refine lv_iload_n hx hb dL_law_222 rfl (lv_at hl 3 rfl) ?_
  refine lv_iconst (v := (5 : Int32)) hx hb dL_law_223 (by decide) ?_
  refine lv_iadd hx hb dL_law_224 ?_
  obtain ⟨hi_7, hf⟩ := z_c_e hf
  refine va_sld hx hb hX hbl hbA hR.2.2.1 (inB_in hi_7) dL_law_225 ?_
  obtain ⟨r_8, σ_9, hc_10, hf⟩ := z_b_e hf
  refine go_i hR (mv_run (As := [.int (xs (ix (x3 + (1 : Int32)))), .int (xs (ix (x3 + (2 : Int32)))), .int (xs (ix (x3 + (3 : Int32)))), .int (xs (ix (x3 + (4 : Int32)))), .int (xs (ix (x3 + (5 : Int32))))]) (rest := []) X hR mv_99_13 kh_0 (kd_lt kh_0 (by decide)) (c10_feed l G N hc_10) ⟨rfl, rfl, Nat.le_of_ble_eq_true rfl, Nat.le_of_ble_eq_true rfl⟩ rfl hl.1 rfl (Nat.le_of_ble_eq_true rfl) dL_law_226 ⟨Nat.le_of_ble_eq_true rfl, Nat.le_of_ble_eq_true rfl⟩) (fun H locs hR => ?_)
  refine lv_aload_n hx hb dL_law_229 rfl (lv_at hl 2 rfl) ?_
  refine lv_aload_n hx hb dL_law_230 rfl (lv_at hl 0 rfl) ?_
  refine lv_iload_n hx hb dL_law_231 rfl (lv_at hl 3 rfl) ?_
  refine lv_iconst (v := (1 : Int32)) hx hb dL_law_232 (by decide) ?_
  refine lv_iadd hx hb dL_law_233 ?_
  obtain ⟨hi_11, hf⟩ := z_c_e hf
  refine va_sld hx hb hX hbl hbA hR.2.2.1 (inB_in hi_11) dL_law_234 ?_
  refine lv_aload_n hx hb dL_law_235 rfl (lv_at hl 0 rfl) ?_
  refine lv_iload_n hx hb dL_law_236 rfl (lv_at hl 3 rfl) ?_
  refine lv_iconst (v := (2 : Int32)) hx hb dL_law_237 (by decide) ?_
  refine lv_iadd hx hb dL_law_238 ?_
  obtain ⟨hi_12, hf⟩ := z_c_e hf
  refine va_sld hx hb hX hbl hbA hR.2.2.1 (inB_in hi_12) dL_law_239 ?_
  refine lv_aload_n hx hb dL_law_240 rfl (lv_at hl 0 rfl) ?_
  refine lv_iload_n hx hb dL_law_241 rfl (lv_at hl 3 rfl) ?_
  refine lv_iconst (v := (3 : Int32)) hx hb dL_law_242 (by decide) ?_
  refine lv_iadd hx hb dL_law_243 ?_
  obtain ⟨hi_13, hf⟩ := z_c_e hf
  refine va_sld hx hb hX hbl hbA hR.2.2.1 (inB_in hi_13) dL_law_244 ?_
  refine lv_aload_n hx hb dL_law_245 rfl (lv_at hl 0 rfl) ?_
  refine lv_iload_n hx hb dL_law_246 rfl (lv_at hl 3 rfl) ?_
  refine lv_iconst (v := (4 : Int32)) hx hb dL_law_247 (by decide) ?_
  refine lv_iadd hx hb dL_law_248 ?_
  obtain ⟨hi_14, hf⟩ := z_c_e hf
  refine va_sld hx hb hX hbl hbA hR.2.2.1 (inB_in hi_14) dL_law_249 ?_
  refine lv_aload_n hx hb dL_law_250 rfl (lv_at hl 0 rfl) ?_
  refine lv_iload_n hx hb dL_law_251 rfl (lv_at hl 3 rfl) ?_
  refine lv_iconst (v := (5 : Int32)) hx hb dL_law_252 (by decide) ?_
  refine lv_iadd hx hb dL_law_253 ?_
  obtain ⟨hi_15, hf⟩ := z_c_e hf
  refine va_sld hx hb hX hbl hbA hR.2.2.1 (inB_in hi_15) dL_law_254 ?_
  obtain ⟨r_16, σ_17, hc_18, hf⟩ := z_b_e hf
  refine go_i hR (mv_run (As := [.int (xs (ix (x3 + (1 : Int32)))), .int (xs (ix (x3 + (2 : Int32)))), .int (xs (ix (x3 + (3 : Int32)))), .int (xs (ix (x3 + (4 : Int32)))), .int (xs (ix (x3 + (5 : Int32))))]) (rest := [.int r_8]) X hR mv_99_17 kh_160 (kd_lt kh_160 (by decide)) (c11_feed l G N hc_18) ⟨rfl, rfl, Nat.le_of_ble_eq_true rfl, Nat.le_of_ble_eq_true rfl⟩ rfl hl.1 rfl (Nat.le_of_ble_eq_true rfl) dL_law_255 ⟨Nat.le_of_ble_eq_true rfl, Nat.le_of_ble_eq_true rfl⟩) (fun H locs hR => ?_)
  refine lv_icmp_eq (tgt := 1326) hx hb dL_law_258 (by decide) (fun c_19 => ?_) (fun c_19 => ?_)
  · replace hf := z_t c_19 hf
    exact wL_1326 X hr hlk hX hbl hbA hG hav N hk18 x3 σ_17 _ _ _ hf hR (lv_sub hl [0, 1, 2, 3] rfl)
  · replace hf := z_f c_19 hf
    refine lv_iconst (v := (0 : Int32)) hx hb dL_law_261 (by decide) ?_
    exact absurd (congrArg Prod.fst (Option.some.inj hf)) (show ¬ ((0 : Int32) = 1) by decide)
set_option maxHeartbeats 4000000 in
set_option maxRecDepth 100000 in
theorem wL_263 (X : Cx p s m args c cL_law 4 RL G) (hr : meth.sig.returnType = ret) (hlk : meth.locks = false) {b : Nat} {L : Nat} {xs : Nat → Int32} (hX : va_X b L xs s s.heap) (hbl : b < s.heap.size) (hbA : ¬ Fr G b) (hG : G.2.2 = s.heap.size) (hav : args = #[Value.ref b]) (N : Nat) {k18 : Int32 → Mm → Option (Int32 × Mm)} (hk18 : ∀ (x3 : Int32) (σ : Mm) (H : Heap) (locs : List Loc) (ls : Array Slot), k18 x3 σ = some (1, σ0) → Rp G 212 tt σ s H locs → lv_has ls 4 [(0, .ref b), (1, .ref (G.2.2 + 0)), (2, .ref (G.2.2 + 160)), (3, .int x3)] → W p l e room_1 s m args below meth c H locs 212 21984 (lw_Z below args s) (F0 m 18 ls [])) :
    ∀ (x3 : Int32) (σ : Mm) (H : Heap) (locs : List Loc) (ls : Array Slot), fL_263 N k18 L xs x3 σ = some (1, σ0) → Rp G 212 tt σ s H locs → lv_has ls 4 [(0, .ref b), (1, .ref (G.2.2 + 0)), (2, .ref (G.2.2 + 160)), (3, .int x3)] → W p l e room_1 s m args below meth c H locs 212 21984 (lw_Z below args s) (F0 m 263 ls []) := by
  have hx := X.1
  have hb := X.2.1
  intro x3 σ H locs ls hf hR hl
  unfold fL_263 at hf
  refine lv_aload_n hx hb dL_law_263 rfl (lv_at hl 1 rfl) ?_
  refine lv_aload_n hx hb dL_law_264 rfl (lv_at hl 0 rfl) ?_
  refine lv_iload_n hx hb dL_law_265 rfl (lv_at hl 3 rfl) ?_
  refine lv_iconst (v := (1 : Int32)) hx hb dL_law_266 (by decide) ?_
  refine lv_iadd hx hb dL_law_267 ?_
  obtain ⟨hi_22, hf⟩ := z_c_e hf
  refine va_sld hx hb hX hbl hbA hR.2.2.1 (inB_in hi_22) dL_law_268 ?_
  obtain ⟨r_23, σ_24, hc_25, hf⟩ := z_b_e hf
  refine go_i hR (mv_run (As := [.int (xs (ix (x3 + (1 : Int32))))]) (rest := []) X hR mv_99_18 kh_0 (kd_lt kh_0 (by decide)) (c10_back l G N hc_25) ⟨rfl, rfl, Nat.le_of_ble_eq_true rfl, Nat.le_of_ble_eq_true rfl⟩ rfl hl.1 rfl (Nat.le_of_ble_eq_true rfl) dL_law_269 ⟨Nat.le_of_ble_eq_true rfl, Nat.le_of_ble_eq_true rfl⟩) (fun H locs hR => ?_)
  refine lv_aload_n hx hb dL_law_272 rfl (lv_at hl 2 rfl) ?_
  refine lv_aload_n hx hb dL_law_273 rfl (lv_at hl 0 rfl) ?_
  refine lv_iload_n hx hb dL_law_274 rfl (lv_at hl 3 rfl) ?_
  refine lv_iconst (v := (1 : Int32)) hx hb dL_law_275 (by decide) ?_
  refine lv_iadd hx hb dL_law_276 ?_
  obtain ⟨hi_26, hf⟩ := z_c_e hf
  refine va_sld hx hb hX hbl hbA hR.2.2.1 (inB_in hi_26) dL_law_277 ?_
  obtain ⟨r_27, σ_28, hc_29, hf⟩ := z_b_e hf
  refine go_i hR (mv_run (As := [.int (xs (ix (x3 + (1 : Int32))))]) (rest := [.int r_23]) X hR mv_99_22 kh_160 (kd_lt kh_160 (by decide)) (c11_back l G N hc_29) ⟨rfl, rfl, Nat.le_of_ble_eq_true rfl, Nat.le_of_ble_eq_true rfl⟩ rfl hl.1 rfl (Nat.le_of_ble_eq_true rfl) dL_law_278 ⟨Nat.le_of_ble_eq_true rfl, Nat.le_of_ble_eq_true rfl⟩) (fun H locs hR => ?_)
  refine lv_icmp_eq (tgt := 1326) hx hb dL_law_281 (by decide) (fun c_30 => ?_) (fun c_30 => ?_)
  · replace hf := z_t c_30 hf
    exact wL_1326 X hr hlk hX hbl hbA hG hav N hk18 x3 σ_28 _ _ _ hf hR (lv_sub hl [0, 1, 2, 3] rfl)
  · replace hf := z_f c_30 hf
    refine lv_iconst (v := (0 : Int32)) hx hb dL_law_284 (by decide) ?_
    exact absurd (congrArg Prod.fst (Option.some.inj hf)) (show ¬ ((0 : Int32) = 1) by decide)
set_option maxHeartbeats 4000000 in
set_option maxRecDepth 100000 in
theorem wL_286 (X : Cx p s m args c cL_law 4 RL G) (hr : meth.sig.returnType = ret) (hlk : meth.locks = false) {b : Nat} {L : Nat} {xs : Nat → Int32} (hX : va_X b L xs s s.heap) (hbl : b < s.heap.size) (hbA : ¬ Fr G b) (hG : G.2.2 = s.heap.size) (hav : args = #[Value.ref b]) (N : Nat) {k18 : Int32 → Mm → Option (Int32 × Mm)} (hk18 : ∀ (x3 : Int32) (σ : Mm) (H : Heap) (locs : List Loc) (ls : Array Slot), k18 x3 σ = some (1, σ0) → Rp G 212 tt σ s H locs → lv_has ls 4 [(0, .ref b), (1, .ref (G.2.2 + 0)), (2, .ref (G.2.2 + 160)), (3, .int x3)] → W p l e room_1 s m args below meth c H locs 212 21984 (lw_Z below args s) (F0 m 18 ls [])) :
    ∀ (x3 : Int32) (σ : Mm) (H : Heap) (locs : List Loc) (ls : Array Slot), fL_286 N k18 L xs x3 σ = some (1, σ0) → Rp G 212 tt σ s H locs → lv_has ls 4 [(0, .ref b), (1, .ref (G.2.2 + 0)), (2, .ref (G.2.2 + 160)), (3, .int x3)] → W p l e room_1 s m args below meth c H locs 212 21984 (lw_Z below args s) (F0 m 286 ls []) := by
  have hx := X.1
  have hb := X.2.1
  intro x3 σ H locs ls hf hR hl
  unfold fL_286 at hf
  refine lv_aload_n hx hb dL_law_286 rfl (lv_at hl 1 rfl) ?_
  obtain ⟨r_32, σ_33, hc_34, hf⟩ := z_b_e hf
  refine go_i hR (mv_run (As := []) (rest := []) X hR mv_99_23 kh_0 (kd_lt kh_0 (by decide)) (c10_read l G N hc_34) ⟨rfl, rfl, Nat.le_of_ble_eq_true rfl, Nat.le_of_ble_eq_true rfl⟩ rfl hl.1 rfl (Nat.le_of_ble_eq_true rfl) dL_law_287 ⟨Nat.le_of_ble_eq_true rfl, Nat.le_of_ble_eq_true rfl⟩) (fun H locs hR => ?_)
  refine lv_aload_n hx hb dL_law_290 rfl (lv_at hl 2 rfl) ?_
  obtain ⟨r_35, σ_36, hc_37, hf⟩ := z_b_e hf
  refine go_i hR (mv_run (As := []) (rest := [.int r_32]) X hR mv_99_27 kh_160 (kd_lt kh_160 (by decide)) (c11_read l G N hc_37) ⟨rfl, rfl, Nat.le_of_ble_eq_true rfl, Nat.le_of_ble_eq_true rfl⟩ rfl hl.1 rfl (Nat.le_of_ble_eq_true rfl) dL_law_291 ⟨Nat.le_of_ble_eq_true rfl, Nat.le_of_ble_eq_true rfl⟩) (fun H locs hR => ?_)
  refine lv_icmp_eq (tgt := 1326) hx hb dL_law_294 (by decide) (fun c_38 => ?_) (fun c_38 => ?_)
  · replace hf := z_t c_38 hf
    exact wL_1326 X hr hlk hX hbl hbA hG hav N hk18 x3 σ_36 _ _ _ hf hR (lv_sub hl [0, 1, 2, 3] rfl)
  · replace hf := z_f c_38 hf
    refine lv_iconst (v := (0 : Int32)) hx hb dL_law_297 (by decide) ?_
    exact absurd (congrArg Prod.fst (Option.some.inj hf)) (show ¬ ((0 : Int32) = 1) by decide)
set_option maxHeartbeats 4000000 in
set_option maxRecDepth 100000 in
theorem wL_299 (X : Cx p s m args c cL_law 4 RL G) (hr : meth.sig.returnType = ret) (hlk : meth.locks = false) {b : Nat} {L : Nat} {xs : Nat → Int32} (hX : va_X b L xs s s.heap) (hbl : b < s.heap.size) (hbA : ¬ Fr G b) (hG : G.2.2 = s.heap.size) (hav : args = #[Value.ref b]) (N : Nat) {k18 : Int32 → Mm → Option (Int32 × Mm)} (hk18 : ∀ (x3 : Int32) (σ : Mm) (H : Heap) (locs : List Loc) (ls : Array Slot), k18 x3 σ = some (1, σ0) → Rp G 212 tt σ s H locs → lv_has ls 4 [(0, .ref b), (1, .ref (G.2.2 + 0)), (2, .ref (G.2.2 + 160)), (3, .int x3)] → W p l e room_1 s m args below meth c H locs 212 21984 (lw_Z below args s) (F0 m 18 ls [])) :
    ∀ (x3 : Int32) (σ : Mm) (H : Heap) (locs : List Loc) (ls : Array Slot), fL_299 N k18 L xs x3 σ = some (1, σ0) → Rp G 212 tt σ s H locs → lv_has ls 4 [(0, .ref b), (1, .ref (G.2.2 + 0)), (2, .ref (G.2.2 + 160)), (3, .int x3)] → W p l e room_1 s m args below meth c H locs 212 21984 (lw_Z below args s) (F0 m 299 ls []) := by
  have hx := X.1
  have hb := X.2.1
  intro x3 σ H locs ls hf hR hl
  unfold fL_299 at hf
  refine lv_aload_n hx hb dL_law_299 rfl (lv_at hl 1 rfl) ?_
  obtain ⟨r_40, σ_41, hc_42, hf⟩ := z_b_e hf
  refine go_i hR (mv_run (As := []) (rest := []) X hR mv_99_28 kh_0 (kd_lt kh_0 (by decide)) (c10_place l G N hc_42) ⟨rfl, rfl, Nat.le_of_ble_eq_true rfl, Nat.le_of_ble_eq_true rfl⟩ rfl hl.1 rfl (Nat.le_of_ble_eq_true rfl) dL_law_300 ⟨Nat.le_of_ble_eq_true rfl, Nat.le_of_ble_eq_true rfl⟩) (fun H locs hR => ?_)
  refine lv_aload_n hx hb dL_law_303 rfl (lv_at hl 2 rfl) ?_
  obtain ⟨r_43, σ_44, hc_45, hf⟩ := z_b_e hf
  refine go_i hR (mv_run (As := []) (rest := [.int r_40]) X hR mv_99_31 kh_160 (kd_lt kh_160 (by decide)) (c11_place l G N hc_45) ⟨rfl, rfl, Nat.le_of_ble_eq_true rfl, Nat.le_of_ble_eq_true rfl⟩ rfl hl.1 rfl (Nat.le_of_ble_eq_true rfl) dL_law_304 ⟨Nat.le_of_ble_eq_true rfl, Nat.le_of_ble_eq_true rfl⟩) (fun H locs hR => ?_)
  refine lv_icmp_eq (tgt := 1326) hx hb dL_law_307 (by decide) (fun c_46 => ?_) (fun c_46 => ?_)
  · replace hf := z_t c_46 hf
    exact wL_1326 X hr hlk hX hbl hbA hG hav N hk18 x3 σ_44 _ _ _ hf hR (lv_sub hl [0, 1, 2, 3] rfl)
  · replace hf := z_f c_46 hf
    refine lv_iconst (v := (0 : Int32)) hx hb dL_law_310 (by decide) ?_
    exact absurd (congrArg Prod.fst (Option.some.inj hf)) (show ¬ ((0 : Int32) = 1) by decide)
set_option maxHeartbeats 4000000 in
set_option maxRecDepth 100000 in
theorem wL_312 (X : Cx p s m args c cL_law 4 RL G) (hr : meth.sig.returnType = ret) (hlk : meth.locks = false) {b : Nat} {L : Nat} {xs : Nat → Int32} (hX : va_X b L xs s s.heap) (hbl : b < s.heap.size) (hbA : ¬ Fr G b) (hG : G.2.2 = s.heap.size) (hav : args = #[Value.ref b]) (N : Nat) {k18 : Int32 → Mm → Option (Int32 × Mm)} (hk18 : ∀ (x3 : Int32) (σ : Mm) (H : Heap) (locs : List Loc) (ls : Array Slot), k18 x3 σ = some (1, σ0) → Rp G 212 tt σ s H locs → lv_has ls 4 [(0, .ref b), (1, .ref (G.2.2 + 0)), (2, .ref (G.2.2 + 160)), (3, .int x3)] → W p l e room_1 s m args below meth c H locs 212 21984 (lw_Z below args s) (F0 m 18 ls [])) :
    ∀ (x3 : Int32) (σ : Mm) (H : Heap) (locs : List Loc) (ls : Array Slot), fL_312 N k18 L xs x3 σ = some (1, σ0) → Rp G 212 tt σ s H locs → lv_has ls 4 [(0, .ref b), (1, .ref (G.2.2 + 0)), (2, .ref (G.2.2 + 160)), (3, .int x3)] → W p l e room_1 s m args below meth c H locs 212 21984 (lw_Z below args s) (F0 m 312 ls []) := by
  have hx := X.1
  have hb := X.2.1
  intro x3 σ H locs ls hf hR hl
  unfold fL_312 at hf
  refine lv_aload_n hx hb dL_law_312 rfl (lv_at hl 1 rfl) ?_
  refine lv_aload_n hx hb dL_law_313 rfl (lv_at hl 0 rfl) ?_
  refine lv_iload_n hx hb dL_law_314 rfl (lv_at hl 3 rfl) ?_
  refine lv_iconst (v := (1 : Int32)) hx hb dL_law_315 (by decide) ?_
  refine lv_iadd hx hb dL_law_316 ?_
  obtain ⟨hi_48, hf⟩ := z_c_e hf
  refine va_sld hx hb hX hbl hbA hR.2.2.1 (inB_in hi_48) dL_law_317 ?_
  refine lv_aload_n hx hb dL_law_318 rfl (lv_at hl 0 rfl) ?_
  refine lv_iload_n hx hb dL_law_319 rfl (lv_at hl 3 rfl) ?_
  refine lv_iconst (v := (2 : Int32)) hx hb dL_law_320 (by decide) ?_
  refine lv_iadd hx hb dL_law_321 ?_
  obtain ⟨hi_49, hf⟩ := z_c_e hf
  refine va_sld hx hb hX hbl hbA hR.2.2.1 (inB_in hi_49) dL_law_322 ?_
  obtain ⟨r_50, σ_51, hc_52, hf⟩ := z_b_e hf
  refine go_i hR (mv_run (As := [.int (xs (ix (x3 + (1 : Int32)))), .int (xs (ix (x3 + (2 : Int32))))]) (rest := []) X hR mv_99_32 kh_0 (kd_lt kh_0 (by decide)) (c10_plot l G N hc_52) ⟨rfl, rfl, Nat.le_of_ble_eq_true rfl, Nat.le_of_ble_eq_true rfl⟩ rfl hl.1 rfl (Nat.le_of_ble_eq_true rfl) dL_law_323 ⟨Nat.le_of_ble_eq_true rfl, Nat.le_of_ble_eq_true rfl⟩) (fun H locs hR => ?_)
  refine lv_aload_n hx hb dL_law_326 rfl (lv_at hl 2 rfl) ?_
  refine lv_aload_n hx hb dL_law_327 rfl (lv_at hl 0 rfl) ?_
  refine lv_iload_n hx hb dL_law_328 rfl (lv_at hl 3 rfl) ?_
  refine lv_iconst (v := (1 : Int32)) hx hb dL_law_329 (by decide) ?_
  refine lv_iadd hx hb dL_law_330 ?_
  obtain ⟨hi_53, hf⟩ := z_c_e hf
  refine va_sld hx hb hX hbl hbA hR.2.2.1 (inB_in hi_53) dL_law_331 ?_
  refine lv_aload_n hx hb dL_law_332 rfl (lv_at hl 0 rfl) ?_
  refine lv_iload_n hx hb dL_law_333 rfl (lv_at hl 3 rfl) ?_
  refine lv_iconst (v := (2 : Int32)) hx hb dL_law_334 (by decide) ?_
  refine lv_iadd hx hb dL_law_335 ?_
  obtain ⟨hi_54, hf⟩ := z_c_e hf
  refine va_sld hx hb hX hbl hbA hR.2.2.1 (inB_in hi_54) dL_law_336 ?_
  obtain ⟨r_55, σ_56, hc_57, hf⟩ := z_b_e hf
  refine go_i hR (mv_run (As := [.int (xs (ix (x3 + (1 : Int32)))), .int (xs (ix (x3 + (2 : Int32))))]) (rest := [.int r_50]) X hR mv_99_36 kh_160 (kd_lt kh_160 (by decide)) (c11_plot l G N hc_57) ⟨rfl, rfl, Nat.le_of_ble_eq_true rfl, Nat.le_of_ble_eq_true rfl⟩ rfl hl.1 rfl (Nat.le_of_ble_eq_true rfl) dL_law_337 ⟨Nat.le_of_ble_eq_true rfl, Nat.le_of_ble_eq_true rfl⟩) (fun H locs hR => ?_)
  refine lv_icmp_eq (tgt := 1326) hx hb dL_law_340 (by decide) (fun c_58 => ?_) (fun c_58 => ?_)
  · replace hf := z_t c_58 hf
    exact wL_1326 X hr hlk hX hbl hbA hG hav N hk18 x3 σ_56 _ _ _ hf hR (lv_sub hl [0, 1, 2, 3] rfl)
  · replace hf := z_f c_58 hf
    refine lv_iconst (v := (0 : Int32)) hx hb dL_law_343 (by decide) ?_
    exact absurd (congrArg Prod.fst (Option.some.inj hf)) (show ¬ ((0 : Int32) = 1) by decide)
set_option maxHeartbeats 4000000 in
set_option maxRecDepth 100000 in
theorem wL_345 (X : Cx p s m args c cL_law 4 RL G) (hr : meth.sig.returnType = ret) (hlk : meth.locks = false) {b : Nat} {L : Nat} {xs : Nat → Int32} (hX : va_X b L xs s s.heap) (hbl : b < s.heap.size) (hbA : ¬ Fr G b) (hG : G.2.2 = s.heap.size) (hav : args = #[Value.ref b]) (N : Nat) {k18 : Int32 → Mm → Option (Int32 × Mm)} (hk18 : ∀ (x3 : Int32) (σ : Mm) (H : Heap) (locs : List Loc) (ls : Array Slot), k18 x3 σ = some (1, σ0) → Rp G 212 tt σ s H locs → lv_has ls 4 [(0, .ref b), (1, .ref (G.2.2 + 0)), (2, .ref (G.2.2 + 160)), (3, .int x3)] → W p l e room_1 s m args below meth c H locs 212 21984 (lw_Z below args s) (F0 m 18 ls [])) :
    ∀ (x3 : Int32) (σ : Mm) (H : Heap) (locs : List Loc) (ls : Array Slot), fL_345 N k18 L xs x3 σ = some (1, σ0) → Rp G 212 tt σ s H locs → lv_has ls 4 [(0, .ref b), (1, .ref (G.2.2 + 0)), (2, .ref (G.2.2 + 160)), (3, .int x3)] → W p l e room_1 s m args below meth c H locs 212 21984 (lw_Z below args s) (F0 m 345 ls []) := by
  have hx := X.1
  have hb := X.2.1
  intro x3 σ H locs ls hf hR hl
  unfold fL_345 at hf
  refine lv_aload_n hx hb dL_law_345 rfl (lv_at hl 1 rfl) ?_
  refine lv_aload_n hx hb dL_law_346 rfl (lv_at hl 0 rfl) ?_
  refine lv_iload_n hx hb dL_law_347 rfl (lv_at hl 3 rfl) ?_
  refine lv_iconst (v := (1 : Int32)) hx hb dL_law_348 (by decide) ?_
  refine lv_iadd hx hb dL_law_349 ?_
  obtain ⟨hi_60, hf⟩ := z_c_e hf
  refine va_sld hx hb hX hbl hbA hR.2.2.1 (inB_in hi_60) dL_law_350 ?_
  refine lv_aload_n hx hb dL_law_351 rfl (lv_at hl 0 rfl) ?_
  refine lv_iload_n hx hb dL_law_352 rfl (lv_at hl 3 rfl) ?_
  refine lv_iconst (v := (2 : Int32)) hx hb dL_law_353 (by decide) ?_
  refine lv_iadd hx hb dL_law_354 ?_
  obtain ⟨hi_61, hf⟩ := z_c_e hf
  refine va_sld hx hb hX hbl hbA hR.2.2.1 (inB_in hi_61) dL_law_355 ?_
  obtain ⟨r_62, σ_63, hc_64, hf⟩ := z_b_e hf
  refine go_i hR (mv_run (As := [.int (xs (ix (x3 + (1 : Int32)))), .int (xs (ix (x3 + (2 : Int32))))]) (rest := []) X hR mv_99_37 kh_0 (kd_lt kh_0 (by decide)) (c10_witness l G N hc_64) ⟨rfl, rfl, Nat.le_of_ble_eq_true rfl, Nat.le_of_ble_eq_true rfl⟩ rfl hl.1 rfl (Nat.le_of_ble_eq_true rfl) dL_law_356 ⟨Nat.le_of_ble_eq_true rfl, Nat.le_of_ble_eq_true rfl⟩) (fun H locs hR => ?_)
  refine lv_aload_n hx hb dL_law_359 rfl (lv_at hl 2 rfl) ?_
  refine lv_aload_n hx hb dL_law_360 rfl (lv_at hl 0 rfl) ?_
  refine lv_iload_n hx hb dL_law_361 rfl (lv_at hl 3 rfl) ?_
  refine lv_iconst (v := (1 : Int32)) hx hb dL_law_362 (by decide) ?_
  refine lv_iadd hx hb dL_law_363 ?_
  obtain ⟨hi_65, hf⟩ := z_c_e hf
  refine va_sld hx hb hX hbl hbA hR.2.2.1 (inB_in hi_65) dL_law_364 ?_
  refine lv_aload_n hx hb dL_law_365 rfl (lv_at hl 0 rfl) ?_
  refine lv_iload_n hx hb dL_law_366 rfl (lv_at hl 3 rfl) ?_
  refine lv_iconst (v := (2 : Int32)) hx hb dL_law_367 (by decide) ?_
  refine lv_iadd hx hb dL_law_368 ?_
  obtain ⟨hi_66, hf⟩ := z_c_e hf
  refine va_sld hx hb hX hbl hbA hR.2.2.1 (inB_in hi_66) dL_law_369 ?_
  obtain ⟨r_67, σ_68, hc_69, hf⟩ := z_b_e hf
  refine go_i hR (mv_run (As := [.int (xs (ix (x3 + (1 : Int32)))), .int (xs (ix (x3 + (2 : Int32))))]) (rest := [.int r_62]) X hR mv_99_40 kh_160 (kd_lt kh_160 (by decide)) (c11_witness l G N hc_69) ⟨rfl, rfl, Nat.le_of_ble_eq_true rfl, Nat.le_of_ble_eq_true rfl⟩ rfl hl.1 rfl (Nat.le_of_ble_eq_true rfl) dL_law_370 ⟨Nat.le_of_ble_eq_true rfl, Nat.le_of_ble_eq_true rfl⟩) (fun H locs hR => ?_)
  refine lv_icmp_eq (tgt := 1326) hx hb dL_law_373 (by decide) (fun c_70 => ?_) (fun c_70 => ?_)
  · replace hf := z_t c_70 hf
    exact wL_1326 X hr hlk hX hbl hbA hG hav N hk18 x3 σ_68 _ _ _ hf hR (lv_sub hl [0, 1, 2, 3] rfl)
  · replace hf := z_f c_70 hf
    refine lv_iconst (v := (0 : Int32)) hx hb dL_law_376 (by decide) ?_
    exact absurd (congrArg Prod.fst (Option.some.inj hf)) (show ¬ ((0 : Int32) = 1) by decide)
set_option maxHeartbeats 4000000 in
set_option maxRecDepth 100000 in
theorem wL_378 (X : Cx p s m args c cL_law 4 RL G) (hr : meth.sig.returnType = ret) (hlk : meth.locks = false) {b : Nat} {L : Nat} {xs : Nat → Int32} (hX : va_X b L xs s s.heap) (hbl : b < s.heap.size) (hbA : ¬ Fr G b) (hG : G.2.2 = s.heap.size) (hav : args = #[Value.ref b]) (N : Nat) {k18 : Int32 → Mm → Option (Int32 × Mm)} (hk18 : ∀ (x3 : Int32) (σ : Mm) (H : Heap) (locs : List Loc) (ls : Array Slot), k18 x3 σ = some (1, σ0) → Rp G 212 tt σ s H locs → lv_has ls 4 [(0, .ref b), (1, .ref (G.2.2 + 0)), (2, .ref (G.2.2 + 160)), (3, .int x3)] → W p l e room_1 s m args below meth c H locs 212 21984 (lw_Z below args s) (F0 m 18 ls [])) :
    ∀ (x3 : Int32) (σ : Mm) (H : Heap) (locs : List Loc) (ls : Array Slot), fL_378 N k18 L xs x3 σ = some (1, σ0) → Rp G 212 tt σ s H locs → lv_has ls 4 [(0, .ref b), (1, .ref (G.2.2 + 0)), (2, .ref (G.2.2 + 160)), (3, .int x3)] → W p l e room_1 s m args below meth c H locs 212 21984 (lw_Z below args s) (F0 m 378 ls []) := by
  have hx := X.1
  have hb := X.2.1
  intro x3 σ H locs ls hf hR hl
  unfold fL_378 at hf
  refine lv_aload_n hx hb dL_law_378 rfl (lv_at hl 1 rfl) ?_
  refine lv_aload_n hx hb dL_law_379 rfl (lv_at hl 0 rfl) ?_
  refine lv_iload_n hx hb dL_law_380 rfl (lv_at hl 3 rfl) ?_
  refine lv_iconst (v := (1 : Int32)) hx hb dL_law_381 (by decide) ?_
  refine lv_iadd hx hb dL_law_382 ?_
  obtain ⟨hi_72, hf⟩ := z_c_e hf
  refine va_sld hx hb hX hbl hbA hR.2.2.1 (inB_in hi_72) dL_law_383 ?_
  refine lv_aload_n hx hb dL_law_384 rfl (lv_at hl 0 rfl) ?_
  refine lv_iload_n hx hb dL_law_385 rfl (lv_at hl 3 rfl) ?_
  refine lv_iconst (v := (2 : Int32)) hx hb dL_law_386 (by decide) ?_
  refine lv_iadd hx hb dL_law_387 ?_
  obtain ⟨hi_73, hf⟩ := z_c_e hf
  refine va_sld hx hb hX hbl hbA hR.2.2.1 (inB_in hi_73) dL_law_388 ?_
  obtain ⟨r_74, σ_75, hc_76, hf⟩ := z_b_e hf
  refine go_i hR (mv_run (As := [.int (xs (ix (x3 + (1 : Int32)))), .int (xs (ix (x3 + (2 : Int32))))]) (rest := []) X hR mv_99_41 kh_0 (kd_lt kh_0 (by decide)) (c10_giving l G N hc_76) ⟨rfl, rfl, Nat.le_of_ble_eq_true rfl, Nat.le_of_ble_eq_true rfl⟩ rfl hl.1 rfl (Nat.le_of_ble_eq_true rfl) dL_law_389 ⟨Nat.le_of_ble_eq_true rfl, Nat.le_of_ble_eq_true rfl⟩) (fun H locs hR => ?_)
  refine lv_aload_n hx hb dL_law_392 rfl (lv_at hl 2 rfl) ?_
  refine lv_aload_n hx hb dL_law_393 rfl (lv_at hl 0 rfl) ?_
  refine lv_iload_n hx hb dL_law_394 rfl (lv_at hl 3 rfl) ?_
  refine lv_iconst (v := (1 : Int32)) hx hb dL_law_395 (by decide) ?_
  refine lv_iadd hx hb dL_law_396 ?_
  obtain ⟨hi_77, hf⟩ := z_c_e hf
  refine va_sld hx hb hX hbl hbA hR.2.2.1 (inB_in hi_77) dL_law_397 ?_
  refine lv_aload_n hx hb dL_law_398 rfl (lv_at hl 0 rfl) ?_
  refine lv_iload_n hx hb dL_law_399 rfl (lv_at hl 3 rfl) ?_
  refine lv_iconst (v := (2 : Int32)) hx hb dL_law_400 (by decide) ?_
  refine lv_iadd hx hb dL_law_401 ?_
  obtain ⟨hi_78, hf⟩ := z_c_e hf
  refine va_sld hx hb hX hbl hbA hR.2.2.1 (inB_in hi_78) dL_law_402 ?_
  obtain ⟨r_79, σ_80, hc_81, hf⟩ := z_b_e hf
  refine go_i hR (mv_run (As := [.int (xs (ix (x3 + (1 : Int32)))), .int (xs (ix (x3 + (2 : Int32))))]) (rest := [.int r_74]) X hR mv_99_44 kh_160 (kd_lt kh_160 (by decide)) (c11_giving l G N hc_81) ⟨rfl, rfl, Nat.le_of_ble_eq_true rfl, Nat.le_of_ble_eq_true rfl⟩ rfl hl.1 rfl (Nat.le_of_ble_eq_true rfl) dL_law_403 ⟨Nat.le_of_ble_eq_true rfl, Nat.le_of_ble_eq_true rfl⟩) (fun H locs hR => ?_)
  refine lv_icmp_eq (tgt := 1326) hx hb dL_law_406 (by decide) (fun c_82 => ?_) (fun c_82 => ?_)
  · replace hf := z_t c_82 hf
    exact wL_1326 X hr hlk hX hbl hbA hG hav N hk18 x3 σ_80 _ _ _ hf hR (lv_sub hl [0, 1, 2, 3] rfl)
  · replace hf := z_f c_82 hf
    refine lv_iconst (v := (0 : Int32)) hx hb dL_law_409 (by decide) ?_
    exact absurd (congrArg Prod.fst (Option.some.inj hf)) (show ¬ ((0 : Int32) = 1) by decide)
set_option maxHeartbeats 4000000 in
set_option maxRecDepth 100000 in
theorem wL_411 (X : Cx p s m args c cL_law 4 RL G) (hr : meth.sig.returnType = ret) (hlk : meth.locks = false) {b : Nat} {L : Nat} {xs : Nat → Int32} (hX : va_X b L xs s s.heap) (hbl : b < s.heap.size) (hbA : ¬ Fr G b) (hG : G.2.2 = s.heap.size) (hav : args = #[Value.ref b]) (N : Nat) {k18 : Int32 → Mm → Option (Int32 × Mm)} (hk18 : ∀ (x3 : Int32) (σ : Mm) (H : Heap) (locs : List Loc) (ls : Array Slot), k18 x3 σ = some (1, σ0) → Rp G 212 tt σ s H locs → lv_has ls 4 [(0, .ref b), (1, .ref (G.2.2 + 0)), (2, .ref (G.2.2 + 160)), (3, .int x3)] → W p l e room_1 s m args below meth c H locs 212 21984 (lw_Z below args s) (F0 m 18 ls [])) :
    ∀ (x3 : Int32) (σ : Mm) (H : Heap) (locs : List Loc) (ls : Array Slot), fL_411 N k18 L xs x3 σ = some (1, σ0) → Rp G 212 tt σ s H locs → lv_has ls 4 [(0, .ref b), (1, .ref (G.2.2 + 0)), (2, .ref (G.2.2 + 160)), (3, .int x3)] → W p l e room_1 s m args below meth c H locs 212 21984 (lw_Z below args s) (F0 m 411 ls []) := by
  have hx := X.1
  have hb := X.2.1
  intro x3 σ H locs ls hf hR hl
  unfold fL_411 at hf
  refine lv_aload_n hx hb dL_law_411 rfl (lv_at hl 1 rfl) ?_
  refine lv_aload_n hx hb dL_law_412 rfl (lv_at hl 0 rfl) ?_
  refine lv_iload_n hx hb dL_law_413 rfl (lv_at hl 3 rfl) ?_
  refine lv_iconst (v := (1 : Int32)) hx hb dL_law_414 (by decide) ?_
  refine lv_iadd hx hb dL_law_415 ?_
  obtain ⟨hi_84, hf⟩ := z_c_e hf
  refine va_sld hx hb hX hbl hbA hR.2.2.1 (inB_in hi_84) dL_law_416 ?_
  refine lv_aload_n hx hb dL_law_417 rfl (lv_at hl 0 rfl) ?_
  refine lv_iload_n hx hb dL_law_418 rfl (lv_at hl 3 rfl) ?_
  refine lv_iconst (v := (2 : Int32)) hx hb dL_law_419 (by decide) ?_
  refine lv_iadd hx hb dL_law_420 ?_
  obtain ⟨hi_85, hf⟩ := z_c_e hf
  refine va_sld hx hb hX hbl hbA hR.2.2.1 (inB_in hi_85) dL_law_421 ?_
  refine lv_aload_n hx hb dL_law_422 rfl (lv_at hl 0 rfl) ?_
  refine lv_iload_n hx hb dL_law_423 rfl (lv_at hl 3 rfl) ?_
  refine lv_iconst (v := (3 : Int32)) hx hb dL_law_424 (by decide) ?_
  refine lv_iadd hx hb dL_law_425 ?_
  obtain ⟨hi_86, hf⟩ := z_c_e hf
  refine va_sld hx hb hX hbl hbA hR.2.2.1 (inB_in hi_86) dL_law_426 ?_
  refine lv_aload_n hx hb dL_law_427 rfl (lv_at hl 0 rfl) ?_
  refine lv_iload_n hx hb dL_law_428 rfl (lv_at hl 3 rfl) ?_
  refine lv_iconst (v := (4 : Int32)) hx hb dL_law_429 (by decide) ?_
  refine lv_iadd hx hb dL_law_430 ?_
  obtain ⟨hi_87, hf⟩ := z_c_e hf
  refine va_sld hx hb hX hbl hbA hR.2.2.1 (inB_in hi_87) dL_law_431 ?_
  obtain ⟨r_88, σ_89, hc_90, hf⟩ := z_b_e hf
  refine go_i hR (mv_run (As := [.int (xs (ix (x3 + (1 : Int32)))), .int (xs (ix (x3 + (2 : Int32)))), .int (xs (ix (x3 + (3 : Int32)))), .int (xs (ix (x3 + (4 : Int32))))]) (rest := []) X hR mv_99_45 kh_0 (kd_lt kh_0 (by decide)) (c10_give l G N hc_90) ⟨rfl, rfl, Nat.le_of_ble_eq_true rfl, Nat.le_of_ble_eq_true rfl⟩ rfl hl.1 rfl (Nat.le_of_ble_eq_true rfl) dL_law_432 ⟨Nat.le_of_ble_eq_true rfl, Nat.le_of_ble_eq_true rfl⟩) (fun H locs hR => ?_)
  refine lv_aload_n hx hb dL_law_435 rfl (lv_at hl 2 rfl) ?_
  refine lv_aload_n hx hb dL_law_436 rfl (lv_at hl 0 rfl) ?_
  refine lv_iload_n hx hb dL_law_437 rfl (lv_at hl 3 rfl) ?_
  refine lv_iconst (v := (1 : Int32)) hx hb dL_law_438 (by decide) ?_
  refine lv_iadd hx hb dL_law_439 ?_
  obtain ⟨hi_91, hf⟩ := z_c_e hf
  refine va_sld hx hb hX hbl hbA hR.2.2.1 (inB_in hi_91) dL_law_440 ?_
  refine lv_aload_n hx hb dL_law_441 rfl (lv_at hl 0 rfl) ?_
  refine lv_iload_n hx hb dL_law_442 rfl (lv_at hl 3 rfl) ?_
  refine lv_iconst (v := (2 : Int32)) hx hb dL_law_443 (by decide) ?_
  refine lv_iadd hx hb dL_law_444 ?_
  obtain ⟨hi_92, hf⟩ := z_c_e hf
  refine va_sld hx hb hX hbl hbA hR.2.2.1 (inB_in hi_92) dL_law_445 ?_
  refine lv_aload_n hx hb dL_law_446 rfl (lv_at hl 0 rfl) ?_
  refine lv_iload_n hx hb dL_law_447 rfl (lv_at hl 3 rfl) ?_
  refine lv_iconst (v := (3 : Int32)) hx hb dL_law_448 (by decide) ?_
  refine lv_iadd hx hb dL_law_449 ?_
  obtain ⟨hi_93, hf⟩ := z_c_e hf
  refine va_sld hx hb hX hbl hbA hR.2.2.1 (inB_in hi_93) dL_law_450 ?_
  refine lv_aload_n hx hb dL_law_451 rfl (lv_at hl 0 rfl) ?_
  refine lv_iload_n hx hb dL_law_452 rfl (lv_at hl 3 rfl) ?_
  refine lv_iconst (v := (4 : Int32)) hx hb dL_law_453 (by decide) ?_
  refine lv_iadd hx hb dL_law_454 ?_
  obtain ⟨hi_94, hf⟩ := z_c_e hf
  refine va_sld hx hb hX hbl hbA hR.2.2.1 (inB_in hi_94) dL_law_455 ?_
  obtain ⟨r_95, σ_96, hc_97, hf⟩ := z_b_e hf
  refine go_i hR (mv_run (As := [.int (xs (ix (x3 + (1 : Int32)))), .int (xs (ix (x3 + (2 : Int32)))), .int (xs (ix (x3 + (3 : Int32)))), .int (xs (ix (x3 + (4 : Int32))))]) (rest := [.int r_88]) X hR mv_99_49 kh_160 (kd_lt kh_160 (by decide)) (c11_give l G N hc_97) ⟨rfl, rfl, Nat.le_of_ble_eq_true rfl, Nat.le_of_ble_eq_true rfl⟩ rfl hl.1 rfl (Nat.le_of_ble_eq_true rfl) dL_law_456 ⟨Nat.le_of_ble_eq_true rfl, Nat.le_of_ble_eq_true rfl⟩) (fun H locs hR => ?_)
  refine lv_icmp_eq (tgt := 1326) hx hb dL_law_459 (by decide) (fun c_98 => ?_) (fun c_98 => ?_)
  · replace hf := z_t c_98 hf
    exact wL_1326 X hr hlk hX hbl hbA hG hav N hk18 x3 σ_96 _ _ _ hf hR (lv_sub hl [0, 1, 2, 3] rfl)
  · replace hf := z_f c_98 hf
    refine lv_iconst (v := (0 : Int32)) hx hb dL_law_462 (by decide) ?_
    exact absurd (congrArg Prod.fst (Option.some.inj hf)) (show ¬ ((0 : Int32) = 1) by decide)
set_option maxHeartbeats 4000000 in
set_option maxRecDepth 100000 in
theorem wL_505 (X : Cx p s m args c cL_law 4 RL G) (hr : meth.sig.returnType = ret) (hlk : meth.locks = false) {b : Nat} {L : Nat} {xs : Nat → Int32} (hX : va_X b L xs s s.heap) (hbl : b < s.heap.size) (hbA : ¬ Fr G b) (hG : G.2.2 = s.heap.size) (hav : args = #[Value.ref b]) (N : Nat) {k18 : Int32 → Mm → Option (Int32 × Mm)} (hk18 : ∀ (x3 : Int32) (σ : Mm) (H : Heap) (locs : List Loc) (ls : Array Slot), k18 x3 σ = some (1, σ0) → Rp G 212 tt σ s H locs → lv_has ls 4 [(0, .ref b), (1, .ref (G.2.2 + 0)), (2, .ref (G.2.2 + 160)), (3, .int x3)] → W p l e room_1 s m args below meth c H locs 212 21984 (lw_Z below args s) (F0 m 18 ls [])) :
    ∀ (x3 : Int32) (s0 : Int32) (s2 : Int32) (s3 : Int32) (σ : Mm) (H : Heap) (locs : List Loc) (ls : Array Slot), fL_505 N k18 L xs x3 s0 s2 s3 σ = some (1, σ0) → Rp G 212 tt σ s H locs → lv_has ls 4 [(0, .ref b), (1, .ref (G.2.2 + 0)), (2, .ref (G.2.2 + 160)), (3, .int x3)] → W p l e room_1 s m args below meth c H locs 212 21984 (lw_Z below args s) (F0 m 505 ls [.int s3, .int s2, .ref (G.2.2 + 160), .int s0]) := by
  have hx := X.1
  have hb := X.2.1
  intro x3 s0 s2 s3 σ H locs ls hf hR hl
  unfold fL_505 at hf
  obtain ⟨r_109, σ_110, hc_111, hf⟩ := z_b_e hf
  refine go_i hR (mv_run (As := [.int s2, .int s3]) (rest := [.int s0]) X hR mv_99_54 kh_160 (kd_lt kh_160 (by decide)) (c11_unsay l G N hc_111) ⟨rfl, rfl, Nat.le_of_ble_eq_true rfl, Nat.le_of_ble_eq_true rfl⟩ rfl hl.1 rfl (Nat.le_of_ble_eq_true rfl) dL_law_505 ⟨Nat.le_of_ble_eq_true rfl, Nat.le_of_ble_eq_true rfl⟩) (fun H locs hR => ?_)
  refine lv_icmp_eq (tgt := 1326) hx hb dL_law_508 (by decide) (fun c_112 => ?_) (fun c_112 => ?_)
  · replace hf := z_t c_112 hf
    exact wL_1326 X hr hlk hX hbl hbA hG hav N hk18 x3 σ_110 _ _ _ hf hR (lv_sub hl [0, 1, 2, 3] rfl)
  · replace hf := z_f c_112 hf
    refine lv_iconst (v := (0 : Int32)) hx hb dL_law_511 (by decide) ?_
    exact absurd (congrArg Prod.fst (Option.some.inj hf)) (show ¬ ((0 : Int32) = 1) by decide)
set_option maxHeartbeats 4000000 in
set_option maxRecDepth 100000 in
theorem wL_483 (X : Cx p s m args c cL_law 4 RL G) (hr : meth.sig.returnType = ret) (hlk : meth.locks = false) {b : Nat} {L : Nat} {xs : Nat → Int32} (hX : va_X b L xs s s.heap) (hbl : b < s.heap.size) (hbA : ¬ Fr G b) (hG : G.2.2 = s.heap.size) (hav : args = #[Value.ref b]) (N : Nat) {k18 : Int32 → Mm → Option (Int32 × Mm)} (hk18 : ∀ (x3 : Int32) (σ : Mm) (H : Heap) (locs : List Loc) (ls : Array Slot), k18 x3 σ = some (1, σ0) → Rp G 212 tt σ s H locs → lv_has ls 4 [(0, .ref b), (1, .ref (G.2.2 + 0)), (2, .ref (G.2.2 + 160)), (3, .int x3)] → W p l e room_1 s m args below meth c H locs 212 21984 (lw_Z below args s) (F0 m 18 ls [])) :
    ∀ (x3 : Int32) (s1 : Int32) (s2 : Int32) (σ : Mm) (H : Heap) (locs : List Loc) (ls : Array Slot), fL_483 N k18 L xs x3 s1 s2 σ = some (1, σ0) → Rp G 212 tt σ s H locs → lv_has ls 4 [(0, .ref b), (1, .ref (G.2.2 + 0)), (2, .ref (G.2.2 + 160)), (3, .int x3)] → W p l e room_1 s m args below meth c H locs 212 21984 (lw_Z below args s) (F0 m 483 ls [.int s2, .int s1, .ref (G.2.2 + 0)]) := by
  have hx := X.1
  have hb := X.2.1
  intro x3 s1 s2 σ H locs ls hf hR hl
  unfold fL_483 at hf
  obtain ⟨r_103, σ_104, hc_105, hf⟩ := z_b_e hf
  refine go_i hR (mv_run (As := [.int s1, .int s2]) (rest := []) X hR mv_99_50 kh_0 (kd_lt kh_0 (by decide)) (c10_unsay l G N hc_105) ⟨rfl, rfl, Nat.le_of_ble_eq_true rfl, Nat.le_of_ble_eq_true rfl⟩ rfl hl.1 rfl (Nat.le_of_ble_eq_true rfl) dL_law_483 ⟨Nat.le_of_ble_eq_true rfl, Nat.le_of_ble_eq_true rfl⟩) (fun H locs hR => ?_)
  refine lv_aload_n hx hb dL_law_486 rfl (lv_at hl 2 rfl) ?_
  refine lv_aload_n hx hb dL_law_487 rfl (lv_at hl 0 rfl) ?_
  refine lv_iload_n hx hb dL_law_488 rfl (lv_at hl 3 rfl) ?_
  refine lv_iconst (v := (1 : Int32)) hx hb dL_law_489 (by decide) ?_
  refine lv_iadd hx hb dL_law_490 ?_
  obtain ⟨hi_106, hf⟩ := z_c_e hf
  refine va_sld hx hb hX hbl hbA hR.2.2.1 (inB_in hi_106) dL_law_491 ?_
  refine lv_aload_n hx hb dL_law_492 rfl (lv_at hl 0 rfl) ?_
  refine lv_iload_n hx hb dL_law_493 rfl (lv_at hl 3 rfl) ?_
  refine lv_iconst (v := (2 : Int32)) hx hb dL_law_494 (by decide) ?_
  refine lv_iadd hx hb dL_law_495 ?_
  obtain ⟨hi_107, hf⟩ := z_c_e hf
  refine va_sld hx hb hX hbl hbA hR.2.2.1 (inB_in hi_107) dL_law_496 ?_
  refine lv_if_eq (tgt := 504) hx hb dL_law_497 (by decide) (fun c_108 => ?_) (fun c_108 => ?_)
  · replace hf := z_t c_108 hf
    refine lv_iconst (v := (0 : Int32)) hx hb dL_law_504 (by decide) ?_
    exact wL_505 X hr hlk hX hbl hbA hG hav N hk18 x3 r_103 (xs (ix (x3 + (1 : Int32)))) (0 : Int32) σ_104 _ _ _ hf hR (lv_sub hl [0, 1, 2, 3] rfl)
  · replace hf := z_f c_108 hf
    refine lv_iconst (v := (1 : Int32)) hx hb dL_law_500 (by decide) ?_
    refine lv_goto (tgt := 505) hx hb dL_law_501 (by decide) ?_
    exact wL_505 X hr hlk hX hbl hbA hG hav N hk18 x3 r_103 (xs (ix (x3 + (1 : Int32)))) (1 : Int32) σ_104 _ _ _ hf hR (lv_sub hl [0, 1, 2, 3] rfl)
set_option maxHeartbeats 4000000 in
set_option maxRecDepth 100000 in
theorem wL_464 (X : Cx p s m args c cL_law 4 RL G) (hr : meth.sig.returnType = ret) (hlk : meth.locks = false) {b : Nat} {L : Nat} {xs : Nat → Int32} (hX : va_X b L xs s s.heap) (hbl : b < s.heap.size) (hbA : ¬ Fr G b) (hG : G.2.2 = s.heap.size) (hav : args = #[Value.ref b]) (N : Nat) {k18 : Int32 → Mm → Option (Int32 × Mm)} (hk18 : ∀ (x3 : Int32) (σ : Mm) (H : Heap) (locs : List Loc) (ls : Array Slot), k18 x3 σ = some (1, σ0) → Rp G 212 tt σ s H locs → lv_has ls 4 [(0, .ref b), (1, .ref (G.2.2 + 0)), (2, .ref (G.2.2 + 160)), (3, .int x3)] → W p l e room_1 s m args below meth c H locs 212 21984 (lw_Z below args s) (F0 m 18 ls [])) :
    ∀ (x3 : Int32) (σ : Mm) (H : Heap) (locs : List Loc) (ls : Array Slot), fL_464 N k18 L xs x3 σ = some (1, σ0) → Rp G 212 tt σ s H locs → lv_has ls 4 [(0, .ref b), (1, .ref (G.2.2 + 0)), (2, .ref (G.2.2 + 160)), (3, .int x3)] → W p l e room_1 s m args below meth c H locs 212 21984 (lw_Z below args s) (F0 m 464 ls []) := by
  have hx := X.1
  have hb := X.2.1
  intro x3 σ H locs ls hf hR hl
  unfold fL_464 at hf
  refine lv_aload_n hx hb dL_law_464 rfl (lv_at hl 1 rfl) ?_
  refine lv_aload_n hx hb dL_law_465 rfl (lv_at hl 0 rfl) ?_
  refine lv_iload_n hx hb dL_law_466 rfl (lv_at hl 3 rfl) ?_
  refine lv_iconst (v := (1 : Int32)) hx hb dL_law_467 (by decide) ?_
  refine lv_iadd hx hb dL_law_468 ?_
  obtain ⟨hi_100, hf⟩ := z_c_e hf
  refine va_sld hx hb hX hbl hbA hR.2.2.1 (inB_in hi_100) dL_law_469 ?_
  refine lv_aload_n hx hb dL_law_470 rfl (lv_at hl 0 rfl) ?_
  refine lv_iload_n hx hb dL_law_471 rfl (lv_at hl 3 rfl) ?_
  refine lv_iconst (v := (2 : Int32)) hx hb dL_law_472 (by decide) ?_
  refine lv_iadd hx hb dL_law_473 ?_
  obtain ⟨hi_101, hf⟩ := z_c_e hf
  refine va_sld hx hb hX hbl hbA hR.2.2.1 (inB_in hi_101) dL_law_474 ?_
  refine lv_if_eq (tgt := 482) hx hb dL_law_475 (by decide) (fun c_102 => ?_) (fun c_102 => ?_)
  · replace hf := z_t c_102 hf
    refine lv_iconst (v := (0 : Int32)) hx hb dL_law_482 (by decide) ?_
    exact wL_483 X hr hlk hX hbl hbA hG hav N hk18 x3 (xs (ix (x3 + (1 : Int32)))) (0 : Int32) σ _ _ _ hf hR (lv_sub hl [0, 1, 2, 3] rfl)
  · replace hf := z_f c_102 hf
    refine lv_iconst (v := (1 : Int32)) hx hb dL_law_478 (by decide) ?_
    refine lv_goto (tgt := 483) hx hb dL_law_479 (by decide) ?_
    exact wL_483 X hr hlk hX hbl hbA hG hav N hk18 x3 (xs (ix (x3 + (1 : Int32)))) (1 : Int32) σ _ _ _ hf hR (lv_sub hl [0, 1, 2, 3] rfl)
set_option maxHeartbeats 4000000 in
set_option maxRecDepth 100000 in
theorem wL_513 (X : Cx p s m args c cL_law 4 RL G) (hr : meth.sig.returnType = ret) (hlk : meth.locks = false) {b : Nat} {L : Nat} {xs : Nat → Int32} (hX : va_X b L xs s s.heap) (hbl : b < s.heap.size) (hbA : ¬ Fr G b) (hG : G.2.2 = s.heap.size) (hav : args = #[Value.ref b]) (N : Nat) {k18 : Int32 → Mm → Option (Int32 × Mm)} (hk18 : ∀ (x3 : Int32) (σ : Mm) (H : Heap) (locs : List Loc) (ls : Array Slot), k18 x3 σ = some (1, σ0) → Rp G 212 tt σ s H locs → lv_has ls 4 [(0, .ref b), (1, .ref (G.2.2 + 0)), (2, .ref (G.2.2 + 160)), (3, .int x3)] → W p l e room_1 s m args below meth c H locs 212 21984 (lw_Z below args s) (F0 m 18 ls [])) :
    ∀ (x3 : Int32) (σ : Mm) (H : Heap) (locs : List Loc) (ls : Array Slot), fL_513 N k18 L xs x3 σ = some (1, σ0) → Rp G 212 tt σ s H locs → lv_has ls 4 [(0, .ref b), (1, .ref (G.2.2 + 0)), (2, .ref (G.2.2 + 160)), (3, .int x3)] → W p l e room_1 s m args below meth c H locs 212 21984 (lw_Z below args s) (F0 m 513 ls []) := by
  have hx := X.1
  have hb := X.2.1
  intro x3 σ H locs ls hf hR hl
  unfold fL_513 at hf
  refine lv_aload_n hx hb dL_law_513 rfl (lv_at hl 1 rfl) ?_
  refine lv_aload_n hx hb dL_law_514 rfl (lv_at hl 0 rfl) ?_
  refine lv_iload_n hx hb dL_law_515 rfl (lv_at hl 3 rfl) ?_
  refine lv_iconst (v := (1 : Int32)) hx hb dL_law_516 (by decide) ?_
  refine lv_iadd hx hb dL_law_517 ?_
  obtain ⟨hi_114, hf⟩ := z_c_e hf
  refine va_sld hx hb hX hbl hbA hR.2.2.1 (inB_in hi_114) dL_law_518 ?_
  obtain ⟨r_115, σ_116, hc_117, hf⟩ := z_b_e hf
  refine go_i hR (mv_run (As := [.int (xs (ix (x3 + (1 : Int32))))]) (rest := []) X hR mv_99_55 kh_0 (kd_lt kh_0 (by decide)) (c10_years l G N hc_117) ⟨rfl, rfl, Nat.le_of_ble_eq_true rfl, Nat.le_of_ble_eq_true rfl⟩ rfl hl.1 rfl (Nat.le_of_ble_eq_true rfl) dL_law_519 ⟨Nat.le_of_ble_eq_true rfl, Nat.le_of_ble_eq_true rfl⟩) (fun H locs hR => ?_)
  refine lv_aload_n hx hb dL_law_522 rfl (lv_at hl 2 rfl) ?_
  refine lv_aload_n hx hb dL_law_523 rfl (lv_at hl 0 rfl) ?_
  refine lv_iload_n hx hb dL_law_524 rfl (lv_at hl 3 rfl) ?_
  refine lv_iconst (v := (1 : Int32)) hx hb dL_law_525 (by decide) ?_
  refine lv_iadd hx hb dL_law_526 ?_
  obtain ⟨hi_118, hf⟩ := z_c_e hf
  refine va_sld hx hb hX hbl hbA hR.2.2.1 (inB_in hi_118) dL_law_527 ?_
  obtain ⟨r_119, σ_120, hc_121, hf⟩ := z_b_e hf
  refine go_i hR (mv_run (As := [.int (xs (ix (x3 + (1 : Int32))))]) (rest := [.int r_115]) X hR mv_99_58 kh_160 (kd_lt kh_160 (by decide)) (c11_years l G N hc_121) ⟨rfl, rfl, Nat.le_of_ble_eq_true rfl, Nat.le_of_ble_eq_true rfl⟩ rfl hl.1 rfl (Nat.le_of_ble_eq_true rfl) dL_law_528 ⟨Nat.le_of_ble_eq_true rfl, Nat.le_of_ble_eq_true rfl⟩) (fun H locs hR => ?_)
  refine lv_icmp_eq (tgt := 1326) hx hb dL_law_531 (by decide) (fun c_122 => ?_) (fun c_122 => ?_)
  · replace hf := z_t c_122 hf
    exact wL_1326 X hr hlk hX hbl hbA hG hav N hk18 x3 σ_120 _ _ _ hf hR (lv_sub hl [0, 1, 2, 3] rfl)
  · replace hf := z_f c_122 hf
    refine lv_iconst (v := (0 : Int32)) hx hb dL_law_534 (by decide) ?_
    exact absurd (congrArg Prod.fst (Option.some.inj hf)) (show ¬ ((0 : Int32) = 1) by decide)
set_option maxHeartbeats 4000000 in
set_option maxRecDepth 100000 in
theorem wL_536 (X : Cx p s m args c cL_law 4 RL G) (hr : meth.sig.returnType = ret) (hlk : meth.locks = false) {b : Nat} {L : Nat} {xs : Nat → Int32} (hX : va_X b L xs s s.heap) (hbl : b < s.heap.size) (hbA : ¬ Fr G b) (hG : G.2.2 = s.heap.size) (hav : args = #[Value.ref b]) (N : Nat) {k18 : Int32 → Mm → Option (Int32 × Mm)} (hk18 : ∀ (x3 : Int32) (σ : Mm) (H : Heap) (locs : List Loc) (ls : Array Slot), k18 x3 σ = some (1, σ0) → Rp G 212 tt σ s H locs → lv_has ls 4 [(0, .ref b), (1, .ref (G.2.2 + 0)), (2, .ref (G.2.2 + 160)), (3, .int x3)] → W p l e room_1 s m args below meth c H locs 212 21984 (lw_Z below args s) (F0 m 18 ls [])) :
    ∀ (x3 : Int32) (σ : Mm) (H : Heap) (locs : List Loc) (ls : Array Slot), fL_536 N k18 L xs x3 σ = some (1, σ0) → Rp G 212 tt σ s H locs → lv_has ls 4 [(0, .ref b), (1, .ref (G.2.2 + 0)), (2, .ref (G.2.2 + 160)), (3, .int x3)] → W p l e room_1 s m args below meth c H locs 212 21984 (lw_Z below args s) (F0 m 536 ls []) := by
  have hx := X.1
  have hb := X.2.1
  intro x3 σ H locs ls hf hR hl
  unfold fL_536 at hf
  refine lv_aload_n hx hb dL_law_536 rfl (lv_at hl 1 rfl) ?_
  obtain ⟨r_124, σ_125, hc_126, hf⟩ := z_b_e hf
  refine go_i hR (mv_run (As := []) (rest := []) X hR mv_99_59 kh_0 (kd_lt kh_0 (by decide)) (c10_undo l G N hc_126) ⟨rfl, rfl, Nat.le_of_ble_eq_true rfl, Nat.le_of_ble_eq_true rfl⟩ rfl hl.1 rfl (Nat.le_of_ble_eq_true rfl) dL_law_537 ⟨Nat.le_of_ble_eq_true rfl, Nat.le_of_ble_eq_true rfl⟩) (fun H locs hR => ?_)
  refine lv_aload_n hx hb dL_law_540 rfl (lv_at hl 2 rfl) ?_
  obtain ⟨r_127, σ_128, hc_129, hf⟩ := z_b_e hf
  refine go_i hR (mv_run (As := []) (rest := [.int r_124]) X hR mv_99_63 kh_160 (kd_lt kh_160 (by decide)) (c11_undo l G N hc_129) ⟨rfl, rfl, Nat.le_of_ble_eq_true rfl, Nat.le_of_ble_eq_true rfl⟩ rfl hl.1 rfl (Nat.le_of_ble_eq_true rfl) dL_law_541 ⟨Nat.le_of_ble_eq_true rfl, Nat.le_of_ble_eq_true rfl⟩) (fun H locs hR => ?_)
  refine lv_icmp_eq (tgt := 1326) hx hb dL_law_544 (by decide) (fun c_130 => ?_) (fun c_130 => ?_)
  · replace hf := z_t c_130 hf
    exact wL_1326 X hr hlk hX hbl hbA hG hav N hk18 x3 σ_128 _ _ _ hf hR (lv_sub hl [0, 1, 2, 3] rfl)
  · replace hf := z_f c_130 hf
    refine lv_iconst (v := (0 : Int32)) hx hb dL_law_547 (by decide) ?_
    exact absurd (congrArg Prod.fst (Option.some.inj hf)) (show ¬ ((0 : Int32) = 1) by decide)
set_option maxHeartbeats 4000000 in
set_option maxRecDepth 100000 in
theorem wL_549 (X : Cx p s m args c cL_law 4 RL G) (hr : meth.sig.returnType = ret) (hlk : meth.locks = false) {b : Nat} {L : Nat} {xs : Nat → Int32} (hX : va_X b L xs s s.heap) (hbl : b < s.heap.size) (hbA : ¬ Fr G b) (hG : G.2.2 = s.heap.size) (hav : args = #[Value.ref b]) (N : Nat) {k18 : Int32 → Mm → Option (Int32 × Mm)} (hk18 : ∀ (x3 : Int32) (σ : Mm) (H : Heap) (locs : List Loc) (ls : Array Slot), k18 x3 σ = some (1, σ0) → Rp G 212 tt σ s H locs → lv_has ls 4 [(0, .ref b), (1, .ref (G.2.2 + 0)), (2, .ref (G.2.2 + 160)), (3, .int x3)] → W p l e room_1 s m args below meth c H locs 212 21984 (lw_Z below args s) (F0 m 18 ls [])) :
    ∀ (x3 : Int32) (σ : Mm) (H : Heap) (locs : List Loc) (ls : Array Slot), fL_549 N k18 L xs x3 σ = some (1, σ0) → Rp G 212 tt σ s H locs → lv_has ls 4 [(0, .ref b), (1, .ref (G.2.2 + 0)), (2, .ref (G.2.2 + 160)), (3, .int x3)] → W p l e room_1 s m args below meth c H locs 212 21984 (lw_Z below args s) (F0 m 549 ls []) := by
  have hx := X.1
  have hb := X.2.1
  intro x3 σ H locs ls hf hR hl
  unfold fL_549 at hf
  refine lv_aload_n hx hb dL_law_549 rfl (lv_at hl 1 rfl) ?_
  refine lv_aload_n hx hb dL_law_550 rfl (lv_at hl 0 rfl) ?_
  refine lv_iload_n hx hb dL_law_551 rfl (lv_at hl 3 rfl) ?_
  refine lv_iconst (v := (1 : Int32)) hx hb dL_law_552 (by decide) ?_
  refine lv_iadd hx hb dL_law_553 ?_
  obtain ⟨hi_132, hf⟩ := z_c_e hf
  refine va_sld hx hb hX hbl hbA hR.2.2.1 (inB_in hi_132) dL_law_554 ?_
  obtain ⟨r_133, σ_134, hc_135, hf⟩ := z_b_e hf
  refine go_i hR (mv_run (As := [.int (xs (ix (x3 + (1 : Int32))))]) (rest := []) X hR mv_99_64 kh_0 (kd_lt kh_0 (by decide)) (c10_lasts l G N hc_135) ⟨rfl, rfl, Nat.le_of_ble_eq_true rfl, Nat.le_of_ble_eq_true rfl⟩ rfl hl.1 rfl (Nat.le_of_ble_eq_true rfl) dL_law_555 ⟨Nat.le_of_ble_eq_true rfl, Nat.le_of_ble_eq_true rfl⟩) (fun H locs hR => ?_)
  refine lv_aload_n hx hb dL_law_558 rfl (lv_at hl 2 rfl) ?_
  refine lv_aload_n hx hb dL_law_559 rfl (lv_at hl 0 rfl) ?_
  refine lv_iload_n hx hb dL_law_560 rfl (lv_at hl 3 rfl) ?_
  refine lv_iconst (v := (1 : Int32)) hx hb dL_law_561 (by decide) ?_
  refine lv_iadd hx hb dL_law_562 ?_
  obtain ⟨hi_136, hf⟩ := z_c_e hf
  refine va_sld hx hb hX hbl hbA hR.2.2.1 (inB_in hi_136) dL_law_563 ?_
  obtain ⟨r_137, σ_138, hc_139, hf⟩ := z_b_e hf
  refine go_i hR (mv_run (As := [.int (xs (ix (x3 + (1 : Int32))))]) (rest := [.int r_133]) X hR mv_99_67 kh_160 (kd_lt kh_160 (by decide)) (c11_lasts l G N hc_139) ⟨rfl, rfl, Nat.le_of_ble_eq_true rfl, Nat.le_of_ble_eq_true rfl⟩ rfl hl.1 rfl (Nat.le_of_ble_eq_true rfl) dL_law_564 ⟨Nat.le_of_ble_eq_true rfl, Nat.le_of_ble_eq_true rfl⟩) (fun H locs hR => ?_)
  refine lv_icmp_eq (tgt := 1326) hx hb dL_law_567 (by decide) (fun c_140 => ?_) (fun c_140 => ?_)
  · replace hf := z_t c_140 hf
    exact wL_1326 X hr hlk hX hbl hbA hG hav N hk18 x3 σ_138 _ _ _ hf hR (lv_sub hl [0, 1, 2, 3] rfl)
  · replace hf := z_f c_140 hf
    refine lv_iconst (v := (0 : Int32)) hx hb dL_law_570 (by decide) ?_
    exact absurd (congrArg Prod.fst (Option.some.inj hf)) (show ¬ ((0 : Int32) = 1) by decide)
set_option maxHeartbeats 4000000 in
set_option maxRecDepth 100000 in
theorem wL_572 (X : Cx p s m args c cL_law 4 RL G) (hr : meth.sig.returnType = ret) (hlk : meth.locks = false) {b : Nat} {L : Nat} {xs : Nat → Int32} (hX : va_X b L xs s s.heap) (hbl : b < s.heap.size) (hbA : ¬ Fr G b) (hG : G.2.2 = s.heap.size) (hav : args = #[Value.ref b]) (N : Nat) {k18 : Int32 → Mm → Option (Int32 × Mm)} (hk18 : ∀ (x3 : Int32) (σ : Mm) (H : Heap) (locs : List Loc) (ls : Array Slot), k18 x3 σ = some (1, σ0) → Rp G 212 tt σ s H locs → lv_has ls 4 [(0, .ref b), (1, .ref (G.2.2 + 0)), (2, .ref (G.2.2 + 160)), (3, .int x3)] → W p l e room_1 s m args below meth c H locs 212 21984 (lw_Z below args s) (F0 m 18 ls [])) :
    ∀ (x3 : Int32) (σ : Mm) (H : Heap) (locs : List Loc) (ls : Array Slot), fL_572 N k18 L xs x3 σ = some (1, σ0) → Rp G 212 tt σ s H locs → lv_has ls 4 [(0, .ref b), (1, .ref (G.2.2 + 0)), (2, .ref (G.2.2 + 160)), (3, .int x3)] → W p l e room_1 s m args below meth c H locs 212 21984 (lw_Z below args s) (F0 m 572 ls []) := by
  have hx := X.1
  have hb := X.2.1
  intro x3 σ H locs ls hf hR hl
  unfold fL_572 at hf
  refine lv_aload_n hx hb dL_law_572 rfl (lv_at hl 1 rfl) ?_
  obtain ⟨r_142, σ_143, hc_144, hf⟩ := z_b_e hf
  refine go_i hR (mv_run (As := []) (rest := []) X hR mv_99_68 kh_0 (kd_lt kh_0 (by decide)) (c10_book l G N hc_144) ⟨rfl, rfl, Nat.le_of_ble_eq_true rfl, Nat.le_of_ble_eq_true rfl⟩ rfl hl.1 rfl (Nat.le_of_ble_eq_true rfl) dL_law_573 ⟨Nat.le_of_ble_eq_true rfl, Nat.le_of_ble_eq_true rfl⟩) (fun H locs hR => ?_)
  refine lv_aload_n hx hb dL_law_576 rfl (lv_at hl 2 rfl) ?_
  obtain ⟨r_145, σ_146, hc_147, hf⟩ := z_b_e hf
  refine go_i hR (mv_run (As := []) (rest := [.int r_142]) X hR mv_99_71 kh_160 (kd_lt kh_160 (by decide)) (c11_book l G N hc_147) ⟨rfl, rfl, Nat.le_of_ble_eq_true rfl, Nat.le_of_ble_eq_true rfl⟩ rfl hl.1 rfl (Nat.le_of_ble_eq_true rfl) dL_law_577 ⟨Nat.le_of_ble_eq_true rfl, Nat.le_of_ble_eq_true rfl⟩) (fun H locs hR => ?_)
  refine lv_icmp_eq (tgt := 1326) hx hb dL_law_580 (by decide) (fun c_148 => ?_) (fun c_148 => ?_)
  · replace hf := z_t c_148 hf
    exact wL_1326 X hr hlk hX hbl hbA hG hav N hk18 x3 σ_146 _ _ _ hf hR (lv_sub hl [0, 1, 2, 3] rfl)
  · replace hf := z_f c_148 hf
    refine lv_iconst (v := (0 : Int32)) hx hb dL_law_583 (by decide) ?_
    exact absurd (congrArg Prod.fst (Option.some.inj hf)) (show ¬ ((0 : Int32) = 1) by decide)
set_option maxHeartbeats 4000000 in
set_option maxRecDepth 100000 in
theorem wL_585 (X : Cx p s m args c cL_law 4 RL G) (hr : meth.sig.returnType = ret) (hlk : meth.locks = false) {b : Nat} {L : Nat} {xs : Nat → Int32} (hX : va_X b L xs s s.heap) (hbl : b < s.heap.size) (hbA : ¬ Fr G b) (hG : G.2.2 = s.heap.size) (hav : args = #[Value.ref b]) (N : Nat) {k18 : Int32 → Mm → Option (Int32 × Mm)} (hk18 : ∀ (x3 : Int32) (σ : Mm) (H : Heap) (locs : List Loc) (ls : Array Slot), k18 x3 σ = some (1, σ0) → Rp G 212 tt σ s H locs → lv_has ls 4 [(0, .ref b), (1, .ref (G.2.2 + 0)), (2, .ref (G.2.2 + 160)), (3, .int x3)] → W p l e room_1 s m args below meth c H locs 212 21984 (lw_Z below args s) (F0 m 18 ls [])) :
    ∀ (x3 : Int32) (σ : Mm) (H : Heap) (locs : List Loc) (ls : Array Slot), fL_585 N k18 L xs x3 σ = some (1, σ0) → Rp G 212 tt σ s H locs → lv_has ls 4 [(0, .ref b), (1, .ref (G.2.2 + 0)), (2, .ref (G.2.2 + 160)), (3, .int x3)] → W p l e room_1 s m args below meth c H locs 212 21984 (lw_Z below args s) (F0 m 585 ls []) := by
  have hx := X.1
  have hb := X.2.1
  intro x3 σ H locs ls hf hR hl
  unfold fL_585 at hf
  refine lv_aload_n hx hb dL_law_585 rfl (lv_at hl 1 rfl) ?_
  refine lv_aload_n hx hb dL_law_586 rfl (lv_at hl 0 rfl) ?_
  refine lv_iload_n hx hb dL_law_587 rfl (lv_at hl 3 rfl) ?_
  refine lv_iconst (v := (1 : Int32)) hx hb dL_law_588 (by decide) ?_
  refine lv_iadd hx hb dL_law_589 ?_
  obtain ⟨hi_150, hf⟩ := z_c_e hf
  refine va_sld hx hb hX hbl hbA hR.2.2.1 (inB_in hi_150) dL_law_590 ?_
  obtain ⟨r_151, σ_152, hc_153, hf⟩ := z_b_e hf
  refine go_i hR (mv_run (As := [.int (xs (ix (x3 + (1 : Int32))))]) (rest := []) X hR mv_99_72 kh_0 (kd_lt kh_0 (by decide)) (c10_hangs l G N hc_153) ⟨rfl, rfl, Nat.le_of_ble_eq_true rfl, Nat.le_of_ble_eq_true rfl⟩ rfl hl.1 rfl (Nat.le_of_ble_eq_true rfl) dL_law_591 ⟨Nat.le_of_ble_eq_true rfl, Nat.le_of_ble_eq_true rfl⟩) (fun H locs hR => ?_)
  refine lv_aload_n hx hb dL_law_594 rfl (lv_at hl 2 rfl) ?_
  refine lv_aload_n hx hb dL_law_595 rfl (lv_at hl 0 rfl) ?_
  refine lv_iload_n hx hb dL_law_596 rfl (lv_at hl 3 rfl) ?_
  refine lv_iconst (v := (1 : Int32)) hx hb dL_law_597 (by decide) ?_
  refine lv_iadd hx hb dL_law_598 ?_
  obtain ⟨hi_154, hf⟩ := z_c_e hf
  refine va_sld hx hb hX hbl hbA hR.2.2.1 (inB_in hi_154) dL_law_599 ?_
  obtain ⟨r_155, σ_156, hc_157, hf⟩ := z_b_e hf
  refine go_i hR (mv_run (As := [.int (xs (ix (x3 + (1 : Int32))))]) (rest := [.int r_151]) X hR mv_99_75 kh_160 (kd_lt kh_160 (by decide)) (c11_hangs l G N hc_157) ⟨rfl, rfl, Nat.le_of_ble_eq_true rfl, Nat.le_of_ble_eq_true rfl⟩ rfl hl.1 rfl (Nat.le_of_ble_eq_true rfl) dL_law_600 ⟨Nat.le_of_ble_eq_true rfl, Nat.le_of_ble_eq_true rfl⟩) (fun H locs hR => ?_)
  refine lv_icmp_eq (tgt := 1326) hx hb dL_law_603 (by decide) (fun c_158 => ?_) (fun c_158 => ?_)
  · replace hf := z_t c_158 hf
    exact wL_1326 X hr hlk hX hbl hbA hG hav N hk18 x3 σ_156 _ _ _ hf hR (lv_sub hl [0, 1, 2, 3] rfl)
  · replace hf := z_f c_158 hf
    refine lv_iconst (v := (0 : Int32)) hx hb dL_law_606 (by decide) ?_
    exact absurd (congrArg Prod.fst (Option.some.inj hf)) (show ¬ ((0 : Int32) = 1) by decide)
set_option maxHeartbeats 4000000 in
set_option maxRecDepth 100000 in
theorem wL_608 (X : Cx p s m args c cL_law 4 RL G) (hr : meth.sig.returnType = ret) (hlk : meth.locks = false) {b : Nat} {L : Nat} {xs : Nat → Int32} (hX : va_X b L xs s s.heap) (hbl : b < s.heap.size) (hbA : ¬ Fr G b) (hG : G.2.2 = s.heap.size) (hav : args = #[Value.ref b]) (N : Nat) {k18 : Int32 → Mm → Option (Int32 × Mm)} (hk18 : ∀ (x3 : Int32) (σ : Mm) (H : Heap) (locs : List Loc) (ls : Array Slot), k18 x3 σ = some (1, σ0) → Rp G 212 tt σ s H locs → lv_has ls 4 [(0, .ref b), (1, .ref (G.2.2 + 0)), (2, .ref (G.2.2 + 160)), (3, .int x3)] → W p l e room_1 s m args below meth c H locs 212 21984 (lw_Z below args s) (F0 m 18 ls [])) :
    ∀ (x3 : Int32) (σ : Mm) (H : Heap) (locs : List Loc) (ls : Array Slot), fL_608 N k18 L xs x3 σ = some (1, σ0) → Rp G 212 tt σ s H locs → lv_has ls 4 [(0, .ref b), (1, .ref (G.2.2 + 0)), (2, .ref (G.2.2 + 160)), (3, .int x3)] → W p l e room_1 s m args below meth c H locs 212 21984 (lw_Z below args s) (F0 m 608 ls []) := by
  have hx := X.1
  have hb := X.2.1
  intro x3 σ H locs ls hf hR hl
  unfold fL_608 at hf
  refine lv_aload_n hx hb dL_law_608 rfl (lv_at hl 1 rfl) ?_
  refine lv_aload_n hx hb dL_law_609 rfl (lv_at hl 0 rfl) ?_
  refine lv_iload_n hx hb dL_law_610 rfl (lv_at hl 3 rfl) ?_
  refine lv_iconst (v := (1 : Int32)) hx hb dL_law_611 (by decide) ?_
  refine lv_iadd hx hb dL_law_612 ?_
  obtain ⟨hi_160, hf⟩ := z_c_e hf
  refine va_sld hx hb hX hbl hbA hR.2.2.1 (inB_in hi_160) dL_law_613 ?_
  refine lv_aload_n hx hb dL_law_614 rfl (lv_at hl 0 rfl) ?_
  refine lv_iload_n hx hb dL_law_615 rfl (lv_at hl 3 rfl) ?_
  refine lv_iconst (v := (2 : Int32)) hx hb dL_law_616 (by decide) ?_
  refine lv_iadd hx hb dL_law_617 ?_
  obtain ⟨hi_161, hf⟩ := z_c_e hf
  refine va_sld hx hb hX hbl hbA hR.2.2.1 (inB_in hi_161) dL_law_618 ?_
  obtain ⟨r_162, σ_163, hc_164, hf⟩ := z_b_e hf
  refine go_i hR (mv_run (As := [.int (xs (ix (x3 + (1 : Int32)))), .int (xs (ix (x3 + (2 : Int32))))]) (rest := []) X hR mv_99_76 kh_0 (kd_lt kh_0 (by decide)) (c10_cover l G N hc_164) ⟨rfl, rfl, Nat.le_of_ble_eq_true rfl, Nat.le_of_ble_eq_true rfl⟩ rfl hl.1 rfl (Nat.le_of_ble_eq_true rfl) dL_law_619 ⟨Nat.le_of_ble_eq_true rfl, Nat.le_of_ble_eq_true rfl⟩) (fun H locs hR => ?_)
  refine lv_aload_n hx hb dL_law_622 rfl (lv_at hl 2 rfl) ?_
  refine lv_aload_n hx hb dL_law_623 rfl (lv_at hl 0 rfl) ?_
  refine lv_iload_n hx hb dL_law_624 rfl (lv_at hl 3 rfl) ?_
  refine lv_iconst (v := (1 : Int32)) hx hb dL_law_625 (by decide) ?_
  refine lv_iadd hx hb dL_law_626 ?_
  obtain ⟨hi_165, hf⟩ := z_c_e hf
  refine va_sld hx hb hX hbl hbA hR.2.2.1 (inB_in hi_165) dL_law_627 ?_
  refine lv_aload_n hx hb dL_law_628 rfl (lv_at hl 0 rfl) ?_
  refine lv_iload_n hx hb dL_law_629 rfl (lv_at hl 3 rfl) ?_
  refine lv_iconst (v := (2 : Int32)) hx hb dL_law_630 (by decide) ?_
  refine lv_iadd hx hb dL_law_631 ?_
  obtain ⟨hi_166, hf⟩ := z_c_e hf
  refine va_sld hx hb hX hbl hbA hR.2.2.1 (inB_in hi_166) dL_law_632 ?_
  obtain ⟨r_167, σ_168, hc_169, hf⟩ := z_b_e hf
  refine go_i hR (mv_run (As := [.int (xs (ix (x3 + (1 : Int32)))), .int (xs (ix (x3 + (2 : Int32))))]) (rest := [.int r_162]) X hR mv_99_79 kh_160 (kd_lt kh_160 (by decide)) (c11_cover l G N hc_169) ⟨rfl, rfl, Nat.le_of_ble_eq_true rfl, Nat.le_of_ble_eq_true rfl⟩ rfl hl.1 rfl (Nat.le_of_ble_eq_true rfl) dL_law_633 ⟨Nat.le_of_ble_eq_true rfl, Nat.le_of_ble_eq_true rfl⟩) (fun H locs hR => ?_)
  refine lv_icmp_eq (tgt := 1326) hx hb dL_law_636 (by decide) (fun c_170 => ?_) (fun c_170 => ?_)
  · replace hf := z_t c_170 hf
    exact wL_1326 X hr hlk hX hbl hbA hG hav N hk18 x3 σ_168 _ _ _ hf hR (lv_sub hl [0, 1, 2, 3] rfl)
  · replace hf := z_f c_170 hf
    refine lv_iconst (v := (0 : Int32)) hx hb dL_law_639 (by decide) ?_
    exact absurd (congrArg Prod.fst (Option.some.inj hf)) (show ¬ ((0 : Int32) = 1) by decide)
set_option maxHeartbeats 4000000 in
set_option maxRecDepth 100000 in
theorem wL_641 (X : Cx p s m args c cL_law 4 RL G) (hr : meth.sig.returnType = ret) (hlk : meth.locks = false) {b : Nat} {L : Nat} {xs : Nat → Int32} (hX : va_X b L xs s s.heap) (hbl : b < s.heap.size) (hbA : ¬ Fr G b) (hG : G.2.2 = s.heap.size) (hav : args = #[Value.ref b]) (N : Nat) {k18 : Int32 → Mm → Option (Int32 × Mm)} (hk18 : ∀ (x3 : Int32) (σ : Mm) (H : Heap) (locs : List Loc) (ls : Array Slot), k18 x3 σ = some (1, σ0) → Rp G 212 tt σ s H locs → lv_has ls 4 [(0, .ref b), (1, .ref (G.2.2 + 0)), (2, .ref (G.2.2 + 160)), (3, .int x3)] → W p l e room_1 s m args below meth c H locs 212 21984 (lw_Z below args s) (F0 m 18 ls [])) :
    ∀ (x3 : Int32) (σ : Mm) (H : Heap) (locs : List Loc) (ls : Array Slot), fL_641 N k18 L xs x3 σ = some (1, σ0) → Rp G 212 tt σ s H locs → lv_has ls 4 [(0, .ref b), (1, .ref (G.2.2 + 0)), (2, .ref (G.2.2 + 160)), (3, .int x3)] → W p l e room_1 s m args below meth c H locs 212 21984 (lw_Z below args s) (F0 m 641 ls []) := by
  have hx := X.1
  have hb := X.2.1
  intro x3 σ H locs ls hf hR hl
  unfold fL_641 at hf
  refine lv_aload_n hx hb dL_law_641 rfl (lv_at hl 1 rfl) ?_
  refine lv_aload_n hx hb dL_law_642 rfl (lv_at hl 0 rfl) ?_
  refine lv_iload_n hx hb dL_law_643 rfl (lv_at hl 3 rfl) ?_
  refine lv_iconst (v := (1 : Int32)) hx hb dL_law_644 (by decide) ?_
  refine lv_iadd hx hb dL_law_645 ?_
  obtain ⟨hi_172, hf⟩ := z_c_e hf
  refine va_sld hx hb hX hbl hbA hR.2.2.1 (inB_in hi_172) dL_law_646 ?_
  refine lv_aload_n hx hb dL_law_647 rfl (lv_at hl 0 rfl) ?_
  refine lv_iload_n hx hb dL_law_648 rfl (lv_at hl 3 rfl) ?_
  refine lv_iconst (v := (2 : Int32)) hx hb dL_law_649 (by decide) ?_
  refine lv_iadd hx hb dL_law_650 ?_
  obtain ⟨hi_173, hf⟩ := z_c_e hf
  refine va_sld hx hb hX hbl hbA hR.2.2.1 (inB_in hi_173) dL_law_651 ?_
  obtain ⟨r_174, σ_175, hc_176, hf⟩ := z_b_e hf
  refine go_i hR (mv_run (As := [.int (xs (ix (x3 + (1 : Int32)))), .int (xs (ix (x3 + (2 : Int32))))]) (rest := []) X hR mv_99_80 kh_0 (kd_lt kh_0 (by decide)) (c10_walk l G N hc_176) ⟨rfl, rfl, Nat.le_of_ble_eq_true rfl, Nat.le_of_ble_eq_true rfl⟩ rfl hl.1 rfl (Nat.le_of_ble_eq_true rfl) dL_law_652 ⟨Nat.le_of_ble_eq_true rfl, Nat.le_of_ble_eq_true rfl⟩) (fun H locs hR => ?_)
  refine lv_aload_n hx hb dL_law_655 rfl (lv_at hl 2 rfl) ?_
  refine lv_aload_n hx hb dL_law_656 rfl (lv_at hl 0 rfl) ?_
  refine lv_iload_n hx hb dL_law_657 rfl (lv_at hl 3 rfl) ?_
  refine lv_iconst (v := (1 : Int32)) hx hb dL_law_658 (by decide) ?_
  refine lv_iadd hx hb dL_law_659 ?_
  obtain ⟨hi_177, hf⟩ := z_c_e hf
  refine va_sld hx hb hX hbl hbA hR.2.2.1 (inB_in hi_177) dL_law_660 ?_
  refine lv_aload_n hx hb dL_law_661 rfl (lv_at hl 0 rfl) ?_
  refine lv_iload_n hx hb dL_law_662 rfl (lv_at hl 3 rfl) ?_
  refine lv_iconst (v := (2 : Int32)) hx hb dL_law_663 (by decide) ?_
  refine lv_iadd hx hb dL_law_664 ?_
  obtain ⟨hi_178, hf⟩ := z_c_e hf
  refine va_sld hx hb hX hbl hbA hR.2.2.1 (inB_in hi_178) dL_law_665 ?_
  obtain ⟨r_179, σ_180, hc_181, hf⟩ := z_b_e hf
  refine go_i hR (mv_run (As := [.int (xs (ix (x3 + (1 : Int32)))), .int (xs (ix (x3 + (2 : Int32))))]) (rest := [.int r_174]) X hR mv_99_83 kh_160 (kd_lt kh_160 (by decide)) (c11_walk l G N hc_181) ⟨rfl, rfl, Nat.le_of_ble_eq_true rfl, Nat.le_of_ble_eq_true rfl⟩ rfl hl.1 rfl (Nat.le_of_ble_eq_true rfl) dL_law_666 ⟨Nat.le_of_ble_eq_true rfl, Nat.le_of_ble_eq_true rfl⟩) (fun H locs hR => ?_)
  refine lv_icmp_eq (tgt := 1326) hx hb dL_law_669 (by decide) (fun c_182 => ?_) (fun c_182 => ?_)
  · replace hf := z_t c_182 hf
    exact wL_1326 X hr hlk hX hbl hbA hG hav N hk18 x3 σ_180 _ _ _ hf hR (lv_sub hl [0, 1, 2, 3] rfl)
  · replace hf := z_f c_182 hf
    refine lv_iconst (v := (0 : Int32)) hx hb dL_law_672 (by decide) ?_
    exact absurd (congrArg Prod.fst (Option.some.inj hf)) (show ¬ ((0 : Int32) = 1) by decide)
set_option maxHeartbeats 4000000 in
set_option maxRecDepth 100000 in
theorem wL_674 (X : Cx p s m args c cL_law 4 RL G) (hr : meth.sig.returnType = ret) (hlk : meth.locks = false) {b : Nat} {L : Nat} {xs : Nat → Int32} (hX : va_X b L xs s s.heap) (hbl : b < s.heap.size) (hbA : ¬ Fr G b) (hG : G.2.2 = s.heap.size) (hav : args = #[Value.ref b]) (N : Nat) {k18 : Int32 → Mm → Option (Int32 × Mm)} (hk18 : ∀ (x3 : Int32) (σ : Mm) (H : Heap) (locs : List Loc) (ls : Array Slot), k18 x3 σ = some (1, σ0) → Rp G 212 tt σ s H locs → lv_has ls 4 [(0, .ref b), (1, .ref (G.2.2 + 0)), (2, .ref (G.2.2 + 160)), (3, .int x3)] → W p l e room_1 s m args below meth c H locs 212 21984 (lw_Z below args s) (F0 m 18 ls [])) :
    ∀ (x3 : Int32) (σ : Mm) (H : Heap) (locs : List Loc) (ls : Array Slot), fL_674 N k18 L xs x3 σ = some (1, σ0) → Rp G 212 tt σ s H locs → lv_has ls 4 [(0, .ref b), (1, .ref (G.2.2 + 0)), (2, .ref (G.2.2 + 160)), (3, .int x3)] → W p l e room_1 s m args below meth c H locs 212 21984 (lw_Z below args s) (F0 m 674 ls []) := by
  have hx := X.1
  have hb := X.2.1
  intro x3 σ H locs ls hf hR hl
  unfold fL_674 at hf
  refine lv_aload_n hx hb dL_law_674 rfl (lv_at hl 1 rfl) ?_
  refine lv_aload_n hx hb dL_law_675 rfl (lv_at hl 0 rfl) ?_
  refine lv_iload_n hx hb dL_law_676 rfl (lv_at hl 3 rfl) ?_
  refine lv_iconst (v := (1 : Int32)) hx hb dL_law_677 (by decide) ?_
  refine lv_iadd hx hb dL_law_678 ?_
  obtain ⟨hi_184, hf⟩ := z_c_e hf
  refine va_sld hx hb hX hbl hbA hR.2.2.1 (inB_in hi_184) dL_law_679 ?_
  obtain ⟨r_185, σ_186, hc_187, hf⟩ := z_b_e hf
  refine go_i hR (mv_run (As := [.int (xs (ix (x3 + (1 : Int32))))]) (rest := []) X hR mv_99_84 kh_0 (kd_lt kh_0 (by decide)) (c10_asks l G N hc_187) ⟨rfl, rfl, Nat.le_of_ble_eq_true rfl, Nat.le_of_ble_eq_true rfl⟩ rfl hl.1 rfl (Nat.le_of_ble_eq_true rfl) dL_law_680 ⟨Nat.le_of_ble_eq_true rfl, Nat.le_of_ble_eq_true rfl⟩) (fun H locs hR => ?_)
  refine lv_aload_n hx hb dL_law_683 rfl (lv_at hl 2 rfl) ?_
  refine lv_aload_n hx hb dL_law_684 rfl (lv_at hl 0 rfl) ?_
  refine lv_iload_n hx hb dL_law_685 rfl (lv_at hl 3 rfl) ?_
  refine lv_iconst (v := (1 : Int32)) hx hb dL_law_686 (by decide) ?_
  refine lv_iadd hx hb dL_law_687 ?_
  obtain ⟨hi_188, hf⟩ := z_c_e hf
  refine va_sld hx hb hX hbl hbA hR.2.2.1 (inB_in hi_188) dL_law_688 ?_
  obtain ⟨r_189, σ_190, hc_191, hf⟩ := z_b_e hf
  refine go_i hR (mv_run (As := [.int (xs (ix (x3 + (1 : Int32))))]) (rest := [.int r_185]) X hR mv_99_87 kh_160 (kd_lt kh_160 (by decide)) (c11_asks l G N hc_191) ⟨rfl, rfl, Nat.le_of_ble_eq_true rfl, Nat.le_of_ble_eq_true rfl⟩ rfl hl.1 rfl (Nat.le_of_ble_eq_true rfl) dL_law_689 ⟨Nat.le_of_ble_eq_true rfl, Nat.le_of_ble_eq_true rfl⟩) (fun H locs hR => ?_)
  refine lv_icmp_eq (tgt := 1326) hx hb dL_law_692 (by decide) (fun c_192 => ?_) (fun c_192 => ?_)
  · replace hf := z_t c_192 hf
    exact wL_1326 X hr hlk hX hbl hbA hG hav N hk18 x3 σ_190 _ _ _ hf hR (lv_sub hl [0, 1, 2, 3] rfl)
  · replace hf := z_f c_192 hf
    refine lv_iconst (v := (0 : Int32)) hx hb dL_law_695 (by decide) ?_
    exact absurd (congrArg Prod.fst (Option.some.inj hf)) (show ¬ ((0 : Int32) = 1) by decide)
set_option maxHeartbeats 4000000 in
set_option maxRecDepth 100000 in
theorem wL_697 (X : Cx p s m args c cL_law 4 RL G) (hr : meth.sig.returnType = ret) (hlk : meth.locks = false) {b : Nat} {L : Nat} {xs : Nat → Int32} (hX : va_X b L xs s s.heap) (hbl : b < s.heap.size) (hbA : ¬ Fr G b) (hG : G.2.2 = s.heap.size) (hav : args = #[Value.ref b]) (N : Nat) {k18 : Int32 → Mm → Option (Int32 × Mm)} (hk18 : ∀ (x3 : Int32) (σ : Mm) (H : Heap) (locs : List Loc) (ls : Array Slot), k18 x3 σ = some (1, σ0) → Rp G 212 tt σ s H locs → lv_has ls 4 [(0, .ref b), (1, .ref (G.2.2 + 0)), (2, .ref (G.2.2 + 160)), (3, .int x3)] → W p l e room_1 s m args below meth c H locs 212 21984 (lw_Z below args s) (F0 m 18 ls [])) :
    ∀ (x3 : Int32) (σ : Mm) (H : Heap) (locs : List Loc) (ls : Array Slot), fL_697 N k18 L xs x3 σ = some (1, σ0) → Rp G 212 tt σ s H locs → lv_has ls 4 [(0, .ref b), (1, .ref (G.2.2 + 0)), (2, .ref (G.2.2 + 160)), (3, .int x3)] → W p l e room_1 s m args below meth c H locs 212 21984 (lw_Z below args s) (F0 m 697 ls []) := by
  have hx := X.1
  have hb := X.2.1
  intro x3 σ H locs ls hf hR hl
  unfold fL_697 at hf
  refine lv_aload_n hx hb dL_law_697 rfl (lv_at hl 1 rfl) ?_
  refine lv_aload_n hx hb dL_law_698 rfl (lv_at hl 0 rfl) ?_
  refine lv_iload_n hx hb dL_law_699 rfl (lv_at hl 3 rfl) ?_
  refine lv_iconst (v := (1 : Int32)) hx hb dL_law_700 (by decide) ?_
  refine lv_iadd hx hb dL_law_701 ?_
  obtain ⟨hi_194, hf⟩ := z_c_e hf
  refine va_sld hx hb hX hbl hbA hR.2.2.1 (inB_in hi_194) dL_law_702 ?_
  refine lv_aload_n hx hb dL_law_703 rfl (lv_at hl 0 rfl) ?_
  refine lv_iload_n hx hb dL_law_704 rfl (lv_at hl 3 rfl) ?_
  refine lv_iconst (v := (2 : Int32)) hx hb dL_law_705 (by decide) ?_
  refine lv_iadd hx hb dL_law_706 ?_
  obtain ⟨hi_195, hf⟩ := z_c_e hf
  refine va_sld hx hb hX hbl hbA hR.2.2.1 (inB_in hi_195) dL_law_707 ?_
  obtain ⟨r_196, σ_197, hc_198, hf⟩ := z_b_e hf
  refine go_i hR (mv_run (As := [.int (xs (ix (x3 + (1 : Int32)))), .int (xs (ix (x3 + (2 : Int32))))]) (rest := []) X hR mv_99_88 kh_0 (kd_lt kh_0 (by decide)) (c10_round l G N hc_198) ⟨rfl, rfl, Nat.le_of_ble_eq_true rfl, Nat.le_of_ble_eq_true rfl⟩ rfl hl.1 rfl (Nat.le_of_ble_eq_true rfl) dL_law_708 ⟨Nat.le_of_ble_eq_true rfl, Nat.le_of_ble_eq_true rfl⟩) (fun H locs hR => ?_)
  refine lv_aload_n hx hb dL_law_711 rfl (lv_at hl 2 rfl) ?_
  refine lv_aload_n hx hb dL_law_712 rfl (lv_at hl 0 rfl) ?_
  refine lv_iload_n hx hb dL_law_713 rfl (lv_at hl 3 rfl) ?_
  refine lv_iconst (v := (1 : Int32)) hx hb dL_law_714 (by decide) ?_
  refine lv_iadd hx hb dL_law_715 ?_
  obtain ⟨hi_199, hf⟩ := z_c_e hf
  refine va_sld hx hb hX hbl hbA hR.2.2.1 (inB_in hi_199) dL_law_716 ?_
  refine lv_aload_n hx hb dL_law_717 rfl (lv_at hl 0 rfl) ?_
  refine lv_iload_n hx hb dL_law_718 rfl (lv_at hl 3 rfl) ?_
  refine lv_iconst (v := (2 : Int32)) hx hb dL_law_719 (by decide) ?_
  refine lv_iadd hx hb dL_law_720 ?_
  obtain ⟨hi_200, hf⟩ := z_c_e hf
  refine va_sld hx hb hX hbl hbA hR.2.2.1 (inB_in hi_200) dL_law_721 ?_
  obtain ⟨r_201, σ_202, hc_203, hf⟩ := z_b_e hf
  refine go_i hR (mv_run (As := [.int (xs (ix (x3 + (1 : Int32)))), .int (xs (ix (x3 + (2 : Int32))))]) (rest := [.int r_196]) X hR mv_99_91 kh_160 (kd_lt kh_160 (by decide)) (c11_round l G N hc_203) ⟨rfl, rfl, Nat.le_of_ble_eq_true rfl, Nat.le_of_ble_eq_true rfl⟩ rfl hl.1 rfl (Nat.le_of_ble_eq_true rfl) dL_law_722 ⟨Nat.le_of_ble_eq_true rfl, Nat.le_of_ble_eq_true rfl⟩) (fun H locs hR => ?_)
  refine lv_icmp_eq (tgt := 1326) hx hb dL_law_725 (by decide) (fun c_204 => ?_) (fun c_204 => ?_)
  · replace hf := z_t c_204 hf
    exact wL_1326 X hr hlk hX hbl hbA hG hav N hk18 x3 σ_202 _ _ _ hf hR (lv_sub hl [0, 1, 2, 3] rfl)
  · replace hf := z_f c_204 hf
    refine lv_iconst (v := (0 : Int32)) hx hb dL_law_728 (by decide) ?_
    exact absurd (congrArg Prod.fst (Option.some.inj hf)) (show ¬ ((0 : Int32) = 1) by decide)
set_option maxHeartbeats 4000000 in
set_option maxRecDepth 100000 in
theorem wL_730 (X : Cx p s m args c cL_law 4 RL G) (hr : meth.sig.returnType = ret) (hlk : meth.locks = false) {b : Nat} {L : Nat} {xs : Nat → Int32} (hX : va_X b L xs s s.heap) (hbl : b < s.heap.size) (hbA : ¬ Fr G b) (hG : G.2.2 = s.heap.size) (hav : args = #[Value.ref b]) (N : Nat) {k18 : Int32 → Mm → Option (Int32 × Mm)} (hk18 : ∀ (x3 : Int32) (σ : Mm) (H : Heap) (locs : List Loc) (ls : Array Slot), k18 x3 σ = some (1, σ0) → Rp G 212 tt σ s H locs → lv_has ls 4 [(0, .ref b), (1, .ref (G.2.2 + 0)), (2, .ref (G.2.2 + 160)), (3, .int x3)] → W p l e room_1 s m args below meth c H locs 212 21984 (lw_Z below args s) (F0 m 18 ls [])) :
    ∀ (x3 : Int32) (σ : Mm) (H : Heap) (locs : List Loc) (ls : Array Slot), fL_730 N k18 L xs x3 σ = some (1, σ0) → Rp G 212 tt σ s H locs → lv_has ls 4 [(0, .ref b), (1, .ref (G.2.2 + 0)), (2, .ref (G.2.2 + 160)), (3, .int x3)] → W p l e room_1 s m args below meth c H locs 212 21984 (lw_Z below args s) (F0 m 730 ls []) := by
  have hx := X.1
  have hb := X.2.1
  intro x3 σ H locs ls hf hR hl
  unfold fL_730 at hf
  refine lv_aload_n hx hb dL_law_730 rfl (lv_at hl 1 rfl) ?_
  refine lv_aload_n hx hb dL_law_731 rfl (lv_at hl 0 rfl) ?_
  refine lv_iload_n hx hb dL_law_732 rfl (lv_at hl 3 rfl) ?_
  refine lv_iconst (v := (1 : Int32)) hx hb dL_law_733 (by decide) ?_
  refine lv_iadd hx hb dL_law_734 ?_
  obtain ⟨hi_206, hf⟩ := z_c_e hf
  refine va_sld hx hb hX hbl hbA hR.2.2.1 (inB_in hi_206) dL_law_735 ?_
  refine lv_aload_n hx hb dL_law_736 rfl (lv_at hl 0 rfl) ?_
  refine lv_iload_n hx hb dL_law_737 rfl (lv_at hl 3 rfl) ?_
  refine lv_iconst (v := (2 : Int32)) hx hb dL_law_738 (by decide) ?_
  refine lv_iadd hx hb dL_law_739 ?_
  obtain ⟨hi_207, hf⟩ := z_c_e hf
  refine va_sld hx hb hX hbl hbA hR.2.2.1 (inB_in hi_207) dL_law_740 ?_
  obtain ⟨r_208, σ_209, hc_210, hf⟩ := z_b_e hf
  refine go_i hR (mv_run (As := [.int (xs (ix (x3 + (1 : Int32)))), .int (xs (ix (x3 + (2 : Int32))))]) (rest := []) X hR mv_99_92 kh_0 (kd_lt kh_0 (by decide)) (c10_has l G N hc_210) ⟨rfl, rfl, Nat.le_of_ble_eq_true rfl, Nat.le_of_ble_eq_true rfl⟩ rfl hl.1 rfl (Nat.le_of_ble_eq_true rfl) dL_law_741 ⟨Nat.le_of_ble_eq_true rfl, Nat.le_of_ble_eq_true rfl⟩) (fun H locs hR => ?_)
  refine lv_aload_n hx hb dL_law_744 rfl (lv_at hl 2 rfl) ?_
  refine lv_aload_n hx hb dL_law_745 rfl (lv_at hl 0 rfl) ?_
  refine lv_iload_n hx hb dL_law_746 rfl (lv_at hl 3 rfl) ?_
  refine lv_iconst (v := (1 : Int32)) hx hb dL_law_747 (by decide) ?_
  refine lv_iadd hx hb dL_law_748 ?_
  obtain ⟨hi_211, hf⟩ := z_c_e hf
  refine va_sld hx hb hX hbl hbA hR.2.2.1 (inB_in hi_211) dL_law_749 ?_
  refine lv_aload_n hx hb dL_law_750 rfl (lv_at hl 0 rfl) ?_
  refine lv_iload_n hx hb dL_law_751 rfl (lv_at hl 3 rfl) ?_
  refine lv_iconst (v := (2 : Int32)) hx hb dL_law_752 (by decide) ?_
  refine lv_iadd hx hb dL_law_753 ?_
  obtain ⟨hi_212, hf⟩ := z_c_e hf
  refine va_sld hx hb hX hbl hbA hR.2.2.1 (inB_in hi_212) dL_law_754 ?_
  obtain ⟨r_213, σ_214, hc_215, hf⟩ := z_b_e hf
  refine go_i hR (mv_run (As := [.int (xs (ix (x3 + (1 : Int32)))), .int (xs (ix (x3 + (2 : Int32))))]) (rest := [.int r_208]) X hR mv_99_95 kh_160 (kd_lt kh_160 (by decide)) (c11_has l G N hc_215) ⟨rfl, rfl, Nat.le_of_ble_eq_true rfl, Nat.le_of_ble_eq_true rfl⟩ rfl hl.1 rfl (Nat.le_of_ble_eq_true rfl) dL_law_755 ⟨Nat.le_of_ble_eq_true rfl, Nat.le_of_ble_eq_true rfl⟩) (fun H locs hR => ?_)
  refine lv_icmp_eq (tgt := 1326) hx hb dL_law_758 (by decide) (fun c_216 => ?_) (fun c_216 => ?_)
  · replace hf := z_t c_216 hf
    exact wL_1326 X hr hlk hX hbl hbA hG hav N hk18 x3 σ_214 _ _ _ hf hR (lv_sub hl [0, 1, 2, 3] rfl)
  · replace hf := z_f c_216 hf
    refine lv_iconst (v := (0 : Int32)) hx hb dL_law_761 (by decide) ?_
    exact absurd (congrArg Prod.fst (Option.some.inj hf)) (show ¬ ((0 : Int32) = 1) by decide)
set_option maxHeartbeats 4000000 in
set_option maxRecDepth 100000 in
theorem wL_763 (X : Cx p s m args c cL_law 4 RL G) (hr : meth.sig.returnType = ret) (hlk : meth.locks = false) {b : Nat} {L : Nat} {xs : Nat → Int32} (hX : va_X b L xs s s.heap) (hbl : b < s.heap.size) (hbA : ¬ Fr G b) (hG : G.2.2 = s.heap.size) (hav : args = #[Value.ref b]) (N : Nat) {k18 : Int32 → Mm → Option (Int32 × Mm)} (hk18 : ∀ (x3 : Int32) (σ : Mm) (H : Heap) (locs : List Loc) (ls : Array Slot), k18 x3 σ = some (1, σ0) → Rp G 212 tt σ s H locs → lv_has ls 4 [(0, .ref b), (1, .ref (G.2.2 + 0)), (2, .ref (G.2.2 + 160)), (3, .int x3)] → W p l e room_1 s m args below meth c H locs 212 21984 (lw_Z below args s) (F0 m 18 ls [])) :
    ∀ (x3 : Int32) (σ : Mm) (H : Heap) (locs : List Loc) (ls : Array Slot), fL_763 N k18 L xs x3 σ = some (1, σ0) → Rp G 212 tt σ s H locs → lv_has ls 4 [(0, .ref b), (1, .ref (G.2.2 + 0)), (2, .ref (G.2.2 + 160)), (3, .int x3)] → W p l e room_1 s m args below meth c H locs 212 21984 (lw_Z below args s) (F0 m 763 ls []) := by
  have hx := X.1
  have hb := X.2.1
  intro x3 σ H locs ls hf hR hl
  unfold fL_763 at hf
  refine lv_aload_n hx hb dL_law_763 rfl (lv_at hl 1 rfl) ?_
  refine lv_aload_n hx hb dL_law_764 rfl (lv_at hl 0 rfl) ?_
  refine lv_iload_n hx hb dL_law_765 rfl (lv_at hl 3 rfl) ?_
  refine lv_iconst (v := (1 : Int32)) hx hb dL_law_766 (by decide) ?_
  refine lv_iadd hx hb dL_law_767 ?_
  obtain ⟨hi_218, hf⟩ := z_c_e hf
  refine va_sld hx hb hX hbl hbA hR.2.2.1 (inB_in hi_218) dL_law_768 ?_
  refine lv_aload_n hx hb dL_law_769 rfl (lv_at hl 0 rfl) ?_
  refine lv_iload_n hx hb dL_law_770 rfl (lv_at hl 3 rfl) ?_
  refine lv_iconst (v := (2 : Int32)) hx hb dL_law_771 (by decide) ?_
  refine lv_iadd hx hb dL_law_772 ?_
  obtain ⟨hi_219, hf⟩ := z_c_e hf
  refine va_sld hx hb hX hbl hbA hR.2.2.1 (inB_in hi_219) dL_law_773 ?_
  obtain ⟨r_220, σ_221, hc_222, hf⟩ := z_b_e hf
  refine go_i hR (mv_run (As := [.int (xs (ix (x3 + (1 : Int32)))), .int (xs (ix (x3 + (2 : Int32))))]) (rest := []) X hR mv_99_96 kh_0 (kd_lt kh_0 (by decide)) (c10_within l G N hc_222) ⟨rfl, rfl, Nat.le_of_ble_eq_true rfl, Nat.le_of_ble_eq_true rfl⟩ rfl hl.1 rfl (Nat.le_of_ble_eq_true rfl) dL_law_774 ⟨Nat.le_of_ble_eq_true rfl, Nat.le_of_ble_eq_true rfl⟩) (fun H locs hR => ?_)
  refine lv_aload_n hx hb dL_law_777 rfl (lv_at hl 2 rfl) ?_
  refine lv_aload_n hx hb dL_law_778 rfl (lv_at hl 0 rfl) ?_
  refine lv_iload_n hx hb dL_law_779 rfl (lv_at hl 3 rfl) ?_
  refine lv_iconst (v := (1 : Int32)) hx hb dL_law_780 (by decide) ?_
  refine lv_iadd hx hb dL_law_781 ?_
  obtain ⟨hi_223, hf⟩ := z_c_e hf
  refine va_sld hx hb hX hbl hbA hR.2.2.1 (inB_in hi_223) dL_law_782 ?_
  refine lv_aload_n hx hb dL_law_783 rfl (lv_at hl 0 rfl) ?_
  refine lv_iload_n hx hb dL_law_784 rfl (lv_at hl 3 rfl) ?_
  refine lv_iconst (v := (2 : Int32)) hx hb dL_law_785 (by decide) ?_
  refine lv_iadd hx hb dL_law_786 ?_
  obtain ⟨hi_224, hf⟩ := z_c_e hf
  refine va_sld hx hb hX hbl hbA hR.2.2.1 (inB_in hi_224) dL_law_787 ?_
  obtain ⟨r_225, σ_226, hc_227, hf⟩ := z_b_e hf
  refine go_i hR (mv_run (As := [.int (xs (ix (x3 + (1 : Int32)))), .int (xs (ix (x3 + (2 : Int32))))]) (rest := [.int r_220]) X hR mv_99_99 kh_160 (kd_lt kh_160 (by decide)) (c11_within l G N hc_227) ⟨rfl, rfl, Nat.le_of_ble_eq_true rfl, Nat.le_of_ble_eq_true rfl⟩ rfl hl.1 rfl (Nat.le_of_ble_eq_true rfl) dL_law_788 ⟨Nat.le_of_ble_eq_true rfl, Nat.le_of_ble_eq_true rfl⟩) (fun H locs hR => ?_)
  refine lv_icmp_eq (tgt := 1326) hx hb dL_law_791 (by decide) (fun c_228 => ?_) (fun c_228 => ?_)
  · replace hf := z_t c_228 hf
    exact wL_1326 X hr hlk hX hbl hbA hG hav N hk18 x3 σ_226 _ _ _ hf hR (lv_sub hl [0, 1, 2, 3] rfl)
  · replace hf := z_f c_228 hf
    refine lv_iconst (v := (0 : Int32)) hx hb dL_law_794 (by decide) ?_
    exact absurd (congrArg Prod.fst (Option.some.inj hf)) (show ¬ ((0 : Int32) = 1) by decide)
set_option maxHeartbeats 4000000 in
set_option maxRecDepth 100000 in
theorem wL_796 (X : Cx p s m args c cL_law 4 RL G) (hr : meth.sig.returnType = ret) (hlk : meth.locks = false) {b : Nat} {L : Nat} {xs : Nat → Int32} (hX : va_X b L xs s s.heap) (hbl : b < s.heap.size) (hbA : ¬ Fr G b) (hG : G.2.2 = s.heap.size) (hav : args = #[Value.ref b]) (N : Nat) {k18 : Int32 → Mm → Option (Int32 × Mm)} (hk18 : ∀ (x3 : Int32) (σ : Mm) (H : Heap) (locs : List Loc) (ls : Array Slot), k18 x3 σ = some (1, σ0) → Rp G 212 tt σ s H locs → lv_has ls 4 [(0, .ref b), (1, .ref (G.2.2 + 0)), (2, .ref (G.2.2 + 160)), (3, .int x3)] → W p l e room_1 s m args below meth c H locs 212 21984 (lw_Z below args s) (F0 m 18 ls [])) :
    ∀ (x3 : Int32) (σ : Mm) (H : Heap) (locs : List Loc) (ls : Array Slot), fL_796 N k18 L xs x3 σ = some (1, σ0) → Rp G 212 tt σ s H locs → lv_has ls 4 [(0, .ref b), (1, .ref (G.2.2 + 0)), (2, .ref (G.2.2 + 160)), (3, .int x3)] → W p l e room_1 s m args below meth c H locs 212 21984 (lw_Z below args s) (F0 m 796 ls []) := by
  have hx := X.1
  have hb := X.2.1
  intro x3 σ H locs ls hf hR hl
  unfold fL_796 at hf
  refine lv_aload_n hx hb dL_law_796 rfl (lv_at hl 1 rfl) ?_
  refine lv_aload_n hx hb dL_law_797 rfl (lv_at hl 0 rfl) ?_
  refine lv_iload_n hx hb dL_law_798 rfl (lv_at hl 3 rfl) ?_
  refine lv_iconst (v := (1 : Int32)) hx hb dL_law_799 (by decide) ?_
  refine lv_iadd hx hb dL_law_800 ?_
  obtain ⟨hi_230, hf⟩ := z_c_e hf
  refine va_sld hx hb hX hbl hbA hR.2.2.1 (inB_in hi_230) dL_law_801 ?_
  refine lv_aload_n hx hb dL_law_802 rfl (lv_at hl 0 rfl) ?_
  refine lv_iload_n hx hb dL_law_803 rfl (lv_at hl 3 rfl) ?_
  refine lv_iconst (v := (2 : Int32)) hx hb dL_law_804 (by decide) ?_
  refine lv_iadd hx hb dL_law_805 ?_
  obtain ⟨hi_231, hf⟩ := z_c_e hf
  refine va_sld hx hb hX hbl hbA hR.2.2.1 (inB_in hi_231) dL_law_806 ?_
  obtain ⟨r_232, σ_233, hc_234, hf⟩ := z_b_e hf
  refine go_i hR (mv_run (As := [.int (xs (ix (x3 + (1 : Int32)))), .int (xs (ix (x3 + (2 : Int32))))]) (rest := []) X hR mv_99_100 kh_0 (kd_lt kh_0 (by decide)) (c10_rich l G N hc_234) ⟨rfl, rfl, Nat.le_of_ble_eq_true rfl, Nat.le_of_ble_eq_true rfl⟩ rfl hl.1 rfl (Nat.le_of_ble_eq_true rfl) dL_law_807 ⟨Nat.le_of_ble_eq_true rfl, Nat.le_of_ble_eq_true rfl⟩) (fun H locs hR => ?_)
  refine lv_aload_n hx hb dL_law_810 rfl (lv_at hl 2 rfl) ?_
  refine lv_aload_n hx hb dL_law_811 rfl (lv_at hl 0 rfl) ?_
  refine lv_iload_n hx hb dL_law_812 rfl (lv_at hl 3 rfl) ?_
  refine lv_iconst (v := (1 : Int32)) hx hb dL_law_813 (by decide) ?_
  refine lv_iadd hx hb dL_law_814 ?_
  obtain ⟨hi_235, hf⟩ := z_c_e hf
  refine va_sld hx hb hX hbl hbA hR.2.2.1 (inB_in hi_235) dL_law_815 ?_
  refine lv_aload_n hx hb dL_law_816 rfl (lv_at hl 0 rfl) ?_
  refine lv_iload_n hx hb dL_law_817 rfl (lv_at hl 3 rfl) ?_
  refine lv_iconst (v := (2 : Int32)) hx hb dL_law_818 (by decide) ?_
  refine lv_iadd hx hb dL_law_819 ?_
  obtain ⟨hi_236, hf⟩ := z_c_e hf
  refine va_sld hx hb hX hbl hbA hR.2.2.1 (inB_in hi_236) dL_law_820 ?_
  obtain ⟨r_237, σ_238, hc_239, hf⟩ := z_b_e hf
  refine go_i hR (mv_run (As := [.int (xs (ix (x3 + (1 : Int32)))), .int (xs (ix (x3 + (2 : Int32))))]) (rest := [.int r_232]) X hR mv_99_103 kh_160 (kd_lt kh_160 (by decide)) (c11_rich l G N hc_239) ⟨rfl, rfl, Nat.le_of_ble_eq_true rfl, Nat.le_of_ble_eq_true rfl⟩ rfl hl.1 rfl (Nat.le_of_ble_eq_true rfl) dL_law_821 ⟨Nat.le_of_ble_eq_true rfl, Nat.le_of_ble_eq_true rfl⟩) (fun H locs hR => ?_)
  refine lv_icmp_eq (tgt := 1326) hx hb dL_law_824 (by decide) (fun c_240 => ?_) (fun c_240 => ?_)
  · replace hf := z_t c_240 hf
    exact wL_1326 X hr hlk hX hbl hbA hG hav N hk18 x3 σ_238 _ _ _ hf hR (lv_sub hl [0, 1, 2, 3] rfl)
  · replace hf := z_f c_240 hf
    refine lv_iconst (v := (0 : Int32)) hx hb dL_law_827 (by decide) ?_
    exact absurd (congrArg Prod.fst (Option.some.inj hf)) (show ¬ ((0 : Int32) = 1) by decide)
set_option maxHeartbeats 4000000 in
set_option maxRecDepth 100000 in
theorem wL_829 (X : Cx p s m args c cL_law 4 RL G) (hr : meth.sig.returnType = ret) (hlk : meth.locks = false) {b : Nat} {L : Nat} {xs : Nat → Int32} (hX : va_X b L xs s s.heap) (hbl : b < s.heap.size) (hbA : ¬ Fr G b) (hG : G.2.2 = s.heap.size) (hav : args = #[Value.ref b]) (N : Nat) {k18 : Int32 → Mm → Option (Int32 × Mm)} (hk18 : ∀ (x3 : Int32) (σ : Mm) (H : Heap) (locs : List Loc) (ls : Array Slot), k18 x3 σ = some (1, σ0) → Rp G 212 tt σ s H locs → lv_has ls 4 [(0, .ref b), (1, .ref (G.2.2 + 0)), (2, .ref (G.2.2 + 160)), (3, .int x3)] → W p l e room_1 s m args below meth c H locs 212 21984 (lw_Z below args s) (F0 m 18 ls [])) :
    ∀ (x3 : Int32) (σ : Mm) (H : Heap) (locs : List Loc) (ls : Array Slot), fL_829 N k18 L xs x3 σ = some (1, σ0) → Rp G 212 tt σ s H locs → lv_has ls 4 [(0, .ref b), (1, .ref (G.2.2 + 0)), (2, .ref (G.2.2 + 160)), (3, .int x3)] → W p l e room_1 s m args below meth c H locs 212 21984 (lw_Z below args s) (F0 m 829 ls []) := by
  have hx := X.1
  have hb := X.2.1
  intro x3 σ H locs ls hf hR hl
  unfold fL_829 at hf
  refine lv_aload_n hx hb dL_law_829 rfl (lv_at hl 1 rfl) ?_
  refine lv_aload_n hx hb dL_law_830 rfl (lv_at hl 0 rfl) ?_
  refine lv_iload_n hx hb dL_law_831 rfl (lv_at hl 3 rfl) ?_
  refine lv_iconst (v := (1 : Int32)) hx hb dL_law_832 (by decide) ?_
  refine lv_iadd hx hb dL_law_833 ?_
  obtain ⟨hi_242, hf⟩ := z_c_e hf
  refine va_sld hx hb hX hbl hbA hR.2.2.1 (inB_in hi_242) dL_law_834 ?_
  refine lv_aload_n hx hb dL_law_835 rfl (lv_at hl 0 rfl) ?_
  refine lv_iload_n hx hb dL_law_836 rfl (lv_at hl 3 rfl) ?_
  refine lv_iconst (v := (2 : Int32)) hx hb dL_law_837 (by decide) ?_
  refine lv_iadd hx hb dL_law_838 ?_
  obtain ⟨hi_243, hf⟩ := z_c_e hf
  refine va_sld hx hb hX hbl hbA hR.2.2.1 (inB_in hi_243) dL_law_839 ?_
  obtain ⟨r_244, σ_245, hc_246, hf⟩ := z_b_e hf
  refine go_i hR (mv_run (As := [.int (xs (ix (x3 + (1 : Int32)))), .int (xs (ix (x3 + (2 : Int32))))]) (rest := []) X hR mv_99_104 kh_0 (kd_lt kh_0 (by decide)) (c10_chain l G N hc_246) ⟨rfl, rfl, Nat.le_of_ble_eq_true rfl, Nat.le_of_ble_eq_true rfl⟩ rfl hl.1 rfl (Nat.le_of_ble_eq_true rfl) dL_law_840 ⟨Nat.le_of_ble_eq_true rfl, Nat.le_of_ble_eq_true rfl⟩) (fun H locs hR => ?_)
  refine lv_aload_n hx hb dL_law_843 rfl (lv_at hl 2 rfl) ?_
  refine lv_aload_n hx hb dL_law_844 rfl (lv_at hl 0 rfl) ?_
  refine lv_iload_n hx hb dL_law_845 rfl (lv_at hl 3 rfl) ?_
  refine lv_iconst (v := (1 : Int32)) hx hb dL_law_846 (by decide) ?_
  refine lv_iadd hx hb dL_law_847 ?_
  obtain ⟨hi_247, hf⟩ := z_c_e hf
  refine va_sld hx hb hX hbl hbA hR.2.2.1 (inB_in hi_247) dL_law_848 ?_
  refine lv_aload_n hx hb dL_law_849 rfl (lv_at hl 0 rfl) ?_
  refine lv_iload_n hx hb dL_law_850 rfl (lv_at hl 3 rfl) ?_
  refine lv_iconst (v := (2 : Int32)) hx hb dL_law_851 (by decide) ?_
  refine lv_iadd hx hb dL_law_852 ?_
  obtain ⟨hi_248, hf⟩ := z_c_e hf
  refine va_sld hx hb hX hbl hbA hR.2.2.1 (inB_in hi_248) dL_law_853 ?_
  obtain ⟨r_249, σ_250, hc_251, hf⟩ := z_b_e hf
  refine go_i hR (mv_run (As := [.int (xs (ix (x3 + (1 : Int32)))), .int (xs (ix (x3 + (2 : Int32))))]) (rest := [.int r_244]) X hR mv_99_107 kh_160 (kd_lt kh_160 (by decide)) (c11_chain l G N hc_251) ⟨rfl, rfl, Nat.le_of_ble_eq_true rfl, Nat.le_of_ble_eq_true rfl⟩ rfl hl.1 rfl (Nat.le_of_ble_eq_true rfl) dL_law_854 ⟨Nat.le_of_ble_eq_true rfl, Nat.le_of_ble_eq_true rfl⟩) (fun H locs hR => ?_)
  refine lv_icmp_eq (tgt := 1326) hx hb dL_law_857 (by decide) (fun c_252 => ?_) (fun c_252 => ?_)
  · replace hf := z_t c_252 hf
    exact wL_1326 X hr hlk hX hbl hbA hG hav N hk18 x3 σ_250 _ _ _ hf hR (lv_sub hl [0, 1, 2, 3] rfl)
  · replace hf := z_f c_252 hf
    refine lv_iconst (v := (0 : Int32)) hx hb dL_law_860 (by decide) ?_
    exact absurd (congrArg Prod.fst (Option.some.inj hf)) (show ¬ ((0 : Int32) = 1) by decide)
set_option maxHeartbeats 4000000 in
set_option maxRecDepth 100000 in
theorem wL_862 (X : Cx p s m args c cL_law 4 RL G) (hr : meth.sig.returnType = ret) (hlk : meth.locks = false) {b : Nat} {L : Nat} {xs : Nat → Int32} (hX : va_X b L xs s s.heap) (hbl : b < s.heap.size) (hbA : ¬ Fr G b) (hG : G.2.2 = s.heap.size) (hav : args = #[Value.ref b]) (N : Nat) {k18 : Int32 → Mm → Option (Int32 × Mm)} (hk18 : ∀ (x3 : Int32) (σ : Mm) (H : Heap) (locs : List Loc) (ls : Array Slot), k18 x3 σ = some (1, σ0) → Rp G 212 tt σ s H locs → lv_has ls 4 [(0, .ref b), (1, .ref (G.2.2 + 0)), (2, .ref (G.2.2 + 160)), (3, .int x3)] → W p l e room_1 s m args below meth c H locs 212 21984 (lw_Z below args s) (F0 m 18 ls [])) :
    ∀ (x3 : Int32) (σ : Mm) (H : Heap) (locs : List Loc) (ls : Array Slot), fL_862 N k18 L xs x3 σ = some (1, σ0) → Rp G 212 tt σ s H locs → lv_has ls 4 [(0, .ref b), (1, .ref (G.2.2 + 0)), (2, .ref (G.2.2 + 160)), (3, .int x3)] → W p l e room_1 s m args below meth c H locs 212 21984 (lw_Z below args s) (F0 m 862 ls []) := by
  have hx := X.1
  have hb := X.2.1
  intro x3 σ H locs ls hf hR hl
  unfold fL_862 at hf
  refine lv_aload_n hx hb dL_law_862 rfl (lv_at hl 1 rfl) ?_
  refine lv_aload_n hx hb dL_law_863 rfl (lv_at hl 0 rfl) ?_
  refine lv_iload_n hx hb dL_law_864 rfl (lv_at hl 3 rfl) ?_
  refine lv_iconst (v := (1 : Int32)) hx hb dL_law_865 (by decide) ?_
  refine lv_iadd hx hb dL_law_866 ?_
  obtain ⟨hi_254, hf⟩ := z_c_e hf
  refine va_sld hx hb hX hbl hbA hR.2.2.1 (inB_in hi_254) dL_law_867 ?_
  obtain ⟨r_255, σ_256, hc_257, hf⟩ := z_b_e hf
  refine go_i hR (mv_run (As := [.int (xs (ix (x3 + (1 : Int32))))]) (rest := []) X hR mv_99_108 kh_0 (kd_lt kh_0 (by decide)) (c10_idle l G N hc_257) ⟨rfl, rfl, Nat.le_of_ble_eq_true rfl, Nat.le_of_ble_eq_true rfl⟩ rfl hl.1 rfl (Nat.le_of_ble_eq_true rfl) dL_law_868 ⟨Nat.le_of_ble_eq_true rfl, Nat.le_of_ble_eq_true rfl⟩) (fun H locs hR => ?_)
  refine lv_aload_n hx hb dL_law_871 rfl (lv_at hl 2 rfl) ?_
  refine lv_aload_n hx hb dL_law_872 rfl (lv_at hl 0 rfl) ?_
  refine lv_iload_n hx hb dL_law_873 rfl (lv_at hl 3 rfl) ?_
  refine lv_iconst (v := (1 : Int32)) hx hb dL_law_874 (by decide) ?_
  refine lv_iadd hx hb dL_law_875 ?_
  obtain ⟨hi_258, hf⟩ := z_c_e hf
  refine va_sld hx hb hX hbl hbA hR.2.2.1 (inB_in hi_258) dL_law_876 ?_
  obtain ⟨r_259, σ_260, hc_261, hf⟩ := z_b_e hf
  refine go_i hR (mv_run (As := [.int (xs (ix (x3 + (1 : Int32))))]) (rest := [.int r_255]) X hR mv_99_111 kh_160 (kd_lt kh_160 (by decide)) (c11_idle l G N hc_261) ⟨rfl, rfl, Nat.le_of_ble_eq_true rfl, Nat.le_of_ble_eq_true rfl⟩ rfl hl.1 rfl (Nat.le_of_ble_eq_true rfl) dL_law_877 ⟨Nat.le_of_ble_eq_true rfl, Nat.le_of_ble_eq_true rfl⟩) (fun H locs hR => ?_)
  refine lv_icmp_eq (tgt := 1326) hx hb dL_law_880 (by decide) (fun c_262 => ?_) (fun c_262 => ?_)
  · replace hf := z_t c_262 hf
    exact wL_1326 X hr hlk hX hbl hbA hG hav N hk18 x3 σ_260 _ _ _ hf hR (lv_sub hl [0, 1, 2, 3] rfl)
  · replace hf := z_f c_262 hf
    refine lv_iconst (v := (0 : Int32)) hx hb dL_law_883 (by decide) ?_
    exact absurd (congrArg Prod.fst (Option.some.inj hf)) (show ¬ ((0 : Int32) = 1) by decide)
set_option maxHeartbeats 4000000 in
set_option maxRecDepth 100000 in
theorem wL_885 (X : Cx p s m args c cL_law 4 RL G) (hr : meth.sig.returnType = ret) (hlk : meth.locks = false) {b : Nat} {L : Nat} {xs : Nat → Int32} (hX : va_X b L xs s s.heap) (hbl : b < s.heap.size) (hbA : ¬ Fr G b) (hG : G.2.2 = s.heap.size) (hav : args = #[Value.ref b]) (N : Nat) {k18 : Int32 → Mm → Option (Int32 × Mm)} (hk18 : ∀ (x3 : Int32) (σ : Mm) (H : Heap) (locs : List Loc) (ls : Array Slot), k18 x3 σ = some (1, σ0) → Rp G 212 tt σ s H locs → lv_has ls 4 [(0, .ref b), (1, .ref (G.2.2 + 0)), (2, .ref (G.2.2 + 160)), (3, .int x3)] → W p l e room_1 s m args below meth c H locs 212 21984 (lw_Z below args s) (F0 m 18 ls [])) :
    ∀ (x3 : Int32) (σ : Mm) (H : Heap) (locs : List Loc) (ls : Array Slot), fL_885 N k18 L xs x3 σ = some (1, σ0) → Rp G 212 tt σ s H locs → lv_has ls 4 [(0, .ref b), (1, .ref (G.2.2 + 0)), (2, .ref (G.2.2 + 160)), (3, .int x3)] → W p l e room_1 s m args below meth c H locs 212 21984 (lw_Z below args s) (F0 m 885 ls []) := by
  have hx := X.1
  have hb := X.2.1
  intro x3 σ H locs ls hf hR hl
  unfold fL_885 at hf
  refine lv_aload_n hx hb dL_law_885 rfl (lv_at hl 1 rfl) ?_
  refine lv_aload_n hx hb dL_law_886 rfl (lv_at hl 0 rfl) ?_
  refine lv_iload_n hx hb dL_law_887 rfl (lv_at hl 3 rfl) ?_
  refine lv_iconst (v := (1 : Int32)) hx hb dL_law_888 (by decide) ?_
  refine lv_iadd hx hb dL_law_889 ?_
  obtain ⟨hi_264, hf⟩ := z_c_e hf
  refine va_sld hx hb hX hbl hbA hR.2.2.1 (inB_in hi_264) dL_law_890 ?_
  obtain ⟨r_265, σ_266, hc_267, hf⟩ := z_b_e hf
  refine go_i hR (mv_run (As := [.int (xs (ix (x3 + (1 : Int32))))]) (rest := []) X hR mv_99_112 kh_0 (kd_lt kh_0 (by decide)) (c10_eldest l G N hc_267) ⟨rfl, rfl, Nat.le_of_ble_eq_true rfl, Nat.le_of_ble_eq_true rfl⟩ rfl hl.1 rfl (Nat.le_of_ble_eq_true rfl) dL_law_891 ⟨Nat.le_of_ble_eq_true rfl, Nat.le_of_ble_eq_true rfl⟩) (fun H locs hR => ?_)
  refine lv_aload_n hx hb dL_law_894 rfl (lv_at hl 2 rfl) ?_
  refine lv_aload_n hx hb dL_law_895 rfl (lv_at hl 0 rfl) ?_
  refine lv_iload_n hx hb dL_law_896 rfl (lv_at hl 3 rfl) ?_
  refine lv_iconst (v := (1 : Int32)) hx hb dL_law_897 (by decide) ?_
  refine lv_iadd hx hb dL_law_898 ?_
  obtain ⟨hi_268, hf⟩ := z_c_e hf
  refine va_sld hx hb hX hbl hbA hR.2.2.1 (inB_in hi_268) dL_law_899 ?_
  obtain ⟨r_269, σ_270, hc_271, hf⟩ := z_b_e hf
  refine go_i hR (mv_run (As := [.int (xs (ix (x3 + (1 : Int32))))]) (rest := [.int r_265]) X hR mv_99_115 kh_160 (kd_lt kh_160 (by decide)) (c11_eldest l G N hc_271) ⟨rfl, rfl, Nat.le_of_ble_eq_true rfl, Nat.le_of_ble_eq_true rfl⟩ rfl hl.1 rfl (Nat.le_of_ble_eq_true rfl) dL_law_900 ⟨Nat.le_of_ble_eq_true rfl, Nat.le_of_ble_eq_true rfl⟩) (fun H locs hR => ?_)
  refine lv_icmp_eq (tgt := 1326) hx hb dL_law_903 (by decide) (fun c_272 => ?_) (fun c_272 => ?_)
  · replace hf := z_t c_272 hf
    exact wL_1326 X hr hlk hX hbl hbA hG hav N hk18 x3 σ_270 _ _ _ hf hR (lv_sub hl [0, 1, 2, 3] rfl)
  · replace hf := z_f c_272 hf
    refine lv_iconst (v := (0 : Int32)) hx hb dL_law_906 (by decide) ?_
    exact absurd (congrArg Prod.fst (Option.some.inj hf)) (show ¬ ((0 : Int32) = 1) by decide)
set_option maxHeartbeats 4000000 in
set_option maxRecDepth 100000 in
theorem wL_908 (X : Cx p s m args c cL_law 4 RL G) (hr : meth.sig.returnType = ret) (hlk : meth.locks = false) {b : Nat} {L : Nat} {xs : Nat → Int32} (hX : va_X b L xs s s.heap) (hbl : b < s.heap.size) (hbA : ¬ Fr G b) (hG : G.2.2 = s.heap.size) (hav : args = #[Value.ref b]) (N : Nat) {k18 : Int32 → Mm → Option (Int32 × Mm)} (hk18 : ∀ (x3 : Int32) (σ : Mm) (H : Heap) (locs : List Loc) (ls : Array Slot), k18 x3 σ = some (1, σ0) → Rp G 212 tt σ s H locs → lv_has ls 4 [(0, .ref b), (1, .ref (G.2.2 + 0)), (2, .ref (G.2.2 + 160)), (3, .int x3)] → W p l e room_1 s m args below meth c H locs 212 21984 (lw_Z below args s) (F0 m 18 ls [])) :
    ∀ (x3 : Int32) (σ : Mm) (H : Heap) (locs : List Loc) (ls : Array Slot), fL_908 N k18 L xs x3 σ = some (1, σ0) → Rp G 212 tt σ s H locs → lv_has ls 4 [(0, .ref b), (1, .ref (G.2.2 + 0)), (2, .ref (G.2.2 + 160)), (3, .int x3)] → W p l e room_1 s m args below meth c H locs 212 21984 (lw_Z below args s) (F0 m 908 ls []) := by
  have hx := X.1
  have hb := X.2.1
  intro x3 σ H locs ls hf hR hl
  unfold fL_908 at hf
  refine lv_aload_n hx hb dL_law_908 rfl (lv_at hl 1 rfl) ?_
  refine lv_aload_n hx hb dL_law_909 rfl (lv_at hl 0 rfl) ?_
  refine lv_iload_n hx hb dL_law_910 rfl (lv_at hl 3 rfl) ?_
  refine lv_iconst (v := (1 : Int32)) hx hb dL_law_911 (by decide) ?_
  refine lv_iadd hx hb dL_law_912 ?_
  obtain ⟨hi_274, hf⟩ := z_c_e hf
  refine va_sld hx hb hX hbl hbA hR.2.2.1 (inB_in hi_274) dL_law_913 ?_
  obtain ⟨r_275, σ_276, hc_277, hf⟩ := z_b_e hf
  refine go_i hR (mv_run (As := [.int (xs (ix (x3 + (1 : Int32))))]) (rest := []) X hR mv_99_116 kh_0 (kd_lt kh_0 (by decide)) (c10_lapse l G N hc_277) ⟨rfl, rfl, Nat.le_of_ble_eq_true rfl, Nat.le_of_ble_eq_true rfl⟩ rfl hl.1 rfl (Nat.le_of_ble_eq_true rfl) dL_law_914 ⟨Nat.le_of_ble_eq_true rfl, Nat.le_of_ble_eq_true rfl⟩) (fun H locs hR => ?_)
  refine lv_aload_n hx hb dL_law_917 rfl (lv_at hl 2 rfl) ?_
  refine lv_aload_n hx hb dL_law_918 rfl (lv_at hl 0 rfl) ?_
  refine lv_iload_n hx hb dL_law_919 rfl (lv_at hl 3 rfl) ?_
  refine lv_iconst (v := (1 : Int32)) hx hb dL_law_920 (by decide) ?_
  refine lv_iadd hx hb dL_law_921 ?_
  obtain ⟨hi_278, hf⟩ := z_c_e hf
  refine va_sld hx hb hX hbl hbA hR.2.2.1 (inB_in hi_278) dL_law_922 ?_
  obtain ⟨r_279, σ_280, hc_281, hf⟩ := z_b_e hf
  refine go_i hR (mv_run (As := [.int (xs (ix (x3 + (1 : Int32))))]) (rest := [.int r_275]) X hR mv_99_119 kh_160 (kd_lt kh_160 (by decide)) (c11_lapse l G N hc_281) ⟨rfl, rfl, Nat.le_of_ble_eq_true rfl, Nat.le_of_ble_eq_true rfl⟩ rfl hl.1 rfl (Nat.le_of_ble_eq_true rfl) dL_law_923 ⟨Nat.le_of_ble_eq_true rfl, Nat.le_of_ble_eq_true rfl⟩) (fun H locs hR => ?_)
  refine lv_icmp_eq (tgt := 1326) hx hb dL_law_926 (by decide) (fun c_282 => ?_) (fun c_282 => ?_)
  · replace hf := z_t c_282 hf
    exact wL_1326 X hr hlk hX hbl hbA hG hav N hk18 x3 σ_280 _ _ _ hf hR (lv_sub hl [0, 1, 2, 3] rfl)
  · replace hf := z_f c_282 hf
    refine lv_iconst (v := (0 : Int32)) hx hb dL_law_929 (by decide) ?_
    exact absurd (congrArg Prod.fst (Option.some.inj hf)) (show ¬ ((0 : Int32) = 1) by decide)
set_option maxHeartbeats 4000000 in
set_option maxRecDepth 100000 in
theorem wL_931 (X : Cx p s m args c cL_law 4 RL G) (hr : meth.sig.returnType = ret) (hlk : meth.locks = false) {b : Nat} {L : Nat} {xs : Nat → Int32} (hX : va_X b L xs s s.heap) (hbl : b < s.heap.size) (hbA : ¬ Fr G b) (hG : G.2.2 = s.heap.size) (hav : args = #[Value.ref b]) (N : Nat) {k18 : Int32 → Mm → Option (Int32 × Mm)} (hk18 : ∀ (x3 : Int32) (σ : Mm) (H : Heap) (locs : List Loc) (ls : Array Slot), k18 x3 σ = some (1, σ0) → Rp G 212 tt σ s H locs → lv_has ls 4 [(0, .ref b), (1, .ref (G.2.2 + 0)), (2, .ref (G.2.2 + 160)), (3, .int x3)] → W p l e room_1 s m args below meth c H locs 212 21984 (lw_Z below args s) (F0 m 18 ls [])) :
    ∀ (x3 : Int32) (σ : Mm) (H : Heap) (locs : List Loc) (ls : Array Slot), fL_931 N k18 L xs x3 σ = some (1, σ0) → Rp G 212 tt σ s H locs → lv_has ls 4 [(0, .ref b), (1, .ref (G.2.2 + 0)), (2, .ref (G.2.2 + 160)), (3, .int x3)] → W p l e room_1 s m args below meth c H locs 212 21984 (lw_Z below args s) (F0 m 931 ls []) := by
  have hx := X.1
  have hb := X.2.1
  intro x3 σ H locs ls hf hR hl
  unfold fL_931 at hf
  refine lv_aload_n hx hb dL_law_931 rfl (lv_at hl 1 rfl) ?_
  refine lv_aload_n hx hb dL_law_932 rfl (lv_at hl 0 rfl) ?_
  refine lv_iload_n hx hb dL_law_933 rfl (lv_at hl 3 rfl) ?_
  refine lv_iconst (v := (1 : Int32)) hx hb dL_law_934 (by decide) ?_
  refine lv_iadd hx hb dL_law_935 ?_
  obtain ⟨hi_284, hf⟩ := z_c_e hf
  refine va_sld hx hb hX hbl hbA hR.2.2.1 (inB_in hi_284) dL_law_936 ?_
  obtain ⟨r_285, σ_286, hc_287, hf⟩ := z_b_e hf
  refine go_i hR (mv_run (As := [.int (xs (ix (x3 + (1 : Int32))))]) (rest := []) X hR mv_99_120 kh_0 (kd_lt kh_0 (by decide)) (c10_passes l G N hc_287) ⟨rfl, rfl, Nat.le_of_ble_eq_true rfl, Nat.le_of_ble_eq_true rfl⟩ rfl hl.1 rfl (Nat.le_of_ble_eq_true rfl) dL_law_937 ⟨Nat.le_of_ble_eq_true rfl, Nat.le_of_ble_eq_true rfl⟩) (fun H locs hR => ?_)
  refine lv_aload_n hx hb dL_law_940 rfl (lv_at hl 2 rfl) ?_
  refine lv_aload_n hx hb dL_law_941 rfl (lv_at hl 0 rfl) ?_
  refine lv_iload_n hx hb dL_law_942 rfl (lv_at hl 3 rfl) ?_
  refine lv_iconst (v := (1 : Int32)) hx hb dL_law_943 (by decide) ?_
  refine lv_iadd hx hb dL_law_944 ?_
  obtain ⟨hi_288, hf⟩ := z_c_e hf
  refine va_sld hx hb hX hbl hbA hR.2.2.1 (inB_in hi_288) dL_law_945 ?_
  obtain ⟨r_289, σ_290, hc_291, hf⟩ := z_b_e hf
  refine go_i hR (mv_run (As := [.int (xs (ix (x3 + (1 : Int32))))]) (rest := [.int r_285]) X hR mv_99_123 kh_160 (kd_lt kh_160 (by decide)) (c11_passes l G N hc_291) ⟨rfl, rfl, Nat.le_of_ble_eq_true rfl, Nat.le_of_ble_eq_true rfl⟩ rfl hl.1 rfl (Nat.le_of_ble_eq_true rfl) dL_law_946 ⟨Nat.le_of_ble_eq_true rfl, Nat.le_of_ble_eq_true rfl⟩) (fun H locs hR => ?_)
  refine lv_icmp_eq (tgt := 1326) hx hb dL_law_949 (by decide) (fun c_292 => ?_) (fun c_292 => ?_)
  · replace hf := z_t c_292 hf
    exact wL_1326 X hr hlk hX hbl hbA hG hav N hk18 x3 σ_290 _ _ _ hf hR (lv_sub hl [0, 1, 2, 3] rfl)
  · replace hf := z_f c_292 hf
    refine lv_iconst (v := (0 : Int32)) hx hb dL_law_952 (by decide) ?_
    exact absurd (congrArg Prod.fst (Option.some.inj hf)) (show ¬ ((0 : Int32) = 1) by decide)
set_option maxHeartbeats 4000000 in
set_option maxRecDepth 100000 in
theorem wL_954 (X : Cx p s m args c cL_law 4 RL G) (hr : meth.sig.returnType = ret) (hlk : meth.locks = false) {b : Nat} {L : Nat} {xs : Nat → Int32} (hX : va_X b L xs s s.heap) (hbl : b < s.heap.size) (hbA : ¬ Fr G b) (hG : G.2.2 = s.heap.size) (hav : args = #[Value.ref b]) (N : Nat) {k18 : Int32 → Mm → Option (Int32 × Mm)} (hk18 : ∀ (x3 : Int32) (σ : Mm) (H : Heap) (locs : List Loc) (ls : Array Slot), k18 x3 σ = some (1, σ0) → Rp G 212 tt σ s H locs → lv_has ls 4 [(0, .ref b), (1, .ref (G.2.2 + 0)), (2, .ref (G.2.2 + 160)), (3, .int x3)] → W p l e room_1 s m args below meth c H locs 212 21984 (lw_Z below args s) (F0 m 18 ls [])) :
    ∀ (x3 : Int32) (σ : Mm) (H : Heap) (locs : List Loc) (ls : Array Slot), fL_954 N k18 L xs x3 σ = some (1, σ0) → Rp G 212 tt σ s H locs → lv_has ls 4 [(0, .ref b), (1, .ref (G.2.2 + 0)), (2, .ref (G.2.2 + 160)), (3, .int x3)] → W p l e room_1 s m args below meth c H locs 212 21984 (lw_Z below args s) (F0 m 954 ls []) := by
  have hx := X.1
  have hb := X.2.1
  intro x3 σ H locs ls hf hR hl
  unfold fL_954 at hf
  refine lv_aload_n hx hb dL_law_954 rfl (lv_at hl 1 rfl) ?_
  refine lv_aload_n hx hb dL_law_955 rfl (lv_at hl 0 rfl) ?_
  refine lv_iload_n hx hb dL_law_956 rfl (lv_at hl 3 rfl) ?_
  refine lv_iconst (v := (1 : Int32)) hx hb dL_law_957 (by decide) ?_
  refine lv_iadd hx hb dL_law_958 ?_
  obtain ⟨hi_294, hf⟩ := z_c_e hf
  refine va_sld hx hb hX hbl hbA hR.2.2.1 (inB_in hi_294) dL_law_959 ?_
  obtain ⟨r_295, σ_296, hc_297, hf⟩ := z_b_e hf
  refine go_i hR (mv_run (As := [.int (xs (ix (x3 + (1 : Int32))))]) (rest := []) X hR mv_99_124 kh_0 (kd_lt kh_0 (by decide)) (c10_weakest l G N hc_297) ⟨rfl, rfl, Nat.le_of_ble_eq_true rfl, Nat.le_of_ble_eq_true rfl⟩ rfl hl.1 rfl (Nat.le_of_ble_eq_true rfl) dL_law_960 ⟨Nat.le_of_ble_eq_true rfl, Nat.le_of_ble_eq_true rfl⟩) (fun H locs hR => ?_)
  refine lv_aload_n hx hb dL_law_963 rfl (lv_at hl 2 rfl) ?_
  refine lv_aload_n hx hb dL_law_964 rfl (lv_at hl 0 rfl) ?_
  refine lv_iload_n hx hb dL_law_965 rfl (lv_at hl 3 rfl) ?_
  refine lv_iconst (v := (1 : Int32)) hx hb dL_law_966 (by decide) ?_
  refine lv_iadd hx hb dL_law_967 ?_
  obtain ⟨hi_298, hf⟩ := z_c_e hf
  refine va_sld hx hb hX hbl hbA hR.2.2.1 (inB_in hi_298) dL_law_968 ?_
  obtain ⟨r_299, σ_300, hc_301, hf⟩ := z_b_e hf
  refine go_i hR (mv_run (As := [.int (xs (ix (x3 + (1 : Int32))))]) (rest := [.int r_295]) X hR mv_99_127 kh_160 (kd_lt kh_160 (by decide)) (c11_weakest l G N hc_301) ⟨rfl, rfl, Nat.le_of_ble_eq_true rfl, Nat.le_of_ble_eq_true rfl⟩ rfl hl.1 rfl (Nat.le_of_ble_eq_true rfl) dL_law_969 ⟨Nat.le_of_ble_eq_true rfl, Nat.le_of_ble_eq_true rfl⟩) (fun H locs hR => ?_)
  refine lv_icmp_eq (tgt := 1326) hx hb dL_law_972 (by decide) (fun c_302 => ?_) (fun c_302 => ?_)
  · replace hf := z_t c_302 hf
    exact wL_1326 X hr hlk hX hbl hbA hG hav N hk18 x3 σ_300 _ _ _ hf hR (lv_sub hl [0, 1, 2, 3] rfl)
  · replace hf := z_f c_302 hf
    refine lv_iconst (v := (0 : Int32)) hx hb dL_law_975 (by decide) ?_
    exact absurd (congrArg Prod.fst (Option.some.inj hf)) (show ¬ ((0 : Int32) = 1) by decide)
set_option maxHeartbeats 4000000 in
set_option maxRecDepth 100000 in
theorem wL_977 (X : Cx p s m args c cL_law 4 RL G) (hr : meth.sig.returnType = ret) (hlk : meth.locks = false) {b : Nat} {L : Nat} {xs : Nat → Int32} (hX : va_X b L xs s s.heap) (hbl : b < s.heap.size) (hbA : ¬ Fr G b) (hG : G.2.2 = s.heap.size) (hav : args = #[Value.ref b]) (N : Nat) {k18 : Int32 → Mm → Option (Int32 × Mm)} (hk18 : ∀ (x3 : Int32) (σ : Mm) (H : Heap) (locs : List Loc) (ls : Array Slot), k18 x3 σ = some (1, σ0) → Rp G 212 tt σ s H locs → lv_has ls 4 [(0, .ref b), (1, .ref (G.2.2 + 0)), (2, .ref (G.2.2 + 160)), (3, .int x3)] → W p l e room_1 s m args below meth c H locs 212 21984 (lw_Z below args s) (F0 m 18 ls [])) :
    ∀ (x3 : Int32) (σ : Mm) (H : Heap) (locs : List Loc) (ls : Array Slot), fL_977 N k18 L xs x3 σ = some (1, σ0) → Rp G 212 tt σ s H locs → lv_has ls 4 [(0, .ref b), (1, .ref (G.2.2 + 0)), (2, .ref (G.2.2 + 160)), (3, .int x3)] → W p l e room_1 s m args below meth c H locs 212 21984 (lw_Z below args s) (F0 m 977 ls []) := by
  have hx := X.1
  have hb := X.2.1
  intro x3 σ H locs ls hf hR hl
  unfold fL_977 at hf
  refine lv_aload_n hx hb dL_law_977 rfl (lv_at hl 1 rfl) ?_
  refine lv_aload_n hx hb dL_law_978 rfl (lv_at hl 0 rfl) ?_
  refine lv_iload_n hx hb dL_law_979 rfl (lv_at hl 3 rfl) ?_
  refine lv_iconst (v := (1 : Int32)) hx hb dL_law_980 (by decide) ?_
  refine lv_iadd hx hb dL_law_981 ?_
  obtain ⟨hi_304, hf⟩ := z_c_e hf
  refine va_sld hx hb hX hbl hbA hR.2.2.1 (inB_in hi_304) dL_law_982 ?_
  refine lv_aload_n hx hb dL_law_983 rfl (lv_at hl 0 rfl) ?_
  refine lv_iload_n hx hb dL_law_984 rfl (lv_at hl 3 rfl) ?_
  refine lv_iconst (v := (2 : Int32)) hx hb dL_law_985 (by decide) ?_
  refine lv_iadd hx hb dL_law_986 ?_
  obtain ⟨hi_305, hf⟩ := z_c_e hf
  refine va_sld hx hb hX hbl hbA hR.2.2.1 (inB_in hi_305) dL_law_987 ?_
  obtain ⟨r_306, σ_307, hc_308, hf⟩ := z_b_e hf
  refine go_i hR (mv_run (As := [.int (xs (ix (x3 + (1 : Int32)))), .int (xs (ix (x3 + (2 : Int32))))]) (rest := []) X hR mv_99_128 kh_0 (kd_lt kh_0 (by decide)) (c10_ownerIn l G N hc_308) ⟨rfl, rfl, Nat.le_of_ble_eq_true rfl, Nat.le_of_ble_eq_true rfl⟩ rfl hl.1 rfl (Nat.le_of_ble_eq_true rfl) dL_law_988 ⟨Nat.le_of_ble_eq_true rfl, Nat.le_of_ble_eq_true rfl⟩) (fun H locs hR => ?_)
  refine lv_aload_n hx hb dL_law_991 rfl (lv_at hl 2 rfl) ?_
  refine lv_aload_n hx hb dL_law_992 rfl (lv_at hl 0 rfl) ?_
  refine lv_iload_n hx hb dL_law_993 rfl (lv_at hl 3 rfl) ?_
  refine lv_iconst (v := (1 : Int32)) hx hb dL_law_994 (by decide) ?_
  refine lv_iadd hx hb dL_law_995 ?_
  obtain ⟨hi_309, hf⟩ := z_c_e hf
  refine va_sld hx hb hX hbl hbA hR.2.2.1 (inB_in hi_309) dL_law_996 ?_
  refine lv_aload_n hx hb dL_law_997 rfl (lv_at hl 0 rfl) ?_
  refine lv_iload_n hx hb dL_law_998 rfl (lv_at hl 3 rfl) ?_
  refine lv_iconst (v := (2 : Int32)) hx hb dL_law_999 (by decide) ?_
  refine lv_iadd hx hb dL_law_1000 ?_
  obtain ⟨hi_310, hf⟩ := z_c_e hf
  refine va_sld hx hb hX hbl hbA hR.2.2.1 (inB_in hi_310) dL_law_1001 ?_
  obtain ⟨r_311, σ_312, hc_313, hf⟩ := z_b_e hf
  refine go_i hR (mv_run (As := [.int (xs (ix (x3 + (1 : Int32)))), .int (xs (ix (x3 + (2 : Int32))))]) (rest := [.int r_306]) X hR mv_99_131 kh_160 (kd_lt kh_160 (by decide)) (c11_ownerIn l G N hc_313) ⟨rfl, rfl, Nat.le_of_ble_eq_true rfl, Nat.le_of_ble_eq_true rfl⟩ rfl hl.1 rfl (Nat.le_of_ble_eq_true rfl) dL_law_1002 ⟨Nat.le_of_ble_eq_true rfl, Nat.le_of_ble_eq_true rfl⟩) (fun H locs hR => ?_)
  refine lv_icmp_eq (tgt := 1326) hx hb dL_law_1005 (by decide) (fun c_314 => ?_) (fun c_314 => ?_)
  · replace hf := z_t c_314 hf
    exact wL_1326 X hr hlk hX hbl hbA hG hav N hk18 x3 σ_312 _ _ _ hf hR (lv_sub hl [0, 1, 2, 3] rfl)
  · replace hf := z_f c_314 hf
    refine lv_iconst (v := (0 : Int32)) hx hb dL_law_1008 (by decide) ?_
    exact absurd (congrArg Prod.fst (Option.some.inj hf)) (show ¬ ((0 : Int32) = 1) by decide)
set_option maxHeartbeats 4000000 in
set_option maxRecDepth 100000 in
theorem wL_1010 (X : Cx p s m args c cL_law 4 RL G) (hr : meth.sig.returnType = ret) (hlk : meth.locks = false) {b : Nat} {L : Nat} {xs : Nat → Int32} (hX : va_X b L xs s s.heap) (hbl : b < s.heap.size) (hbA : ¬ Fr G b) (hG : G.2.2 = s.heap.size) (hav : args = #[Value.ref b]) (N : Nat) {k18 : Int32 → Mm → Option (Int32 × Mm)} (hk18 : ∀ (x3 : Int32) (σ : Mm) (H : Heap) (locs : List Loc) (ls : Array Slot), k18 x3 σ = some (1, σ0) → Rp G 212 tt σ s H locs → lv_has ls 4 [(0, .ref b), (1, .ref (G.2.2 + 0)), (2, .ref (G.2.2 + 160)), (3, .int x3)] → W p l e room_1 s m args below meth c H locs 212 21984 (lw_Z below args s) (F0 m 18 ls [])) :
    ∀ (x3 : Int32) (σ : Mm) (H : Heap) (locs : List Loc) (ls : Array Slot), fL_1010 N k18 L xs x3 σ = some (1, σ0) → Rp G 212 tt σ s H locs → lv_has ls 4 [(0, .ref b), (1, .ref (G.2.2 + 0)), (2, .ref (G.2.2 + 160)), (3, .int x3)] → W p l e room_1 s m args below meth c H locs 212 21984 (lw_Z below args s) (F0 m 1010 ls []) := by
  have hx := X.1
  have hb := X.2.1
  intro x3 σ H locs ls hf hR hl
  unfold fL_1010 at hf
  refine lv_aload_n hx hb dL_law_1010 rfl (lv_at hl 1 rfl) ?_
  refine lv_aload_n hx hb dL_law_1011 rfl (lv_at hl 0 rfl) ?_
  refine lv_iload_n hx hb dL_law_1012 rfl (lv_at hl 3 rfl) ?_
  refine lv_iconst (v := (1 : Int32)) hx hb dL_law_1013 (by decide) ?_
  refine lv_iadd hx hb dL_law_1014 ?_
  obtain ⟨hi_316, hf⟩ := z_c_e hf
  refine va_sld hx hb hX hbl hbA hR.2.2.1 (inB_in hi_316) dL_law_1015 ?_
  refine lv_aload_n hx hb dL_law_1016 rfl (lv_at hl 0 rfl) ?_
  refine lv_iload_n hx hb dL_law_1017 rfl (lv_at hl 3 rfl) ?_
  refine lv_iconst (v := (2 : Int32)) hx hb dL_law_1018 (by decide) ?_
  refine lv_iadd hx hb dL_law_1019 ?_
  obtain ⟨hi_317, hf⟩ := z_c_e hf
  refine va_sld hx hb hX hbl hbA hR.2.2.1 (inB_in hi_317) dL_law_1020 ?_
  refine lv_aload_n hx hb dL_law_1021 rfl (lv_at hl 0 rfl) ?_
  refine lv_iload_n hx hb dL_law_1022 rfl (lv_at hl 3 rfl) ?_
  refine lv_iconst (v := (3 : Int32)) hx hb dL_law_1023 (by decide) ?_
  refine lv_iadd hx hb dL_law_1024 ?_
  obtain ⟨hi_318, hf⟩ := z_c_e hf
  refine va_sld hx hb hX hbl hbA hR.2.2.1 (inB_in hi_318) dL_law_1025 ?_
  obtain ⟨r_319, σ_320, hc_321, hf⟩ := z_b_e hf
  refine go_i hR (mv_run (As := [.int (xs (ix (x3 + (1 : Int32)))), .int (xs (ix (x3 + (2 : Int32)))), .int (xs (ix (x3 + (3 : Int32))))]) (rest := []) X hR mv_99_132 kh_0 (kd_lt kh_0 (by decide)) (c10_then l G N hc_321) ⟨rfl, rfl, Nat.le_of_ble_eq_true rfl, Nat.le_of_ble_eq_true rfl⟩ rfl hl.1 rfl (Nat.le_of_ble_eq_true rfl) dL_law_1026 ⟨Nat.le_of_ble_eq_true rfl, Nat.le_of_ble_eq_true rfl⟩) (fun H locs hR => ?_)
  refine lv_aload_n hx hb dL_law_1029 rfl (lv_at hl 2 rfl) ?_
  refine lv_aload_n hx hb dL_law_1030 rfl (lv_at hl 0 rfl) ?_
  refine lv_iload_n hx hb dL_law_1031 rfl (lv_at hl 3 rfl) ?_
  refine lv_iconst (v := (1 : Int32)) hx hb dL_law_1032 (by decide) ?_
  refine lv_iadd hx hb dL_law_1033 ?_
  obtain ⟨hi_322, hf⟩ := z_c_e hf
  refine va_sld hx hb hX hbl hbA hR.2.2.1 (inB_in hi_322) dL_law_1034 ?_
  refine lv_aload_n hx hb dL_law_1035 rfl (lv_at hl 0 rfl) ?_
  refine lv_iload_n hx hb dL_law_1036 rfl (lv_at hl 3 rfl) ?_
  refine lv_iconst (v := (2 : Int32)) hx hb dL_law_1037 (by decide) ?_
  refine lv_iadd hx hb dL_law_1038 ?_
  obtain ⟨hi_323, hf⟩ := z_c_e hf
  refine va_sld hx hb hX hbl hbA hR.2.2.1 (inB_in hi_323) dL_law_1039 ?_
  refine lv_aload_n hx hb dL_law_1040 rfl (lv_at hl 0 rfl) ?_
  refine lv_iload_n hx hb dL_law_1041 rfl (lv_at hl 3 rfl) ?_
  refine lv_iconst (v := (3 : Int32)) hx hb dL_law_1042 (by decide) ?_
  refine lv_iadd hx hb dL_law_1043 ?_
  obtain ⟨hi_324, hf⟩ := z_c_e hf
  refine va_sld hx hb hX hbl hbA hR.2.2.1 (inB_in hi_324) dL_law_1044 ?_
  obtain ⟨r_325, σ_326, hc_327, hf⟩ := z_b_e hf
  refine go_i hR (mv_run (As := [.int (xs (ix (x3 + (1 : Int32)))), .int (xs (ix (x3 + (2 : Int32)))), .int (xs (ix (x3 + (3 : Int32))))]) (rest := [.int r_319]) X hR mv_99_136 kh_160 (kd_lt kh_160 (by decide)) (c11_then l G N hc_327) ⟨rfl, rfl, Nat.le_of_ble_eq_true rfl, Nat.le_of_ble_eq_true rfl⟩ rfl hl.1 rfl (Nat.le_of_ble_eq_true rfl) dL_law_1045 ⟨Nat.le_of_ble_eq_true rfl, Nat.le_of_ble_eq_true rfl⟩) (fun H locs hR => ?_)
  refine lv_icmp_eq (tgt := 1326) hx hb dL_law_1048 (by decide) (fun c_328 => ?_) (fun c_328 => ?_)
  · replace hf := z_t c_328 hf
    exact wL_1326 X hr hlk hX hbl hbA hG hav N hk18 x3 σ_326 _ _ _ hf hR (lv_sub hl [0, 1, 2, 3] rfl)
  · replace hf := z_f c_328 hf
    refine lv_iconst (v := (0 : Int32)) hx hb dL_law_1051 (by decide) ?_
    exact absurd (congrArg Prod.fst (Option.some.inj hf)) (show ¬ ((0 : Int32) = 1) by decide)
set_option maxHeartbeats 4000000 in
set_option maxRecDepth 100000 in
theorem wL_1053 (X : Cx p s m args c cL_law 4 RL G) (hr : meth.sig.returnType = ret) (hlk : meth.locks = false) {b : Nat} {L : Nat} {xs : Nat → Int32} (hX : va_X b L xs s s.heap) (hbl : b < s.heap.size) (hbA : ¬ Fr G b) (hG : G.2.2 = s.heap.size) (hav : args = #[Value.ref b]) (N : Nat) {k18 : Int32 → Mm → Option (Int32 × Mm)} (hk18 : ∀ (x3 : Int32) (σ : Mm) (H : Heap) (locs : List Loc) (ls : Array Slot), k18 x3 σ = some (1, σ0) → Rp G 212 tt σ s H locs → lv_has ls 4 [(0, .ref b), (1, .ref (G.2.2 + 0)), (2, .ref (G.2.2 + 160)), (3, .int x3)] → W p l e room_1 s m args below meth c H locs 212 21984 (lw_Z below args s) (F0 m 18 ls [])) :
    ∀ (x3 : Int32) (σ : Mm) (H : Heap) (locs : List Loc) (ls : Array Slot), fL_1053 N k18 L xs x3 σ = some (1, σ0) → Rp G 212 tt σ s H locs → lv_has ls 4 [(0, .ref b), (1, .ref (G.2.2 + 0)), (2, .ref (G.2.2 + 160)), (3, .int x3)] → W p l e room_1 s m args below meth c H locs 212 21984 (lw_Z below args s) (F0 m 1053 ls []) := by
  have hx := X.1
  have hb := X.2.1
  intro x3 σ H locs ls hf hR hl
  unfold fL_1053 at hf
  refine lv_aload_n hx hb dL_law_1053 rfl (lv_at hl 1 rfl) ?_
  refine lv_aload_n hx hb dL_law_1054 rfl (lv_at hl 0 rfl) ?_
  refine lv_iload_n hx hb dL_law_1055 rfl (lv_at hl 3 rfl) ?_
  refine lv_iconst (v := (1 : Int32)) hx hb dL_law_1056 (by decide) ?_
  refine lv_iadd hx hb dL_law_1057 ?_
  obtain ⟨hi_330, hf⟩ := z_c_e hf
  refine va_sld hx hb hX hbl hbA hR.2.2.1 (inB_in hi_330) dL_law_1058 ?_
  refine lv_aload_n hx hb dL_law_1059 rfl (lv_at hl 0 rfl) ?_
  refine lv_iload_n hx hb dL_law_1060 rfl (lv_at hl 3 rfl) ?_
  refine lv_iconst (v := (2 : Int32)) hx hb dL_law_1061 (by decide) ?_
  refine lv_iadd hx hb dL_law_1062 ?_
  obtain ⟨hi_331, hf⟩ := z_c_e hf
  refine va_sld hx hb hX hbl hbA hR.2.2.1 (inB_in hi_331) dL_law_1063 ?_
  obtain ⟨r_332, σ_333, hc_334, hf⟩ := z_b_e hf
  refine go_i hR (mv_run (As := [.int (xs (ix (x3 + (1 : Int32)))), .int (xs (ix (x3 + (2 : Int32))))]) (rest := []) X hR mv_99_137 kh_0 (kd_lt kh_0 (by decide)) (c10_swearIn l G N hc_334) ⟨rfl, rfl, Nat.le_of_ble_eq_true rfl, Nat.le_of_ble_eq_true rfl⟩ rfl hl.1 rfl (Nat.le_of_ble_eq_true rfl) dL_law_1064 ⟨Nat.le_of_ble_eq_true rfl, Nat.le_of_ble_eq_true rfl⟩) (fun H locs hR => ?_)
  refine lv_aload_n hx hb dL_law_1067 rfl (lv_at hl 2 rfl) ?_
  refine lv_aload_n hx hb dL_law_1068 rfl (lv_at hl 0 rfl) ?_
  refine lv_iload_n hx hb dL_law_1069 rfl (lv_at hl 3 rfl) ?_
  refine lv_iconst (v := (1 : Int32)) hx hb dL_law_1070 (by decide) ?_
  refine lv_iadd hx hb dL_law_1071 ?_
  obtain ⟨hi_335, hf⟩ := z_c_e hf
  refine va_sld hx hb hX hbl hbA hR.2.2.1 (inB_in hi_335) dL_law_1072 ?_
  refine lv_aload_n hx hb dL_law_1073 rfl (lv_at hl 0 rfl) ?_
  refine lv_iload_n hx hb dL_law_1074 rfl (lv_at hl 3 rfl) ?_
  refine lv_iconst (v := (2 : Int32)) hx hb dL_law_1075 (by decide) ?_
  refine lv_iadd hx hb dL_law_1076 ?_
  obtain ⟨hi_336, hf⟩ := z_c_e hf
  refine va_sld hx hb hX hbl hbA hR.2.2.1 (inB_in hi_336) dL_law_1077 ?_
  obtain ⟨r_337, σ_338, hc_339, hf⟩ := z_b_e hf
  refine go_i hR (mv_run (As := [.int (xs (ix (x3 + (1 : Int32)))), .int (xs (ix (x3 + (2 : Int32))))]) (rest := [.int r_332]) X hR mv_99_140 kh_160 (kd_lt kh_160 (by decide)) (c11_swearIn l G N hc_339) ⟨rfl, rfl, Nat.le_of_ble_eq_true rfl, Nat.le_of_ble_eq_true rfl⟩ rfl hl.1 rfl (Nat.le_of_ble_eq_true rfl) dL_law_1078 ⟨Nat.le_of_ble_eq_true rfl, Nat.le_of_ble_eq_true rfl⟩) (fun H locs hR => ?_)
  refine lv_icmp_eq (tgt := 1326) hx hb dL_law_1081 (by decide) (fun c_340 => ?_) (fun c_340 => ?_)
  · replace hf := z_t c_340 hf
    exact wL_1326 X hr hlk hX hbl hbA hG hav N hk18 x3 σ_338 _ _ _ hf hR (lv_sub hl [0, 1, 2, 3] rfl)
  · replace hf := z_f c_340 hf
    refine lv_iconst (v := (0 : Int32)) hx hb dL_law_1084 (by decide) ?_
    exact absurd (congrArg Prod.fst (Option.some.inj hf)) (show ¬ ((0 : Int32) = 1) by decide)
set_option maxHeartbeats 4000000 in
set_option maxRecDepth 100000 in
theorem wL_1086 (X : Cx p s m args c cL_law 4 RL G) (hr : meth.sig.returnType = ret) (hlk : meth.locks = false) {b : Nat} {L : Nat} {xs : Nat → Int32} (hX : va_X b L xs s s.heap) (hbl : b < s.heap.size) (hbA : ¬ Fr G b) (hG : G.2.2 = s.heap.size) (hav : args = #[Value.ref b]) (N : Nat) {k18 : Int32 → Mm → Option (Int32 × Mm)} (hk18 : ∀ (x3 : Int32) (σ : Mm) (H : Heap) (locs : List Loc) (ls : Array Slot), k18 x3 σ = some (1, σ0) → Rp G 212 tt σ s H locs → lv_has ls 4 [(0, .ref b), (1, .ref (G.2.2 + 0)), (2, .ref (G.2.2 + 160)), (3, .int x3)] → W p l e room_1 s m args below meth c H locs 212 21984 (lw_Z below args s) (F0 m 18 ls [])) :
    ∀ (x3 : Int32) (σ : Mm) (H : Heap) (locs : List Loc) (ls : Array Slot), fL_1086 N k18 L xs x3 σ = some (1, σ0) → Rp G 212 tt σ s H locs → lv_has ls 4 [(0, .ref b), (1, .ref (G.2.2 + 0)), (2, .ref (G.2.2 + 160)), (3, .int x3)] → W p l e room_1 s m args below meth c H locs 212 21984 (lw_Z below args s) (F0 m 1086 ls []) := by
  have hx := X.1
  have hb := X.2.1
  intro x3 σ H locs ls hf hR hl
  unfold fL_1086 at hf
  refine lv_aload_n hx hb dL_law_1086 rfl (lv_at hl 1 rfl) ?_
  refine lv_aload_n hx hb dL_law_1087 rfl (lv_at hl 0 rfl) ?_
  refine lv_iload_n hx hb dL_law_1088 rfl (lv_at hl 3 rfl) ?_
  refine lv_iconst (v := (1 : Int32)) hx hb dL_law_1089 (by decide) ?_
  refine lv_iadd hx hb dL_law_1090 ?_
  obtain ⟨hi_342, hf⟩ := z_c_e hf
  refine va_sld hx hb hX hbl hbA hR.2.2.1 (inB_in hi_342) dL_law_1091 ?_
  refine lv_aload_n hx hb dL_law_1092 rfl (lv_at hl 0 rfl) ?_
  refine lv_iload_n hx hb dL_law_1093 rfl (lv_at hl 3 rfl) ?_
  refine lv_iconst (v := (2 : Int32)) hx hb dL_law_1094 (by decide) ?_
  refine lv_iadd hx hb dL_law_1095 ?_
  obtain ⟨hi_343, hf⟩ := z_c_e hf
  refine va_sld hx hb hX hbl hbA hR.2.2.1 (inB_in hi_343) dL_law_1096 ?_
  refine lv_aload_n hx hb dL_law_1097 rfl (lv_at hl 0 rfl) ?_
  refine lv_iload_n hx hb dL_law_1098 rfl (lv_at hl 3 rfl) ?_
  refine lv_iconst (v := (3 : Int32)) hx hb dL_law_1099 (by decide) ?_
  refine lv_iadd hx hb dL_law_1100 ?_
  obtain ⟨hi_344, hf⟩ := z_c_e hf
  refine va_sld hx hb hX hbl hbA hR.2.2.1 (inB_in hi_344) dL_law_1101 ?_
  refine lv_aload_n hx hb dL_law_1102 rfl (lv_at hl 0 rfl) ?_
  refine lv_iload_n hx hb dL_law_1103 rfl (lv_at hl 3 rfl) ?_
  refine lv_iconst (v := (4 : Int32)) hx hb dL_law_1104 (by decide) ?_
  refine lv_iadd hx hb dL_law_1105 ?_
  obtain ⟨hi_345, hf⟩ := z_c_e hf
  refine va_sld hx hb hX hbl hbA hR.2.2.1 (inB_in hi_345) dL_law_1106 ?_
  obtain ⟨r_346, σ_347, hc_348, hf⟩ := z_b_e hf
  refine go_i hR (mv_run (As := [.int (xs (ix (x3 + (1 : Int32)))), .int (xs (ix (x3 + (2 : Int32)))), .int (xs (ix (x3 + (3 : Int32)))), .int (xs (ix (x3 + (4 : Int32))))]) (rest := []) X hR mv_99_141 kh_0 (kd_lt kh_0 (by decide)) (c10_year l G N hc_348) ⟨rfl, rfl, Nat.le_of_ble_eq_true rfl, Nat.le_of_ble_eq_true rfl⟩ rfl hl.1 rfl (Nat.le_of_ble_eq_true rfl) dL_law_1107 ⟨Nat.le_of_ble_eq_true rfl, Nat.le_of_ble_eq_true rfl⟩) (fun H locs hR => ?_)
  refine lv_aload_n hx hb dL_law_1110 rfl (lv_at hl 2 rfl) ?_
  refine lv_aload_n hx hb dL_law_1111 rfl (lv_at hl 0 rfl) ?_
  refine lv_iload_n hx hb dL_law_1112 rfl (lv_at hl 3 rfl) ?_
  refine lv_iconst (v := (1 : Int32)) hx hb dL_law_1113 (by decide) ?_
  refine lv_iadd hx hb dL_law_1114 ?_
  obtain ⟨hi_349, hf⟩ := z_c_e hf
  refine va_sld hx hb hX hbl hbA hR.2.2.1 (inB_in hi_349) dL_law_1115 ?_
  refine lv_aload_n hx hb dL_law_1116 rfl (lv_at hl 0 rfl) ?_
  refine lv_iload_n hx hb dL_law_1117 rfl (lv_at hl 3 rfl) ?_
  refine lv_iconst (v := (2 : Int32)) hx hb dL_law_1118 (by decide) ?_
  refine lv_iadd hx hb dL_law_1119 ?_
  obtain ⟨hi_350, hf⟩ := z_c_e hf
  refine va_sld hx hb hX hbl hbA hR.2.2.1 (inB_in hi_350) dL_law_1120 ?_
  refine lv_aload_n hx hb dL_law_1121 rfl (lv_at hl 0 rfl) ?_
  refine lv_iload_n hx hb dL_law_1122 rfl (lv_at hl 3 rfl) ?_
  refine lv_iconst (v := (3 : Int32)) hx hb dL_law_1123 (by decide) ?_
  refine lv_iadd hx hb dL_law_1124 ?_
  obtain ⟨hi_351, hf⟩ := z_c_e hf
  refine va_sld hx hb hX hbl hbA hR.2.2.1 (inB_in hi_351) dL_law_1125 ?_
  refine lv_aload_n hx hb dL_law_1126 rfl (lv_at hl 0 rfl) ?_
  refine lv_iload_n hx hb dL_law_1127 rfl (lv_at hl 3 rfl) ?_
  refine lv_iconst (v := (4 : Int32)) hx hb dL_law_1128 (by decide) ?_
  refine lv_iadd hx hb dL_law_1129 ?_
  obtain ⟨hi_352, hf⟩ := z_c_e hf
  refine va_sld hx hb hX hbl hbA hR.2.2.1 (inB_in hi_352) dL_law_1130 ?_
  obtain ⟨r_353, σ_354, hc_355, hf⟩ := z_b_e hf
  refine go_i hR (mv_run (As := [.int (xs (ix (x3 + (1 : Int32)))), .int (xs (ix (x3 + (2 : Int32)))), .int (xs (ix (x3 + (3 : Int32)))), .int (xs (ix (x3 + (4 : Int32))))]) (rest := [.int r_346]) X hR mv_99_144 kh_160 (kd_lt kh_160 (by decide)) (c11_year l G N hc_355) ⟨rfl, rfl, Nat.le_of_ble_eq_true rfl, Nat.le_of_ble_eq_true rfl⟩ rfl hl.1 rfl (Nat.le_of_ble_eq_true rfl) dL_law_1131 ⟨Nat.le_of_ble_eq_true rfl, Nat.le_of_ble_eq_true rfl⟩) (fun H locs hR => ?_)
  refine lv_icmp_eq (tgt := 1326) hx hb dL_law_1134 (by decide) (fun c_356 => ?_) (fun c_356 => ?_)
  · replace hf := z_t c_356 hf
    exact wL_1326 X hr hlk hX hbl hbA hG hav N hk18 x3 σ_354 _ _ _ hf hR (lv_sub hl [0, 1, 2, 3] rfl)
  · replace hf := z_f c_356 hf
    refine lv_iconst (v := (0 : Int32)) hx hb dL_law_1137 (by decide) ?_
    exact absurd (congrArg Prod.fst (Option.some.inj hf)) (show ¬ ((0 : Int32) = 1) by decide)
set_option maxHeartbeats 4000000 in
set_option maxRecDepth 100000 in
theorem wL_1180 (X : Cx p s m args c cL_law 4 RL G) (hr : meth.sig.returnType = ret) (hlk : meth.locks = false) {b : Nat} {L : Nat} {xs : Nat → Int32} (hX : va_X b L xs s s.heap) (hbl : b < s.heap.size) (hbA : ¬ Fr G b) (hG : G.2.2 = s.heap.size) (hav : args = #[Value.ref b]) (N : Nat) {k18 : Int32 → Mm → Option (Int32 × Mm)} (hk18 : ∀ (x3 : Int32) (σ : Mm) (H : Heap) (locs : List Loc) (ls : Array Slot), k18 x3 σ = some (1, σ0) → Rp G 212 tt σ s H locs → lv_has ls 4 [(0, .ref b), (1, .ref (G.2.2 + 0)), (2, .ref (G.2.2 + 160)), (3, .int x3)] → W p l e room_1 s m args below meth c H locs 212 21984 (lw_Z below args s) (F0 m 18 ls [])) :
    ∀ (x3 : Int32) (s0 : Int32) (s2 : Int32) (s3 : Int32) (σ : Mm) (H : Heap) (locs : List Loc) (ls : Array Slot), fL_1180 N k18 L xs x3 s0 s2 s3 σ = some (1, σ0) → Rp G 212 tt σ s H locs → lv_has ls 4 [(0, .ref b), (1, .ref (G.2.2 + 0)), (2, .ref (G.2.2 + 160)), (3, .int x3)] → W p l e room_1 s m args below meth c H locs 212 21984 (lw_Z below args s) (F0 m 1180 ls [.int s3, .int s2, .ref (G.2.2 + 160), .int s0]) := by
  have hx := X.1
  have hb := X.2.1
  intro x3 s0 s2 s3 σ H locs ls hf hR hl
  unfold fL_1180 at hf
  obtain ⟨r_367, σ_368, hc_369, hf⟩ := z_b_e hf
  refine go_i hR (mv_run (As := [.int s2, .int s3]) (rest := [.int s0]) X hR mv_99_149 kh_160 (kd_lt kh_160 (by decide)) (c11_tell l G N hc_369) ⟨rfl, rfl, Nat.le_of_ble_eq_true rfl, Nat.le_of_ble_eq_true rfl⟩ rfl hl.1 rfl (Nat.le_of_ble_eq_true rfl) dL_law_1180 ⟨Nat.le_of_ble_eq_true rfl, Nat.le_of_ble_eq_true rfl⟩) (fun H locs hR => ?_)
  refine lv_icmp_eq (tgt := 1326) hx hb dL_law_1183 (by decide) (fun c_370 => ?_) (fun c_370 => ?_)
  · replace hf := z_t c_370 hf
    exact wL_1326 X hr hlk hX hbl hbA hG hav N hk18 x3 σ_368 _ _ _ hf hR (lv_sub hl [0, 1, 2, 3] rfl)
  · replace hf := z_f c_370 hf
    refine lv_iconst (v := (0 : Int32)) hx hb dL_law_1186 (by decide) ?_
    exact absurd (congrArg Prod.fst (Option.some.inj hf)) (show ¬ ((0 : Int32) = 1) by decide)
set_option maxHeartbeats 4000000 in
set_option maxRecDepth 100000 in
theorem wL_1158 (X : Cx p s m args c cL_law 4 RL G) (hr : meth.sig.returnType = ret) (hlk : meth.locks = false) {b : Nat} {L : Nat} {xs : Nat → Int32} (hX : va_X b L xs s s.heap) (hbl : b < s.heap.size) (hbA : ¬ Fr G b) (hG : G.2.2 = s.heap.size) (hav : args = #[Value.ref b]) (N : Nat) {k18 : Int32 → Mm → Option (Int32 × Mm)} (hk18 : ∀ (x3 : Int32) (σ : Mm) (H : Heap) (locs : List Loc) (ls : Array Slot), k18 x3 σ = some (1, σ0) → Rp G 212 tt σ s H locs → lv_has ls 4 [(0, .ref b), (1, .ref (G.2.2 + 0)), (2, .ref (G.2.2 + 160)), (3, .int x3)] → W p l e room_1 s m args below meth c H locs 212 21984 (lw_Z below args s) (F0 m 18 ls [])) :
    ∀ (x3 : Int32) (s1 : Int32) (s2 : Int32) (σ : Mm) (H : Heap) (locs : List Loc) (ls : Array Slot), fL_1158 N k18 L xs x3 s1 s2 σ = some (1, σ0) → Rp G 212 tt σ s H locs → lv_has ls 4 [(0, .ref b), (1, .ref (G.2.2 + 0)), (2, .ref (G.2.2 + 160)), (3, .int x3)] → W p l e room_1 s m args below meth c H locs 212 21984 (lw_Z below args s) (F0 m 1158 ls [.int s2, .int s1, .ref (G.2.2 + 0)]) := by
  have hx := X.1
  have hb := X.2.1
  intro x3 s1 s2 σ H locs ls hf hR hl
  unfold fL_1158 at hf
  obtain ⟨r_361, σ_362, hc_363, hf⟩ := z_b_e hf
  refine go_i hR (mv_run (As := [.int s1, .int s2]) (rest := []) X hR mv_99_145 kh_0 (kd_lt kh_0 (by decide)) (c10_tell l G N hc_363) ⟨rfl, rfl, Nat.le_of_ble_eq_true rfl, Nat.le_of_ble_eq_true rfl⟩ rfl hl.1 rfl (Nat.le_of_ble_eq_true rfl) dL_law_1158 ⟨Nat.le_of_ble_eq_true rfl, Nat.le_of_ble_eq_true rfl⟩) (fun H locs hR => ?_)
  refine lv_aload_n hx hb dL_law_1161 rfl (lv_at hl 2 rfl) ?_
  refine lv_aload_n hx hb dL_law_1162 rfl (lv_at hl 0 rfl) ?_
  refine lv_iload_n hx hb dL_law_1163 rfl (lv_at hl 3 rfl) ?_
  refine lv_iconst (v := (1 : Int32)) hx hb dL_law_1164 (by decide) ?_
  refine lv_iadd hx hb dL_law_1165 ?_
  obtain ⟨hi_364, hf⟩ := z_c_e hf
  refine va_sld hx hb hX hbl hbA hR.2.2.1 (inB_in hi_364) dL_law_1166 ?_
  refine lv_aload_n hx hb dL_law_1167 rfl (lv_at hl 0 rfl) ?_
  refine lv_iload_n hx hb dL_law_1168 rfl (lv_at hl 3 rfl) ?_
  refine lv_iconst (v := (2 : Int32)) hx hb dL_law_1169 (by decide) ?_
  refine lv_iadd hx hb dL_law_1170 ?_
  obtain ⟨hi_365, hf⟩ := z_c_e hf
  refine va_sld hx hb hX hbl hbA hR.2.2.1 (inB_in hi_365) dL_law_1171 ?_
  refine lv_if_eq (tgt := 1179) hx hb dL_law_1172 (by decide) (fun c_366 => ?_) (fun c_366 => ?_)
  · replace hf := z_t c_366 hf
    refine lv_iconst (v := (0 : Int32)) hx hb dL_law_1179 (by decide) ?_
    exact wL_1180 X hr hlk hX hbl hbA hG hav N hk18 x3 r_361 (xs (ix (x3 + (1 : Int32)))) (0 : Int32) σ_362 _ _ _ hf hR (lv_sub hl [0, 1, 2, 3] rfl)
  · replace hf := z_f c_366 hf
    refine lv_iconst (v := (1 : Int32)) hx hb dL_law_1175 (by decide) ?_
    refine lv_goto (tgt := 1180) hx hb dL_law_1176 (by decide) ?_
    exact wL_1180 X hr hlk hX hbl hbA hG hav N hk18 x3 r_361 (xs (ix (x3 + (1 : Int32)))) (1 : Int32) σ_362 _ _ _ hf hR (lv_sub hl [0, 1, 2, 3] rfl)
set_option maxHeartbeats 4000000 in
set_option maxRecDepth 100000 in
theorem wL_1139 (X : Cx p s m args c cL_law 4 RL G) (hr : meth.sig.returnType = ret) (hlk : meth.locks = false) {b : Nat} {L : Nat} {xs : Nat → Int32} (hX : va_X b L xs s s.heap) (hbl : b < s.heap.size) (hbA : ¬ Fr G b) (hG : G.2.2 = s.heap.size) (hav : args = #[Value.ref b]) (N : Nat) {k18 : Int32 → Mm → Option (Int32 × Mm)} (hk18 : ∀ (x3 : Int32) (σ : Mm) (H : Heap) (locs : List Loc) (ls : Array Slot), k18 x3 σ = some (1, σ0) → Rp G 212 tt σ s H locs → lv_has ls 4 [(0, .ref b), (1, .ref (G.2.2 + 0)), (2, .ref (G.2.2 + 160)), (3, .int x3)] → W p l e room_1 s m args below meth c H locs 212 21984 (lw_Z below args s) (F0 m 18 ls [])) :
    ∀ (x3 : Int32) (σ : Mm) (H : Heap) (locs : List Loc) (ls : Array Slot), fL_1139 N k18 L xs x3 σ = some (1, σ0) → Rp G 212 tt σ s H locs → lv_has ls 4 [(0, .ref b), (1, .ref (G.2.2 + 0)), (2, .ref (G.2.2 + 160)), (3, .int x3)] → W p l e room_1 s m args below meth c H locs 212 21984 (lw_Z below args s) (F0 m 1139 ls []) := by
  have hx := X.1
  have hb := X.2.1
  intro x3 σ H locs ls hf hR hl
  unfold fL_1139 at hf
  refine lv_aload_n hx hb dL_law_1139 rfl (lv_at hl 1 rfl) ?_
  refine lv_aload_n hx hb dL_law_1140 rfl (lv_at hl 0 rfl) ?_
  refine lv_iload_n hx hb dL_law_1141 rfl (lv_at hl 3 rfl) ?_
  refine lv_iconst (v := (1 : Int32)) hx hb dL_law_1142 (by decide) ?_
  refine lv_iadd hx hb dL_law_1143 ?_
  obtain ⟨hi_358, hf⟩ := z_c_e hf
  refine va_sld hx hb hX hbl hbA hR.2.2.1 (inB_in hi_358) dL_law_1144 ?_
  refine lv_aload_n hx hb dL_law_1145 rfl (lv_at hl 0 rfl) ?_
  refine lv_iload_n hx hb dL_law_1146 rfl (lv_at hl 3 rfl) ?_
  refine lv_iconst (v := (2 : Int32)) hx hb dL_law_1147 (by decide) ?_
  refine lv_iadd hx hb dL_law_1148 ?_
  obtain ⟨hi_359, hf⟩ := z_c_e hf
  refine va_sld hx hb hX hbl hbA hR.2.2.1 (inB_in hi_359) dL_law_1149 ?_
  refine lv_if_eq (tgt := 1157) hx hb dL_law_1150 (by decide) (fun c_360 => ?_) (fun c_360 => ?_)
  · replace hf := z_t c_360 hf
    refine lv_iconst (v := (0 : Int32)) hx hb dL_law_1157 (by decide) ?_
    exact wL_1158 X hr hlk hX hbl hbA hG hav N hk18 x3 (xs (ix (x3 + (1 : Int32)))) (0 : Int32) σ _ _ _ hf hR (lv_sub hl [0, 1, 2, 3] rfl)
  · replace hf := z_f c_360 hf
    refine lv_iconst (v := (1 : Int32)) hx hb dL_law_1153 (by decide) ?_
    refine lv_goto (tgt := 1158) hx hb dL_law_1154 (by decide) ?_
    exact wL_1158 X hr hlk hX hbl hbA hG hav N hk18 x3 (xs (ix (x3 + (1 : Int32)))) (1 : Int32) σ _ _ _ hf hR (lv_sub hl [0, 1, 2, 3] rfl)
set_option maxHeartbeats 4000000 in
set_option maxRecDepth 100000 in
theorem wL_1188 (X : Cx p s m args c cL_law 4 RL G) (hr : meth.sig.returnType = ret) (hlk : meth.locks = false) {b : Nat} {L : Nat} {xs : Nat → Int32} (hX : va_X b L xs s s.heap) (hbl : b < s.heap.size) (hbA : ¬ Fr G b) (hG : G.2.2 = s.heap.size) (hav : args = #[Value.ref b]) (N : Nat) {k18 : Int32 → Mm → Option (Int32 × Mm)} (hk18 : ∀ (x3 : Int32) (σ : Mm) (H : Heap) (locs : List Loc) (ls : Array Slot), k18 x3 σ = some (1, σ0) → Rp G 212 tt σ s H locs → lv_has ls 4 [(0, .ref b), (1, .ref (G.2.2 + 0)), (2, .ref (G.2.2 + 160)), (3, .int x3)] → W p l e room_1 s m args below meth c H locs 212 21984 (lw_Z below args s) (F0 m 18 ls [])) :
    ∀ (x3 : Int32) (σ : Mm) (H : Heap) (locs : List Loc) (ls : Array Slot), fL_1188 N k18 L xs x3 σ = some (1, σ0) → Rp G 212 tt σ s H locs → lv_has ls 4 [(0, .ref b), (1, .ref (G.2.2 + 0)), (2, .ref (G.2.2 + 160)), (3, .int x3)] → W p l e room_1 s m args below meth c H locs 212 21984 (lw_Z below args s) (F0 m 1188 ls []) := by
  have hx := X.1
  have hb := X.2.1
  intro x3 σ H locs ls hf hR hl
  unfold fL_1188 at hf
  refine lv_aload_n hx hb dL_law_1188 rfl (lv_at hl 1 rfl) ?_
  obtain ⟨r_372, σ_373, hc_374, hf⟩ := z_b_e hf
  refine go_i hR (mv_run (As := []) (rest := []) X hR mv_99_150 kh_0 (kd_lt kh_0 (by decide)) (c10_forget l G N hc_374) ⟨rfl, rfl, Nat.le_of_ble_eq_true rfl, Nat.le_of_ble_eq_true rfl⟩ rfl hl.1 rfl (Nat.le_of_ble_eq_true rfl) dL_law_1189 ⟨Nat.le_of_ble_eq_true rfl, Nat.le_of_ble_eq_true rfl⟩) (fun H locs hR => ?_)
  refine lv_aload_n hx hb dL_law_1192 rfl (lv_at hl 2 rfl) ?_
  obtain ⟨r_375, σ_376, hc_377, hf⟩ := z_b_e hf
  refine go_i hR (mv_run (As := []) (rest := [.int r_372]) X hR mv_99_153 kh_160 (kd_lt kh_160 (by decide)) (c11_forget l G N hc_377) ⟨rfl, rfl, Nat.le_of_ble_eq_true rfl, Nat.le_of_ble_eq_true rfl⟩ rfl hl.1 rfl (Nat.le_of_ble_eq_true rfl) dL_law_1193 ⟨Nat.le_of_ble_eq_true rfl, Nat.le_of_ble_eq_true rfl⟩) (fun H locs hR => ?_)
  refine lv_icmp_eq (tgt := 1326) hx hb dL_law_1196 (by decide) (fun c_378 => ?_) (fun c_378 => ?_)
  · replace hf := z_t c_378 hf
    exact wL_1326 X hr hlk hX hbl hbA hG hav N hk18 x3 σ_376 _ _ _ hf hR (lv_sub hl [0, 1, 2, 3] rfl)
  · replace hf := z_f c_378 hf
    refine lv_iconst (v := (0 : Int32)) hx hb dL_law_1199 (by decide) ?_
    exact absurd (congrArg Prod.fst (Option.some.inj hf)) (show ¬ ((0 : Int32) = 1) by decide)
set_option maxHeartbeats 4000000 in
set_option maxRecDepth 100000 in
theorem wL_1201 (X : Cx p s m args c cL_law 4 RL G) (hr : meth.sig.returnType = ret) (hlk : meth.locks = false) {b : Nat} {L : Nat} {xs : Nat → Int32} (hX : va_X b L xs s s.heap) (hbl : b < s.heap.size) (hbA : ¬ Fr G b) (hG : G.2.2 = s.heap.size) (hav : args = #[Value.ref b]) (N : Nat) {k18 : Int32 → Mm → Option (Int32 × Mm)} (hk18 : ∀ (x3 : Int32) (σ : Mm) (H : Heap) (locs : List Loc) (ls : Array Slot), k18 x3 σ = some (1, σ0) → Rp G 212 tt σ s H locs → lv_has ls 4 [(0, .ref b), (1, .ref (G.2.2 + 0)), (2, .ref (G.2.2 + 160)), (3, .int x3)] → W p l e room_1 s m args below meth c H locs 212 21984 (lw_Z below args s) (F0 m 18 ls [])) :
    ∀ (x3 : Int32) (σ : Mm) (H : Heap) (locs : List Loc) (ls : Array Slot), fL_1201 N k18 L xs x3 σ = some (1, σ0) → Rp G 212 tt σ s H locs → lv_has ls 4 [(0, .ref b), (1, .ref (G.2.2 + 0)), (2, .ref (G.2.2 + 160)), (3, .int x3)] → W p l e room_1 s m args below meth c H locs 212 21984 (lw_Z below args s) (F0 m 1201 ls []) := by
  have hx := X.1
  have hb := X.2.1
  intro x3 σ H locs ls hf hR hl
  unfold fL_1201 at hf
  refine lv_aload_n hx hb dL_law_1201 rfl (lv_at hl 1 rfl) ?_
  refine lv_aload_n hx hb dL_law_1202 rfl (lv_at hl 0 rfl) ?_
  refine lv_iload_n hx hb dL_law_1203 rfl (lv_at hl 3 rfl) ?_
  refine lv_iconst (v := (1 : Int32)) hx hb dL_law_1204 (by decide) ?_
  refine lv_iadd hx hb dL_law_1205 ?_
  obtain ⟨hi_380, hf⟩ := z_c_e hf
  refine va_sld hx hb hX hbl hbA hR.2.2.1 (inB_in hi_380) dL_law_1206 ?_
  refine lv_aload_n hx hb dL_law_1207 rfl (lv_at hl 0 rfl) ?_
  refine lv_iload_n hx hb dL_law_1208 rfl (lv_at hl 3 rfl) ?_
  refine lv_iconst (v := (2 : Int32)) hx hb dL_law_1209 (by decide) ?_
  refine lv_iadd hx hb dL_law_1210 ?_
  obtain ⟨hi_381, hf⟩ := z_c_e hf
  refine va_sld hx hb hX hbl hbA hR.2.2.1 (inB_in hi_381) dL_law_1211 ?_
  obtain ⟨r_382, σ_383, hc_384, hf⟩ := z_b_e hf
  refine go_i hR (mv_run (As := [.int (xs (ix (x3 + (1 : Int32)))), .int (xs (ix (x3 + (2 : Int32))))]) (rest := []) X hR mv_99_154 kh_0 (kd_lt kh_0 (by decide)) (c10_which l G N hc_384) ⟨rfl, rfl, Nat.le_of_ble_eq_true rfl, Nat.le_of_ble_eq_true rfl⟩ rfl hl.1 rfl (Nat.le_of_ble_eq_true rfl) dL_law_1212 ⟨Nat.le_of_ble_eq_true rfl, Nat.le_of_ble_eq_true rfl⟩) (fun H locs hR => ?_)
  refine lv_aload_n hx hb dL_law_1215 rfl (lv_at hl 2 rfl) ?_
  refine lv_aload_n hx hb dL_law_1216 rfl (lv_at hl 0 rfl) ?_
  refine lv_iload_n hx hb dL_law_1217 rfl (lv_at hl 3 rfl) ?_
  refine lv_iconst (v := (1 : Int32)) hx hb dL_law_1218 (by decide) ?_
  refine lv_iadd hx hb dL_law_1219 ?_
  obtain ⟨hi_385, hf⟩ := z_c_e hf
  refine va_sld hx hb hX hbl hbA hR.2.2.1 (inB_in hi_385) dL_law_1220 ?_
  refine lv_aload_n hx hb dL_law_1221 rfl (lv_at hl 0 rfl) ?_
  refine lv_iload_n hx hb dL_law_1222 rfl (lv_at hl 3 rfl) ?_
  refine lv_iconst (v := (2 : Int32)) hx hb dL_law_1223 (by decide) ?_
  refine lv_iadd hx hb dL_law_1224 ?_
  obtain ⟨hi_386, hf⟩ := z_c_e hf
  refine va_sld hx hb hX hbl hbA hR.2.2.1 (inB_in hi_386) dL_law_1225 ?_
  obtain ⟨r_387, σ_388, hc_389, hf⟩ := z_b_e hf
  refine go_i hR (mv_run (As := [.int (xs (ix (x3 + (1 : Int32)))), .int (xs (ix (x3 + (2 : Int32))))]) (rest := [.int r_382]) X hR mv_99_157 kh_160 (kd_lt kh_160 (by decide)) (c11_which l G N hc_389) ⟨rfl, rfl, Nat.le_of_ble_eq_true rfl, Nat.le_of_ble_eq_true rfl⟩ rfl hl.1 rfl (Nat.le_of_ble_eq_true rfl) dL_law_1226 ⟨Nat.le_of_ble_eq_true rfl, Nat.le_of_ble_eq_true rfl⟩) (fun H locs hR => ?_)
  refine lv_icmp_eq (tgt := 1326) hx hb dL_law_1229 (by decide) (fun c_390 => ?_) (fun c_390 => ?_)
  · replace hf := z_t c_390 hf
    exact wL_1326 X hr hlk hX hbl hbA hG hav N hk18 x3 σ_388 _ _ _ hf hR (lv_sub hl [0, 1, 2, 3] rfl)
  · replace hf := z_f c_390 hf
    refine lv_iconst (v := (0 : Int32)) hx hb dL_law_1232 (by decide) ?_
    exact absurd (congrArg Prod.fst (Option.some.inj hf)) (show ¬ ((0 : Int32) = 1) by decide)
set_option maxHeartbeats 4000000 in
set_option maxRecDepth 100000 in
theorem wL_1234 (X : Cx p s m args c cL_law 4 RL G) (hr : meth.sig.returnType = ret) (hlk : meth.locks = false) {b : Nat} {L : Nat} {xs : Nat → Int32} (hX : va_X b L xs s s.heap) (hbl : b < s.heap.size) (hbA : ¬ Fr G b) (hG : G.2.2 = s.heap.size) (hav : args = #[Value.ref b]) (N : Nat) {k18 : Int32 → Mm → Option (Int32 × Mm)} (hk18 : ∀ (x3 : Int32) (σ : Mm) (H : Heap) (locs : List Loc) (ls : Array Slot), k18 x3 σ = some (1, σ0) → Rp G 212 tt σ s H locs → lv_has ls 4 [(0, .ref b), (1, .ref (G.2.2 + 0)), (2, .ref (G.2.2 + 160)), (3, .int x3)] → W p l e room_1 s m args below meth c H locs 212 21984 (lw_Z below args s) (F0 m 18 ls [])) :
    ∀ (x3 : Int32) (σ : Mm) (H : Heap) (locs : List Loc) (ls : Array Slot), fL_1234 N k18 L xs x3 σ = some (1, σ0) → Rp G 212 tt σ s H locs → lv_has ls 4 [(0, .ref b), (1, .ref (G.2.2 + 0)), (2, .ref (G.2.2 + 160)), (3, .int x3)] → W p l e room_1 s m args below meth c H locs 212 21984 (lw_Z below args s) (F0 m 1234 ls []) := by
  have hx := X.1
  have hb := X.2.1
  intro x3 σ H locs ls hf hR hl
  unfold fL_1234 at hf
  refine lv_aload_n hx hb dL_law_1234 rfl (lv_at hl 1 rfl) ?_
  refine lv_aload_n hx hb dL_law_1235 rfl (lv_at hl 0 rfl) ?_
  refine lv_iload_n hx hb dL_law_1236 rfl (lv_at hl 3 rfl) ?_
  refine lv_iconst (v := (1 : Int32)) hx hb dL_law_1237 (by decide) ?_
  refine lv_iadd hx hb dL_law_1238 ?_
  obtain ⟨hi_392, hf⟩ := z_c_e hf
  refine va_sld hx hb hX hbl hbA hR.2.2.1 (inB_in hi_392) dL_law_1239 ?_
  obtain ⟨r_393, σ_394, hc_395, hf⟩ := z_b_e hf
  refine go_i hR (mv_run (As := [.int (xs (ix (x3 + (1 : Int32))))]) (rest := []) X hR mv_99_158 kh_0 (kd_lt kh_0 (by decide)) (c10_ask l G N hc_395) ⟨rfl, rfl, Nat.le_of_ble_eq_true rfl, Nat.le_of_ble_eq_true rfl⟩ rfl hl.1 rfl (Nat.le_of_ble_eq_true rfl) dL_law_1240 ⟨Nat.le_of_ble_eq_true rfl, Nat.le_of_ble_eq_true rfl⟩) (fun H locs hR => ?_)
  refine lv_aload_n hx hb dL_law_1243 rfl (lv_at hl 2 rfl) ?_
  refine lv_aload_n hx hb dL_law_1244 rfl (lv_at hl 0 rfl) ?_
  refine lv_iload_n hx hb dL_law_1245 rfl (lv_at hl 3 rfl) ?_
  refine lv_iconst (v := (1 : Int32)) hx hb dL_law_1246 (by decide) ?_
  refine lv_iadd hx hb dL_law_1247 ?_
  obtain ⟨hi_396, hf⟩ := z_c_e hf
  refine va_sld hx hb hX hbl hbA hR.2.2.1 (inB_in hi_396) dL_law_1248 ?_
  obtain ⟨r_397, σ_398, hc_399, hf⟩ := z_b_e hf
  refine go_i hR (mv_run (As := [.int (xs (ix (x3 + (1 : Int32))))]) (rest := [.int r_393]) X hR mv_99_161 kh_160 (kd_lt kh_160 (by decide)) (c11_ask l G N hc_399) ⟨rfl, rfl, Nat.le_of_ble_eq_true rfl, Nat.le_of_ble_eq_true rfl⟩ rfl hl.1 rfl (Nat.le_of_ble_eq_true rfl) dL_law_1249 ⟨Nat.le_of_ble_eq_true rfl, Nat.le_of_ble_eq_true rfl⟩) (fun H locs hR => ?_)
  refine lv_icmp_eq (tgt := 1326) hx hb dL_law_1252 (by decide) (fun c_400 => ?_) (fun c_400 => ?_)
  · replace hf := z_t c_400 hf
    exact wL_1326 X hr hlk hX hbl hbA hG hav N hk18 x3 σ_398 _ _ _ hf hR (lv_sub hl [0, 1, 2, 3] rfl)
  · replace hf := z_f c_400 hf
    refine lv_iconst (v := (0 : Int32)) hx hb dL_law_1255 (by decide) ?_
    exact absurd (congrArg Prod.fst (Option.some.inj hf)) (show ¬ ((0 : Int32) = 1) by decide)
set_option maxHeartbeats 4000000 in
set_option maxRecDepth 100000 in
theorem wL_1257 (X : Cx p s m args c cL_law 4 RL G) (hr : meth.sig.returnType = ret) (hlk : meth.locks = false) {b : Nat} {L : Nat} {xs : Nat → Int32} (hX : va_X b L xs s s.heap) (hbl : b < s.heap.size) (hbA : ¬ Fr G b) (hG : G.2.2 = s.heap.size) (hav : args = #[Value.ref b]) (N : Nat) {k18 : Int32 → Mm → Option (Int32 × Mm)} (hk18 : ∀ (x3 : Int32) (σ : Mm) (H : Heap) (locs : List Loc) (ls : Array Slot), k18 x3 σ = some (1, σ0) → Rp G 212 tt σ s H locs → lv_has ls 4 [(0, .ref b), (1, .ref (G.2.2 + 0)), (2, .ref (G.2.2 + 160)), (3, .int x3)] → W p l e room_1 s m args below meth c H locs 212 21984 (lw_Z below args s) (F0 m 18 ls [])) :
    ∀ (x3 : Int32) (σ : Mm) (H : Heap) (locs : List Loc) (ls : Array Slot), fL_1257 N k18 L xs x3 σ = some (1, σ0) → Rp G 212 tt σ s H locs → lv_has ls 4 [(0, .ref b), (1, .ref (G.2.2 + 0)), (2, .ref (G.2.2 + 160)), (3, .int x3)] → W p l e room_1 s m args below meth c H locs 212 21984 (lw_Z below args s) (F0 m 1257 ls []) := by
  have hx := X.1
  have hb := X.2.1
  intro x3 σ H locs ls hf hR hl
  unfold fL_1257 at hf
  refine lv_aload_n hx hb dL_law_1257 rfl (lv_at hl 1 rfl) ?_
  refine lv_aload_n hx hb dL_law_1258 rfl (lv_at hl 0 rfl) ?_
  refine lv_iload_n hx hb dL_law_1259 rfl (lv_at hl 3 rfl) ?_
  refine lv_iconst (v := (1 : Int32)) hx hb dL_law_1260 (by decide) ?_
  refine lv_iadd hx hb dL_law_1261 ?_
  obtain ⟨hi_402, hf⟩ := z_c_e hf
  refine va_sld hx hb hX hbl hbA hR.2.2.1 (inB_in hi_402) dL_law_1262 ?_
  obtain ⟨r_403, σ_404, hc_405, hf⟩ := z_b_e hf
  refine go_i hR (mv_run (As := [.int (xs (ix (x3 + (1 : Int32))))]) (rest := []) X hR mv_99_162 kh_0 (kd_lt kh_0 (by decide)) (c10_hold l G N hc_405) ⟨rfl, rfl, Nat.le_of_ble_eq_true rfl, Nat.le_of_ble_eq_true rfl⟩ rfl hl.1 rfl (Nat.le_of_ble_eq_true rfl) dL_law_1263 ⟨Nat.le_of_ble_eq_true rfl, Nat.le_of_ble_eq_true rfl⟩) (fun H locs hR => ?_)
  refine lv_aload_n hx hb dL_law_1266 rfl (lv_at hl 2 rfl) ?_
  refine lv_aload_n hx hb dL_law_1267 rfl (lv_at hl 0 rfl) ?_
  refine lv_iload_n hx hb dL_law_1268 rfl (lv_at hl 3 rfl) ?_
  refine lv_iconst (v := (1 : Int32)) hx hb dL_law_1269 (by decide) ?_
  refine lv_iadd hx hb dL_law_1270 ?_
  obtain ⟨hi_406, hf⟩ := z_c_e hf
  refine va_sld hx hb hX hbl hbA hR.2.2.1 (inB_in hi_406) dL_law_1271 ?_
  obtain ⟨r_407, σ_408, hc_409, hf⟩ := z_b_e hf
  refine go_i hR (mv_run (As := [.int (xs (ix (x3 + (1 : Int32))))]) (rest := [.int r_403]) X hR mv_99_166 kh_160 (kd_lt kh_160 (by decide)) (c11_hold l G N hc_409) ⟨rfl, rfl, Nat.le_of_ble_eq_true rfl, Nat.le_of_ble_eq_true rfl⟩ rfl hl.1 rfl (Nat.le_of_ble_eq_true rfl) dL_law_1272 ⟨Nat.le_of_ble_eq_true rfl, Nat.le_of_ble_eq_true rfl⟩) (fun H locs hR => ?_)
  refine lv_icmp_eq (tgt := 1326) hx hb dL_law_1275 (by decide) (fun c_410 => ?_) (fun c_410 => ?_)
  · replace hf := z_t c_410 hf
    exact wL_1326 X hr hlk hX hbl hbA hG hav N hk18 x3 σ_408 _ _ _ hf hR (lv_sub hl [0, 1, 2, 3] rfl)
  · replace hf := z_f c_410 hf
    refine lv_iconst (v := (0 : Int32)) hx hb dL_law_1278 (by decide) ?_
    exact absurd (congrArg Prod.fst (Option.some.inj hf)) (show ¬ ((0 : Int32) = 1) by decide)
set_option maxHeartbeats 4000000 in
set_option maxRecDepth 100000 in
theorem wL_1280 (X : Cx p s m args c cL_law 4 RL G) (hr : meth.sig.returnType = ret) (hlk : meth.locks = false) {b : Nat} {L : Nat} {xs : Nat → Int32} (hX : va_X b L xs s s.heap) (hbl : b < s.heap.size) (hbA : ¬ Fr G b) (hG : G.2.2 = s.heap.size) (hav : args = #[Value.ref b]) (N : Nat) {k18 : Int32 → Mm → Option (Int32 × Mm)} (hk18 : ∀ (x3 : Int32) (σ : Mm) (H : Heap) (locs : List Loc) (ls : Array Slot), k18 x3 σ = some (1, σ0) → Rp G 212 tt σ s H locs → lv_has ls 4 [(0, .ref b), (1, .ref (G.2.2 + 0)), (2, .ref (G.2.2 + 160)), (3, .int x3)] → W p l e room_1 s m args below meth c H locs 212 21984 (lw_Z below args s) (F0 m 18 ls [])) :
    ∀ (x3 : Int32) (σ : Mm) (H : Heap) (locs : List Loc) (ls : Array Slot), fL_1280 N k18 L xs x3 σ = some (1, σ0) → Rp G 212 tt σ s H locs → lv_has ls 4 [(0, .ref b), (1, .ref (G.2.2 + 0)), (2, .ref (G.2.2 + 160)), (3, .int x3)] → W p l e room_1 s m args below meth c H locs 212 21984 (lw_Z below args s) (F0 m 1280 ls []) := by
  have hx := X.1
  have hb := X.2.1
  intro x3 σ H locs ls hf hR hl
  unfold fL_1280 at hf
  refine lv_aload_n hx hb dL_law_1280 rfl (lv_at hl 1 rfl) ?_
  refine lv_aload_n hx hb dL_law_1281 rfl (lv_at hl 0 rfl) ?_
  refine lv_iload_n hx hb dL_law_1282 rfl (lv_at hl 3 rfl) ?_
  refine lv_iconst (v := (1 : Int32)) hx hb dL_law_1283 (by decide) ?_
  refine lv_iadd hx hb dL_law_1284 ?_
  obtain ⟨hi_412, hf⟩ := z_c_e hf
  refine va_sld hx hb hX hbl hbA hR.2.2.1 (inB_in hi_412) dL_law_1285 ?_
  obtain ⟨r_413, σ_414, hc_415, hf⟩ := z_b_e hf
  refine go_i hR (mv_run (As := [.int (xs (ix (x3 + (1 : Int32))))]) (rest := []) X hR mv_99_167 kh_0 (kd_lt kh_0 (by decide)) (c10_restore l G N hc_415) ⟨rfl, rfl, Nat.le_of_ble_eq_true rfl, Nat.le_of_ble_eq_true rfl⟩ rfl hl.1 rfl (Nat.le_of_ble_eq_true rfl) dL_law_1286 ⟨Nat.le_of_ble_eq_true rfl, Nat.le_of_ble_eq_true rfl⟩) (fun H locs hR => ?_)
  refine lv_aload_n hx hb dL_law_1289 rfl (lv_at hl 2 rfl) ?_
  refine lv_aload_n hx hb dL_law_1290 rfl (lv_at hl 0 rfl) ?_
  refine lv_iload_n hx hb dL_law_1291 rfl (lv_at hl 3 rfl) ?_
  refine lv_iconst (v := (1 : Int32)) hx hb dL_law_1292 (by decide) ?_
  refine lv_iadd hx hb dL_law_1293 ?_
  obtain ⟨hi_416, hf⟩ := z_c_e hf
  refine va_sld hx hb hX hbl hbA hR.2.2.1 (inB_in hi_416) dL_law_1294 ?_
  obtain ⟨r_417, σ_418, hc_419, hf⟩ := z_b_e hf
  refine go_i hR (mv_run (As := [.int (xs (ix (x3 + (1 : Int32))))]) (rest := [.int r_413]) X hR mv_99_170 kh_160 (kd_lt kh_160 (by decide)) (c11_restore l G N hc_419) ⟨rfl, rfl, Nat.le_of_ble_eq_true rfl, Nat.le_of_ble_eq_true rfl⟩ rfl hl.1 rfl (Nat.le_of_ble_eq_true rfl) dL_law_1295 ⟨Nat.le_of_ble_eq_true rfl, Nat.le_of_ble_eq_true rfl⟩) (fun H locs hR => ?_)
  refine lv_icmp_eq (tgt := 1326) hx hb dL_law_1298 (by decide) (fun c_420 => ?_) (fun c_420 => ?_)
  · replace hf := z_t c_420 hf
    exact wL_1326 X hr hlk hX hbl hbA hG hav N hk18 x3 σ_418 _ _ _ hf hR (lv_sub hl [0, 1, 2, 3] rfl)
  · replace hf := z_f c_420 hf
    refine lv_iconst (v := (0 : Int32)) hx hb dL_law_1301 (by decide) ?_
    exact absurd (congrArg Prod.fst (Option.some.inj hf)) (show ¬ ((0 : Int32) = 1) by decide)
set_option maxHeartbeats 4000000 in
set_option maxRecDepth 100000 in
theorem wL_1303 (X : Cx p s m args c cL_law 4 RL G) (hr : meth.sig.returnType = ret) (hlk : meth.locks = false) {b : Nat} {L : Nat} {xs : Nat → Int32} (hX : va_X b L xs s s.heap) (hbl : b < s.heap.size) (hbA : ¬ Fr G b) (hG : G.2.2 = s.heap.size) (hav : args = #[Value.ref b]) (N : Nat) {k18 : Int32 → Mm → Option (Int32 × Mm)} (hk18 : ∀ (x3 : Int32) (σ : Mm) (H : Heap) (locs : List Loc) (ls : Array Slot), k18 x3 σ = some (1, σ0) → Rp G 212 tt σ s H locs → lv_has ls 4 [(0, .ref b), (1, .ref (G.2.2 + 0)), (2, .ref (G.2.2 + 160)), (3, .int x3)] → W p l e room_1 s m args below meth c H locs 212 21984 (lw_Z below args s) (F0 m 18 ls [])) :
    ∀ (x3 : Int32) (σ : Mm) (H : Heap) (locs : List Loc) (ls : Array Slot), fL_1303 N k18 L xs x3 σ = some (1, σ0) → Rp G 212 tt σ s H locs → lv_has ls 4 [(0, .ref b), (1, .ref (G.2.2 + 0)), (2, .ref (G.2.2 + 160)), (3, .int x3)] → W p l e room_1 s m args below meth c H locs 212 21984 (lw_Z below args s) (F0 m 1303 ls []) := by
  have hx := X.1
  have hb := X.2.1
  intro x3 σ H locs ls hf hR hl
  unfold fL_1303 at hf
  refine lv_aload_n hx hb dL_law_1303 rfl (lv_at hl 1 rfl) ?_
  refine lv_aload_n hx hb dL_law_1304 rfl (lv_at hl 0 rfl) ?_
  refine lv_iload_n hx hb dL_law_1305 rfl (lv_at hl 3 rfl) ?_
  refine lv_iconst (v := (1 : Int32)) hx hb dL_law_1306 (by decide) ?_
  refine lv_iadd hx hb dL_law_1307 ?_
  obtain ⟨hi_422, hf⟩ := z_c_e hf
  refine va_sld hx hb hX hbl hbA hR.2.2.1 (inB_in hi_422) dL_law_1308 ?_
  obtain ⟨r_423, σ_424, hc_425, hf⟩ := z_b_e hf
  refine go_i hR (mv_run (As := [.int (xs (ix (x3 + (1 : Int32))))]) (rest := []) X hR mv_99_171 kh_0 (kd_lt kh_0 (by decide)) (c10_count l G N hc_425) ⟨rfl, rfl, Nat.le_of_ble_eq_true rfl, Nat.le_of_ble_eq_true rfl⟩ rfl hl.1 rfl (Nat.le_of_ble_eq_true rfl) dL_law_1309 ⟨Nat.le_of_ble_eq_true rfl, Nat.le_of_ble_eq_true rfl⟩) (fun H locs hR => ?_)
  refine lv_aload_n hx hb dL_law_1312 rfl (lv_at hl 2 rfl) ?_
  refine lv_aload_n hx hb dL_law_1313 rfl (lv_at hl 0 rfl) ?_
  refine lv_iload_n hx hb dL_law_1314 rfl (lv_at hl 3 rfl) ?_
  refine lv_iconst (v := (1 : Int32)) hx hb dL_law_1315 (by decide) ?_
  refine lv_iadd hx hb dL_law_1316 ?_
  obtain ⟨hi_426, hf⟩ := z_c_e hf
  refine va_sld hx hb hX hbl hbA hR.2.2.1 (inB_in hi_426) dL_law_1317 ?_
  obtain ⟨r_427, σ_428, hc_429, hf⟩ := z_b_e hf
  refine go_i hR (mv_run (As := [.int (xs (ix (x3 + (1 : Int32))))]) (rest := [.int r_423]) X hR mv_99_174 kh_160 (kd_lt kh_160 (by decide)) (c11_count l G N hc_429) ⟨rfl, rfl, Nat.le_of_ble_eq_true rfl, Nat.le_of_ble_eq_true rfl⟩ rfl hl.1 rfl (Nat.le_of_ble_eq_true rfl) dL_law_1318 ⟨Nat.le_of_ble_eq_true rfl, Nat.le_of_ble_eq_true rfl⟩) (fun H locs hR => ?_)
  refine lv_icmp_eq (tgt := 1326) hx hb dL_law_1321 (by decide) (fun c_430 => ?_) (fun c_430 => ?_)
  · replace hf := z_t c_430 hf
    exact wL_1326 X hr hlk hX hbl hbA hG hav N hk18 x3 σ_428 _ _ _ hf hR (lv_sub hl [0, 1, 2, 3] rfl)
  · replace hf := z_f c_430 hf
    refine lv_iconst (v := (0 : Int32)) hx hb dL_law_1324 (by decide) ?_
    exact absurd (congrArg Prod.fst (Option.some.inj hf)) (show ¬ ((0 : Int32) = 1) by decide)
set_option maxHeartbeats 4000000 in
set_option maxRecDepth 100000 in
theorem wL_18 (X : Cx p s m args c cL_law 4 RL G) (hr : meth.sig.returnType = ret) (hlk : meth.locks = false) {b : Nat} {L : Nat} {xs : Nat → Int32} (hX : va_X b L xs s s.heap) (hbl : b < s.heap.size) (hbA : ¬ Fr G b) (hG : G.2.2 = s.heap.size) (hav : args = #[Value.ref b]) (N : Nat) :
    ∀ (fu : Nat) (x3 : Int32) (σ : Mm) (H : Heap) (locs : List Loc) (ls : Array Slot), fL_18 N L xs fu x3 σ = some (1, σ0) → Rp G 212 tt σ s H locs → lv_has ls 4 [(0, .ref b), (1, .ref (G.2.2 + 0)), (2, .ref (G.2.2 + 160)), (3, .int x3)] → W p l e room_1 s m args below meth c H locs 212 21984 (lw_Z below args s) (F0 m 18 ls []) := by
  have hx := X.1
  have hb := X.2.1
  intro fu
  induction fu with
  | zero =>
    intro x3 σ H locs ls hf hR hl
    rw [fL_18] at hf
    cases hf
  | succ fu ih =>
    intro x3 σ H locs ls hf hR hl
    rw [fL_18] at hf
    refine lv_iload_n hx hb dL_law_18 rfl (lv_at hl 3 rfl) ?_
    refine lv_aload_n hx hb dL_law_19 rfl (lv_at hl 0 rfl) ?_
    refine va_slen hx hb hX hbl hbA hR.2.2.1 dL_law_20 ?_
    refine lv_bipush (v := (6 : Int32)) hx hb dL_law_21 (by decide) ?_
    refine lv_isub hx hb dL_law_23 ?_
    refine lv_icmp_gt (tgt := 1332) hx hb dL_law_24 (by decide) (fun c_1 => ?_) (fun c_1 => ?_)
    · replace hf := z_t c_1 hf
      refine lv_iconst (v := (1 : Int32)) hx hb dL_law_1332 (by decide) ?_
      refine va_forget (fun q hq => Nat.le_trans (Nat.le_of_eq hG.symm) (hR.2.2.1.2.2 q hq)) ?_
      refine W.widen (k := 600000) (n := 7302250) (Nat.le_of_ble_eq_true rfl) (Nat.le_of_ble_eq_true rfl) ?_
      rw [hav]
      exact lw_ret X.1 X.2.1 hr hlk dL_law_1333
    · replace hf := z_f c_1 hf
      refine lv_aload_n hx hb dL_law_27 rfl (lv_at hl 0 rfl) ?_
      refine lv_iload_n hx hb dL_law_28 rfl (lv_at hl 3 rfl) ?_
      obtain ⟨hi_2, hf⟩ := z_c_e hf
      refine va_sld hx hb hX hbl hbA hR.2.2.1 (inB_in hi_2) dL_law_29 ?_
      refine lv_bipush (v := (63 : Int32)) hx hb dL_law_30 (by decide) ?_
      refine lv_iand hx hb dL_law_32 ?_
      by_cases c_21 : ((xs (ix x3)) &&& (63 : Int32)) = (0 : Int32)
      · replace hf := z_t c_21 hf
        refine lv_tableIn (off := 167) (tgt := 200) hx hb dL_law_33 (by rw [c_21]; decide) (by rw [c_21]; decide) (by rw [c_21]; rfl) (by decide) ?_
        exact wL_200 X hr hlk hX hbl hbA hG hav N ih x3 σ _ _ _ hf hR (lv_sub hl [0, 1, 2, 3] rfl)
      replace hf := z_f c_21 hf
      by_cases c_31 : ((xs (ix x3)) &&& (63 : Int32)) = (1 : Int32)
      · replace hf := z_t c_31 hf
        refine lv_tableIn (off := 230) (tgt := 263) hx hb dL_law_33 (by rw [c_31]; decide) (by rw [c_31]; decide) (by rw [c_31]; rfl) (by decide) ?_
        exact wL_263 X hr hlk hX hbl hbA hG hav N ih x3 σ _ _ _ hf hR (lv_sub hl [0, 1, 2, 3] rfl)
      replace hf := z_f c_31 hf
      by_cases c_39 : ((xs (ix x3)) &&& (63 : Int32)) = (2 : Int32)
      · replace hf := z_t c_39 hf
        refine lv_tableIn (off := 253) (tgt := 286) hx hb dL_law_33 (by rw [c_39]; decide) (by rw [c_39]; decide) (by rw [c_39]; rfl) (by decide) ?_
        exact wL_286 X hr hlk hX hbl hbA hG hav N ih x3 σ _ _ _ hf hR (lv_sub hl [0, 1, 2, 3] rfl)
      replace hf := z_f c_39 hf
      by_cases c_47 : ((xs (ix x3)) &&& (63 : Int32)) = (3 : Int32)
      · replace hf := z_t c_47 hf
        refine lv_tableIn (off := 266) (tgt := 299) hx hb dL_law_33 (by rw [c_47]; decide) (by rw [c_47]; decide) (by rw [c_47]; rfl) (by decide) ?_
        exact wL_299 X hr hlk hX hbl hbA hG hav N ih x3 σ _ _ _ hf hR (lv_sub hl [0, 1, 2, 3] rfl)
      replace hf := z_f c_47 hf
      by_cases c_59 : ((xs (ix x3)) &&& (63 : Int32)) = (4 : Int32)
      · replace hf := z_t c_59 hf
        refine lv_tableIn (off := 279) (tgt := 312) hx hb dL_law_33 (by rw [c_59]; decide) (by rw [c_59]; decide) (by rw [c_59]; rfl) (by decide) ?_
        exact wL_312 X hr hlk hX hbl hbA hG hav N ih x3 σ _ _ _ hf hR (lv_sub hl [0, 1, 2, 3] rfl)
      replace hf := z_f c_59 hf
      by_cases c_71 : ((xs (ix x3)) &&& (63 : Int32)) = (5 : Int32)
      · replace hf := z_t c_71 hf
        refine lv_tableIn (off := 312) (tgt := 345) hx hb dL_law_33 (by rw [c_71]; decide) (by rw [c_71]; decide) (by rw [c_71]; rfl) (by decide) ?_
        exact wL_345 X hr hlk hX hbl hbA hG hav N ih x3 σ _ _ _ hf hR (lv_sub hl [0, 1, 2, 3] rfl)
      replace hf := z_f c_71 hf
      by_cases c_83 : ((xs (ix x3)) &&& (63 : Int32)) = (6 : Int32)
      · replace hf := z_t c_83 hf
        refine lv_tableIn (off := 345) (tgt := 378) hx hb dL_law_33 (by rw [c_83]; decide) (by rw [c_83]; decide) (by rw [c_83]; rfl) (by decide) ?_
        exact wL_378 X hr hlk hX hbl hbA hG hav N ih x3 σ _ _ _ hf hR (lv_sub hl [0, 1, 2, 3] rfl)
      replace hf := z_f c_83 hf
      by_cases c_99 : ((xs (ix x3)) &&& (63 : Int32)) = (7 : Int32)
      · replace hf := z_t c_99 hf
        refine lv_tableIn (off := 378) (tgt := 411) hx hb dL_law_33 (by rw [c_99]; decide) (by rw [c_99]; decide) (by rw [c_99]; rfl) (by decide) ?_
        exact wL_411 X hr hlk hX hbl hbA hG hav N ih x3 σ _ _ _ hf hR (lv_sub hl [0, 1, 2, 3] rfl)
      replace hf := z_f c_99 hf
      by_cases c_113 : ((xs (ix x3)) &&& (63 : Int32)) = (8 : Int32)
      · replace hf := z_t c_113 hf
        refine lv_tableIn (off := 431) (tgt := 464) hx hb dL_law_33 (by rw [c_113]; decide) (by rw [c_113]; decide) (by rw [c_113]; rfl) (by decide) ?_
        exact wL_464 X hr hlk hX hbl hbA hG hav N ih x3 σ _ _ _ hf hR (lv_sub hl [0, 1, 2, 3] rfl)
      replace hf := z_f c_113 hf
      by_cases c_123 : ((xs (ix x3)) &&& (63 : Int32)) = (9 : Int32)
      · replace hf := z_t c_123 hf
        refine lv_tableIn (off := 480) (tgt := 513) hx hb dL_law_33 (by rw [c_123]; decide) (by rw [c_123]; decide) (by rw [c_123]; rfl) (by decide) ?_
        exact wL_513 X hr hlk hX hbl hbA hG hav N ih x3 σ _ _ _ hf hR (lv_sub hl [0, 1, 2, 3] rfl)
      replace hf := z_f c_123 hf
      by_cases c_131 : ((xs (ix x3)) &&& (63 : Int32)) = (10 : Int32)
      · replace hf := z_t c_131 hf
        refine lv_tableIn (off := 503) (tgt := 536) hx hb dL_law_33 (by rw [c_131]; decide) (by rw [c_131]; decide) (by rw [c_131]; rfl) (by decide) ?_
        exact wL_536 X hr hlk hX hbl hbA hG hav N ih x3 σ _ _ _ hf hR (lv_sub hl [0, 1, 2, 3] rfl)
      replace hf := z_f c_131 hf
      by_cases c_141 : ((xs (ix x3)) &&& (63 : Int32)) = (11 : Int32)
      · replace hf := z_t c_141 hf
        refine lv_tableIn (off := 516) (tgt := 549) hx hb dL_law_33 (by rw [c_141]; decide) (by rw [c_141]; decide) (by rw [c_141]; rfl) (by decide) ?_
        exact wL_549 X hr hlk hX hbl hbA hG hav N ih x3 σ _ _ _ hf hR (lv_sub hl [0, 1, 2, 3] rfl)
      replace hf := z_f c_141 hf
      by_cases c_149 : ((xs (ix x3)) &&& (63 : Int32)) = (12 : Int32)
      · replace hf := z_t c_149 hf
        refine lv_tableIn (off := 539) (tgt := 572) hx hb dL_law_33 (by rw [c_149]; decide) (by rw [c_149]; decide) (by rw [c_149]; rfl) (by decide) ?_
        exact wL_572 X hr hlk hX hbl hbA hG hav N ih x3 σ _ _ _ hf hR (lv_sub hl [0, 1, 2, 3] rfl)
      replace hf := z_f c_149 hf
      by_cases c_159 : ((xs (ix x3)) &&& (63 : Int32)) = (13 : Int32)
      · replace hf := z_t c_159 hf
        refine lv_tableIn (off := 552) (tgt := 585) hx hb dL_law_33 (by rw [c_159]; decide) (by rw [c_159]; decide) (by rw [c_159]; rfl) (by decide) ?_
        exact wL_585 X hr hlk hX hbl hbA hG hav N ih x3 σ _ _ _ hf hR (lv_sub hl [0, 1, 2, 3] rfl)
      replace hf := z_f c_159 hf
      by_cases c_171 : ((xs (ix x3)) &&& (63 : Int32)) = (14 : Int32)
      · replace hf := z_t c_171 hf
        refine lv_tableIn (off := 575) (tgt := 608) hx hb dL_law_33 (by rw [c_171]; decide) (by rw [c_171]; decide) (by rw [c_171]; rfl) (by decide) ?_
        exact wL_608 X hr hlk hX hbl hbA hG hav N ih x3 σ _ _ _ hf hR (lv_sub hl [0, 1, 2, 3] rfl)
      replace hf := z_f c_171 hf
      by_cases c_183 : ((xs (ix x3)) &&& (63 : Int32)) = (15 : Int32)
      · replace hf := z_t c_183 hf
        refine lv_tableIn (off := 608) (tgt := 641) hx hb dL_law_33 (by rw [c_183]; decide) (by rw [c_183]; decide) (by rw [c_183]; rfl) (by decide) ?_
        exact wL_641 X hr hlk hX hbl hbA hG hav N ih x3 σ _ _ _ hf hR (lv_sub hl [0, 1, 2, 3] rfl)
      replace hf := z_f c_183 hf
      by_cases c_193 : ((xs (ix x3)) &&& (63 : Int32)) = (16 : Int32)
      · replace hf := z_t c_193 hf
        refine lv_tableIn (off := 641) (tgt := 674) hx hb dL_law_33 (by rw [c_193]; decide) (by rw [c_193]; decide) (by rw [c_193]; rfl) (by decide) ?_
        exact wL_674 X hr hlk hX hbl hbA hG hav N ih x3 σ _ _ _ hf hR (lv_sub hl [0, 1, 2, 3] rfl)
      replace hf := z_f c_193 hf
      by_cases c_205 : ((xs (ix x3)) &&& (63 : Int32)) = (17 : Int32)
      · replace hf := z_t c_205 hf
        refine lv_tableIn (off := 664) (tgt := 697) hx hb dL_law_33 (by rw [c_205]; decide) (by rw [c_205]; decide) (by rw [c_205]; rfl) (by decide) ?_
        exact wL_697 X hr hlk hX hbl hbA hG hav N ih x3 σ _ _ _ hf hR (lv_sub hl [0, 1, 2, 3] rfl)
      replace hf := z_f c_205 hf
      by_cases c_217 : ((xs (ix x3)) &&& (63 : Int32)) = (18 : Int32)
      · replace hf := z_t c_217 hf
        refine lv_tableIn (off := 697) (tgt := 730) hx hb dL_law_33 (by rw [c_217]; decide) (by rw [c_217]; decide) (by rw [c_217]; rfl) (by decide) ?_
        exact wL_730 X hr hlk hX hbl hbA hG hav N ih x3 σ _ _ _ hf hR (lv_sub hl [0, 1, 2, 3] rfl)
      replace hf := z_f c_217 hf
      by_cases c_229 : ((xs (ix x3)) &&& (63 : Int32)) = (19 : Int32)
      · replace hf := z_t c_229 hf
        refine lv_tableIn (off := 730) (tgt := 763) hx hb dL_law_33 (by rw [c_229]; decide) (by rw [c_229]; decide) (by rw [c_229]; rfl) (by decide) ?_
        exact wL_763 X hr hlk hX hbl hbA hG hav N ih x3 σ _ _ _ hf hR (lv_sub hl [0, 1, 2, 3] rfl)
      replace hf := z_f c_229 hf
      by_cases c_241 : ((xs (ix x3)) &&& (63 : Int32)) = (20 : Int32)
      · replace hf := z_t c_241 hf
        refine lv_tableIn (off := 763) (tgt := 796) hx hb dL_law_33 (by rw [c_241]; decide) (by rw [c_241]; decide) (by rw [c_241]; rfl) (by decide) ?_
        exact wL_796 X hr hlk hX hbl hbA hG hav N ih x3 σ _ _ _ hf hR (lv_sub hl [0, 1, 2, 3] rfl)
      replace hf := z_f c_241 hf
      by_cases c_253 : ((xs (ix x3)) &&& (63 : Int32)) = (21 : Int32)
      · replace hf := z_t c_253 hf
        refine lv_tableIn (off := 796) (tgt := 829) hx hb dL_law_33 (by rw [c_253]; decide) (by rw [c_253]; decide) (by rw [c_253]; rfl) (by decide) ?_
        exact wL_829 X hr hlk hX hbl hbA hG hav N ih x3 σ _ _ _ hf hR (lv_sub hl [0, 1, 2, 3] rfl)
      replace hf := z_f c_253 hf
      by_cases c_263 : ((xs (ix x3)) &&& (63 : Int32)) = (22 : Int32)
      · replace hf := z_t c_263 hf
        refine lv_tableIn (off := 829) (tgt := 862) hx hb dL_law_33 (by rw [c_263]; decide) (by rw [c_263]; decide) (by rw [c_263]; rfl) (by decide) ?_
        exact wL_862 X hr hlk hX hbl hbA hG hav N ih x3 σ _ _ _ hf hR (lv_sub hl [0, 1, 2, 3] rfl)
      replace hf := z_f c_263 hf
      by_cases c_273 : ((xs (ix x3)) &&& (63 : Int32)) = (23 : Int32)
      · replace hf := z_t c_273 hf
        refine lv_tableIn (off := 852) (tgt := 885) hx hb dL_law_33 (by rw [c_273]; decide) (by rw [c_273]; decide) (by rw [c_273]; rfl) (by decide) ?_
        exact wL_885 X hr hlk hX hbl hbA hG hav N ih x3 σ _ _ _ hf hR (lv_sub hl [0, 1, 2, 3] rfl)
      replace hf := z_f c_273 hf
      by_cases c_283 : ((xs (ix x3)) &&& (63 : Int32)) = (24 : Int32)
      · replace hf := z_t c_283 hf
        refine lv_tableIn (off := 875) (tgt := 908) hx hb dL_law_33 (by rw [c_283]; decide) (by rw [c_283]; decide) (by rw [c_283]; rfl) (by decide) ?_
        exact wL_908 X hr hlk hX hbl hbA hG hav N ih x3 σ _ _ _ hf hR (lv_sub hl [0, 1, 2, 3] rfl)
      replace hf := z_f c_283 hf
      by_cases c_293 : ((xs (ix x3)) &&& (63 : Int32)) = (25 : Int32)
      · replace hf := z_t c_293 hf
        refine lv_tableIn (off := 898) (tgt := 931) hx hb dL_law_33 (by rw [c_293]; decide) (by rw [c_293]; decide) (by rw [c_293]; rfl) (by decide) ?_
        exact wL_931 X hr hlk hX hbl hbA hG hav N ih x3 σ _ _ _ hf hR (lv_sub hl [0, 1, 2, 3] rfl)
      replace hf := z_f c_293 hf
      by_cases c_303 : ((xs (ix x3)) &&& (63 : Int32)) = (26 : Int32)
      · replace hf := z_t c_303 hf
        refine lv_tableIn (off := 921) (tgt := 954) hx hb dL_law_33 (by rw [c_303]; decide) (by rw [c_303]; decide) (by rw [c_303]; rfl) (by decide) ?_
        exact wL_954 X hr hlk hX hbl hbA hG hav N ih x3 σ _ _ _ hf hR (lv_sub hl [0, 1, 2, 3] rfl)
      replace hf := z_f c_303 hf
      by_cases c_315 : ((xs (ix x3)) &&& (63 : Int32)) = (27 : Int32)
      · replace hf := z_t c_315 hf
        refine lv_tableIn (off := 944) (tgt := 977) hx hb dL_law_33 (by rw [c_315]; decide) (by rw [c_315]; decide) (by rw [c_315]; rfl) (by decide) ?_
        exact wL_977 X hr hlk hX hbl hbA hG hav N ih x3 σ _ _ _ hf hR (lv_sub hl [0, 1, 2, 3] rfl)
      replace hf := z_f c_315 hf
      by_cases c_329 : ((xs (ix x3)) &&& (63 : Int32)) = (28 : Int32)
      · replace hf := z_t c_329 hf
        refine lv_tableIn (off := 977) (tgt := 1010) hx hb dL_law_33 (by rw [c_329]; decide) (by rw [c_329]; decide) (by rw [c_329]; rfl) (by decide) ?_
        exact wL_1010 X hr hlk hX hbl hbA hG hav N ih x3 σ _ _ _ hf hR (lv_sub hl [0, 1, 2, 3] rfl)
      replace hf := z_f c_329 hf
      by_cases c_341 : ((xs (ix x3)) &&& (63 : Int32)) = (29 : Int32)
      · replace hf := z_t c_341 hf
        refine lv_tableIn (off := 1020) (tgt := 1053) hx hb dL_law_33 (by rw [c_341]; decide) (by rw [c_341]; decide) (by rw [c_341]; rfl) (by decide) ?_
        exact wL_1053 X hr hlk hX hbl hbA hG hav N ih x3 σ _ _ _ hf hR (lv_sub hl [0, 1, 2, 3] rfl)
      replace hf := z_f c_341 hf
      by_cases c_357 : ((xs (ix x3)) &&& (63 : Int32)) = (30 : Int32)
      · replace hf := z_t c_357 hf
        refine lv_tableIn (off := 1053) (tgt := 1086) hx hb dL_law_33 (by rw [c_357]; decide) (by rw [c_357]; decide) (by rw [c_357]; rfl) (by decide) ?_
        exact wL_1086 X hr hlk hX hbl hbA hG hav N ih x3 σ _ _ _ hf hR (lv_sub hl [0, 1, 2, 3] rfl)
      replace hf := z_f c_357 hf
      by_cases c_371 : ((xs (ix x3)) &&& (63 : Int32)) = (31 : Int32)
      · replace hf := z_t c_371 hf
        refine lv_tableIn (off := 1106) (tgt := 1139) hx hb dL_law_33 (by rw [c_371]; decide) (by rw [c_371]; decide) (by rw [c_371]; rfl) (by decide) ?_
        exact wL_1139 X hr hlk hX hbl hbA hG hav N ih x3 σ _ _ _ hf hR (lv_sub hl [0, 1, 2, 3] rfl)
      replace hf := z_f c_371 hf
      by_cases c_379 : ((xs (ix x3)) &&& (63 : Int32)) = (32 : Int32)
      · replace hf := z_t c_379 hf
        refine lv_tableIn (off := 1155) (tgt := 1188) hx hb dL_law_33 (by rw [c_379]; decide) (by rw [c_379]; decide) (by rw [c_379]; rfl) (by decide) ?_
        exact wL_1188 X hr hlk hX hbl hbA hG hav N ih x3 σ _ _ _ hf hR (lv_sub hl [0, 1, 2, 3] rfl)
      replace hf := z_f c_379 hf
      by_cases c_391 : ((xs (ix x3)) &&& (63 : Int32)) = (33 : Int32)
      · replace hf := z_t c_391 hf
        refine lv_tableIn (off := 1168) (tgt := 1201) hx hb dL_law_33 (by rw [c_391]; decide) (by rw [c_391]; decide) (by rw [c_391]; rfl) (by decide) ?_
        exact wL_1201 X hr hlk hX hbl hbA hG hav N ih x3 σ _ _ _ hf hR (lv_sub hl [0, 1, 2, 3] rfl)
      replace hf := z_f c_391 hf
      by_cases c_401 : ((xs (ix x3)) &&& (63 : Int32)) = (34 : Int32)
      · replace hf := z_t c_401 hf
        refine lv_tableIn (off := 1201) (tgt := 1234) hx hb dL_law_33 (by rw [c_401]; decide) (by rw [c_401]; decide) (by rw [c_401]; rfl) (by decide) ?_
        exact wL_1234 X hr hlk hX hbl hbA hG hav N ih x3 σ _ _ _ hf hR (lv_sub hl [0, 1, 2, 3] rfl)
      replace hf := z_f c_401 hf
      by_cases c_411 : ((xs (ix x3)) &&& (63 : Int32)) = (35 : Int32)
      · replace hf := z_t c_411 hf
        refine lv_tableIn (off := 1224) (tgt := 1257) hx hb dL_law_33 (by rw [c_411]; decide) (by rw [c_411]; decide) (by rw [c_411]; rfl) (by decide) ?_
        exact wL_1257 X hr hlk hX hbl hbA hG hav N ih x3 σ _ _ _ hf hR (lv_sub hl [0, 1, 2, 3] rfl)
      replace hf := z_f c_411 hf
      by_cases c_421 : ((xs (ix x3)) &&& (63 : Int32)) = (36 : Int32)
      · replace hf := z_t c_421 hf
        refine lv_tableIn (off := 1247) (tgt := 1280) hx hb dL_law_33 (by rw [c_421]; decide) (by rw [c_421]; decide) (by rw [c_421]; rfl) (by decide) ?_
        exact wL_1280 X hr hlk hX hbl hbA hG hav N ih x3 σ _ _ _ hf hR (lv_sub hl [0, 1, 2, 3] rfl)
      replace hf := z_f c_421 hf
      by_cases c_431 : ((xs (ix x3)) &&& (63 : Int32)) = (37 : Int32)
      · replace hf := z_t c_431 hf
        refine lv_tableIn (off := 1270) (tgt := 1303) hx hb dL_law_33 (by rw [c_431]; decide) (by rw [c_431]; decide) (by rw [c_431]; rfl) (by decide) ?_
        exact wL_1303 X hr hlk hX hbl hbA hG hav N ih x3 σ _ _ _ hf hR (lv_sub hl [0, 1, 2, 3] rfl)
      replace hf := z_f c_431 hf
      refine lv_tableOut (tgt := 1326) hx hb dL_law_33 (sw_out ((xs (ix x3)) &&& (63 : Int32)) 0 38 (by decide) (by decide) (fun j hj => ?_)) (by decide) ?_
      · rcases (show j = 0 ∨ j = 1 ∨ j = 2 ∨ j = 3 ∨ j = 4 ∨ j = 5 ∨ j = 6 ∨ j = 7 ∨ j = 8 ∨ j = 9 ∨ j = 10 ∨ j = 11 ∨ j = 12 ∨ j = 13 ∨ j = 14 ∨ j = 15 ∨ j = 16 ∨ j = 17 ∨ j = 18 ∨ j = 19 ∨ j = 20 ∨ j = 21 ∨ j = 22 ∨ j = 23 ∨ j = 24 ∨ j = 25 ∨ j = 26 ∨ j = 27 ∨ j = 28 ∨ j = 29 ∨ j = 30 ∨ j = 31 ∨ j = 32 ∨ j = 33 ∨ j = 34 ∨ j = 35 ∨ j = 36 ∨ j = 37 by omega) with rfl | rfl | rfl | rfl | rfl | rfl | rfl | rfl | rfl | rfl | rfl | rfl | rfl | rfl | rfl | rfl | rfl | rfl | rfl | rfl | rfl | rfl | rfl | rfl | rfl | rfl | rfl | rfl | rfl | rfl | rfl | rfl | rfl | rfl | rfl | rfl | rfl | rfl
        · exact fun h => c_21 (h.trans (by decide))
        · exact fun h => c_31 (h.trans (by decide))
        · exact fun h => c_39 (h.trans (by decide))
        · exact fun h => c_47 (h.trans (by decide))
        · exact fun h => c_59 (h.trans (by decide))
        · exact fun h => c_71 (h.trans (by decide))
        · exact fun h => c_83 (h.trans (by decide))
        · exact fun h => c_99 (h.trans (by decide))
        · exact fun h => c_113 (h.trans (by decide))
        · exact fun h => c_123 (h.trans (by decide))
        · exact fun h => c_131 (h.trans (by decide))
        · exact fun h => c_141 (h.trans (by decide))
        · exact fun h => c_149 (h.trans (by decide))
        · exact fun h => c_159 (h.trans (by decide))
        · exact fun h => c_171 (h.trans (by decide))
        · exact fun h => c_183 (h.trans (by decide))
        · exact fun h => c_193 (h.trans (by decide))
        · exact fun h => c_205 (h.trans (by decide))
        · exact fun h => c_217 (h.trans (by decide))
        · exact fun h => c_229 (h.trans (by decide))
        · exact fun h => c_241 (h.trans (by decide))
        · exact fun h => c_253 (h.trans (by decide))
        · exact fun h => c_263 (h.trans (by decide))
        · exact fun h => c_273 (h.trans (by decide))
        · exact fun h => c_283 (h.trans (by decide))
        · exact fun h => c_293 (h.trans (by decide))
        · exact fun h => c_303 (h.trans (by decide))
        · exact fun h => c_315 (h.trans (by decide))
        · exact fun h => c_329 (h.trans (by decide))
        · exact fun h => c_341 (h.trans (by decide))
        · exact fun h => c_357 (h.trans (by decide))
        · exact fun h => c_371 (h.trans (by decide))
        · exact fun h => c_379 (h.trans (by decide))
        · exact fun h => c_391 (h.trans (by decide))
        · exact fun h => c_401 (h.trans (by decide))
        · exact fun h => c_411 (h.trans (by decide))
        · exact fun h => c_421 (h.trans (by decide))
        · exact fun h => c_431 (h.trans (by decide))
      · exact wL_1326 X hr hlk hX hbl hbA hG hav N ih x3 σ _ _ _ hf hR (lv_sub hl [0, 1, 2, 3] rfl)
end GEN
