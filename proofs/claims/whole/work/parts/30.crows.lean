theorem ja_int : Cond.arrayClass .int ∈ lw_g := in_g (List.mem_of_getElem? (i := 208) (by decide +kernel)) rfl
theorem ja_byte : Cond.arrayClass .byte ∈ lw_g := in_g (List.mem_of_getElem? (i := 207) (by decide +kernel)) rfl
theorem ja_boolean : Cond.arrayClass .boolean ∈ lw_g := in_g (List.mem_of_getElem? (i := 1478) (by decide +kernel)) rfl
theorem ja_long : Cond.arrayClass .long ∈ lw_g := in_g (List.mem_of_getElem? (i := 209) (by decide +kernel)) rfl
-- ROWS THAT MAKE CELLS
def ff : Nat → Bool := fun _ => false
def clr (σ : Mm) (a : Nat) : Mm := (fun b => if b = a then (fun _ => 0) else σ.1 b, fun b => if b = a then (fun _ => 0) else σ.2.1 b, fun b => if b = a then (fun _ => none) else σ.2.2 b)
theorem clr_ne {G : Gp} {σ : Mm} {a : Nat} : ∀ j, j ≠ a → cellE G (clr σ a) j = cellE G σ j := fun j h => cellE_eq (by simp [clr, h]) (by simp [clr, h]) (by simp [clr, h])
theorem Rf_clr {F : Nat → Bool} {σ : Mm} {a : Nat} (h : Rf F σ) (hF : F a = false) : Rf F (clr σ a) := by
  intro id k t hf ht
  have e : id ≠ a := fun e => by rw [e, hF] at hf; cases hf
  have := h id k t hf ht
  simpa [gR, clr, e] using this
theorem Rf_sRF {F : Nat → Bool} {σ : Mm} {a k : Nat} {v : Option Nat} (h : Rf F σ) (hF : F a = false) : Rf F (sR σ a k v) := by
  intro id j t hf ht
  have e : id ≠ a := fun e => by rw [e, hF] at hf; cases hf
  have := h id j t hf ht
  simpa [gR, sR, e] using this
theorem wld_succ (G : Gp) (n : Nat) (τ : Mm) : wld G (n + 1) τ = wld G n τ ++ [(G.2.2 + n, cellE G τ n)] := by
  unfold wld
  rw [List.range_succ, List.map_append]
  rfl
theorem wld_congr {G : Gp} {n : Nat} {σ τ : Mm} (h : ∀ j, j < n → cellE G τ j = cellE G σ j) : wld G n τ = wld G n σ := by
  unfold wld
  exact rg_congr fun j hj => by rw [h j hj]
theorem dfl_all : ∀ ci, ci < 12 → ∀ j, j < clN ci → defaultValue (clTy ci j) = (if isRf ci j = true then Value.null else .int 0) := by decide +kernel
/-- the world, one cell more -/
theorem Rp_grow {G : Gp} {n : Nat} {F : Nat → Bool} {σ : Mm} {s : State} {H H1 : Heap} {locs : List Loc} (hR : Rp G n F σ s H locs) (hn : n < 212) (hF : F n = false) (z1 : H1.size = G.2.2 + n + 1) (o1 : ∀ q, q < G.2.2 + n → H1[q]? = H[q]?) (hat : va_at G.1 vwCl (G.2.2 + n, cellE G (clr σ n) n) H1) : Rp G (n + 1) F (clr σ n) s H1 locs := by
  obtain ⟨hP, hz, hS, hRf⟩ := hR
  have hsz := hz hn
  refine ⟨?_, fun _ => by rw [z1]; omega, ⟨Nat.le_trans hS.1 (by omega), fun x h1 h2 => (o1 x (by have := hS.1; omega)).trans (hS.2.1 x h1 h2), hS.2.2⟩, Rf_clr hRf hF⟩
  rw [wld_succ, wld_congr (σ := σ) (fun j hj => clr_ne j (by omega))]
  refine (hP.kept fun k q hk => ?_).app ?_
  · refine o1 q.1 ?_
    have := (hP k q hk).lt
    omega
  · intro k q hk
    have hz : k < 1 := (List.getElem?_eq_some_iff.mp hk).1
    rw [show k = 0 by omega] at hk
    cases hk
    exact hat
section NRows
variable {p : Program} {l : Launch} {e : Env} {R : Room} {s : State} {m : MethodId} {args : Array Value} {below : List Frame} {meth : Method} {c : Code} {H : Heap} {locs : List Loc} {cells slots : Nat} {Q : State → Prop}
variable {cc : ByteArray} {pc : Nat} {ls : Array Slot} {rest : List Value} {own : String} {nL : Nat} {G : Gp} {n : Nat} {F : Nat → Bool} {σ : Mm}
theorem q_new (X : Cx p s m args c cc nL own G) (hR : Rp G n F σ s H locs) (hn : n < 212) (hF : F n = false) {ci index N : Nat} (hkd : (kd n).1 = ci) (hci : ci < 12) (hN : clN ci = N) (hcl : Cond.classLink own index (clC ci) ∈ lw_g) (hin : Cond.instantiable (clC ci) N ∈ lw_g) (hini : Cond.initialized (clC ci) ∈ lw_g) (hcells : cells + 1 ≤ R.cells) (hslots : slots + N ≤ R.slots) (hdg : decode cc pc = .ok (.new index, 3))
    (kk : ∀ (H1 : Heap) (σ1 : Mm), σ1 = clr σ n → Rp G (n + 1) F σ1 s H1 locs → W p l e R s m args below meth c H1 locs (cells + 1) (slots + N) Q (F0 m (pc + 3) ls (.ref (G.2.2 + n) :: rest))) : W p l e R s m args below meth c H locs cells slots Q (F0 m pc ls rest) := by
  obtain ⟨hx, hb, hml, hown, hts, hK, hE⟩ := X
  subst hN
  have hc := vw_at hci
  have hKn := hK.1 ci _ hc
  refine W.newcK hx hb hown (hts _ hcl) (hts _ hin) (hts _ hini) rfl hdg hcells hslots hKn.2.1 (hR.2.1 hn) fun H1 kC hkC e1 z1 o1 => ?_
  refine kk H1 _ rfl (Rp_grow hR hn hF z1 o1 ?_)
  rw [cellE_obj hkd hci]
  refine ⟨_, hc, (u_born (clTy ci) hts (cl_in hci) hKn hkC e1 (cl_ty hci)).to fun j hj => ?_⟩
  rw [dfl_all ci hci j hj]
  unfold vp_V
  rw [List.getD_eq_getElem?_getD, fs_get hj]
  simp [gR, gI, clr, rfv, va_rf]
theorem q_newa (X : Cx p s m args c cc nL own G) (hR : Rp G n F σ s H locs) (hn : n < 212) (hF : F n = false) {atype : ArrayType} {ti : Nat} {a1 : vp_A} {len : Nat} (harr : Cond.arrayClass (newarray.typeOf atype) ∈ lw_g) (hti : (tyl G)[ti]? = some (G.2.1 ti, newarray.typeOf atype)) (hra : ∀ (U : State) (cA : ClassId), va_RA U cA (newarray.typeOf atype) → U.vm.findClass ("[" ++ (newarray.typeOf atype).toString) = some cA) (hE : cellE G (clr σ n) n = .inl (G.2.1 ti, a1)) (ha : ∀ cA : ClassId, vp_cell cA a1 = arrV cA len (fun _ => defaultValue (newarray.typeOf atype)))
    {x : Int32} (hx0 : ¬ x < 0) (hlen : x.toNatClampNeg = len) (hbytes : len * componentBytes (newarray.typeOf atype) ≤ 536870912) (hcells : cells + 1 ≤ R.cells) (hslots : slots + len ≤ R.slots) (hdg : decode cc pc = .ok (.newarray atype, 2))
    (kk : ∀ (H1 : Heap) (σ1 : Mm), σ1 = clr σ n → Rp G (n + 1) F σ1 s H1 locs → W p l e R s m args below meth c H1 locs (cells + 1) (slots + len) Q (F0 m (pc + 2) ls (.ref (G.2.2 + n) :: rest))) : W p l e R s m args below meth c H locs cells slots Q (F0 m pc ls (.int x :: rest)) := by
  obtain ⟨hx, hb, hml, hown, hts, hK, hEx⟩ := X
  refine va_newaK hx hb (hts _ harr) rfl hdg rfl hx0 hlen hbytes hcells hslots (hR.2.1 hn) fun H1 cA e1 z1 o1 hAr hNm => ?_
  have hcA : cA = G.2.1 ti := Option.some.inj (hNm.symm.trans (hra s _ (hK.2 ti _ hti).2))
  subst hcA
  refine kk H1 _ rfl (Rp_grow hR hn hF z1 o1 ?_)
  rw [hE]
  show H1[G.2.2 + n]? = some (vp_cell _ _)
  rw [ha]
  exact e1
theorem q_newi (X : Cx p s m args c cc nL own G) (hR : Rp G n F σ s H locs) (hn : n < 212) (hF : F n = false) {len : Nat} (hk : kd n = (13, len)) {x : Int32} (hx0 : ¬ x < 0) (hlen : x.toNatClampNeg = len) (hbytes : len * 4 ≤ 536870912) (hcells : cells + 1 ≤ R.cells) (hslots : slots + len ≤ R.slots) (hdg : decode cc pc = .ok (.newarray .int, 2))
    (kk : ∀ (H1 : Heap) (σ1 : Mm), σ1 = clr σ n → Rp G (n + 1) F σ1 s H1 locs → W p l e R s m args below meth c H1 locs (cells + 1) (slots + len) Q (F0 m (pc + 2) ls (.ref (G.2.2 + n) :: rest))) : W p l e R s m args below meth c H locs cells slots Q (F0 m pc ls (.int x :: rest)) :=
  q_newa (atype := .int) (ti := 1) (a1 := (len, .inl (fun _ => 0))) X hR hn hF ja_int rfl (fun _ _ h => h) (by rw [cellE_int hk]; simp [clr]) (fun _ => rfl) hx0 hlen hbytes hcells hslots hdg kk
theorem q_newb (X : Cx p s m args c cc nL own G) (hR : Rp G n F σ s H locs) (hn : n < 212) (hF : F n = false) {len : Nat} (hk : kd n = (12, len)) {x : Int32} (hx0 : ¬ x < 0) (hlen : x.toNatClampNeg = len) (hbytes : len * 1 ≤ 536870912) (hcells : cells + 1 ≤ R.cells) (hslots : slots + len ≤ R.slots) (hdg : decode cc pc = .ok (.newarray .byte, 2))
    (kk : ∀ (H1 : Heap) (σ1 : Mm), σ1 = clr σ n → Rp G (n + 1) F σ1 s H1 locs → W p l e R s m args below meth c H1 locs (cells + 1) (slots + len) Q (F0 m (pc + 2) ls (.ref (G.2.2 + n) :: rest))) : W p l e R s m args below meth c H locs cells slots Q (F0 m pc ls (.int x :: rest)) :=
  q_newa (atype := .byte) (ti := 0) (a1 := (len, .inl (fun _ => 0))) X hR hn hF ja_byte rfl (fun _ _ h => h) (by rw [cellE_byte hk]; simp [clr]) (fun _ => rfl) hx0 hlen hbytes hcells hslots hdg kk
theorem q_newz (X : Cx p s m args c cc nL own G) (hR : Rp G n F σ s H locs) (hn : n < 212) (hF : F n = false) {len : Nat} (hk : kd n = (15, len)) {x : Int32} (hx0 : ¬ x < 0) (hlen : x.toNatClampNeg = len) (hbytes : len * 1 ≤ 536870912) (hcells : cells + 1 ≤ R.cells) (hslots : slots + len ≤ R.slots) (hdg : decode cc pc = .ok (.newarray .boolean, 2))
    (kk : ∀ (H1 : Heap) (σ1 : Mm), σ1 = clr σ n → Rp G (n + 1) F σ1 s H1 locs → W p l e R s m args below meth c H1 locs (cells + 1) (slots + len) Q (F0 m (pc + 2) ls (.ref (G.2.2 + n) :: rest))) : W p l e R s m args below meth c H locs cells slots Q (F0 m pc ls (.int x :: rest)) :=
  q_newa (atype := .boolean) (ti := 3) (a1 := (len, .inl (fun _ => 0))) X hR hn hF ja_boolean rfl (fun _ _ h => h) (by rw [cellE_bool hk]; simp [clr]) (fun _ => rfl) hx0 hlen hbytes hcells hslots hdg kk
theorem q_newl (X : Cx p s m args c cc nL own G) (hR : Rp G n F σ s H locs) (hn : n < 212) (hF : F n = false) {len : Nat} (hk : kd n = (14, len)) {x : Int32} (hx0 : ¬ x < 0) (hlen : x.toNatClampNeg = len) (hbytes : len * 8 ≤ 536870912) (hcells : cells + 1 ≤ R.cells) (hslots : slots + len ≤ R.slots) (hdg : decode cc pc = .ok (.newarray .long, 2))
    (kk : ∀ (H1 : Heap) (σ1 : Mm), σ1 = clr σ n → Rp G (n + 1) F σ1 s H1 locs → W p l e R s m args below meth c H1 locs (cells + 1) (slots + len) Q (F0 m (pc + 2) ls (.ref (G.2.2 + n) :: rest))) : W p l e R s m args below meth c H locs cells slots Q (F0 m pc ls (.int x :: rest)) :=
  q_newa (atype := .long) (ti := 2) (a1 := (len, .inr (.inl (fun _ => 0)))) X hR hn hF ja_long rfl (fun _ _ h => h) (by rw [cellE_long hk]; simp [clr]) (fun _ => rfl) hx0 hlen hbytes hcells hslots hdg kk
theorem q_newq (X : Cx p s m args c cc nL own G) (hR : Rp G n F σ s H locs) (hn : n < 212) (hF : F n = false) {C : String} {ti len index : Nat} (hcl : Cond.classLink own index C ∈ lw_g) (hover : va_AO C s) (hti : (tyl G)[ti]? = some (G.2.1 ti, .object C)) (hE : cellE G (clr σ n) n = .inl (G.2.1 ti, len, .inr (.inr (.inr (.inr (fun _ => none)))))) {x : Int32} (hx0 : ¬ x < 0) (hlen : x.toNatClampNeg = len) (hbytes : len * 4 ≤ 536870912) (hcells : cells + 1 ≤ R.cells) (hslots : slots + len ≤ R.slots) (hdg : decode cc pc = .ok (.anewarray index, 3))
    (kk : ∀ (H1 : Heap) (σ1 : Mm), σ1 = clr σ n → Rp G (n + 1) F σ1 s H1 locs → W p l e R s m args below meth c H1 locs (cells + 1) (slots + len) Q (F0 m (pc + 3) ls (.ref (G.2.2 + n) :: rest))) : W p l e R s m args below meth c H locs cells slots Q (F0 m pc ls (.int x :: rest)) := by
  obtain ⟨hx, hb, hml, hown, hts, hK, hEx⟩ := X
  subst hlen
  have hsz := hR.2.1 hn
  refine W.anew hx hb hown (hts _ hcl) (va_AO.use hover) rfl hdg rfl hx0 hbytes hcells hslots fun cA kA comp f1 f2 f3 f4 => ?_
  generalize hH1 : H.push ({ cls := cA, slots := Array.replicate x.toNatClampNeg .null, vm := .none } : Cell) = H1
  have z1 : H1.size = H.size + 1 := by rw [← hH1, Array.size_push]
  have e1 : H1[H.size]? = some (arrV cA x.toNatClampNeg (fun _ => .null)) := by rw [← hH1, Array.getElem?_push_size, ← arrV_new]
  have o1 : ∀ q : Nat, q < H.size → H1[q]? = H[q]? := fun q hq => by rw [← hH1, Array.getElem?_push, if_neg (Nat.ne_of_lt hq)]
  obtain ⟨kB, cB, -, -, -, hb4⟩ := (hK.2 ti _ hti).2
  have hcA : cA = G.2.1 ti := Option.some.inj (f1.symm.trans hb4)
  subst hcA
  rw [hsz] at z1 e1 o1 ⊢
  refine kk H1 _ rfl (Rp_grow hR hn hF z1 o1 ?_)
  rw [hE]
  exact e1
/-- putfield of a final field, in a constructor -/
def FPf (own : String) (index ci k : Nat) (ty : FieldType) : Prop := FK own index ci k ∧ (clT ci k).2.2.2 = true ∧ clTy ci k = ty ∧ clC ci = own ∧ isRf ci k = true
theorem q_pf (X : Cx p s m args c cc nL own G) (hR : Rp G n F σ s H locs) (hin : meth.name = "<init>") {id k ci index : Nat} {ty : FieldType} (fp : FPf own index ci k ty) (hid : (kd id).1 = ci) (hn : id < n) (hF : F id = false) {t : Nat} (hnw : narrow ty (.ref (G.2.2 + t)) = .ref (G.2.2 + t)) (hft : fits ty (.ref (G.2.2 + t)) = true) (hdg : decode cc pc = .ok (.putfield index, 3))
    (kk : ∀ (H1 : Heap) (locs1 : List Loc) (σ1 : Mm), σ1 = sR σ id k (some t) → Rp G n F σ1 s H1 locs1 → W p l e R s m args below meth c H1 locs1 cells slots Q (F0 m (pc + 3) ls rest)) : W p l e R s m args below meth c H locs cells slots Q (F0 m pc ls (.ref (G.2.2 + t) :: .ref (G.2.2 + id) :: rest)) := by
  obtain ⟨hx, hb, hml, hown, hts, hK, hE⟩ := X
  obtain ⟨hP, hz, hS0, hRf⟩ := hR
  obtain ⟨⟨h1, h2, h3, h4⟩, hfin, hty0, hC, hrf⟩ := fp
  have hc := vw_at h1
  have hd : parseFieldDescriptor (clT ci k).2.2.1 = some ty := by rw [← hty0]; exact cl_ty h1 k h2
  have hap := va_apart (own := own) (D := G.1) (cl := vwCl) (tys := tyl G) hts (cl_in h1) (clTy ci) (cl_ty h1) (cl_nm h1) hK hc
  have he : (wld G n σ)[id]? = some (G.2.2 + id, .inr (ci, fsE G σ id ci)) := by rw [wld_get G σ hn, cellE_obj hid h1]
  have hD := wld_D G n σ
  obtain ⟨r, e1, cell, q1, q2, q3, q4⟩ := hP id _ he
  have hr : r = (clC ci, clT ci, clN ci) := Option.some.inj (e1.symm.trans hc)
  subst hr
  obtain ⟨hS, hfc, kC, hkC, hkind⟩ := hK.1 ci _ hc
  obtain ⟨cf, kf, fi, f, hi, hsl⟩ := hS k h2
  have hlay := hts _ (cl_in h1 _ (u_in_lay h2))
  unfold u_lay at hlay
  rw [if_pos hfin] at hlay
  have hst := (u_facts hfc hkC (u_lays hts (cl_in h1) h2) hi).1
  have hcf : m.cls = cf := by
    obtain ⟨_, _, c', _, _, _, -, -, hf', -, -, -, hown2, -⟩ := Cond.laysFinal_spec hlay
    have e1 : c' = cf := by have := hi.symm.trans hf'; simp at this; exact this.1.symm
    rw [h4, hC] at hown2
    rw [← e1]; exact Option.some.inj (hown.symm.trans hown2)
  have h6 := u_fits hfc hkC hkind (Or.inr hlay) hi hd hnw hft
  have hi2 : s.fieldFound? (clC ci) (clT ci k).2.1 (clT ci k).2.2.1 = some (cf, kf, fi, f) := by rw [← h4]; exact hi
  refine W.putFinK hx hb hown (hts _ h3) hi2 hst hcf hin (by rw [q2]; exact h6) q1 q3 (by rw [hsl]; exact k2_hasslot (q4 k h2)) rfl rfl hdg fun H' e1 e2 e3 => ?_
  rw [hsl] at e1 ⊢
  refine kk H' _ _ rfl ⟨?_, fun h => by rw [e2]; exact hz h, hS0.put e2 e3 (hD.2 id _ he), Rf_sRF hRf hF⟩
  have hP1 := hP.set hD he (e := .inr (ci, (fsE G σ id ci).set k (.ref (G.2.2 + t)))) ⟨_, hc, t_OB.to (V := updV (vp_V (fsE G σ id ci)) k (.ref (G.2.2 + t))) ⟨_, e1, q2, q3, t_set q4 hap h2 _⟩ (fun j _ => vp_updV_set (by rw [fs_len]; exact h2) _ j)⟩ e3
  have e9 := fs_setR (G := G) (σ := σ) (id := id) (v := some t) hrf
  rw [show rfv G (some t) = .ref (G.2.2 + t) from rfl] at e9
  rw [e9, wld_set (cellE_obj hid h1) sR_ne] at hP1
  exact hP1
/-- aastore -/
theorem q_aas (X : Cx p s m args c cc nL own G) (hR : Rp G n F σ s H locs) {id t kk0 ti ci len : Nat} (hk : kd id = (kk0, len)) (hkk : (kk0 = 17 ∧ ti = 5 ∧ ci = 5) ∨ (kk0 = 16 ∧ ti = 4 ∧ ci = 1)) (hn : id < n) (ht : (kd t).1 = ci) (htn : t < n) (hF : F id = false) {i : Int32} (hin : vp_in i len) (hdg : decode cc pc = .ok (.aastore, 1))
    (kk : ∀ (H1 : Heap) (locs1 : List Loc) (σ1 : Mm), σ1 = sR σ id i.toNatClampNeg (some t) → Rp G n F σ1 s H1 locs1 → W p l e R s m args below meth c H1 locs1 cells slots Q (F0 m (pc + 1) ls rest)) : W p l e R s m args below meth c H locs cells slots Q (F0 m pc ls (.ref (G.2.2 + t) :: .int i :: .ref (G.2.2 + id) :: rest)) := by
  obtain ⟨hx, hb, hml, hown, hts, hK, hE⟩ := X
  obtain ⟨hP, hz, hS0, hRf⟩ := hR
  have hD := wld_D G n σ
  have hci : ci < 12 := by omega
  have hlt : i.toNatClampNeg < len := Nat.not_le.mp fun q => hin (Or.inr q)
  have h0 : ¬ i < 0 := fun q => hin (Or.inl q)
  have hcE : ∀ τ : Mm, cellE G τ id = .inl (G.2.1 ti, len, .inr (.inr (.inr (.inr (fun j => (gR τ id j).map (fun i => G.2.2 + i)))))) := by
    intro τ
    rcases hkk with ⟨rfl, rfl, rfl⟩ | ⟨rfl, rfl, rfl⟩
    · exact cellE_refM hk
    · exact cellE_refG hk
  have hty : (tyl G)[ti]? = some (G.2.1 ti, .object (clC ci)) := by
    rcases hkk with ⟨rfl, rfl, rfl⟩ | ⟨rfl, rfl, rfl⟩ <;> rfl
  have ha : (wld G n σ)[id]? = some (G.2.2 + id, .inl (G.2.1 ti, len, .inr (.inr (.inr (.inr (fun j => (gR σ id j).map (fun i => G.2.2 + i))))))) := by rw [wld_get G σ hn, hcE]
  have hv : (wld G n σ)[t]? = some (G.2.2 + t, .inr (ci, fsE G σ t ci)) := by rw [wld_get G σ htn, cellE_obj ht hci]
  have hc := vw_at hci
  obtain ⟨r', hr', cellV, g1, g2, g3, -⟩ := hP t _ hv
  have hcls := (hK.1 ci _ hc).2
  obtain ⟨kA, comp, k1, k2, k3, -⟩ := (hK.2 ti _ hty).2
  have hcomp : comp = G.1.1 ci := Option.some.inj (k3.symm.trans hcls.1)
  subst hcomp
  obtain ⟨kC, hkC, -⟩ := hcls.2
  refine W.aast hx hb (hP id _ ha) (fun q h => by cases h) (fun h => by cases h) k1 k2 rfl hkC ⟨h0, by show _ < (arrV _ _ _).slots.size; rw [arrV_size]; exact hlt⟩ g1 (fun q h => by rw [g3] at h; cases h) (by rw [g2]; exact hkC) (by rw [g2]; exact va_assign hcls) rfl rfl hdg fun H1 e z oq => ?_
  refine kk H1 _ _ rfl ⟨?_, fun h => by rw [z]; exact hz h, hS0.put z oq (hD.2 id _ ha), Rf_sRF hRf hF⟩
  rw [← wld_set (E := .inl (G.2.1 ti, len, .inr (.inr (.inr (.inr (va_up (fun j => (gR σ id j).map (fun i => G.2.2 + i)) i.toNatClampNeg (some (G.2.2 + t)))))))) (by
    rw [hcE]
    congr 7
    funext j
    by_cases hj : j = i.toNatClampNeg
    · simp [gR, sR, va_up, hj]
    · simp [gR, sR, va_up, hj]) sR_ne]
  refine hP.set hD ha ?_ oq
  show H1[G.2.2 + id]? = some (vp_cell _ _)
  rw [e, vp_cell_q, vp_cell_q, arrV_store]
  congr 2
  funext q
  by_cases hq : q = i.toNatClampNeg
  · subst hq
    simp [updV, va_up, va_rf]
  · simp [updV, va_up, hq]
end NRows
/-- a method's start, one that makes cells -/
theorem ct2 {l : Launch} {y : MethodName} {cc : ByteArray} {nL : Nat} {ret : Option FieldType} {rm : Room} {G : Gp} {n mc ms : Nat} {F : Nat → Bool} {σ : Mm} {av : List Value} {Qc : Array Value → State → Outcome → State → Prop} (lv : List (Nat × Value)) (hlv : lv_args 0 av = lv) (hy : plainName y.cls = true) (hlen : (lg_sl av).length ≤ nL)
    (body : ∀ (p : Program) (e : Env) (s : State) (m : MethodId) (below : List Frame) (meth : Method) (c : Code) (ls : Array Slot), Cx p s m av.toArray c cc nL y.cls G → meth.sig.returnType = ret → meth.locks = false → meth.name = y.name → Rp G n F σ s s.heap [] → lv_has ls nL lv →
      W p l e rm s m av.toArray below meth c s.heap [] 0 0 (MQ below Qc av.toArray s mc ms (Fr G)) (F0 m 0 ls [])) : Met l y (WS y cc nL ret) rm (va_Pc av (Pd G n F σ)) Qc mc ms (Fr G) := by
  refine Met.ofW (cc := cc) (maxL := nL) (ret := ret) hy rfl ?_
  intro p e s m args below meth c s₁ B hml hv
  obtain ⟨rfl, ⟨hP, hz, hK, hRf⟩, hE⟩ := hv
  have hts := atoms_spec (ws := WS y cc nL ret) B.pre
  have hown : s.vm.findClass y.cls = some m.cls := findClass_of_methodNamed B.named
  have hl := lv_entry av hlen
  rw [hlv] at hl
  rw [lg_entry_eq]
  exact body p e s m below meth c _ ⟨B.exec, B.bytes, hml, hown, fun w h => hts w (List.mem_cons_of_mem _ h), hK, hE⟩ B.returns B.notSynchronized (name_of_methodNamed B.named B.method).1 ⟨hP, hz, va_S.rf, hRf⟩ hl
def MI (own : String) (index : Nat) (y : MethodName) (cc : ByteArray) (nL na : Nat) : Prop :=
  (Cond.methodLink own index y ∈ lw_g ∨ (own, index, y) ∈ nestL) ∧ Cond.instanceMethod y ∈ lw_g ∧ Cond.initialized y.cls ∈ lw_g ∧ Cond.code y cc nL none ∈ lw_g ∧ y.name = "<init>" ∧
  (y.cls ≠ "java/lang/invoke/MethodHandle" ∧ y.cls ≠ "java/lang/invoke/VarHandle" ∧ (parseMethodDescriptor y.desc).map (fun d => d.parameters.length) = some na)
section IRows
variable {p : Program} {l : Launch} {e : Env} {R : Room} {s : State} {m : MethodId} {args : Array Value} {below : List Frame} {meth : Method} {c : Code} {H : Heap} {locs : List Loc} {cells slots : Nat} {Q : State → Prop}
variable {cc : ByteArray} {pc : Nat} {ls : Array Slot} {rest : List Value} {own : String} {nL : Nat} {G : Gp} {n : Nat} {F : Nat → Bool} {σ : Mm}
variable {y : MethodName} {cy : ByteArray} {nY : Nat} {rm : Room} {index na mc ms : Nat} {As : List Value} {Qc : Array Value → State → Outcome → State → Prop} {b : Nat}
theorem mi_run (X : Cx p s m args c cc nL own G) (hR : Rp G n F σ s H locs) (mi : MI own index y cy nY na) (hM : Met l y (WS y cy nY none) rm (va_Pc (.ref b :: As) (Pd G n F σ)) Qc mc ms (Fr G)) (hrm : rm.cells = mc ∧ rm.slots = ms ∧ rm.frames + 1 ≤ R.frames ∧ 8 + (nY + 11) + rm.locals ≤ R.locals) (hna : As.length = na) (hls : ls.size = nL) {st0 : List Value} (hst : st0 = As.reverse ++ .ref b :: rest) (hW : (rest.map fun v => v.category).sum ≤ 8) (hdg : decode cc pc = .ok (.invokespecial index, 3)) (hf : cells + mc ≤ R.cells ∧ slots + ms ≤ R.slots) :
    va_Run p l e R s m args below meth c H locs cells slots mc ms (F0 m pc ls st0) rest (Qc (Value.ref b :: As).toArray) (Fr G) := by
  obtain ⟨hx, hb, hml, hown, hts, hK, hE⟩ := X
  obtain ⟨hP, hz, hS0, hRf⟩ := hR
  obtain ⟨h1, h2, h3, h4, h5, hd⟩ := mi
  have hp : PreS s H (va_Pc (.ref b :: As) (Pd G n F σ)) (.ref b :: As) := ⟨Pd_blind, fun U hU hW => ⟨rfl, Wd_moved hP hz hK hRf hU hW.alike, Ex_warm hE hS0 hU hW⟩⟩
  rcases h1 with h1 | h1
  · exact va_runI (Ts := lw_g) (As := As) (rest := rest) ⟨hx, hb, hml, hown, hts⟩ hM (cwI (Ts := lw_g) (ws' := lw_g) na hts (WS_good h4) rfl hrm.1 hrm.2.1 (hts _ h3) (hts _ h1) (hts _ h2) h5 hd hrm.2.2) hp rfl hna hls hst (lv_room hW) hdg hf
  · exact va_runIN (Ts := lw_g) (As := As) (rest := rest) (host := "TurfGiving") ⟨hx, hb, hml, hown, hts⟩ hM ⟨va_cnB (Ts := lw_g) (ws' := lw_g) na hts (WS_good h4) rfl hrm.1 hrm.2.1 (hE.2.2.2.2.2.1 _ h1) (hts _ h3) hd hrm.2.2, h5, hts _ h2⟩ hp rfl hna hls hst (lv_room hW) hdg hf
theorem go_m {σ0 : Mm} {n1 : Nat} {F1 : Nat → Bool} {st0 : List Value} {a : Array Value} {u0 : Unit} (hR : Rp G n F σ s H locs) (hr : va_Run p l e R s m args below meth c H locs cells slots mc ms (F0 m pc ls st0) rest (P_v G n1 F1 u0 σ0 a) (Fr G))
    (kk : ∀ (H1 : Heap) (locs1 : List Loc), Rp G n1 F1 σ0 s H1 locs1 → W p l e R s m args below meth c H1 locs1 (cells + mc) (slots + ms) Q (F0 m (pc + 3) ls rest)) : W p l e R s m args below meth c H locs cells slots Q (F0 m pc ls st0) := by
  refine va_callv hr hR.2.2.1 (fun q _ h => h) (fun q h => h) (fun u t H1 locs1 ht hvm hw hB hz hk hS => ?_)
  subst hw
  obtain ⟨b1, b2, b3, b4⟩ := hB
  rw [ht] at b1 b2
  exact kk H1 locs1 ⟨b1, b2, hS, b4⟩
end IRows
