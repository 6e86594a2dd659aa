def Rf (F : Nat → Bool) (σ : Mm) : Prop := ∀ id k t, F id = true → st id k = some t → gR σ id k = some t
/-- the two String constants: the signs (0), the words (1) -/
def sLen : List Nat := [9, 176]
def sBy : List (List Int32) := [[59, 61, 43, 45, 42, 47, 60, 40, 41], [112, 101, 114, 115, 111, 110, 32, 32, 112, 108, 111, 116, 32, 32, 32, 32, 119, 105, 116, 110, 101, 115, 115, 32, 103, 105, 118, 105, 110, 103, 32, 32, 115, 119, 101, 97, 114, 115, 32, 32, 100, 105, 101, 115, 32, 32, 32, 32, 119, 97, 108, 107, 115, 32, 32, 32, 97, 115, 107, 115, 32, 32, 32, 32, 110, 101, 101, 100, 115, 32, 32, 32, 115, 101, 101, 100, 32, 32, 32, 32, 105, 102, 32, 32, 32, 32, 32, 32, 116, 104, 101, 110, 32, 32, 32, 32, 101, 108, 115, 101, 32, 32, 32, 32, 97, 103, 101, 32, 32, 32, 32, 32, 109, 101, 109, 111, 114, 121, 32, 32, 115, 105, 110, 99, 101, 32, 32, 32, 121, 101, 97, 114, 32, 32, 32, 32, 119, 104, 105, 99, 104, 32, 32, 32, 115, 101, 101, 110, 32, 32, 32, 32, 102, 97, 114, 32, 32, 32, 32, 32, 97, 99, 114, 111, 115, 115, 32, 32, 100, 111, 119, 110, 32, 32, 32, 32]]
def adK (G : Gp) (i : Nat) : Nat := G.2.1 (10 + i)
def adV (G : Gp) (i : Nat) : Nat := G.2.1 (12 + i)
def nestL : List (String × Nat × MethodName) := [(RX3, 48, yX1_init), (RX3, 55, yX4_init), (RX10, 52, yX1_init), (RX10, 59, yX5_init), (RX10, 78, yX7_init), (RX6, 36, yX5_init), (RX6, 37, yX1_init)]
/-- what else the start gives (statics, strings, words that do not stay) -/
def Ex (G : Gp) (U : State) : Prop :=
  va_Z "java/lang/String" "COMPACT_STRINGS" "Z" (.int 1) (Fr G) U U.heap ∧ va_Zq "jdk/internal/util/Preconditions" "SIOOBE_FORMATTER" "Ljava/util/function/BiFunction;" (Fr G) U U.heap ∧
  vk_R RX9 70 ";=+-*/<()" (adK G 0) U ∧ vk_R RX9 32 "person  plot    witness giving  swears  dies    walks   asks    needs   seed    if      then    else    age     memory  since   year    which   seen    far     across  down    " (adK G 1) U ∧ vk_S 2 sLen sBy (adK G) (adV G) (Fr G) U U.heap ∧
  (∀ q ∈ nestL, va_Nw (.methodLinkNest q.1 q.2.1 q.2.2 "TurfGiving") U) ∧ va_AO RX1 U ∧ va_AO RX5 U
theorem Ex_call {G : Gp} {U : State} {g : JFrame} {mk : MethodId} {a : Array Value} (h : Ex G U) : Ex G (U.calling g mk a) := by
  have hA : U.vm.Alike (U.calling g mk a).vm := Vm.Alike.refl U.vm
  obtain ⟨h1, h2, h3, h4, h5, h6, h7, h8⟩ := h
  exact ⟨va_Z.moved hA h1, va_Zq.moved hA h2, vk_R.same (u := U) rfl h3, vk_R.same (u := U) rfl h4, vk_S.moved hA h5, fun q hq => va_Nw.same rfl (u := U) rfl (h6 q hq), va_AO.moved hA h7, va_AO.moved hA h8⟩
theorem Ex_warm {G : Gp} {s U : State} {H : Heap} {locs : List Loc} (h : Ex G s) (hS : va_S (Fr G) s.heap H locs) (hU : U.heap = H) (hW : s.WarmedH U.vm) : Ex G U := by
  obtain ⟨h1, h2, h3, h4, h5, h6, h7, h8⟩ := h
  subst hU
  exact ⟨va_Z.moved hW.alike (va_Z.kept h1 hS.2.1), va_Zq.moved hW.alike (va_Zq.kept h2 hS.2.1), vk_R.warm hW h3, vk_R.warm hW h4, vk_S.moved hW.alike (vk_S.kept h5 hS.2.1), fun q hq => va_Nw.warmM hW (h6 q hq), va_AO.moved hW.alike h7, va_AO.moved hW.alike h8⟩
/-- what holds of the machine all along a method -/
def Cx (p : Program) (s : State) (m : MethodId) (args : Array Value) (c : Code) (cc : ByteArray) (nL : Nat) (own : String) (G : Gp) : Prop :=
  p.tables.exec = Jvm.exec ∧ c.code = cc ∧ c.maxLocals = nL ∧ s.vm.findClass own = some m.cls ∧ (∀ w ∈ lw_g, w.before args s = true) ∧ va_K G.1 vwCl (tyl G) s ∧ Ex G s
/-- what holds of the heap now -/
def Rp (G : Gp) (n : Nat) (F : Nat → Bool) (σ : Mm) (s : State) (H : Heap) (locs : List Loc) : Prop :=
  va_P G.1 vwCl (wld G n σ) H ∧ (n < 212 → H.size = G.2.2 + n) ∧ va_S (Fr G) s.heap H locs ∧ Rf F σ
/-- the world of a state -/
def Wd (G : Gp) (n : Nat) (F : Nat → Bool) (σ : Mm) (U : State) : Prop :=
  va_P G.1 vwCl (wld G n σ) U.heap ∧ (n < 212 → U.heap.size = G.2.2 + n) ∧ va_K G.1 vwCl (tyl G) U ∧ Rf F σ
theorem Rf_sI {F : Nat → Bool} {σ : Mm} {a k : Nat} {v : Int32} (h : Rf F σ) : Rf F (sI σ a k v) := h
theorem Rf_sIr {F : Nat → Bool} {σ : Mm} {a : Nat} {f : Nat → Int32} (h : Rf F σ) : Rf F (sIr σ a f) := h
theorem Rf_sL {F : Nat → Bool} {σ : Mm} {a k : Nat} {v : Int64} (h : Rf F σ) : Rf F (sL σ a k v) := h
theorem Rf_sR {F : Nat → Bool} {σ : Mm} {a k : Nat} {v : Option Nat} (h : Rf F σ) (hs : st a k = none) : Rf F (sR σ a k v) := by
  intro id j t hf ht
  have := h id j t hf ht
  unfold gR sR at *
  dsimp only
  by_cases e : id = a
  · subst e
    rw [if_pos rfl]
    by_cases e2 : j = k
    · subst e2
      rw [hs] at ht
      cases ht
    · simp [va_up, e2, this]
  · rw [if_neg e]; exact this
section QRows
variable {p : Program} {l : Launch} {e : Env} {R : Room} {s : State} {m : MethodId} {args : Array Value} {below : List Frame} {meth : Method} {c : Code} {H : Heap} {locs : List Loc} {cells slots : Nat} {Q : State → Prop}
variable {cc : ByteArray} {pc : Nat} {ls : Array Slot} {rest : List Value} {own : String} {nL : Nat} {G : Gp} {n : Nat} {F : Nat → Bool} {σ : Mm}
theorem q_getv (X : Cx p s m args c cc nL own G) (hR : Rp G n F σ s H locs) {id k ci index : Nat} (fk : FK own index ci k) (hid : (kd id).1 = ci) (hn : id < n) (hdg : decode cc pc = .ok (.getfield index, 3))
    (kk : W p l e R s m args below meth c H locs cells slots Q (F0 m (pc + 3) ls ((if isRf ci k = true then rfv G (gR σ id k) else .int (gI σ id k)) :: rest))) : W p l e R s m args below meth c H locs cells slots Q (F0 m pc ls (.ref (G.2.2 + id) :: rest)) := by
  obtain ⟨hx, hb, hml, hown, hts, hK, hE⟩ := X
  obtain ⟨h1, h2, h3, h4⟩ := fk
  exact va_get (D := G.1) (cl := vwCl) (ws := wld G n σ) (tys := tyl G) (ci := ci) (C := clC ci) (T := clT ci) (N := clN ci) (ref := clC ci) hx hb hts (cl_in h1) hown hK hR.1 id (by rw [wld_get G σ hn, cellE_obj hid h1]) (vw_at h1) k h2 (hts _ h3) (fun x h => by rw [h4] at h; exact h) (fs_get h2) hdg kk
theorem q_gi (X : Cx p s m args c cc nL own G) (hR : Rp G n F σ s H locs) {id k ci index : Nat} (fk : FK own index ci k) (hrf : isRf ci k = false) (hid : (kd id).1 = ci) (hn : id < n) (hdg : decode cc pc = .ok (.getfield index, 3))
    (kk : W p l e R s m args below meth c H locs cells slots Q (F0 m (pc + 3) ls (.int (gI σ id k) :: rest))) : W p l e R s m args below meth c H locs cells slots Q (F0 m pc ls (.ref (G.2.2 + id) :: rest)) :=
  q_getv X hR fk hid hn hdg (by rw [hrf]; exact kk)
theorem q_gr (X : Cx p s m args c cc nL own G) (hR : Rp G n F σ s H locs) {id k ci index : Nat} (fk : FK own index ci k) (hrf : isRf ci k = true) (hid : (kd id).1 = ci) (hn : id < n) {t : Nat} (ht : gR σ id k = some t) (hdg : decode cc pc = .ok (.getfield index, 3))
    (kk : W p l e R s m args below meth c H locs cells slots Q (F0 m (pc + 3) ls (.ref (G.2.2 + t) :: rest))) : W p l e R s m args below meth c H locs cells slots Q (F0 m pc ls (.ref (G.2.2 + id) :: rest)) :=
  q_getv X hR fk hid hn hdg (by rw [hrf, ht]; exact kk)
/-- putfield, any value -/
theorem q_putv (X : Cx p s m args c cc nL own G) (hR : Rp G n F σ s H locs) {id k ci index : Nat} {ty : FieldType} (fp : FP own index ci k ty) (hid : (kd id).1 = ci) (hn : id < n) {v : Value} (hnw : narrow ty v = v) (hft : fits ty v = true) {σ1 : Mm} (hσ : (fsE G σ id ci).set k v = fsE G σ1 id ci) (ho : ∀ j, j ≠ id → cellE G σ1 j = cellE G σ j) (hrf : Rf F σ1) (hdg : decode cc pc = .ok (.putfield index, 3))
    (kk : ∀ (H1 : Heap) (locs1 : List Loc), Rp G n F σ1 s H1 locs1 → W p l e R s m args below meth c H1 locs1 cells slots Q (F0 m (pc + 3) ls rest)) : W p l e R s m args below meth c H locs cells slots Q (F0 m pc ls (v :: .ref (G.2.2 + id) :: rest)) := by
  obtain ⟨hx, hb, hml, hown, hts, hK, hE⟩ := X
  obtain ⟨hP, hz, hS0, hRf⟩ := hR
  obtain ⟨⟨h1, h2, h3, h4⟩, hfin, hty0⟩ := fp
  have hc := vw_at h1
  have hd : parseFieldDescriptor (clT ci k).2.2.1 = some ty := by rw [← hty0]; exact cl_ty h1 k h2
  have hap := va_apart (own := own) (D := G.1) (cl := vwCl) (tys := tyl G) hts (cl_in h1) (clTy ci) (cl_ty h1) (cl_nm h1) hK hc
  have he : (wld G n σ)[id]? = some (G.2.2 + id, .inr (ci, fsE G σ id ci)) := by rw [wld_get G σ hn, cellE_obj hid h1]
  have hD := wld_D G n σ
  obtain ⟨r, e1, cell, q1, q2, q3, q4⟩ := hP id _ he
  have hr : r = (clC ci, clT ci, clN ci) := Option.some.inj (e1.symm.trans hc)
  subst hr
  obtain ⟨hS, hfc, kC, hkC, hkind⟩ := hK.1 ci _ hc
  obtain ⟨cf, kf, fi, f, hi, hsl⟩ := hS k h2
  have hlay := hts _ (cl_in h1 _ (u_in_lay h2))
  unfold u_lay at hlay
  rw [if_neg (by rw [hfin]; decide)] at hlay
  have hst := (u_facts hfc hkC (u_lays hts (cl_in h1) h2) hi).1
  have h6 := u_store hfc hkC hkind hlay hi hd hnw hft
  have hi2 : s.fieldFound? (clC ci) (clT ci k).2.1 (clT ci k).2.2.1 = some (cf, kf, fi, f) := by rw [← h4]; exact hi
  refine W.putK hx hb (f := f) ⟨hown, hts _ h3, ⟨_, _, _, hi2⟩, hst⟩ (by rw [q2]; exact h6) q1 q3 (by rw [hsl]; exact k2_hasslot (q4 k h2)) rfl rfl hdg fun H' e1 e2 e3 => ?_
  rw [hsl] at e1 ⊢
  refine kk H' _ ⟨?_, fun h => by rw [e2]; exact hz h, hS0.put e2 e3 (hD.2 id _ he), hrf⟩
  have hP1 := hP.set hD he (e := .inr (ci, (fsE G σ id ci).set k v)) ⟨_, hc, t_OB.to (V := updV (vp_V (fsE G σ id ci)) k v) ⟨_, e1, q2, q3, t_set q4 hap h2 v⟩ (fun j _ => vp_updV_set (by rw [fs_len]; exact h2) v j)⟩ e3
  rw [hσ, wld_set (cellE_obj hid h1) ho] at hP1
  exact hP1
theorem q_pi (X : Cx p s m args c cc nL own G) (hR : Rp G n F σ s H locs) {id k ci index : Nat} (fp : FP own index ci k .int) (hrf : isRf ci k = false) (hid : (kd id).1 = ci) (hn : id < n) {v : Int32} (hdg : decode cc pc = .ok (.putfield index, 3))
    (kk : ∀ (H1 : Heap) (locs1 : List Loc) (σ1 : Mm), σ1 = sI σ id k v → Rp G n F σ1 s H1 locs1 → W p l e R s m args below meth c H1 locs1 cells slots Q (F0 m (pc + 3) ls rest)) : W p l e R s m args below meth c H locs cells slots Q (F0 m pc ls (.int v :: .ref (G.2.2 + id) :: rest)) :=
  q_putv X hR fp hid hn rfl rfl (fs_setI hrf) sI_ne (Rf_sI hR.2.2.2) hdg (fun H1 locs1 h => kk H1 locs1 _ rfl h)
theorem q_pz (X : Cx p s m args c cc nL own G) (hR : Rp G n F σ s H locs) {id k ci index : Nat} (fp : FP own index ci k .boolean) (hrf : isRf ci k = false) (hid : (kd id).1 = ci) (hn : id < n) {v : Int32} (hv : narrow .boolean (.int v) = .int v) (hv2 : fits .boolean (.int v) = true) (hdg : decode cc pc = .ok (.putfield index, 3))
    (kk : ∀ (H1 : Heap) (locs1 : List Loc) (σ1 : Mm), σ1 = sI σ id k v → Rp G n F σ1 s H1 locs1 → W p l e R s m args below meth c H1 locs1 cells slots Q (F0 m (pc + 3) ls rest)) : W p l e R s m args below meth c H locs cells slots Q (F0 m pc ls (.int v :: .ref (G.2.2 + id) :: rest)) :=
  q_putv X hR fp hid hn hv hv2 (fs_setI hrf) sI_ne (Rf_sI hR.2.2.2) hdg (fun H1 locs1 h => kk H1 locs1 _ rfl h)
theorem q_pr (X : Cx p s m args c cc nL own G) (hR : Rp G n F σ s H locs) {id k ci index : Nat} {C : String} (fp : FP own index ci k (.object C)) (hrf : isRf ci k = true) (hid : (kd id).1 = ci) (hn : id < n) {t : Nat} (hst : st id k = none) (hdg : decode cc pc = .ok (.putfield index, 3))
    (kk : ∀ (H1 : Heap) (locs1 : List Loc) (σ1 : Mm), σ1 = sR σ id k (some t) → Rp G n F σ1 s H1 locs1 → W p l e R s m args below meth c H1 locs1 cells slots Q (F0 m (pc + 3) ls rest)) : W p l e R s m args below meth c H locs cells slots Q (F0 m pc ls (.ref (G.2.2 + t) :: .ref (G.2.2 + id) :: rest)) :=
  q_putv X hR fp hid hn rfl rfl (fs_setR (v := some t) hrf) sR_ne (Rf_sR hR.2.2.2 hst) hdg (fun H1 locs1 h => kk H1 locs1 _ rfl h)
-- arrays
theorem q_ial (X : Cx p s m args c cc nL own G) (hR : Rp G n F σ s H locs) {id len : Nat} (hk : kd id = (13, len)) (hn : id < n) {i : Int32} (hin : vp_in i len) (hdg : decode cc pc = .ok (.iaload, 1))
    (kk : W p l e R s m args below meth c H locs cells slots Q (F0 m (pc + 1) ls (.int (gI σ id i.toNatClampNeg) :: rest))) : W p l e R s m args below meth c H locs cells slots Q (F0 m pc ls (.int i :: .ref (G.2.2 + id) :: rest)) :=
  va_iald (f := σ.1 id) (D := G.1) (cl := vwCl) (ws := wld G n σ) (tys := tyl G) X.1 X.2.1 X.2.2.2.2.2.1 hR.1 id 1 (by rw [wld_get G σ hn, cellE_int hk]) rfl hin hdg kk
theorem q_bal (X : Cx p s m args c cc nL own G) (hR : Rp G n F σ s H locs) {id len : Nat} (hk : kd id = (12, len)) (hn : id < n) {i : Int32} (hin : vp_in i len) (hdg : decode cc pc = .ok (.baload, 1))
    (kk : W p l e R s m args below meth c H locs cells slots Q (F0 m (pc + 1) ls (.int (gI σ id i.toNatClampNeg) :: rest))) : W p l e R s m args below meth c H locs cells slots Q (F0 m pc ls (.int i :: .ref (G.2.2 + id) :: rest)) :=
  va_bald (f := σ.1 id) (D := G.1) (cl := vwCl) (ws := wld G n σ) (tys := tyl G) X.1 X.2.1 X.2.2.2.2.2.1 hR.1 id 0 (by rw [wld_get G σ hn, cellE_byte hk]) rfl hin hdg kk
theorem q_zal (X : Cx p s m args c cc nL own G) (hR : Rp G n F σ s H locs) {id len : Nat} (hk : kd id = (15, len)) (hn : id < n) {i : Int32} (hin : vp_in i len) (hdg : decode cc pc = .ok (.baload, 1))
    (kk : W p l e R s m args below meth c H locs cells slots Q (F0 m (pc + 1) ls (.int (gI σ id i.toNatClampNeg) :: rest))) : W p l e R s m args below meth c H locs cells slots Q (F0 m pc ls (.int i :: .ref (G.2.2 + id) :: rest)) :=
  va_zald (f := σ.1 id) (D := G.1) (cl := vwCl) (ws := wld G n σ) (tys := tyl G) X.1 X.2.1 X.2.2.2.2.2.1 hR.1 id 3 (by rw [wld_get G σ hn, cellE_bool hk]) rfl hin hdg kk
theorem q_lal (X : Cx p s m args c cc nL own G) (hR : Rp G n F σ s H locs) {id len : Nat} (hk : kd id = (14, len)) (hn : id < n) {i : Int32} (hin : vp_in i len) (hdg : decode cc pc = .ok (.laload, 1))
    (kk : W p l e R s m args below meth c H locs cells slots Q (F0 m (pc + 1) ls (.long (gL σ id i.toNatClampNeg) :: rest))) : W p l e R s m args below meth c H locs cells slots Q (F0 m pc ls (.int i :: .ref (G.2.2 + id) :: rest)) :=
  va_lald (f := σ.2.1 id) (D := G.1) (cl := vwCl) (ws := wld G n σ) (tys := tyl G) X.1 X.2.1 X.2.2.2.2.2.1 hR.1 id 2 (by rw [wld_get G σ hn, cellE_long hk]) rfl hin hdg kk
theorem q_aal (X : Cx p s m args c cc nL own G) (hR : Rp G n F σ s H locs) {id len : Nat} (hk : kd id = (17, len) ∨ kd id = (16, len)) (hn : id < n) {i : Int32} (hin : vp_in i len) {t : Nat} (ht : gR σ id i.toNatClampNeg = some t) (hdg : decode cc pc = .ok (.aaload, 1))
    (kk : W p l e R s m args below meth c H locs cells slots Q (F0 m (pc + 1) ls (.ref (G.2.2 + t) :: rest))) : W p l e R s m args below meth c H locs cells slots Q (F0 m pc ls (.int i :: .ref (G.2.2 + id) :: rest)) := by
  rcases hk with hk | hk
  · exact va_aldq (D := G.1) (cl := vwCl) (ws := wld G n σ) (tys := tyl G) (C := RX5) X.1 X.2.1 X.2.2.2.2.2.1 hR.1 id 5 (by rw [wld_get G σ hn, cellE_refM hk]) rfl hin hdg (by rw [ht]; exact kk)
  · exact va_aldq (D := G.1) (cl := vwCl) (ws := wld G n σ) (tys := tyl G) (C := RX1) X.1 X.2.1 X.2.2.2.2.2.1 hR.1 id 4 (by rw [wld_get G σ hn, cellE_refG hk]) rfl hin hdg (by rw [ht]; exact kk)
theorem q_len (X : Cx p s m args c cc nL own G) (hR : Rp G n F σ s H locs) {id t len : Nat} (hk : kd id = (t, len)) (ht : 12 ≤ t ∧ t < 16) (hn : id < n) {v : Int32} (hv : Int32.ofNat len = v) (hdg : decode cc pc = .ok (.arraylength, 1))
    (kk : W p l e R s m args below meth c H locs cells slots Q (F0 m (pc + 1) ls (.int v :: rest))) : W p l e R s m args below meth c H locs cells slots Q (F0 m pc ls (.ref (G.2.2 + id) :: rest)) := by
  rcases (show t = 12 ∨ t = 13 ∨ t = 14 ∨ t = 15 by omega) with rfl | rfl | rfl | rfl
  · exact va_alen (D := G.1) (cl := vwCl) (ws := wld G n σ) (tys := tyl G) X.1 X.2.1 X.2.2.2.2.2.1 hR.1 id 0 (by rw [wld_get G σ hn, cellE_byte hk]) rfl hv hdg kk
  · exact va_alen (D := G.1) (cl := vwCl) (ws := wld G n σ) (tys := tyl G) X.1 X.2.1 X.2.2.2.2.2.1 hR.1 id 1 (by rw [wld_get G σ hn, cellE_int hk]) rfl hv hdg kk
  · exact va_alen (D := G.1) (cl := vwCl) (ws := wld G n σ) (tys := tyl G) X.1 X.2.1 X.2.2.2.2.2.1 hR.1 id 2 (by rw [wld_get G σ hn, cellE_long hk]) rfl hv hdg kk
  · exact va_alen (D := G.1) (cl := vwCl) (ws := wld G n σ) (tys := tyl G) X.1 X.2.1 X.2.2.2.2.2.1 hR.1 id 3 (by rw [wld_get G σ hn, cellE_bool hk]) rfl hv hdg kk
theorem q_ias (X : Cx p s m args c cc nL own G) (hR : Rp G n F σ s H locs) {id len : Nat} (hk : kd id = (13, len)) (hn : id < n) {i x : Int32} (hin : vp_in i len) (hdg : decode cc pc = .ok (.iastore, 1))
    (kk : ∀ (H1 : Heap) (locs1 : List Loc) (σ1 : Mm), σ1 = sI σ id i.toNatClampNeg x → Rp G n F σ1 s H1 locs1 → W p l e R s m args below meth c H1 locs1 cells slots Q (F0 m (pc + 1) ls rest)) : W p l e R s m args below meth c H locs cells slots Q (F0 m pc ls (.int x :: .int i :: .ref (G.2.2 + id) :: rest)) := by
  obtain ⟨hx, hb, hml, hown, hts, hK, hE⟩ := X
  obtain ⟨hP, hz, hS0, hRf⟩ := hR
  have hD := wld_D G n σ
  have ha : (wld G n σ)[id]? = some (G.2.2 + id, .inl (G.2.1 1, len, .inl (σ.1 id))) := by rw [wld_get G σ hn, cellE_int hk]
  refine W.iast hx hb (hP id _ ha) ((hK.2 1 _ rfl).1 len (fun j => .int (σ.1 id j))) (fun q => by cases q) (by show ¬ (i < 0 ∨ (arrV _ _ _).slots.size ≤ _); rw [arrV_size]; exact hin) rfl rfl hdg fun H1 e z oq => ?_
  refine kk H1 _ _ rfl ⟨?_, fun h => by rw [z]; exact hz h, hS0.put z oq (hD.2 id _ ha), Rf_sI hRf⟩
  rw [← wld_set (E := .inl (G.2.1 1, len, .inl (upd (σ.1 id) i.toNatClampNeg x))) (by rw [cellE_int hk]; simp [sI]) sI_ne]
  refine hP.set hD ha ?_ oq
  show H1[G.2.2 + id]? = some (vp_cell _ _)
  rw [e, vp_cell_i, vp_cell_i, arrV_store]
  congr 2
  funext q
  by_cases hq : q = i.toNatClampNeg
  · subst hq
    simp [updV, upd]
  · simp [updV, upd, hq]
theorem q_bas (X : Cx p s m args c cc nL own G) (hR : Rp G n F σ s H locs) {id len : Nat} (hk : kd id = (12, len)) (hn : id < n) {i x : Int32} (hin : vp_in i len) (hdg : decode cc pc = .ok (.bastore, 1))
    (kk : ∀ (H1 : Heap) (locs1 : List Loc) (σ1 : Mm), σ1 = sI σ id i.toNatClampNeg (vp_nar .byte x) → Rp G n F σ1 s H1 locs1 → W p l e R s m args below meth c H1 locs1 cells slots Q (F0 m (pc + 1) ls rest)) : W p l e R s m args below meth c H locs cells slots Q (F0 m pc ls (.int x :: .int i :: .ref (G.2.2 + id) :: rest)) := by
  obtain ⟨hx, hb, hml, hown, hts, hK, hE⟩ := X
  obtain ⟨hP, hz, hS0, hRf⟩ := hR
  have hD := wld_D G n σ
  have ha : (wld G n σ)[id]? = some (G.2.2 + id, .inl (G.2.1 0, len, .inl (σ.1 id))) := by rw [wld_get G σ hn, cellE_byte hk]
  refine W.bast hx hb (hP id _ ha) ((hK.2 0 _ rfl).1 len (fun j => .int (σ.1 id j))) (fun q => by cases q) (by show ¬ (i < 0 ∨ (arrV _ _ _).slots.size ≤ _); rw [arrV_size]; exact hin) rfl rfl hdg fun H1 e z oq => ?_
  refine kk H1 _ _ rfl ⟨?_, fun h => by rw [z]; exact hz h, hS0.put z oq (hD.2 id _ ha), Rf_sI hRf⟩
  rw [← wld_set (E := .inl (G.2.1 0, len, .inl (upd (σ.1 id) i.toNatClampNeg (vp_nar .byte x)))) (by rw [cellE_byte hk]; simp [sI]) sI_ne]
  refine hP.set hD ha ?_ oq
  show H1[G.2.2 + id]? = some (vp_cell _ _)
  rw [e, vp_cell_i, vp_cell_i, arrV_store]
  congr 2
  funext q
  by_cases hq : q = i.toNatClampNeg
  · subst hq
    simp [updV, upd, vp_nar]
    try rfl
  · simp [updV, upd, hq]
theorem q_zas (X : Cx p s m args c cc nL own G) (hR : Rp G n F σ s H locs) {id len : Nat} (hk : kd id = (15, len)) (hn : id < n) {i x : Int32} (hin : vp_in i len) (hdg : decode cc pc = .ok (.bastore, 1))
    (kk : ∀ (H1 : Heap) (locs1 : List Loc) (σ1 : Mm), σ1 = sI σ id i.toNatClampNeg (vp_nar .boolean x) → Rp G n F σ1 s H1 locs1 → W p l e R s m args below meth c H1 locs1 cells slots Q (F0 m (pc + 1) ls rest)) : W p l e R s m args below meth c H locs cells slots Q (F0 m pc ls (.int x :: .int i :: .ref (G.2.2 + id) :: rest)) := by
  obtain ⟨hx, hb, hml, hown, hts, hK, hE⟩ := X
  obtain ⟨hP, hz, hS0, hRf⟩ := hR
  have hD := wld_D G n σ
  have ha : (wld G n σ)[id]? = some (G.2.2 + id, .inl (G.2.1 3, len, .inl (σ.1 id))) := by rw [wld_get G σ hn, cellE_bool hk]
  refine W.zast hx hb (hP id _ ha) ((hK.2 3 _ rfl).1 len (fun j => .int (σ.1 id j))) (fun q => by cases q) (by show ¬ (i < 0 ∨ (arrV _ _ _).slots.size ≤ _); rw [arrV_size]; exact hin) rfl rfl hdg fun H1 e z oq => ?_
  refine kk H1 _ _ rfl ⟨?_, fun h => by rw [z]; exact hz h, hS0.put z oq (hD.2 id _ ha), Rf_sI hRf⟩
  rw [← wld_set (E := .inl (G.2.1 3, len, .inl (upd (σ.1 id) i.toNatClampNeg (vp_nar .boolean x)))) (by rw [cellE_bool hk]; simp [sI]) sI_ne]
  refine hP.set hD ha ?_ oq
  show H1[G.2.2 + id]? = some (vp_cell _ _)
  rw [e, vp_cell_i, vp_cell_i, arrV_store]
  congr 2
  funext q
  by_cases hq : q = i.toNatClampNeg
  · subst hq
    simp [updV, upd, vp_nar]
    try rfl
  · simp [updV, upd, hq]
theorem q_las (X : Cx p s m args c cc nL own G) (hR : Rp G n F σ s H locs) {id len : Nat} (hk : kd id = (14, len)) (hn : id < n) {i : Int32} {x : Int64} (hin : vp_in i len) (hdg : decode cc pc = .ok (.lastore, 1))
    (kk : ∀ (H1 : Heap) (locs1 : List Loc) (σ1 : Mm), σ1 = sL σ id i.toNatClampNeg x → Rp G n F σ1 s H1 locs1 → W p l e R s m args below meth c H1 locs1 cells slots Q (F0 m (pc + 1) ls rest)) : W p l e R s m args below meth c H locs cells slots Q (F0 m pc ls (.long x :: .int i :: .ref (G.2.2 + id) :: rest)) := by
  obtain ⟨hx, hb, hml, hown, hts, hK, hE⟩ := X
  obtain ⟨hP, hz, hS0, hRf⟩ := hR
  have hD := wld_D G n σ
  have ha : (wld G n σ)[id]? = some (G.2.2 + id, .inl (G.2.1 2, len, .inr (.inl (σ.2.1 id)))) := by rw [wld_get G σ hn, cellE_long hk]
  refine W.last hx hb (hP id _ ha) ((hK.2 2 _ rfl).1 len (fun j => .long (σ.2.1 id j))) (fun q => by cases q) (by show ¬ (i < 0 ∨ (arrV _ _ _).slots.size ≤ _); rw [arrV_size]; exact hin) rfl rfl hdg fun H1 e z oq => ?_
  refine kk H1 _ _ rfl ⟨?_, fun h => by rw [z]; exact hz h, hS0.put z oq (hD.2 id _ ha), Rf_sL hRf⟩
  rw [← wld_set (E := .inl (G.2.1 2, len, .inr (.inl (vp_updL (σ.2.1 id) i.toNatClampNeg x)))) (by rw [cellE_long hk]; simp [sL]) sL_ne]
  refine hP.set hD ha ?_ oq
  show H1[G.2.2 + id]? = some (vp_cell _ _)
  rw [e, vp_cell_l, vp_cell_l, arrV_store]
  congr 2
  funext q
  by_cases hq : q = i.toNatClampNeg
  · subst hq
    simp [updV, vp_updL]
  · simp [updV, vp_updL, hq]
end QRows
-- THE WORDS OF THE PURE FUNCTIONS (none: an index outside, a wrong cell, no more fuel)
def z_l {α β : Type} (v : α) (k : α → β) : β := k v
def z_c {β : Type} (b : Bool) (x : Option β) : Option β := if b = true then x else none
def z_b {α β : Type} (x : Option (α × Mm)) (k : α → Mm → Option β) : Option β := match x with
  | some q => k q.1 q.2
  | none => none
def z_r {β : Type} (r : Option Nat) (ci : Nat) (k : Nat → Option β) : Option β := match r with
  | some t => if (kd t).1 = ci then k t else none
  | none => none
theorem z_l_e {α β : Type} {x v : α} {k : α → β} {z : β} (e : x = v) (h : z_l v k = z) : k x = z := by subst e; exact h
theorem z_c_e {β : Type} {b : Bool} {x : Option β} {y : β} (h : z_c b x = some y) : b = true ∧ x = some y := by
  unfold z_c at h
  by_cases hb : b = true
  · rw [if_pos hb] at h; exact ⟨hb, h⟩
  · rw [if_neg hb] at h; cases h
theorem z_b_e {α β : Type} {x : Option (α × Mm)} {k : α → Mm → Option β} {y : β} (h : z_b x k = some y) : ∃ (r : α) (τ : Mm), x = some (r, τ) ∧ k r τ = some y := by
  cases x with
  | none => cases h
  | some q => exact ⟨q.1, q.2, rfl, h⟩
theorem z_r_e {β : Type} {r : Option Nat} {ci : Nat} {k : Nat → Option β} {y : β} (h : z_r r ci k = some y) : ∃ t : Nat, r = some t ∧ (kd t).1 = ci ∧ k t = some y := by
  cases r with
  | none => cases h
  | some t =>
    unfold z_r at h
    by_cases hc : (kd t).1 = ci
    · dsimp only at h
      rw [if_pos hc] at h
      exact ⟨t, rfl, hc, h⟩
    · dsimp only at h
      rw [if_neg hc] at h; cases h
theorem z_t {β : Type} {c : Prop} [Decidable c] {x y z : β} (hc : c) (h : (if c then x else y) = z) : x = z := by rw [if_pos hc] at h; exact h
theorem z_f {β : Type} {c : Prop} [Decidable c] {x y z : β} (hc : ¬ c) (h : (if c then x else y) = z) : y = z := by rw [if_neg hc] at h; exact h
theorem z_ne0 {x : Int32} (h : (!(x == 0)) = true) : ¬ x = 0 := by simpa using h
def isZ (v : Int32) : Bool := decide (v = 0 ∨ v = 1)
theorem isZ_n {v : Int32} (h : isZ v = true) : narrow .boolean (.int v) = .int v := by
  rcases of_decide_eq_true h with rfl | rfl <;> rfl
theorem isZ_f {v : Int32} (h : isZ v = true) : fits .boolean (.int v) = true := by
  rcases of_decide_eq_true h with rfl | rfl <;> rfl
-- CONTRACTS
abbrev WS (y : MethodName) (cc : ByteArray) (nL : Nat) (ret : Option FieldType) : List Cond := Cond.code y cc nL ret :: lw_g
def P_i (G : Gp) (n : Nat) (F : Nat → Bool) (r0 : Int32) (σ0 : Mm) : Array Value → State → Outcome → State → Prop := va_Qi (fun (r : Int32) (u : Mm) => r = r0 ∧ u = σ0) (fun u t => Wd G n F u t) (Fr G)
def P_l (G : Gp) (n : Nat) (F : Nat → Bool) (r0 : Int64) (σ0 : Mm) : Array Value → State → Outcome → State → Prop := va_Ql (fun (r : Int64) (u : Mm) => r = r0 ∧ u = σ0) (fun u t => Wd G n F u t) (Fr G)
def P_v (G : Gp) (n : Nat) (F : Nat → Bool) (r0 : Unit) (σ0 : Mm) : Array Value → State → Outcome → State → Prop := va_Qv (fun (u : Mm) => u = σ0) (fun u t => Wd G n F u t) (Fr G)
theorem Wd_moved {G : Gp} {n : Nat} {F : Nat → Bool} {σ : Mm} {s U : State} {H : Heap} (hP : va_P G.1 vwCl (wld G n σ) H) (hz : n < 212 → H.size = G.2.2 + n) (hK : va_K G.1 vwCl (tyl G) s) (hF : Rf F σ) (hU : U.heap = H) (hW : s.vm.Alike U.vm) : Wd G n F σ U :=
  ⟨by rw [hU]; exact hP, fun h => by rw [hU]; exact hz h, va_K.moved hW hK, hF⟩
def Pd (G : Gp) (n : Nat) (F : Nat → Bool) (σ : Mm) (U : State) : Prop := Wd G n F σ U ∧ Ex G U
theorem Pd_blind {G : Gp} {n : Nat} {F : Nat → Bool} {σ : Mm} {av : List Value} : FrameBlind (va_Pc av (Pd G n F σ)) := by
  intro a U g mk q
  obtain ⟨q0, ⟨q1, q2, q3, q4⟩, q5⟩ := q
  exact ⟨q0, ⟨q1, q2, va_K.moved (u := U) (U := U.calling g mk a) (Vm.Alike.refl U.vm) q3, q4⟩, Ex_call q5⟩
theorem lw_goodIn {w : Cond} (h : w ∈ lw_g) : w ∈ lw_g ∧ ((w.onTables && w.keeps) = true ∨ ∃ ty, w = .arrayClass ty) := ⟨h, good_of_word (List.mem_filter.mp h).2⟩
theorem WS_good {y : MethodName} {cc : ByteArray} {nL : Nat} {ret : Option FieldType} (h : Cond.code y cc nL ret ∈ lw_g) : GoodIn lw_g (WS y cc nL ret) := by
  intro w hw
  rcases List.mem_cons.mp hw with rfl | hw
  · exact lw_goodIn h
  · exact lw_goodIn hw
def RM (rm R : Room) (nL : Nat) : Prop := rm.cells = 0 ∧ rm.slots = 0 ∧ rm.frames + 1 ≤ R.frames ∧ 8 + (nL + 11) + rm.locals ≤ R.locals
section CRows
variable {p : Program} {l : Launch} {e : Env} {R : Room} {s : State} {m : MethodId} {args : Array Value} {below : List Frame} {meth : Method} {c : Code} {H : Heap} {locs : List Loc} {cells slots : Nat} {Q : State → Prop}
variable {cc : ByteArray} {pc : Nat} {ls : Array Slot} {rest : List Value} {own : String} {nL : Nat} {G : Gp} {n : Nat} {F : Nat → Bool} {σ : Mm}
variable {y : MethodName} {cy : ByteArray} {nY : Nat} {ret : Option FieldType} {rm : Room} {index ci na id : Nat} {As : List Value} {Qc : Array Value → State → Outcome → State → Prop}
theorem mv_cw (X : Cx p s m args c cc nL own G) (mv : MV own index ci y cy nY ret na) (hrm : RM rm R nY) : CallW R s args own (clC ci) index y cy nY ret (WS y cy nY ret) rm 0 0 na := by
  obtain ⟨hx, hb, hml, hown, hts, hK, hE⟩ := X
  obtain ⟨h1, h2, h3, h4, h5, h6, hd⟩ := mv
  refine cwV (Ts := lw_g) (ws' := lw_g) na hts ?_ rfl hrm.1 hrm.2.1 hd hrm.2.2
  intro w hw
  unfold wsV at hw
  rcases List.mem_append.mp hw with hw | hw
  · simp only [List.mem_cons, List.not_mem_nil, or_false] at hw
    rcases hw with rfl | rfl | rfl | rfl
    · exact lw_goodIn h1
    · exact lw_goodIn h2
    · exact lw_goodIn h3
    · exact lw_goodIn h4
  · exact WS_good h5 w hw
theorem ms_cb (X : Cx p s m args c cc nL own G) (ms : MS own index y cy nY ret na) (hrm : RM rm R nY) : CallB R s args own index y cy nY ret (WS y cy nY ret) rm 0 0 na ∧ (Cond.static y).before args s = true := by
  obtain ⟨hx, hb, hml, hown, hts, hK, hE⟩ := X
  obtain ⟨h1, h2, h3, h4, hd⟩ := ms
  exact ⟨callB_of (Ts := lw_g) (ws' := lw_g) na hts (WS_good h4) rfl hrm.1 hrm.2.1 (hts _ h3) (hts _ h1) hd hrm.2.2, hts _ h2⟩
theorem mv_run (X : Cx p s m args c cc nL own G) (hR : Rp G n F σ s H locs) (mv : MV own index ci y cy nY ret na) (hid : (kd id).1 = ci) (hn : id < n) (hM : Met l y (WS y cy nY ret) rm (va_Pc (.ref (G.2.2 + id) :: As) (Pd G n F σ)) Qc 0 0 (Fr G)) (hrm : RM rm R nY) (hna : As.length = na) (hls : ls.size = nL) {st0 : List Value} (hst : st0 = As.reverse ++ .ref (G.2.2 + id) :: rest) (hW : (rest.map fun v => v.category).sum ≤ 8) (hdg : decode cc pc = .ok (.invokevirtual index, 3)) (hf : cells ≤ R.cells ∧ slots ≤ R.slots) :
    va_Run p l e R s m args below meth c H locs cells slots 0 0 (F0 m pc ls st0) rest (Qc (Value.ref (G.2.2 + id) :: As).toArray) (Fr G) := by
  have cw := mv_cw X mv hrm
  obtain ⟨hx, hb, hml, hown, hts, hK, hE⟩ := X
  obtain ⟨hP, hz, hS0, hRf⟩ := hR
  obtain ⟨h1, h2, h3, h4, h5, h6, hd⟩ := mv
  refine va_runV (Ts := lw_g) (As := As) (rest := rest) ⟨hx, hb, hml, hown, hts⟩ hM cw ⟨Pd_blind, va_recv (D := G.1) (cl := vwCl) (ws := wld G n σ) (tys := tyl G) (ci := ci) (q := (clC ci, clT ci, clN ci)) (q0 := id) hK hP (vw_at h6) (by rw [wld_get G σ hn, cellE_obj hid h6]), fun U hU hW => ⟨rfl, Wd_moved hP hz hK hRf hU hW.alike, Ex_warm hE hS0 hU hW⟩⟩ rfl hna hls hst (lv_room hW) hdg ?_
  exact hf
theorem ms_run (X : Cx p s m args c cc nL own G) (hR : Rp G n F σ s H locs) (ms : MS own index y cy nY ret na) (hM : Met l y (WS y cy nY ret) rm (va_Pc As (Pd G n F σ)) Qc 0 0 (Fr G)) (hrm : RM rm R nY) (hna : As.length = na) (hls : ls.size = nL) {st0 : List Value} (hst : st0 = As.reverse ++ rest) (hW : (rest.map fun v => v.category).sum ≤ 8) (hdg : decode cc pc = .ok (.invokestatic index, 3)) (hf : cells ≤ R.cells ∧ slots ≤ R.slots) :
    va_Run p l e R s m args below meth c H locs cells slots 0 0 (F0 m pc ls st0) rest (Qc As.toArray) (Fr G) := by
  have cw := ms_cb X ms hrm
  obtain ⟨hx, hb, hml, hown, hts, hK, hE⟩ := X
  obtain ⟨hP, hz, hS0, hRf⟩ := hR
  exact va_runS (Ts := lw_g) (As := As) (rest := rest) ⟨hx, hb, hml, hown, hts⟩ hM cw ⟨Pd_blind, fun U hU hW => ⟨rfl, Wd_moved hP hz hK hRf hU hW.alike, Ex_warm hE hS0 hU hW⟩⟩ rfl hna hls hst (lv_room hW) hdg hf
variable {r0 : Int32} {l0 : Int64} {u0 : Unit} {σ0 : Mm} {n1 : Nat} {F1 : Nat → Bool} {st0 : List Value} {a : Array Value}
theorem go_i (hR : Rp G n F σ s H locs) (hr : va_Run p l e R s m args below meth c H locs cells slots 0 0 (F0 m pc ls st0) rest (P_i G n1 F1 r0 σ0 a) (Fr G))
    (kk : ∀ (H1 : Heap) (locs1 : List Loc), Rp G n1 F1 σ0 s H1 locs1 → W p l e R s m args below meth c H1 locs1 cells slots Q (F0 m (pc + 3) ls (.int r0 :: rest))) : W p l e R s m args below meth c H locs cells slots Q (F0 m pc ls st0) := by
  refine va_calli hr hR.2.2.1 (fun q _ h => h) (fun q h => h) (fun r u t H1 locs1 ht hvm hw hB hz hk hS => ?_)
  obtain ⟨rfl, rfl⟩ := hw
  obtain ⟨b1, b2, b3, b4⟩ := hB
  rw [ht] at b1 b2
  exact kk H1 locs1 ⟨b1, b2, hS, b4⟩
theorem go_l (hR : Rp G n F σ s H locs) (hr : va_Run p l e R s m args below meth c H locs cells slots 0 0 (F0 m pc ls st0) rest (P_l G n1 F1 l0 σ0 a) (Fr G))
    (kk : ∀ (H1 : Heap) (locs1 : List Loc), Rp G n1 F1 σ0 s H1 locs1 → W p l e R s m args below meth c H1 locs1 cells slots Q (F0 m (pc + 3) ls (.long l0 :: rest))) : W p l e R s m args below meth c H locs cells slots Q (F0 m pc ls st0) := by
  refine va_calll hr hR.2.2.1 (fun q _ h => h) (fun q h => h) (fun r u t H1 locs1 ht hvm hw hB hz hk hS => ?_)
  obtain ⟨rfl, rfl⟩ := hw
  obtain ⟨b1, b2, b3, b4⟩ := hB
  rw [ht] at b1 b2
  exact kk H1 locs1 ⟨b1, b2, hS, b4⟩
theorem go_v (hR : Rp G n F σ s H locs) (hr : va_Run p l e R s m args below meth c H locs cells slots 0 0 (F0 m pc ls st0) rest (P_v G n1 F1 u0 σ0 a) (Fr G))
    (kk : ∀ (H1 : Heap) (locs1 : List Loc), Rp G n1 F1 σ0 s H1 locs1 → W p l e R s m args below meth c H1 locs1 cells slots Q (F0 m (pc + 3) ls rest)) : W p l e R s m args below meth c H locs cells slots Q (F0 m pc ls st0) := by
  refine va_callv hr hR.2.2.1 (fun q _ h => h) (fun q h => h) (fun u t H1 locs1 ht hvm hw hB hz hk hS => ?_)
  subst hw
  obtain ⟨b1, b2, b3, b4⟩ := hB
  rw [ht] at b1 b2
  exact kk H1 locs1 ⟨b1, b2, hS, b4⟩
-- ENDS
theorem e_i (X : Cx p s m args c cc nL own G) (hR : Rp G n F σ s H locs) (hr : meth.sig.returnType = some .int) (hlk : meth.locks = false) {v : Int32} (hf : some (v, σ) = some (r0, σ0)) (hdg : decode cc pc = .ok (.ireturn, 1)) :
    W p l e R s m args below meth c H locs cells slots (MQ below (P_i G n F r0 σ0) args s cells slots (Fr G)) (F0 m pc ls [.int v]) := by
  obtain ⟨rfl, rfl⟩ := Prod.mk.inj (Option.some.inj hf)
  exact W.iret X.1 X.2.1 hr (fun t ht hW => ⟨⟨v, σ, rfl, ⟨rfl, rfl⟩, Wd_moved hR.1 hR.2.1 X.2.2.2.2.2.1 hR.2.2.2 ht hW.alike⟩, hR.2.2.1.F ht⟩) hR.2.2.1.2.2 hdg hlk
theorem e_z (X : Cx p s m args c cc nL own G) (hR : Rp G n F σ s H locs) (hr : meth.sig.returnType = some .boolean) (hlk : meth.locks = false) {v : Int32} (hv : isZ v = true) (hf : some (v, σ) = some (r0, σ0)) (hdg : decode cc pc = .ok (.ireturn, 1)) :
    W p l e R s m args below meth c H locs cells slots (MQ below (P_i G n F r0 σ0) args s cells slots (Fr G)) (F0 m pc ls [.int v]) := by
  obtain ⟨rfl, rfl⟩ := Prod.mk.inj (Option.some.inj hf)
  exact W.zret X.1 X.2.1 hr (isZ_n hv) (fun t ht hW => ⟨⟨v, σ, rfl, ⟨rfl, rfl⟩, Wd_moved hR.1 hR.2.1 X.2.2.2.2.2.1 hR.2.2.2 ht hW.alike⟩, hR.2.2.1.F ht⟩) hR.2.2.1.2.2 hdg hlk
theorem e_l (X : Cx p s m args c cc nL own G) (hR : Rp G n F σ s H locs) (hr : meth.sig.returnType = some .long) (hlk : meth.locks = false) {v : Int64} (hf : some (v, σ) = some (l0, σ0)) (hdg : decode cc pc = .ok (.lreturn, 1)) :
    W p l e R s m args below meth c H locs cells slots (MQ below (P_l G n F l0 σ0) args s cells slots (Fr G)) (F0 m pc ls [.long v]) := by
  obtain ⟨rfl, rfl⟩ := Prod.mk.inj (Option.some.inj hf)
  exact W.lret X.1 X.2.1 hr (fun t ht hW => ⟨⟨v, σ, rfl, ⟨rfl, rfl⟩, Wd_moved hR.1 hR.2.1 X.2.2.2.2.2.1 hR.2.2.2 ht hW.alike⟩, hR.2.2.1.F ht⟩) hR.2.2.1.2.2 hdg hlk
theorem e_v (X : Cx p s m args c cc nL own G) (hR : Rp G n F σ s H locs) (hr : meth.sig.returnType = none) (hlk : meth.locks = false) (hf : some ((), σ) = some (u0, σ0)) (hdg : decode cc pc = .ok (.return_, 1)) :
    W p l e R s m args below meth c H locs cells slots (MQ below (P_v G n F u0 σ0) args s cells slots (Fr G)) (F0 m pc ls []) := by
  obtain ⟨rfl, rfl⟩ := Prod.mk.inj (Option.some.inj hf)
  exact W.vret X.1 X.2.1 hr (fun t ht hW => ⟨⟨σ, rfl, rfl, Wd_moved hR.1 hR.2.1 X.2.2.2.2.2.1 hR.2.2.2 ht hW.alike⟩, hR.2.2.1.F ht⟩) hR.2.2.1.2.2 hdg hlk
end CRows
/-- a method's start -/
theorem ct {l : Launch} {y : MethodName} {cc : ByteArray} {nL : Nat} {ret : Option FieldType} {rm : Room} {G : Gp} {n : Nat} {F : Nat → Bool} {σ : Mm} {av : List Value} {Qc : Array Value → State → Outcome → State → Prop} (lv : List (Nat × Value)) (hlv : lv_args 0 av = lv) (hy : plainName y.cls = true) (hlen : (lg_sl av).length ≤ nL)
    (body : ∀ (p : Program) (e : Env) (s : State) (m : MethodId) (below : List Frame) (meth : Method) (c : Code) (ls : Array Slot), Cx p s m av.toArray c cc nL y.cls G → meth.sig.returnType = ret → meth.locks = false → Rp G n F σ s s.heap [] → lv_has ls nL lv →
      W p l e rm s m av.toArray below meth c s.heap [] 0 0 (MQ below Qc av.toArray s 0 0 (Fr G)) (F0 m 0 ls [])) : Met l y (WS y cc nL ret) rm (va_Pc av (Pd G n F σ)) Qc 0 0 (Fr G) := by
  refine Met.ofW (cc := cc) (maxL := nL) (ret := ret) hy rfl ?_
  intro p e s m args below meth c s₁ B hml hv
  obtain ⟨rfl, ⟨hP, hz, hK, hRf⟩, hE⟩ := hv
  have hts := atoms_spec (ws := WS y cc nL ret) B.pre
  have hown : s.vm.findClass y.cls = some m.cls := findClass_of_methodNamed B.named
  have hl := lv_entry av hlen
  rw [hlv] at hl
  rw [lg_entry_eq]
  exact body p e s m below meth c _ ⟨B.exec, B.bytes, hml, hown, fun w h => hts w (List.mem_cons_of_mem _ h), hK, hE⟩ B.returns B.notSynchronized ⟨hP, hz, va_S.rf, hRf⟩ hl
def ush (x y : Int32) : Int32 := (x.toUInt32 >>> (y.toUInt32 &&& Int32.toUInt32 31)).toInt32
theorem sw_out (x : Int32) (lo : Int) (n : Nat) (h0 : 0 ≤ lo) (h1 : lo + n < 2147483648) (h : ∀ j : Nat, j < n → x ≠ Int32.ofInt (lo + j)) : x.toInt < lo ∨ lo + n - 1 < x.toInt := by
  rcases Int.lt_or_le x.toInt lo with q | q
  · exact Or.inl q
  · rcases Int.lt_or_le (lo + n - 1) x.toInt with q2 | q2
    · exact Or.inr q2
    · exfalso
      refine h (x.toInt - lo).toNat (by omega) ?_
      have e : lo + ((x.toInt - lo).toNat : Int) = x.toInt := by omega
      rw [e]
      exact (Int32.ofInt_toInt x).symm
abbrev mxI (x y : Int32) : Int32 := if x < y then y else x
abbrev mnI (x y : Int32) : Int32 := if y < x then y else x
abbrev abI (x : Int32) : Int32 := if 0 ≤ x then x else 0 - x
theorem jc_nat : Cond.native arraycopyName ∈ lw_g := in_g (List.mem_of_getElem? (i := 847) (by decide +kernel)) rfl
theorem jc_sta : Cond.static arraycopyName ∈ lw_g := in_g (List.mem_of_getElem? (i := 846) (by decide +kernel)) rfl
theorem jc_ini : Cond.initialized "java/lang/System" ∈ lw_g := in_g (List.mem_of_getElem? (i := 123) (by decide +kernel)) rfl
theorem jm_ini : Cond.initialized "java/lang/Math" ∈ lw_g := in_g (List.mem_of_getElem? (i := 121) (by decide +kernel)) rfl
theorem jm_max_s : Cond.static Lib.Math.max.name ∈ lw_g := in_g (List.mem_of_getElem? (i := 659) (by decide +kernel)) rfl
theorem jm_min_s : Cond.static Lib.Math.min.name ∈ lw_g := in_g (List.mem_of_getElem? (i := 662) (by decide +kernel)) rfl
theorem jm_abs_s : Cond.static Lib.Math.abs.name ∈ lw_g := in_g (List.mem_of_getElem? (i := 1043) (by decide +kernel)) rfl
theorem jm_max_c : Cond.code Lib.Math.max.name Lib.Math.max.code 2 (some .int) ∈ lw_g := in_g (List.mem_of_getElem? (i := 660) (by decide +kernel)) rfl
theorem jm_min_c : Cond.code Lib.Math.min.name Lib.Math.min.code 2 (some .int) ∈ lw_g := in_g (List.mem_of_getElem? (i := 663) (by decide +kernel)) rfl
theorem jm_abs_c : Cond.code Lib.Math.abs.name Lib.Math.abs.code 1 (some .int) ∈ lw_g := in_g (List.mem_of_getElem? (i := 1044) (by decide +kernel)) rfl
section RRows
variable {p : Program} {l : Launch} {e : Env} {R : Room} {s : State} {m : MethodId} {args : Array Value} {below : List Frame} {meth : Method} {c : Code} {H : Heap} {locs : List Loc} {cells slots : Nat} {Q : State → Prop}
variable {cc : ByteArray} {pc : Nat} {ls : Array Slot} {rest : List Value} {own : String} {nL : Nat} {G : Gp} {σ : Mm}
theorem r_gi (X : Cx p s m args c cc nL own G) (hR : Rp G 212 tt σ s H locs) {id k ci index : Nat} (fk : FKi own index ci k) (hid : (kd id).1 = ci) (hdg : decode cc pc = .ok (.getfield index, 3))
    (kk : W p l e R s m args below meth c H locs cells slots Q (F0 m (pc + 3) ls (.int (gI σ id k) :: rest))) : W p l e R s m args below meth c H locs cells slots Q (F0 m pc ls (.ref (G.2.2 + id) :: rest)) :=
  q_gi X hR fk.1 fk.2 hid (kd_lt hid (by have := fk.1.1; omega)) hdg kk
theorem r_gs (X : Cx p s m args c cc nL own G) (hR : Rp G 212 tt σ s H locs) {id k ci index : Nat} (fk : FKr own index ci k) (hid : (kd id).1 = ci) {t : Nat} (ht : st id k = some t) (hdg : decode cc pc = .ok (.getfield index, 3))
    (kk : W p l e R s m args below meth c H locs cells slots Q (F0 m (pc + 3) ls (.ref (G.2.2 + t) :: rest))) : W p l e R s m args below meth c H locs cells slots Q (F0 m pc ls (.ref (G.2.2 + id) :: rest)) :=
  q_gr X hR fk.1 fk.2 hid (kd_lt hid (by have := fk.1.1; omega)) (hR.2.2.2 id k t rfl ht) hdg kk
theorem r_gd (X : Cx p s m args c cc nL own G) (hR : Rp G 212 tt σ s H locs) {id k ci index : Nat} (fk : FKr own index ci k) (hid : (kd id).1 = ci) {t : Nat} (ht : gR σ id k = some t) (hdg : decode cc pc = .ok (.getfield index, 3))
    (kk : W p l e R s m args below meth c H locs cells slots Q (F0 m (pc + 3) ls (.ref (G.2.2 + t) :: rest))) : W p l e R s m args below meth c H locs cells slots Q (F0 m pc ls (.ref (G.2.2 + id) :: rest)) :=
  q_gr X hR fk.1 fk.2 hid (kd_lt hid (by have := fk.1.1; omega)) ht hdg kk
theorem r_pi (X : Cx p s m args c cc nL own G) (hR : Rp G 212 tt σ s H locs) {id k ci index : Nat} (fp : FPi own index ci k) (hid : (kd id).1 = ci) {v : Int32} (hdg : decode cc pc = .ok (.putfield index, 3))
    (kk : ∀ (H1 : Heap) (locs1 : List Loc) (σ1 : Mm), σ1 = sI σ id k v → Rp G 212 tt σ1 s H1 locs1 → W p l e R s m args below meth c H1 locs1 cells slots Q (F0 m (pc + 3) ls rest)) : W p l e R s m args below meth c H locs cells slots Q (F0 m pc ls (.int v :: .ref (G.2.2 + id) :: rest)) :=
  q_pi X hR fp.1 fp.2 hid (kd_lt hid (by have := fp.1.1.1; omega)) hdg kk
theorem r_pz (X : Cx p s m args c cc nL own G) (hR : Rp G 212 tt σ s H locs) {id k ci index : Nat} (fp : FPz own index ci k) (hid : (kd id).1 = ci) {v : Int32} (hz : isZ v = true) (hdg : decode cc pc = .ok (.putfield index, 3))
    (kk : ∀ (H1 : Heap) (locs1 : List Loc) (σ1 : Mm), σ1 = sI σ id k v → Rp G 212 tt σ1 s H1 locs1 → W p l e R s m args below meth c H1 locs1 cells slots Q (F0 m (pc + 3) ls rest)) : W p l e R s m args below meth c H locs cells slots Q (F0 m pc ls (.int v :: .ref (G.2.2 + id) :: rest)) :=
  q_pz X hR fp.1 fp.2 hid (kd_lt hid (by have := fp.1.1.1; omega)) (isZ_n hz) (isZ_f hz) hdg kk
theorem r_pr (X : Cx p s m args c cc nL own G) (hR : Rp G 212 tt σ s H locs) {id k ci index : Nat} {C : String} (fp : FPr own index ci k C) (hid : (kd id).1 = ci) {t : Nat} (hst : st id k = none) (hdg : decode cc pc = .ok (.putfield index, 3))
    (kk : ∀ (H1 : Heap) (locs1 : List Loc) (σ1 : Mm), σ1 = sR σ id k (some t) → Rp G 212 tt σ1 s H1 locs1 → W p l e R s m args below meth c H1 locs1 cells slots Q (F0 m (pc + 3) ls rest)) : W p l e R s m args below meth c H locs cells slots Q (F0 m pc ls (.ref (G.2.2 + t) :: .ref (G.2.2 + id) :: rest)) :=
  q_pr X hR fp.1 fp.2 hid (kd_lt hid (by have := fp.1.1.1; omega)) hst hdg kk
theorem r_ial (X : Cx p s m args c cc nL own G) (hR : Rp G 212 tt σ s H locs) {id len : Nat} (hk : kd id = (13, len)) {i : Int32} (hin : inB i len = true) (hdg : decode cc pc = .ok (.iaload, 1))
    (kk : W p l e R s m args below meth c H locs cells slots Q (F0 m (pc + 1) ls (.int (gI σ id (ix i)) :: rest))) : W p l e R s m args below meth c H locs cells slots Q (F0 m pc ls (.int i :: .ref (G.2.2 + id) :: rest)) :=
  q_ial X hR hk (kd_ltA hk (by decide)) (inB_in hin) hdg kk
theorem r_bal (X : Cx p s m args c cc nL own G) (hR : Rp G 212 tt σ s H locs) {id len : Nat} (hk : kd id = (12, len)) {i : Int32} (hin : inB i len = true) (hdg : decode cc pc = .ok (.baload, 1))
    (kk : W p l e R s m args below meth c H locs cells slots Q (F0 m (pc + 1) ls (.int (gI σ id (ix i)) :: rest))) : W p l e R s m args below meth c H locs cells slots Q (F0 m pc ls (.int i :: .ref (G.2.2 + id) :: rest)) :=
  q_bal X hR hk (kd_ltA hk (by decide)) (inB_in hin) hdg kk
theorem r_zal (X : Cx p s m args c cc nL own G) (hR : Rp G 212 tt σ s H locs) {id len : Nat} (hk : kd id = (15, len)) {i : Int32} (hin : inB i len = true) (hdg : decode cc pc = .ok (.baload, 1))
    (kk : W p l e R s m args below meth c H locs cells slots Q (F0 m (pc + 1) ls (.int (gI σ id (ix i)) :: rest))) : W p l e R s m args below meth c H locs cells slots Q (F0 m pc ls (.int i :: .ref (G.2.2 + id) :: rest)) :=
  q_zal X hR hk (kd_ltA hk (by decide)) (inB_in hin) hdg kk
theorem r_lal (X : Cx p s m args c cc nL own G) (hR : Rp G 212 tt σ s H locs) {id len : Nat} (hk : kd id = (14, len)) {i : Int32} (hin : inB i len = true) (hdg : decode cc pc = .ok (.laload, 1))
    (kk : W p l e R s m args below meth c H locs cells slots Q (F0 m (pc + 1) ls (.long (gL σ id (ix i)) :: rest))) : W p l e R s m args below meth c H locs cells slots Q (F0 m pc ls (.int i :: .ref (G.2.2 + id) :: rest)) :=
  q_lal X hR hk (kd_ltA hk (by decide)) (inB_in hin) hdg kk
theorem r_aal (X : Cx p s m args c cc nL own G) (hR : Rp G 212 tt σ s H locs) {id len : Nat} (hk : kd id = (17, len) ∨ kd id = (16, len)) {i : Int32} (hin : inB i len = true) {t : Nat} (ht : st id (ix i) = some t) (hdg : decode cc pc = .ok (.aaload, 1))
    (kk : W p l e R s m args below meth c H locs cells slots Q (F0 m (pc + 1) ls (.ref (G.2.2 + t) :: rest))) : W p l e R s m args below meth c H locs cells slots Q (F0 m pc ls (.int i :: .ref (G.2.2 + id) :: rest)) :=
  q_aal X hR hk (hk.elim (fun h => kd_ltA h (by decide)) (fun h => kd_ltA h (by decide))) (inB_in hin) (hR.2.2.2 id _ t rfl ht) hdg kk
theorem r_len (X : Cx p s m args c cc nL own G) (hR : Rp G 212 tt σ s H locs) {id t len : Nat} (hk : kd id = (t, len)) (ht : 12 ≤ t ∧ t < 16) {v : Int32} (hv : Int32.ofNat len = v) (hdg : decode cc pc = .ok (.arraylength, 1))
    (kk : W p l e R s m args below meth c H locs cells slots Q (F0 m (pc + 1) ls (.int v :: rest))) : W p l e R s m args below meth c H locs cells slots Q (F0 m pc ls (.ref (G.2.2 + id) :: rest)) :=
  q_len X hR hk ht (kd_ltA hk (by omega)) hv hdg kk
theorem r_ias (X : Cx p s m args c cc nL own G) (hR : Rp G 212 tt σ s H locs) {id len : Nat} (hk : kd id = (13, len)) {i x : Int32} (hin : inB i len = true) (hdg : decode cc pc = .ok (.iastore, 1))
    (kk : ∀ (H1 : Heap) (locs1 : List Loc) (σ1 : Mm), σ1 = sI σ id (ix i) x → Rp G 212 tt σ1 s H1 locs1 → W p l e R s m args below meth c H1 locs1 cells slots Q (F0 m (pc + 1) ls rest)) : W p l e R s m args below meth c H locs cells slots Q (F0 m pc ls (.int x :: .int i :: .ref (G.2.2 + id) :: rest)) :=
  q_ias X hR hk (kd_ltA hk (by decide)) (inB_in hin) hdg kk
theorem r_bas (X : Cx p s m args c cc nL own G) (hR : Rp G 212 tt σ s H locs) {id len : Nat} (hk : kd id = (12, len)) {i x : Int32} (hin : inB i len = true) (hdg : decode cc pc = .ok (.bastore, 1))
    (kk : ∀ (H1 : Heap) (locs1 : List Loc) (σ1 : Mm), σ1 = sI σ id (ix i) (vp_nar .byte x) → Rp G 212 tt σ1 s H1 locs1 → W p l e R s m args below meth c H1 locs1 cells slots Q (F0 m (pc + 1) ls rest)) : W p l e R s m args below meth c H locs cells slots Q (F0 m pc ls (.int x :: .int i :: .ref (G.2.2 + id) :: rest)) :=
  q_bas X hR hk (kd_ltA hk (by decide)) (inB_in hin) hdg kk
theorem r_zas (X : Cx p s m args c cc nL own G) (hR : Rp G 212 tt σ s H locs) {id len : Nat} (hk : kd id = (15, len)) {i x : Int32} (hin : inB i len = true) (hdg : decode cc pc = .ok (.bastore, 1))
    (kk : ∀ (H1 : Heap) (locs1 : List Loc) (σ1 : Mm), σ1 = sI σ id (ix i) (vp_nar .boolean x) → Rp G 212 tt σ1 s H1 locs1 → W p l e R s m args below meth c H1 locs1 cells slots Q (F0 m (pc + 1) ls rest)) : W p l e R s m args below meth c H locs cells slots Q (F0 m pc ls (.int x :: .int i :: .ref (G.2.2 + id) :: rest)) :=
  q_zas X hR hk (kd_ltA hk (by decide)) (inB_in hin) hdg kk
theorem r_las (X : Cx p s m args c cc nL own G) (hR : Rp G 212 tt σ s H locs) {id len : Nat} (hk : kd id = (14, len)) {i : Int32} {x : Int64} (hin : inB i len = true) (hdg : decode cc pc = .ok (.lastore, 1))
    (kk : ∀ (H1 : Heap) (locs1 : List Loc) (σ1 : Mm), σ1 = sL σ id (ix i) x → Rp G 212 tt σ1 s H1 locs1 → W p l e R s m args below meth c H1 locs1 cells slots Q (F0 m (pc + 1) ls rest)) : W p l e R s m args below meth c H locs cells slots Q (F0 m pc ls (.long x :: .int i :: .ref (G.2.2 + id) :: rest)) :=
  q_las X hR hk (kd_ltA hk (by decide)) (inB_in hin) hdg kk
theorem r_cpy (X : Cx p s m args c cc nL own G) (hR : Rp G 212 tt σ s H locs) {i j len : Nat} (hi : kd i = (13, len)) (hj : kd j = (13, len)) {nn : Int32} (hn : ¬ nn < 0) (hlen : nn.toNatClampNeg ≤ len) (hls : ls.size = nL) {index : Nat} (hl : Cond.methodLink own index arraycopyName ∈ lw_g) (hframes : 1 ≤ R.frames) (hlocals : (rest.map fun v => v.category).sum + (nativeFrameWords "java/lang/System" "arraycopy" 5 + 11) ≤ R.locals) (hdg : decode cc pc = .ok (.invokestatic index, 3))
    (kk : ∀ (H1 : Heap) (locs1 : List Loc) (σ1 : Mm), σ1 = sIr σ j (va_cpy (σ.1 i) (σ.1 j) 0 0 nn.toNatClampNeg) → Rp G 212 tt σ1 s H1 locs1 → W p l e R s m args below meth c H1 locs1 cells slots Q (F0 m (pc + 3) ls rest)) : W p l e R s m args below meth c H locs cells slots Q (F0 m pc ls (.int nn :: .int 0 :: .ref (G.2.2 + j) :: .int 0 :: .ref (G.2.2 + i) :: rest)) := by
  obtain ⟨hx, hb, hml, hown, hts, hK, hE⟩ := X
  obtain ⟨hP, hz, hS0, hRf⟩ := hR
  have hD := wld_D G 212 σ
  have ni := kd_ltA hi (by decide)
  have nj := kd_ltA hj (by decide)
  have z0 : (0 : Int32).toNatClampNeg = 0 := rfl
  refine va_copyi (D := G.1) (cl := vwCl) (ws := wld G 212 σ) (tys := tyl G) (A := Fr G) hx hb (by rw [hml, hls]) hown (hts _ hl) (hts _ jc_nat) (hts _ jc_sta) (hts _ jc_ini) hK hP hD hS0 i j 1 1 (by rw [wld_get G σ ni, cellE_int hi]) (by rw [wld_get G σ nj, cellE_int hj]) rfl rfl rfl (by decide) (by decide) hn (by rw [z0]; omega) (by rw [z0]; omega) (fun _ _ => rfl) hframes hlocals hdg (fun H1 locs1 h1 h2 h3 => ?_)
  refine kk H1 locs1 _ rfl ⟨?_, fun h => absurd h (by decide), h3, Rf_sIr hRf⟩
  rw [← wld_set (E := .inl (G.2.1 1, len, .inl (va_cpy (σ.1 i) (σ.1 j) 0 0 nn.toNatClampNeg))) (by rw [cellE_int hj]; simp [sIr]) sIr_ne]
  exact h1
end RRows
