def kdT : List (Nat × Nat) := [(10, 0), (12, 2000), (9, 0), (13, 401), (13, 401), (14, 401), (14, 22), (3, 0), (13, 7), (13, 7), (13, 7), (13, 7), (13, 7), (1, 0), (13, 20), (13, 20), (13, 20), (13, 20), (13, 20), (4, 0), (13, 416), (13, 416), (13, 4), (13, 28), (14, 20), (13, 20), (13, 20), (3, 0), (13, 7), (13, 7), (13, 7), (13, 7), (13, 7), (1, 0), (13, 20), (13, 20), (13, 20), (13, 20), (13, 20), (4, 0), (13, 416), (13, 416), (13, 4), (13, 28), (14, 20), (13, 20), (13, 20), (2, 0), (13, 21), (8, 0), (1, 0), (13, 20), (13, 20), (13, 20), (13, 20), (13, 20), (5, 0), (13, 7), (5, 0), (13, 7), (0, 0), (13, 9), (13, 9), (13, 9), (13, 9), (13, 6), (7, 0), (13, 49), (13, 7), (13, 896), (6, 0), (17, 30), (17, 3), (16, 3), (5, 0), (13, 7), (5, 0), (13, 7), (5, 0), (13, 7), (5, 0), (13, 7), (5, 0), (13, 7), (5, 0), (13, 7), (5, 0), (13, 7), (5, 0), (13, 7), (5, 0), (13, 7), (5, 0), (13, 7), (5, 0), (13, 7), (5, 0), (13, 7), (5, 0), (13, 7), (5, 0), (13, 7), (5, 0), (13, 7), (5, 0), (13, 7), (5, 0), (13, 7), (5, 0), (13, 7), (5, 0), (13, 7), (5, 0), (13, 7), (5, 0), (13, 7), (5, 0), (13, 7), (5, 0), (13, 7), (5, 0), (13, 7), (5, 0), (13, 7), (5, 0), (13, 7), (5, 0), (13, 7), (5, 0), (13, 7), (5, 0), (13, 7), (5, 0), (13, 7), (5, 0), (13, 7), (1, 0), (13, 20), (13, 20), (13, 20), (13, 20), (13, 20), (5, 0), (13, 7), (1, 0), (13, 20), (13, 20), (13, 20), (13, 20), (13, 20), (5, 0), (13, 7), (1, 0), (13, 20), (13, 20), (13, 20), (13, 20), (13, 20), (13, 20), (13, 61), (11, 0), (12, 2000), (12, 2000), (13, 403), (13, 403), (13, 403), (14, 403), (14, 22), (14, 20), (13, 20), (13, 2), (13, 2), (13, 14), (13, 14), (13, 14), (13, 2), (13, 14), (13, 14), (13, 2), (13, 24), (13, 24), (13, 24), (13, 24), (13, 24), (13, 2), (13, 2), (13, 8), (13, 8), (15, 260), (13, 260), (13, 260), (13, 260), (13, 260), (13, 840), (13, 840), (13, 64), (13, 9), (13, 400), (13, 117), (13, 117), (13, 7), (15, 20), (15, 20), (13, 3510), (13, 7), (13, 896), (13, 49), (13, 7), (13, 20), (13, 20), (15, 3), (13, 351)]
def stc (ci k : Nat) : Option (Bool × Nat) := match ci, k with
  | 0, 0 => some (false, 50)
  | 0, 2 => some (true, 1)
  | 0, 3 => some (true, 2)
  | 0, 4 => some (true, 3)
  | 0, 5 => some (true, 4)
  | 0, 6 => some (true, 5)
  | 1, 0 => some (true, 1)
  | 1, 1 => some (true, 2)
  | 1, 2 => some (true, 3)
  | 1, 3 => some (true, 4)
  | 1, 4 => some (true, 5)
  | 2, 0 => some (false, 2)
  | 2, 7 => some (true, 1)
  | 3, 6 => some (true, 1)
  | 3, 7 => some (true, 2)
  | 3, 8 => some (true, 3)
  | 3, 9 => some (true, 4)
  | 3, 10 => some (true, 5)
  | 3, 11 => some (true, 6)
  | 3, 12 => some (true, 12)
  | 3, 13 => some (true, 17)
  | 3, 14 => some (true, 18)
  | 3, 15 => some (true, 19)
  | 4, 0 => some (true, 1)
  | 4, 1 => some (true, 2)
  | 4, 3 => some (true, 3)
  | 4, 4 => some (true, 4)
  | 5, 4 => some (true, 1)
  | 6, 0 => some (true, 1)
  | 6, 3 => some (true, 2)
  | 6, 4 => some (true, 3)
  | 7, 0 => some (true, 1)
  | 7, 1 => some (true, 2)
  | 7, 2 => some (true, 3)
  | 8, 0 => some (false, 2)
  | 9, 0 => some (true, 1)
  | 9, 1 => some (true, 2)
  | 9, 2 => some (true, 3)
  | 9, 3 => some (true, 4)
  | 10, 0 => some (true, 1)
  | 10, 2 => some (true, 2)
  | 10, 5 => some (true, 47)
  | 10, 6 => some (true, 49)
  | 10, 7 => some (true, 50)
  | 10, 8 => some (true, 56)
  | 10, 9 => some (true, 58)
  | 10, 10 => some (true, 60)
  | 10, 11 => some (true, 66)
  | 10, 12 => some (true, 70)
  | 10, 13 => some (true, 158)
  | 10, 16 => some (true, 159)
  | 11, 1 => some (true, 1)
  | 11, 3 => some (true, 2)
  | 11, 5 => some (true, 3)
  | 11, 6 => some (true, 4)
  | 11, 7 => some (true, 5)
  | 11, 8 => some (true, 6)
  | 11, 9 => some (true, 7)
  | 11, 21 => some (true, 8)
  | 11, 22 => some (true, 9)
  | 11, 23 => some (true, 10)
  | 11, 24 => some (true, 11)
  | 11, 25 => some (true, 12)
  | 11, 26 => some (true, 13)
  | 11, 27 => some (true, 14)
  | 11, 28 => some (true, 15)
  | 11, 29 => some (true, 16)
  | 11, 30 => some (true, 17)
  | 11, 31 => some (true, 18)
  | 11, 32 => some (true, 19)
  | 11, 33 => some (true, 20)
  | 11, 34 => some (true, 21)
  | 11, 35 => some (true, 22)
  | 11, 36 => some (true, 23)
  | 11, 37 => some (true, 24)
  | 11, 38 => some (true, 25)
  | 11, 39 => some (true, 26)
  | 11, 40 => some (true, 27)
  | 11, 42 => some (true, 28)
  | 11, 43 => some (true, 29)
  | 11, 44 => some (true, 30)
  | 11, 45 => some (true, 31)
  | 11, 46 => some (true, 32)
  | 11, 48 => some (true, 33)
  | 11, 49 => some (true, 34)
  | 11, 50 => some (true, 35)
  | 11, 52 => some (true, 36)
  | 11, 53 => some (true, 37)
  | 11, 55 => some (true, 38)
  | 11, 56 => some (true, 39)
  | 11, 60 => some (true, 40)
  | 11, 61 => some (true, 41)
  | 11, 62 => some (true, 42)
  | 11, 64 => some (true, 43)
  | 11, 65 => some (true, 44)
  | 11, 66 => some (true, 45)
  | 11, 67 => some (true, 46)
  | 11, 68 => some (true, 47)
  | 11, 70 => some (true, 48)
  | 11, 71 => some (true, 49)
  | 11, 72 => some (true, 50)
  | 11, 73 => some (true, 51)
  | _, _ => none
-- THE MEMORY: ints, longs, references (by the numbers of cells); cells are numbered in the order in which they are made
abbrev Mm : Type := (Nat → Nat → Int32) × (Nat → Nat → Int64) × (Nat → Nat → Option Nat)
def gI (σ : Mm) (a k : Nat) : Int32 := σ.1 a k
def gL (σ : Mm) (a k : Nat) : Int64 := σ.2.1 a k
def gR (σ : Mm) (a k : Nat) : Option Nat := σ.2.2 a k
def sI (σ : Mm) (a k : Nat) (v : Int32) : Mm := (fun b => if b = a then upd (σ.1 b) k v else σ.1 b, σ.2)
def sL (σ : Mm) (a k : Nat) (v : Int64) : Mm := (σ.1, fun b => if b = a then vp_updL (σ.2.1 b) k v else σ.2.1 b, σ.2.2)
def sR (σ : Mm) (a k : Nat) (v : Option Nat) : Mm := (σ.1, σ.2.1, fun b => if b = a then va_up (σ.2.2 b) k v else σ.2.2 b)
/-- a row of ints as a whole -/
def sIr (σ : Mm) (a : Nat) (f : Nat → Int32) : Mm := (fun b => if b = a then f else σ.1 b, σ.2)
-- class numbers, array classes, the first address
abbrev Gp : Type := va_G × (Nat → ClassId) × Nat
def clC : Nat → String | 0 => RX0 | 1 => RX1 | 2 => RX2 | 3 => RX3 | 4 => RX4 | 5 => RX5 | 6 => RX6 | 7 => RX7 | 8 => RX8 | 9 => RX9 | 10 => RX10 | _ => RX11
def clT : Nat → u_T | 0 => TX0 | 1 => TX1 | 2 => TX2 | 3 => TX3 | 4 => TX4 | 5 => TX5 | 6 => TX6 | 7 => TX7 | 8 => TX8 | 9 => TX9 | 10 => TX10 | _ => TX11
def clN : Nat → Nat | 0 => 7 | 1 => 5 | 2 => 10 | 3 => 17 | 4 => 5 | 5 => 5 | 6 => 6 | 7 => 3 | 8 => 3 | 9 => 6 | 10 => 17 | _ => 74
def clTy : Nat → Nat → FieldType | 0 => tyX0 | 1 => tyX1 | 2 => tyX2 | 3 => tyX3 | 4 => tyX4 | 5 => tyX5 | 6 => tyX6 | 7 => tyX7 | 8 => tyX8 | 9 => tyX9 | 10 => tyX10 | _ => tyX11
def isRf (ci k : Nat) : Bool := !((clT ci k).2.2.1 == "I" || (clT ci k).2.2.1 == "Z")
theorem cl12 {P : Nat → Prop} (h0 : P 0) (h1 : P 1) (h2 : P 2) (h3 : P 3) (h4 : P 4) (h5 : P 5) (h6 : P 6) (h7 : P 7) (h8 : P 8) (h9 : P 9) (h10 : P 10) (h11 : P 11) {ci : Nat} (h : ci < 12) : P ci := by
  rcases (show ci = 0 ∨ ci = 1 ∨ ci = 2 ∨ ci = 3 ∨ ci = 4 ∨ ci = 5 ∨ ci = 6 ∨ ci = 7 ∨ ci = 8 ∨ ci = 9 ∨ ci = 10 ∨ ci = 11 by omega) with rfl | rfl | rfl | rfl | rfl | rfl | rfl | rfl | rfl | rfl | rfl | rfl <;> assumption
theorem vw_at {ci : Nat} (h : ci < 12) : vwCl[ci]? = some (clC ci, clT ci, clN ci) := cl12 (P := fun ci => vwCl[ci]? = some (clC ci, clT ci, clN ci)) rfl rfl rfl rfl rfl rfl rfl rfl rfl rfl rfl rfl h
/-- the tables' words that stay -/
def lw_g : List Cond := lw_tbl.filter goodWord
theorem in_g {w : Cond} (h : w ∈ lw_tbl) (hg : goodWord w = true) : w ∈ lw_g := List.mem_filter.mpr ⟨h, hg⟩
theorem in_gs {ws : List Cond} (h : ∀ w ∈ ws, w ∈ lw_tbl) (hg : ws.all goodWord = true) : ∀ w ∈ ws, w ∈ lw_g := fun w hw => in_g (h w hw) (List.all_eq_true.mp hg w hw)
theorem cl_in {ci : Nat} (h : ci < 12) : ∀ w ∈ u_ws (clC ci) (clT ci) (clN ci), w ∈ lw_g := cl12 (P := fun ci => ∀ w ∈ u_ws (clC ci) (clT ci) (clN ci), w ∈ lw_g) (in_gs inX0 (by decide +kernel)) (in_gs inX1 (by decide +kernel)) (in_gs inX2 (by decide +kernel)) (in_gs inX3 (by decide +kernel)) (in_gs inX4 (by decide +kernel)) (in_gs inX5 (by decide +kernel)) (in_gs inX6 (by decide +kernel)) (in_gs inX7 (by decide +kernel)) (in_gs inX8 (by decide +kernel)) (in_gs inX9 (by decide +kernel)) (in_gs inX10 (by decide +kernel)) (in_gs inX11 (by decide +kernel)) h
theorem cl_ty {ci : Nat} (h : ci < 12) : ∀ k, k < clN ci → parseFieldDescriptor (clT ci k).2.2.1 = some (clTy ci k) := cl12 (P := fun ci => ∀ k, k < clN ci → parseFieldDescriptor (clT ci k).2.2.1 = some (clTy ci k)) tyX0_ok tyX1_ok tyX2_ok tyX3_ok tyX4_ok tyX5_ok tyX6_ok tyX7_ok tyX8_ok tyX9_ok tyX10_ok tyX11_ok h
theorem cl_nm {ci : Nat} (h : ci < 12) : ∀ a, a < clN ci → ∀ b, b < clN ci → a ≠ b → (clT ci a).2.1 ≠ (clT ci b).2.1 := cl12 (P := fun ci => ∀ a, a < clN ci → ∀ b, b < clN ci → a ≠ b → (clT ci a).2.1 ≠ (clT ci b).2.1) nmX0 nmX1 nmX2 nmX3 nmX4 nmX5 nmX6 nmX7 nmX8 nmX9 nmX10 nmX11 h
-- arrays: kind 12 byte, 13 int, 14 long, 15 boolean, 16 Givings, 17 Moment
def tyl (G : Gp) : List (ClassId × FieldType) := [(G.2.1 0, .byte), (G.2.1 1, .int), (G.2.1 2, .long), (G.2.1 3, .boolean), (G.2.1 4, .object RX1), (G.2.1 5, .object RX5)]
def kd (id : Nat) : Nat × Nat := kdT.getD id (99, 0)
def rfv (G : Gp) (r : Option Nat) : Value := va_rf (r.map (fun i => G.2.2 + i))
def fsE (G : Gp) (σ : Mm) (id ci : Nat) : List Value := (List.range (clN ci)).map (fun k => if isRf ci k = true then rfv G (gR σ id k) else .int (gI σ id k))
def cellE (G : Gp) (σ : Mm) (id : Nat) : va_E :=
  if (kd id).1 < 12 then .inr ((kd id).1, fsE G σ id (kd id).1)
  else if (kd id).1 = 14 then .inl (G.2.1 2, (kd id).2, .inr (.inl (σ.2.1 id)))
  else if (kd id).1 < 16 then .inl (G.2.1 ((kd id).1 - 12), (kd id).2, .inl (σ.1 id))
  else .inl (G.2.1 ((kd id).1 - 12), (kd id).2, .inr (.inr (.inr (.inr (fun j => (gR σ id j).map (fun i => G.2.2 + i))))))
def wld (G : Gp) (n : Nat) (σ : Mm) : va_W := (List.range n).map (fun id => (G.2.2 + id, cellE G σ id))
theorem rg_get {α : Type} (g : Nat → α) {n id : Nat} (h : id < n) : ((List.range n).map g)[id]? = some (g id) := by simp [h]
theorem rg_set {α : Type} (g : Nat → α) (n id : Nat) (x : α) : ((List.range n).map g).set id x = (List.range n).map (fun j => if j = id then x else g j) := by
  apply List.ext_getElem?
  intro i
  rw [List.getElem?_set]
  by_cases h1 : id = i
  · subst h1
    by_cases h2 : id < n
    · simp [h2]
    · simp [h2]
  · by_cases h2 : i < n
    · have h3 : ¬ i = id := fun h3 => h1 h3.symm
      simp [h1, h2, h3]
    · simp [h1, h2]
theorem rg_congr {α : Type} {f g : Nat → α} {n : Nat} (h : ∀ j, j < n → f j = g j) : (List.range n).map f = (List.range n).map g := List.map_congr_left fun a ha => h a (List.mem_range.mp ha)
def Fr (G : Gp) : Nat → Prop := fun q => G.2.2 ≤ q
theorem wld_D (G : Gp) (n : Nat) (σ : Mm) : va_D (Fr G) (wld G n σ) := by
  have key : ∀ (k : Nat) (q : Nat × va_E), (wld G n σ)[k]? = some q → q.1 = G.2.2 + k := by
    intro k q hk
    by_cases h : k < n
    · rw [wld, rg_get _ h] at hk
      cases hk
      rfl
    · simp [wld, h] at hk
  refine ⟨fun i j x y hi hj hxy => ?_, fun k q hk => ?_⟩
  · rw [key i x hi, key j y hj] at hxy
    omega
  · show G.2.2 ≤ q.1
    rw [key k q hk]
    omega
theorem wld_get (G : Gp) {n : Nat} (σ : Mm) {id : Nat} (h : id < n) : (wld G n σ)[id]? = some (G.2.2 + id, cellE G σ id) := rg_get _ h
theorem cellE_obj {G : Gp} {σ : Mm} {id ci : Nat} (h : (kd id).1 = ci) (hc : ci < 12) : cellE G σ id = .inr (ci, fsE G σ id ci) := by
  subst h
  unfold cellE
  rw [if_pos hc]
theorem cellE_int {G : Gp} {σ : Mm} {id len : Nat} (h : kd id = (13, len)) : cellE G σ id = .inl (G.2.1 1, len, .inl (σ.1 id)) := by
  unfold cellE; rw [h]; rfl
theorem cellE_byte {G : Gp} {σ : Mm} {id len : Nat} (h : kd id = (12, len)) : cellE G σ id = .inl (G.2.1 0, len, .inl (σ.1 id)) := by
  unfold cellE; rw [h]; rfl
theorem cellE_bool {G : Gp} {σ : Mm} {id len : Nat} (h : kd id = (15, len)) : cellE G σ id = .inl (G.2.1 3, len, .inl (σ.1 id)) := by
  unfold cellE; rw [h]; rfl
theorem cellE_long {G : Gp} {σ : Mm} {id len : Nat} (h : kd id = (14, len)) : cellE G σ id = .inl (G.2.1 2, len, .inr (.inl (σ.2.1 id))) := by
  unfold cellE; rw [h]; rfl
theorem cellE_refG {G : Gp} {σ : Mm} {id len : Nat} (h : kd id = (16, len)) : cellE G σ id = .inl (G.2.1 4, len, .inr (.inr (.inr (.inr (fun j => (gR σ id j).map (fun i => G.2.2 + i)))))) := by
  unfold cellE; rw [h]; rfl
theorem cellE_refM {G : Gp} {σ : Mm} {id len : Nat} (h : kd id = (17, len)) : cellE G σ id = .inl (G.2.1 5, len, .inr (.inr (.inr (.inr (fun j => (gR σ id j).map (fun i => G.2.2 + i)))))) := by
  unfold cellE; rw [h]; rfl
theorem cellE_eq {G : Gp} {σ τ : Mm} {id : Nat} (h1 : σ.1 id = τ.1 id) (h2 : σ.2.1 id = τ.2.1 id) (h3 : σ.2.2 id = τ.2.2 id) : cellE G σ id = cellE G τ id := by
  have e1 : ∀ k, gI σ id k = gI τ id k := fun k => congrFun h1 k
  have e3 : ∀ k, gR σ id k = gR τ id k := fun k => congrFun h3 k
  unfold cellE fsE
  simp only [h1, h2, e1, e3]
theorem fs_get {G : Gp} {σ : Mm} {id ci k : Nat} (h : k < clN ci) : (fsE G σ id ci)[k]? = some (if isRf ci k = true then rfv G (gR σ id k) else .int (gI σ id k)) := rg_get _ h
theorem fs_len {G : Gp} {σ : Mm} {id ci : Nat} : (fsE G σ id ci).length = clN ci := by simp [fsE]
theorem fs_setI {G : Gp} {σ : Mm} {id ci k : Nat} {v : Int32} (hf : isRf ci k = false) : (fsE G σ id ci).set k (.int v) = fsE G (sI σ id k v) id ci := by
  unfold fsE
  rw [rg_set]
  refine rg_congr fun j hj => ?_
  by_cases h : j = k
  · subst h
    simp [hf, gI, sI, upd]
  · simp [h, gI, sI, upd, gR]
theorem fs_setR {G : Gp} {σ : Mm} {id ci k : Nat} {v : Option Nat} (hf : isRf ci k = true) : (fsE G σ id ci).set k (rfv G v) = fsE G (sR σ id k v) id ci := by
  unfold fsE
  rw [rg_set]
  refine rg_congr fun j hj => ?_
  by_cases h : j = k
  · subst h
    simp [hf, gR, sR, va_up]
  · simp [h, gI, sR, va_up, gR]
/-- a cell is changed: the world behind it -/
theorem wld_set {G : Gp} {n : Nat} {σ τ : Mm} {id : Nat} {E : va_E} (h : cellE G τ id = E) (ho : ∀ j, j ≠ id → cellE G τ j = cellE G σ j) : (wld G n σ).set id (G.2.2 + id, E) = wld G n τ := by
  unfold wld
  rw [rg_set]
  refine rg_congr fun j _ => ?_
  by_cases hj : j = id
  · subst hj
    simp [h]
  · simp [hj, ho j hj]
theorem sI_ne {G : Gp} {σ : Mm} {id k : Nat} {v : Int32} : ∀ j, j ≠ id → cellE G (sI σ id k v) j = cellE G σ j := fun j h => cellE_eq (by simp [sI, h]) rfl rfl
theorem sL_ne {G : Gp} {σ : Mm} {id k : Nat} {v : Int64} : ∀ j, j ≠ id → cellE G (sL σ id k v) j = cellE G σ j := fun j h => cellE_eq rfl (by simp [sL, h]) rfl
theorem sR_ne {G : Gp} {σ : Mm} {id k : Nat} {v : Option Nat} : ∀ j, j ≠ id → cellE G (sR σ id k v) j = cellE G σ j := fun j h => cellE_eq rfl rfl (by simp [sR, h])
theorem sIr_ne {G : Gp} {σ : Mm} {id : Nat} {f : Nat → Int32} : ∀ j, j ≠ id → cellE G (sIr σ id f) j = cellE G σ j := fun j h => cellE_eq (by simp [sIr, h]) rfl rfl
theorem kd_lt {id ci : Nat} (h : (kd id).1 = ci) (hc : ci < 18) : id < 212 := by
  rcases Nat.lt_or_ge id 212 with q | q
  · exact q
  · exfalso
    have hl : kdT.length = 212 := rfl
    have : kd id = (99, 0) := by unfold kd; rw [List.getD_eq_getElem?_getD, List.getElem?_eq_none (by omega)]; rfl
    rw [this] at h
    simp at h
    omega
theorem kd_ltA {id t len : Nat} (h : kd id = (t, len)) (hc : t < 18) : id < 212 := kd_lt (congrArg Prod.fst h) hc
def tt : Nat → Bool := fun _ => true
/-- static references -/
def st (id k : Nat) : Option Nat := if id = 71 then (if k < 30 then some (74 + 2 * k) else none) else if id = 72 then (if k < 3 then some (134 + 8 * k) else none) else if id = 73 then (if k < 3 then some (136 + 8 * k) else none) else
  match stc (kd id).1 k with
  | some (true, o) => some (id + o)
  | some (false, a) => some a
  | none => none
def FK (own : String) (index ci k : Nat) : Prop := ci < 12 ∧ k < clN ci ∧ Cond.fieldLink own index (clC ci) (clT ci k).2.1 (clT ci k).2.2.1 ∈ lw_g ∧ (clT ci k).1 = clC ci
def FP (own : String) (index ci k : Nat) (ty : FieldType) : Prop := FK own index ci k ∧ (clT ci k).2.2.2 = false ∧ clTy ci k = ty
def inB (i : Int32) (n : Nat) : Bool := !(decide (i < 0) || decide (n ≤ i.toNatClampNeg))
abbrev ix (i : Int32) : Nat := i.toNatClampNeg
theorem inB_in {i : Int32} {n : Nat} (h : inB i n = true) : vp_in i n := by
  unfold inB at h
  unfold vp_in
  simpa using h
/-- a call's words: an instance method of class number ci -/
def MV (own : String) (index ci : Nat) (y : MethodName) (cc : ByteArray) (nL : Nat) (ret : Option FieldType) (na : Nat) : Prop :=
  Cond.methodLink own index y ∈ lw_g ∧ Cond.instanceMethod y ∈ lw_g ∧ Cond.selects (clC ci) y y ∈ lw_g ∧ Cond.initialized (clC ci) ∈ lw_g ∧ Cond.code y cc nL ret ∈ lw_g ∧ ci < 12 ∧
  (y.cls = clC ci ∧ y.cls ≠ "java/lang/invoke/MethodHandle" ∧ y.cls ≠ "java/lang/invoke/VarHandle" ∧ (parseMethodDescriptor y.desc).map (fun d => d.parameters.length) = some na)
def MS (own : String) (index : Nat) (y : MethodName) (cc : ByteArray) (nL : Nat) (ret : Option FieldType) (na : Nat) : Prop :=
  Cond.methodLink own index y ∈ lw_g ∧ Cond.static y ∈ lw_g ∧ Cond.initialized y.cls ∈ lw_g ∧ Cond.code y cc nL ret ∈ lw_g ∧
  (y.cls ≠ "java/lang/invoke/MethodHandle" ∧ y.cls ≠ "java/lang/invoke/VarHandle" ∧ (parseMethodDescriptor y.desc).map (fun d => d.parameters.length) = some na)
def FKi (own : String) (index ci k : Nat) : Prop := FK own index ci k ∧ isRf ci k = false
def FKr (own : String) (index ci k : Nat) : Prop := FK own index ci k ∧ isRf ci k = true
def FPi (own : String) (index ci k : Nat) : Prop := FP own index ci k .int ∧ isRf ci k = false
def FPz (own : String) (index ci k : Nat) : Prop := FP own index ci k .boolean ∧ isRf ci k = false
def FPr (own : String) (index ci k : Nat) (C : String) : Prop := FP own index ci k (.object C) ∧ isRf ci k = true
