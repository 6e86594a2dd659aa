def kdT : List (Nat × Nat) := [(10, 0), (12, 2000), (9, 0), (13, 401), (13, 401), (14, 401), (14, 22), (3, 0), (13, 7), (13, 7), (13, 7), (13, 7), (13, 7), (1, 0), (13, 20), (13, 20), (13, 20), (13, 20), (13, 20), (4, 0), (13, 416), (13, 416), (13, 4), (13, 28), (14, 20), (13, 20), (13, 20), (3, 0), (13, 7), (13, 7), (13, 7), (13, 7), (13, 7), (1, 0), (13, 20), (13, 20), (13, 20), (13, 20), (13, 20), (4, 0), (13, 416), (13, 416), (13, 4), (13, 28), (14, 20), (13, 20), (13, 20), (2, 0), (13, 21), (8, 0), (1, 0), (13, 20), (13, 20), (13, 20), (13, 20), (13, 20), (5, 0), (13, 7), (5, 0), (13, 7), (0, 0), (13, 9), (13, 9), (13, 9), (13, 9), (13, 6), (7, 0), (13, 49), (13, 7), (13, 896), (6, 0), (17, 30), (17, 3), (16, 3), (5, 0), (13, 7), (5, 0), (13, 7), (5, 0), (13, 7), (5, 0), (13, 7), (5, 0), (13, 7), (5, 0), (13, 7), (5, 0), (13, 7), (5, 0), (13, 7), (5, 0), (13, 7), (5, 0), (13, 7), (5, 0), (13, 7), (5, 0), (13, 7), (5, 0), (13, 7), (5, 0), (13, 7), (5, 0), (13, 7), (5, 0), (13, 7), (5, 0), (13, 7), (5, 0), (13, 7), (5, 0), (13, 7), (5, 0), (13, 7), (5, 0), (13, 7), (5, 0), (13, 7), (5, 0), (13, 7), (5, 0), (13, 7), (5, 0), (13, 7), (5, 0), (13, 7), (5, 0), (13, 7), (5, 0), (13, 7), (5, 0), (13, 7), (5, 0), (13, 7), (5, 0), (13, 7), (1, 0), (13, 20), (13, 20), (13, 20), (13, 20), (13, 20), (5, 0), (13, 7), (1, 0), (13, 20), (13, 20), (13, 20), (13, 20), (13, 20), (5, 0), (13, 7), (1, 0), (13, 20), (13, 20), (13, 20), (13, 20), (13, 20), (13, 20), (13, 61), (11, 0), (12, 2000), (12, 2000), (13, 403), (13, 403), (13, 403), (14, 403), (14, 22), (14, 20), (13, 20), (13, 2), (13, 2), (13, 14), (13, 14), (13, 14), (13, 2), (13, 14), (13, 14), (13, 2), (13, 24), (13, 24), (13, 24), (13, 24), (13, 24), (13, 2), (13, 2), (13, 8), (13, 8), (15, 260), (13, 260), (13, 260), (13, 260), (13, 260), (13, 840), (13, 840), (13, 64), (13, 9), (13, 400), (13, 117), (13, 117), (13, 7), (15, 20), (15, 20), (13, 3510), (13, 7), (13, 896), (13, 49), (13, 7), (13, 20), (13, 20), (15, 3), (13, 351)]
def stc (ci k : Nat) : Option (Bool × Nat) := match ci, k with
  | 0, 0 => some (false, 50)
  | 0, 2 => some (true, 1)
  | 0, 3 => some (true, 2)
  | 0, 4 => some (true, 3)
  | 0, 5 => some (true, 4)
  | 0, 6 => some (true, 5)
  | 1, 0 => some (true, 1)
  | 1, 1 => some (true, 2)
  | 1, 2 => some (true, 3)
  | 1, 3 => some (true, 4)
  | 1, 4 => some (true, 5)
  | 2, 0 => some (false, 2)
  | 2, 7 => some (true, 1)
  | 3, 6 => some (true, 1)
  | 3, 7 => some (true, 2)
  | 3, 8 => some (true, 3)
  | 3, 9 => some (true, 4)
  | 3, 10 => some (true, 5)
  | 3, 11 => some (true, 6)
  | 3, 12 => some (true, 12)
  | 3, 13 => some (true, 17)
  | 3, 14 => some (true, 18)
  | 3, 15 => some (true, 19)
  | 4, 0 => some (true, 1)
  | 4, 1 => some (true, 2)
  | 4, 3 => some (true, 3)
  | 4, 4 => some (true, 4)
  | 5, 4 => some (true, 1)
  | 6, 0 => some (true, 1)
  | 6, 3 => some (true, 2)
  | 6, 4 => some (true, 3)
  | 7, 0 => some (true, 1)
  | 7, 1 => some (true, 2)
  | 7, 2 => some (true, 3)
  | 8, 0 => some (false, 2)
  | 9, 0 => some (true, 1)
  | 9, 1 => some (true, 2)
  | 9, 2 => some (true, 3)
  | 9, 3 => some (true, 4)
  | 10, 0 => some (true, 1)
  | 10, 2 => some (true, 2)
  | 10, 5 => some (true, 47)
  | 10, 6 => some (true, 49)
  | 10, 7 => some (true, 50)
  | 10, 8 => some (true, 56)
  | 10, 9 => some (true, 58)
  | 10, 10 => some (true, 60)
  | 10, 11 => some (true, 66)
  | 10, 12 => some (true, 70)
  | 10, 13 => some (true, 158)
  | 10, 16 => some (true, 159)
  | 11, 1 => some (true, 1)
  | 11, 3 => some (true, 2)
  | 11, 5 => some (true, 3)
  | 11, 6 => some (true, 4)
  | 11, 7 => some (true, 5)
  | 11, 8 => some (true, 6)
  | 11, 9 => some (true, 7)
  | 11, 21 => some (true, 8)
  | 11, 22 => some (true, 9)
  | 11, 23 => some (true, 10)
  | 11, 24 => some (true, 11)
  | 11, 25 => some (true, 12)
  | 11, 26 => some (true, 13)
  | 11, 27 => some (true, 14)
  | 11, 28 => some (true, 15)
  | 11, 29 => some (true, 16)
  | 11, 30 => some (true, 17)
  | 11, 31 => some (true, 18)
  | 11, 32 => some (true, 19)
  | 11, 33 => some (true, 20)
  | 11, 34 => some (true, 21)
  | 11, 35 => some (true, 22)
  | 11, 36 => some (true, 23)
  | 11, 37 => some (true, 24)
  | 11, 38 => some (true, 25)
  | 11, 39 => some (true, 26)
  | 11, 40 => some (true, 27)
  | 11, 42 => some (true, 28)
  | 11, 43 => some (true, 29)
  | 11, 44 => some (true, 30)
  | 11, 45 => some (true, 31)
  | 11, 46 => some (true, 32)
  | 11, 48 => some (true, 33)
  | 11, 49 => some (true, 34)
  | 11, 50 => some (true, 35)
  | 11, 52 => some (true, 36)
  | 11, 53 => some (true, 37)
  | 11, 55 => some (true, 38)
  | 11, 56 => some (true, 39)
  | 11, 60 => some (true, 40)
  | 11, 61 => some (true, 41)
  | 11, 62 => some (true, 42)
  | 11, 64 => some (true, 43)
  | 11, 65 => some (true, 44)
  | 11, 66 => some (true, 45)
  | 11, 67 => some (true, 46)
  | 11, 68 => some (true, 47)
  | 11, 70 => some (true, 48)
  | 11, 71 => some (true, 49)
  | 11, 72 => some (true, 50)
  | 11, 73 => some (true, 51)
  | _, _ => none
-- THE MEMORY: ints, longs, references (by the numbers of cells); cells are numbered in the order in which they are made
abbrev Mm : Type := (Nat → Nat → Int32) × (Nat → Nat → Int64) × (Nat → Nat → Option Nat)
def gI (σ : Mm) (a k : Nat) : Int32 := σ.1 a k
def gL (σ : Mm) (a k : Nat) : Int64 := σ.2.1 a k
def gR (σ : Mm) (a k : Nat) : Option Nat := σ.2.2 a k
def sI (σ : Mm) (a k : Nat) (v : Int32) : Mm := (fun b => if b = a then upd (σ.1 b) k v else σ.1 b, σ.2)
def sL (σ : Mm) (a k : Nat) (v : Int64) : Mm := (σ.1, fun b => if b = a then vp_updL (σ.2.1 b) k v else σ.2.1 b, σ.2.2)
def sR (σ : Mm) (a k : Nat) (v : Option Nat) : Mm := (σ.1, σ.2.1, fun b => if b = a then va_up (σ.2.2 b) k v else σ.2.2 b)
/-- a row of ints as a whole -/
def sIr (σ : Mm) (a : Nat) (f : Nat → Int32) : Mm := (fun b => if b = a then f else σ.1 b, σ.2)
-- class numbers, array classes, the first address
abbrev Gp : Type := va_G × (Nat → ClassId) × Nat
def clC : Nat → String | 0 => RX0 | 1 => RX1 | 2 => RX2 | 3 => RX3 | 4 => RX4 | 5 => RX5 | 6 => RX6 | 7 => RX7 | 8 => RX8 | 9 => RX9 | 10 => RX10 | _ => RX11
def clT : Nat → u_T | 0 => TX0 | 1 => TX1 | 2 => TX2 | 3 => TX3 | 4 => TX4 | 5 => TX5 | 6 => TX6 | 7 => TX7 | 8 => TX8 | 9 => TX9 | 10 => TX10 | _ => TX11
def clN : Nat → Nat | 0 => 7 | 1 => 5 | 2 => 10 | 3 => 17 | 4 => 5 | 5 => 5 | 6 => 6 | 7 => 3 | 8 => 3 | 9 => 6 | 10 => 17 | _ => 74
def clTy : Nat → Nat → FieldType | 0 => tyX0 | 1 => tyX1 | 2 => tyX2 | 3 => tyX3 | 4 => tyX4 | 5 => tyX5 | 6 => tyX6 | 7 => tyX7 | 8 => tyX8 | 9 => tyX9 | 10 => tyX10 | _ => tyX11
def isRf (ci k : Nat) : Bool := !((clT ci k).2.2.1 == "I" || (clT ci k).2.2.1 == "Z")
theorem cl12 {P : Nat → Prop} (h0 : P 0) (h1 : P 1) (h2 : P 2) (h3 : P 3) (h4 : P 4) (h5 : P 5) (h6 : P 6) (h7 : P 7) (h8 : P 8) (h9 : P 9) (h10 : P 10) (h11 : P 11) {ci : Nat} (h : ci < 12) : P ci := by
  rcases (show ci = 0 ∨ ci = 1 ∨ ci = 2 ∨ ci = 3 ∨ ci = 4 ∨ ci = 5 ∨ ci = 6 ∨ ci = 7 ∨ ci = 8 ∨ ci = 9 ∨ ci = 10 ∨ ci = 11 by omega) with rfl | rfl | rfl | rfl | rfl | rfl | rfl | rfl | rfl | rfl | rfl | rfl <;> assumption
theorem vw_at {ci : Nat} (h : ci < 12) : vwCl[ci]? = some (clC ci, clT ci, clN ci) := cl12 (P := fun ci => vwCl[ci]? = some (clC ci, clT ci, clN ci)) rfl rfl rfl rfl rfl rfl rfl rfl rfl rfl rfl rfl h
/-- the tables' words that stay -/
def lw_g : List Cond := lw_tbl.filter goodWord
theorem in_g {w : Cond} (h : w ∈ lw_tbl) (hg : goodWord w = true) : w ∈ lw_g := List.mem_filter.mpr ⟨h, hg⟩
theorem in_gs {ws : List Cond} (h : ∀ w ∈ ws, w ∈ lw_tbl) (hg : ws.all goodWord = true) : ∀ w ∈ ws, w ∈ lw_g := fun w hw => in_g (h w hw) (List.all_eq_true.mp hg w hw)
theorem cl_in {ci : Nat} (h : ci < 12) : ∀ w ∈ u_ws (clC ci) (clT ci) (clN ci), w ∈ lw_g := cl12 (P := fun ci => ∀ w ∈ u_ws (clC ci) (clT ci) (clN ci), w ∈ lw_g) (in_gs inX0 (by decide +kernel)) (in_gs inX1 (by decide +kernel)) (in_gs inX2 (by decide +kernel)) (in_gs inX3 (by decide +kernel)) (in_gs inX4 (by decide +kernel)) (in_gs inX5 (by decide +kernel)) (in_gs inX6 (by decide +kernel)) (in_gs inX7 (by decide +kernel)) (in_gs inX8 (by decide +kernel)) (in_gs inX9 (by decide +kernel)) (in_gs inX10 (by decide +kernel)) (in_gs inX11 (by decide +kernel)) h
theorem cl_ty {ci : Nat} (h : ci < 12) : ∀ k, k < clN ci → parseFieldDescriptor (clT ci k).2.2.1 = some (clTy ci k) := cl12 (P := fun ci => ∀ k, k < clN ci → parseFieldDescriptor (clT ci k).2.2.1 = some (clTy ci k)) tyX0_ok tyX1_ok tyX2_ok tyX3_ok tyX4_ok tyX5_ok tyX6_ok tyX7_ok tyX8_ok tyX9_ok tyX10_ok tyX11_ok h
theorem cl_nm {ci : Nat} (h : ci < 12) : ∀ a, a < clN ci → ∀ b, b < clN ci → a ≠ b → (clT ci a).2.1 ≠ (clT ci b).2.1 := cl12 (P := fun ci => ∀ a, a < clN ci → ∀ b, b < clN ci → a ≠ b → (clT ci a).2.1 ≠ (clT ci b).2.1) nmX0 nmX1 nmX2 nmX3 nmX4 nmX5 nmX6 nmX7 nmX8 nmX9 nmX10 nmX11 h
-- arrays: kind 12 byte, 13 int, 14 long, 15 boolean, 16 Givings, 17 Moment
def tyl (G : Gp) : List (ClassId × FieldType) := [(G.2.1 0, .byte), (G.2.1 1, .int), (G.2.1 2, .long), (G.2.1 3, .boolean), (G.2.1 4, .object RX1), (G.2.1 5, .object RX5)]
def kd (id : Nat) : Nat × Nat := kdT.getD id (99, 0)
def rfv (G : Gp) (r : Option Nat) : Value := va_rf (r.map (fun i => G.2.2 + i))
def fsE (G : Gp) (σ : Mm) (id ci : Nat) : List Value := (List.range (clN ci)).map (fun k => if isRf ci k = true then rfv G (gR σ id k) else .int (gI σ id k))
def cellE (G : Gp) (σ : Mm) (id : Nat) : va_E :=
  if (kd id).1 < 12 then .inr ((kd id).1, fsE G σ id (kd id).1)
  else if (kd id).1 = 14 then .inl (G.2.1 2, (kd id).2, .inr (.inl (σ.2.1 id)))
  else if (kd id).1 < 16 then .inl (G.2.1 ((kd id).1 - 12), (kd id).2, .inl (σ.1 id))
  else .inl (G.2.1 ((kd id).1 - 12), (kd id).2, .inr (.inr (.inr (.inr (fun j => (gR σ id j).map (fun i => G.2.2 + i))))))
def wld (G : Gp) (n : Nat) (σ : Mm) : va_W := (List.range n).map (fun id => (G.2.2 + id, cellE G σ id))
theorem rg_get {α : Type} (g : Nat → α) {n id : Nat} (h : id < n) : ((List.range n).map g)[id]? = some (g id) := by simp [h]
theorem rg_set {α : Type} (g : Nat → α) (n id : Nat) (x : α) : ((List.range n).map g).set id x = (List.range n).map (fun j => if j = id then x else g j) := by
  apply List.ext_getElem?
  intro i
  rw [List.getElem?_set]
  by_cases h1 : id = i
  · subst h1
    by_cases h2 : id < n
    · simp [h2]
    · simp [h2]
  · by_cases h2 : i < n
    · have h3 : ¬ i = id := fun h3 => h1 h3.symm
      simp [h1, h2, h3]
    · simp [h1, h2]
theorem rg_congr {α : Type} {f g : Nat → α} {n : Nat} (h : ∀ j, j < n → f j = g j) : (List.range n).map f = (List.range n).map g := List.map_congr_left fun a ha => h a (List.mem_range.mp ha)
def Fr (G : Gp) : Nat → Prop := fun q => G.2.2 ≤ q
theorem wld_D (G : Gp) (n : Nat) (σ : Mm) : va_D (Fr G) (wld G n σ) := by
  have key : ∀ (k : Nat) (q : Nat × va_E), (wld G n σ)[k]? = some q → q.1 = G.2.2 + k := by
    intro k q hk
    by_cases h : k < n
    · rw [wld, rg_get _ h] at hk
      cases hk
      rfl
    · simp [wld, h] at hk
  refine ⟨fun i j x y hi hj hxy => ?_, fun k q hk => ?_⟩
  · rw [key i x hi, key j y hj] at hxy
    omega
  · show G.2.2 ≤ q.1
    rw [key k q hk]
    omega
theorem wld_get (G : Gp) {n : Nat} (σ : Mm) {id : Nat} (h : id < n) : (wld G n σ)[id]? = some (G.2.2 + id, cellE G σ id) := rg_get _ h
theorem cellE_obj {G : Gp} {σ : Mm} {id ci : Nat} (h : (kd id).1 = ci) (hc : ci < 12) : cellE G σ id = .inr (ci, fsE G σ id ci) := by
  subst h
  unfold cellE
  rw [if_pos hc]
theorem cellE_int {G : Gp} {σ : Mm} {id len : Nat} (h : kd id = (13, len)) : cellE G σ id = .inl (G.2.1 1, len, .inl (σ.1 id)) := by
  unfold cellE; rw [h]; rfl
theorem cellE_byte {G : Gp} {σ : Mm} {id len : Nat} (h : kd id = (12, len)) : cellE G σ id = .inl (G.2.1 0, len, .inl (σ.1 id)) := by
  unfold cellE; rw [h]; rfl
theorem cellE_bool {G : Gp} {σ : Mm} {id len : Nat} (h : kd id = (15, len)) : cellE G σ id = .inl (G.2.1 3, len, .inl (σ.1 id)) := by
  unfold cellE; rw [h]; rfl
theorem cellE_long {G : Gp} {σ : Mm} {id len : Nat} (h : kd id = (14, len)) : cellE G σ id = .inl (G.2.1 2, len, .inr (.inl (σ.2.1 id))) := by
  unfold cellE; rw [h]; rfl
theorem cellE_refG {G : Gp} {σ : Mm} {id len : Nat} (h : kd id = (16, len)) : cellE G σ id = .inl (G.2.1 4, len, .inr (.inr (.inr (.inr (fun j => (gR σ id j).map (fun i => G.2.2 + i)))))) := by
  unfold cellE; rw [h]; rfl
theorem cellE_refM {G : Gp} {σ : Mm} {id len : Nat} (h : kd id = (17, len)) : cellE G σ id = .inl (G.2.1 5, len, .inr (.inr (.inr (.inr (fun j => (gR σ id j).map (fun i => G.2.2 + i)))))) := by
  unfold cellE; rw [h]; rfl
theorem cellE_eq {G : Gp} {σ τ : Mm} {id : Nat} (h1 : σ.1 id = τ.1 id) (h2 : σ.2.1 id = τ.2.1 id) (h3 : σ.2.2 id = τ.2.2 id) : cellE G σ id = cellE G τ id := by
  have e1 : ∀ k, gI σ id k = gI τ id k := fun k => congrFun h1 k
  have e3 : ∀ k, gR σ id k = gR τ id k := fun k => congrFun h3 k
  unfold cellE fsE
  simp only [h1, h2, e1, e3]
theorem fs_get {G : Gp} {σ : Mm} {id ci k : Nat} (h : k < clN ci) : (fsE G σ id ci)[k]? = some (if isRf ci k = true then rfv G (gR σ id k) else .int (gI σ id k)) := rg_get _ h
theorem fs_len {G : Gp} {σ : Mm} {id ci : Nat} : (fsE G σ id ci).length = clN ci := by simp [fsE]
theorem fs_setI {G : Gp} {σ : Mm} {id ci k : Nat} {v : Int32} (hf : isRf ci k = false) : (fsE G σ id ci).set k (.int v) = fsE G (sI σ id k v) id ci := by
  unfold fsE
  rw [rg_set]
  refine rg_congr fun j hj => ?_
  by_cases h : j = k
  · subst h
    simp [hf, gI, sI, upd]
  · simp [h, gI, sI, upd, gR]
theorem fs_setR {G : Gp} {σ : Mm} {id ci k : Nat} {v : Option Nat} (hf : isRf ci k = true) : (fsE G σ id ci).set k (rfv G v) = fsE G (sR σ id k v) id ci := by
  unfold fsE
  rw [rg_set]
  refine rg_congr fun j hj => ?_
  by_cases h : j = k
  · subst h
    simp [hf, gR, sR, va_up]
  · simp [h, gI, sR, va_up, gR]
/-- a cell is changed: the world behind it -/
theorem wld_set {G : Gp} {n : Nat} {σ τ : Mm} {id : Nat} {E : va_E} (h : cellE G τ id = E) (ho : ∀ j, j ≠ id → cellE G τ j = cellE G σ j) : (wld G n σ).set id (G.2.2 + id, E) = wld G n τ := by
  unfold wld
  rw [rg_set]
  refine rg_congr fun j _ => ?_
  by_cases hj : j = id
  · subst hj
    simp [h]
  · simp [hj, ho j hj]
theorem sI_ne {G : Gp} {σ : Mm} {id k : Nat} {v : Int32} : ∀ j, j ≠ id → cellE G (sI σ id k v) j = cellE G σ j := fun j h => cellE_eq (by simp [sI, h]) rfl rfl
theorem sL_ne {G : Gp} {σ : Mm} {id k : Nat} {v : Int64} : ∀ j, j ≠ id → cellE G (sL σ id k v) j = cellE G σ j := fun j h => cellE_eq rfl (by simp [sL, h]) rfl
theorem sR_ne {G : Gp} {σ : Mm} {id k : Nat} {v : Option Nat} : ∀ j, j ≠ id → cellE G (sR σ id k v) j = cellE G σ j := fun j h => cellE_eq rfl rfl (by simp [sR, h])
theorem sIr_ne {G : Gp} {σ : Mm} {id : Nat} {f : Nat → Int32} : ∀ j, j ≠ id → cellE G (sIr σ id f) j = cellE G σ j := fun j h => cellE_eq (by simp [sIr, h]) rfl rfl
theorem kd_lt {id ci : Nat} (h : (kd id).1 = ci) (hc : ci < 18) : id < 212 := by
  rcases Nat.lt_or_ge id 212 with q | q
  · exact q
  · exfalso
    have hl : kdT.length = 212 := rfl
    have : kd id = (99, 0) := by unfold kd; rw [List.getD_eq_getElem?_getD, List.getElem?_eq_none (by omega)]; rfl
    rw [this] at h
    simp at h
    omega
theorem kd_ltA {id t len : Nat} (h : kd id = (t, len)) (hc : t < 18) : id < 212 := kd_lt (congrArg Prod.fst h) hc
def tt : Nat → Bool := fun _ => true
/-- static references -/
def st (id k : Nat) : Option Nat := if id = 71 then (if k < 30 then some (74 + 2 * k) else none) else if id = 72 then (if k < 3 then some (134 + 8 * k) else none) else if id = 73 then (if k < 3 then some (136 + 8 * k) else none) else
  match stc (kd id).1 k with
  | some (true, o) => some (id + o)
  | some (false, a) => some a
  | none => none
def Rf (F : Nat → Bool) (σ : Mm) : Prop := ∀ id k t, F id = true → st id k = some t → gR σ id k = some t
/-- what else the start gives (strings, words that do not stay) -/
def Ex (G : Gp) (U : State) : Prop := True
theorem Ex_call {G : Gp} {U : State} {g : JFrame} {mk : MethodId} {a : Array Value} (h : Ex G U) : Ex G (U.calling g mk a) := h
theorem Ex_warm {G : Gp} {s U : State} {H : Heap} {locs : List Loc} (h : Ex G s) (hS : va_S (Fr G) s.heap H locs) (hU : U.heap = H) (hW : s.WarmedH U.vm) : Ex G U := trivial
/-- what holds of the machine all along a method -/
def Cx (p : Program) (s : State) (m : MethodId) (args : Array Value) (c : Code) (cc : ByteArray) (nL : Nat) (own : String) (G : Gp) : Prop :=
  p.tables.exec = Jvm.exec ∧ c.code = cc ∧ c.maxLocals = nL ∧ s.vm.findClass own = some m.cls ∧ (∀ w ∈ lw_g, w.before args s = true) ∧ va_K G.1 vwCl (tyl G) s ∧ Ex G s
/-- what holds of the heap now -/
def Rp (G : Gp) (n : Nat) (F : Nat → Bool) (σ : Mm) (s : State) (H : Heap) (locs : List Loc) : Prop :=
  va_P G.1 vwCl (wld G n σ) H ∧ (n < 212 → H.size = G.2.2 + n) ∧ va_S (Fr G) s.heap H locs ∧ Rf F σ
/-- the world of a state -/
def Wd (G : Gp) (n : Nat) (F : Nat → Bool) (σ : Mm) (U : State) : Prop :=
  va_P G.1 vwCl (wld G n σ) U.heap ∧ (n < 212 → U.heap.size = G.2.2 + n) ∧ va_K G.1 vwCl (tyl G) U ∧ Rf F σ
def FK (own : String) (index ci k : Nat) : Prop := ci < 12 ∧ k < clN ci ∧ Cond.fieldLink own index (clC ci) (clT ci k).2.1 (clT ci k).2.2.1 ∈ lw_g ∧ (clT ci k).1 = clC ci
def FP (own : String) (index ci k : Nat) (ty : FieldType) : Prop := FK own index ci k ∧ (clT ci k).2.2.2 = false ∧ clTy ci k = ty
theorem Rf_sI {F : Nat → Bool} {σ : Mm} {a k : Nat} {v : Int32} (h : Rf F σ) : Rf F (sI σ a k v) := h
theorem Rf_sIr {F : Nat → Bool} {σ : Mm} {a : Nat} {f : Nat → Int32} (h : Rf F σ) : Rf F (sIr σ a f) := h
theorem Rf_sL {F : Nat → Bool} {σ : Mm} {a k : Nat} {v : Int64} (h : Rf F σ) : Rf F (sL σ a k v) := h
theorem Rf_sR {F : Nat → Bool} {σ : Mm} {a k : Nat} {v : Option Nat} (h : Rf F σ) (hs : st a k = none) : Rf F (sR σ a k v) := by
  intro id j t hf ht
  have := h id j t hf ht
  unfold gR sR at *
  dsimp only
  by_cases e : id = a
  · subst e
    rw [if_pos rfl]
    by_cases e2 : j = k
    · subst e2
      rw [hs] at ht
      cases ht
    · simp [va_up, e2, this]
  · rw [if_neg e]; exact this
section QRows
variable {p : Program} {l : Launch} {e : Env} {R : Room} {s : State} {m : MethodId} {args : Array Value} {below : List Frame} {meth : Method} {c : Code} {H : Heap} {locs : List Loc} {cells slots : Nat} {Q : State → Prop}
variable {cc : ByteArray} {pc : Nat} {ls : Array Slot} {rest : List Value} {own : String} {nL : Nat} {G : Gp} {n : Nat} {F : Nat → Bool} {σ : Mm}
theorem q_getv (X : Cx p s m args c cc nL own G) (hR : Rp G n F σ s H locs) {id k ci index : Nat} (fk : FK own index ci k) (hid : (kd id).1 = ci) (hn : id < n) (hdg : decode cc pc = .ok (.getfield index, 3))
    (kk : W p l e R s m args below meth c H locs cells slots Q (F0 m (pc + 3) ls ((if isRf ci k = true then rfv G (gR σ id k) else .int (gI σ id k)) :: rest))) : W p l e R s m args below meth c H locs cells slots Q (F0 m pc ls (.ref (G.2.2 + id) :: rest)) := by
  obtain ⟨hx, hb, hml, hown, hts, hK, hE⟩ := X
  obtain ⟨h1, h2, h3, h4⟩ := fk
  exact va_get (D := G.1) (cl := vwCl) (ws := wld G n σ) (tys := tyl G) (ci := ci) (C := clC ci) (T := clT ci) (N := clN ci) (ref := clC ci) hx hb hts (cl_in h1) hown hK hR.1 id (by rw [wld_get G σ hn, cellE_obj hid h1]) (vw_at h1) k h2 (hts _ h3) (fun x h => by rw [h4] at h; exact h) (fs_get h2) hdg kk
theorem q_gi (X : Cx p s m args c cc nL own G) (hR : Rp G n F σ s H locs) {id k ci index : Nat} (fk : FK own index ci k) (hrf : isRf ci k = false) (hid : (kd id).1 = ci) (hn : id < n) (hdg : decode cc pc = .ok (.getfield index, 3))
    (kk : W p l e R s m args below meth c H locs cells slots Q (F0 m (pc + 3) ls (.int (gI σ id k) :: rest))) : W p l e R s m args below meth c H locs cells slots Q (F0 m pc ls (.ref (G.2.2 + id) :: rest)) :=
  q_getv X hR fk hid hn hdg (by rw [hrf]; exact kk)
theorem q_gr (X : Cx p s m args c cc nL own G) (hR : Rp G n F σ s H locs) {id k ci index : Nat} (fk : FK own index ci k) (hrf : isRf ci k = true) (hid : (kd id).1 = ci) (hn : id < n) {t : Nat} (ht : gR σ id k = some t) (hdg : decode cc pc = .ok (.getfield index, 3))
    (kk : W p l e R s m args below meth c H locs cells slots Q (F0 m (pc + 3) ls (.ref (G.2.2 + t) :: rest))) : W p l e R s m args below meth c H locs cells slots Q (F0 m pc ls (.ref (G.2.2 + id) :: rest)) :=
  q_getv X hR fk hid hn hdg (by rw [hrf, ht]; exact kk)
/-- putfield, any value -/
theorem q_putv (X : Cx p s m args c cc nL own G) (hR : Rp G n F σ s H locs) {id k ci index : Nat} {ty : FieldType} (fp : FP own index ci k ty) (hid : (kd id).1 = ci) (hn : id < n) {v : Value} (hnw : narrow ty v = v) (hft : fits ty v = true) {σ1 : Mm} (hσ : (fsE G σ id ci).set k v = fsE G σ1 id ci) (ho : ∀ j, j ≠ id → cellE G σ1 j = cellE G σ j) (hrf : Rf F σ1) (hdg : decode cc pc = .ok (.putfield index, 3))
    (kk : ∀ (H1 : Heap) (locs1 : List Loc), Rp G n F σ1 s H1 locs1 → W p l e R s m args below meth c H1 locs1 cells slots Q (F0 m (pc + 3) ls rest)) : W p l e R s m args below meth c H locs cells slots Q (F0 m pc ls (v :: .ref (G.2.2 + id) :: rest)) := by
  obtain ⟨hx, hb, hml, hown, hts, hK, hE⟩ := X
  obtain ⟨hP, hz, hS0, hRf⟩ := hR
  obtain ⟨⟨h1, h2, h3, h4⟩, hfin, hty0⟩ := fp
  have hc := vw_at h1
  have hd : parseFieldDescriptor (clT ci k).2.2.1 = some ty := by rw [← hty0]; exact cl_ty h1 k h2
  have hap := va_apart (own := own) (D := G.1) (cl := vwCl) (tys := tyl G) hts (cl_in h1) (clTy ci) (cl_ty h1) (cl_nm h1) hK hc
  have he : (wld G n σ)[id]? = some (G.2.2 + id, .inr (ci, fsE G σ id ci)) := by rw [wld_get G σ hn, cellE_obj hid h1]
  have hD := wld_D G n σ
  obtain ⟨r, e1, cell, q1, q2, q3, q4⟩ := hP id _ he
  have hr : r = (clC ci, clT ci, clN ci) := Option.some.inj (e1.symm.trans hc)
  subst hr
  obtain ⟨hS, hfc, kC, hkC, hkind⟩ := hK.1 ci _ hc
  obtain ⟨cf, kf, fi, f, hi, hsl⟩ := hS k h2
  have hlay := hts _ (cl_in h1 _ (u_in_lay h2))
  unfold u_lay at hlay
  rw [if_neg (by rw [hfin]; decide)] at hlay
  have hst := (u_facts hfc hkC (u_lays hts (cl_in h1) h2) hi).1
  have h6 := u_store hfc hkC hkind hlay hi hd hnw hft
  have hi2 : s.fieldFound? (clC ci) (clT ci k).2.1 (clT ci k).2.2.1 = some (cf, kf, fi, f) := by rw [← h4]; exact hi
  refine W.putK hx hb (f := f) ⟨hown, hts _ h3, ⟨_, _, _, hi2⟩, hst⟩ (by rw [q2]; exact h6) q1 q3 (by rw [hsl]; exact k2_hasslot (q4 k h2)) rfl rfl hdg fun H' e1 e2 e3 => ?_
  rw [hsl] at e1 ⊢
  refine kk H' _ ⟨?_, fun h => by rw [e2]; exact hz h, hS0.put e2 e3 (hD.2 id _ he), hrf⟩
  have hP1 := hP.set hD he (e := .inr (ci, (fsE G σ id ci).set k v)) ⟨_, hc, t_OB.to (V := updV (vp_V (fsE G σ id ci)) k v) ⟨_, e1, q2, q3, t_set q4 hap h2 v⟩ (fun j _ => vp_updV_set (by rw [fs_len]; exact h2) v j)⟩ e3
  rw [hσ, wld_set (cellE_obj hid h1) ho] at hP1
  exact hP1
theorem q_pi (X : Cx p s m args c cc nL own G) (hR : Rp G n F σ s H locs) {id k ci index : Nat} (fp : FP own index ci k .int) (hrf : isRf ci k = false) (hid : (kd id).1 = ci) (hn : id < n) {v : Int32} (hdg : decode cc pc = .ok (.putfield index, 3))
    (kk : ∀ (H1 : Heap) (locs1 : List Loc) (σ1 : Mm), σ1 = sI σ id k v → Rp G n F σ1 s H1 locs1 → W p l e R s m args below meth c H1 locs1 cells slots Q (F0 m (pc + 3) ls rest)) : W p l e R s m args below meth c H locs cells slots Q (F0 m pc ls (.int v :: .ref (G.2.2 + id) :: rest)) :=
  q_putv X hR fp hid hn rfl rfl (fs_setI hrf) sI_ne (Rf_sI hR.2.2.2) hdg (fun H1 locs1 h => kk H1 locs1 _ rfl h)
theorem q_pz (X : Cx p s m args c cc nL own G) (hR : Rp G n F σ s H locs) {id k ci index : Nat} (fp : FP own index ci k .boolean) (hrf : isRf ci k = false) (hid : (kd id).1 = ci) (hn : id < n) {v : Int32} (hv : narrow .boolean (.int v) = .int v) (hv2 : fits .boolean (.int v) = true) (hdg : decode cc pc = .ok (.putfield index, 3))
    (kk : ∀ (H1 : Heap) (locs1 : List Loc) (σ1 : Mm), σ1 = sI σ id k v → Rp G n F σ1 s H1 locs1 → W p l e R s m args below meth c H1 locs1 cells slots Q (F0 m (pc + 3) ls rest)) : W p l e R s m args below meth c H locs cells slots Q (F0 m pc ls (.int v :: .ref (G.2.2 + id) :: rest)) :=
  q_putv X hR fp hid hn hv hv2 (fs_setI hrf) sI_ne (Rf_sI hR.2.2.2) hdg (fun H1 locs1 h => kk H1 locs1 _ rfl h)
theorem q_pr (X : Cx p s m args c cc nL own G) (hR : Rp G n F σ s H locs) {id k ci index : Nat} {C : String} (fp : FP own index ci k (.object C)) (hrf : isRf ci k = true) (hid : (kd id).1 = ci) (hn : id < n) {t : Nat} (hst : st id k = none) (hdg : decode cc pc = .ok (.putfield index, 3))
    (kk : ∀ (H1 : Heap) (locs1 : List Loc) (σ1 : Mm), σ1 = sR σ id k (some t) → Rp G n F σ1 s H1 locs1 → W p l e R s m args below meth c H1 locs1 cells slots Q (F0 m (pc + 3) ls rest)) : W p l e R s m args below meth c H locs cells slots Q (F0 m pc ls (.ref (G.2.2 + t) :: .ref (G.2.2 + id) :: rest)) :=
  q_putv X hR fp hid hn rfl rfl (fs_setR (v := some t) hrf) sR_ne (Rf_sR hR.2.2.2 hst) hdg (fun H1 locs1 h => kk H1 locs1 _ rfl h)
-- arrays
theorem q_ial (X : Cx p s m args c cc nL own G) (hR : Rp G n F σ s H locs) {id len : Nat} (hk : kd id = (13, len)) (hn : id < n) {i : Int32} (hin : vp_in i len) (hdg : decode cc pc = .ok (.iaload, 1))
    (kk : W p l e R s m args below meth c H locs cells slots Q (F0 m (pc + 1) ls (.int (gI σ id i.toNatClampNeg) :: rest))) : W p l e R s m args below meth c H locs cells slots Q (F0 m pc ls (.int i :: .ref (G.2.2 + id) :: rest)) :=
  va_iald (f := σ.1 id) (D := G.1) (cl := vwCl) (ws := wld G n σ) (tys := tyl G) X.1 X.2.1 X.2.2.2.2.2.1 hR.1 id 1 (by rw [wld_get G σ hn, cellE_int hk]) rfl hin hdg kk
theorem q_bal (X : Cx p s m args c cc nL own G) (hR : Rp G n F σ s H locs) {id len : Nat} (hk : kd id = (12, len)) (hn : id < n) {i : Int32} (hin : vp_in i len) (hdg : decode cc pc = .ok (.baload, 1))
    (kk : W p l e R s m args below meth c H locs cells slots Q (F0 m (pc + 1) ls (.int (gI σ id i.toNatClampNeg) :: rest))) : W p l e R s m args below meth c H locs cells slots Q (F0 m pc ls (.int i :: .ref (G.2.2 + id) :: rest)) :=
  va_bald (f := σ.1 id) (D := G.1) (cl := vwCl) (ws := wld G n σ) (tys := tyl G) X.1 X.2.1 X.2.2.2.2.2.1 hR.1 id 0 (by rw [wld_get G σ hn, cellE_byte hk]) rfl hin hdg kk
theorem q_zal (X : Cx p s m args c cc nL own G) (hR : Rp G n F σ s H locs) {id len : Nat} (hk : kd id = (15, len)) (hn : id < n) {i : Int32} (hin : vp_in i len) (hdg : decode cc pc = .ok (.baload, 1))
    (kk : W p l e R s m args below meth c H locs cells slots Q (F0 m (pc + 1) ls (.int (gI σ id i.toNatClampNeg) :: rest))) : W p l e R s m args below meth c H locs cells slots Q (F0 m pc ls (.int i :: .ref (G.2.2 + id) :: rest)) :=
  va_zald (f := σ.1 id) (D := G.1) (cl := vwCl) (ws := wld G n σ) (tys := tyl G) X.1 X.2.1 X.2.2.2.2.2.1 hR.1 id 3 (by rw [wld_get G σ hn, cellE_bool hk]) rfl hin hdg kk
theorem q_lal (X : Cx p s m args c cc nL own G) (hR : Rp G n F σ s H locs) {id len : Nat} (hk : kd id = (14, len)) (hn : id < n) {i : Int32} (hin : vp_in i len) (hdg : decode cc pc = .ok (.laload, 1))
    (kk : W p l e R s m args below meth c H locs cells slots Q (F0 m (pc + 1) ls (.long (gL σ id i.toNatClampNeg) :: rest))) : W p l e R s m args below meth c H locs cells slots Q (F0 m pc ls (.int i :: .ref (G.2.2 + id) :: rest)) :=
  va_lald (f := σ.2.1 id) (D := G.1) (cl := vwCl) (ws := wld G n σ) (tys := tyl G) X.1 X.2.1 X.2.2.2.2.2.1 hR.1 id 2 (by rw [wld_get G σ hn, cellE_long hk]) rfl hin hdg kk
theorem q_aal (X : Cx p s m args c cc nL own G) (hR : Rp G n F σ s H locs) {id len : Nat} (hk : kd id = (17, len) ∨ kd id = (16, len)) (hn : id < n) {i : Int32} (hin : vp_in i len) {t : Nat} (ht : gR σ id i.toNatClampNeg = some t) (hdg : decode cc pc = .ok (.aaload, 1))
    (kk : W p l e R s m args below meth c H locs cells slots Q (F0 m (pc + 1) ls (.ref (G.2.2 + t) :: rest))) : W p l e R s m args below meth c H locs cells slots Q (F0 m pc ls (.int i :: .ref (G.2.2 + id) :: rest)) := by
  rcases hk with hk | hk
  · exact va_aldq (D := G.1) (cl := vwCl) (ws := wld G n σ) (tys := tyl G) (C := RX5) X.1 X.2.1 X.2.2.2.2.2.1 hR.1 id 5 (by rw [wld_get G σ hn, cellE_refM hk]) rfl hin hdg (by rw [ht]; exact kk)
  · exact va_aldq (D := G.1) (cl := vwCl) (ws := wld G n σ) (tys := tyl G) (C := RX1) X.1 X.2.1 X.2.2.2.2.2.1 hR.1 id 4 (by rw [wld_get G σ hn, cellE_refG hk]) rfl hin hdg (by rw [ht]; exact kk)
theorem q_len (X : Cx p s m args c cc nL own G) (hR : Rp G n F σ s H locs) {id t len : Nat} (hk : kd id = (t, len)) (ht : 12 ≤ t ∧ t < 16) (hn : id < n) {v : Int32} (hv : Int32.ofNat len = v) (hdg : decode cc pc = .ok (.arraylength, 1))
    (kk : W p l e R s m args below meth c H locs cells slots Q (F0 m (pc + 1) ls (.int v :: rest))) : W p l e R s m args below meth c H locs cells slots Q (F0 m pc ls (.ref (G.2.2 + id) :: rest)) := by
  rcases (show t = 12 ∨ t = 13 ∨ t = 14 ∨ t = 15 by omega) with rfl | rfl | rfl | rfl
  · exact va_alen (D := G.1) (cl := vwCl) (ws := wld G n σ) (tys := tyl G) X.1 X.2.1 X.2.2.2.2.2.1 hR.1 id 0 (by rw [wld_get G σ hn, cellE_byte hk]) rfl hv hdg kk
  · exact va_alen (D := G.1) (cl := vwCl) (ws := wld G n σ) (tys := tyl G) X.1 X.2.1 X.2.2.2.2.2.1 hR.1 id 1 (by rw [wld_get G σ hn, cellE_int hk]) rfl hv hdg kk
  · exact va_alen (D := G.1) (cl := vwCl) (ws := wld G n σ) (tys := tyl G) X.1 X.2.1 X.2.2.2.2.2.1 hR.1 id 2 (by rw [wld_get G σ hn, cellE_long hk]) rfl hv hdg kk
  · exact va_alen (D := G.1) (cl := vwCl) (ws := wld G n σ) (tys := tyl G) X.1 X.2.1 X.2.2.2.2.2.1 hR.1 id 3 (by rw [wld_get G σ hn, cellE_bool hk]) rfl hv hdg kk
theorem q_ias (X : Cx p s m args c cc nL own G) (hR : Rp G n F σ s H locs) {id len : Nat} (hk : kd id = (13, len)) (hn : id < n) {i x : Int32} (hin : vp_in i len) (hdg : decode cc pc = .ok (.iastore, 1))
    (kk : ∀ (H1 : Heap) (locs1 : List Loc) (σ1 : Mm), σ1 = sI σ id i.toNatClampNeg x → Rp G n F σ1 s H1 locs1 → W p l e R s m args below meth c H1 locs1 cells slots Q (F0 m (pc + 1) ls rest)) : W p l e R s m args below meth c H locs cells slots Q (F0 m pc ls (.int x :: .int i :: .ref (G.2.2 + id) :: rest)) := by
  obtain ⟨hx, hb, hml, hown, hts, hK, hE⟩ := X
  obtain ⟨hP, hz, hS0, hRf⟩ := hR
  have hD := wld_D G n σ
  have ha : (wld G n σ)[id]? = some (G.2.2 + id, .inl (G.2.1 1, len, .inl (σ.1 id))) := by rw [wld_get G σ hn, cellE_int hk]
  refine W.iast hx hb (hP id _ ha) ((hK.2 1 _ rfl).1 len (fun j => .int (σ.1 id j))) (fun q => by cases q) (by show ¬ (i < 0 ∨ (arrV _ _ _).slots.size ≤ _); rw [arrV_size]; exact hin) rfl rfl hdg fun H1 e z oq => ?_
  refine kk H1 _ _ rfl ⟨?_, fun h => by rw [z]; exact hz h, hS0.put z oq (hD.2 id _ ha), Rf_sI hRf⟩
  rw [← wld_set (E := .inl (G.2.1 1, len, .inl (upd (σ.1 id) i.toNatClampNeg x))) (by rw [cellE_int hk]; simp [sI]) sI_ne]
  refine hP.set hD ha ?_ oq
  show H1[G.2.2 + id]? = some (vp_cell _ _)
  rw [e, vp_cell_i, vp_cell_i, arrV_store]
  congr 2
  funext q
  by_cases hq : q = i.toNatClampNeg
  · subst hq
    simp [updV, upd]
  · simp [updV, upd, hq]
theorem q_bas (X : Cx p s m args c cc nL own G) (hR : Rp G n F σ s H locs) {id len : Nat} (hk : kd id = (12, len)) (hn : id < n) {i x : Int32} (hin : vp_in i len) (hdg : decode cc pc = .ok (.bastore, 1))
    (kk : ∀ (H1 : Heap) (locs1 : List Loc) (σ1 : Mm), σ1 = sI σ id i.toNatClampNeg (vp_nar .byte x) → Rp G n F σ1 s H1 locs1 → W p l e R s m args below meth c H1 locs1 cells slots Q (F0 m (pc + 1) ls rest)) : W p l e R s m args below meth c H locs cells slots Q (F0 m pc ls (.int x :: .int i :: .ref (G.2.2 + id) :: rest)) := by
  obtain ⟨hx, hb, hml, hown, hts, hK, hE⟩ := X
  obtain ⟨hP, hz, hS0, hRf⟩ := hR
  have hD := wld_D G n σ
  have ha : (wld G n σ)[id]? = some (G.2.2 + id, .inl (G.2.1 0, len, .inl (σ.1 id))) := by rw [wld_get G σ hn, cellE_byte hk]
  refine W.bast hx hb (hP id _ ha) ((hK.2 0 _ rfl).1 len (fun j => .int (σ.1 id j))) (fun q => by cases q) (by show ¬ (i < 0 ∨ (arrV _ _ _).slots.size ≤ _); rw [arrV_size]; exact hin) rfl rfl hdg fun H1 e z oq => ?_
  refine kk H1 _ _ rfl ⟨?_, fun h => by rw [z]; exact hz h, hS0.put z oq (hD.2 id _ ha), Rf_sI hRf⟩
  rw [← wld_set (E := .inl (G.2.1 0, len, .inl (upd (σ.1 id) i.toNatClampNeg (vp_nar .byte x)))) (by rw [cellE_byte hk]; simp [sI]) sI_ne]
  refine hP.set hD ha ?_ oq
  show H1[G.2.2 + id]? = some (vp_cell _ _)
  rw [e, vp_cell_i, vp_cell_i, arrV_store]
  congr 2
  funext q
  by_cases hq : q = i.toNatClampNeg
  · subst hq
    simp [updV, upd, vp_nar]
    try rfl
  · simp [updV, upd, hq]
theorem q_zas (X : Cx p s m args c cc nL own G) (hR : Rp G n F σ s H locs) {id len : Nat} (hk : kd id = (15, len)) (hn : id < n) {i x : Int32} (hin : vp_in i len) (hdg : decode cc pc = .ok (.bastore, 1))
    (kk : ∀ (H1 : Heap) (locs1 : List Loc) (σ1 : Mm), σ1 = sI σ id i.toNatClampNeg (vp_nar .boolean x) → Rp G n F σ1 s H1 locs1 → W p l e R s m args below meth c H1 locs1 cells slots Q (F0 m (pc + 1) ls rest)) : W p l e R s m args below meth c H locs cells slots Q (F0 m pc ls (.int x :: .int i :: .ref (G.2.2 + id) :: rest)) := by
  obtain ⟨hx, hb, hml, hown, hts, hK, hE⟩ := X
  obtain ⟨hP, hz, hS0, hRf⟩ := hR
  have hD := wld_D G n σ
  have ha : (wld G n σ)[id]? = some (G.2.2 + id, .inl (G.2.1 3, len, .inl (σ.1 id))) := by rw [wld_get G σ hn, cellE_bool hk]
  refine W.zast hx hb (hP id _ ha) ((hK.2 3 _ rfl).1 len (fun j => .int (σ.1 id j))) (fun q => by cases q) (by show ¬ (i < 0 ∨ (arrV _ _ _).slots.size ≤ _); rw [arrV_size]; exact hin) rfl rfl hdg fun H1 e z oq => ?_
  refine kk H1 _ _ rfl ⟨?_, fun h => by rw [z]; exact hz h, hS0.put z oq (hD.2 id _ ha), Rf_sI hRf⟩
  rw [← wld_set (E := .inl (G.2.1 3, len, .inl (upd (σ.1 id) i.toNatClampNeg (vp_nar .boolean x)))) (by rw [cellE_bool hk]; simp [sI]) sI_ne]
  refine hP.set hD ha ?_ oq
  show H1[G.2.2 + id]? = some (vp_cell _ _)
  rw [e, vp_cell_i, vp_cell_i, arrV_store]
  congr 2
  funext q
  by_cases hq : q = i.toNatClampNeg
  · subst hq
    simp [updV, upd, vp_nar]
    try rfl
  · simp [updV, upd, hq]
theorem q_las (X : Cx p s m args c cc nL own G) (hR : Rp G n F σ s H locs) {id len : Nat} (hk : kd id = (14, len)) (hn : id < n) {i : Int32} {x : Int64} (hin : vp_in i len) (hdg : decode cc pc = .ok (.lastore, 1))
    (kk : ∀ (H1 : Heap) (locs1 : List Loc) (σ1 : Mm), σ1 = sL σ id i.toNatClampNeg x → Rp G n F σ1 s H1 locs1 → W p l e R s m args below meth c H1 locs1 cells slots Q (F0 m (pc + 1) ls rest)) : W p l e R s m args below meth c H locs cells slots Q (F0 m pc ls (.long x :: .int i :: .ref (G.2.2 + id) :: rest)) := by
  obtain ⟨hx, hb, hml, hown, hts, hK, hE⟩ := X
  obtain ⟨hP, hz, hS0, hRf⟩ := hR
  have hD := wld_D G n σ
  have ha : (wld G n σ)[id]? = some (G.2.2 + id, .inl (G.2.1 2, len, .inr (.inl (σ.2.1 id)))) := by rw [wld_get G σ hn, cellE_long hk]
  refine W.last hx hb (hP id _ ha) ((hK.2 2 _ rfl).1 len (fun j => .long (σ.2.1 id j))) (fun q => by cases q) (by show ¬ (i < 0 ∨ (arrV _ _ _).slots.size ≤ _); rw [arrV_size]; exact hin) rfl rfl hdg fun H1 e z oq => ?_
  refine kk H1 _ _ rfl ⟨?_, fun h => by rw [z]; exact hz h, hS0.put z oq (hD.2 id _ ha), Rf_sL hRf⟩
  rw [← wld_set (E := .inl (G.2.1 2, len, .inr (.inl (vp_updL (σ.2.1 id) i.toNatClampNeg x)))) (by rw [cellE_long hk]; simp [sL]) sL_ne]
  refine hP.set hD ha ?_ oq
  show H1[G.2.2 + id]? = some (vp_cell _ _)
  rw [e, vp_cell_l, vp_cell_l, arrV_store]
  congr 2
  funext q
  by_cases hq : q = i.toNatClampNeg
  · subst hq
    simp [updV, vp_updL]
  · simp [updV, vp_updL, hq]
end QRows
-- THE WORDS OF THE PURE FUNCTIONS (none: an index outside, a wrong cell, no more fuel)
def z_l {α β : Type} (v : α) (k : α → β) : β := k v
def z_c {β : Type} (b : Bool) (x : Option β) : Option β := if b = true then x else none
def z_b {α β : Type} (x : Option (α × Mm)) (k : α → Mm → Option β) : Option β := match x with
  | some q => k q.1 q.2
  | none => none
def z_r {β : Type} (r : Option Nat) (ci : Nat) (k : Nat → Option β) : Option β := match r with
  | some t => if (kd t).1 = ci then k t else none
  | none => none
def inB (i : Int32) (n : Nat) : Bool := !(decide (i < 0) || decide (n ≤ i.toNatClampNeg))
abbrev ix (i : Int32) : Nat := i.toNatClampNeg
theorem z_l_e {α β : Type} {x v : α} {k : α → β} {z : β} (e : x = v) (h : z_l v k = z) : k x = z := by subst e; exact h
theorem z_c_e {β : Type} {b : Bool} {x : Option β} {y : β} (h : z_c b x = some y) : b = true ∧ x = some y := by
  unfold z_c at h
  by_cases hb : b = true
  · rw [if_pos hb] at h; exact ⟨hb, h⟩
  · rw [if_neg hb] at h; cases h
theorem z_b_e {α β : Type} {x : Option (α × Mm)} {k : α → Mm → Option β} {y : β} (h : z_b x k = some y) : ∃ (r : α) (τ : Mm), x = some (r, τ) ∧ k r τ = some y := by
  cases x with
  | none => cases h
  | some q => exact ⟨q.1, q.2, rfl, h⟩
theorem z_r_e {β : Type} {r : Option Nat} {ci : Nat} {k : Nat → Option β} {y : β} (h : z_r r ci k = some y) : ∃ t : Nat, r = some t ∧ (kd t).1 = ci ∧ k t = some y := by
  cases r with
  | none => cases h
  | some t =>
    unfold z_r at h
    by_cases hc : (kd t).1 = ci
    · dsimp only at h
      rw [if_pos hc] at h
      exact ⟨t, rfl, hc, h⟩
    · dsimp only at h
      rw [if_neg hc] at h; cases h
theorem z_t {β : Type} {c : Prop} [Decidable c] {x y z : β} (hc : c) (h : (if c then x else y) = z) : x = z := by rw [if_pos hc] at h; exact h
theorem z_f {β : Type} {c : Prop} [Decidable c] {x y z : β} (hc : ¬ c) (h : (if c then x else y) = z) : y = z := by rw [if_neg hc] at h; exact h
theorem inB_in {i : Int32} {n : Nat} (h : inB i n = true) : vp_in i n := by
  unfold inB at h
  unfold vp_in
  simpa using h
theorem z_ne0 {x : Int32} (h : (!(x == 0)) = true) : ¬ x = 0 := by simpa using h
def isZ (v : Int32) : Bool := decide (v = 0 ∨ v = 1)
theorem isZ_n {v : Int32} (h : isZ v = true) : narrow .boolean (.int v) = .int v := by
  rcases of_decide_eq_true h with rfl | rfl <;> rfl
theorem isZ_f {v : Int32} (h : isZ v = true) : fits .boolean (.int v) = true := by
  rcases of_decide_eq_true h with rfl | rfl <;> rfl
-- CONTRACTS
abbrev WS (y : MethodName) (cc : ByteArray) (nL : Nat) (ret : Option FieldType) : List Cond := Cond.code y cc nL ret :: lw_g
def P_i (G : Gp) (n : Nat) (F : Nat → Bool) (r0 : Int32) (σ0 : Mm) : Array Value → State → Outcome → State → Prop := va_Qi (fun (r : Int32) (u : Mm) => r = r0 ∧ u = σ0) (fun u t => Wd G n F u t) (Fr G)
def P_l (G : Gp) (n : Nat) (F : Nat → Bool) (r0 : Int64) (σ0 : Mm) : Array Value → State → Outcome → State → Prop := va_Ql (fun (r : Int64) (u : Mm) => r = r0 ∧ u = σ0) (fun u t => Wd G n F u t) (Fr G)
def P_v (G : Gp) (n : Nat) (F : Nat → Bool) (r0 : Unit) (σ0 : Mm) : Array Value → State → Outcome → State → Prop := va_Qv (fun (u : Mm) => u = σ0) (fun u t => Wd G n F u t) (Fr G)
theorem Wd_moved {G : Gp} {n : Nat} {F : Nat → Bool} {σ : Mm} {s U : State} {H : Heap} (hP : va_P G.1 vwCl (wld G n σ) H) (hz : n < 212 → H.size = G.2.2 + n) (hK : va_K G.1 vwCl (tyl G) s) (hF : Rf F σ) (hU : U.heap = H) (hW : s.vm.Alike U.vm) : Wd G n F σ U :=
  ⟨by rw [hU]; exact hP, fun h => by rw [hU]; exact hz h, va_K.moved hW hK, hF⟩
def Pd (G : Gp) (n : Nat) (F : Nat → Bool) (σ : Mm) (U : State) : Prop := Wd G n F σ U ∧ Ex G U
theorem Pd_blind {G : Gp} {n : Nat} {F : Nat → Bool} {σ : Mm} {av : List Value} : FrameBlind (va_Pc av (Pd G n F σ)) := by
  intro a U g mk q
  obtain ⟨q0, ⟨q1, q2, q3, q4⟩, q5⟩ := q
  exact ⟨q0, ⟨q1, q2, va_K.moved (u := U) (U := U.calling g mk a) (Vm.Alike.refl U.vm) q3, q4⟩, Ex_call q5⟩
theorem lw_goodIn {w : Cond} (h : w ∈ lw_g) : w ∈ lw_g ∧ ((w.onTables && w.keeps) = true ∨ ∃ ty, w = .arrayClass ty) := ⟨h, good_of_word (List.mem_filter.mp h).2⟩
theorem WS_good {y : MethodName} {cc : ByteArray} {nL : Nat} {ret : Option FieldType} (h : Cond.code y cc nL ret ∈ lw_g) : GoodIn lw_g (WS y cc nL ret) := by
  intro w hw
  rcases List.mem_cons.mp hw with rfl | hw
  · exact lw_goodIn h
  · exact lw_goodIn hw
/-- a call's words: an instance method of class number ci -/
def MV (own : String) (index ci : Nat) (y : MethodName) (cc : ByteArray) (nL : Nat) (ret : Option FieldType) (na : Nat) : Prop :=
  Cond.methodLink own index y ∈ lw_g ∧ Cond.instanceMethod y ∈ lw_g ∧ Cond.selects (clC ci) y y ∈ lw_g ∧ Cond.initialized (clC ci) ∈ lw_g ∧ Cond.code y cc nL ret ∈ lw_g ∧ ci < 12 ∧
  (y.cls = clC ci ∧ y.cls ≠ "java/lang/invoke/MethodHandle" ∧ y.cls ≠ "java/lang/invoke/VarHandle" ∧ (parseMethodDescriptor y.desc).map (fun d => d.parameters.length) = some na)
def MS (own : String) (index : Nat) (y : MethodName) (cc : ByteArray) (nL : Nat) (ret : Option FieldType) (na : Nat) : Prop :=
  Cond.methodLink own index y ∈ lw_g ∧ Cond.static y ∈ lw_g ∧ Cond.initialized y.cls ∈ lw_g ∧ Cond.code y cc nL ret ∈ lw_g ∧
  (y.cls ≠ "java/lang/invoke/MethodHandle" ∧ y.cls ≠ "java/lang/invoke/VarHandle" ∧ (parseMethodDescriptor y.desc).map (fun d => d.parameters.length) = some na)
def RM (rm R : Room) (nL : Nat) : Prop := rm.cells = 0 ∧ rm.slots = 0 ∧ rm.frames + 1 ≤ R.frames ∧ 8 + (nL + 11) + rm.locals ≤ R.locals
section CRows
variable {p : Program} {l : Launch} {e : Env} {R : Room} {s : State} {m : MethodId} {args : Array Value} {below : List Frame} {meth : Method} {c : Code} {H : Heap} {locs : List Loc} {cells slots : Nat} {Q : State → Prop}
variable {cc : ByteArray} {pc : Nat} {ls : Array Slot} {rest : List Value} {own : String} {nL : Nat} {G : Gp} {n : Nat} {F : Nat → Bool} {σ : Mm}
variable {y : MethodName} {cy : ByteArray} {nY : Nat} {ret : Option FieldType} {rm : Room} {index ci na id : Nat} {As : List Value} {Qc : Array Value → State → Outcome → State → Prop}
theorem mv_cw (X : Cx p s m args c cc nL own G) (mv : MV own index ci y cy nY ret na) (hrm : RM rm R nY) : CallW R s args own (clC ci) index y cy nY ret (WS y cy nY ret) rm 0 0 na := by
  obtain ⟨hx, hb, hml, hown, hts, hK, hE⟩ := X
  obtain ⟨h1, h2, h3, h4, h5, h6, hd⟩ := mv
  refine cwV (Ts := lw_g) (ws' := lw_g) na hts ?_ rfl hrm.1 hrm.2.1 hd hrm.2.2
  intro w hw
  unfold wsV at hw
  rcases List.mem_append.mp hw with hw | hw
  · simp only [List.mem_cons, List.not_mem_nil, or_false] at hw
    rcases hw with rfl | rfl | rfl | rfl
    · exact lw_goodIn h1
    · exact lw_goodIn h2
    · exact lw_goodIn h3
    · exact lw_goodIn h4
  · exact WS_good h5 w hw
theorem ms_cb (X : Cx p s m args c cc nL own G) (ms : MS own index y cy nY ret na) (hrm : RM rm R nY) : CallB R s args own index y cy nY ret (WS y cy nY ret) rm 0 0 na ∧ (Cond.static y).before args s = true := by
  obtain ⟨hx, hb, hml, hown, hts, hK, hE⟩ := X
  obtain ⟨h1, h2, h3, h4, hd⟩ := ms
  exact ⟨callB_of (Ts := lw_g) (ws' := lw_g) na hts (WS_good h4) rfl hrm.1 hrm.2.1 (hts _ h3) (hts _ h1) hd hrm.2.2, hts _ h2⟩
theorem mv_run (X : Cx p s m args c cc nL own G) (hR : Rp G n F σ s H locs) (mv : MV own index ci y cy nY ret na) (hid : (kd id).1 = ci) (hn : id < n) (hM : Met l y (WS y cy nY ret) rm (va_Pc (.ref (G.2.2 + id) :: As) (Pd G n F σ)) Qc 0 0 (Fr G)) (hrm : RM rm R nY) (hna : As.length = na) (hls : ls.size = nL) {st0 : List Value} (hst : st0 = As.reverse ++ .ref (G.2.2 + id) :: rest) (hW : (rest.map fun v => v.category).sum ≤ 8) (hdg : decode cc pc = .ok (.invokevirtual index, 3)) (hf : cells ≤ R.cells ∧ slots ≤ R.slots) :
    va_Run p l e R s m args below meth c H locs cells slots 0 0 (F0 m pc ls st0) rest (Qc (Value.ref (G.2.2 + id) :: As).toArray) (Fr G) := by
  have cw := mv_cw X mv hrm
  obtain ⟨hx, hb, hml, hown, hts, hK, hE⟩ := X
  obtain ⟨hP, hz, hS0, hRf⟩ := hR
  obtain ⟨h1, h2, h3, h4, h5, h6, hd⟩ := mv
  refine va_runV (Ts := lw_g) (As := As) (rest := rest) ⟨hx, hb, hml, hown, hts⟩ hM cw ⟨Pd_blind, va_recv (D := G.1) (cl := vwCl) (ws := wld G n σ) (tys := tyl G) (ci := ci) (q := (clC ci, clT ci, clN ci)) (q0 := id) hK hP (vw_at h6) (by rw [wld_get G σ hn, cellE_obj hid h6]), fun U hU hW => ⟨rfl, Wd_moved hP hz hK hRf hU hW.alike, Ex_warm hE hS0 hU hW⟩⟩ rfl hna hls hst (lv_room hW) hdg ?_
  exact hf
theorem ms_run (X : Cx p s m args c cc nL own G) (hR : Rp G n F σ s H locs) (ms : MS own index y cy nY ret na) (hM : Met l y (WS y cy nY ret) rm (va_Pc As (Pd G n F σ)) Qc 0 0 (Fr G)) (hrm : RM rm R nY) (hna : As.length = na) (hls : ls.size = nL) {st0 : List Value} (hst : st0 = As.reverse ++ rest) (hW : (rest.map fun v => v.category).sum ≤ 8) (hdg : decode cc pc = .ok (.invokestatic index, 3)) (hf : cells ≤ R.cells ∧ slots ≤ R.slots) :
    va_Run p l e R s m args below meth c H locs cells slots 0 0 (F0 m pc ls st0) rest (Qc As.toArray) (Fr G) := by
  have cw := ms_cb X ms hrm
  obtain ⟨hx, hb, hml, hown, hts, hK, hE⟩ := X
  obtain ⟨hP, hz, hS0, hRf⟩ := hR
  exact va_runS (Ts := lw_g) (As := As) (rest := rest) ⟨hx, hb, hml, hown, hts⟩ hM cw ⟨Pd_blind, fun U hU hW => ⟨rfl, Wd_moved hP hz hK hRf hU hW.alike, Ex_warm hE hS0 hU hW⟩⟩ rfl hna hls hst (lv_room hW) hdg hf
variable {r0 : Int32} {l0 : Int64} {u0 : Unit} {σ0 : Mm} {n1 : Nat} {F1 : Nat → Bool} {st0 : List Value} {a : Array Value}
theorem go_i (hR : Rp G n F σ s H locs) (hr : va_Run p l e R s m args below meth c H locs cells slots 0 0 (F0 m pc ls st0) rest (P_i G n1 F1 r0 σ0 a) (Fr G))
    (kk : ∀ (H1 : Heap) (locs1 : List Loc), Rp G n1 F1 σ0 s H1 locs1 → W p l e R s m args below meth c H1 locs1 cells slots Q (F0 m (pc + 3) ls (.int r0 :: rest))) : W p l e R s m args below meth c H locs cells slots Q (F0 m pc ls st0) := by
  refine va_calli hr hR.2.2.1 (fun q _ h => h) (fun q h => h) (fun r u t H1 locs1 ht hvm hw hB hz hk hS => ?_)
  obtain ⟨rfl, rfl⟩ := hw
  obtain ⟨b1, b2, b3, b4⟩ := hB
  rw [ht] at b1 b2
  exact kk H1 locs1 ⟨b1, b2, hS, b4⟩
theorem go_l (hR : Rp G n F σ s H locs) (hr : va_Run p l e R s m args below meth c H locs cells slots 0 0 (F0 m pc ls st0) rest (P_l G n1 F1 l0 σ0 a) (Fr G))
    (kk : ∀ (H1 : Heap) (locs1 : List Loc), Rp G n1 F1 σ0 s H1 locs1 → W p l e R s m args below meth c H1 locs1 cells slots Q (F0 m (pc + 3) ls (.long l0 :: rest))) : W p l e R s m args below meth c H locs cells slots Q (F0 m pc ls st0) := by
  refine va_calll hr hR.2.2.1 (fun q _ h => h) (fun q h => h) (fun r u t H1 locs1 ht hvm hw hB hz hk hS => ?_)
  obtain ⟨rfl, rfl⟩ := hw
  obtain ⟨b1, b2, b3, b4⟩ := hB
  rw [ht] at b1 b2
  exact kk H1 locs1 ⟨b1, b2, hS, b4⟩
theorem go_v (hR : Rp G n F σ s H locs) (hr : va_Run p l e R s m args below meth c H locs cells slots 0 0 (F0 m pc ls st0) rest (P_v G n1 F1 u0 σ0 a) (Fr G))
    (kk : ∀ (H1 : Heap) (locs1 : List Loc), Rp G n1 F1 σ0 s H1 locs1 → W p l e R s m args below meth c H1 locs1 cells slots Q (F0 m (pc + 3) ls rest)) : W p l e R s m args below meth c H locs cells slots Q (F0 m pc ls st0) := by
  refine va_callv hr hR.2.2.1 (fun q _ h => h) (fun q h => h) (fun u t H1 locs1 ht hvm hw hB hz hk hS => ?_)
  subst hw
  obtain ⟨b1, b2, b3, b4⟩ := hB
  rw [ht] at b1 b2
  exact kk H1 locs1 ⟨b1, b2, hS, b4⟩
-- ENDS
theorem e_i (X : Cx p s m args c cc nL own G) (hR : Rp G n F σ s H locs) (hr : meth.sig.returnType = some .int) (hlk : meth.locks = false) {v : Int32} (hf : some (v, σ) = some (r0, σ0)) (hdg : decode cc pc = .ok (.ireturn, 1)) :
    W p l e R s m args below meth c H locs cells slots (MQ below (P_i G n F r0 σ0) args s cells slots (Fr G)) (F0 m pc ls [.int v]) := by
  obtain ⟨rfl, rfl⟩ := Prod.mk.inj (Option.some.inj hf)
  exact W.iret X.1 X.2.1 hr (fun t ht hW => ⟨⟨v, σ, rfl, ⟨rfl, rfl⟩, Wd_moved hR.1 hR.2.1 X.2.2.2.2.2.1 hR.2.2.2 ht hW.alike⟩, hR.2.2.1.F ht⟩) hR.2.2.1.2.2 hdg hlk
theorem e_z (X : Cx p s m args c cc nL own G) (hR : Rp G n F σ s H locs) (hr : meth.sig.returnType = some .boolean) (hlk : meth.locks = false) {v : Int32} (hv : isZ v = true) (hf : some (v, σ) = some (r0, σ0)) (hdg : decode cc pc = .ok (.ireturn, 1)) :
    W p l e R s m args below meth c H locs cells slots (MQ below (P_i G n F r0 σ0) args s cells slots (Fr G)) (F0 m pc ls [.int v]) := by
  obtain ⟨rfl, rfl⟩ := Prod.mk.inj (Option.some.inj hf)
  exact W.zret X.1 X.2.1 hr (isZ_n hv) (fun t ht hW => ⟨⟨v, σ, rfl, ⟨rfl, rfl⟩, Wd_moved hR.1 hR.2.1 X.2.2.2.2.2.1 hR.2.2.2 ht hW.alike⟩, hR.2.2.1.F ht⟩) hR.2.2.1.2.2 hdg hlk
theorem e_l (X : Cx p s m args c cc nL own G) (hR : Rp G n F σ s H locs) (hr : meth.sig.returnType = some .long) (hlk : meth.locks = false) {v : Int64} (hf : some (v, σ) = some (l0, σ0)) (hdg : decode cc pc = .ok (.lreturn, 1)) :
    W p l e R s m args below meth c H locs cells slots (MQ below (P_l G n F l0 σ0) args s cells slots (Fr G)) (F0 m pc ls [.long v]) := by
  obtain ⟨rfl, rfl⟩ := Prod.mk.inj (Option.some.inj hf)
  exact W.lret X.1 X.2.1 hr (fun t ht hW => ⟨⟨v, σ, rfl, ⟨rfl, rfl⟩, Wd_moved hR.1 hR.2.1 X.2.2.2.2.2.1 hR.2.2.2 ht hW.alike⟩, hR.2.2.1.F ht⟩) hR.2.2.1.2.2 hdg hlk
theorem e_v (X : Cx p s m args c cc nL own G) (hR : Rp G n F σ s H locs) (hr : meth.sig.returnType = none) (hlk : meth.locks = false) (hf : some ((), σ) = some (u0, σ0)) (hdg : decode cc pc = .ok (.return_, 1)) :
    W p l e R s m args below meth c H locs cells slots (MQ below (P_v G n F u0 σ0) args s cells slots (Fr G)) (F0 m pc ls []) := by
  obtain ⟨rfl, rfl⟩ := Prod.mk.inj (Option.some.inj hf)
  exact W.vret X.1 X.2.1 hr (fun t ht hW => ⟨⟨σ, rfl, rfl, Wd_moved hR.1 hR.2.1 X.2.2.2.2.2.1 hR.2.2.2 ht hW.alike⟩, hR.2.2.1.F ht⟩) hR.2.2.1.2.2 hdg hlk
end CRows
/-- a method's start -/
theorem ct {l : Launch} {y : MethodName} {cc : ByteArray} {nL : Nat} {ret : Option FieldType} {rm : Room} {G : Gp} {n : Nat} {F : Nat → Bool} {σ : Mm} {av : List Value} {Qc : Array Value → State → Outcome → State → Prop} (lv : List (Nat × Value)) (hlv : lv_args 0 av = lv) (hy : plainName y.cls = true) (hlen : (lg_sl av).length ≤ nL)
    (body : ∀ (p : Program) (e : Env) (s : State) (m : MethodId) (below : List Frame) (meth : Method) (c : Code) (ls : Array Slot), Cx p s m av.toArray c cc nL y.cls G → meth.sig.returnType = ret → meth.locks = false → Rp G n F σ s s.heap [] → lv_has ls nL lv →
      W p l e rm s m av.toArray below meth c s.heap [] 0 0 (MQ below Qc av.toArray s 0 0 (Fr G)) (F0 m 0 ls [])) : Met l y (WS y cc nL ret) rm (va_Pc av (Pd G n F σ)) Qc 0 0 (Fr G) := by
  refine Met.ofW (cc := cc) (maxL := nL) (ret := ret) hy rfl ?_
  intro p e s m args below meth c s₁ B hml hv
  obtain ⟨rfl, ⟨hP, hz, hK, hRf⟩, hE⟩ := hv
  have hts := atoms_spec (ws := WS y cc nL ret) B.pre
  have hown : s.vm.findClass y.cls = some m.cls := findClass_of_methodNamed B.named
  have hl := lv_entry av hlen
  rw [hlv] at hl
  rw [lg_entry_eq]
  exact body p e s m below meth c _ ⟨B.exec, B.bytes, hml, hown, fun w h => hts w (List.mem_cons_of_mem _ h), hK, hE⟩ B.returns B.notSynchronized ⟨hP, hz, va_S.rf, hRf⟩ hl
def FKi (own : String) (index ci k : Nat) : Prop := FK own index ci k ∧ isRf ci k = false
def FKr (own : String) (index ci k : Nat) : Prop := FK own index ci k ∧ isRf ci k = true
def FPi (own : String) (index ci k : Nat) : Prop := FP own index ci k .int ∧ isRf ci k = false
def FPz (own : String) (index ci k : Nat) : Prop := FP own index ci k .boolean ∧ isRf ci k = false
def FPr (own : String) (index ci k : Nat) (C : String) : Prop := FP own index ci k (.object C) ∧ isRf ci k = true
def ush (x y : Int32) : Int32 := (x.toUInt32 >>> (y.toUInt32 &&& Int32.toUInt32 31)).toInt32
theorem sw_out (x : Int32) (lo : Int) (n : Nat) (h0 : 0 ≤ lo) (h1 : lo + n < 2147483648) (h : ∀ j : Nat, j < n → x ≠ Int32.ofInt (lo + j)) : x.toInt < lo ∨ lo + n - 1 < x.toInt := by
  rcases Int.lt_or_le x.toInt lo with q | q
  · exact Or.inl q
  · rcases Int.lt_or_le (lo + n - 1) x.toInt with q2 | q2
    · exact Or.inr q2
    · exfalso
      refine h (x.toInt - lo).toNat (by omega) ?_
      have e : lo + ((x.toInt - lo).toNat : Int) = x.toInt := by omega
      rw [e]
      exact (Int32.ofInt_toInt x).symm
abbrev mxI (x y : Int32) : Int32 := if x < y then y else x
abbrev mnI (x y : Int32) : Int32 := if y < x then y else x
abbrev abI (x : Int32) : Int32 := if 0 ≤ x then x else 0 - x
theorem jc_nat : Cond.native arraycopyName ∈ lw_g := in_g (List.mem_of_getElem? (i := 841) (by decide +kernel)) rfl
theorem jc_sta : Cond.static arraycopyName ∈ lw_g := in_g (List.mem_of_getElem? (i := 840) (by decide +kernel)) rfl
theorem jc_ini : Cond.initialized "java/lang/System" ∈ lw_g := in_g (List.mem_of_getElem? (i := 123) (by decide +kernel)) rfl
theorem jm_ini : Cond.initialized "java/lang/Math" ∈ lw_g := in_g (List.mem_of_getElem? (i := 121) (by decide +kernel)) rfl
theorem jm_max_s : Cond.static Lib.Math.max.name ∈ lw_g := in_g (List.mem_of_getElem? (i := 663) (by decide +kernel)) rfl
theorem jm_min_s : Cond.static Lib.Math.min.name ∈ lw_g := in_g (List.mem_of_getElem? (i := 666) (by decide +kernel)) rfl
theorem jm_abs_s : Cond.static Lib.Math.abs.name ∈ lw_g := in_g (List.mem_of_getElem? (i := 1037) (by decide +kernel)) rfl
theorem jm_max_c : Cond.code Lib.Math.max.name Lib.Math.max.code 2 (some .int) ∈ lw_g := in_g (List.mem_of_getElem? (i := 664) (by decide +kernel)) rfl
theorem jm_min_c : Cond.code Lib.Math.min.name Lib.Math.min.code 2 (some .int) ∈ lw_g := in_g (List.mem_of_getElem? (i := 667) (by decide +kernel)) rfl
theorem jm_abs_c : Cond.code Lib.Math.abs.name Lib.Math.abs.code 1 (some .int) ∈ lw_g := in_g (List.mem_of_getElem? (i := 1038) (by decide +kernel)) rfl
section RRows
variable {p : Program} {l : Launch} {e : Env} {R : Room} {s : State} {m : MethodId} {args : Array Value} {below : List Frame} {meth : Method} {c : Code} {H : Heap} {locs : List Loc} {cells slots : Nat} {Q : State → Prop}
variable {cc : ByteArray} {pc : Nat} {ls : Array Slot} {rest : List Value} {own : String} {nL : Nat} {G : Gp} {σ : Mm}
theorem r_gi (X : Cx p s m args c cc nL own G) (hR : Rp G 212 tt σ s H locs) {id k ci index : Nat} (fk : FKi own index ci k) (hid : (kd id).1 = ci) (hdg : decode cc pc = .ok (.getfield index, 3))
    (kk : W p l e R s m args below meth c H locs cells slots Q (F0 m (pc + 3) ls (.int (gI σ id k) :: rest))) : W p l e R s m args below meth c H locs cells slots Q (F0 m pc ls (.ref (G.2.2 + id) :: rest)) :=
  q_gi X hR fk.1 fk.2 hid (kd_lt hid (by have := fk.1.1; omega)) hdg kk
theorem r_gs (X : Cx p s m args c cc nL own G) (hR : Rp G 212 tt σ s H locs) {id k ci index : Nat} (fk : FKr own index ci k) (hid : (kd id).1 = ci) {t : Nat} (ht : st id k = some t) (hdg : decode cc pc = .ok (.getfield index, 3))
    (kk : W p l e R s m args below meth c H locs cells slots Q (F0 m (pc + 3) ls (.ref (G.2.2 + t) :: rest))) : W p l e R s m args below meth c H locs cells slots Q (F0 m pc ls (.ref (G.2.2 + id) :: rest)) :=
  q_gr X hR fk.1 fk.2 hid (kd_lt hid (by have := fk.1.1; omega)) (hR.2.2.2 id k t rfl ht) hdg kk
theorem r_gd (X : Cx p s m args c cc nL own G) (hR : Rp G 212 tt σ s H locs) {id k ci index : Nat} (fk : FKr own index ci k) (hid : (kd id).1 = ci) {t : Nat} (ht : gR σ id k = some t) (hdg : decode cc pc = .ok (.getfield index, 3))
    (kk : W p l e R s m args below meth c H locs cells slots Q (F0 m (pc + 3) ls (.ref (G.2.2 + t) :: rest))) : W p l e R s m args below meth c H locs cells slots Q (F0 m pc ls (.ref (G.2.2 + id) :: rest)) :=
  q_gr X hR fk.1 fk.2 hid (kd_lt hid (by have := fk.1.1; omega)) ht hdg kk
theorem r_pi (X : Cx p s m args c cc nL own G) (hR : Rp G 212 tt σ s H locs) {id k ci index : Nat} (fp : FPi own index ci k) (hid : (kd id).1 = ci) {v : Int32} (hdg : decode cc pc = .ok (.putfield index, 3))
    (kk : ∀ (H1 : Heap) (locs1 : List Loc) (σ1 : Mm), σ1 = sI σ id k v → Rp G 212 tt σ1 s H1 locs1 → W p l e R s m args below meth c H1 locs1 cells slots Q (F0 m (pc + 3) ls rest)) : W p l e R s m args below meth c H locs cells slots Q (F0 m pc ls (.int v :: .ref (G.2.2 + id) :: rest)) :=
  q_pi X hR fp.1 fp.2 hid (kd_lt hid (by have := fp.1.1.1; omega)) hdg kk
theorem r_pz (X : Cx p s m args c cc nL own G) (hR : Rp G 212 tt σ s H locs) {id k ci index : Nat} (fp : FPz own index ci k) (hid : (kd id).1 = ci) {v : Int32} (hz : isZ v = true) (hdg : decode cc pc = .ok (.putfield index, 3))
    (kk : ∀ (H1 : Heap) (locs1 : List Loc) (σ1 : Mm), σ1 = sI σ id k v → Rp G 212 tt σ1 s H1 locs1 → W p l e R s m args below meth c H1 locs1 cells slots Q (F0 m (pc + 3) ls rest)) : W p l e R s m args below meth c H locs cells slots Q (F0 m pc ls (.int v :: .ref (G.2.2 + id) :: rest)) :=
  q_pz X hR fp.1 fp.2 hid (kd_lt hid (by have := fp.1.1.1; omega)) (isZ_n hz) (isZ_f hz) hdg kk
theorem r_pr (X : Cx p s m args c cc nL own G) (hR : Rp G 212 tt σ s H locs) {id k ci index : Nat} {C : String} (fp : FPr own index ci k C) (hid : (kd id).1 = ci) {t : Nat} (hst : st id k = none) (hdg : decode cc pc = .ok (.putfield index, 3))
    (kk : ∀ (H1 : Heap) (locs1 : List Loc) (σ1 : Mm), σ1 = sR σ id k (some t) → Rp G 212 tt σ1 s H1 locs1 → W p l e R s m args below meth c H1 locs1 cells slots Q (F0 m (pc + 3) ls rest)) : W p l e R s m args below meth c H locs cells slots Q (F0 m pc ls (.ref (G.2.2 + t) :: .ref (G.2.2 + id) :: rest)) :=
  q_pr X hR fp.1 fp.2 hid (kd_lt hid (by have := fp.1.1.1; omega)) hst hdg kk
theorem r_ial (X : Cx p s m args c cc nL own G) (hR : Rp G 212 tt σ s H locs) {id len : Nat} (hk : kd id = (13, len)) {i : Int32} (hin : inB i len = true) (hdg : decode cc pc = .ok (.iaload, 1))
    (kk : W p l e R s m args below meth c H locs cells slots Q (F0 m (pc + 1) ls (.int (gI σ id (ix i)) :: rest))) : W p l e R s m args below meth c H locs cells slots Q (F0 m pc ls (.int i :: .ref (G.2.2 + id) :: rest)) :=
  q_ial X hR hk (kd_ltA hk (by decide)) (inB_in hin) hdg kk
theorem r_bal (X : Cx p s m args c cc nL own G) (hR : Rp G 212 tt σ s H locs) {id len : Nat} (hk : kd id = (12, len)) {i : Int32} (hin : inB i len = true) (hdg : decode cc pc = .ok (.baload, 1))
    (kk : W p l e R s m args below meth c H locs cells slots Q (F0 m (pc + 1) ls (.int (gI σ id (ix i)) :: rest))) : W p l e R s m args below meth c H locs cells slots Q (F0 m pc ls (.int i :: .ref (G.2.2 + id) :: rest)) :=
  q_bal X hR hk (kd_ltA hk (by decide)) (inB_in hin) hdg kk
theorem r_zal (X : Cx p s m args c cc nL own G) (hR : Rp G 212 tt σ s H locs) {id len : Nat} (hk : kd id = (15, len)) {i : Int32} (hin : inB i len = true) (hdg : decode cc pc = .ok (.baload, 1))
    (kk : W p l e R s m args below meth c H locs cells slots Q (F0 m (pc + 1) ls (.int (gI σ id (ix i)) :: rest))) : W p l e R s m args below meth c H locs cells slots Q (F0 m pc ls (.int i :: .ref (G.2.2 + id) :: rest)) :=
  q_zal X hR hk (kd_ltA hk (by decide)) (inB_in hin) hdg kk
theorem r_lal (X : Cx p s m args c cc nL own G) (hR : Rp G 212 tt σ s H locs) {id len : Nat} (hk : kd id = (14, len)) {i : Int32} (hin : inB i len = true) (hdg : decode cc pc = .ok (.laload, 1))
    (kk : W p l e R s m args below meth c H locs cells slots Q (F0 m (pc + 1) ls (.long (gL σ id (ix i)) :: rest))) : W p l e R s m args below meth c H locs cells slots Q (F0 m pc ls (.int i :: .ref (G.2.2 + id) :: rest)) :=
  q_lal X hR hk (kd_ltA hk (by decide)) (inB_in hin) hdg kk
theorem r_aal (X : Cx p s m args c cc nL own G) (hR : Rp G 212 tt σ s H locs) {id len : Nat} (hk : kd id = (17, len) ∨ kd id = (16, len)) {i : Int32} (hin : inB i len = true) {t : Nat} (ht : st id (ix i) = some t) (hdg : decode cc pc = .ok (.aaload, 1))
    (kk : W p l e R s m args below meth c H locs cells slots Q (F0 m (pc + 1) ls (.ref (G.2.2 + t) :: rest))) : W p l e R s m args below meth c H locs cells slots Q (F0 m pc ls (.int i :: .ref (G.2.2 + id) :: rest)) :=
  q_aal X hR hk (hk.elim (fun h => kd_ltA h (by decide)) (fun h => kd_ltA h (by decide))) (inB_in hin) (hR.2.2.2 id _ t rfl ht) hdg kk
theorem r_len (X : Cx p s m args c cc nL own G) (hR : Rp G 212 tt σ s H locs) {id t len : Nat} (hk : kd id = (t, len)) (ht : 12 ≤ t ∧ t < 16) {v : Int32} (hv : Int32.ofNat len = v) (hdg : decode cc pc = .ok (.arraylength, 1))
    (kk : W p l e R s m args below meth c H locs cells slots Q (F0 m (pc + 1) ls (.int v :: rest))) : W p l e R s m args below meth c H locs cells slots Q (F0 m pc ls (.ref (G.2.2 + id) :: rest)) :=
  q_len X hR hk ht (kd_ltA hk (by omega)) hv hdg kk
theorem r_ias (X : Cx p s m args c cc nL own G) (hR : Rp G 212 tt σ s H locs) {id len : Nat} (hk : kd id = (13, len)) {i x : Int32} (hin : inB i len = true) (hdg : decode cc pc = .ok (.iastore, 1))
    (kk : ∀ (H1 : Heap) (locs1 : List Loc) (σ1 : Mm), σ1 = sI σ id (ix i) x → Rp G 212 tt σ1 s H1 locs1 → W p l e R s m args below meth c H1 locs1 cells slots Q (F0 m (pc + 1) ls rest)) : W p l e R s m args below meth c H locs cells slots Q (F0 m pc ls (.int x :: .int i :: .ref (G.2.2 + id) :: rest)) :=
  q_ias X hR hk (kd_ltA hk (by decide)) (inB_in hin) hdg kk
theorem r_bas (X : Cx p s m args c cc nL own G) (hR : Rp G 212 tt σ s H locs) {id len : Nat} (hk : kd id = (12, len)) {i x : Int32} (hin : inB i len = true) (hdg : decode cc pc = .ok (.bastore, 1))
    (kk : ∀ (H1 : Heap) (locs1 : List Loc) (σ1 : Mm), σ1 = sI σ id (ix i) (vp_nar .byte x) → Rp G 212 tt σ1 s H1 locs1 → W p l e R s m args below meth c H1 locs1 cells slots Q (F0 m (pc + 1) ls rest)) : W p l e R s m args below meth c H locs cells slots Q (F0 m pc ls (.int x :: .int i :: .ref (G.2.2 + id) :: rest)) :=
  q_bas X hR hk (kd_ltA hk (by decide)) (inB_in hin) hdg kk
theorem r_zas (X : Cx p s m args c cc nL own G) (hR : Rp G 212 tt σ s H locs) {id len : Nat} (hk : kd id = (15, len)) {i x : Int32} (hin : inB i len = true) (hdg : decode cc pc = .ok (.bastore, 1))
    (kk : ∀ (H1 : Heap) (locs1 : List Loc) (σ1 : Mm), σ1 = sI σ id (ix i) (vp_nar .boolean x) → Rp G 212 tt σ1 s H1 locs1 → W p l e R s m args below meth c H1 locs1 cells slots Q (F0 m (pc + 1) ls rest)) : W p l e R s m args below meth c H locs cells slots Q (F0 m pc ls (.int x :: .int i :: .ref (G.2.2 + id) :: rest)) :=
  q_zas X hR hk (kd_ltA hk (by decide)) (inB_in hin) hdg kk
theorem r_las (X : Cx p s m args c cc nL own G) (hR : Rp G 212 tt σ s H locs) {id len : Nat} (hk : kd id = (14, len)) {i : Int32} {x : Int64} (hin : inB i len = true) (hdg : decode cc pc = .ok (.lastore, 1))
    (kk : ∀ (H1 : Heap) (locs1 : List Loc) (σ1 : Mm), σ1 = sL σ id (ix i) x → Rp G 212 tt σ1 s H1 locs1 → W p l e R s m args below meth c H1 locs1 cells slots Q (F0 m (pc + 1) ls rest)) : W p l e R s m args below meth c H locs cells slots Q (F0 m pc ls (.long x :: .int i :: .ref (G.2.2 + id) :: rest)) :=
  q_las X hR hk (kd_ltA hk (by decide)) (inB_in hin) hdg kk
theorem r_cpy (X : Cx p s m args c cc nL own G) (hR : Rp G 212 tt σ s H locs) {i j len : Nat} (hi : kd i = (13, len)) (hj : kd j = (13, len)) {nn : Int32} (hn : ¬ nn < 0) (hlen : nn.toNatClampNeg ≤ len) (hls : ls.size = nL) {index : Nat} (hl : Cond.methodLink own index arraycopyName ∈ lw_g) (hframes : 1 ≤ R.frames) (hlocals : (rest.map fun v => v.category).sum + (nativeFrameWords "java/lang/System" "arraycopy" 5 + 11) ≤ R.locals) (hdg : decode cc pc = .ok (.invokestatic index, 3))
    (kk : ∀ (H1 : Heap) (locs1 : List Loc) (σ1 : Mm), σ1 = sIr σ j (va_cpy (σ.1 i) (σ.1 j) 0 0 nn.toNatClampNeg) → Rp G 212 tt σ1 s H1 locs1 → W p l e R s m args below meth c H1 locs1 cells slots Q (F0 m (pc + 3) ls rest)) : W p l e R s m args below meth c H locs cells slots Q (F0 m pc ls (.int nn :: .int 0 :: .ref (G.2.2 + j) :: .int 0 :: .ref (G.2.2 + i) :: rest)) := by
  obtain ⟨hx, hb, hml, hown, hts, hK, hE⟩ := X
  obtain ⟨hP, hz, hS0, hRf⟩ := hR
  have hD := wld_D G 212 σ
  have ni := kd_ltA hi (by decide)
  have nj := kd_ltA hj (by decide)
  have z0 : (0 : Int32).toNatClampNeg = 0 := rfl
  refine va_copyi (D := G.1) (cl := vwCl) (ws := wld G 212 σ) (tys := tyl G) (A := Fr G) hx hb (by rw [hml, hls]) hown (hts _ hl) (hts _ jc_nat) (hts _ jc_sta) (hts _ jc_ini) hK hP hD hS0 i j 1 1 (by rw [wld_get G σ ni, cellE_int hi]) (by rw [wld_get G σ nj, cellE_int hj]) rfl rfl rfl (by decide) (by decide) hn (by rw [z0]; omega) (by rw [z0]; omega) (fun _ _ => rfl) hframes hlocals hdg (fun H1 locs1 h1 h2 h3 => ?_)
  refine kk H1 locs1 _ rfl ⟨?_, fun h => absurd h (by decide), h3, Rf_sIr hRf⟩
  rw [← wld_set (E := .inl (G.2.1 1, len, .inl (va_cpy (σ.1 i) (σ.1 j) 0 0 nn.toNatClampNeg))) (by rw [cellE_int hj]; simp [sIr]) sIr_ne]
  exact h1
end RRows
