-- READ: both
theorem At_get {α : Type} {F : Nat → α → Prop} : ∀ {l : List α}, At F l → ∀ i, i < l.length → ∃ a ∈ l, F i a
  | [], _, i, hi => absurd hi (Nat.not_lt_zero _)
  | a :: r, h, i, hi => by
    by_cases e : i = r.length
    · subst e; exact ⟨a, List.mem_cons_self, h.1⟩
    · obtain ⟨b, hb, hF⟩ := At_get h.2 i (by simp only [List.length_cons] at hi; omega)
      exact ⟨b, List.mem_cons_of_mem _ hb, hF⟩
theorem At_and {α : Type} {F G : Nat → α → Prop} : ∀ {l : List α}, At F l → At G l → At (fun i a => F i a ∧ G i a) l
  | [], _, _ => trivial
  | _ :: _, h, g => ⟨⟨h.1, g.1⟩, At_and h.2 g.2⟩
theorem begin_v {N : Nat} {σ : Mm} {o : Nat} (ho : o = 7 ∨ o = 27) : Ok (f5_begin N 56 o σ) (fun _ τ => gI τ 56 0 = 0 ∧ gI τ 56 1 = ((1 : Int32) <<< (gI σ o 2 &&& 31)) - 1 ∧ gI τ 56 2 = 0 ∧ gI τ 56 3 = gI σ o 3 ∧ (∀ k, k < 7 → gI τ 57 k = gI σ (o + 4) k)) := by
  unfold f5_begin
  rw [z_l_eq, z_l_eq, z_l_eq, z_l_eq, z_l_eq]
  have hx : ∀ a k, gI (sIr (sI (sI (sI (sI σ 56 0 0) 56 1 (((1 : Int32) <<< (gI (sI σ 56 0 0) o 2 &&& 31)) - 1)) 56 2 0) 56 3 (gI (sI (sI (sI σ 56 0 0) 56 1 (((1 : Int32) <<< (gI (sI σ 56 0 0) o 2 &&& 31)) - 1)) 56 2 0) o 3)) (56 + 1) a) 56 k = gI (sI (sI (sI (sI σ 56 0 0) 56 1 (((1 : Int32) <<< (gI (sI σ 56 0 0) o 2 &&& 31)) - 1)) 56 2 0) 56 3 (gI (sI (sI (sI σ 56 0 0) 56 1 (((1 : Int32) <<< (gI (sI σ 56 0 0) o 2 &&& 31)) - 1)) 56 2 0) o 3)) 56 k := fun a k => by rw [gI_r, if_neg (by decide)]
  refine Ok.ret ⟨?_, ?_, ?_, ?_, fun k hk => ?_⟩
  · rw [hx, gI_k (by decide), gI_k (by decide), gI_k (by decide), gI_e]
  · rw [hx, gI_k (by decide), gI_k (by decide), gI_e, gI_o (by omega)]
  · rw [hx, gI_k (by decide), gI_e]
  · rw [hx, gI_e, gI_o (by omega), gI_o (by omega), gI_o (by omega)]
  · rw [gI_r, if_pos rfl, pk_cpy_in (Nat.zero_le _) (by omega), Nat.sub_zero, Nat.zero_add]
    show gI (sI (sI (sI (sI σ 56 0 0) 56 1 _) 56 2 0) 56 3 _) (o + 4) k = _
    rw [gI_o (by omega), gI_o (by omega), gI_o (by omega), gI_o (by omega)]
def bgV (τ υ : Mm) (o : Nat) : Prop := (gR υ 0 4 = some (34 - o) ∧ gR υ 0 3 = some o ∧ gR υ 60 1 = some o) ∧ (∀ c k, 1 ≤ c → c ≤ 5 → k < 20 → gI υ (50 + c) k = gI τ (o + 6 + c) k) ∧ (gI υ 56 0 = 0 ∧ gI υ 56 1 = ((1 : Int32) <<< (gI τ o 2 &&& 31)) - 1 ∧ gI υ 56 2 = 0 ∧ gI υ 56 3 = gI τ o 3 ∧ ∀ k, k < 7 → gI υ 57 k = gI τ (o + 4) k) ∧ (gI υ 70 2 = 0 ∧ gI υ 70 5 = 0 ∧ gI υ 0 15 = 0)
theorem c_begin {N : Nat} {τ : Mm} {o : Nat} (ho : o = 7 ∨ o = 27) (h04 : gR τ 0 4 = some o) (h03 : gR τ 0 3 = some (34 - o)) : Ok (f10_beginWithSpareLand N τ) (fun _ υ => bgV τ υ o) := by
  have ho2 : 34 - o = 7 ∨ 34 - o = 27 := by omega
  unfold f10_beginWithSpareLand
  refine Ok.r h04 (kd_land ho) (Ok.r h03 (kd_land ho2) ?_)
  rw [z_l_eq, z_l_eq, z_l_eq]
  have r1 : gR (sR (sR (sR τ 0 4 (some (34 - o))) 0 3 (some o)) 60 1 (some o)) 0 4 = some (34 - o) ∧ gR (sR (sR (sR τ 0 4 (some (34 - o))) 0 3 (some o)) 60 1 (some o)) 0 3 = some o ∧ gR (sR (sR (sR τ 0 4 (some (34 - o))) 0 3 (some o)) 60 1 (some o)) 60 1 = some o := by
    refine ⟨?_, ?_, gR_e⟩ <;> simp [gR, sR, va_up, upd]
  generalize hσ : sR (sR (sR τ 0 4 (some (34 - o))) 0 3 (some o)) 60 1 (some o) = σ at r1
  have g : ∀ c k, gI σ c k = gI τ c k := fun c k => by rw [← hσ]; rfl
  refine Ok.b ((gbecome_v (N := N) (σ := σ) (a := 50) (b := o + 6) (by omega)).fr fun r υ e => fr1_become N e) ?_
  rintro - τ1 ⟨⟨b1, b2⟩, hS1⟩
  refine Ok.b ((begin_v ho).fr fun r υ e => fr5_begin N e) ?_
  rintro - τ2 ⟨⟨d1, d2, d3, d4, d5⟩, hS2⟩
  unfold f6_forgetAll
  rw [z_l_eq, z_l_eq, z_b_some, z_l_eq]
  have e1 : EqOn [(0, 1, none), (60, 1, none)] σ τ1 := by
    rcases ho with rfl | rfl <;> exact hS1.on (by decide)
  have e2 : EqOn [(0, 1, none), (60, 1, none), (50, 6, none)] τ1 τ2 := by
    rcases ho with rfl | rfl <;> exact hS2.on (by decide)
  have fin : ∀ c k, c ≠ 0 → c ≠ 70 → gI (sI (sI (sI τ2 70 2 0) 70 5 0) 0 15 0) c k = gI τ2 c k := fun c k h1 h2 => by rw [gI_o h1, gI_o h2, gI_o h2]
  refine Ok.ret ⟨⟨?_, ?_, ?_⟩, fun c k h1 h2 h3 => ?_, ⟨by rw [fin _ _ (by decide) (by decide)]; exact d1, ?_, by rw [fin _ _ (by decide) (by decide)]; exact d3, ?_, fun k hk => ?_⟩, ⟨by rw [gI_o (by decide), gI_k (by decide), gI_e], by rw [gI_o (by decide), gI_e], gI_e⟩⟩
  · exact (e2.R (wIn_r 0 rfl (by decide) (by decide))).trans ((e1.R (wIn_r 0 rfl (by decide) (by decide))).trans r1.1)
  · exact (e2.R (wIn_r 0 rfl (by decide) (by decide))).trans ((e1.R (wIn_r 0 rfl (by decide) (by decide))).trans r1.2.1)
  · exact (e2.R (wIn_r 1 rfl (by decide) (by decide))).trans ((e1.R (wIn_r 1 rfl (by decide) (by decide))).trans r1.2.2)
  · rw [fin _ _ (by omega) (by omega), e2.I (wIn_r 2 rfl (by omega) (by omega)), b1 c k h1 h2 h3, g]
  · rw [fin _ _ (by decide) (by decide), d2, b2 _ _ (by omega), g]
  · rw [fin _ _ (by decide) (by decide), d4, b2 _ _ (by omega), g]
  · rw [fin _ _ (by decide) (by decide), d5 k hk, b2 _ _ (by omega), g]
def V_byte (σ : Mm) : Prop := ∀ j, j < 2000 → ∃ b, b < 256 ∧ gI σ 1 j = sgn b
/-- what holds between calls -/
def XI (σ : Mm) : Prop := V_words σ ∧ V_byte σ ∧ ∃ (o v : Nat) (lw : LwT), (gR σ 0 3 = some o ∧ gI σ 160 18 = nI v ∧ v < 2 ∧ (o = 7 ∨ o = 27)) ∧ LwC σ (o + 12) lw ∧ LwM σ v lw ∧ wfT lw
def IX (N : Nat) (σ : Mm) : Prop := Inv N σ ∧ XI σ
