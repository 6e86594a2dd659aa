
def wr11_goes : Wr := [(199, 1, some 14), (199, 1, none), (196, 1, some 3), (196, 1, none), (196, 1, some 0), (196, 1, some 1), (196, 1, some 4), (160, 1, some 54), (197, 1, none)]
set_option maxHeartbeats 4000000 in
theorem fr11_goes_2 (N : Nat) {x1 : Int32} {σ0 : Mm} {u0 : Unit} : ∀ (fu : Nat) (x2 : Int32) (σ : Mm), f11_goes_2 N x1 fu x2 σ = some (u0, σ0) → Same (wr11_goes) σ σ0 := by
  intro fu
  induction fu with
  | zero =>
    intro x2 σ hf
    rw [f11_goes_2] at hf
    cases hf
  | succ fu ih =>
    intro x2 σ hf
    rw [f11_goes_2] at hf
    have hS : Same (wr11_goes) σ σ := Same.rf
    rcases z_if hf with hf | hf
    · obtain ⟨-, rfl⟩ := Prod.mk.inj (Option.some.inj hf)
      exact hS
    · obtain ⟨r_1, σ_2, hc_3, hf⟩ := z_b_e hf
      have hS := hS.tr ((fr11_yearGoes N hc_3).mono (wsub [0, 1, 2, 3, 4, 5, 6, 7, 8] rfl))
      obtain ⟨x2_4, ex2_4, hf⟩ := z_l_x hf
      exact hS.tr (ih x2_4 σ_2 hf)
set_option maxHeartbeats 4000000 in
theorem fr11_goes (N : Nat) {x1 : Int32} {σ σ0 : Mm} {u0 : Unit} (hf : f11_goes N x1 σ = some (u0, σ0)) : Same (wr11_goes) σ σ0 := by
  unfold f11_goes at hf
  have hS : Same (wr11_goes) σ σ := Same.rf
  exact hS.tr (fr11_goes_2 N  N (0 : Int32) σ hf)
def wr11_countsOf : Wr := []
set_option maxHeartbeats 4000000 in
theorem fr11_countsOf_40 (N : Nat) {x1 : Int32} {σ0 : Mm} {r0 : Int32} {k4 : Int32 → Int32 → Mm → Option (Int32 × Mm)} (hk4 : ∀ (x2 : Int32) (x3 : Int32) (σ : Mm), k4 x2 x3 σ = some (r0, σ0) → Same (wr11_countsOf) σ σ0) : ∀ (x2 : Int32) (x3 : Int32) (σ : Mm), f11_countsOf_40 N k4 x1 x2 x3 σ = some (r0, σ0) → Same (wr11_countsOf) σ σ0 := by
  intro x2 x3 σ hf
  unfold f11_countsOf_40 at hf
  have hS : Same (wr11_countsOf) σ σ := Same.rf
  obtain ⟨x3_3, ex3_3, hf⟩ := z_l_x hf
  exact hS.tr (hk4 x2 x3_3 σ hf)
set_option maxHeartbeats 4000000 in
theorem fr11_countsOf_4 (N : Nat) {x1 : Int32} {σ0 : Mm} {r0 : Int32} : ∀ (fu : Nat) (x2 : Int32) (x3 : Int32) (σ : Mm), f11_countsOf_4 N x1 fu x2 x3 σ = some (r0, σ0) → Same (wr11_countsOf) σ σ0 := by
  intro fu
  induction fu with
  | zero =>
    intro x2 x3 σ hf
    rw [f11_countsOf_4] at hf
    cases hf
  | succ fu ih =>
    intro x2 x3 σ hf
    rw [f11_countsOf_4] at hf
    have hS : Same (wr11_countsOf) σ σ := Same.rf
    obtain ⟨hi_1, hf⟩ := z_c_e hf
    rcases z_if hf with hf | hf
    · obtain ⟨-, rfl⟩ := Prod.mk.inj (Option.some.inj hf)
      exact hS
    · obtain ⟨hi_2, hf⟩ := z_c_e hf
      rcases z_if hf with hf | hf
      · obtain ⟨hi_4, hf⟩ := z_c_e hf
        rcases z_if hf with hf | hf
        · exact hS.tr (fr11_countsOf_40 N ih x2 x3 σ hf)
        · obtain ⟨x2_5, ex2_5, hf⟩ := z_l_x hf
          exact hS.tr (fr11_countsOf_40 N ih x2_5 x3 σ hf)
      · exact hS.tr (fr11_countsOf_40 N ih x2 x3 σ hf)
set_option maxHeartbeats 4000000 in
theorem fr11_countsOf (N : Nat) {x1 : Int32} {σ σ0 : Mm} {r0 : Int32} (hf : f11_countsOf N x1 σ = some (r0, σ0)) : Same (wr11_countsOf) σ σ0 := by
  unfold f11_countsOf at hf
  have hS : Same (wr11_countsOf) σ σ := Same.rf
  exact hS.tr (fr11_countsOf_4 N  N (0 : Int32) (0 : Int32) σ hf)
def wr11_plot : Wr := [(160, 1, some 57), (160, 1, some 58), (160, 1, some 59), (199, 1, none), (196, 1, some 3), (196, 1, none), (196, 1, some 0), (196, 1, some 1), (196, 1, some 4), (196, 1, some 2), (196, 1, some 5), (160, 1, some 54), (197, 1, none), (201, 1, none), (202, 1, none), (200, 1, none)]
set_option maxHeartbeats 4000000 in
theorem fr11_plot (N : Nat) {x1 : Int32} {x2 : Int32} {σ σ0 : Mm} {r0 : Int32} (hf : f11_plot N x1 x2 σ = some (r0, σ0)) : Same (wr11_plot) σ σ0 := by
  unfold f11_plot at hf
  have hS : Same (wr11_plot) σ σ := Same.rf
  obtain ⟨r_1, σ_2, hc_3, hf⟩ := z_b_e hf
  have hS := hS.tr (Same.nil (fr11_isPlot N hc_3))
  rcases z_if hf with hf | hf
  · obtain ⟨-, rfl⟩ := Prod.mk.inj (Option.some.inj hf)
    exact hS
  · obtain ⟨r_4, σ_5, hc_6, hf⟩ := z_b_e hf
    have hS := hS.tr ((fr11_copies N hc_6).mono (wsub [0, 1, 2, 3] rfl))
    obtain ⟨r_7, σ_8, hc_9, hf⟩ := z_b_e hf
    have hS := hS.tr ((fr11_fillsWhose N hc_9).mono (wsub [4, 5, 6, 7, 8, 9, 10, 11, 12, 13, 14, 15] rfl))
    rcases z_if hf with hf | hf
    · obtain ⟨hi_10, hf⟩ := z_c_e hf
      obtain ⟨-, rfl⟩ := Prod.mk.inj (Option.some.inj hf)
      exact hS
    rcases z_if hf with hf | hf
    · obtain ⟨hi_11, hf⟩ := z_c_e hf
      obtain ⟨-, rfl⟩ := Prod.mk.inj (Option.some.inj hf)
      exact hS
    rcases z_if hf with hf | hf
    · obtain ⟨hi_12, hf⟩ := z_c_e hf
      obtain ⟨-, rfl⟩ := Prod.mk.inj (Option.some.inj hf)
      exact hS
    rcases z_if hf with hf | hf
    · obtain ⟨hi_13, hf⟩ := z_c_e hf
      obtain ⟨-, rfl⟩ := Prod.mk.inj (Option.some.inj hf)
      exact hS
    rcases z_if hf with hf | hf
    · obtain ⟨r_14, σ_15, hc_16, hf⟩ := z_b_e hf
      have hS := hS.tr (Same.nil (fr11_countsOf N hc_16))
      obtain ⟨-, rfl⟩ := Prod.mk.inj (Option.some.inj hf)
      exact hS
    obtain ⟨-, rfl⟩ := Prod.mk.inj (Option.some.inj hf)
    exact hS
def wr11_witness : Wr := [(160, 1, some 57), (160, 1, some 58), (160, 1, some 59), (199, 1, none), (196, 1, some 3), (196, 1, none), (196, 1, some 0), (196, 1, some 1), (196, 1, some 4), (196, 1, some 2), (196, 1, some 5), (160, 1, some 54), (197, 1, none)]
set_option maxHeartbeats 4000000 in
theorem fr11_witness_110 (N : Nat) {x1 : Int32} {σ0 : Mm} {r0 : Int32} {k85 : Int32 → Int32 → Mm → Option (Int32 × Mm)} (hk85 : ∀ (x3 : Int32) (x4 : Int32) (σ : Mm), k85 x3 x4 σ = some (r0, σ0) → Same (wr11_witness) σ σ0) : ∀ (x3 : Int32) (x4 : Int32) (σ : Mm), f11_witness_110 N k85 x1 x3 x4 σ = some (r0, σ0) → Same (wr11_witness) σ σ0 := by
  intro x3 x4 σ hf
  unfold f11_witness_110 at hf
  have hS : Same (wr11_witness) σ σ := Same.rf
  obtain ⟨x4_14, ex4_14, hf⟩ := z_l_x hf
  exact hS.tr (hk85 x3 x4_14 σ hf)
set_option maxHeartbeats 4000000 in
theorem fr11_witness_85 (N : Nat) {x1 : Int32} {σ0 : Mm} {r0 : Int32} : ∀ (fu : Nat) (x3 : Int32) (x4 : Int32) (σ : Mm), f11_witness_85 N x1 fu x3 x4 σ = some (r0, σ0) → Same (wr11_witness) σ σ0 := by
  intro fu
  induction fu with
  | zero =>
    intro x3 x4 σ hf
    rw [f11_witness_85] at hf
    cases hf
  | succ fu ih =>
    intro x3 x4 σ hf
    rw [f11_witness_85] at hf
    have hS : Same (wr11_witness) σ σ := Same.rf
    obtain ⟨hi_10, hf⟩ := z_c_e hf
    rcases z_if hf with hf | hf
    · obtain ⟨-, rfl⟩ := Prod.mk.inj (Option.some.inj hf)
      exact hS
    · obtain ⟨r_11, σ_12, hc_13, hf⟩ := z_b_e hf
      have hS := hS.tr ((fr11_doesSwear N hc_13).mono (wsub [4, 5, 6, 7, 8, 9, 10, 11, 12] rfl))
      rcases z_if hf with hf | hf
      · exact hS.tr (fr11_witness_110 N ih x3 x4 σ_12 hf)
      · obtain ⟨x3_15, ex3_15, hf⟩ := z_l_x hf
        exact hS.tr (fr11_witness_110 N ih x3_15 x4 σ_12 hf)
set_option maxHeartbeats 4000000 in
theorem fr11_witness (N : Nat) {x1 : Int32} {x2 : Int32} {σ σ0 : Mm} {r0 : Int32} (hf : f11_witness N x1 x2 σ = some (r0, σ0)) : Same (wr11_witness) σ σ0 := by
  unfold f11_witness at hf
  have hS : Same (wr11_witness) σ σ := Same.rf
  obtain ⟨r_1, σ_2, hc_3, hf⟩ := z_b_e hf
  have hS := hS.tr (Same.nil (fr11_isWitness N hc_3))
  rcases z_if hf with hf | hf
  · obtain ⟨-, rfl⟩ := Prod.mk.inj (Option.some.inj hf)
    exact hS
  · obtain ⟨r_4, σ_5, hc_6, hf⟩ := z_b_e hf
    have hS := hS.tr ((fr11_copies N hc_6).mono (wsub [0, 1, 2, 3] rfl))
    rcases z_if hf with hf | hf
    · obtain ⟨hi_7, hf⟩ := z_c_e hf
      obtain ⟨-, rfl⟩ := Prod.mk.inj (Option.some.inj hf)
      exact hS
    rcases z_if hf with hf | hf
    · obtain ⟨hi_8, hf⟩ := z_c_e hf
      obtain ⟨-, rfl⟩ := Prod.mk.inj (Option.some.inj hf)
      exact hS
    rcases z_if hf with hf | hf
    · obtain ⟨hi_9, hf⟩ := z_c_e hf
      obtain ⟨-, rfl⟩ := Prod.mk.inj (Option.some.inj hf)
      exact hS
    rcases z_if hf with hf | hf
    · exact hS.tr (fr11_witness_85 N  N (0 : Int32) (0 : Int32) σ_5 hf)
    rcases z_if hf with hf | hf
    · obtain ⟨r_16, σ_17, hc_18, hf⟩ := z_b_e hf
      have hS := hS.tr ((fr11_diesNow N hc_18).mono (wsub [4, 5, 6, 7, 8, 11, 12] rfl))
      obtain ⟨-, rfl⟩ := Prod.mk.inj (Option.some.inj hf)
      exact hS
    obtain ⟨-, rfl⟩ := Prod.mk.inj (Option.some.inj hf)
    exact hS
def wr11_giving : Wr := [(160, 1, some 57), (160, 1, some 58), (160, 1, some 59), (199, 1, none), (196, 1, some 3), (196, 1, none), (196, 1, some 0), (196, 1, some 1), (196, 1, some 4), (196, 1, some 2), (196, 1, some 5), (160, 1, some 54), (197, 1, none), (201, 1, none), (202, 1, none), (200, 1, none)]
set_option maxHeartbeats 4000000 in
theorem fr11_giving (N : Nat) {x1 : Int32} {x2 : Int32} {σ σ0 : Mm} {r0 : Int32} (hf : f11_giving N x1 x2 σ = some (r0, σ0)) : Same (wr11_giving) σ σ0 := by
  unfold f11_giving at hf
  have hS : Same (wr11_giving) σ σ := Same.rf
  obtain ⟨r_1, σ_2, hc_3, hf⟩ := z_b_e hf
  have hS := hS.tr (Same.nil (fr11_isGiving N hc_3))
  rcases z_if hf with hf | hf
  · obtain ⟨-, rfl⟩ := Prod.mk.inj (Option.some.inj hf)
    exact hS
  · obtain ⟨r_4, σ_5, hc_6, hf⟩ := z_b_e hf
    have hS := hS.tr ((fr11_copies N hc_6).mono (wsub [0, 1, 2, 3] rfl))
    obtain ⟨r_7, σ_8, hc_9, hf⟩ := z_b_e hf
    have hS := hS.tr ((fr11_fillsWhose N hc_9).mono (wsub [4, 5, 6, 7, 8, 9, 10, 11, 12, 13, 14, 15] rfl))
    rcases z_if hf with hf | hf
    · obtain ⟨hi_10, hf⟩ := z_c_e hf
      obtain ⟨-, rfl⟩ := Prod.mk.inj (Option.some.inj hf)
      exact hS
    rcases z_if hf with hf | hf
    · obtain ⟨hi_11, hf⟩ := z_c_e hf
      obtain ⟨-, rfl⟩ := Prod.mk.inj (Option.some.inj hf)
      exact hS
    rcases z_if hf with hf | hf
    · obtain ⟨hi_12, hf⟩ := z_c_e hf
      obtain ⟨-, rfl⟩ := Prod.mk.inj (Option.some.inj hf)
      exact hS
    rcases z_if hf with hf | hf
    · obtain ⟨hi_13, hf⟩ := z_c_e hf
      obtain ⟨hi_14, hf⟩ := z_c_e hf
      obtain ⟨-, rfl⟩ := Prod.mk.inj (Option.some.inj hf)
      exact hS
    rcases z_if hf with hf | hf
    · obtain ⟨hi_15, hf⟩ := z_c_e hf
      obtain ⟨-, rfl⟩ := Prod.mk.inj (Option.some.inj hf)
      exact hS
    rcases z_if hf with hf | hf
    · obtain ⟨r_16, σ_17, hc_18, hf⟩ := z_b_e hf
      have hS := hS.tr ((fr11_swearBits N hc_18).mono (wsub [4, 5, 6, 7, 8, 9, 10, 11, 12] rfl))
      obtain ⟨-, rfl⟩ := Prod.mk.inj (Option.some.inj hf)
      exact hS
    rcases z_if hf with hf | hf
    · obtain ⟨hi_19, hf⟩ := z_c_e hf
      rcases z_if hf with hf | hf
      · obtain ⟨-, rfl⟩ := Prod.mk.inj (Option.some.inj hf)
        exact hS
      · obtain ⟨-, rfl⟩ := Prod.mk.inj (Option.some.inj hf)
        exact hS
    rcases z_if hf with hf | hf
    · obtain ⟨hi_20, hf⟩ := z_c_e hf
      rcases z_if hf with hf | hf
      · obtain ⟨-, rfl⟩ := Prod.mk.inj (Option.some.inj hf)
        exact hS
      · obtain ⟨-, rfl⟩ := Prod.mk.inj (Option.some.inj hf)
        exact hS
    rcases z_if hf with hf | hf
    · obtain ⟨hi_21, hf⟩ := z_c_e hf
      obtain ⟨-, rfl⟩ := Prod.mk.inj (Option.some.inj hf)
      exact hS
    obtain ⟨-, rfl⟩ := Prod.mk.inj (Option.some.inj hf)
    exact hS
def wr11_records : Wr := [(160, 1, some 63), (198, 1, none), (203, 1, none)]
set_option maxHeartbeats 4000000 in
theorem fr11_records_83 (N : Nat) {σ0 : Mm} {u0 : Unit} : ∀ (σ : Mm), f11_records_83 N σ = some (u0, σ0) → Same (wr11_records) σ σ0 := by
  intro σ hf
  unfold f11_records_83 at hf
  have hS : Same (wr11_records) σ σ := Same.rf
  obtain ⟨σ_1, eσ_1, hf⟩ := z_l_x hf
  have hS := hS.tr (υ := σ_1) (by rw [eσ_1]; exact Same_sI (i := 0) rfl)
  obtain ⟨r_2, σ_3, hc_4, hf⟩ := z_b_e hf
  have hS := hS.tr ((fr11_keepsRow N hc_4).mono (wsub [1] rfl))
  obtain ⟨-, rfl⟩ := Prod.mk.inj (Option.some.inj hf)
  exact hS
set_option maxHeartbeats 4000000 in
theorem fr11_records_51 (N : Nat) {σ0 : Mm} {u0 : Unit} : ∀ (fu : Nat) (x1 : Int32) (σ : Mm), f11_records_51 N fu x1 σ = some (u0, σ0) → Same (wr11_records) σ σ0 := by
  intro fu
  induction fu with
  | zero =>
    intro x1 σ hf
    rw [f11_records_51] at hf
    cases hf
  | succ fu ih =>
    intro x1 σ hf
    rw [f11_records_51] at hf
    have hS : Same (wr11_records) σ σ := Same.rf
    rcases z_if hf with hf | hf
    · exact hS.tr (fr11_records_83 N   σ hf)
    · obtain ⟨hi_5, hf⟩ := z_c_e hf
      obtain ⟨-, hf⟩ := z_c_e hf
      obtain ⟨σ_6, eσ_6, hf⟩ := z_l_x hf
      have hS := hS.tr (υ := σ_6) (by rw [eσ_6]; exact Same_sIe (i := 2) rfl)
      obtain ⟨x1_7, ex1_7, hf⟩ := z_l_x hf
      exact hS.tr (ih x1_7 σ_6 hf)
set_option maxHeartbeats 4000000 in
theorem fr11_records_49 (N : Nat) {σ0 : Mm} {u0 : Unit} : ∀ (σ : Mm), f11_records_49 N σ = some (u0, σ0) → Same (wr11_records) σ σ0 := by
  intro σ hf
  unfold f11_records_49 at hf
  have hS : Same (wr11_records) σ σ := Same.rf
  exact hS.tr (fr11_records_51 N  N (0 : Int32) σ hf)
set_option maxHeartbeats 4000000 in
theorem fr11_records_39 (N : Nat) {σ0 : Mm} {u0 : Unit} : ∀ (σ : Mm), f11_records_39 N σ = some (u0, σ0) → Same (wr11_records) σ σ0 := by
  intro σ hf
  unfold f11_records_39 at hf
  have hS : Same (wr11_records) σ σ := Same.rf
  obtain ⟨σ_8, eσ_8, hf⟩ := z_l_x hf
  have hS := hS.tr (υ := σ_8) (by rw [eσ_8]; exact Same_sI (i := 0) rfl)
  exact hS.tr (fr11_records_49 N   σ_8 hf)
set_option maxHeartbeats 4000000 in
theorem fr11_records_11 (N : Nat) {σ0 : Mm} {u0 : Unit} : ∀ (fu : Nat) (x1 : Int32) (σ : Mm), f11_records_11 N fu x1 σ = some (u0, σ0) → Same (wr11_records) σ σ0 := by
  intro fu
  induction fu with
  | zero =>
    intro x1 σ hf
    rw [f11_records_11] at hf
    cases hf
  | succ fu ih =>
    intro x1 σ hf
    rw [f11_records_11] at hf
    have hS : Same (wr11_records) σ σ := Same.rf
    rcases z_if hf with hf | hf
    · exact hS.tr (fr11_records_39 N   σ hf)
    · obtain ⟨hi_9, hf⟩ := z_c_e hf
      obtain ⟨-, hf⟩ := z_c_e hf
      obtain ⟨σ_10, eσ_10, hf⟩ := z_l_x hf
      have hS := hS.tr (υ := σ_10) (by rw [eσ_10]; exact Same_sIe (i := 2) rfl)
      obtain ⟨x1_11, ex1_11, hf⟩ := z_l_x hf
      exact hS.tr (ih x1_11 σ_10 hf)
set_option maxHeartbeats 4000000 in
theorem fr11_records (N : Nat) {σ σ0 : Mm} {u0 : Unit} (hf : f11_records N σ = some (u0, σ0)) : Same (wr11_records) σ σ0 := by
  unfold f11_records at hf
  have hS : Same (wr11_records) σ σ := Same.rf
  rcases z_if hf with hf | hf
  · exact hS.tr (fr11_records_11 N  N (0 : Int32) σ hf)
  · exact hS.tr (fr11_records_49 N   σ hf)
def wr11_areAlive : Wr := []
set_option maxHeartbeats 4000000 in
theorem fr11_areAlive_31 (N : Nat) {x1 : Int32} {σ0 : Mm} {r0 : Int32} {k2 : Int32 → Mm → Option (Int32 × Mm)} (hk2 : ∀ (x2 : Int32) (σ : Mm), k2 x2 σ = some (r0, σ0) → Same (wr11_areAlive) σ σ0) : ∀ (x2 : Int32) (σ : Mm), f11_areAlive_31 N k2 x1 x2 σ = some (r0, σ0) → Same (wr11_areAlive) σ σ0 := by
  intro x2 σ hf
  unfold f11_areAlive_31 at hf
  have hS : Same (wr11_areAlive) σ σ := Same.rf
  obtain ⟨x2_1, ex2_1, hf⟩ := z_l_x hf
  exact hS.tr (hk2 x2_1 σ hf)
set_option maxHeartbeats 4000000 in
theorem fr11_areAlive_2 (N : Nat) {x1 : Int32} {σ0 : Mm} {r0 : Int32} : ∀ (fu : Nat) (x2 : Int32) (σ : Mm), f11_areAlive_2 N x1 fu x2 σ = some (r0, σ0) → Same (wr11_areAlive) σ σ0 := by
  intro fu
  induction fu with
  | zero =>
    intro x2 σ hf
    rw [f11_areAlive_2] at hf
    cases hf
  | succ fu ih =>
    intro x2 σ hf
    rw [f11_areAlive_2] at hf
    have hS : Same (wr11_areAlive) σ σ := Same.rf
    rcases z_if hf with hf | hf
    · obtain ⟨-, rfl⟩ := Prod.mk.inj (Option.some.inj hf)
      exact hS
    · rcases z_if hf with hf | hf
      · obtain ⟨hi_2, hf⟩ := z_c_e hf
        rcases z_if hf with hf | hf
        · obtain ⟨-, rfl⟩ := Prod.mk.inj (Option.some.inj hf)
          exact hS
        · exact hS.tr (fr11_areAlive_31 N ih x2 σ hf)
      · exact hS.tr (fr11_areAlive_31 N ih x2 σ hf)
set_option maxHeartbeats 4000000 in
theorem fr11_areAlive (N : Nat) {x1 : Int32} {σ σ0 : Mm} {r0 : Int32} (hf : f11_areAlive N x1 σ = some (r0, σ0)) : Same (wr11_areAlive) σ σ0 := by
  unfold f11_areAlive at hf
  have hS : Same (wr11_areAlive) σ σ := Same.rf
  exact hS.tr (fr11_areAlive_2 N  N (0 : Int32) σ hf)
def wr11_give : Wr := [(160, 1, some 57), (160, 1, some 58), (160, 1, some 59), (199, 1, none), (199, 1, some 15), (160, 1, some 63), (198, 1, none), (203, 1, none)]
set_option maxHeartbeats 4000000 in
theorem fr11_give (N : Nat) {x1 : Int32} {x2 : Int32} {x3 : Int32} {x4 : Int32} {σ σ0 : Mm} {r0 : Int32} (hf : f11_give N x1 x2 x3 x4 σ = some (r0, σ0)) : Same (wr11_give) σ σ0 := by
  unfold f11_give at hf
  have hS : Same (wr11_give) σ σ := Same.rf
  obtain ⟨r_1, σ_2, hc_3, hf⟩ := z_b_e hf
  have hS := hS.tr (Same.nil (fr11_isPlot N hc_3))
  rcases z_if hf with hf | hf
  · obtain ⟨-, rfl⟩ := Prod.mk.inj (Option.some.inj hf)
    exact hS
  · obtain ⟨r_4, σ_5, hc_6, hf⟩ := z_b_e hf
    have hS := hS.tr (Same.nil (fr11_isPerson N hc_6))
    rcases z_if hf with hf | hf
    · obtain ⟨-, rfl⟩ := Prod.mk.inj (Option.some.inj hf)
      exact hS
    · obtain ⟨r_7, σ_8, hc_9, hf⟩ := z_b_e hf
      have hS := hS.tr (Same.nil (fr11_isPerson N hc_9))
      rcases z_if hf with hf | hf
      · obtain ⟨-, rfl⟩ := Prod.mk.inj (Option.some.inj hf)
        exact hS
      · rcases z_if hf with hf | hf
        · obtain ⟨-, rfl⟩ := Prod.mk.inj (Option.some.inj hf)
          exact hS
        · obtain ⟨hi_10, hf⟩ := z_c_e hf
          obtain ⟨r_11, σ_12, hc_13, hf⟩ := z_b_e hf
          have hS := hS.tr (Same.nil (fr11_in N hc_13))
          rcases z_if hf with hf | hf
          · obtain ⟨-, rfl⟩ := Prod.mk.inj (Option.some.inj hf)
            exact hS
          · obtain ⟨hi_14, hf⟩ := z_c_e hf
            rcases z_if hf with hf | hf
            · obtain ⟨-, rfl⟩ := Prod.mk.inj (Option.some.inj hf)
              exact hS
            · obtain ⟨r_15, σ_16, hc_17, hf⟩ := z_b_e hf
              have hS := hS.tr (Same.nil (fr11_areAlive N hc_17))
              rcases z_if hf with hf | hf
              · obtain ⟨-, rfl⟩ := Prod.mk.inj (Option.some.inj hf)
                exact hS
              · obtain ⟨r_18, σ_19, hc_20, hf⟩ := z_b_e hf
                have hS := hS.tr ((fr11_copies N hc_20).mono (wsub [0, 1, 2, 3] rfl))
                obtain ⟨hi_21, hf⟩ := z_c_e hf
                obtain ⟨x5_22, ex5_22, hf⟩ := z_l_x hf
                obtain ⟨hi_23, hf⟩ := z_c_e hf
                obtain ⟨-, hf⟩ := z_c_e hf
                obtain ⟨σ_24, eσ_24, hf⟩ := z_l_x hf
                have hS := hS.tr (υ := σ_24) (by rw [eσ_24]; exact Same_sI (i := 4) rfl)
                obtain ⟨-, hf⟩ := z_c_e hf
                obtain ⟨σ_25, eσ_25, hf⟩ := z_l_x hf
                have hS := hS.tr (υ := σ_25) (by rw [eσ_25]; exact Same_sIe (i := 3) rfl)
                obtain ⟨-, hf⟩ := z_c_e hf
                obtain ⟨σ_26, eσ_26, hf⟩ := z_l_x hf
                have hS := hS.tr (υ := σ_26) (by rw [eσ_26]; exact Same_sIe (i := 3) rfl)
                obtain ⟨-, hf⟩ := z_c_e hf
                obtain ⟨σ_27, eσ_27, hf⟩ := z_l_x hf
                have hS := hS.tr (υ := σ_27) (by rw [eσ_27]; exact Same_sIe (i := 3) rfl)
                obtain ⟨hi_28, hf⟩ := z_c_e hf
                obtain ⟨-, hf⟩ := z_c_e hf
                obtain ⟨σ_29, eσ_29, hf⟩ := z_l_x hf
                have hS := hS.tr (υ := σ_29) (by rw [eσ_29]; exact Same_sIe (i := 3) rfl)
                obtain ⟨-, hf⟩ := z_c_e hf
                obtain ⟨σ_30, eσ_30, hf⟩ := z_l_x hf
                have hS := hS.tr (υ := σ_30) (by rw [eσ_30]; exact Same_sIe (i := 3) rfl)
                obtain ⟨r_31, σ_32, hc_33, hf⟩ := z_b_e hf
                have hS := hS.tr ((fr11_records N hc_33).mono (wsub [5, 6, 7] rfl))
                obtain ⟨-, rfl⟩ := Prod.mk.inj (Option.some.inj hf)
                exact hS
def wr11_unsay : Wr := [(160, 1, some 57), (160, 1, some 58), (160, 1, some 59), (199, 1, none), (199, 1, some 16), (160, 1, some 63), (198, 1, none), (203, 1, none)]
set_option maxHeartbeats 4000000 in
theorem fr11_unsay_28 (N : Nat) {σ0 : Mm} {r0 : Int32} : ∀ (x1 : Int32) (x2 : Int32) (s0 : Int32) (σ : Mm), f11_unsay_28 N x1 x2 s0 σ = some (r0, σ0) → Same (wr11_unsay) σ σ0 := by
  intro x1 x2 s0 σ hf
  unfold f11_unsay_28 at hf
  have hS : Same (wr11_unsay) σ σ := Same.rf
  rcases z_if hf with hf | hf
  · obtain ⟨-, rfl⟩ := Prod.mk.inj (Option.some.inj hf)
    exact hS
  · obtain ⟨r_5, σ_6, hc_7, hf⟩ := z_b_e hf
    have hS := hS.tr ((fr11_copies N hc_7).mono (wsub [0, 1, 2, 3] rfl))
    obtain ⟨hi_8, hf⟩ := z_c_e hf
    obtain ⟨-, hf⟩ := z_c_e hf
    obtain ⟨σ_9, eσ_9, hf⟩ := z_l_x hf
    have hS := hS.tr (υ := σ_9) (by rw [eσ_9]; exact Same_sI (i := 4) rfl)
    obtain ⟨r_10, σ_11, hc_12, hf⟩ := z_b_e hf
    have hS := hS.tr ((fr11_records N hc_12).mono (wsub [5, 6, 7] rfl))
    obtain ⟨-, rfl⟩ := Prod.mk.inj (Option.some.inj hf)
    exact hS
set_option maxHeartbeats 4000000 in
theorem fr11_unsay (N : Nat) {x1 : Int32} {x2 : Int32} {σ σ0 : Mm} {r0 : Int32} (hf : f11_unsay N x1 x2 σ = some (r0, σ0)) : Same (wr11_unsay) σ σ0 := by
  unfold f11_unsay at hf
  have hS : Same (wr11_unsay) σ σ := Same.rf
  obtain ⟨r_1, σ_2, hc_3, hf⟩ := z_b_e hf
  have hS := hS.tr (Same.nil (fr11_isGiving N hc_3))
  rcases z_if hf with hf | hf
  · obtain ⟨-, rfl⟩ := Prod.mk.inj (Option.some.inj hf)
    exact hS
  · obtain ⟨hi_4, hf⟩ := z_c_e hf
    rcases z_if hf with hf | hf
    · exact hS.tr (fr11_unsay_28 N  x1 x2 (1 : Int32) σ_2 hf)
    · exact hS.tr (fr11_unsay_28 N  x1 x2 (0 : Int32) σ_2 hf)
def wr11_years : Wr := [(160, 1, some 57), (160, 1, some 58), (160, 1, some 59), (199, 1, none), (199, 1, some 14), (196, 1, some 3), (196, 1, none), (196, 1, some 0), (196, 1, some 1), (196, 1, some 4), (160, 1, some 54), (197, 1, none), (160, 1, some 63), (198, 1, none), (203, 1, none)]
set_option maxHeartbeats 4000000 in
theorem fr11_years (N : Nat) {x1 : Int32} {σ σ0 : Mm} {r0 : Int32} (hf : f11_years N x1 σ = some (r0, σ0)) : Same (wr11_years) σ σ0 := by
  unfold f11_years at hf
  have hS : Same (wr11_years) σ σ := Same.rf
  obtain ⟨r_1, σ_2, hc_3, hf⟩ := z_b_e hf
  have hS := hS.tr (Same.nil (fr11_in N hc_3))
  rcases z_if hf with hf | hf
  · obtain ⟨-, rfl⟩ := Prod.mk.inj (Option.some.inj hf)
    exact hS
  · rcases z_if hf with hf | hf
    · obtain ⟨hi_14, hf⟩ := z_c_e hf
      obtain ⟨-, rfl⟩ := Prod.mk.inj (Option.some.inj hf)
      exact hS
    · obtain ⟨r_4, σ_5, hc_6, hf⟩ := z_b_e hf
      have hS := hS.tr ((fr11_copies N hc_6).mono (wsub [0, 1, 2, 3] rfl))
      obtain ⟨r_7, σ_8, hc_9, hf⟩ := z_b_e hf
      have hS := hS.tr ((fr11_goes N hc_9).mono (wsub [4, 3, 5, 6, 7, 8, 9, 10, 11] rfl))
      obtain ⟨r_10, σ_11, hc_12, hf⟩ := z_b_e hf
      have hS := hS.tr ((fr11_records N hc_12).mono (wsub [12, 13, 14] rfl))
      obtain ⟨hi_13, hf⟩ := z_c_e hf
      obtain ⟨-, rfl⟩ := Prod.mk.inj (Option.some.inj hf)
      exact hS
def wr11_undo : Wr := [(160, 1, some 63), (198, 1, none)]
set_option maxHeartbeats 4000000 in
theorem fr11_undo_21 (N : Nat) {σ0 : Mm} {r0 : Int32} : ∀ (fu : Nat) (x1 : Int32) (σ : Mm), f11_undo_21 N fu x1 σ = some (r0, σ0) → Same (wr11_undo) σ σ0 := by
  intro fu
  induction fu with
  | zero =>
    intro x1 σ hf
    rw [f11_undo_21] at hf
    cases hf
  | succ fu ih =>
    intro x1 σ hf
    rw [f11_undo_21] at hf
    have hS : Same (wr11_undo) σ σ := Same.rf
    rcases z_if hf with hf | hf
    · obtain ⟨-, rfl⟩ := Prod.mk.inj (Option.some.inj hf)
      exact hS
    · obtain ⟨hi_2, hf⟩ := z_c_e hf
      obtain ⟨-, hf⟩ := z_c_e hf
      obtain ⟨σ_3, eσ_3, hf⟩ := z_l_x hf
      have hS := hS.tr (υ := σ_3) (by rw [eσ_3]; exact Same_sIe (i := 1) rfl)
      obtain ⟨x1_4, ex1_4, hf⟩ := z_l_x hf
      exact hS.tr (ih x1_4 σ_3 hf)
set_option maxHeartbeats 4000000 in
theorem fr11_undo (N : Nat) {σ σ0 : Mm} {r0 : Int32} (hf : f11_undo N σ = some (r0, σ0)) : Same (wr11_undo) σ σ0 := by
  unfold f11_undo at hf
  have hS : Same (wr11_undo) σ σ := Same.rf
  rcases z_if hf with hf | hf
  · obtain ⟨-, rfl⟩ := Prod.mk.inj (Option.some.inj hf)
    exact hS
  · obtain ⟨σ_1, eσ_1, hf⟩ := z_l_x hf
    have hS := hS.tr (υ := σ_1) (by rw [eσ_1]; exact Same_sI (i := 0) rfl)
    exact hS.tr (fr11_undo_21 N  N (0 : Int32) σ_1 hf)
def wr11_lasts : Wr := [(160, 1, some 57), (160, 1, some 58), (160, 1, some 59), (199, 1, none), (196, 1, some 3), (196, 1, none), (196, 1, some 0), (196, 1, some 1), (196, 1, some 4), (196, 1, some 2), (196, 1, some 5), (160, 1, some 54), (197, 1, none), (199, 1, some 14)]
set_option maxHeartbeats 4000000 in
theorem fr11_lasts_21 (N : Nat) {x1 : Int32} {σ0 : Mm} {r0 : Int32} : ∀ (fu : Nat) (x2 : Int32) (σ : Mm), f11_lasts_21 N x1 fu x2 σ = some (r0, σ0) → Same (wr11_lasts) σ σ0 := by
  intro fu
  induction fu with
  | zero =>
    intro x2 σ hf
    rw [f11_lasts_21] at hf
    cases hf
  | succ fu ih =>
    intro x2 σ hf
    rw [f11_lasts_21] at hf
    have hS : Same (wr11_lasts) σ σ := Same.rf
    rcases z_if hf with hf | hf
    · obtain ⟨-, rfl⟩ := Prod.mk.inj (Option.some.inj hf)
      exact hS
    · obtain ⟨r_8, σ_9, hc_10, hf⟩ := z_b_e hf
      have hS := hS.tr ((fr11_doesStand N hc_10).mono (wsub [4, 5, 6, 7, 8, 9, 10, 11, 12] rfl))
      rcases z_if hf with hf | hf
      · obtain ⟨-, rfl⟩ := Prod.mk.inj (Option.some.inj hf)
        exact hS
      · obtain ⟨r_11, σ_12, hc_13, hf⟩ := z_b_e hf
        have hS := hS.tr ((fr11_yearGoes N hc_13).mono (wsub [13, 3, 4, 5, 6, 7, 8, 11, 12] rfl))
        obtain ⟨x2_14, ex2_14, hf⟩ := z_l_x hf
        exact hS.tr (ih x2_14 σ_12 hf)
set_option maxHeartbeats 4000000 in
theorem fr11_lasts (N : Nat) {x1 : Int32} {σ σ0 : Mm} {r0 : Int32} (hf : f11_lasts N x1 σ = some (r0, σ0)) : Same (wr11_lasts) σ σ0 := by
  unfold f11_lasts at hf
  have hS : Same (wr11_lasts) σ σ := Same.rf
  obtain ⟨r_1, σ_2, hc_3, hf⟩ := z_b_e hf
  have hS := hS.tr (Same.nil (fr11_isGiving N hc_3))
  rcases z_if hf with hf | hf
  · obtain ⟨-, rfl⟩ := Prod.mk.inj (Option.some.inj hf)
    exact hS
  · obtain ⟨r_4, σ_5, hc_6, hf⟩ := z_b_e hf
    have hS := hS.tr ((fr11_copies N hc_6).mono (wsub [0, 1, 2, 3] rfl))
    obtain ⟨σ_7, eσ_7, hf⟩ := z_l_x hf
    have hS := hS.tr (υ := σ_7) (by rw [eσ_7]; exact Same_sI (i := 1) rfl)
    exact hS.tr (fr11_lasts_21 N  N (0 : Int32) σ_7 hf)
def wr11_keepsWhose : Wr := [(160, 1, some 57), (160, 1, some 58), (160, 1, some 59), (199, 1, none), (196, 1, some 3), (196, 1, none), (196, 1, some 0), (196, 1, some 1), (196, 1, some 4), (196, 1, some 2), (196, 1, some 5), (160, 1, some 54), (197, 1, none), (201, 1, none), (202, 1, none), (200, 1, none), (204, 1, none)]
set_option maxHeartbeats 4000000 in
theorem fr11_keepsWhose_10 (N : Nat) {σ0 : Mm} {u0 : Unit} : ∀ (fu : Nat) (x1 : Int32) (σ : Mm), f11_keepsWhose_10 N fu x1 σ = some (u0, σ0) → Same (wr11_keepsWhose) σ σ0 := by
  intro fu
  induction fu with
  | zero =>
    intro x1 σ hf
    rw [f11_keepsWhose_10] at hf
    cases hf
  | succ fu ih =>
    intro x1 σ hf
    rw [f11_keepsWhose_10] at hf
    have hS : Same (wr11_keepsWhose) σ σ := Same.rf
    rcases z_if hf with hf | hf
    · obtain ⟨-, rfl⟩ := Prod.mk.inj (Option.some.inj hf)
      exact hS
    · obtain ⟨hi_7, hf⟩ := z_c_e hf
      obtain ⟨-, hf⟩ := z_c_e hf
      obtain ⟨σ_8, eσ_8, hf⟩ := z_l_x hf
      have hS := hS.tr (υ := σ_8) (by rw [eσ_8]; exact Same_sIe (i := 16) rfl)
      obtain ⟨x1_9, ex1_9, hf⟩ := z_l_x hf
      exact hS.tr (ih x1_9 σ_8 hf)
set_option maxHeartbeats 4000000 in
theorem fr11_keepsWhose (N : Nat) {σ σ0 : Mm} {u0 : Unit} (hf : f11_keepsWhose N σ = some (u0, σ0)) : Same (wr11_keepsWhose) σ σ0 := by
  unfold f11_keepsWhose at hf
  have hS : Same (wr11_keepsWhose) σ σ := Same.rf
  obtain ⟨r_1, σ_2, hc_3, hf⟩ := z_b_e hf
  have hS := hS.tr ((fr11_copies N hc_3).mono (wsub [0, 1, 2, 3] rfl))
  obtain ⟨r_4, σ_5, hc_6, hf⟩ := z_b_e hf
  have hS := hS.tr ((fr11_fillsWhose N hc_6).mono (wsub [4, 5, 6, 7, 8, 9, 10, 11, 12, 13, 14, 15] rfl))
  exact hS.tr (fr11_keepsWhose_10 N  N (0 : Int32) σ_5 hf)
def wr11_othersNow : Wr := [(196, 1, some 3), (196, 1, none), (196, 1, some 0), (196, 1, some 1), (196, 1, some 4), (196, 1, some 2), (196, 1, some 5), (160, 1, some 54), (197, 1, none), (201, 1, none), (202, 1, none), (200, 1, none)]
set_option maxHeartbeats 4000000 in
theorem fr11_othersNow_39 (N : Nat) {σ0 : Mm} {r0 : Int32} {k8 : Int32 → Int32 → Mm → Option (Int32 × Mm)} (hk8 : ∀ (x1 : Int32) (x2 : Int32) (σ : Mm), k8 x1 x2 σ = some (r0, σ0) → Same (wr11_othersNow) σ σ0) : ∀ (x1 : Int32) (x2 : Int32) (σ : Mm), f11_othersNow_39 N k8 x1 x2 σ = some (r0, σ0) → Same (wr11_othersNow) σ σ0 := by
  intro x1 x2 σ hf
  unfold f11_othersNow_39 at hf
  have hS : Same (wr11_othersNow) σ σ := Same.rf
  obtain ⟨x2_7, ex2_7, hf⟩ := z_l_x hf
  exact hS.tr (hk8 x1 x2_7 σ hf)
set_option maxHeartbeats 4000000 in
theorem fr11_othersNow_8 (N : Nat) {σ0 : Mm} {r0 : Int32} : ∀ (fu : Nat) (x1 : Int32) (x2 : Int32) (σ : Mm), f11_othersNow_8 N fu x1 x2 σ = some (r0, σ0) → Same (wr11_othersNow) σ σ0 := by
  intro fu
  induction fu with
  | zero =>
    intro x1 x2 σ hf
    rw [f11_othersNow_8] at hf
    cases hf
  | succ fu ih =>
    intro x1 x2 σ hf
    rw [f11_othersNow_8] at hf
    have hS : Same (wr11_othersNow) σ σ := Same.rf
    obtain ⟨hi_4, hf⟩ := z_c_e hf
    rcases z_if hf with hf | hf
    · obtain ⟨-, rfl⟩ := Prod.mk.inj (Option.some.inj hf)
      exact hS
    · obtain ⟨hi_5, hf⟩ := z_c_e hf
      obtain ⟨hi_6, hf⟩ := z_c_e hf
      rcases z_if hf with hf | hf
      · exact hS.tr (fr11_othersNow_39 N ih x1 x2 σ hf)
      · obtain ⟨x1_8, ex1_8, hf⟩ := z_l_x hf
        exact hS.tr (fr11_othersNow_39 N ih x1_8 x2 σ hf)
set_option maxHeartbeats 4000000 in
theorem fr11_othersNow (N : Nat) {σ σ0 : Mm} {r0 : Int32} (hf : f11_othersNow N σ = some (r0, σ0)) : Same (wr11_othersNow) σ σ0 := by
  unfold f11_othersNow at hf
  have hS : Same (wr11_othersNow) σ σ := Same.rf
  obtain ⟨r_1, σ_2, hc_3, hf⟩ := z_b_e hf
  have hS := hS.tr ((fr11_fillsWhose N hc_3).mono (wsub [0, 1, 2, 3, 4, 5, 6, 7, 8, 9, 10, 11] rfl))
  exact hS.tr (fr11_othersNow_8 N  N (0 : Int32) (0 : Int32) σ_2 hf)
def wr11_book : Wr := [(160, 1, some 57), (160, 1, some 58), (160, 1, some 59), (199, 1, none), (196, 1, some 3), (196, 1, none), (196, 1, some 0), (196, 1, some 1), (196, 1, some 4), (196, 1, some 2), (196, 1, some 5), (160, 1, some 54), (197, 1, none), (201, 1, none), (202, 1, none), (200, 1, none), (204, 1, none)]
set_option maxHeartbeats 4000000 in
theorem fr11_book (N : Nat) {σ σ0 : Mm} {r0 : Int32} (hf : f11_book N σ = some (r0, σ0)) : Same (wr11_book) σ σ0 := by
  unfold f11_book at hf
  have hS : Same (wr11_book) σ σ := Same.rf
  obtain ⟨r_1, σ_2, hc_3, hf⟩ := z_b_e hf
  have hS := hS.tr ((fr11_keepsWhose N hc_3).mono (wsub [0, 1, 2, 3, 4, 5, 6, 7, 8, 9, 10, 11, 12, 13, 14, 15, 16] rfl))
  obtain ⟨σ_4, eσ_4, hf⟩ := z_l_x hf
  have hS := hS.tr (υ := σ_4) (by rw [eσ_4]; exact Same_sI (i := 2) rfl)
  obtain ⟨r_5, σ_6, hc_7, hf⟩ := z_b_e hf
  have hS := hS.tr ((fr11_othersNow N hc_7).mono (wsub [4, 5, 6, 7, 8, 9, 10, 11, 12, 13, 14, 15] rfl))
  obtain ⟨-, rfl⟩ := Prod.mk.inj (Option.some.inj hf)
  exact hS
def wr11_hangs : Wr := [(160, 1, some 57), (160, 1, some 58), (160, 1, some 59), (199, 1, none), (196, 1, some 3), (196, 1, none), (196, 1, some 0), (196, 1, some 1), (196, 1, some 4), (196, 1, some 2), (196, 1, some 5), (160, 1, some 54), (197, 1, none), (201, 1, none), (202, 1, none), (200, 1, none), (204, 1, none)]
set_option maxHeartbeats 4000000 in
theorem fr11_hangs_96 (N : Nat) {σ0 : Mm} {r0 : Int32} : ∀ (x1 : Int32) (x2 : Int32) (x3 : Int32) (σ : Mm), f11_hangs_96 N x1 x2 x3 σ = some (r0, σ0) → Same (wr11_hangs) σ σ0 := by
  intro x1 x2 x3 σ hf
  unfold f11_hangs_96 at hf
  have hS : Same (wr11_hangs) σ σ := Same.rf
  rcases z_if hf with hf | hf
  · obtain ⟨-, rfl⟩ := Prod.mk.inj (Option.some.inj hf)
    exact hS
  · obtain ⟨-, rfl⟩ := Prod.mk.inj (Option.some.inj hf)
    exact hS
set_option maxHeartbeats 4000000 in
theorem fr11_hangs_90 (N : Nat) {x1 : Int32} {σ0 : Mm} {r0 : Int32} {k24 : Int32 → Int32 → Int32 → Mm → Option (Int32 × Mm)} (hk24 : ∀ (x2 : Int32) (x3 : Int32) (x4 : Int32) (σ : Mm), k24 x2 x3 x4 σ = some (r0, σ0) → Same (wr11_hangs) σ σ0) : ∀ (x2 : Int32) (x3 : Int32) (x4 : Int32) (σ : Mm), f11_hangs_90 N k24 x1 x2 x3 x4 σ = some (r0, σ0) → Same (wr11_hangs) σ σ0 := by
  intro x2 x3 x4 σ hf
  unfold f11_hangs_90 at hf
  have hS : Same (wr11_hangs) σ σ := Same.rf
  obtain ⟨x4_16, ex4_16, hf⟩ := z_l_x hf
  exact hS.tr (hk24 x2 x3 x4_16 σ hf)
set_option maxHeartbeats 4000000 in
theorem fr11_hangs_24 (N : Nat) {x1 : Int32} {σ0 : Mm} {r0 : Int32} : ∀ (fu : Nat) (x2 : Int32) (x3 : Int32) (x4 : Int32) (σ : Mm), f11_hangs_24 N x1 fu x2 x3 x4 σ = some (r0, σ0) → Same (wr11_hangs) σ σ0 := by
  intro fu
  induction fu with
  | zero =>
    intro x2 x3 x4 σ hf
    rw [f11_hangs_24] at hf
    cases hf
  | succ fu ih =>
    intro x2 x3 x4 σ hf
    rw [f11_hangs_24] at hf
    have hS : Same (wr11_hangs) σ σ := Same.rf
    obtain ⟨hi_7, hf⟩ := z_c_e hf
    rcases z_if hf with hf | hf
    · exact hS.tr (fr11_hangs_96 N  x1 x2 x3 σ hf)
    · obtain ⟨r_8, σ_9, hc_10, hf⟩ := z_b_e hf
      have hS := hS.tr ((fr11_copies N hc_10).mono (wsub [0, 1, 2, 3] rfl))
      obtain ⟨hi_11, hf⟩ := z_c_e hf
      rcases z_if hf with hf | hf
      · exact hS.tr (fr11_hangs_90 N ih x2 x3 x4 σ_9 hf)
      · obtain ⟨-, hf⟩ := z_c_e hf
        obtain ⟨σ_12, eσ_12, hf⟩ := z_l_x hf
        have hS := hS.tr (υ := σ_12) (by rw [eσ_12]; exact Same_sIe (i := 3) rfl)
        obtain ⟨r_13, σ_14, hc_15, hf⟩ := z_b_e hf
        have hS := hS.tr ((fr11_othersNow N hc_15).mono (wsub [4, 5, 6, 7, 8, 9, 10, 11, 12, 13, 14, 15] rfl))
        rcases z_if hf with hf | hf
        · exact hS.tr (fr11_hangs_90 N ih x4 r_13 x4 σ_14 hf)
        · exact hS.tr (fr11_hangs_90 N ih x2 x3 x4 σ_14 hf)
set_option maxHeartbeats 4000000 in
theorem fr11_hangs (N : Nat) {x1 : Int32} {σ σ0 : Mm} {r0 : Int32} (hf : f11_hangs N x1 σ = some (r0, σ0)) : Same (wr11_hangs) σ σ0 := by
  unfold f11_hangs at hf
  have hS : Same (wr11_hangs) σ σ := Same.rf
  obtain ⟨r_1, σ_2, hc_3, hf⟩ := z_b_e hf
  have hS := hS.tr (Same.nil (fr11_in N hc_3))
  rcases z_if hf with hf | hf
  · obtain ⟨-, rfl⟩ := Prod.mk.inj (Option.some.inj hf)
    exact hS
  · obtain ⟨r_4, σ_5, hc_6, hf⟩ := z_b_e hf
    have hS := hS.tr ((fr11_keepsWhose N hc_6).mono (wsub [0, 1, 2, 3, 4, 5, 6, 7, 8, 9, 10, 11, 12, 13, 14, 15, 16] rfl))
    exact hS.tr (fr11_hangs_24 N  N (-2 : Int32) (-2 : Int32) (0 : Int32) σ_5 hf)
def wr11_wouldSwear : Wr := [(196, 1, some 3), (196, 1, none), (196, 1, some 0), (196, 1, some 1), (196, 1, some 4), (196, 1, some 2), (196, 1, some 5), (160, 1, some 54), (197, 1, none)]
set_option maxHeartbeats 4000000 in
theorem fr11_wouldSwear (N : Nat) {x1 : Int32} {x2 : Int32} {x3 : Int32} {σ σ0 : Mm} {r0 : Int32} (hf : f11_wouldSwear N x1 x2 x3 σ = some (r0, σ0)) : Same (wr11_wouldSwear) σ σ0 := by
  unfold f11_wouldSwear at hf
  have hS : Same (wr11_wouldSwear) σ σ := Same.rf
  obtain ⟨r_1, σ_2, hc_3, hf⟩ := z_b_e hf
  have hS := hS.tr ((fr11_looksAt N hc_3).mono (wsub [0, 1, 2, 3, 4] rfl))
  obtain ⟨hi_4, hf⟩ := z_c_e hf
  obtain ⟨r_5, σ_6, hc_7, hf⟩ := z_b_e hf
  have hS := hS.tr (Same.nil (fr11_held N hc_7))
  obtain ⟨-, hf⟩ := z_c_e hf
  obtain ⟨σ_8, eσ_8, hf⟩ := z_l_x hf
  have hS := hS.tr (υ := σ_8) (by rw [eσ_8]; exact Same_sI (i := 2) rfl)
  obtain ⟨-, hf⟩ := z_c_e hf
  obtain ⟨σ_9, eσ_9, hf⟩ := z_l_x hf
  have hS := hS.tr (υ := σ_9) (by rw [eσ_9]; exact Same_sI (i := 5) rfl)
  obtain ⟨hi_10, hf⟩ := z_c_e hf
  obtain ⟨-, hf⟩ := z_c_e hf
  obtain ⟨σ_11, eσ_11, hf⟩ := z_l_x hf
  have hS := hS.tr (υ := σ_11) (by rw [eσ_11]; exact Same_sI (i := 0) rfl)
  obtain ⟨-, hf⟩ := z_c_e hf
  obtain ⟨σ_12, eσ_12, hf⟩ := z_l_x hf
  have hS := hS.tr (υ := σ_12) (by rw [eσ_12]; exact Same_sI (i := 6) rfl)
  obtain ⟨hi_13, hf⟩ := z_c_e hf
  obtain ⟨r_14, σ_15, hc_16, hf⟩ := z_b_e hf
  have hS := hS.tr ((fr11_lawTells N hc_16).mono (wsub [7, 8] rfl))
  rcases z_if hf with hf | hf
  · obtain ⟨-, rfl⟩ := Prod.mk.inj (Option.some.inj hf)
    exact hS
  · obtain ⟨-, rfl⟩ := Prod.mk.inj (Option.some.inj hf)
    exact hS
def wr11_doesCover : Wr := [(196, 1, some 3), (196, 1, none), (196, 1, some 0), (196, 1, some 1), (196, 1, some 4), (196, 1, some 2), (196, 1, some 5), (160, 1, some 54), (197, 1, none)]
set_option maxHeartbeats 4000000 in
theorem fr11_doesCover_60 (N : Nat) {x1 : Int32} {x2 : Int32} {σ0 : Mm} {r0 : Int32} {k2 : Int32 → Mm → Option (Int32 × Mm)} (hk2 : ∀ (x3 : Int32) (σ : Mm), k2 x3 σ = some (r0, σ0) → Same (wr11_doesCover) σ σ0) : ∀ (x3 : Int32) (x4 : Int32) (σ : Mm), f11_doesCover_60 N k2 x1 x2 x3 x4 σ = some (r0, σ0) → Same (wr11_doesCover) σ σ0 := by
  intro x3 x4 σ hf
  unfold f11_doesCover_60 at hf
  have hS : Same (wr11_doesCover) σ σ := Same.rf
  obtain ⟨hi_2, hf⟩ := z_c_e hf
  rcases z_if hf with hf | hf
  · obtain ⟨x3_3, ex3_3, hf⟩ := z_l_x hf
    exact hS.tr (hk2 x3_3 σ hf)
  · obtain ⟨-, rfl⟩ := Prod.mk.inj (Option.some.inj hf)
    exact hS
set_option maxHeartbeats 4000000 in
theorem fr11_doesCover_54 (N : Nat) {x1 : Int32} {x2 : Int32} {x3 : Int32} {σ0 : Mm} {r0 : Int32} {k2 : Int32 → Mm → Option (Int32 × Mm)} (hk2 : ∀ (x3 : Int32) (σ : Mm), k2 x3 σ = some (r0, σ0) → Same (wr11_doesCover) σ σ0) {k13 : Int32 → Int32 → Mm → Option (Int32 × Mm)} (hk13 : ∀ (x4 : Int32) (x5 : Int32) (σ : Mm), k13 x4 x5 σ = some (r0, σ0) → Same (wr11_doesCover) σ σ0) : ∀ (x4 : Int32) (x5 : Int32) (σ : Mm), f11_doesCover_54 N k2 k13 x1 x2 x3 x4 x5 σ = some (r0, σ0) → Same (wr11_doesCover) σ σ0 := by
  intro x4 x5 σ hf
  unfold f11_doesCover_54 at hf
  have hS : Same (wr11_doesCover) σ σ := Same.rf
  obtain ⟨x5_4, ex5_4, hf⟩ := z_l_x hf
  exact hS.tr (hk13 x4 x5_4 σ hf)
set_option maxHeartbeats 4000000 in
theorem fr11_doesCover_13 (N : Nat) {x1 : Int32} {x2 : Int32} {x3 : Int32} {σ0 : Mm} {r0 : Int32} {k2 : Int32 → Mm → Option (Int32 × Mm)} (hk2 : ∀ (x3 : Int32) (σ : Mm), k2 x3 σ = some (r0, σ0) → Same (wr11_doesCover) σ σ0) : ∀ (fu : Nat) (x4 : Int32) (x5 : Int32) (σ : Mm), f11_doesCover_13 N k2 x1 x2 x3 fu x4 x5 σ = some (r0, σ0) → Same (wr11_doesCover) σ σ0 := by
  intro fu
  induction fu with
  | zero =>
    intro x4 x5 σ hf
    rw [f11_doesCover_13] at hf
    cases hf
  | succ fu ih =>
    intro x4 x5 σ hf
    rw [f11_doesCover_13] at hf
    have hS : Same (wr11_doesCover) σ σ := Same.rf
    obtain ⟨hi_1, hf⟩ := z_c_e hf
    rcases z_if hf with hf | hf
    · exact hS.tr (fr11_doesCover_60 N hk2 x3 x4 σ hf)
    · rcases z_if hf with hf | hf
      · obtain ⟨r_5, σ_6, hc_7, hf⟩ := z_b_e hf
        have hS := hS.tr (Same.nil (fr11_bits N hc_7))
        obtain ⟨r_8, σ_9, hc_10, hf⟩ := z_b_e hf
        have hS := hS.tr ((fr11_wouldSwear N hc_10).mono (wsub [0, 1, 2, 3, 4, 5, 6, 7, 8] rfl))
        rcases z_if hf with hf | hf
        · exact hS.tr (fr11_doesCover_54 N hk2 ih x4 x5 σ_9 hf)
        · obtain ⟨x4_11, ex4_11, hf⟩ := z_l_x hf
          exact hS.tr (fr11_doesCover_54 N hk2 ih x4_11 x5 σ_9 hf)
      · exact hS.tr (fr11_doesCover_54 N hk2 ih x4 x5 σ hf)
set_option maxHeartbeats 4000000 in
theorem fr11_doesCover_2 (N : Nat) {x1 : Int32} {x2 : Int32} {σ0 : Mm} {r0 : Int32} : ∀ (fu : Nat) (x3 : Int32) (σ : Mm), f11_doesCover_2 N x1 x2 fu x3 σ = some (r0, σ0) → Same (wr11_doesCover) σ σ0 := by
  intro fu
  induction fu with
  | zero =>
    intro x3 σ hf
    rw [f11_doesCover_2] at hf
    cases hf
  | succ fu ih =>
    intro x3 σ hf
    rw [f11_doesCover_2] at hf
    have hS : Same (wr11_doesCover) σ σ := Same.rf
    rcases z_if hf with hf | hf
    · obtain ⟨-, rfl⟩ := Prod.mk.inj (Option.some.inj hf)
      exact hS
    · exact hS.tr (fr11_doesCover_13 N ih N (0 : Int32) (0 : Int32) σ hf)
set_option maxHeartbeats 4000000 in
theorem fr11_doesCover (N : Nat) {x1 : Int32} {x2 : Int32} {σ σ0 : Mm} {r0 : Int32} (hf : f11_doesCover N x1 x2 σ = some (r0, σ0)) : Same (wr11_doesCover) σ σ0 := by
  unfold f11_doesCover at hf
  have hS : Same (wr11_doesCover) σ σ := Same.rf
  exact hS.tr (fr11_doesCover_2 N  N (0 : Int32) σ hf)
def wr11_ithOf : Wr := []
set_option maxHeartbeats 4000000 in
theorem fr11_ithOf_31 (N : Nat) {x0 : Int32} {x1 : Int32} {σ0 : Mm} {r0 : Int32} {k4 : Int32 → Int32 → Mm → Option (Int32 × Mm)} (hk4 : ∀ (x2 : Int32) (x3 : Int32) (σ : Mm), k4 x2 x3 σ = some (r0, σ0) → Same (wr11_ithOf) σ σ0) : ∀ (x2 : Int32) (x3 : Int32) (σ : Mm), f11_ithOf_31 N k4 x0 x1 x2 x3 σ = some (r0, σ0) → Same (wr11_ithOf) σ σ0 := by
  intro x2 x3 σ hf
  unfold f11_ithOf_31 at hf
  have hS : Same (wr11_ithOf) σ σ := Same.rf
  obtain ⟨x3_2, ex3_2, hf⟩ := z_l_x hf
  exact hS.tr (hk4 x2 x3_2 σ hf)
set_option maxHeartbeats 4000000 in
theorem fr11_ithOf_4 (N : Nat) {x0 : Int32} {x1 : Int32} {σ0 : Mm} {r0 : Int32} : ∀ (fu : Nat) (x2 : Int32) (x3 : Int32) (σ : Mm), f11_ithOf_4 N x0 x1 fu x2 x3 σ = some (r0, σ0) → Same (wr11_ithOf) σ σ0 := by
  intro fu
  induction fu with
  | zero =>
    intro x2 x3 σ hf
    rw [f11_ithOf_4] at hf
    cases hf
  | succ fu ih =>
    intro x2 x3 σ hf
    rw [f11_ithOf_4] at hf
    have hS : Same (wr11_ithOf) σ σ := Same.rf
    rcases z_if hf with hf | hf
    · obtain ⟨-, rfl⟩ := Prod.mk.inj (Option.some.inj hf)
      exact hS
    · rcases z_if hf with hf | hf
      · exact hS.tr (fr11_ithOf_31 N ih x2 x3 σ hf)
      · rcases z_if hf with hf | hf
        · obtain ⟨-, rfl⟩ := Prod.mk.inj (Option.some.inj hf)
          exact hS
        · obtain ⟨x2_1, ex2_1, hf⟩ := z_l_x hf
          exact hS.tr (fr11_ithOf_31 N ih x2_1 x3 σ hf)
set_option maxHeartbeats 4000000 in
theorem fr11_ithOf (N : Nat) {x0 : Int32} {x1 : Int32} {σ σ0 : Mm} {r0 : Int32} (hf : f11_ithOf N x0 x1 σ = some (r0, σ0)) : Same (wr11_ithOf) σ σ0 := by
  unfold f11_ithOf at hf
  have hS : Same (wr11_ithOf) σ σ := Same.rf
  exact hS.tr (fr11_ithOf_4 N  N (0 : Int32) (0 : Int32) σ hf)
def wr11_isEarlier : Wr := []
set_option maxHeartbeats 4000000 in
theorem fr11_isEarlier_20 (N : Nat) {σ0 : Mm} {r0 : Int32} : ∀ (x0 : Int32) (x1 : Int32) (x2 : Int32) (σ : Mm), f11_isEarlier_20 N x0 x1 x2 σ = some (r0, σ0) → Same (wr11_isEarlier) σ σ0 := by
  intro x0 x1 x2 σ hf
  unfold f11_isEarlier_20 at hf
  have hS : Same (wr11_isEarlier) σ σ := Same.rf
  obtain ⟨r_8, σ_9, hc_10, hf⟩ := z_b_e hf
  have hS := hS.tr (Same.nil (fr11_ithOf N hc_10))
  obtain ⟨r_11, σ_12, hc_13, hf⟩ := z_b_e hf
  have hS := hS.tr (Same.nil (fr11_ithOf N hc_13))
  rcases z_if hf with hf | hf
  · obtain ⟨-, rfl⟩ := Prod.mk.inj (Option.some.inj hf)
    exact hS
  · obtain ⟨-, rfl⟩ := Prod.mk.inj (Option.some.inj hf)
    exact hS
set_option maxHeartbeats 4000000 in
theorem fr11_isEarlier_2 (N : Nat) {x0 : Int32} {x1 : Int32} {σ0 : Mm} {r0 : Int32} : ∀ (fu : Nat) (x2 : Int32) (σ : Mm), f11_isEarlier_2 N x0 x1 fu x2 σ = some (r0, σ0) → Same (wr11_isEarlier) σ σ0 := by
  intro fu
  induction fu with
  | zero =>
    intro x2 σ hf
    rw [f11_isEarlier_2] at hf
    cases hf
  | succ fu ih =>
    intro x2 σ hf
    rw [f11_isEarlier_2] at hf
    have hS : Same (wr11_isEarlier) σ σ := Same.rf
    rcases z_if hf with hf | hf
    · obtain ⟨-, rfl⟩ := Prod.mk.inj (Option.some.inj hf)
      exact hS
    · obtain ⟨r_1, σ_2, hc_3, hf⟩ := z_b_e hf
      have hS := hS.tr (Same.nil (fr11_ithOf N hc_3))
      obtain ⟨r_4, σ_5, hc_6, hf⟩ := z_b_e hf
      have hS := hS.tr (Same.nil (fr11_ithOf N hc_6))
      rcases z_if hf with hf | hf
      · obtain ⟨x2_7, ex2_7, hf⟩ := z_l_x hf
        exact hS.tr (ih x2_7 σ_5 hf)
      · exact hS.tr (fr11_isEarlier_20 N  x0 x1 x2 σ_5 hf)
set_option maxHeartbeats 4000000 in
theorem fr11_isEarlier (N : Nat) {x0 : Int32} {x1 : Int32} {σ σ0 : Mm} {r0 : Int32} (hf : f11_isEarlier N x0 x1 σ = some (r0, σ0)) : Same (wr11_isEarlier) σ σ0 := by
  unfold f11_isEarlier at hf
  have hS : Same (wr11_isEarlier) σ σ := Same.rf
  exact hS.tr (fr11_isEarlier_2 N  N (0 : Int32) σ hf)
def wr11_isLong : Wr := []
set_option maxHeartbeats 4000000 in
theorem fr11_isLong (N : Nat) {x0 : Int32} {σ σ0 : Mm} {r0 : Int32} (hf : f11_isLong N x0 σ = some (r0, σ0)) : Same (wr11_isLong) σ σ0 := by
  unfold f11_isLong at hf
  have hS : Same (wr11_isLong) σ σ := Same.rf
  obtain ⟨r_1, σ_2, hc_3, hf⟩ := z_b_e hf
  have hS := hS.tr (Same.nil (fr11_in N hc_3))
  obtain ⟨-, hf⟩ := z_c_e hf
  obtain ⟨-, rfl⟩ := Prod.mk.inj (Option.some.inj hf)
  exact hS
def wr11_cover : Wr := [(160, 1, some 57), (160, 1, some 58), (160, 1, some 59), (199, 1, none), (196, 1, some 3), (196, 1, none), (196, 1, some 0), (196, 1, some 1), (196, 1, some 4), (196, 1, some 2), (196, 1, some 5), (160, 1, some 54), (197, 1, none)]
set_option maxHeartbeats 4000000 in
theorem fr11_cover_120 (N : Nat) {σ0 : Mm} {r0 : Int32} : ∀ (x2 : Int32) (x3 : Int32) (σ : Mm), f11_cover_120 N x2 x3 σ = some (r0, σ0) → Same (wr11_cover) σ σ0 := by
  intro x2 x3 σ hf
  unfold f11_cover_120 at hf
  have hS : Same (wr11_cover) σ σ := Same.rf
  rcases z_if hf with hf | hf
  · rcases z_if hf with hf | hf
    · obtain ⟨r_14, σ_15, hc_16, hf⟩ := z_b_e hf
      have hS := hS.tr (Same.nil (fr11_bits N hc_16))
      obtain ⟨-, rfl⟩ := Prod.mk.inj (Option.some.inj hf)
      exact hS
    · obtain ⟨r_11, σ_12, hc_13, hf⟩ := z_b_e hf
      have hS := hS.tr (Same.nil (fr11_ithOf N hc_13))
      obtain ⟨-, rfl⟩ := Prod.mk.inj (Option.some.inj hf)
      exact hS
  · obtain ⟨-, rfl⟩ := Prod.mk.inj (Option.some.inj hf)
    exact hS
set_option maxHeartbeats 4000000 in
theorem fr11_cover_114 (N : Nat) {x1 : Int32} {x2 : Int32} {σ0 : Mm} {r0 : Int32} {k27 : Int32 → Int32 → Mm → Option (Int32 × Mm)} (hk27 : ∀ (x3 : Int32) (x4 : Int32) (σ : Mm), k27 x3 x4 σ = some (r0, σ0) → Same (wr11_cover) σ σ0) : ∀ (x3 : Int32) (x4 : Int32) (σ : Mm), f11_cover_114 N k27 x1 x2 x3 x4 σ = some (r0, σ0) → Same (wr11_cover) σ σ0 := by
  intro x3 x4 σ hf
  unfold f11_cover_114 at hf
  have hS : Same (wr11_cover) σ σ := Same.rf
  obtain ⟨x4_20, ex4_20, hf⟩ := z_l_x hf
  exact hS.tr (hk27 x3 x4_20 σ hf)
set_option maxHeartbeats 4000000 in
theorem fr11_cover_111 (N : Nat) {x1 : Int32} {x2 : Int32} {σ0 : Mm} {r0 : Int32} {k27 : Int32 → Int32 → Mm → Option (Int32 × Mm)} (hk27 : ∀ (x3 : Int32) (x4 : Int32) (σ : Mm), k27 x3 x4 σ = some (r0, σ0) → Same (wr11_cover) σ σ0) : ∀ (x4 : Int32) (σ : Mm), f11_cover_111 N k27 x1 x2 x4 σ = some (r0, σ0) → Same (wr11_cover) σ σ0 := by
  intro x4 σ hf
  unfold f11_cover_111 at hf
  have hS : Same (wr11_cover) σ σ := Same.rf
  exact hS.tr (fr11_cover_114 N hk27 x4 x4 σ hf)
set_option maxHeartbeats 4000000 in
theorem fr11_cover_27 (N : Nat) {x1 : Int32} {x2 : Int32} {σ0 : Mm} {r0 : Int32} : ∀ (fu : Nat) (x3 : Int32) (x4 : Int32) (σ : Mm), f11_cover_27 N x1 x2 fu x3 x4 σ = some (r0, σ0) → Same (wr11_cover) σ σ0 := by
  intro fu
  induction fu with
  | zero =>
    intro x3 x4 σ hf
    rw [f11_cover_27] at hf
    cases hf
  | succ fu ih =>
    intro x3 x4 σ hf
    rw [f11_cover_27] at hf
    have hS : Same (wr11_cover) σ σ := Same.rf
    obtain ⟨hi_10, hf⟩ := z_c_e hf
    rcases z_if hf with hf | hf
    · exact hS.tr (fr11_cover_120 N  x2 x3 σ hf)
    · obtain ⟨r_17, σ_18, hc_19, hf⟩ := z_b_e hf
      have hS := hS.tr (Same.nil (fr11_bits N hc_19))
      rcases z_if hf with hf | hf
      · exact hS.tr (fr11_cover_114 N ih x3 x4 σ_18 hf)
      · obtain ⟨r_21, σ_22, hc_23, hf⟩ := z_b_e hf
        have hS := hS.tr (Same.nil (fr11_areAlive N hc_23))
        rcases z_if hf with hf | hf
        · exact hS.tr (fr11_cover_114 N ih x3 x4 σ_22 hf)
        · obtain ⟨r_24, σ_25, hc_26, hf⟩ := z_b_e hf
          have hS := hS.tr ((fr11_doesCover N hc_26).mono (wsub [4, 5, 6, 7, 8, 9, 10, 11, 12] rfl))
          rcases z_if hf with hf | hf
          · exact hS.tr (fr11_cover_114 N ih x3 x4 σ_25 hf)
          · rcases z_if hf with hf | hf
            · exact hS.tr (fr11_cover_111 N ih x4 σ_25 hf)
            · obtain ⟨r_27, σ_28, hc_29, hf⟩ := z_b_e hf
              have hS := hS.tr (Same.nil (fr11_bits N hc_29))
              obtain ⟨r_30, σ_31, hc_32, hf⟩ := z_b_e hf
              have hS := hS.tr (Same.nil (fr11_bits N hc_32))
              rcases z_if hf with hf | hf
              · exact hS.tr (fr11_cover_111 N ih x4 σ_31 hf)
              · obtain ⟨r_33, σ_34, hc_35, hf⟩ := z_b_e hf
                have hS := hS.tr (Same.nil (fr11_bits N hc_35))
                obtain ⟨r_36, σ_37, hc_38, hf⟩ := z_b_e hf
                have hS := hS.tr (Same.nil (fr11_bits N hc_38))
                rcases z_if hf with hf | hf
                · obtain ⟨r_39, σ_40, hc_41, hf⟩ := z_b_e hf
                  have hS := hS.tr (Same.nil (fr11_isEarlier N hc_41))
                  rcases z_if hf with hf | hf
                  · exact hS.tr (fr11_cover_114 N ih x3 x4 σ_40 hf)
                  · exact hS.tr (fr11_cover_111 N ih x4 σ_40 hf)
                · exact hS.tr (fr11_cover_114 N ih x3 x4 σ_37 hf)
set_option maxHeartbeats 4000000 in
theorem fr11_cover (N : Nat) {x1 : Int32} {x2 : Int32} {σ σ0 : Mm} {r0 : Int32} (hf : f11_cover N x1 x2 σ = some (r0, σ0)) : Same (wr11_cover) σ σ0 := by
  unfold f11_cover at hf
  have hS : Same (wr11_cover) σ σ := Same.rf
  obtain ⟨r_1, σ_2, hc_3, hf⟩ := z_b_e hf
  have hS := hS.tr (Same.nil (fr11_isLong N hc_3))
  rcases z_if hf with hf | hf
  · obtain ⟨-, rfl⟩ := Prod.mk.inj (Option.some.inj hf)
    exact hS
  · obtain ⟨r_4, σ_5, hc_6, hf⟩ := z_b_e hf
    have hS := hS.tr (Same.nil (fr11_in N hc_6))
    rcases z_if hf with hf | hf
    · obtain ⟨-, rfl⟩ := Prod.mk.inj (Option.some.inj hf)
      exact hS
    · obtain ⟨r_7, σ_8, hc_9, hf⟩ := z_b_e hf
      have hS := hS.tr ((fr11_copies N hc_9).mono (wsub [0, 1, 2, 3] rfl))
      exact hS.tr (fr11_cover_27 N  N (-1 : Int32) (0 : Int32) σ_8 hf)
def wr11_walk : Wr := [(160, 1, some 57), (160, 1, some 58), (160, 1, some 59), (199, 1, none), (196, 1, some 3), (196, 1, none), (196, 1, some 6), (196, 1, some 7), (196, 1, some 8), (160, 1, some 54), (197, 1, none)]
set_option maxHeartbeats 4000000 in
theorem fr11_walk (N : Nat) {x1 : Int32} {x2 : Int32} {σ σ0 : Mm} {r0 : Int32} (hf : f11_walk N x1 x2 σ = some (r0, σ0)) : Same (wr11_walk) σ σ0 := by
  unfold f11_walk at hf
  have hS : Same (wr11_walk) σ σ := Same.rf
  obtain ⟨r_1, σ_2, hc_3, hf⟩ := z_b_e hf
  have hS := hS.tr (Same.nil (fr11_isPlot N hc_3))
  rcases z_if hf with hf | hf
  · obtain ⟨-, rfl⟩ := Prod.mk.inj (Option.some.inj hf)
    exact hS
  · obtain ⟨r_4, σ_5, hc_6, hf⟩ := z_b_e hf
    have hS := hS.tr (Same.nil (fr11_isPlot N hc_6))
    rcases z_if hf with hf | hf
    · obtain ⟨-, rfl⟩ := Prod.mk.inj (Option.some.inj hf)
      exact hS
    · obtain ⟨r_7, σ_8, hc_9, hf⟩ := z_b_e hf
      have hS := hS.tr ((fr11_copies N hc_9).mono (wsub [0, 1, 2, 3] rfl))
      obtain ⟨r_10, σ_11, hc_12, hf⟩ := z_b_e hf
      have hS := hS.tr ((fr11_walksTo N hc_12).mono (wsub [4, 5, 6, 7, 8, 9, 10] rfl))
      obtain ⟨-, rfl⟩ := Prod.mk.inj (Option.some.inj hf)
      exact hS
def wr11_asks : Wr := [(160, 1, some 57), (160, 1, some 58), (160, 1, some 59), (199, 1, none), (196, 1, some 3), (196, 1, none), (196, 1, some 7), (196, 1, some 8), (160, 1, some 54), (197, 1, none)]
set_option maxHeartbeats 4000000 in
theorem fr11_asks (N : Nat) {x1 : Int32} {σ σ0 : Mm} {r0 : Int32} (hf : f11_asks N x1 σ = some (r0, σ0)) : Same (wr11_asks) σ σ0 := by
  unfold f11_asks at hf
  have hS : Same (wr11_asks) σ σ := Same.rf
  obtain ⟨r_1, σ_2, hc_3, hf⟩ := z_b_e hf
  have hS := hS.tr (Same.nil (fr11_isPlot N hc_3))
  rcases z_if hf with hf | hf
  · obtain ⟨-, rfl⟩ := Prod.mk.inj (Option.some.inj hf)
    exact hS
  · obtain ⟨r_4, σ_5, hc_6, hf⟩ := z_b_e hf
    have hS := hS.tr ((fr11_copies N hc_6).mono (wsub [0, 1, 2, 3] rfl))
    obtain ⟨r_7, σ_8, hc_9, hf⟩ := z_b_e hf
    have hS := hS.tr ((fr11_asksAt N hc_9).mono (wsub [4, 5, 6, 7, 8, 9] rfl))
    obtain ⟨-, rfl⟩ := Prod.mk.inj (Option.some.inj hf)
    exact hS
def wr11_fillsWalks : Wr := [(160, 1, some 57), (160, 1, some 58), (160, 1, some 59), (199, 1, none), (196, 1, some 3), (196, 1, none), (196, 1, some 7), (196, 1, some 8), (160, 1, some 54), (197, 1, none), (207, 1, none), (196, 1, some 6), (206, 1, none)]
set_option maxHeartbeats 4000000 in
theorem fr11_fillsWalks_68 (N : Nat) {σ0 : Mm} {u0 : Unit} {k6 : Int32 → Mm → Option (Unit × Mm)} (hk6 : ∀ (x1 : Int32) (σ : Mm), k6 x1 σ = some (u0, σ0) → Same (wr11_fillsWalks) σ σ0) : ∀ (x1 : Int32) (σ : Mm), f11_fillsWalks_68 N k6 x1 σ = some (u0, σ0) → Same (wr11_fillsWalks) σ σ0 := by
  intro x1 σ hf
  unfold f11_fillsWalks_68 at hf
  have hS : Same (wr11_fillsWalks) σ σ := Same.rf
  obtain ⟨x1_10, ex1_10, hf⟩ := z_l_x hf
  exact hS.tr (hk6 x1_10 σ hf)
set_option maxHeartbeats 4000000 in
theorem fr11_fillsWalks_32 (N : Nat) {x1 : Int32} {σ0 : Mm} {u0 : Unit} {k6 : Int32 → Mm → Option (Unit × Mm)} (hk6 : ∀ (x1 : Int32) (σ : Mm), k6 x1 σ = some (u0, σ0) → Same (wr11_fillsWalks) σ σ0) : ∀ (fu : Nat) (x2 : Int32) (σ : Mm), f11_fillsWalks_32 N k6 x1 fu x2 σ = some (u0, σ0) → Same (wr11_fillsWalks) σ σ0 := by
  intro fu
  induction fu with
  | zero =>
    intro x2 σ hf
    rw [f11_fillsWalks_32] at hf
    cases hf
  | succ fu ih =>
    intro x2 σ hf
    rw [f11_fillsWalks_32] at hf
    have hS : Same (wr11_fillsWalks) σ σ := Same.rf
    obtain ⟨hi_9, hf⟩ := z_c_e hf
    rcases z_if hf with hf | hf
    · exact hS.tr (fr11_fillsWalks_68 N hk6 x1 σ hf)
    · obtain ⟨r_11, σ_12, hc_13, hf⟩ := z_b_e hf
      have hS := hS.tr ((fr11_walksTo N hc_13).mono (wsub [4, 5, 11, 6, 7, 8, 9] rfl))
      obtain ⟨-, hf⟩ := z_c_e hf
      obtain ⟨σ_14, eσ_14, hf⟩ := z_l_x hf
      have hS := hS.tr (υ := σ_14) (by rw [eσ_14]; exact Same_sIe (i := 12) rfl)
      obtain ⟨x2_15, ex2_15, hf⟩ := z_l_x hf
      exact hS.tr (ih x2_15 σ_14 hf)
set_option maxHeartbeats 4000000 in
theorem fr11_fillsWalks_6 (N : Nat) {σ0 : Mm} {u0 : Unit} : ∀ (fu : Nat) (x1 : Int32) (σ : Mm), f11_fillsWalks_6 N fu x1 σ = some (u0, σ0) → Same (wr11_fillsWalks) σ σ0 := by
  intro fu
  induction fu with
  | zero =>
    intro x1 σ hf
    rw [f11_fillsWalks_6] at hf
    cases hf
  | succ fu ih =>
    intro x1 σ hf
    rw [f11_fillsWalks_6] at hf
    have hS : Same (wr11_fillsWalks) σ σ := Same.rf
    obtain ⟨hi_4, hf⟩ := z_c_e hf
    rcases z_if hf with hf | hf
    · obtain ⟨-, rfl⟩ := Prod.mk.inj (Option.some.inj hf)
      exact hS
    · obtain ⟨r_5, σ_6, hc_7, hf⟩ := z_b_e hf
      have hS := hS.tr ((fr11_asksAt N hc_7).mono (wsub [4, 5, 6, 7, 8, 9] rfl))
      obtain ⟨-, hf⟩ := z_c_e hf
      obtain ⟨σ_8, eσ_8, hf⟩ := z_l_x hf
      have hS := hS.tr (υ := σ_8) (by rw [eσ_8]; exact Same_sIe (i := 10) rfl)
      exact hS.tr (fr11_fillsWalks_32 N ih N (0 : Int32) σ_8 hf)
set_option maxHeartbeats 4000000 in
theorem fr11_fillsWalks (N : Nat) {σ σ0 : Mm} {u0 : Unit} (hf : f11_fillsWalks N σ = some (u0, σ0)) : Same (wr11_fillsWalks) σ σ0 := by
  unfold f11_fillsWalks at hf
  have hS : Same (wr11_fillsWalks) σ σ := Same.rf
  obtain ⟨r_1, σ_2, hc_3, hf⟩ := z_b_e hf
  have hS := hS.tr ((fr11_copies N hc_3).mono (wsub [0, 1, 2, 3] rfl))
  exact hS.tr (fr11_fillsWalks_6 N  N (0 : Int32) σ_2 hf)
def wr11_nextOf : Wr := []
set_option maxHeartbeats 4000000 in
theorem fr11_nextOf_100 (N : Nat) {x2 : Int32} {x3 : Int32} {σ0 : Mm} {r0 : Int32} {k14 : Int32 → Int32 → Mm → Option (Int32 × Mm)} (hk14 : ∀ (x4 : Int32) (x5 : Int32) (σ : Mm), k14 x4 x5 σ = some (r0, σ0) → Same (wr11_nextOf) σ σ0) : ∀ (x4 : Int32) (x5 : Int32) (σ : Mm), f11_nextOf_100 N k14 x2 x3 x4 x5 σ = some (r0, σ0) → Same (wr11_nextOf) σ σ0 := by
  intro x4 x5 σ hf
  unfold f11_nextOf_100 at hf
  have hS : Same (wr11_nextOf) σ σ := Same.rf
  obtain ⟨x5_3, ex5_3, hf⟩ := z_l_x hf
  exact hS.tr (hk14 x4 x5_3 σ hf)
set_option maxHeartbeats 4000000 in
theorem fr11_nextOf_96 (N : Nat) {x2 : Int32} {x3 : Int32} {σ0 : Mm} {r0 : Int32} {k14 : Int32 → Int32 → Mm → Option (Int32 × Mm)} (hk14 : ∀ (x4 : Int32) (x5 : Int32) (σ : Mm), k14 x4 x5 σ = some (r0, σ0) → Same (wr11_nextOf) σ σ0) : ∀ (x5 : Int32) (σ : Mm), f11_nextOf_96 N k14 x2 x3 x5 σ = some (r0, σ0) → Same (wr11_nextOf) σ σ0 := by
  intro x5 σ hf
  unfold f11_nextOf_96 at hf
  have hS : Same (wr11_nextOf) σ σ := Same.rf
  exact hS.tr (fr11_nextOf_100 N hk14 x5 x5 σ hf)
set_option maxHeartbeats 4000000 in
theorem fr11_nextOf_14 (N : Nat) {x2 : Int32} {x3 : Int32} {σ0 : Mm} {r0 : Int32} : ∀ (fu : Nat) (x4 : Int32) (x5 : Int32) (σ : Mm), f11_nextOf_14 N x2 x3 fu x4 x5 σ = some (r0, σ0) → Same (wr11_nextOf) σ σ0 := by
  intro fu
  induction fu with
  | zero =>
    intro x4 x5 σ hf
    rw [f11_nextOf_14] at hf
    cases hf
  | succ fu ih =>
    intro x4 x5 σ hf
    rw [f11_nextOf_14] at hf
    have hS : Same (wr11_nextOf) σ σ := Same.rf
    obtain ⟨hi_2, hf⟩ := z_c_e hf
    rcases z_if hf with hf | hf
    · obtain ⟨-, rfl⟩ := Prod.mk.inj (Option.some.inj hf)
      exact hS
    · rcases z_if hf with hf | hf
      · rcases z_if hf with hf | hf
        · exact hS.tr (fr11_nextOf_96 N ih x5 σ hf)
        · obtain ⟨hi_4, hf⟩ := z_c_e hf
          obtain ⟨hi_5, hf⟩ := z_c_e hf
          obtain ⟨hi_6, hf⟩ := z_c_e hf
          obtain ⟨hi_7, hf⟩ := z_c_e hf
          rcases z_if hf with hf | hf
          · exact hS.tr (fr11_nextOf_100 N ih x4 x5 σ hf)
          · exact hS.tr (fr11_nextOf_96 N ih x5 σ hf)
      · exact hS.tr (fr11_nextOf_100 N ih x4 x5 σ hf)
set_option maxHeartbeats 4000000 in
theorem fr11_nextOf (N : Nat) {x1 : Int32} {x2 : Int32} {σ σ0 : Mm} {r0 : Int32} (hf : f11_nextOf N x1 x2 σ = some (r0, σ0)) : Same (wr11_nextOf) σ σ0 := by
  unfold f11_nextOf at hf
  have hS : Same (wr11_nextOf) σ σ := Same.rf
  obtain ⟨x3_1, ex3_1, hf⟩ := z_l_x hf
  exact hS.tr (fr11_nextOf_14 N  N (-1 : Int32) (0 : Int32) σ hf)
def wr11_fillsTakes : Wr := [(160, 1, some 57), (160, 1, some 58), (160, 1, some 59), (199, 1, none), (196, 1, some 3), (196, 1, none), (196, 1, some 7), (196, 1, some 8), (160, 1, some 54), (197, 1, none), (207, 1, none), (196, 1, some 6), (206, 1, none), (205, 1, none)]
set_option maxHeartbeats 4000000 in
theorem fr11_fillsTakes_129 (N : Nat) {σ0 : Mm} {u0 : Unit} {k6 : Int32 → Mm → Option (Unit × Mm)} (hk6 : ∀ (x1 : Int32) (σ : Mm), k6 x1 σ = some (u0, σ0) → Same (wr11_fillsTakes) σ σ0) : ∀ (x1 : Int32) (σ : Mm), f11_fillsTakes_129 N k6 x1 σ = some (u0, σ0) → Same (wr11_fillsTakes) σ σ0 := by
  intro x1 σ hf
  unfold f11_fillsTakes_129 at hf
  have hS : Same (wr11_fillsTakes) σ σ := Same.rf
  obtain ⟨x1_6, ex1_6, hf⟩ := z_l_x hf
  exact hS.tr (hk6 x1_6 σ hf)
set_option maxHeartbeats 4000000 in
theorem fr11_fillsTakes_123 (N : Nat) {x1 : Int32} {σ0 : Mm} {u0 : Unit} {k6 : Int32 → Mm → Option (Unit × Mm)} (hk6 : ∀ (x1 : Int32) (σ : Mm), k6 x1 σ = some (u0, σ0) → Same (wr11_fillsTakes) σ σ0) {k23 : Int32 → Mm → Option (Unit × Mm)} (hk23 : ∀ (x2 : Int32) (σ : Mm), k23 x2 σ = some (u0, σ0) → Same (wr11_fillsTakes) σ σ0) : ∀ (x2 : Int32) (σ : Mm), f11_fillsTakes_123 N k6 k23 x1 x2 σ = some (u0, σ0) → Same (wr11_fillsTakes) σ σ0 := by
  intro x2 σ hf
  unfold f11_fillsTakes_123 at hf
  have hS : Same (wr11_fillsTakes) σ σ := Same.rf
  obtain ⟨x2_15, ex2_15, hf⟩ := z_l_x hf
  exact hS.tr (hk23 x2_15 σ hf)
set_option maxHeartbeats 4000000 in
theorem fr11_fillsTakes_121 (N : Nat) {x1 : Int32} {σ0 : Mm} {u0 : Unit} {k6 : Int32 → Mm → Option (Unit × Mm)} (hk6 : ∀ (x1 : Int32) (σ : Mm), k6 x1 σ = some (u0, σ0) → Same (wr11_fillsTakes) σ σ0) {k23 : Int32 → Mm → Option (Unit × Mm)} (hk23 : ∀ (x2 : Int32) (σ : Mm), k23 x2 σ = some (u0, σ0) → Same (wr11_fillsTakes) σ σ0) : ∀ (x2 : Int32) (s1 : Int32) (s2 : Int32) (s3 : Int32) (σ : Mm), f11_fillsTakes_121 N k6 k23 x1 x2 s1 s2 s3 σ = some (u0, σ0) → Same (wr11_fillsTakes) σ σ0 := by
  intro x2 s1 s2 s3 σ hf
  unfold f11_fillsTakes_121 at hf
  have hS : Same (wr11_fillsTakes) σ σ := Same.rf
  obtain ⟨-, hf⟩ := z_c_e hf
  obtain ⟨σ_14, eσ_14, hf⟩ := z_l_x hf
  have hS := hS.tr (υ := σ_14) (by rw [eσ_14]; exact Same_sIe (i := 13) rfl)
  exact hS.tr (fr11_fillsTakes_123 N hk6 hk23 x2 σ_14 hf)
set_option maxHeartbeats 4000000 in
theorem fr11_fillsTakes_23 (N : Nat) {x1 : Int32} {σ0 : Mm} {u0 : Unit} {k6 : Int32 → Mm → Option (Unit × Mm)} (hk6 : ∀ (x1 : Int32) (σ : Mm), k6 x1 σ = some (u0, σ0) → Same (wr11_fillsTakes) σ σ0) : ∀ (fu : Nat) (x2 : Int32) (σ : Mm), f11_fillsTakes_23 N k6 x1 fu x2 σ = some (u0, σ0) → Same (wr11_fillsTakes) σ σ0 := by
  intro fu
  induction fu with
  | zero =>
    intro x2 σ hf
    rw [f11_fillsTakes_23] at hf
    cases hf
  | succ fu ih =>
    intro x2 σ hf
    rw [f11_fillsTakes_23] at hf
    have hS : Same (wr11_fillsTakes) σ σ := Same.rf
    obtain ⟨hi_5, hf⟩ := z_c_e hf
    rcases z_if hf with hf | hf
    · exact hS.tr (fr11_fillsTakes_129 N hk6 x1 σ hf)
    · obtain ⟨-, hf⟩ := z_c_e hf
      obtain ⟨σ_7, eσ_7, hf⟩ := z_l_x hf
      have hS := hS.tr (υ := σ_7) (by rw [eσ_7]; exact Same_sIe (i := 13) rfl)
      rcases z_if hf with hf | hf
      · exact hS.tr (fr11_fillsTakes_123 N hk6 ih x2 σ_7 hf)
      · obtain ⟨r_8, σ_9, hc_10, hf⟩ := z_b_e hf
        have hS := hS.tr (Same.nil (fr11_nextOf N hc_10))
        obtain ⟨hi_11, hf⟩ := z_c_e hf
        rcases z_if hf with hf | hf
        · obtain ⟨hi_12, hf⟩ := z_c_e hf
          obtain ⟨hi_13, hf⟩ := z_c_e hf
          exact hS.tr (fr11_fillsTakes_121 N hk6 ih x2 (((7 : Int32) * x1) + x2) (gI σ_9 207 (ix x2)) ((gI σ_9 206 (ix (((7 : Int32) * x2) + r_8))) + (gI σ_9 205 (ix (((7 : Int32) * (x1 &&& (((1 : Int32) <<< (x2 &&& 31)) ^^^ (-1 : Int32)))) + r_8)))) σ_9 hf)
        · exact hS.tr (fr11_fillsTakes_121 N hk6 ih x2 (((7 : Int32) * x1) + x2) (gI σ_9 207 (ix x2)) (0 : Int32) σ_9 hf)
set_option maxHeartbeats 4000000 in
theorem fr11_fillsTakes_6 (N : Nat) {σ0 : Mm} {u0 : Unit} : ∀ (fu : Nat) (x1 : Int32) (σ : Mm), f11_fillsTakes_6 N fu x1 σ = some (u0, σ0) → Same (wr11_fillsTakes) σ σ0 := by
  intro fu
  induction fu with
  | zero =>
    intro x1 σ hf
    rw [f11_fillsTakes_6] at hf
    cases hf
  | succ fu ih =>
    intro x1 σ hf
    rw [f11_fillsTakes_6] at hf
    have hS : Same (wr11_fillsTakes) σ σ := Same.rf
    obtain ⟨hi_4, hf⟩ := z_c_e hf
    rcases z_if hf with hf | hf
    · obtain ⟨-, rfl⟩ := Prod.mk.inj (Option.some.inj hf)
      exact hS
    · exact hS.tr (fr11_fillsTakes_23 N ih N (0 : Int32) σ hf)
set_option maxHeartbeats 4000000 in
theorem fr11_fillsTakes (N : Nat) {σ σ0 : Mm} {u0 : Unit} (hf : f11_fillsTakes N σ = some (u0, σ0)) : Same (wr11_fillsTakes) σ σ0 := by
  unfold f11_fillsTakes at hf
  have hS : Same (wr11_fillsTakes) σ σ := Same.rf
  obtain ⟨r_1, σ_2, hc_3, hf⟩ := z_b_e hf
  have hS := hS.tr ((fr11_fillsWalks N hc_3).mono (wsub [0, 1, 2, 3, 4, 5, 6, 7, 8, 9, 10, 11, 12] rfl))
  exact hS.tr (fr11_fillsTakes_6 N  N (0 : Int32) σ_2 hf)
def wr11_round : Wr := [(160, 1, some 57), (160, 1, some 58), (160, 1, some 59), (199, 1, none), (196, 1, some 3), (196, 1, none), (196, 1, some 7), (196, 1, some 8), (160, 1, some 54), (197, 1, none), (207, 1, none), (196, 1, some 6), (206, 1, none), (205, 1, none)]
set_option maxHeartbeats 4000000 in
theorem fr11_round_138 (N : Nat) {x2 : Int32} {σ0 : Mm} {r0 : Int32} : ∀ (fu : Nat) (x3 : Int32) (x4 : Int32) (x5 : Int32) (σ : Mm), f11_round_138 N x2 fu x3 x4 x5 σ = some (r0, σ0) → Same (wr11_round) σ σ0 := by
  intro fu
  induction fu with
  | zero =>
    intro x3 x4 x5 σ hf
    rw [f11_round_138] at hf
    cases hf
  | succ fu ih =>
    intro x3 x4 x5 σ hf
    rw [f11_round_138] at hf
    have hS : Same (wr11_round) σ σ := Same.rf
    rcases z_if hf with hf | hf
    · obtain ⟨-, rfl⟩ := Prod.mk.inj (Option.some.inj hf)
      exact hS
    · obtain ⟨r_15, σ_16, hc_17, hf⟩ := z_b_e hf
      have hS := hS.tr (Same.nil (fr11_nextOf N hc_17))
      obtain ⟨x4_18, ex4_18, hf⟩ := z_l_x hf
      obtain ⟨x5_19, ex5_19, hf⟩ := z_l_x hf
      exact hS.tr (ih r_15 x4_18 x5_19 σ_16 hf)
set_option maxHeartbeats 4000000 in
theorem fr11_round_115 (N : Nat) {σ0 : Mm} {r0 : Int32} : ∀ (x1 : Int32) (x2 : Int32) (x3 : Int32) (σ : Mm), f11_round_115 N x1 x2 x3 σ = some (r0, σ0) → Same (wr11_round) σ σ0 := by
  intro x1 x2 x3 σ hf
  unfold f11_round_115 at hf
  have hS : Same (wr11_round) σ σ := Same.rf
  rcases z_if hf with hf | hf
  · obtain ⟨hi_20, hf⟩ := z_c_e hf
    obtain ⟨-, rfl⟩ := Prod.mk.inj (Option.some.inj hf)
    exact hS
  · exact hS.tr (fr11_round_138 N  N x3 x1 (0 : Int32) σ hf)
set_option maxHeartbeats 4000000 in
theorem fr11_round_109 (N : Nat) {x1 : Int32} {x2 : Int32} {σ0 : Mm} {r0 : Int32} {k52 : Int32 → Int32 → Mm → Option (Int32 × Mm)} (hk52 : ∀ (x3 : Int32) (x4 : Int32) (σ : Mm), k52 x3 x4 σ = some (r0, σ0) → Same (wr11_round) σ σ0) : ∀ (x3 : Int32) (x4 : Int32) (σ : Mm), f11_round_109 N k52 x1 x2 x3 x4 σ = some (r0, σ0) → Same (wr11_round) σ σ0 := by
  intro x3 x4 σ hf
  unfold f11_round_109 at hf
  have hS : Same (wr11_round) σ σ := Same.rf
  obtain ⟨x4_21, ex4_21, hf⟩ := z_l_x hf
  exact hS.tr (hk52 x3 x4_21 σ hf)
set_option maxHeartbeats 4000000 in
theorem fr11_round_106 (N : Nat) {x1 : Int32} {x2 : Int32} {σ0 : Mm} {r0 : Int32} {k52 : Int32 → Int32 → Mm → Option (Int32 × Mm)} (hk52 : ∀ (x3 : Int32) (x4 : Int32) (σ : Mm), k52 x3 x4 σ = some (r0, σ0) → Same (wr11_round) σ σ0) : ∀ (x4 : Int32) (σ : Mm), f11_round_106 N k52 x1 x2 x4 σ = some (r0, σ0) → Same (wr11_round) σ σ0 := by
  intro x4 σ hf
  unfold f11_round_106 at hf
  have hS : Same (wr11_round) σ σ := Same.rf
  exact hS.tr (fr11_round_109 N hk52 x4 x4 σ hf)
set_option maxHeartbeats 4000000 in
theorem fr11_round_52 (N : Nat) {x1 : Int32} {x2 : Int32} {σ0 : Mm} {r0 : Int32} : ∀ (fu : Nat) (x3 : Int32) (x4 : Int32) (σ : Mm), f11_round_52 N x1 x2 fu x3 x4 σ = some (r0, σ0) → Same (wr11_round) σ σ0 := by
  intro fu
  induction fu with
  | zero =>
    intro x3 x4 σ hf
    rw [f11_round_52] at hf
    cases hf
  | succ fu ih =>
    intro x3 x4 σ hf
    rw [f11_round_52] at hf
    have hS : Same (wr11_round) σ σ := Same.rf
    obtain ⟨hi_14, hf⟩ := z_c_e hf
    rcases z_if hf with hf | hf
    · exact hS.tr (fr11_round_115 N  x1 x2 x3 σ hf)
    · rcases z_if hf with hf | hf
      · rcases z_if hf with hf | hf
        · exact hS.tr (fr11_round_106 N ih x4 σ hf)
        · obtain ⟨hi_22, hf⟩ := z_c_e hf
          obtain ⟨hi_23, hf⟩ := z_c_e hf
          rcases z_if hf with hf | hf
          · exact hS.tr (fr11_round_109 N ih x3 x4 σ hf)
          · exact hS.tr (fr11_round_106 N ih x4 σ hf)
      · exact hS.tr (fr11_round_109 N ih x3 x4 σ hf)
set_option maxHeartbeats 4000000 in
theorem fr11_round (N : Nat) {x1 : Int32} {x2 : Int32} {σ σ0 : Mm} {r0 : Int32} (hf : f11_round N x1 x2 σ = some (r0, σ0)) : Same (wr11_round) σ σ0 := by
  unfold f11_round at hf
  have hS : Same (wr11_round) σ σ := Same.rf
  obtain ⟨hi_1, hf⟩ := z_c_e hf
  obtain ⟨r_2, σ_3, hc_4, hf⟩ := z_b_e hf
  have hS := hS.tr (Same.nil (fr11_in N hc_4))
  rcases z_if hf with hf | hf
  · obtain ⟨-, rfl⟩ := Prod.mk.inj (Option.some.inj hf)
    exact hS
  · obtain ⟨r_5, σ_6, hc_7, hf⟩ := z_b_e hf
    have hS := hS.tr (Same.nil (fr11_bits N hc_7))
    obtain ⟨r_8, σ_9, hc_10, hf⟩ := z_b_e hf
    have hS := hS.tr (Same.nil (fr11_in N hc_10))
    rcases z_if hf with hf | hf
    · obtain ⟨-, rfl⟩ := Prod.mk.inj (Option.some.inj hf)
      exact hS
    · rcases z_if hf with hf | hf
      · obtain ⟨-, rfl⟩ := Prod.mk.inj (Option.some.inj hf)
        exact hS
      · obtain ⟨r_11, σ_12, hc_13, hf⟩ := z_b_e hf
        have hS := hS.tr ((fr11_fillsTakes N hc_13).mono (wsub [0, 1, 2, 3, 4, 5, 6, 7, 8, 9, 10, 11, 12, 13] rfl))
        exact hS.tr (fr11_round_52 N  N (-1 : Int32) (0 : Int32) σ_12 hf)
def wr11_within : Wr := [(160, 1, some 57), (160, 1, some 58), (160, 1, some 59), (199, 1, none), (196, 1, some 3), (196, 1, none), (196, 1, some 7), (196, 1, some 8), (160, 1, some 54), (197, 1, none), (207, 1, none), (196, 1, some 6), (206, 1, none), (205, 1, none)]
set_option maxHeartbeats 4000000 in
theorem fr11_within_250 (N : Nat) {x2 : Int32} {σ0 : Mm} {r0 : Int32} {k73 : Int32 → Int32 → Mm → Option (Int32 × Mm)} (hk73 : ∀ (x3 : Int32) (x4 : Int32) (σ : Mm), k73 x3 x4 σ = some (r0, σ0) → Same (wr11_within) σ σ0) : ∀ (x3 : Int32) (x4 : Int32) (σ : Mm), f11_within_250 N k73 x2 x3 x4 σ = some (r0, σ0) → Same (wr11_within) σ σ0 := by
  intro x3 x4 σ hf
  unfold f11_within_250 at hf
  have hS : Same (wr11_within) σ σ := Same.rf
  obtain ⟨x4_14, ex4_14, hf⟩ := z_l_x hf
  exact hS.tr (hk73 x3 x4_14 σ hf)
set_option maxHeartbeats 4000000 in
theorem fr11_within_244 (N : Nat) {x2 : Int32} {x4 : Int32} {σ0 : Mm} {r0 : Int32} {k73 : Int32 → Int32 → Mm → Option (Int32 × Mm)} (hk73 : ∀ (x3 : Int32) (x4 : Int32) (σ : Mm), k73 x3 x4 σ = some (r0, σ0) → Same (wr11_within) σ σ0) {k92 : Int32 → Int32 → Mm → Option (Int32 × Mm)} (hk92 : ∀ (x3 : Int32) (x5 : Int32) (σ : Mm), k92 x3 x5 σ = some (r0, σ0) → Same (wr11_within) σ σ0) : ∀ (x3 : Int32) (x5 : Int32) (σ : Mm), f11_within_244 N k73 k92 x2 x4 x3 x5 σ = some (r0, σ0) → Same (wr11_within) σ σ0 := by
  intro x3 x5 σ hf
  unfold f11_within_244 at hf
  have hS : Same (wr11_within) σ σ := Same.rf
  obtain ⟨x5_21, ex5_21, hf⟩ := z_l_x hf
  exact hS.tr (hk92 x3 x5_21 σ hf)
set_option maxHeartbeats 4000000 in
theorem fr11_within_238 (N : Nat) {x2 : Int32} {x3 : Int32} {x4 : Int32} {x5 : Int32} {x6 : Int32} {σ0 : Mm} {r0 : Int32} {k73 : Int32 → Int32 → Mm → Option (Int32 × Mm)} (hk73 : ∀ (x3 : Int32) (x4 : Int32) (σ : Mm), k73 x3 x4 σ = some (r0, σ0) → Same (wr11_within) σ σ0) {k92 : Int32 → Int32 → Mm → Option (Int32 × Mm)} (hk92 : ∀ (x3 : Int32) (x5 : Int32) (σ : Mm), k92 x3 x5 σ = some (r0, σ0) → Same (wr11_within) σ σ0) {k148 : Int32 → Mm → Option (Int32 × Mm)} (hk148 : ∀ (x7 : Int32) (σ : Mm), k148 x7 σ = some (r0, σ0) → Same (wr11_within) σ σ0) : ∀ (x7 : Int32) (σ : Mm), f11_within_238 N k73 k92 k148 x2 x3 x4 x5 x6 x7 σ = some (r0, σ0) → Same (wr11_within) σ σ0 := by
  intro x7 σ hf
  unfold f11_within_238 at hf
  have hS : Same (wr11_within) σ σ := Same.rf
  obtain ⟨x7_27, ex7_27, hf⟩ := z_l_x hf
  exact hS.tr (hk148 x7_27 σ hf)
set_option maxHeartbeats 4000000 in
theorem fr11_within_148 (N : Nat) {x2 : Int32} {x3 : Int32} {x4 : Int32} {x5 : Int32} {x6 : Int32} {σ0 : Mm} {r0 : Int32} {k73 : Int32 → Int32 → Mm → Option (Int32 × Mm)} (hk73 : ∀ (x3 : Int32) (x4 : Int32) (σ : Mm), k73 x3 x4 σ = some (r0, σ0) → Same (wr11_within) σ σ0) {k92 : Int32 → Int32 → Mm → Option (Int32 × Mm)} (hk92 : ∀ (x3 : Int32) (x5 : Int32) (σ : Mm), k92 x3 x5 σ = some (r0, σ0) → Same (wr11_within) σ σ0) : ∀ (fu : Nat) (x7 : Int32) (σ : Mm), f11_within_148 N k73 k92 x2 x3 x4 x5 x6 fu x7 σ = some (r0, σ0) → Same (wr11_within) σ σ0 := by
  intro fu
  induction fu with
  | zero =>
    intro x7 σ hf
    rw [f11_within_148] at hf
    cases hf
  | succ fu ih =>
    intro x7 σ hf
    rw [f11_within_148] at hf
    have hS : Same (wr11_within) σ σ := Same.rf
    obtain ⟨hi_20, hf⟩ := z_c_e hf
    rcases z_if hf with hf | hf
    · exact hS.tr (fr11_within_244 N hk73 hk92 x3 x5 σ hf)
    · rcases z_if hf with hf | hf
      · exact hS.tr (fr11_within_238 N hk73 hk92 ih x7 σ hf)
      · obtain ⟨x8_22, ex8_22, hf⟩ := z_l_x hf
        obtain ⟨hi_23, hf⟩ := z_c_e hf
        obtain ⟨hi_24, hf⟩ := z_c_e hf
        obtain ⟨x9_25, ex9_25, hf⟩ := z_l_x hf
        obtain ⟨hi_26, hf⟩ := z_c_e hf
        rcases z_if hf with hf | hf
        · exact hS.tr (fr11_within_238 N hk73 hk92 ih x7 σ hf)
        · obtain ⟨-, hf⟩ := z_c_e hf
          obtain ⟨σ_28, eσ_28, hf⟩ := z_l_x hf
          have hS := hS.tr (υ := σ_28) (by rw [eσ_28]; exact Same_sIe (i := 13) rfl)
          exact hS.tr (fr11_within_238 N hk73 hk92 ih x7 σ_28 hf)
set_option maxHeartbeats 4000000 in
theorem fr11_within_145 (N : Nat) {x2 : Int32} {x4 : Int32} {σ0 : Mm} {r0 : Int32} {k73 : Int32 → Int32 → Mm → Option (Int32 × Mm)} (hk73 : ∀ (x3 : Int32) (x4 : Int32) (σ : Mm), k73 x3 x4 σ = some (r0, σ0) → Same (wr11_within) σ σ0) {k92 : Int32 → Int32 → Mm → Option (Int32 × Mm)} (hk92 : ∀ (x3 : Int32) (x5 : Int32) (σ : Mm), k92 x3 x5 σ = some (r0, σ0) → Same (wr11_within) σ σ0) : ∀ (x3 : Int32) (x5 : Int32) (x6 : Int32) (σ : Mm), f11_within_145 N k73 k92 x2 x4 x3 x5 x6 σ = some (r0, σ0) → Same (wr11_within) σ σ0 := by
  intro x3 x5 x6 σ hf
  unfold f11_within_145 at hf
  have hS : Same (wr11_within) σ σ := Same.rf
  exact hS.tr (fr11_within_148 N hk73 hk92 N (0 : Int32) σ hf)
set_option maxHeartbeats 4000000 in
theorem fr11_within_92 (N : Nat) {x2 : Int32} {x4 : Int32} {σ0 : Mm} {r0 : Int32} {k73 : Int32 → Int32 → Mm → Option (Int32 × Mm)} (hk73 : ∀ (x3 : Int32) (x4 : Int32) (σ : Mm), k73 x3 x4 σ = some (r0, σ0) → Same (wr11_within) σ σ0) : ∀ (fu : Nat) (x3 : Int32) (x5 : Int32) (σ : Mm), f11_within_92 N k73 x2 x4 fu x3 x5 σ = some (r0, σ0) → Same (wr11_within) σ σ0 := by
  intro fu
  induction fu with
  | zero =>
    intro x3 x5 σ hf
    rw [f11_within_92] at hf
    cases hf
  | succ fu ih =>
    intro x3 x5 σ hf
    rw [f11_within_92] at hf
    have hS : Same (wr11_within) σ σ := Same.rf
    obtain ⟨hi_13, hf⟩ := z_c_e hf
    rcases z_if hf with hf | hf
    · exact hS.tr (fr11_within_250 N hk73 x3 x4 σ hf)
    · obtain ⟨hi_15, hf⟩ := z_c_e hf
      obtain ⟨x6_16, ex6_16, hf⟩ := z_l_x hf
      rcases z_if hf with hf | hf
      · obtain ⟨r_17, σ_18, hc_19, hf⟩ := z_b_e hf
        have hS := hS.tr (Same.nil (fr11_bits N hc_19))
        rcases z_if hf with hf | hf
        · exact hS.tr (fr11_within_145 N hk73 ih x3 x5 x6_16 σ_18 hf)
        · obtain ⟨r_29, σ_30, hc_31, hf⟩ := z_b_e hf
          have hS := hS.tr (Same.nil (fr11_bits N hc_31))
          exact hS.tr (fr11_within_145 N hk73 ih r_29 x5 x6_16 σ_30 hf)
      · exact hS.tr (fr11_within_244 N hk73 ih x3 x5 σ hf)
set_option maxHeartbeats 4000000 in
theorem fr11_within_73 (N : Nat) {x2 : Int32} {σ0 : Mm} {r0 : Int32} : ∀ (fu : Nat) (x3 : Int32) (x4 : Int32) (σ : Mm), f11_within_73 N x2 fu x3 x4 σ = some (r0, σ0) → Same (wr11_within) σ σ0 := by
  intro fu
  induction fu with
  | zero =>
    intro x3 x4 σ hf
    rw [f11_within_73] at hf
    cases hf
  | succ fu ih =>
    intro x3 x4 σ hf
    rw [f11_within_73] at hf
    have hS : Same (wr11_within) σ σ := Same.rf
    obtain ⟨hi_12, hf⟩ := z_c_e hf
    rcases z_if hf with hf | hf
    · obtain ⟨-, rfl⟩ := Prod.mk.inj (Option.some.inj hf)
      exact hS
    · exact hS.tr (fr11_within_92 N ih N x3 (0 : Int32) σ hf)
set_option maxHeartbeats 4000000 in
theorem fr11_within_49 (N : Nat) {σ0 : Mm} {r0 : Int32} : ∀ (x1 : Int32) (x2 : Int32) (σ : Mm), f11_within_49 N x1 x2 σ = some (r0, σ0) → Same (wr11_within) σ σ0 := by
  intro x1 x2 σ hf
  unfold f11_within_49 at hf
  have hS : Same (wr11_within) σ σ := Same.rf
  obtain ⟨hi_10, hf⟩ := z_c_e hf
  obtain ⟨-, hf⟩ := z_c_e hf
  obtain ⟨σ_11, eσ_11, hf⟩ := z_l_x hf
  have hS := hS.tr (υ := σ_11) (by rw [eσ_11]; exact Same_sIe (i := 13) rfl)
  exact hS.tr (fr11_within_73 N  N (0 : Int32) (0 : Int32) σ_11 hf)
set_option maxHeartbeats 4000000 in
theorem fr11_within_27 (N : Nat) {x1 : Int32} {x2 : Int32} {σ0 : Mm} {r0 : Int32} : ∀ (fu : Nat) (x3 : Int32) (σ : Mm), f11_within_27 N x1 x2 fu x3 σ = some (r0, σ0) → Same (wr11_within) σ σ0 := by
  intro fu
  induction fu with
  | zero =>
    intro x3 σ hf
    rw [f11_within_27] at hf
    cases hf
  | succ fu ih =>
    intro x3 σ hf
    rw [f11_within_27] at hf
    have hS : Same (wr11_within) σ σ := Same.rf
    rcases z_if hf with hf | hf
    · exact hS.tr (fr11_within_49 N  x1 x2 σ hf)
    · obtain ⟨-, hf⟩ := z_c_e hf
      obtain ⟨σ_32, eσ_32, hf⟩ := z_l_x hf
      have hS := hS.tr (υ := σ_32) (by rw [eσ_32]; exact Same_sIe (i := 13) rfl)
      obtain ⟨x3_33, ex3_33, hf⟩ := z_l_x hf
      exact hS.tr (ih x3_33 σ_32 hf)
set_option maxHeartbeats 4000000 in
theorem fr11_within (N : Nat) {x1 : Int32} {x2 : Int32} {σ σ0 : Mm} {r0 : Int32} (hf : f11_within N x1 x2 σ = some (r0, σ0)) : Same (wr11_within) σ σ0 := by
  unfold f11_within at hf
  have hS : Same (wr11_within) σ σ := Same.rf
  obtain ⟨r_1, σ_2, hc_3, hf⟩ := z_b_e hf
  have hS := hS.tr (Same.nil (fr11_isPlot N hc_3))
  rcases z_if hf with hf | hf
  · obtain ⟨-, rfl⟩ := Prod.mk.inj (Option.some.inj hf)
    exact hS
  · obtain ⟨r_4, σ_5, hc_6, hf⟩ := z_b_e hf
    have hS := hS.tr (Same.nil (fr11_in N hc_6))
    rcases z_if hf with hf | hf
    · obtain ⟨-, rfl⟩ := Prod.mk.inj (Option.some.inj hf)
      exact hS
    · obtain ⟨r_7, σ_8, hc_9, hf⟩ := z_b_e hf
      have hS := hS.tr ((fr11_fillsWalks N hc_9).mono (wsub [0, 1, 2, 3, 4, 5, 6, 7, 8, 9, 10, 11, 12] rfl))
      exact hS.tr (fr11_within_27 N  N (0 : Int32) σ_8 hf)
def wr11_hasNow : Wr := []
set_option maxHeartbeats 4000000 in
theorem fr11_hasNow_30 (N : Nat) {x1 : Int32} {σ0 : Mm} {r0 : Int32} {k4 : Int32 → Int32 → Mm → Option (Int32 × Mm)} (hk4 : ∀ (x2 : Int32) (x3 : Int32) (σ : Mm), k4 x2 x3 σ = some (r0, σ0) → Same (wr11_hasNow) σ σ0) : ∀ (x2 : Int32) (x3 : Int32) (σ : Mm), f11_hasNow_30 N k4 x1 x2 x3 σ = some (r0, σ0) → Same (wr11_hasNow) σ σ0 := by
  intro x2 x3 σ hf
  unfold f11_hasNow_30 at hf
  have hS : Same (wr11_hasNow) σ σ := Same.rf
  obtain ⟨x3_3, ex3_3, hf⟩ := z_l_x hf
  exact hS.tr (hk4 x2 x3_3 σ hf)
set_option maxHeartbeats 4000000 in
theorem fr11_hasNow_4 (N : Nat) {x1 : Int32} {σ0 : Mm} {r0 : Int32} : ∀ (fu : Nat) (x2 : Int32) (x3 : Int32) (σ : Mm), f11_hasNow_4 N x1 fu x2 x3 σ = some (r0, σ0) → Same (wr11_hasNow) σ σ0 := by
  intro fu
  induction fu with
  | zero =>
    intro x2 x3 σ hf
    rw [f11_hasNow_4] at hf
    cases hf
  | succ fu ih =>
    intro x2 x3 σ hf
    rw [f11_hasNow_4] at hf
    have hS : Same (wr11_hasNow) σ σ := Same.rf
    obtain ⟨hi_1, hf⟩ := z_c_e hf
    rcases z_if hf with hf | hf
    · obtain ⟨-, rfl⟩ := Prod.mk.inj (Option.some.inj hf)
      exact hS
    · obtain ⟨hi_2, hf⟩ := z_c_e hf
      rcases z_if hf with hf | hf
      · obtain ⟨x2_4, ex2_4, hf⟩ := z_l_x hf
        exact hS.tr (fr11_hasNow_30 N ih x2_4 x3 σ hf)
      · exact hS.tr (fr11_hasNow_30 N ih x2 x3 σ hf)
set_option maxHeartbeats 4000000 in
theorem fr11_hasNow (N : Nat) {x1 : Int32} {σ σ0 : Mm} {r0 : Int32} (hf : f11_hasNow N x1 σ = some (r0, σ0)) : Same (wr11_hasNow) σ σ0 := by
  unfold f11_hasNow at hf
  have hS : Same (wr11_hasNow) σ σ := Same.rf
  exact hS.tr (fr11_hasNow_4 N  N (0 : Int32) (0 : Int32) σ hf)
def wr11_goesOnTo : Wr := [(160, 1, some 57), (160, 1, some 58), (160, 1, some 59), (199, 1, none), (199, 1, some 14), (196, 1, some 3), (196, 1, none), (196, 1, some 0), (196, 1, some 1), (196, 1, some 4), (160, 1, some 54), (197, 1, none), (196, 1, some 2), (196, 1, some 5), (201, 1, none), (202, 1, none), (200, 1, none)]
set_option maxHeartbeats 4000000 in
theorem fr11_goesOnTo (N : Nat) {x1 : Int32} {σ σ0 : Mm} {u0 : Unit} (hf : f11_goesOnTo N x1 σ = some (u0, σ0)) : Same (wr11_goesOnTo) σ σ0 := by
  unfold f11_goesOnTo at hf
  have hS : Same (wr11_goesOnTo) σ σ := Same.rf
  obtain ⟨r_1, σ_2, hc_3, hf⟩ := z_b_e hf
  have hS := hS.tr ((fr11_copies N hc_3).mono (wsub [0, 1, 2, 3] rfl))
  obtain ⟨r_4, σ_5, hc_6, hf⟩ := z_b_e hf
  have hS := hS.tr ((fr11_goes N hc_6).mono (wsub [4, 3, 5, 6, 7, 8, 9, 10, 11] rfl))
  obtain ⟨r_7, σ_8, hc_9, hf⟩ := z_b_e hf
  have hS := hS.tr ((fr11_fillsWhose N hc_9).mono (wsub [5, 6, 7, 8, 9, 12, 13, 10, 11, 14, 15, 16] rfl))
  obtain ⟨-, rfl⟩ := Prod.mk.inj (Option.some.inj hf)
  exact hS
def wr11_has : Wr := [(160, 1, some 57), (160, 1, some 58), (160, 1, some 59), (199, 1, none), (199, 1, some 14), (196, 1, some 3), (196, 1, none), (196, 1, some 0), (196, 1, some 1), (196, 1, some 4), (160, 1, some 54), (197, 1, none), (196, 1, some 2), (196, 1, some 5), (201, 1, none), (202, 1, none), (200, 1, none)]
set_option maxHeartbeats 4000000 in
theorem fr11_has (N : Nat) {x1 : Int32} {x2 : Int32} {σ σ0 : Mm} {r0 : Int32} (hf : f11_has N x1 x2 σ = some (r0, σ0)) : Same (wr11_has) σ σ0 := by
  unfold f11_has at hf
  have hS : Same (wr11_has) σ σ := Same.rf
  obtain ⟨r_1, σ_2, hc_3, hf⟩ := z_b_e hf
  have hS := hS.tr (Same.nil (fr11_isPerson N hc_3))
  rcases z_if hf with hf | hf
  · obtain ⟨-, rfl⟩ := Prod.mk.inj (Option.some.inj hf)
    exact hS
  · obtain ⟨r_4, σ_5, hc_6, hf⟩ := z_b_e hf
    have hS := hS.tr (Same.nil (fr11_isLong N hc_6))
    rcases z_if hf with hf | hf
    · obtain ⟨-, rfl⟩ := Prod.mk.inj (Option.some.inj hf)
      exact hS
    · obtain ⟨r_7, σ_8, hc_9, hf⟩ := z_b_e hf
      have hS := hS.tr ((fr11_goesOnTo N hc_9).mono (wsub [0, 1, 2, 3, 4, 5, 6, 7, 8, 9, 10, 11, 12, 13, 14, 15, 16] rfl))
      obtain ⟨r_10, σ_11, hc_12, hf⟩ := z_b_e hf
      have hS := hS.tr (Same.nil (fr11_hasNow N hc_12))
      obtain ⟨-, rfl⟩ := Prod.mk.inj (Option.some.inj hf)
      exact hS
def wr11_rich : Wr := [(160, 1, some 57), (160, 1, some 58), (160, 1, some 59), (199, 1, none), (199, 1, some 14), (196, 1, some 3), (196, 1, none), (196, 1, some 0), (196, 1, some 1), (196, 1, some 4), (160, 1, some 54), (197, 1, none), (196, 1, some 2), (196, 1, some 5), (201, 1, none), (202, 1, none), (200, 1, none)]
set_option maxHeartbeats 4000000 in
theorem fr11_rich_70 (N : Nat) {σ0 : Mm} {r0 : Int32} : ∀ (x2 : Int32) (x3 : Int32) (σ : Mm), f11_rich_70 N x2 x3 σ = some (r0, σ0) → Same (wr11_rich) σ σ0 := by
  intro x2 x3 σ hf
  unfold f11_rich_70 at hf
  have hS : Same (wr11_rich) σ σ := Same.rf
  rcases z_if hf with hf | hf
  · obtain ⟨-, rfl⟩ := Prod.mk.inj (Option.some.inj hf)
    exact hS
  · rcases z_if hf with hf | hf
    · obtain ⟨-, rfl⟩ := Prod.mk.inj (Option.some.inj hf)
      exact hS
    · obtain ⟨r_11, σ_12, hc_13, hf⟩ := z_b_e hf
      have hS := hS.tr (Same.nil (fr11_hasNow N hc_13))
      obtain ⟨-, rfl⟩ := Prod.mk.inj (Option.some.inj hf)
      exact hS
set_option maxHeartbeats 4000000 in
theorem fr11_rich_64 (N : Nat) {x2 : Int32} {σ0 : Mm} {r0 : Int32} {k29 : Int32 → Int32 → Mm → Option (Int32 × Mm)} (hk29 : ∀ (x3 : Int32) (x4 : Int32) (σ : Mm), k29 x3 x4 σ = some (r0, σ0) → Same (wr11_rich) σ σ0) : ∀ (x3 : Int32) (x4 : Int32) (σ : Mm), f11_rich_64 N k29 x2 x3 x4 σ = some (r0, σ0) → Same (wr11_rich) σ σ0 := by
  intro x3 x4 σ hf
  unfold f11_rich_64 at hf
  have hS : Same (wr11_rich) σ σ := Same.rf
  obtain ⟨x4_14, ex4_14, hf⟩ := z_l_x hf
  exact hS.tr (hk29 x3 x4_14 σ hf)
set_option maxHeartbeats 4000000 in
theorem fr11_rich_61 (N : Nat) {x2 : Int32} {σ0 : Mm} {r0 : Int32} {k29 : Int32 → Int32 → Mm → Option (Int32 × Mm)} (hk29 : ∀ (x3 : Int32) (x4 : Int32) (σ : Mm), k29 x3 x4 σ = some (r0, σ0) → Same (wr11_rich) σ σ0) : ∀ (x4 : Int32) (σ : Mm), f11_rich_61 N k29 x2 x4 σ = some (r0, σ0) → Same (wr11_rich) σ σ0 := by
  intro x4 σ hf
  unfold f11_rich_61 at hf
  have hS : Same (wr11_rich) σ σ := Same.rf
  exact hS.tr (fr11_rich_64 N hk29 x4 x4 σ hf)
set_option maxHeartbeats 4000000 in
theorem fr11_rich_29 (N : Nat) {x2 : Int32} {σ0 : Mm} {r0 : Int32} : ∀ (fu : Nat) (x3 : Int32) (x4 : Int32) (σ : Mm), f11_rich_29 N x2 fu x3 x4 σ = some (r0, σ0) → Same (wr11_rich) σ σ0 := by
  intro fu
  induction fu with
  | zero =>
    intro x3 x4 σ hf
    rw [f11_rich_29] at hf
    cases hf
  | succ fu ih =>
    intro x3 x4 σ hf
    rw [f11_rich_29] at hf
    have hS : Same (wr11_rich) σ σ := Same.rf
    obtain ⟨hi_10, hf⟩ := z_c_e hf
    rcases z_if hf with hf | hf
    · exact hS.tr (fr11_rich_70 N  x2 x3 σ hf)
    · rcases z_if hf with hf | hf
      · exact hS.tr (fr11_rich_61 N ih x4 σ hf)
      · obtain ⟨r_15, σ_16, hc_17, hf⟩ := z_b_e hf
        have hS := hS.tr (Same.nil (fr11_hasNow N hc_17))
        obtain ⟨r_18, σ_19, hc_20, hf⟩ := z_b_e hf
        have hS := hS.tr (Same.nil (fr11_hasNow N hc_20))
        rcases z_if hf with hf | hf
        · exact hS.tr (fr11_rich_64 N ih x3 x4 σ_19 hf)
        · exact hS.tr (fr11_rich_61 N ih x4 σ_19 hf)
set_option maxHeartbeats 4000000 in
theorem fr11_rich (N : Nat) {x1 : Int32} {x2 : Int32} {σ σ0 : Mm} {r0 : Int32} (hf : f11_rich N x1 x2 σ = some (r0, σ0)) : Same (wr11_rich) σ σ0 := by
  unfold f11_rich at hf
  have hS : Same (wr11_rich) σ σ := Same.rf
  obtain ⟨r_1, σ_2, hc_3, hf⟩ := z_b_e hf
  have hS := hS.tr (Same.nil (fr11_isLong N hc_3))
  rcases z_if hf with hf | hf
  · obtain ⟨-, rfl⟩ := Prod.mk.inj (Option.some.inj hf)
    exact hS
  · obtain ⟨r_4, σ_5, hc_6, hf⟩ := z_b_e hf
    have hS := hS.tr (Same.nil (fr11_in N hc_6))
    rcases z_if hf with hf | hf
    · obtain ⟨-, rfl⟩ := Prod.mk.inj (Option.some.inj hf)
      exact hS
    · obtain ⟨r_7, σ_8, hc_9, hf⟩ := z_b_e hf
      have hS := hS.tr ((fr11_goesOnTo N hc_9).mono (wsub [0, 1, 2, 3, 4, 5, 6, 7, 8, 9, 10, 11, 12, 13, 14, 15, 16] rfl))
      exact hS.tr (fr11_rich_29 N  N (-2 : Int32) (0 : Int32) σ_8 hf)
def wr11_chain : Wr := [(160, 1, some 57), (160, 1, some 58), (160, 1, some 59), (199, 1, none), (199, 1, some 14), (196, 1, some 3), (196, 1, none), (196, 1, some 0), (196, 1, some 1), (196, 1, some 4), (160, 1, some 54), (197, 1, none), (196, 1, some 2), (196, 1, some 5), (201, 1, none), (202, 1, none), (200, 1, none)]
set_option maxHeartbeats 4000000 in
theorem fr11_chain_115 (N : Nat) {x1 : Int32} {x2 : Int32} {σ0 : Mm} {r0 : Int32} {k57 : Int32 → Int32 → Mm → Option (Int32 × Mm)} (hk57 : ∀ (x3 : Int32) (x4 : Int32) (σ : Mm), k57 x3 x4 σ = some (r0, σ0) → Same (wr11_chain) σ σ0) : ∀ (x3 : Int32) (x4 : Int32) (σ : Mm), f11_chain_115 N k57 x1 x2 x3 x4 σ = some (r0, σ0) → Same (wr11_chain) σ σ0 := by
  intro x3 x4 σ hf
  unfold f11_chain_115 at hf
  have hS : Same (wr11_chain) σ σ := Same.rf
  obtain ⟨x4_9, ex4_9, hf⟩ := z_l_x hf
  exact hS.tr (hk57 x3 x4_9 σ hf)
set_option maxHeartbeats 4000000 in
theorem fr11_chain_104 (N : Nat) {σ0 : Mm} {r0 : Int32} : ∀ (x4 : Int32) (σ : Mm), f11_chain_104 N x4 σ = some (r0, σ0) → Same (wr11_chain) σ σ0 := by
  intro x4 σ hf
  unfold f11_chain_104 at hf
  have hS : Same (wr11_chain) σ σ := Same.rf
  obtain ⟨hi_12, hf⟩ := z_c_e hf
  obtain ⟨-, rfl⟩ := Prod.mk.inj (Option.some.inj hf)
  exact hS
set_option maxHeartbeats 4000000 in
theorem fr11_chain_57 (N : Nat) {x1 : Int32} {x2 : Int32} {σ0 : Mm} {r0 : Int32} : ∀ (fu : Nat) (x3 : Int32) (x4 : Int32) (σ : Mm), f11_chain_57 N x1 x2 fu x3 x4 σ = some (r0, σ0) → Same (wr11_chain) σ σ0 := by
  intro fu
  induction fu with
  | zero =>
    intro x3 x4 σ hf
    rw [f11_chain_57] at hf
    cases hf
  | succ fu ih =>
    intro x3 x4 σ hf
    rw [f11_chain_57] at hf
    have hS : Same (wr11_chain) σ σ := Same.rf
    obtain ⟨hi_7, hf⟩ := z_c_e hf
    rcases z_if hf with hf | hf
    · obtain ⟨-, rfl⟩ := Prod.mk.inj (Option.some.inj hf)
      exact hS
    · obtain ⟨hi_8, hf⟩ := z_c_e hf
      rcases z_if hf with hf | hf
      · obtain ⟨hi_10, hf⟩ := z_c_e hf
        rcases z_if hf with hf | hf
        · exact hS.tr (fr11_chain_115 N ih x3 x4 σ hf)
        · obtain ⟨x3_11, ex3_11, hf⟩ := z_l_x hf
          rcases z_if hf with hf | hf
          · exact hS.tr (fr11_chain_104 N  x4 σ hf)
          · exact hS.tr (fr11_chain_115 N ih x3_11 x4 σ hf)
      · exact hS.tr (fr11_chain_115 N ih x3 x4 σ hf)
set_option maxHeartbeats 4000000 in
theorem fr11_chain (N : Nat) {x1 : Int32} {x2 : Int32} {σ σ0 : Mm} {r0 : Int32} (hf : f11_chain N x1 x2 σ = some (r0, σ0)) : Same (wr11_chain) σ σ0 := by
  unfold f11_chain at hf
  have hS : Same (wr11_chain) σ σ := Same.rf
  obtain ⟨r_1, σ_2, hc_3, hf⟩ := z_b_e hf
  have hS := hS.tr (Same.nil (fr11_isPlot N hc_3))
  rcases z_if hf with hf | hf
  · obtain ⟨-, rfl⟩ := Prod.mk.inj (Option.some.inj hf)
    exact hS
  · rcases z_if hf with hf | hf
    · obtain ⟨r_4, σ_5, hc_6, hf⟩ := z_b_e hf
      have hS := hS.tr ((fr11_goesOnTo N hc_6).mono (wsub [0, 1, 2, 3, 4, 5, 6, 7, 8, 9, 10, 11, 12, 13, 14, 15, 16] rfl))
      rcases z_if hf with hf | hf
      · obtain ⟨r_14, σ_15, hc_16, hf⟩ := z_b_e hf
        have hS := hS.tr (Same.nil (fr11_countsOf N hc_16))
        obtain ⟨-, rfl⟩ := Prod.mk.inj (Option.some.inj hf)
        exact hS
      · rcases z_if hf with hf | hf
        · obtain ⟨hi_13, hf⟩ := z_c_e hf
          obtain ⟨-, rfl⟩ := Prod.mk.inj (Option.some.inj hf)
          exact hS
        · exact hS.tr (fr11_chain_57 N  N (0 : Int32) (0 : Int32) σ_5 hf)
    · obtain ⟨-, rfl⟩ := Prod.mk.inj (Option.some.inj hf)
      exact hS
def wr11_idle : Wr := [(160, 1, some 57), (160, 1, some 58), (160, 1, some 59), (199, 1, none), (199, 1, some 14), (196, 1, some 3), (196, 1, none), (196, 1, some 0), (196, 1, some 1), (196, 1, some 4), (160, 1, some 54), (197, 1, none), (196, 1, some 2), (196, 1, some 5), (201, 1, none), (202, 1, none), (200, 1, none)]
set_option maxHeartbeats 4000000 in
theorem fr11_idle_67 (N : Nat) {x1 : Int32} {σ0 : Mm} {r0 : Int32} {k19 : Int32 → Int32 → Mm → Option (Int32 × Mm)} (hk19 : ∀ (x2 : Int32) (x3 : Int32) (σ : Mm), k19 x2 x3 σ = some (r0, σ0) → Same (wr11_idle) σ σ0) : ∀ (x2 : Int32) (x3 : Int32) (σ : Mm), f11_idle_67 N k19 x1 x2 x3 σ = some (r0, σ0) → Same (wr11_idle) σ σ0 := by
  intro x2 x3 σ hf
  unfold f11_idle_67 at hf
  have hS : Same (wr11_idle) σ σ := Same.rf
  obtain ⟨x3_9, ex3_9, hf⟩ := z_l_x hf
  exact hS.tr (hk19 x2 x3_9 σ hf)
set_option maxHeartbeats 4000000 in
theorem fr11_idle_19 (N : Nat) {x1 : Int32} {σ0 : Mm} {r0 : Int32} : ∀ (fu : Nat) (x2 : Int32) (x3 : Int32) (σ : Mm), f11_idle_19 N x1 fu x2 x3 σ = some (r0, σ0) → Same (wr11_idle) σ σ0 := by
  intro fu
  induction fu with
  | zero =>
    intro x2 x3 σ hf
    rw [f11_idle_19] at hf
    cases hf
  | succ fu ih =>
    intro x2 x3 σ hf
    rw [f11_idle_19] at hf
    have hS : Same (wr11_idle) σ σ := Same.rf
    obtain ⟨hi_7, hf⟩ := z_c_e hf
    rcases z_if hf with hf | hf
    · obtain ⟨-, rfl⟩ := Prod.mk.inj (Option.some.inj hf)
      exact hS
    · obtain ⟨hi_8, hf⟩ := z_c_e hf
      rcases z_if hf with hf | hf
      · obtain ⟨hi_10, hf⟩ := z_c_e hf
        rcases z_if hf with hf | hf
        · exact hS.tr (fr11_idle_67 N ih x2 x3 σ hf)
        · obtain ⟨hi_11, hf⟩ := z_c_e hf
          rcases z_if hf with hf | hf
          · obtain ⟨x2_12, ex2_12, hf⟩ := z_l_x hf
            exact hS.tr (fr11_idle_67 N ih x2_12 x3 σ hf)
          · exact hS.tr (fr11_idle_67 N ih x2 x3 σ hf)
      · exact hS.tr (fr11_idle_67 N ih x2 x3 σ hf)
set_option maxHeartbeats 4000000 in
theorem fr11_idle (N : Nat) {x1 : Int32} {σ σ0 : Mm} {r0 : Int32} (hf : f11_idle N x1 σ = some (r0, σ0)) : Same (wr11_idle) σ σ0 := by
  unfold f11_idle at hf
  have hS : Same (wr11_idle) σ σ := Same.rf
  obtain ⟨r_1, σ_2, hc_3, hf⟩ := z_b_e hf
  have hS := hS.tr (Same.nil (fr11_isPlot N hc_3))
  rcases z_if hf with hf | hf
  · obtain ⟨-, rfl⟩ := Prod.mk.inj (Option.some.inj hf)
    exact hS
  · obtain ⟨r_4, σ_5, hc_6, hf⟩ := z_b_e hf
    have hS := hS.tr ((fr11_goesOnTo N hc_6).mono (wsub [0, 1, 2, 3, 4, 5, 6, 7, 8, 9, 10, 11, 12, 13, 14, 15, 16] rfl))
    exact hS.tr (fr11_idle_19 N  N (0 : Int32) (0 : Int32) σ_5 hf)
def wr11_eldest : Wr := []
set_option maxHeartbeats 4000000 in
theorem fr11_eldest_78 (N : Nat) {σ0 : Mm} {r0 : Int32} : ∀ (x1 : Int32) (x2 : Int32) (x3 : Int32) (σ : Mm), f11_eldest_78 N x1 x2 x3 σ = some (r0, σ0) → Same (wr11_eldest) σ σ0 := by
  intro x1 x2 x3 σ hf
  unfold f11_eldest_78 at hf
  have hS : Same (wr11_eldest) σ σ := Same.rf
  rcases z_if hf with hf | hf
  · obtain ⟨-, rfl⟩ := Prod.mk.inj (Option.some.inj hf)
    exact hS
  · obtain ⟨-, rfl⟩ := Prod.mk.inj (Option.some.inj hf)
    exact hS
set_option maxHeartbeats 4000000 in
theorem fr11_eldest_72 (N : Nat) {x1 : Int32} {σ0 : Mm} {r0 : Int32} {k20 : Int32 → Int32 → Int32 → Mm → Option (Int32 × Mm)} (hk20 : ∀ (x2 : Int32) (x3 : Int32) (x4 : Int32) (σ : Mm), k20 x2 x3 x4 σ = some (r0, σ0) → Same (wr11_eldest) σ σ0) : ∀ (x2 : Int32) (x3 : Int32) (x4 : Int32) (σ : Mm), f11_eldest_72 N k20 x1 x2 x3 x4 σ = some (r0, σ0) → Same (wr11_eldest) σ σ0 := by
  intro x2 x3 x4 σ hf
  unfold f11_eldest_72 at hf
  have hS : Same (wr11_eldest) σ σ := Same.rf
  obtain ⟨x4_6, ex4_6, hf⟩ := z_l_x hf
  exact hS.tr (hk20 x2 x3 x4_6 σ hf)
set_option maxHeartbeats 4000000 in
theorem fr11_eldest_20 (N : Nat) {x1 : Int32} {σ0 : Mm} {r0 : Int32} : ∀ (fu : Nat) (x2 : Int32) (x3 : Int32) (x4 : Int32) (σ : Mm), f11_eldest_20 N x1 fu x2 x3 x4 σ = some (r0, σ0) → Same (wr11_eldest) σ σ0 := by
  intro fu
  induction fu with
  | zero =>
    intro x2 x3 x4 σ hf
    rw [f11_eldest_20] at hf
    cases hf
  | succ fu ih =>
    intro x2 x3 x4 σ hf
    rw [f11_eldest_20] at hf
    have hS : Same (wr11_eldest) σ σ := Same.rf
    obtain ⟨hi_4, hf⟩ := z_c_e hf
    rcases z_if hf with hf | hf
    · exact hS.tr (fr11_eldest_78 N  x1 x2 x3 σ hf)
    · obtain ⟨hi_5, hf⟩ := z_c_e hf
      rcases z_if hf with hf | hf
      · exact hS.tr (fr11_eldest_72 N ih x2 x3 x4 σ hf)
      · obtain ⟨hi_7, hf⟩ := z_c_e hf
        rcases z_if hf with hf | hf
        · obtain ⟨hi_8, hf⟩ := z_c_e hf
          obtain ⟨x3_9, ex3_9, hf⟩ := z_l_x hf
          exact hS.tr (fr11_eldest_72 N ih x4 x3_9 x4 σ hf)
        · exact hS.tr (fr11_eldest_72 N ih x2 x3 x4 σ hf)
set_option maxHeartbeats 4000000 in
theorem fr11_eldest (N : Nat) {x1 : Int32} {σ σ0 : Mm} {r0 : Int32} (hf : f11_eldest N x1 σ = some (r0, σ0)) : Same (wr11_eldest) σ σ0 := by
  unfold f11_eldest at hf
  have hS : Same (wr11_eldest) σ σ := Same.rf
  obtain ⟨r_1, σ_2, hc_3, hf⟩ := z_b_e hf
  have hS := hS.tr (Same.nil (fr11_in N hc_3))
  rcases z_if hf with hf | hf
  · obtain ⟨-, rfl⟩ := Prod.mk.inj (Option.some.inj hf)
    exact hS
  · exact hS.tr (fr11_eldest_20 N  N (-2 : Int32) (-2 : Int32) (0 : Int32) σ_2 hf)
def wr11_standBits : Wr := [(196, 1, some 3), (196, 1, none), (196, 1, some 0), (196, 1, some 1), (196, 1, some 4), (196, 1, some 2), (196, 1, some 5), (160, 1, some 54), (197, 1, none)]
set_option maxHeartbeats 4000000 in
theorem fr11_standBits_29 (N : Nat) {σ0 : Mm} {r0 : Int32} {k4 : Int32 → Int32 → Mm → Option (Int32 × Mm)} (hk4 : ∀ (x1 : Int32) (x2 : Int32) (σ : Mm), k4 x1 x2 σ = some (r0, σ0) → Same (wr11_standBits) σ σ0) : ∀ (x1 : Int32) (x2 : Int32) (σ : Mm), f11_standBits_29 N k4 x1 x2 σ = some (r0, σ0) → Same (wr11_standBits) σ σ0 := by
  intro x1 x2 σ hf
  unfold f11_standBits_29 at hf
  have hS : Same (wr11_standBits) σ σ := Same.rf
  obtain ⟨x2_5, ex2_5, hf⟩ := z_l_x hf
  exact hS.tr (hk4 x1 x2_5 σ hf)
set_option maxHeartbeats 4000000 in
theorem fr11_standBits_4 (N : Nat) {σ0 : Mm} {r0 : Int32} : ∀ (fu : Nat) (x1 : Int32) (x2 : Int32) (σ : Mm), f11_standBits_4 N fu x1 x2 σ = some (r0, σ0) → Same (wr11_standBits) σ σ0 := by
  intro fu
  induction fu with
  | zero =>
    intro x1 x2 σ hf
    rw [f11_standBits_4] at hf
    cases hf
  | succ fu ih =>
    intro x1 x2 σ hf
    rw [f11_standBits_4] at hf
    have hS : Same (wr11_standBits) σ σ := Same.rf
    obtain ⟨hi_1, hf⟩ := z_c_e hf
    rcases z_if hf with hf | hf
    · obtain ⟨-, rfl⟩ := Prod.mk.inj (Option.some.inj hf)
      exact hS
    · obtain ⟨r_2, σ_3, hc_4, hf⟩ := z_b_e hf
      have hS := hS.tr ((fr11_doesStand N hc_4).mono (wsub [0, 1, 2, 3, 4, 5, 6, 7, 8] rfl))
      rcases z_if hf with hf | hf
      · exact hS.tr (fr11_standBits_29 N ih x1 x2 σ_3 hf)
      · obtain ⟨x1_6, ex1_6, hf⟩ := z_l_x hf
        exact hS.tr (fr11_standBits_29 N ih x1_6 x2 σ_3 hf)
set_option maxHeartbeats 4000000 in
theorem fr11_standBits (N : Nat) {σ σ0 : Mm} {r0 : Int32} (hf : f11_standBits N σ = some (r0, σ0)) : Same (wr11_standBits) σ σ0 := by
  unfold f11_standBits at hf
  have hS : Same (wr11_standBits) σ σ := Same.rf
  exact hS.tr (fr11_standBits_4 N  N (0 : Int32) (0 : Int32) σ hf)
def wr11_lapse : Wr := [(160, 1, some 57), (160, 1, some 58), (160, 1, some 59), (199, 1, none), (196, 1, some 3), (196, 1, none), (196, 1, some 0), (196, 1, some 1), (196, 1, some 4), (196, 1, some 2), (196, 1, some 5), (160, 1, some 54), (197, 1, none), (199, 1, some 14)]
set_option maxHeartbeats 4000000 in
theorem fr11_lapse (N : Nat) {x1 : Int32} {σ σ0 : Mm} {r0 : Int32} (hf : f11_lapse N x1 σ = some (r0, σ0)) : Same (wr11_lapse) σ σ0 := by
  unfold f11_lapse at hf
  have hS : Same (wr11_lapse) σ σ := Same.rf
  obtain ⟨r_1, σ_2, hc_3, hf⟩ := z_b_e hf
  have hS := hS.tr (Same.nil (fr11_isLong N hc_3))
  rcases z_if hf with hf | hf
  · obtain ⟨-, rfl⟩ := Prod.mk.inj (Option.some.inj hf)
    exact hS
  · obtain ⟨r_4, σ_5, hc_6, hf⟩ := z_b_e hf
    have hS := hS.tr ((fr11_copies N hc_6).mono (wsub [0, 1, 2, 3] rfl))
    obtain ⟨r_7, σ_8, hc_9, hf⟩ := z_b_e hf
    have hS := hS.tr ((fr11_standBits N hc_9).mono (wsub [4, 5, 6, 7, 8, 9, 10, 11, 12] rfl))
    obtain ⟨r_10, σ_11, hc_12, hf⟩ := z_b_e hf
    have hS := hS.tr ((fr11_goes N hc_12).mono (wsub [13, 3, 4, 5, 6, 7, 8, 11, 12] rfl))
    obtain ⟨r_13, σ_14, hc_15, hf⟩ := z_b_e hf
    have hS := hS.tr ((fr11_standBits N hc_15).mono (wsub [4, 5, 6, 7, 8, 9, 10, 11, 12] rfl))
    obtain ⟨r_16, σ_17, hc_18, hf⟩ := z_b_e hf
    have hS := hS.tr (Same.nil (fr11_bits N hc_18))
    obtain ⟨-, rfl⟩ := Prod.mk.inj (Option.some.inj hf)
    exact hS
def wr11_passes : Wr := [(160, 1, some 57), (160, 1, some 58), (160, 1, some 59), (199, 1, none), (196, 1, some 3), (196, 1, none), (196, 1, some 0), (196, 1, some 1), (196, 1, some 4), (196, 1, some 2), (196, 1, some 5), (160, 1, some 54), (197, 1, none), (201, 1, none), (202, 1, none), (200, 1, none), (204, 1, none), (199, 1, some 14)]
set_option maxHeartbeats 4000000 in
theorem fr11_passes_16 (N : Nat) {x1 : Int32} {σ0 : Mm} {r0 : Int32} : ∀ (fu : Nat) (x2 : Int32) (σ : Mm), f11_passes_16 N x1 fu x2 σ = some (r0, σ0) → Same (wr11_passes) σ σ0 := by
  intro fu
  induction fu with
  | zero =>
    intro x2 σ hf
    rw [f11_passes_16] at hf
    cases hf
  | succ fu ih =>
    intro x2 σ hf
    rw [f11_passes_16] at hf
    have hS : Same (wr11_passes) σ σ := Same.rf
    rcases z_if hf with hf | hf
    · obtain ⟨-, rfl⟩ := Prod.mk.inj (Option.some.inj hf)
      exact hS
    · obtain ⟨r_7, σ_8, hc_9, hf⟩ := z_b_e hf
      have hS := hS.tr ((fr11_yearGoes N hc_9).mono (wsub [17, 3, 4, 5, 6, 7, 8, 11, 12] rfl))
      obtain ⟨r_10, σ_11, hc_12, hf⟩ := z_b_e hf
      have hS := hS.tr ((fr11_fillsWhose N hc_12).mono (wsub [4, 5, 6, 7, 8, 9, 10, 11, 12, 13, 14, 15] rfl))
      obtain ⟨hi_13, hf⟩ := z_c_e hf
      obtain ⟨hi_14, hf⟩ := z_c_e hf
      rcases z_if hf with hf | hf
      · obtain ⟨x2_15, ex2_15, hf⟩ := z_l_x hf
        exact hS.tr (ih x2_15 σ_11 hf)
      · obtain ⟨-, rfl⟩ := Prod.mk.inj (Option.some.inj hf)
        exact hS
set_option maxHeartbeats 4000000 in
theorem fr11_passes (N : Nat) {x1 : Int32} {σ σ0 : Mm} {r0 : Int32} (hf : f11_passes N x1 σ = some (r0, σ0)) : Same (wr11_passes) σ σ0 := by
  unfold f11_passes at hf
  have hS : Same (wr11_passes) σ σ := Same.rf
  obtain ⟨r_1, σ_2, hc_3, hf⟩ := z_b_e hf
  have hS := hS.tr (Same.nil (fr11_isPlot N hc_3))
  rcases z_if hf with hf | hf
  · obtain ⟨-, rfl⟩ := Prod.mk.inj (Option.some.inj hf)
    exact hS
  · obtain ⟨r_4, σ_5, hc_6, hf⟩ := z_b_e hf
    have hS := hS.tr ((fr11_keepsWhose N hc_6).mono (wsub [0, 1, 2, 3, 4, 5, 6, 7, 8, 9, 10, 11, 12, 13, 14, 15, 16] rfl))
    exact hS.tr (fr11_passes_16 N  N (1 : Int32) σ_5 hf)
def wr11_weakest : Wr := [(160, 1, some 57), (160, 1, some 58), (160, 1, some 59), (199, 1, none), (199, 1, some 14), (196, 1, some 3), (196, 1, none), (196, 1, some 0), (196, 1, some 1), (196, 1, some 4), (160, 1, some 54), (197, 1, none), (196, 1, some 2), (196, 1, some 5), (201, 1, none), (202, 1, none), (200, 1, none)]
set_option maxHeartbeats 4000000 in
theorem fr11_weakest_83 (N : Nat) {σ0 : Mm} {r0 : Int32} : ∀ (x1 : Int32) (x2 : Int32) (x3 : Int32) (σ : Mm), f11_weakest_83 N x1 x2 x3 σ = some (r0, σ0) → Same (wr11_weakest) σ σ0 := by
  intro x1 x2 x3 σ hf
  unfold f11_weakest_83 at hf
  have hS : Same (wr11_weakest) σ σ := Same.rf
  rcases z_if hf with hf | hf
  · obtain ⟨-, rfl⟩ := Prod.mk.inj (Option.some.inj hf)
    exact hS
  · obtain ⟨-, rfl⟩ := Prod.mk.inj (Option.some.inj hf)
    exact hS
set_option maxHeartbeats 4000000 in
theorem fr11_weakest_77 (N : Nat) {x1 : Int32} {σ0 : Mm} {r0 : Int32} {k25 : Int32 → Int32 → Int32 → Mm → Option (Int32 × Mm)} (hk25 : ∀ (x2 : Int32) (x3 : Int32) (x4 : Int32) (σ : Mm), k25 x2 x3 x4 σ = some (r0, σ0) → Same (wr11_weakest) σ σ0) : ∀ (x2 : Int32) (x3 : Int32) (x4 : Int32) (σ : Mm), f11_weakest_77 N k25 x1 x2 x3 x4 σ = some (r0, σ0) → Same (wr11_weakest) σ σ0 := by
  intro x2 x3 x4 σ hf
  unfold f11_weakest_77 at hf
  have hS : Same (wr11_weakest) σ σ := Same.rf
  obtain ⟨x4_15, ex4_15, hf⟩ := z_l_x hf
  exact hS.tr (hk25 x2 x3 x4_15 σ hf)
set_option maxHeartbeats 4000000 in
theorem fr11_weakest_71 (N : Nat) {x1 : Int32} {σ0 : Mm} {r0 : Int32} {k25 : Int32 → Int32 → Int32 → Mm → Option (Int32 × Mm)} (hk25 : ∀ (x2 : Int32) (x3 : Int32) (x4 : Int32) (σ : Mm), k25 x2 x3 x4 σ = some (r0, σ0) → Same (wr11_weakest) σ σ0) : ∀ (x4 : Int32) (x5 : Int32) (σ : Mm), f11_weakest_71 N k25 x1 x4 x5 σ = some (r0, σ0) → Same (wr11_weakest) σ σ0 := by
  intro x4 x5 σ hf
  unfold f11_weakest_71 at hf
  have hS : Same (wr11_weakest) σ σ := Same.rf
  exact hS.tr (fr11_weakest_77 N hk25 x4 x5 x4 σ hf)
set_option maxHeartbeats 4000000 in
theorem fr11_weakest_25 (N : Nat) {x1 : Int32} {σ0 : Mm} {r0 : Int32} : ∀ (fu : Nat) (x2 : Int32) (x3 : Int32) (x4 : Int32) (σ : Mm), f11_weakest_25 N x1 fu x2 x3 x4 σ = some (r0, σ0) → Same (wr11_weakest) σ σ0 := by
  intro fu
  induction fu with
  | zero =>
    intro x2 x3 x4 σ hf
    rw [f11_weakest_25] at hf
    cases hf
  | succ fu ih =>
    intro x2 x3 x4 σ hf
    rw [f11_weakest_25] at hf
    have hS : Same (wr11_weakest) σ σ := Same.rf
    obtain ⟨hi_7, hf⟩ := z_c_e hf
    rcases z_if hf with hf | hf
    · exact hS.tr (fr11_weakest_83 N  x1 x2 x3 σ hf)
    · obtain ⟨r_8, σ_9, hc_10, hf⟩ := z_b_e hf
      have hS := hS.tr ((fr11_swearBits N hc_10).mono (wsub [5, 6, 7, 8, 9, 12, 13, 10, 11] rfl))
      obtain ⟨r_11, σ_12, hc_13, hf⟩ := z_b_e hf
      have hS := hS.tr (Same.nil (fr11_bits N hc_13))
      obtain ⟨hi_14, hf⟩ := z_c_e hf
      rcases z_if hf with hf | hf
      · exact hS.tr (fr11_weakest_77 N ih x2 x3 x4 σ_12 hf)
      · rcases z_if hf with hf | hf
        · exact hS.tr (fr11_weakest_71 N ih x4 r_11 σ_12 hf)
        · rcases z_if hf with hf | hf
          · exact hS.tr (fr11_weakest_71 N ih x4 r_11 σ_12 hf)
          · exact hS.tr (fr11_weakest_77 N ih x2 x3 x4 σ_12 hf)
set_option maxHeartbeats 4000000 in
theorem fr11_weakest (N : Nat) {x1 : Int32} {σ σ0 : Mm} {r0 : Int32} (hf : f11_weakest N x1 σ = some (r0, σ0)) : Same (wr11_weakest) σ σ0 := by
  unfold f11_weakest at hf
  have hS : Same (wr11_weakest) σ σ := Same.rf
  obtain ⟨r_1, σ_2, hc_3, hf⟩ := z_b_e hf
  have hS := hS.tr (Same.nil (fr11_in N hc_3))
  rcases z_if hf with hf | hf
  · obtain ⟨-, rfl⟩ := Prod.mk.inj (Option.some.inj hf)
    exact hS
  · obtain ⟨r_4, σ_5, hc_6, hf⟩ := z_b_e hf
    have hS := hS.tr ((fr11_goesOnTo N hc_6).mono (wsub [0, 1, 2, 3, 4, 5, 6, 7, 8, 9, 10, 11, 12, 13, 14, 15, 16] rfl))
    exact hS.tr (fr11_weakest_25 N  N (-2 : Int32) (-2 : Int32) (0 : Int32) σ_5 hf)
def wr11_ownerIn : Wr := [(160, 1, some 57), (160, 1, some 58), (160, 1, some 59), (199, 1, none), (199, 1, some 14), (196, 1, some 3), (196, 1, none), (196, 1, some 0), (196, 1, some 1), (196, 1, some 4), (160, 1, some 54), (197, 1, none), (196, 1, some 2), (196, 1, some 5), (201, 1, none), (202, 1, none), (200, 1, none)]
set_option maxHeartbeats 4000000 in
theorem fr11_ownerIn (N : Nat) {x1 : Int32} {x2 : Int32} {σ σ0 : Mm} {r0 : Int32} (hf : f11_ownerIn N x1 x2 σ = some (r0, σ0)) : Same (wr11_ownerIn) σ σ0 := by
  unfold f11_ownerIn at hf
  have hS : Same (wr11_ownerIn) σ σ := Same.rf
  obtain ⟨r_1, σ_2, hc_3, hf⟩ := z_b_e hf
  have hS := hS.tr (Same.nil (fr11_isPlot N hc_3))
  rcases z_if hf with hf | hf
  · obtain ⟨-, rfl⟩ := Prod.mk.inj (Option.some.inj hf)
    exact hS
  · obtain ⟨r_4, σ_5, hc_6, hf⟩ := z_b_e hf
    have hS := hS.tr (Same.nil (fr11_isLong N hc_6))
    rcases z_if hf with hf | hf
    · obtain ⟨-, rfl⟩ := Prod.mk.inj (Option.some.inj hf)
      exact hS
    · obtain ⟨r_7, σ_8, hc_9, hf⟩ := z_b_e hf
      have hS := hS.tr ((fr11_goesOnTo N hc_9).mono (wsub [0, 1, 2, 3, 4, 5, 6, 7, 8, 9, 10, 11, 12, 13, 14, 15, 16] rfl))
      obtain ⟨hi_10, hf⟩ := z_c_e hf
      obtain ⟨-, rfl⟩ := Prod.mk.inj (Option.some.inj hf)
      exact hS
def wr11_then : Wr := [(160, 1, some 57), (160, 1, some 58), (160, 1, some 59), (199, 1, none), (199, 1, some 14), (196, 1, some 3), (196, 1, none), (196, 1, some 0), (196, 1, some 1), (196, 1, some 4), (160, 1, some 54), (197, 1, none), (196, 1, some 2), (196, 1, some 5), (201, 1, none), (202, 1, none), (200, 1, none)]
set_option maxHeartbeats 4000000 in
theorem fr11_then (N : Nat) {x1 : Int32} {x2 : Int32} {x3 : Int32} {σ σ0 : Mm} {r0 : Int32} (hf : f11_then N x1 x2 x3 σ = some (r0, σ0)) : Same (wr11_then) σ σ0 := by
  unfold f11_then at hf
  have hS : Same (wr11_then) σ σ := Same.rf
  obtain ⟨r_1, σ_2, hc_3, hf⟩ := z_b_e hf
  have hS := hS.tr (Same.nil (fr11_isWitness N hc_3))
  rcases z_if hf with hf | hf
  · obtain ⟨-, rfl⟩ := Prod.mk.inj (Option.some.inj hf)
    exact hS
  · obtain ⟨r_4, σ_5, hc_6, hf⟩ := z_b_e hf
    have hS := hS.tr (Same.nil (fr11_isLong N hc_6))
    rcases z_if hf with hf | hf
    · obtain ⟨-, rfl⟩ := Prod.mk.inj (Option.some.inj hf)
      exact hS
    · obtain ⟨r_7, σ_8, hc_9, hf⟩ := z_b_e hf
      have hS := hS.tr (Same.nil (fr11_in N hc_9))
      rcases z_if hf with hf | hf
      · obtain ⟨-, rfl⟩ := Prod.mk.inj (Option.some.inj hf)
        exact hS
      · obtain ⟨r_10, σ_11, hc_12, hf⟩ := z_b_e hf
        have hS := hS.tr ((fr11_goesOnTo N hc_12).mono (wsub [0, 1, 2, 3, 4, 5, 6, 7, 8, 9, 10, 11, 12, 13, 14, 15, 16] rfl))
        obtain ⟨hi_13, hf⟩ := z_c_e hf
        obtain ⟨-, rfl⟩ := Prod.mk.inj (Option.some.inj hf)
        exact hS
def wr11_swearIn : Wr := [(160, 1, some 57), (160, 1, some 58), (160, 1, some 59), (199, 1, none), (199, 1, some 14), (196, 1, some 3), (196, 1, none), (196, 1, some 0), (196, 1, some 1), (196, 1, some 4), (160, 1, some 54), (197, 1, none), (196, 1, some 2), (196, 1, some 5), (201, 1, none), (202, 1, none), (200, 1, none)]
set_option maxHeartbeats 4000000 in
theorem fr11_swearIn (N : Nat) {x1 : Int32} {x2 : Int32} {σ σ0 : Mm} {r0 : Int32} (hf : f11_swearIn N x1 x2 σ = some (r0, σ0)) : Same (wr11_swearIn) σ σ0 := by
  unfold f11_swearIn at hf
  have hS : Same (wr11_swearIn) σ σ := Same.rf
  obtain ⟨r_1, σ_2, hc_3, hf⟩ := z_b_e hf
  have hS := hS.tr (Same.nil (fr11_isGiving N hc_3))
  rcases z_if hf with hf | hf
  · obtain ⟨-, rfl⟩ := Prod.mk.inj (Option.some.inj hf)
    exact hS
  · obtain ⟨r_4, σ_5, hc_6, hf⟩ := z_b_e hf
    have hS := hS.tr (Same.nil (fr11_isLong N hc_6))
    rcases z_if hf with hf | hf
    · obtain ⟨-, rfl⟩ := Prod.mk.inj (Option.some.inj hf)
      exact hS
    · obtain ⟨r_7, σ_8, hc_9, hf⟩ := z_b_e hf
      have hS := hS.tr ((fr11_goesOnTo N hc_9).mono (wsub [0, 1, 2, 3, 4, 5, 6, 7, 8, 9, 10, 11, 12, 13, 14, 15, 16] rfl))
      obtain ⟨r_10, σ_11, hc_12, hf⟩ := z_b_e hf
      have hS := hS.tr ((fr11_swearBits N hc_12).mono (wsub [5, 6, 7, 8, 9, 12, 13, 10, 11] rfl))
      obtain ⟨r_13, σ_14, hc_15, hf⟩ := z_b_e hf
      have hS := hS.tr (Same.nil (fr11_bits N hc_15))
      obtain ⟨-, rfl⟩ := Prod.mk.inj (Option.some.inj hf)
      exact hS
def wr11_year : Wr := [(160, 1, some 57), (160, 1, some 58), (160, 1, some 59), (199, 1, none), (199, 1, some 14), (196, 1, some 3), (196, 1, none), (196, 1, some 0), (196, 1, some 1), (196, 1, some 4), (160, 1, some 54), (197, 1, none), (196, 1, some 2), (196, 1, some 5), (201, 1, none), (202, 1, none), (200, 1, none)]
set_option maxHeartbeats 4000000 in
theorem fr11_year_86 (N : Nat) {x1 : Int32} {x2 : Int32} {x3 : Int32} {x4 : Int32} {σ0 : Mm} {r0 : Int32} {k42 : Int32 → Int32 → Mm → Option (Int32 × Mm)} (hk42 : ∀ (x5 : Int32) (x6 : Int32) (σ : Mm), k42 x5 x6 σ = some (r0, σ0) → Same (wr11_year) σ σ0) : ∀ (x5 : Int32) (x6 : Int32) (σ : Mm), f11_year_86 N k42 x1 x2 x3 x4 x5 x6 σ = some (r0, σ0) → Same (wr11_year) σ σ0 := by
  intro x5 x6 σ hf
  unfold f11_year_86 at hf
  have hS : Same (wr11_year) σ σ := Same.rf
  obtain ⟨x6_24, ex6_24, hf⟩ := z_l_x hf
  exact hS.tr (hk42 x5 x6_24 σ hf)
set_option maxHeartbeats 4000000 in
theorem fr11_year_42 (N : Nat) {x1 : Int32} {x2 : Int32} {x3 : Int32} {x4 : Int32} {σ0 : Mm} {r0 : Int32} : ∀ (fu : Nat) (x5 : Int32) (x6 : Int32) (σ : Mm), f11_year_42 N x1 x2 x3 x4 fu x5 x6 σ = some (r0, σ0) → Same (wr11_year) σ σ0 := by
  intro fu
  induction fu with
  | zero =>
    intro x5 x6 σ hf
    rw [f11_year_42] at hf
    cases hf
  | succ fu ih =>
    intro x5 x6 σ hf
    rw [f11_year_42] at hf
    have hS : Same (wr11_year) σ σ := Same.rf
    rcases z_if hf with hf | hf
    · obtain ⟨-, rfl⟩ := Prod.mk.inj (Option.some.inj hf)
      exact hS
    · obtain ⟨r_13, σ_14, hc_15, hf⟩ := z_b_e hf
      have hS := hS.tr ((fr11_copies N hc_15).mono (wsub [0, 1, 2, 3] rfl))
      obtain ⟨σ_16, eσ_16, hf⟩ := z_l_x hf
      have hS := hS.tr (υ := σ_16) (by rw [eσ_16]; exact Same_sI (i := 0) rfl)
      obtain ⟨r_17, σ_18, hc_19, hf⟩ := z_b_e hf
      have hS := hS.tr ((fr11_goes N hc_19).mono (wsub [4, 3, 5, 6, 7, 8, 9, 10, 11] rfl))
      obtain ⟨r_20, σ_21, hc_22, hf⟩ := z_b_e hf
      have hS := hS.tr ((fr11_fillsWhose N hc_22).mono (wsub [5, 6, 7, 8, 9, 12, 13, 10, 11, 14, 15, 16] rfl))
      obtain ⟨hi_23, hf⟩ := z_c_e hf
      rcases z_if hf with hf | hf
      · obtain ⟨x5_25, ex5_25, hf⟩ := z_l_x hf
        exact hS.tr (fr11_year_86 N ih x5_25 x6 σ_21 hf)
      · exact hS.tr (fr11_year_86 N ih x5 x6 σ_21 hf)
set_option maxHeartbeats 4000000 in
theorem fr11_year (N : Nat) {x1 : Int32} {x2 : Int32} {x3 : Int32} {x4 : Int32} {σ σ0 : Mm} {r0 : Int32} (hf : f11_year N x1 x2 x3 x4 σ = some (r0, σ0)) : Same (wr11_year) σ σ0 := by
  unfold f11_year at hf
  have hS : Same (wr11_year) σ σ := Same.rf
  obtain ⟨r_1, σ_2, hc_3, hf⟩ := z_b_e hf
  have hS := hS.tr (Same.nil (fr11_isPlot N hc_3))
  rcases z_if hf with hf | hf
  · obtain ⟨-, rfl⟩ := Prod.mk.inj (Option.some.inj hf)
    exact hS
  · obtain ⟨r_4, σ_5, hc_6, hf⟩ := z_b_e hf
    have hS := hS.tr (Same.nil (fr11_isPerson N hc_6))
    rcases z_if hf with hf | hf
    · obtain ⟨-, rfl⟩ := Prod.mk.inj (Option.some.inj hf)
      exact hS
    · obtain ⟨r_7, σ_8, hc_9, hf⟩ := z_b_e hf
      have hS := hS.tr (Same.nil (fr11_isLong N hc_9))
      rcases z_if hf with hf | hf
      · obtain ⟨-, rfl⟩ := Prod.mk.inj (Option.some.inj hf)
        exact hS
      · obtain ⟨r_10, σ_11, hc_12, hf⟩ := z_b_e hf
        have hS := hS.tr (Same.nil (fr11_in N hc_12))
        rcases z_if hf with hf | hf
        · obtain ⟨-, rfl⟩ := Prod.mk.inj (Option.some.inj hf)
          exact hS
        · exact hS.tr (fr11_year_42 N  N (0 : Int32) (0 : Int32) σ_11 hf)
def wr11_tell : Wr := [(208, 1, none), (209, 1, none), (160, 1, some 69)]
set_option maxHeartbeats 4000000 in
theorem fr11_tell_46 (N : Nat) {σ0 : Mm} {r0 : Int32} : ∀ (s1 : Int32) (s2 : Int32) (σ : Mm), f11_tell_46 N s1 s2 σ = some (r0, σ0) → Same (wr11_tell) σ σ0 := by
  intro s1 s2 σ hf
  unfold f11_tell_46 at hf
  have hS : Same (wr11_tell) σ σ := Same.rf
  obtain ⟨-, hf⟩ := z_c_e hf
  obtain ⟨σ_5, eσ_5, hf⟩ := z_l_x hf
  have hS := hS.tr (υ := σ_5) (by rw [eσ_5]; exact Same_sIe (i := 1) rfl)
  obtain ⟨σ_6, eσ_6, hf⟩ := z_l_x hf
  have hS := hS.tr (υ := σ_6) (by rw [eσ_6]; exact Same_sI (i := 2) rfl)
  obtain ⟨-, rfl⟩ := Prod.mk.inj (Option.some.inj hf)
  exact hS
set_option maxHeartbeats 4000000 in
theorem fr11_tell (N : Nat) {x1 : Int32} {x2 : Int32} {σ σ0 : Mm} {r0 : Int32} (hf : f11_tell N x1 x2 σ = some (r0, σ0)) : Same (wr11_tell) σ σ0 := by
  unfold f11_tell at hf
  have hS : Same (wr11_tell) σ σ := Same.rf
  rcases z_if hf with hf | hf
  · obtain ⟨-, rfl⟩ := Prod.mk.inj (Option.some.inj hf)
    exact hS
  · obtain ⟨r_1, σ_2, hc_3, hf⟩ := z_b_e hf
    have hS := hS.tr (Same.nil (fr11_isWitness N hc_3))
    rcases z_if hf with hf | hf
    · obtain ⟨-, rfl⟩ := Prod.mk.inj (Option.some.inj hf)
      exact hS
    · obtain ⟨-, hf⟩ := z_c_e hf
      obtain ⟨σ_4, eσ_4, hf⟩ := z_l_x hf
      have hS := hS.tr (υ := σ_4) (by rw [eσ_4]; exact Same_sIe (i := 0) rfl)
      rcases z_if hf with hf | hf
      · exact hS.tr (fr11_tell_46 N  (gI σ_4 160 69) (0 : Int32) σ_4 hf)
      · exact hS.tr (fr11_tell_46 N  (gI σ_4 160 69) (1 : Int32) σ_4 hf)
def wr11_forget : Wr := [(160, 1, some 69)]
set_option maxHeartbeats 4000000 in
theorem fr11_forget (N : Nat) {σ σ0 : Mm} {r0 : Int32} (hf : f11_forget N σ = some (r0, σ0)) : Same (wr11_forget) σ σ0 := by
  unfold f11_forget at hf
  have hS : Same (wr11_forget) σ σ := Same.rf
  obtain ⟨x1_1, ex1_1, hf⟩ := z_l_x hf
  obtain ⟨σ_2, eσ_2, hf⟩ := z_l_x hf
  have hS := hS.tr (υ := σ_2) (by rw [eσ_2]; exact Same_sI (i := 0) rfl)
  obtain ⟨-, rfl⟩ := Prod.mk.inj (Option.some.inj hf)
  exact hS
def wr11_whichBits : Wr := [(160, 1, some 57), (160, 1, some 58), (160, 1, some 59), (199, 1, none), (196, 1, some 3), (196, 1, none), (196, 1, some 0), (196, 1, some 1), (196, 1, some 4), (196, 1, some 2), (196, 1, some 5), (160, 1, some 54), (197, 1, none)]
set_option maxHeartbeats 4000000 in
theorem fr11_whichBits_80 (N : Nat) {x1 : Int32} {σ0 : Mm} {r0 : Int32} {k8 : Int32 → Int32 → Mm → Option (Int32 × Mm)} (hk8 : ∀ (x2 : Int32) (x3 : Int32) (σ : Mm), k8 x2 x3 σ = some (r0, σ0) → Same (wr11_whichBits) σ σ0) : ∀ (x2 : Int32) (x3 : Int32) (σ : Mm), f11_whichBits_80 N k8 x1 x2 x3 σ = some (r0, σ0) → Same (wr11_whichBits) σ σ0 := by
  intro x2 x3 σ hf
  unfold f11_whichBits_80 at hf
  have hS : Same (wr11_whichBits) σ σ := Same.rf
  obtain ⟨x3_8, ex3_8, hf⟩ := z_l_x hf
  exact hS.tr (hk8 x2 x3_8 σ hf)
set_option maxHeartbeats 4000000 in
theorem fr11_whichBits_69 (N : Nat) {x1 : Int32} {σ0 : Mm} {r0 : Int32} {k8 : Int32 → Int32 → Mm → Option (Int32 × Mm)} (hk8 : ∀ (x2 : Int32) (x3 : Int32) (σ : Mm), k8 x2 x3 σ = some (r0, σ0) → Same (wr11_whichBits) σ σ0) : ∀ (x2 : Int32) (x3 : Int32) (x5 : Int32) (σ : Mm), f11_whichBits_69 N k8 x1 x2 x3 x5 σ = some (r0, σ0) → Same (wr11_whichBits) σ σ0 := by
  intro x2 x3 x5 σ hf
  unfold f11_whichBits_69 at hf
  have hS : Same (wr11_whichBits) σ σ := Same.rf
  rcases z_if hf with hf | hf
  · exact hS.tr (fr11_whichBits_80 N hk8 x2 x3 σ hf)
  · obtain ⟨x2_9, ex2_9, hf⟩ := z_l_x hf
    exact hS.tr (fr11_whichBits_80 N hk8 x2_9 x3 σ hf)
set_option maxHeartbeats 4000000 in
theorem fr11_whichBits_63 (N : Nat) {x1 : Int32} {x2 : Int32} {x3 : Int32} {x4 : Int32} {σ0 : Mm} {r0 : Int32} {k8 : Int32 → Int32 → Mm → Option (Int32 × Mm)} (hk8 : ∀ (x2 : Int32) (x3 : Int32) (σ : Mm), k8 x2 x3 σ = some (r0, σ0) → Same (wr11_whichBits) σ σ0) {k32 : Int32 → Int32 → Mm → Option (Int32 × Mm)} (hk32 : ∀ (x5 : Int32) (x6 : Int32) (σ : Mm), k32 x5 x6 σ = some (r0, σ0) → Same (wr11_whichBits) σ σ0) : ∀ (x5 : Int32) (x6 : Int32) (σ : Mm), f11_whichBits_63 N k8 k32 x1 x2 x3 x4 x5 x6 σ = some (r0, σ0) → Same (wr11_whichBits) σ σ0 := by
  intro x5 x6 σ hf
  unfold f11_whichBits_63 at hf
  have hS : Same (wr11_whichBits) σ σ := Same.rf
  obtain ⟨x6_12, ex6_12, hf⟩ := z_l_x hf
  exact hS.tr (hk32 x5 x6_12 σ hf)
set_option maxHeartbeats 4000000 in
theorem fr11_whichBits_32 (N : Nat) {x1 : Int32} {x2 : Int32} {x3 : Int32} {x4 : Int32} {σ0 : Mm} {r0 : Int32} {k8 : Int32 → Int32 → Mm → Option (Int32 × Mm)} (hk8 : ∀ (x2 : Int32) (x3 : Int32) (σ : Mm), k8 x2 x3 σ = some (r0, σ0) → Same (wr11_whichBits) σ σ0) : ∀ (fu : Nat) (x5 : Int32) (x6 : Int32) (σ : Mm), f11_whichBits_32 N k8 x1 x2 x3 x4 fu x5 x6 σ = some (r0, σ0) → Same (wr11_whichBits) σ σ0 := by
  intro fu
  induction fu with
  | zero =>
    intro x5 x6 σ hf
    rw [f11_whichBits_32] at hf
    cases hf
  | succ fu ih =>
    intro x5 x6 σ hf
    rw [f11_whichBits_32] at hf
    have hS : Same (wr11_whichBits) σ σ := Same.rf
    rcases z_if hf with hf | hf
    · exact hS.tr (fr11_whichBits_69 N hk8 x2 x3 x5 σ hf)
    · obtain ⟨hi_10, hf⟩ := z_c_e hf
      obtain ⟨hi_11, hf⟩ := z_c_e hf
      rcases z_if hf with hf | hf
      · exact hS.tr (fr11_whichBits_63 N hk8 ih x5 x6 σ hf)
      · exact hS.tr (fr11_whichBits_63 N hk8 ih (0 : Int32) x6 σ hf)
set_option maxHeartbeats 4000000 in
theorem fr11_whichBits_8 (N : Nat) {x1 : Int32} {σ0 : Mm} {r0 : Int32} : ∀ (fu : Nat) (x2 : Int32) (x3 : Int32) (σ : Mm), f11_whichBits_8 N x1 fu x2 x3 σ = some (r0, σ0) → Same (wr11_whichBits) σ σ0 := by
  intro fu
  induction fu with
  | zero =>
    intro x2 x3 σ hf
    rw [f11_whichBits_8] at hf
    cases hf
  | succ fu ih =>
    intro x2 x3 σ hf
    rw [f11_whichBits_8] at hf
    have hS : Same (wr11_whichBits) σ σ := Same.rf
    obtain ⟨hi_4, hf⟩ := z_c_e hf
    rcases z_if hf with hf | hf
    · obtain ⟨-, rfl⟩ := Prod.mk.inj (Option.some.inj hf)
      exact hS
    · obtain ⟨r_5, σ_6, hc_7, hf⟩ := z_b_e hf
      have hS := hS.tr ((fr11_swearBits N hc_7).mono (wsub [4, 5, 6, 7, 8, 9, 10, 11, 12] rfl))
      exact hS.tr (fr11_whichBits_32 N ih N (1 : Int32) (0 : Int32) σ_6 hf)
set_option maxHeartbeats 4000000 in
theorem fr11_whichBits (N : Nat) {x1 : Int32} {σ σ0 : Mm} {r0 : Int32} (hf : f11_whichBits N x1 σ = some (r0, σ0)) : Same (wr11_whichBits) σ σ0 := by
  unfold f11_whichBits at hf
  have hS : Same (wr11_whichBits) σ σ := Same.rf
  obtain ⟨r_1, σ_2, hc_3, hf⟩ := z_b_e hf
  have hS := hS.tr ((fr11_copies N hc_3).mono (wsub [0, 1, 2, 3] rfl))
  exact hS.tr (fr11_whichBits_8 N  N (0 : Int32) (0 : Int32) σ_2 hf)
def wr11_which : Wr := [(160, 1, some 57), (160, 1, some 58), (160, 1, some 59), (199, 1, none), (196, 1, some 3), (196, 1, none), (196, 1, some 0), (196, 1, some 1), (196, 1, some 4), (196, 1, some 2), (196, 1, some 5), (160, 1, some 54), (197, 1, none)]
set_option maxHeartbeats 4000000 in
theorem fr11_which (N : Nat) {x1 : Int32} {x2 : Int32} {σ σ0 : Mm} {r0 : Int32} (hf : f11_which N x1 x2 σ = some (r0, σ0)) : Same (wr11_which) σ σ0 := by
  unfold f11_which at hf
  have hS : Same (wr11_which) σ σ := Same.rf
  obtain ⟨r_1, σ_2, hc_3, hf⟩ := z_b_e hf
  have hS := hS.tr (Same.nil (fr11_in N hc_3))
  rcases z_if hf with hf | hf
  · obtain ⟨-, rfl⟩ := Prod.mk.inj (Option.some.inj hf)
    exact hS
  · obtain ⟨r_4, σ_5, hc_6, hf⟩ := z_b_e hf
    have hS := hS.tr (Same.nil (fr11_in N hc_6))
    rcases z_if hf with hf | hf
    · obtain ⟨-, rfl⟩ := Prod.mk.inj (Option.some.inj hf)
      exact hS
    · obtain ⟨r_7, σ_8, hc_9, hf⟩ := z_b_e hf
      have hS := hS.tr ((fr11_whichBits N hc_9).mono (wsub [0, 1, 2, 3, 4, 5, 6, 7, 8, 9, 10, 11, 12] rfl))
      rcases z_if hf with hf | hf
      · obtain ⟨r_10, σ_11, hc_12, hf⟩ := z_b_e hf
        have hS := hS.tr (Same.nil (fr11_bits N hc_12))
        obtain ⟨-, rfl⟩ := Prod.mk.inj (Option.some.inj hf)
        exact hS
      · obtain ⟨-, rfl⟩ := Prod.mk.inj (Option.some.inj hf)
        exact hS
def wr11_ask : Wr := [(160, 1, some 57), (160, 1, some 58), (160, 1, some 59), (199, 1, none), (196, 1, some 3), (196, 1, none), (196, 1, some 0), (196, 1, some 1), (196, 1, some 4), (196, 1, some 2), (196, 1, some 5), (160, 1, some 54), (197, 1, none)]
set_option maxHeartbeats 4000000 in
theorem fr11_ask_142 (N : Nat) {x2 : Int32} {σ0 : Mm} {r0 : Int32} {k29 : Int32 → Int32 → Int32 → Mm → Option (Int32 × Mm)} (hk29 : ∀ (x3 : Int32) (x4 : Int32) (x5 : Int32) (σ : Mm), k29 x3 x4 x5 σ = some (r0, σ0) → Same (wr11_ask) σ σ0) : ∀ (x3 : Int32) (x4 : Int32) (x5 : Int32) (σ : Mm), f11_ask_142 N k29 x2 x3 x4 x5 σ = some (r0, σ0) → Same (wr11_ask) σ σ0 := by
  intro x3 x4 x5 σ hf
  unfold f11_ask_142 at hf
  have hS : Same (wr11_ask) σ σ := Same.rf
  obtain ⟨x5_15, ex5_15, hf⟩ := z_l_x hf
  exact hS.tr (hk29 x3 x4 x5_15 σ hf)
set_option maxHeartbeats 4000000 in
theorem fr11_ask_135 (N : Nat) {x2 : Int32} {σ0 : Mm} {r0 : Int32} {k29 : Int32 → Int32 → Int32 → Mm → Option (Int32 × Mm)} (hk29 : ∀ (x3 : Int32) (x4 : Int32) (x5 : Int32) (σ : Mm), k29 x3 x4 x5 σ = some (r0, σ0) → Same (wr11_ask) σ σ0) : ∀ (x5 : Int32) (x7 : Int32) (σ : Mm), f11_ask_135 N k29 x2 x5 x7 σ = some (r0, σ0) → Same (wr11_ask) σ σ0 := by
  intro x5 x7 σ hf
  unfold f11_ask_135 at hf
  have hS : Same (wr11_ask) σ σ := Same.rf
  exact hS.tr (fr11_ask_142 N hk29 x5 x7 x5 σ hf)
set_option maxHeartbeats 4000000 in
theorem fr11_ask_119 (N : Nat) {x2 : Int32} {σ0 : Mm} {r0 : Int32} {k29 : Int32 → Int32 → Int32 → Mm → Option (Int32 × Mm)} (hk29 : ∀ (x3 : Int32) (x4 : Int32) (x5 : Int32) (σ : Mm), k29 x3 x4 x5 σ = some (r0, σ0) → Same (wr11_ask) σ σ0) : ∀ (x3 : Int32) (x4 : Int32) (x5 : Int32) (s0 : Int32) (σ : Mm), f11_ask_119 N k29 x2 x3 x4 x5 s0 σ = some (r0, σ0) → Same (wr11_ask) σ σ0 := by
  intro x3 x4 x5 s0 σ hf
  unfold f11_ask_119 at hf
  have hS : Same (wr11_ask) σ σ := Same.rf
  rcases z_if hf with hf | hf
  · exact hS.tr (fr11_ask_135 N hk29 x5 s0 σ hf)
  · rcases z_if hf with hf | hf
    · exact hS.tr (fr11_ask_135 N hk29 x5 s0 σ hf)
    · exact hS.tr (fr11_ask_142 N hk29 x3 x4 x5 σ hf)
set_option maxHeartbeats 4000000 in
theorem fr11_ask_95 (N : Nat) {x2 : Int32} {σ0 : Mm} {r0 : Int32} {k29 : Int32 → Int32 → Int32 → Mm → Option (Int32 × Mm)} (hk29 : ∀ (x3 : Int32) (x4 : Int32) (x5 : Int32) (σ : Mm), k29 x3 x4 x5 σ = some (r0, σ0) → Same (wr11_ask) σ σ0) : ∀ (x3 : Int32) (x4 : Int32) (x5 : Int32) (x6 : Int32) (σ : Mm), f11_ask_95 N k29 x2 x3 x4 x5 x6 σ = some (r0, σ0) → Same (wr11_ask) σ σ0 := by
  intro x3 x4 x5 x6 σ hf
  unfold f11_ask_95 at hf
  have hS : Same (wr11_ask) σ σ := Same.rf
  obtain ⟨r_9, σ_10, hc_11, hf⟩ := z_b_e hf
  have hS := hS.tr (Same.nil (fr11_bits N hc_11))
  rcases z_if hf with hf | hf
  · obtain ⟨r_12, σ_13, hc_14, hf⟩ := z_b_e hf
    have hS := hS.tr (Same.nil (fr11_bits N hc_14))
    exact hS.tr (fr11_ask_119 N hk29 x3 x4 x5 (r_12 - x6) σ_13 hf)
  · exact hS.tr (fr11_ask_119 N hk29 x3 x4 x5 x6 σ_10 hf)
set_option maxHeartbeats 4000000 in
theorem fr11_ask_89 (N : Nat) {x2 : Int32} {x3 : Int32} {x4 : Int32} {x5 : Int32} {σ0 : Mm} {r0 : Int32} {k29 : Int32 → Int32 → Int32 → Mm → Option (Int32 × Mm)} (hk29 : ∀ (x3 : Int32) (x4 : Int32) (x5 : Int32) (σ : Mm), k29 x3 x4 x5 σ = some (r0, σ0) → Same (wr11_ask) σ σ0) {k53 : Int32 → Int32 → Mm → Option (Int32 × Mm)} (hk53 : ∀ (x6 : Int32) (x7 : Int32) (σ : Mm), k53 x6 x7 σ = some (r0, σ0) → Same (wr11_ask) σ σ0) : ∀ (x6 : Int32) (x7 : Int32) (σ : Mm), f11_ask_89 N k29 k53 x2 x3 x4 x5 x6 x7 σ = some (r0, σ0) → Same (wr11_ask) σ σ0 := by
  intro x6 x7 σ hf
  unfold f11_ask_89 at hf
  have hS : Same (wr11_ask) σ σ := Same.rf
  obtain ⟨x7_16, ex7_16, hf⟩ := z_l_x hf
  exact hS.tr (hk53 x6 x7_16 σ hf)
set_option maxHeartbeats 4000000 in
theorem fr11_ask_53 (N : Nat) {x2 : Int32} {x3 : Int32} {x4 : Int32} {x5 : Int32} {σ0 : Mm} {r0 : Int32} {k29 : Int32 → Int32 → Int32 → Mm → Option (Int32 × Mm)} (hk29 : ∀ (x3 : Int32) (x4 : Int32) (x5 : Int32) (σ : Mm), k29 x3 x4 x5 σ = some (r0, σ0) → Same (wr11_ask) σ σ0) : ∀ (fu : Nat) (x6 : Int32) (x7 : Int32) (σ : Mm), f11_ask_53 N k29 x2 x3 x4 x5 fu x6 x7 σ = some (r0, σ0) → Same (wr11_ask) σ σ0 := by
  intro fu
  induction fu with
  | zero =>
    intro x6 x7 σ hf
    rw [f11_ask_53] at hf
    cases hf
  | succ fu ih =>
    intro x6 x7 σ hf
    rw [f11_ask_53] at hf
    have hS : Same (wr11_ask) σ σ := Same.rf
    obtain ⟨hi_8, hf⟩ := z_c_e hf
    rcases z_if hf with hf | hf
    · exact hS.tr (fr11_ask_95 N hk29 x3 x4 x5 x6 σ hf)
    · rcases z_if hf with hf | hf
      · obtain ⟨r_17, σ_18, hc_19, hf⟩ := z_b_e hf
        have hS := hS.tr ((fr11_doesSwear N hc_19).mono (wsub [4, 5, 6, 7, 8, 9, 10, 11, 12] rfl))
        rcases z_if hf with hf | hf
        · exact hS.tr (fr11_ask_89 N hk29 ih x6 x7 σ_18 hf)
        · obtain ⟨x6_20, ex6_20, hf⟩ := z_l_x hf
          exact hS.tr (fr11_ask_89 N hk29 ih x6_20 x7 σ_18 hf)
      · exact hS.tr (fr11_ask_89 N hk29 ih x6 x7 σ hf)
set_option maxHeartbeats 4000000 in
theorem fr11_ask_29 (N : Nat) {x2 : Int32} {σ0 : Mm} {r0 : Int32} : ∀ (fu : Nat) (x3 : Int32) (x4 : Int32) (x5 : Int32) (σ : Mm), f11_ask_29 N x2 fu x3 x4 x5 σ = some (r0, σ0) → Same (wr11_ask) σ σ0 := by
  intro fu
  induction fu with
  | zero =>
    intro x3 x4 x5 σ hf
    rw [f11_ask_29] at hf
    cases hf
  | succ fu ih =>
    intro x3 x4 x5 σ hf
    rw [f11_ask_29] at hf
    have hS : Same (wr11_ask) σ σ := Same.rf
    obtain ⟨hi_7, hf⟩ := z_c_e hf
    rcases z_if hf with hf | hf
    · obtain ⟨-, rfl⟩ := Prod.mk.inj (Option.some.inj hf)
      exact hS
    · rcases z_if hf with hf | hf
      · obtain ⟨-, rfl⟩ := Prod.mk.inj (Option.some.inj hf)
        exact hS
      · exact hS.tr (fr11_ask_53 N ih N (0 : Int32) (0 : Int32) σ hf)
set_option maxHeartbeats 4000000 in
theorem fr11_ask (N : Nat) {x1 : Int32} {σ σ0 : Mm} {r0 : Int32} (hf : f11_ask N x1 σ = some (r0, σ0)) : Same (wr11_ask) σ σ0 := by
  unfold f11_ask at hf
  have hS : Same (wr11_ask) σ σ := Same.rf
  obtain ⟨r_1, σ_2, hc_3, hf⟩ := z_b_e hf
  have hS := hS.tr (Same.nil (fr11_in N hc_3))
  rcases z_if hf with hf | hf
  · obtain ⟨-, rfl⟩ := Prod.mk.inj (Option.some.inj hf)
    exact hS
  · obtain ⟨r_4, σ_5, hc_6, hf⟩ := z_b_e hf
    have hS := hS.tr ((fr11_whichBits N hc_6).mono (wsub [0, 1, 2, 3, 4, 5, 6, 7, 8, 9, 10, 11, 12] rfl))
    exact hS.tr (fr11_ask_29 N  N (-2 : Int32) (0 : Int32) (0 : Int32) σ_5 hf)
def wr11_hold : Wr := [(210, 1, none), (211, 1, none)]
set_option maxHeartbeats 4000000 in
theorem fr11_hold_20 (N : Nat) {x1 : Int32} {σ0 : Mm} {r0 : Int32} : ∀ (fu : Nat) (x2 : Int32) (σ : Mm), f11_hold_20 N x1 fu x2 σ = some (r0, σ0) → Same (wr11_hold) σ σ0 := by
  intro fu
  induction fu with
  | zero =>
    intro x2 σ hf
    rw [f11_hold_20] at hf
    cases hf
  | succ fu ih =>
    intro x2 σ hf
    rw [f11_hold_20] at hf
    have hS : Same (wr11_hold) σ σ := Same.rf
    rcases z_if hf with hf | hf
    · obtain ⟨-, rfl⟩ := Prod.mk.inj (Option.some.inj hf)
      exact hS
    · obtain ⟨hi_5, hf⟩ := z_c_e hf
      obtain ⟨-, hf⟩ := z_c_e hf
      obtain ⟨σ_6, eσ_6, hf⟩ := z_l_x hf
      have hS := hS.tr (υ := σ_6) (by rw [eσ_6]; exact Same_sIe (i := 1) rfl)
      obtain ⟨x2_7, ex2_7, hf⟩ := z_l_x hf
      exact hS.tr (ih x2_7 σ_6 hf)
set_option maxHeartbeats 4000000 in
theorem fr11_hold (N : Nat) {x1 : Int32} {σ σ0 : Mm} {r0 : Int32} (hf : f11_hold N x1 σ = some (r0, σ0)) : Same (wr11_hold) σ σ0 := by
  unfold f11_hold at hf
  have hS : Same (wr11_hold) σ σ := Same.rf
  obtain ⟨r_1, σ_2, hc_3, hf⟩ := z_b_e hf
  have hS := hS.tr (Same.nil (fr11_in N hc_3))
  rcases z_if hf with hf | hf
  · obtain ⟨-, rfl⟩ := Prod.mk.inj (Option.some.inj hf)
    exact hS
  · obtain ⟨-, hf⟩ := z_c_e hf
    obtain ⟨σ_4, eσ_4, hf⟩ := z_l_x hf
    have hS := hS.tr (υ := σ_4) (by rw [eσ_4]; exact Same_sIe (i := 0) rfl)
    exact hS.tr (fr11_hold_20 N  N (0 : Int32) σ_4 hf)
def wr11_restore : Wr := [(160, 1, some 63), (198, 1, none)]
set_option maxHeartbeats 4000000 in
theorem fr11_restore_51 (N : Nat) {σ0 : Mm} {r0 : Int32} : ∀ (σ : Mm), f11_restore_51 N σ = some (r0, σ0) → Same (wr11_restore) σ σ0 := by
  intro σ hf
  unfold f11_restore_51 at hf
  have hS : Same (wr11_restore) σ σ := Same.rf
  obtain ⟨σ_5, eσ_5, hf⟩ := z_l_x hf
  have hS := hS.tr (υ := σ_5) (by rw [eσ_5]; exact Same_sI (i := 0) rfl)
  obtain ⟨-, rfl⟩ := Prod.mk.inj (Option.some.inj hf)
  exact hS
set_option maxHeartbeats 4000000 in
theorem fr11_restore_22 (N : Nat) {x1 : Int32} {σ0 : Mm} {r0 : Int32} : ∀ (fu : Nat) (x2 : Int32) (σ : Mm), f11_restore_22 N x1 fu x2 σ = some (r0, σ0) → Same (wr11_restore) σ σ0 := by
  intro fu
  induction fu with
  | zero =>
    intro x2 σ hf
    rw [f11_restore_22] at hf
    cases hf
  | succ fu ih =>
    intro x2 σ hf
    rw [f11_restore_22] at hf
    have hS : Same (wr11_restore) σ σ := Same.rf
    rcases z_if hf with hf | hf
    · exact hS.tr (fr11_restore_51 N   σ hf)
    · obtain ⟨hi_6, hf⟩ := z_c_e hf
      obtain ⟨-, hf⟩ := z_c_e hf
      obtain ⟨σ_7, eσ_7, hf⟩ := z_l_x hf
      have hS := hS.tr (υ := σ_7) (by rw [eσ_7]; exact Same_sIe (i := 1) rfl)
      obtain ⟨x2_8, ex2_8, hf⟩ := z_l_x hf
      exact hS.tr (ih x2_8 σ_7 hf)
set_option maxHeartbeats 4000000 in
theorem fr11_restore (N : Nat) {x1 : Int32} {σ σ0 : Mm} {r0 : Int32} (hf : f11_restore N x1 σ = some (r0, σ0)) : Same (wr11_restore) σ σ0 := by
  unfold f11_restore at hf
  have hS : Same (wr11_restore) σ σ := Same.rf
  obtain ⟨r_1, σ_2, hc_3, hf⟩ := z_b_e hf
  have hS := hS.tr (Same.nil (fr11_in N hc_3))
  rcases z_if hf with hf | hf
  · obtain ⟨-, rfl⟩ := Prod.mk.inj (Option.some.inj hf)
    exact hS
  · obtain ⟨hi_4, hf⟩ := z_c_e hf
    rcases z_if hf with hf | hf
    · obtain ⟨-, rfl⟩ := Prod.mk.inj (Option.some.inj hf)
      exact hS
    · exact hS.tr (fr11_restore_22 N  N (0 : Int32) σ_2 hf)
def wr11_count : Wr := [(160, 1, some 57), (160, 1, some 58), (160, 1, some 59), (199, 1, none), (199, 1, some 14), (196, 1, some 3), (196, 1, none), (196, 1, some 0), (196, 1, some 1), (196, 1, some 4), (160, 1, some 54), (197, 1, none), (196, 1, some 2), (196, 1, some 5), (201, 1, none), (202, 1, none), (200, 1, none)]
set_option maxHeartbeats 4000000 in
theorem fr11_count_136 (N : Nat) {σ0 : Mm} {r0 : Int32} : ∀ (fu : Nat) (x2 : Int32) (x3 : Int32) (σ : Mm), f11_count_136 N fu x2 x3 σ = some (r0, σ0) → Same (wr11_count) σ σ0 := by
  intro fu
  induction fu with
  | zero =>
    intro x2 x3 σ hf
    rw [f11_count_136] at hf
    cases hf
  | succ fu ih =>
    intro x2 x3 σ hf
    rw [f11_count_136] at hf
    have hS : Same (wr11_count) σ σ := Same.rf
    obtain ⟨hi_9, hf⟩ := z_c_e hf
    rcases z_if hf with hf | hf
    · obtain ⟨-, rfl⟩ := Prod.mk.inj (Option.some.inj hf)
      exact hS
    · obtain ⟨hi_10, hf⟩ := z_c_e hf
      obtain ⟨x2_11, ex2_11, hf⟩ := z_l_x hf
      obtain ⟨x3_12, ex3_12, hf⟩ := z_l_x hf
      exact hS.tr (ih x2_11 x3_12 σ hf)
set_option maxHeartbeats 4000000 in
theorem fr11_count_204 (N : Nat) {σ0 : Mm} {r0 : Int32} {k178 : Int32 → Int32 → Mm → Option (Int32 × Mm)} (hk178 : ∀ (x2 : Int32) (x3 : Int32) (σ : Mm), k178 x2 x3 σ = some (r0, σ0) → Same (wr11_count) σ σ0) : ∀ (x2 : Int32) (x3 : Int32) (σ : Mm), f11_count_204 N k178 x2 x3 σ = some (r0, σ0) → Same (wr11_count) σ σ0 := by
  intro x2 x3 σ hf
  unfold f11_count_204 at hf
  have hS : Same (wr11_count) σ σ := Same.rf
  obtain ⟨x3_18, ex3_18, hf⟩ := z_l_x hf
  exact hS.tr (hk178 x2 x3_18 σ hf)
set_option maxHeartbeats 4000000 in
theorem fr11_count_178 (N : Nat) {σ0 : Mm} {r0 : Int32} : ∀ (fu : Nat) (x2 : Int32) (x3 : Int32) (σ : Mm), f11_count_178 N fu x2 x3 σ = some (r0, σ0) → Same (wr11_count) σ σ0 := by
  intro fu
  induction fu with
  | zero =>
    intro x2 x3 σ hf
    rw [f11_count_178] at hf
    cases hf
  | succ fu ih =>
    intro x2 x3 σ hf
    rw [f11_count_178] at hf
    have hS : Same (wr11_count) σ σ := Same.rf
    obtain ⟨hi_16, hf⟩ := z_c_e hf
    rcases z_if hf with hf | hf
    · obtain ⟨-, rfl⟩ := Prod.mk.inj (Option.some.inj hf)
      exact hS
    · obtain ⟨hi_17, hf⟩ := z_c_e hf
      rcases z_if hf with hf | hf
      · exact hS.tr (fr11_count_204 N ih x2 x3 σ hf)
      · obtain ⟨x2_19, ex2_19, hf⟩ := z_l_x hf
        exact hS.tr (fr11_count_204 N ih x2_19 x3 σ hf)
set_option maxHeartbeats 4000000 in
theorem fr11_count_263 (N : Nat) {σ0 : Mm} {r0 : Int32} : ∀ (s0 : Int32) (s1 : Int32) (σ : Mm), f11_count_263 N s0 s1 σ = some (r0, σ0) → Same (wr11_count) σ σ0 := by
  intro s0 s1 σ hf
  unfold f11_count_263 at hf
  have hS : Same (wr11_count) σ σ := Same.rf
  obtain ⟨hi_23, hf⟩ := z_c_e hf
  rcases z_if hf with hf | hf
  · obtain ⟨-, rfl⟩ := Prod.mk.inj (Option.some.inj hf)
    exact hS
  · obtain ⟨-, rfl⟩ := Prod.mk.inj (Option.some.inj hf)
    exact hS
set_option maxHeartbeats 4000000 in
theorem fr11_count_249 (N : Nat) {σ0 : Mm} {r0 : Int32} : ∀ (s0 : Int32) (σ : Mm), f11_count_249 N s0 σ = some (r0, σ0) → Same (wr11_count) σ σ0 := by
  intro s0 σ hf
  unfold f11_count_249 at hf
  have hS : Same (wr11_count) σ σ := Same.rf
  obtain ⟨hi_22, hf⟩ := z_c_e hf
  rcases z_if hf with hf | hf
  · exact hS.tr (fr11_count_263 N  s0 (0 : Int32) σ hf)
  · exact hS.tr (fr11_count_263 N  s0 (1 : Int32) σ hf)
set_option maxHeartbeats 4000000 in
theorem fr11_count_331 (N : Nat) {σ0 : Mm} {r0 : Int32} {k292 : Int32 → Int32 → Mm → Option (Int32 × Mm)} (hk292 : ∀ (x2 : Int32) (x3 : Int32) (σ : Mm), k292 x2 x3 σ = some (r0, σ0) → Same (wr11_count) σ σ0) : ∀ (x2 : Int32) (x3 : Int32) (σ : Mm), f11_count_331 N k292 x2 x3 σ = some (r0, σ0) → Same (wr11_count) σ σ0 := by
  intro x2 x3 σ hf
  unfold f11_count_331 at hf
  have hS : Same (wr11_count) σ σ := Same.rf
  obtain ⟨x3_28, ex3_28, hf⟩ := z_l_x hf
  exact hS.tr (hk292 x2 x3_28 σ hf)
set_option maxHeartbeats 4000000 in
theorem fr11_count_292 (N : Nat) {σ0 : Mm} {r0 : Int32} : ∀ (fu : Nat) (x2 : Int32) (x3 : Int32) (σ : Mm), f11_count_292 N fu x2 x3 σ = some (r0, σ0) → Same (wr11_count) σ σ0 := by
  intro fu
  induction fu with
  | zero =>
    intro x2 x3 σ hf
    rw [f11_count_292] at hf
    cases hf
  | succ fu ih =>
    intro x2 x3 σ hf
    rw [f11_count_292] at hf
    have hS : Same (wr11_count) σ σ := Same.rf
    obtain ⟨hi_25, hf⟩ := z_c_e hf
    rcases z_if hf with hf | hf
    · obtain ⟨-, rfl⟩ := Prod.mk.inj (Option.some.inj hf)
      exact hS
    · obtain ⟨hi_26, hf⟩ := z_c_e hf
      obtain ⟨hi_27, hf⟩ := z_c_e hf
      rcases z_if hf with hf | hf
      · exact hS.tr (fr11_count_331 N ih x2 x3 σ hf)
      · obtain ⟨x2_29, ex2_29, hf⟩ := z_l_x hf
        exact hS.tr (fr11_count_331 N ih x2_29 x3 σ hf)
set_option maxHeartbeats 4000000 in
theorem fr11_count_341 (N : Nat) {σ0 : Mm} {r0 : Int32} : ∀ (fu : Nat) (x2 : Int32) (x3 : Int32) (σ : Mm), f11_count_341 N fu x2 x3 σ = some (r0, σ0) → Same (wr11_count) σ σ0 := by
  intro fu
  induction fu with
  | zero =>
    intro x2 x3 σ hf
    rw [f11_count_341] at hf
    cases hf
  | succ fu ih =>
    intro x2 x3 σ hf
    rw [f11_count_341] at hf
    have hS : Same (wr11_count) σ σ := Same.rf
    obtain ⟨hi_30, hf⟩ := z_c_e hf
    rcases z_if hf with hf | hf
    · obtain ⟨-, rfl⟩ := Prod.mk.inj (Option.some.inj hf)
      exact hS
    · obtain ⟨r_31, σ_32, hc_33, hf⟩ := z_b_e hf
      have hS := hS.tr ((fr11_swearBits N hc_33).mono (wsub [5, 6, 7, 8, 9, 12, 13, 10, 11] rfl))
      obtain ⟨r_34, σ_35, hc_36, hf⟩ := z_b_e hf
      have hS := hS.tr (Same.nil (fr11_bits N hc_36))
      obtain ⟨x2_37, ex2_37, hf⟩ := z_l_x hf
      obtain ⟨x3_38, ex3_38, hf⟩ := z_l_x hf
      exact hS.tr (ih x2_37 x3_38 σ_35 hf)
set_option maxHeartbeats 4000000 in
theorem fr11_count (N : Nat) {x1 : Int32} {σ σ0 : Mm} {r0 : Int32} (hf : f11_count N x1 σ = some (r0, σ0)) : Same (wr11_count) σ σ0 := by
  unfold f11_count at hf
  have hS : Same (wr11_count) σ σ := Same.rf
  obtain ⟨r_1, σ_2, hc_3, hf⟩ := z_b_e hf
  have hS := hS.tr ((fr11_goesOnTo N hc_3).mono (wsub [0, 1, 2, 3, 4, 5, 6, 7, 8, 9, 10, 11, 12, 13, 14, 15, 16] rfl))
  rcases z_if hf with hf | hf
  · obtain ⟨hi_4, hf⟩ := z_c_e hf
    obtain ⟨-, rfl⟩ := Prod.mk.inj (Option.some.inj hf)
    exact hS
  rcases z_if hf with hf | hf
  · obtain ⟨hi_5, hf⟩ := z_c_e hf
    obtain ⟨-, rfl⟩ := Prod.mk.inj (Option.some.inj hf)
    exact hS
  rcases z_if hf with hf | hf
  · obtain ⟨hi_6, hf⟩ := z_c_e hf
    obtain ⟨-, rfl⟩ := Prod.mk.inj (Option.some.inj hf)
    exact hS
  rcases z_if hf with hf | hf
  · obtain ⟨hi_7, hf⟩ := z_c_e hf
    obtain ⟨-, rfl⟩ := Prod.mk.inj (Option.some.inj hf)
    exact hS
  rcases z_if hf with hf | hf
  · obtain ⟨hi_8, hf⟩ := z_c_e hf
    obtain ⟨-, rfl⟩ := Prod.mk.inj (Option.some.inj hf)
    exact hS
  rcases z_if hf with hf | hf
  · exact hS.tr (fr11_count_136 N  N (0 : Int32) (0 : Int32) σ_2 hf)
  rcases z_if hf with hf | hf
  · obtain ⟨r_13, σ_14, hc_15, hf⟩ := z_b_e hf
    have hS := hS.tr ((fr11_standBits N hc_15).mono (wsub [5, 6, 7, 8, 9, 12, 13, 10, 11] rfl))
    obtain ⟨-, rfl⟩ := Prod.mk.inj (Option.some.inj hf)
    exact hS
  rcases z_if hf with hf | hf
  · exact hS.tr (fr11_count_178 N  N (0 : Int32) (0 : Int32) σ_2 hf)
  rcases z_if hf with hf | hf
  · obtain ⟨hi_20, hf⟩ := z_c_e hf
    obtain ⟨-, rfl⟩ := Prod.mk.inj (Option.some.inj hf)
    exact hS
  rcases z_if hf with hf | hf
  · obtain ⟨-, rfl⟩ := Prod.mk.inj (Option.some.inj hf)
    exact hS
  rcases z_if hf with hf | hf
  · obtain ⟨-, rfl⟩ := Prod.mk.inj (Option.some.inj hf)
    exact hS
  rcases z_if hf with hf | hf
  · obtain ⟨-, rfl⟩ := Prod.mk.inj (Option.some.inj hf)
    exact hS
  rcases z_if hf with hf | hf
  · obtain ⟨hi_21, hf⟩ := z_c_e hf
    rcases z_if hf with hf | hf
    · exact hS.tr (fr11_count_249 N  (0 : Int32) σ_2 hf)
    · exact hS.tr (fr11_count_249 N  (1 : Int32) σ_2 hf)
  rcases z_if hf with hf | hf
  · obtain ⟨hi_24, hf⟩ := z_c_e hf
    obtain ⟨-, rfl⟩ := Prod.mk.inj (Option.some.inj hf)
    exact hS
  rcases z_if hf with hf | hf
  · exact hS.tr (fr11_count_292 N  N (0 : Int32) (0 : Int32) σ_2 hf)
  rcases z_if hf with hf | hf
  · exact hS.tr (fr11_count_341 N  N (0 : Int32) (0 : Int32) σ_2 hf)
  obtain ⟨-, rfl⟩ := Prod.mk.inj (Option.some.inj hf)
  exact hS
