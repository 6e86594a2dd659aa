
def wr8_fillsPlot : Wr := [(24, 1, none), (25, 1, none), (26, 1, none), (7, 1, some 16), (44, 1, none), (45, 1, none), (46, 1, none), (27, 1, some 16), (49, 1, some 2), (2, 1, some 4), (2, 1, some 5), (8, 1, none), (28, 1, none), (9, 1, none), (29, 1, none), (10, 1, none), (30, 1, none), (7, 1, some 1), (27, 1, some 1)]
set_option maxHeartbeats 4000000 in
theorem fr8_fillsPlot (N : Nat) {σ σ0 : Mm} {r0 : Int32} (hf : f8_fillsPlot N σ = some (r0, σ0)) : Same (wr8_fillsPlot) σ σ0 := by
  unfold f8_fillsPlot at hf
  have hS : Same (wr8_fillsPlot) σ σ := Same.rf
  obtain ⟨t_1, ht_2, kht_2, hf⟩ := z_r_e hf
  obtain ⟨x1_3, ex1_3, hf⟩ := z_l_x hf
  rcases z_if hf with hf | hf
  · obtain ⟨-, rfl⟩ := Prod.mk.inj (Option.some.inj hf)
    exact hS
  · obtain ⟨r_4, σ_5, hc_6, hf⟩ := z_b_e hf
    have hS := hS.tr ((fr8_takeNewName N hc_6).mono (wsub [0, 1, 2, 3, 4, 5, 6, 7, 8, 9, 10] rfl))
    rcases z_if hf with hf | hf
    · obtain ⟨-, rfl⟩ := Prod.mk.inj (Option.some.inj hf)
      exact hS
    · obtain ⟨t_7, ht_8, kht_8, hf⟩ := z_r_e hf
      obtain ⟨r_9, σ_10, hc_11, hf⟩ := z_b_e hf
      have hS := hS.tr ((fr8_takeNumber N hc_11).mono (wsub [9, 10, 8] rfl))
      obtain ⟨-, hf⟩ := z_c_e hf
      obtain ⟨σ_12, eσ_12, hf⟩ := z_l_x hf
      have hS := hS.tr (υ := σ_12) ((kdo_3 kht_8).elim (fun e9 => by rw [eσ_12, e9]; exact Same_sIe (i := 11) rfl) (fun e9 => by rw [eσ_12, e9]; exact Same_sIe (i := 12) rfl))
      obtain ⟨t_13, ht_14, kht_14, hf⟩ := z_r_e hf
      obtain ⟨r_15, σ_16, hc_17, hf⟩ := z_b_e hf
      have hS := hS.tr ((fr8_takeNumber N hc_17).mono (wsub [9, 10, 8] rfl))
      obtain ⟨-, hf⟩ := z_c_e hf
      obtain ⟨σ_18, eσ_18, hf⟩ := z_l_x hf
      have hS := hS.tr (υ := σ_18) ((kdo_3 kht_14).elim (fun e9 => by rw [eσ_18, e9]; exact Same_sIe (i := 13) rfl) (fun e9 => by rw [eσ_18, e9]; exact Same_sIe (i := 14) rfl))
      obtain ⟨t_19, ht_20, kht_20, hf⟩ := z_r_e hf
      obtain ⟨r_21, σ_22, hc_23, hf⟩ := z_b_e hf
      have hS := hS.tr ((fr8_takeKnown N hc_23).mono (wsub [8, 9, 10] rfl))
      obtain ⟨-, hf⟩ := z_c_e hf
      obtain ⟨σ_24, eσ_24, hf⟩ := z_l_x hf
      have hS := hS.tr (υ := σ_24) ((kdo_3 kht_20).elim (fun e9 => by rw [eσ_24, e9]; exact Same_sIe (i := 15) rfl) (fun e9 => by rw [eσ_24, e9]; exact Same_sIe (i := 16) rfl))
      obtain ⟨t_25, ht_26, kht_26, hf⟩ := z_r_e hf
      obtain ⟨σ_27, eσ_27, hf⟩ := z_l_x hf
      have hS := hS.tr (υ := σ_27) ((kdo_3 kht_26).elim (fun e9 => by rw [eσ_27, e9]; exact Same_sI (i := 17) rfl) (fun e9 => by rw [eσ_27, e9]; exact Same_sI (i := 18) rfl))
      rcases z_if hf with hf | hf
      · obtain ⟨-, rfl⟩ := Prod.mk.inj (Option.some.inj hf)
        exact hS
      · obtain ⟨-, rfl⟩ := Prod.mk.inj (Option.some.inj hf)
        exact hS
def wr8_fillsWitness : Wr := [(24, 1, none), (25, 1, none), (26, 1, none), (7, 1, some 16), (44, 1, none), (45, 1, none), (46, 1, none), (27, 1, some 16), (49, 1, some 2), (2, 1, some 4), (2, 1, some 5), (11, 1, none), (31, 1, none), (12, 1, none), (32, 1, none), (7, 1, some 2), (27, 1, some 2)]
set_option maxHeartbeats 4000000 in
theorem fr8_fillsWitness (N : Nat) {σ σ0 : Mm} {r0 : Int32} (hf : f8_fillsWitness N σ = some (r0, σ0)) : Same (wr8_fillsWitness) σ σ0 := by
  unfold f8_fillsWitness at hf
  have hS : Same (wr8_fillsWitness) σ σ := Same.rf
  obtain ⟨t_1, ht_2, kht_2, hf⟩ := z_r_e hf
  obtain ⟨x1_3, ex1_3, hf⟩ := z_l_x hf
  rcases z_if hf with hf | hf
  · obtain ⟨-, rfl⟩ := Prod.mk.inj (Option.some.inj hf)
    exact hS
  · obtain ⟨r_4, σ_5, hc_6, hf⟩ := z_b_e hf
    have hS := hS.tr ((fr8_takeNewName N hc_6).mono (wsub [0, 1, 2, 3, 4, 5, 6, 7, 8, 9, 10] rfl))
    rcases z_if hf with hf | hf
    · obtain ⟨-, rfl⟩ := Prod.mk.inj (Option.some.inj hf)
      exact hS
    · obtain ⟨t_7, ht_8, kht_8, hf⟩ := z_r_e hf
      obtain ⟨r_9, σ_10, hc_11, hf⟩ := z_b_e hf
      have hS := hS.tr ((fr8_takeNumber N hc_11).mono (wsub [9, 10, 8] rfl))
      obtain ⟨-, hf⟩ := z_c_e hf
      obtain ⟨σ_12, eσ_12, hf⟩ := z_l_x hf
      have hS := hS.tr (υ := σ_12) ((kdo_3 kht_8).elim (fun e9 => by rw [eσ_12, e9]; exact Same_sIe (i := 11) rfl) (fun e9 => by rw [eσ_12, e9]; exact Same_sIe (i := 12) rfl))
      obtain ⟨t_13, ht_14, kht_14, hf⟩ := z_r_e hf
      obtain ⟨r_15, σ_16, hc_17, hf⟩ := z_b_e hf
      have hS := hS.tr ((fr8_takeNumber N hc_17).mono (wsub [9, 10, 8] rfl))
      obtain ⟨-, hf⟩ := z_c_e hf
      obtain ⟨σ_18, eσ_18, hf⟩ := z_l_x hf
      have hS := hS.tr (υ := σ_18) ((kdo_3 kht_14).elim (fun e9 => by rw [eσ_18, e9]; exact Same_sIe (i := 13) rfl) (fun e9 => by rw [eσ_18, e9]; exact Same_sIe (i := 14) rfl))
      obtain ⟨t_19, ht_20, kht_20, hf⟩ := z_r_e hf
      obtain ⟨σ_21, eσ_21, hf⟩ := z_l_x hf
      have hS := hS.tr (υ := σ_21) ((kdo_3 kht_20).elim (fun e9 => by rw [eσ_21, e9]; exact Same_sI (i := 15) rfl) (fun e9 => by rw [eσ_21, e9]; exact Same_sI (i := 16) rfl))
      rcases z_if hf with hf | hf
      · obtain ⟨-, rfl⟩ := Prod.mk.inj (Option.some.inj hf)
        exact hS
      · obtain ⟨-, rfl⟩ := Prod.mk.inj (Option.some.inj hf)
        exact hS
def wr8_fillsGiving : Wr := [(49, 1, some 2), (2, 1, some 4), (2, 1, some 5), (14, 1, none), (15, 1, none), (16, 1, none), (17, 1, none), (18, 1, none), (34, 1, none), (35, 1, none), (36, 1, none), (37, 1, none), (38, 1, none), (7, 1, some 3), (27, 1, some 3)]
set_option maxHeartbeats 4000000 in
theorem fr8_fillsGiving_155 (N : Nat) {σ0 : Mm} {r0 : Int32} : ∀ (x1 : Int32) (x2 : Int32) (x3 : Int32) (x4 : Int32) (x5 : Int32) (σ : Mm), f8_fillsGiving_155 N x1 x2 x3 x4 x5 σ = some (r0, σ0) → Same (wr8_fillsGiving) σ σ0 := by
  intro x1 x2 x3 x4 x5 σ hf
  unfold f8_fillsGiving_155 at hf
  have hS : Same (wr8_fillsGiving) σ σ := Same.rf
  rcases z_if hf with hf | hf
  · obtain ⟨t_13, ht_14, kht_14, hf⟩ := z_r_e hf
    rcases z_if hf with hf | hf
    · obtain ⟨t_15, ht_16, kht_16, hf⟩ := z_r_e hf
      obtain ⟨t_17, ht_18, kht_18, hf⟩ := z_r_e hf
      obtain ⟨r_19, σ_20, hc_21, hf⟩ := z_b_e hf
      have hS := hS.tr ((fr1_put N hc_21).mono ((kdo_3 kht_16).elim (fun e9 => by rw [e9]; exact wsub [3, 4, 5, 6, 7] rfl) (fun e9 => by rw [e9]; exact wsub [8, 9, 10, 11, 12] rfl)))
      obtain ⟨t_22, ht_23, kht_23, hf⟩ := z_r_e hf
      obtain ⟨σ_24, eσ_24, hf⟩ := z_l_x hf
      have hS := hS.tr (υ := σ_24) ((kdo_3 kht_23).elim (fun e9 => by rw [eσ_24, e9]; exact Same_sI (i := 13) rfl) (fun e9 => by rw [eσ_24, e9]; exact Same_sI (i := 14) rfl))
      obtain ⟨-, rfl⟩ := Prod.mk.inj (Option.some.inj hf)
      exact hS
    · obtain ⟨-, rfl⟩ := Prod.mk.inj (Option.some.inj hf)
      exact hS
  · obtain ⟨-, rfl⟩ := Prod.mk.inj (Option.some.inj hf)
    exact hS
set_option maxHeartbeats 4000000 in
theorem fr8_fillsGiving_142 (N : Nat) {x1 : Int32} {x2 : Int32} {x3 : Int32} {x4 : Int32} {σ0 : Mm} {r0 : Int32} {k66 : Int32 → Int32 → Mm → Option (Int32 × Mm)} (hk66 : ∀ (x5 : Int32) (x6 : Int32) (σ : Mm), k66 x5 x6 σ = some (r0, σ0) → Same (wr8_fillsGiving) σ σ0) : ∀ (x5 : Int32) (x6 : Int32) (x7 : Int32) (σ : Mm), f8_fillsGiving_142 N k66 x1 x2 x3 x4 x5 x6 x7 σ = some (r0, σ0) → Same (wr8_fillsGiving) σ σ0 := by
  intro x5 x6 x7 σ hf
  unfold f8_fillsGiving_142 at hf
  have hS : Same (wr8_fillsGiving) σ σ := Same.rf
  obtain ⟨x5_32, ex5_32, hf⟩ := z_l_x hf
  obtain ⟨x6_33, ex6_33, hf⟩ := z_l_x hf
  exact hS.tr (hk66 x5_32 x6_33 σ hf)
set_option maxHeartbeats 4000000 in
theorem fr8_fillsGiving_127 (N : Nat) {σ0 : Mm} {r0 : Int32} : ∀ (σ : Mm), f8_fillsGiving_127 N σ = some (r0, σ0) → Same (wr8_fillsGiving) σ σ0 := by
  intro σ hf
  unfold f8_fillsGiving_127 at hf
  have hS : Same (wr8_fillsGiving) σ σ := Same.rf
  obtain ⟨r_34, σ_35, hc_36, hf⟩ := z_b_e hf
  have hS := hS.tr ((fr9_refuse N hc_36).mono (wsub [1, 2] rfl))
  obtain ⟨-, hf⟩ := z_c_e hf
  obtain ⟨-, rfl⟩ := Prod.mk.inj (Option.some.inj hf)
  exact hS
set_option maxHeartbeats 4000000 in
theorem fr8_fillsGiving_66 (N : Nat) {x1 : Int32} {x2 : Int32} {x3 : Int32} {x4 : Int32} {σ0 : Mm} {r0 : Int32} : ∀ (fu : Nat) (x5 : Int32) (x6 : Int32) (σ : Mm), f8_fillsGiving_66 N x1 x2 x3 x4 fu x5 x6 σ = some (r0, σ0) → Same (wr8_fillsGiving) σ σ0 := by
  intro fu
  induction fu with
  | zero =>
    intro x5 x6 σ hf
    rw [f8_fillsGiving_66] at hf
    cases hf
  | succ fu ih =>
    intro x5 x6 σ hf
    rw [f8_fillsGiving_66] at hf
    have hS : Same (wr8_fillsGiving) σ σ := Same.rf
    rcases z_if hf with hf | hf
    · exact hS.tr (fr8_fillsGiving_155 N  x1 x2 x3 x4 x5 σ hf)
    · rcases z_if hf with hf | hf
      · obtain ⟨r_25, σ_26, hc_27, hf⟩ := z_b_e hf
        have hS := hS.tr (Same.nil (fr9_kindAt N hc_27))
        rcases z_if hf with hf | hf
        · obtain ⟨r_28, σ_29, hc_30, hf⟩ := z_b_e hf
          have hS := hS.tr ((fr8_takeKnown N hc_30).mono (wsub [0, 1, 2] rfl))
          obtain ⟨x7_31, ex7_31, hf⟩ := z_l_x hf
          rcases z_if hf with hf | hf
          · rcases z_if hf with hf | hf
            · exact hS.tr (fr8_fillsGiving_142 N ih x5 x6 x7_31 σ_29 hf)
            · exact hS.tr (fr8_fillsGiving_127 N   σ_29 hf)
          · exact hS.tr (fr8_fillsGiving_142 N ih x5 x6 x7_31 σ_29 hf)
        · exact hS.tr (fr8_fillsGiving_155 N  x1 x2 x3 x4 x5 σ_26 hf)
      · exact hS.tr (fr8_fillsGiving_155 N  x1 x2 x3 x4 x5 σ hf)
set_option maxHeartbeats 4000000 in
theorem fr8_fillsGiving_51 (N : Nat) {σ0 : Mm} {r0 : Int32} : ∀ (x1 : Int32) (x2 : Int32) (x3 : Int32) (σ : Mm), f8_fillsGiving_51 N x1 x2 x3 σ = some (r0, σ0) → Same (wr8_fillsGiving) σ σ0 := by
  intro x1 x2 x3 σ hf
  unfold f8_fillsGiving_51 at hf
  have hS : Same (wr8_fillsGiving) σ σ := Same.rf
  obtain ⟨r_10, σ_11, hc_12, hf⟩ := z_b_e hf
  have hS := hS.tr ((fr8_takeNumber N hc_12).mono (wsub [1, 2, 0] rfl))
  exact hS.tr (fr8_fillsGiving_66 N  N (0 : Int32) (0 : Int32) σ_11 hf)
set_option maxHeartbeats 4000000 in
theorem fr8_fillsGiving (N : Nat) {σ σ0 : Mm} {r0 : Int32} (hf : f8_fillsGiving N σ = some (r0, σ0)) : Same (wr8_fillsGiving) σ σ0 := by
  unfold f8_fillsGiving at hf
  have hS : Same (wr8_fillsGiving) σ σ := Same.rf
  obtain ⟨r_1, σ_2, hc_3, hf⟩ := z_b_e hf
  have hS := hS.tr ((fr8_takeKnown N hc_3).mono (wsub [0, 1, 2] rfl))
  obtain ⟨r_4, σ_5, hc_6, hf⟩ := z_b_e hf
  have hS := hS.tr ((fr8_takeKnown N hc_6).mono (wsub [0, 1, 2] rfl))
  obtain ⟨r_7, σ_8, hc_9, hf⟩ := z_b_e hf
  have hS := hS.tr ((fr8_takeKnown N hc_9).mono (wsub [0, 1, 2] rfl))
  rcases z_if hf with hf | hf
  · rcases z_if hf with hf | hf
    · obtain ⟨r_37, σ_38, hc_39, hf⟩ := z_b_e hf
      have hS := hS.tr ((fr9_refuse N hc_39).mono (wsub [1, 2] rfl))
      obtain ⟨-, hf⟩ := z_c_e hf
      obtain ⟨-, rfl⟩ := Prod.mk.inj (Option.some.inj hf)
      exact hS
    · exact hS.tr (fr8_fillsGiving_51 N  r_1 r_4 r_7 σ_8 hf)
  · exact hS.tr (fr8_fillsGiving_51 N  r_1 r_4 r_7 σ_8 hf)
def wr8_fillsOne : Wr := [(24, 1, none), (25, 1, none), (26, 1, none), (7, 1, some 16), (44, 1, none), (45, 1, none), (46, 1, none), (27, 1, some 16), (49, 1, some 2), (2, 1, some 4), (2, 1, some 5), (7, 1, some 0), (27, 1, some 0), (8, 1, none), (28, 1, none), (9, 1, none), (29, 1, none), (10, 1, none), (30, 1, none), (7, 1, some 1), (27, 1, some 1), (11, 1, none), (31, 1, none), (12, 1, none), (32, 1, none), (7, 1, some 2), (27, 1, some 2), (14, 1, none), (15, 1, none), (16, 1, none), (17, 1, none), (18, 1, none), (34, 1, none), (35, 1, none), (36, 1, none), (37, 1, none), (38, 1, none), (7, 1, some 3), (27, 1, some 3), (7, 1, some 4), (27, 1, some 4), (7, 1, some 5), (27, 1, some 5)]
set_option maxHeartbeats 4000000 in
theorem fr8_fillsOne (N : Nat) {x1 : Int32} {σ σ0 : Mm} {r0 : Int32} (hf : f8_fillsOne N x1 σ = some (r0, σ0)) : Same (wr8_fillsOne) σ σ0 := by
  unfold f8_fillsOne at hf
  have hS : Same (wr8_fillsOne) σ σ := Same.rf
  rcases z_if hf with hf | hf
  · obtain ⟨r_1, σ_2, hc_3, hf⟩ := z_b_e hf
    have hS := hS.tr ((fr8_fillsPerson N hc_3).mono (wsub [0, 1, 2, 3, 4, 5, 6, 7, 8, 9, 10, 11, 12] rfl))
    obtain ⟨-, hf⟩ := z_c_e hf
    obtain ⟨-, rfl⟩ := Prod.mk.inj (Option.some.inj hf)
    exact hS
  rcases z_if hf with hf | hf
  · obtain ⟨r_4, σ_5, hc_6, hf⟩ := z_b_e hf
    have hS := hS.tr ((fr8_fillsPlot N hc_6).mono (wsub [0, 1, 2, 3, 4, 5, 6, 7, 8, 9, 10, 13, 14, 15, 16, 17, 18, 19, 20] rfl))
    obtain ⟨-, hf⟩ := z_c_e hf
    obtain ⟨-, rfl⟩ := Prod.mk.inj (Option.some.inj hf)
    exact hS
  rcases z_if hf with hf | hf
  · obtain ⟨r_7, σ_8, hc_9, hf⟩ := z_b_e hf
    have hS := hS.tr ((fr8_fillsWitness N hc_9).mono (wsub [0, 1, 2, 3, 4, 5, 6, 7, 8, 9, 10, 21, 22, 23, 24, 25, 26] rfl))
    obtain ⟨-, hf⟩ := z_c_e hf
    obtain ⟨-, rfl⟩ := Prod.mk.inj (Option.some.inj hf)
    exact hS
  rcases z_if hf with hf | hf
  · obtain ⟨r_10, σ_11, hc_12, hf⟩ := z_b_e hf
    have hS := hS.tr ((fr8_fillsGiving N hc_12).mono (wsub [8, 9, 10, 27, 28, 29, 30, 31, 32, 33, 34, 35, 36, 37, 38] rfl))
    obtain ⟨-, hf⟩ := z_c_e hf
    obtain ⟨-, rfl⟩ := Prod.mk.inj (Option.some.inj hf)
    exact hS
  rcases z_if hf with hf | hf
  · obtain ⟨-, rfl⟩ := Prod.mk.inj (Option.some.inj hf)
    exact hS
  rcases z_if hf with hf | hf
  · obtain ⟨-, rfl⟩ := Prod.mk.inj (Option.some.inj hf)
    exact hS
  rcases z_if hf with hf | hf
  · obtain ⟨-, rfl⟩ := Prod.mk.inj (Option.some.inj hf)
    exact hS
  rcases z_if hf with hf | hf
  · obtain ⟨-, rfl⟩ := Prod.mk.inj (Option.some.inj hf)
    exact hS
  rcases z_if hf with hf | hf
  · obtain ⟨t_13, ht_14, kht_14, hf⟩ := z_r_e hf
    obtain ⟨r_15, σ_16, hc_17, hf⟩ := z_b_e hf
    have hS := hS.tr ((fr8_takeNumber N hc_17).mono (wsub [9, 10, 8] rfl))
    obtain ⟨σ_18, eσ_18, hf⟩ := z_l_x hf
    have hS := hS.tr (υ := σ_18) ((kdo_3 kht_14).elim (fun e9 => by rw [eσ_18, e9]; exact Same_sI (i := 39) rfl) (fun e9 => by rw [eσ_18, e9]; exact Same_sI (i := 40) rfl))
    rcases z_if hf with hf | hf
    · obtain ⟨-, rfl⟩ := Prod.mk.inj (Option.some.inj hf)
      exact hS
    · obtain ⟨-, rfl⟩ := Prod.mk.inj (Option.some.inj hf)
      exact hS
  rcases z_if hf with hf | hf
  · obtain ⟨t_19, ht_20, kht_20, hf⟩ := z_r_e hf
    obtain ⟨r_21, σ_22, hc_23, hf⟩ := z_b_e hf
    have hS := hS.tr ((fr8_takeNumber N hc_23).mono (wsub [9, 10, 8] rfl))
    obtain ⟨σ_24, eσ_24, hf⟩ := z_l_x hf
    have hS := hS.tr (υ := σ_24) ((kdo_3 kht_20).elim (fun e9 => by rw [eσ_24, e9]; exact Same_sI (i := 41) rfl) (fun e9 => by rw [eσ_24, e9]; exact Same_sI (i := 42) rfl))
    rcases z_if hf with hf | hf
    · obtain ⟨-, rfl⟩ := Prod.mk.inj (Option.some.inj hf)
      exact hS
    · obtain ⟨-, rfl⟩ := Prod.mk.inj (Option.some.inj hf)
      exact hS
  obtain ⟨-, rfl⟩ := Prod.mk.inj (Option.some.inj hf)
  exact hS
def wr8_passSemicolon : Wr := [(49, 1, some 2)]
set_option maxHeartbeats 4000000 in
theorem fr8_passSemicolon_50 (N : Nat) {σ0 : Mm} {u0 : Unit} : ∀ (σ : Mm), f8_passSemicolon_50 N σ = some (u0, σ0) → Same (wr8_passSemicolon) σ σ0 := by
  intro σ hf
  unfold f8_passSemicolon_50 at hf
  have hS : Same (wr8_passSemicolon) σ σ := Same.rf
  obtain ⟨σ_1, eσ_1, hf⟩ := z_l_x hf
  have hS := hS.tr (υ := σ_1) (by rw [eσ_1]; exact Same_sI (i := 0) rfl)
  obtain ⟨-, rfl⟩ := Prod.mk.inj (Option.some.inj hf)
  exact hS
set_option maxHeartbeats 4000000 in
theorem fr8_passSemicolon_2 (N : Nat) {σ0 : Mm} {u0 : Unit} : ∀ (fu : Nat) (x1 : Int32) (σ : Mm), f8_passSemicolon_2 N fu x1 σ = some (u0, σ0) → Same (wr8_passSemicolon) σ σ0 := by
  intro fu
  induction fu with
  | zero =>
    intro x1 σ hf
    rw [f8_passSemicolon_2] at hf
    cases hf
  | succ fu ih =>
    intro x1 σ hf
    rw [f8_passSemicolon_2] at hf
    have hS : Same (wr8_passSemicolon) σ σ := Same.rf
    rcases z_if hf with hf | hf
    · exact hS.tr (fr8_passSemicolon_50 N   σ hf)
    · rcases z_if hf with hf | hf
      · exact hS.tr (fr8_passSemicolon_50 N   σ hf)
      · obtain ⟨r_2, σ_3, hc_4, hf⟩ := z_b_e hf
        have hS := hS.tr (Same.nil (fr9_kindAt N hc_4))
        rcases z_if hf with hf | hf
        · exact hS.tr (fr8_passSemicolon_50 N   σ_3 hf)
        · obtain ⟨σ_5, eσ_5, hf⟩ := z_l_x hf
          have hS := hS.tr (υ := σ_5) (by rw [eσ_5]; exact Same_sI (i := 0) rfl)
          obtain ⟨x1_6, ex1_6, hf⟩ := z_l_x hf
          exact hS.tr (ih x1_6 σ_5 hf)
set_option maxHeartbeats 4000000 in
theorem fr8_passSemicolon (N : Nat) {σ σ0 : Mm} {u0 : Unit} (hf : f8_passSemicolon N σ = some (u0, σ0)) : Same (wr8_passSemicolon) σ σ0 := by
  unfold f8_passSemicolon at hf
  have hS : Same (wr8_passSemicolon) σ σ := Same.rf
  exact hS.tr (fr8_passSemicolon_2 N  N (0 : Int32) σ hf)
def wr8_fills (o1 : Nat) : Wr := [(49, 1, some 1), (49, 1, some 2), (24, 1, none), (25, 1, none), (26, 1, none), (7, 1, some 16), (44, 1, none), (45, 1, none), (46, 1, none), (27, 1, some 16), (2, 1, some 4), (2, 1, some 5), (7, 1, some 0), (27, 1, some 0), (8, 1, none), (28, 1, none), (9, 1, none), (29, 1, none), (10, 1, none), (30, 1, none), (7, 1, some 1), (27, 1, some 1), (11, 1, none), (31, 1, none), (12, 1, none), (32, 1, none), (7, 1, some 2), (27, 1, some 2), (14, 1, none), (15, 1, none), (16, 1, none), (17, 1, none), (18, 1, none), (34, 1, none), (35, 1, none), (36, 1, none), (37, 1, none), (38, 1, none), (7, 1, some 3), (27, 1, some 3), (7, 1, some 4), (27, 1, some 4), (7, 1, some 5), (27, 1, some 5)]
set_option maxHeartbeats 4000000 in
theorem fr8_fills_12 (N : Nat) {o1 : Nat} {σ0 : Mm} {r0 : Int32} : ∀ (fu : Nat) (x2 : Int32) (σ : Mm), f8_fills_12 N o1 fu x2 σ = some (r0, σ0) → Same (wr8_fills o1) σ σ0 := by
  intro fu
  induction fu with
  | zero =>
    intro x2 σ hf
    rw [f8_fills_12] at hf
    cases hf
  | succ fu ih =>
    intro x2 σ hf
    rw [f8_fills_12] at hf
    have hS : Same (wr8_fills o1) σ σ := Same.rf
    rcases z_if hf with hf | hf
    · obtain ⟨-, rfl⟩ := Prod.mk.inj (Option.some.inj hf)
      exact hS
    · rcases z_if hf with hf | hf
      · obtain ⟨-, rfl⟩ := Prod.mk.inj (Option.some.inj hf)
        exact hS
      · obtain ⟨r_3, σ_4, hc_5, hf⟩ := z_b_e hf
        have hS := hS.tr (Same.nil (fr9_kindAt N hc_5))
        rcases z_if hf with hf | hf
        · obtain ⟨-, rfl⟩ := Prod.mk.inj (Option.some.inj hf)
          exact hS
        · obtain ⟨r_6, σ_7, hc_8, hf⟩ := z_b_e hf
          have hS := hS.tr (Same.nil (fr9_kindAt N hc_8))
          obtain ⟨σ_9, eσ_9, hf⟩ := z_l_x hf
          have hS := hS.tr (υ := σ_9) (by rw [eσ_9]; exact Same_sI (i := 1) rfl)
          obtain ⟨r_10, σ_11, hc_12, hf⟩ := z_b_e hf
          have hS := hS.tr ((fr8_fillsOne N hc_12).mono (wsub [2, 3, 4, 5, 6, 7, 8, 9, 1, 10, 11, 12, 13, 14, 15, 16, 17, 18, 19, 20, 21, 22, 23, 24, 25, 26, 27, 28, 29, 30, 31, 32, 33, 34, 35, 36, 37, 38, 39, 40, 41, 42, 43] rfl))
          rcases z_if hf with hf | hf
          · obtain ⟨-, rfl⟩ := Prod.mk.inj (Option.some.inj hf)
            exact hS
          · obtain ⟨r_13, σ_14, hc_15, hf⟩ := z_b_e hf
            have hS := hS.tr ((fr8_passSemicolon N hc_15).mono (wsub [1] rfl))
            obtain ⟨x2_16, ex2_16, hf⟩ := z_l_x hf
            exact hS.tr (ih x2_16 σ_14 hf)
set_option maxHeartbeats 4000000 in
theorem fr8_fills (N : Nat) {o1 : Nat} {σ σ0 : Mm} {r0 : Int32} (hf : f8_fills N o1 σ = some (r0, σ0)) : Same (wr8_fills o1) σ σ0 := by
  unfold f8_fills at hf
  have hS : Same (wr8_fills o1) σ σ := Same.rf
  obtain ⟨σ_1, eσ_1, hf⟩ := z_l_x hf
  have hS := hS.tr (υ := σ_1) (by rw [eσ_1]; exact Same_sR (i := 0) rfl)
  obtain ⟨σ_2, eσ_2, hf⟩ := z_l_x hf
  have hS := hS.tr (υ := σ_2) (by rw [eσ_2]; exact Same_sI (i := 1) rfl)
  exact hS.tr (fr8_fills_12 N  N (0 : Int32) σ_2 hf)
def wr9_withLetter : Wr := []
set_option maxHeartbeats 4000000 in
theorem fr9_withLetter (N : Nat) {x0 : Int64} {x2 : Int32} {σ σ0 : Mm} {l0 : Int64} (hf : f9_withLetter N x0 x2 σ = some (l0, σ0)) : Same (wr9_withLetter) σ σ0 := by
  unfold f9_withLetter at hf
  have hS : Same (wr9_withLetter) σ σ := Same.rf
  obtain ⟨-, rfl⟩ := Prod.mk.inj (Option.some.inj hf)
  exact hS
def wr9_isBlank : Wr := []
set_option maxHeartbeats 4000000 in
theorem fr9_isBlank (N : Nat) {x0 : Int32} {σ σ0 : Mm} {r0 : Int32} (hf : f9_isBlank N x0 σ = some (r0, σ0)) : Same (wr9_isBlank) σ σ0 := by
  unfold f9_isBlank at hf
  have hS : Same (wr9_isBlank) σ σ := Same.rf
  rcases z_if hf with hf | hf
  · obtain ⟨-, rfl⟩ := Prod.mk.inj (Option.some.inj hf)
    exact hS
  · rcases z_if hf with hf | hf
    · obtain ⟨-, rfl⟩ := Prod.mk.inj (Option.some.inj hf)
      exact hS
    · rcases z_if hf with hf | hf
      · obtain ⟨-, rfl⟩ := Prod.mk.inj (Option.some.inj hf)
        exact hS
      · rcases z_if hf with hf | hf
        · obtain ⟨-, rfl⟩ := Prod.mk.inj (Option.some.inj hf)
          exact hS
        · obtain ⟨-, rfl⟩ := Prod.mk.inj (Option.some.inj hf)
          exact hS
def wr9_behindBlanks (o0 : Nat) : Wr := []
set_option maxHeartbeats 4000000 in
theorem fr9_behindBlanks_2 (N : Nat) {o0 : Nat} {x2 : Int32} {σ0 : Mm} {r0 : Int32} : ∀ (fu : Nat) (x3 : Int32) (σ : Mm), f9_behindBlanks_2 N o0 x2 fu x3 σ = some (r0, σ0) → Same (wr9_behindBlanks o0) σ σ0 := by
  intro fu
  induction fu with
  | zero =>
    intro x3 σ hf
    rw [f9_behindBlanks_2] at hf
    cases hf
  | succ fu ih =>
    intro x3 σ hf
    rw [f9_behindBlanks_2] at hf
    have hS : Same (wr9_behindBlanks o0) σ σ := Same.rf
    rcases z_if hf with hf | hf
    · obtain ⟨-, rfl⟩ := Prod.mk.inj (Option.some.inj hf)
      exact hS
    · rcases z_if hf with hf | hf
      · obtain ⟨-, rfl⟩ := Prod.mk.inj (Option.some.inj hf)
        exact hS
      · obtain ⟨hi_1, hf⟩ := z_c_e hf
        obtain ⟨r_2, σ_3, hc_4, hf⟩ := z_b_e hf
        have hS := hS.tr (Same.nil (fr9_isBlank N hc_4))
        rcases z_if hf with hf | hf
        · obtain ⟨-, rfl⟩ := Prod.mk.inj (Option.some.inj hf)
          exact hS
        · obtain ⟨x3_5, ex3_5, hf⟩ := z_l_x hf
          exact hS.tr (ih x3_5 σ_3 hf)
set_option maxHeartbeats 4000000 in
theorem fr9_behindBlanks (N : Nat) {o0 : Nat} {x1 : Int32} {x2 : Int32} {σ σ0 : Mm} {r0 : Int32} (hf : f9_behindBlanks N o0 x1 x2 σ = some (r0, σ0)) : Same (wr9_behindBlanks o0) σ σ0 := by
  unfold f9_behindBlanks at hf
  have hS : Same (wr9_behindBlanks o0) σ σ := Same.rf
  exact hS.tr (fr9_behindBlanks_2 N  N x1 σ hf)
def wr9_isLetter : Wr := []
set_option maxHeartbeats 4000000 in
theorem fr9_isLetter (N : Nat) {x0 : Int32} {σ σ0 : Mm} {r0 : Int32} (hf : f9_isLetter N x0 σ = some (r0, σ0)) : Same (wr9_isLetter) σ σ0 := by
  unfold f9_isLetter at hf
  have hS : Same (wr9_isLetter) σ σ := Same.rf
  rcases z_if hf with hf | hf
  · obtain ⟨-, rfl⟩ := Prod.mk.inj (Option.some.inj hf)
    exact hS
  · rcases z_if hf with hf | hf
    · obtain ⟨-, rfl⟩ := Prod.mk.inj (Option.some.inj hf)
      exact hS
    · obtain ⟨-, rfl⟩ := Prod.mk.inj (Option.some.inj hf)
      exact hS
def wr9_kindOfWord : Wr := []
set_option maxHeartbeats 4000000 in
theorem fr9_kindOfWord_2 (N : Nat) {x1 : Int64} {σ0 : Mm} {r0 : Int32} : ∀ (fu : Nat) (x3 : Int32) (σ : Mm), f9_kindOfWord_2 N x1 fu x3 σ = some (r0, σ0) → Same (wr9_kindOfWord) σ σ0 := by
  intro fu
  induction fu with
  | zero =>
    intro x3 σ hf
    rw [f9_kindOfWord_2] at hf
    cases hf
  | succ fu ih =>
    intro x3 σ hf
    rw [f9_kindOfWord_2] at hf
    have hS : Same (wr9_kindOfWord) σ σ := Same.rf
    rcases z_if hf with hf | hf
    · obtain ⟨-, rfl⟩ := Prod.mk.inj (Option.some.inj hf)
      exact hS
    · obtain ⟨hi_1, hf⟩ := z_c_e hf
      rcases z_if hf with hf | hf
      · obtain ⟨-, rfl⟩ := Prod.mk.inj (Option.some.inj hf)
        exact hS
      · obtain ⟨x3_2, ex3_2, hf⟩ := z_l_x hf
        exact hS.tr (ih x3_2 σ hf)
set_option maxHeartbeats 4000000 in
theorem fr9_kindOfWord (N : Nat) {x1 : Int64} {σ σ0 : Mm} {r0 : Int32} (hf : f9_kindOfWord N x1 σ = some (r0, σ0)) : Same (wr9_kindOfWord) σ σ0 := by
  unfold f9_kindOfWord at hf
  have hS : Same (wr9_kindOfWord) σ σ := Same.rf
  exact hS.tr (fr9_kindOfWord_2 N  N (0 : Int32) σ hf)
def wr9_scanLetters (o1 : Nat) : Wr := [(5, 1, none), (3, 1, none)]
set_option maxHeartbeats 4000000 in
theorem fr9_scanLetters_80 (N : Nat) {o1 : Nat} {σ0 : Mm} {r0 : Int32} : ∀ (x5 : Int32) (s1 : Int32) (s2 : Int32) (σ : Mm), f9_scanLetters_80 N o1 x5 s1 s2 σ = some (r0, σ0) → Same (wr9_scanLetters o1) σ σ0 := by
  intro x5 s1 s2 σ hf
  unfold f9_scanLetters_80 at hf
  have hS : Same (wr9_scanLetters o1) σ σ := Same.rf
  obtain ⟨-, hf⟩ := z_c_e hf
  obtain ⟨σ_5, eσ_5, hf⟩ := z_l_x hf
  have hS := hS.tr (υ := σ_5) (by rw [eσ_5]; exact Same_sIe (i := 1) rfl)
  obtain ⟨-, rfl⟩ := Prod.mk.inj (Option.some.inj hf)
  exact hS
set_option maxHeartbeats 4000000 in
theorem fr9_scanLetters_46 (N : Nat) {o1 : Nat} {σ0 : Mm} {r0 : Int32} : ∀ (x2 : Int32) (x4 : Int32) (x5 : Int32) (x6 : Int64) (σ : Mm), f9_scanLetters_46 N o1 x2 x4 x5 x6 σ = some (r0, σ0) → Same (wr9_scanLetters o1) σ σ0 := by
  intro x2 x4 x5 x6 σ hf
  unfold f9_scanLetters_46 at hf
  have hS : Same (wr9_scanLetters o1) σ σ := Same.rf
  obtain ⟨-, hf⟩ := z_c_e hf
  obtain ⟨σ_1, eσ_1, hf⟩ := z_l_x hf
  have hS := hS.tr (υ := σ_1) (by rw [eσ_1]; exact Same_sLr (i := 0) rfl)
  rcases z_if hf with hf | hf
  · obtain ⟨r_2, σ_3, hc_4, hf⟩ := z_b_e hf
    have hS := hS.tr (Same.nil (fr9_kindOfWord N hc_4))
    exact hS.tr (fr9_scanLetters_80 N  x5 x4 r_2 σ_3 hf)
  · exact hS.tr (fr9_scanLetters_80 N  x5 x4 (1 : Int32) σ_1 hf)
set_option maxHeartbeats 4000000 in
theorem fr9_scanLetters_6 (N : Nat) {o1 : Nat} {x2 : Int32} {x3 : Int32} {x4 : Int32} {σ0 : Mm} {r0 : Int32} : ∀ (fu : Nat) (x5 : Int32) (x6 : Int64) (σ : Mm), f9_scanLetters_6 N o1 x2 x3 x4 fu x5 x6 σ = some (r0, σ0) → Same (wr9_scanLetters o1) σ σ0 := by
  intro fu
  induction fu with
  | zero =>
    intro x5 x6 σ hf
    rw [f9_scanLetters_6] at hf
    cases hf
  | succ fu ih =>
    intro x5 x6 σ hf
    rw [f9_scanLetters_6] at hf
    have hS : Same (wr9_scanLetters o1) σ σ := Same.rf
    rcases z_if hf with hf | hf
    · exact hS.tr (fr9_scanLetters_46 N  x2 x4 x5 x6 σ hf)
    · rcases z_if hf with hf | hf
      · exact hS.tr (fr9_scanLetters_46 N  x2 x4 x5 x6 σ hf)
      · obtain ⟨hi_6, hf⟩ := z_c_e hf
        obtain ⟨r_7, σ_8, hc_9, hf⟩ := z_b_e hf
        have hS := hS.tr (Same.nil (fr9_isLetter N hc_9))
        rcases z_if hf with hf | hf
        · exact hS.tr (fr9_scanLetters_46 N  x2 x4 x5 x6 σ_8 hf)
        · obtain ⟨hi_10, hf⟩ := z_c_e hf
          obtain ⟨r_11, σ_12, hc_13, hf⟩ := z_b_e hf
          have hS := hS.tr (Same.nil (fr9_withLetter N hc_13))
          obtain ⟨x5_14, ex5_14, hf⟩ := z_l_x hf
          exact hS.tr (ih x5_14 r_11 σ_12 hf)
set_option maxHeartbeats 4000000 in
theorem fr9_scanLetters (N : Nat) {o1 : Nat} {x2 : Int32} {x3 : Int32} {x4 : Int32} {σ σ0 : Mm} {r0 : Int32} (hf : f9_scanLetters N o1 x2 x3 x4 σ = some (r0, σ0)) : Same (wr9_scanLetters o1) σ σ0 := by
  unfold f9_scanLetters at hf
  have hS : Same (wr9_scanLetters o1) σ σ := Same.rf
  exact hS.tr (fr9_scanLetters_6 N  N x2 (0 : Int64) σ hf)
def wr9_isDigit : Wr := []
set_option maxHeartbeats 4000000 in
theorem fr9_isDigit (N : Nat) {x0 : Int32} {σ σ0 : Mm} {r0 : Int32} (hf : f9_isDigit N x0 σ = some (r0, σ0)) : Same (wr9_isDigit) σ σ0 := by
  unfold f9_isDigit at hf
  have hS : Same (wr9_isDigit) σ σ := Same.rf
  rcases z_if hf with hf | hf
  · obtain ⟨-, rfl⟩ := Prod.mk.inj (Option.some.inj hf)
    exact hS
  · rcases z_if hf with hf | hf
    · obtain ⟨-, rfl⟩ := Prod.mk.inj (Option.some.inj hf)
      exact hS
    · obtain ⟨-, rfl⟩ := Prod.mk.inj (Option.some.inj hf)
      exact hS
def wr9_scanDigits (o1 : Nat) : Wr := [(5, 1, none), (3, 1, none)]
set_option maxHeartbeats 4000000 in
theorem fr9_scanDigits_80 (N : Nat) {o1 : Nat} {σ0 : Mm} {r0 : Int32} : ∀ (x5 : Int32) (s1 : Int32) (s2 : Int32) (σ : Mm), f9_scanDigits_80 N o1 x5 s1 s2 σ = some (r0, σ0) → Same (wr9_scanDigits o1) σ σ0 := by
  intro x5 s1 s2 σ hf
  unfold f9_scanDigits_80 at hf
  have hS : Same (wr9_scanDigits o1) σ σ := Same.rf
  obtain ⟨-, hf⟩ := z_c_e hf
  obtain ⟨σ_2, eσ_2, hf⟩ := z_l_x hf
  have hS := hS.tr (υ := σ_2) (by rw [eσ_2]; exact Same_sIe (i := 1) rfl)
  obtain ⟨-, rfl⟩ := Prod.mk.inj (Option.some.inj hf)
  exact hS
set_option maxHeartbeats 4000000 in
theorem fr9_scanDigits_52 (N : Nat) {o1 : Nat} {σ0 : Mm} {r0 : Int32} : ∀ (x2 : Int32) (x4 : Int32) (x5 : Int32) (x6 : Int64) (σ : Mm), f9_scanDigits_52 N o1 x2 x4 x5 x6 σ = some (r0, σ0) → Same (wr9_scanDigits o1) σ σ0 := by
  intro x2 x4 x5 x6 σ hf
  unfold f9_scanDigits_52 at hf
  have hS : Same (wr9_scanDigits o1) σ σ := Same.rf
  obtain ⟨-, hf⟩ := z_c_e hf
  obtain ⟨σ_1, eσ_1, hf⟩ := z_l_x hf
  have hS := hS.tr (υ := σ_1) (by rw [eσ_1]; exact Same_sLr (i := 0) rfl)
  rcases z_if hf with hf | hf
  · exact hS.tr (fr9_scanDigits_80 N  x5 x4 (3 : Int32) σ_1 hf)
  · exact hS.tr (fr9_scanDigits_80 N  x5 x4 (1 : Int32) σ_1 hf)
set_option maxHeartbeats 4000000 in
theorem fr9_scanDigits_6 (N : Nat) {o1 : Nat} {x2 : Int32} {x3 : Int32} {x4 : Int32} {σ0 : Mm} {r0 : Int32} : ∀ (fu : Nat) (x5 : Int32) (x6 : Int64) (σ : Mm), f9_scanDigits_6 N o1 x2 x3 x4 fu x5 x6 σ = some (r0, σ0) → Same (wr9_scanDigits o1) σ σ0 := by
  intro fu
  induction fu with
  | zero =>
    intro x5 x6 σ hf
    rw [f9_scanDigits_6] at hf
    cases hf
  | succ fu ih =>
    intro x5 x6 σ hf
    rw [f9_scanDigits_6] at hf
    have hS : Same (wr9_scanDigits o1) σ σ := Same.rf
    rcases z_if hf with hf | hf
    · exact hS.tr (fr9_scanDigits_52 N  x2 x4 x5 x6 σ hf)
    · rcases z_if hf with hf | hf
      · exact hS.tr (fr9_scanDigits_52 N  x2 x4 x5 x6 σ hf)
      · obtain ⟨hi_3, hf⟩ := z_c_e hf
        obtain ⟨r_4, σ_5, hc_6, hf⟩ := z_b_e hf
        have hS := hS.tr (Same.nil (fr9_isDigit N hc_6))
        rcases z_if hf with hf | hf
        · exact hS.tr (fr9_scanDigits_52 N  x2 x4 x5 x6 σ_5 hf)
        · obtain ⟨hi_7, hf⟩ := z_c_e hf
          obtain ⟨x6_8, ex6_8, hf⟩ := z_l_x hf
          obtain ⟨x5_9, ex5_9, hf⟩ := z_l_x hf
          exact hS.tr (ih x5_9 x6_8 σ_5 hf)
set_option maxHeartbeats 4000000 in
theorem fr9_scanDigits (N : Nat) {o1 : Nat} {x2 : Int32} {x3 : Int32} {x4 : Int32} {σ σ0 : Mm} {r0 : Int32} (hf : f9_scanDigits N o1 x2 x3 x4 σ = some (r0, σ0)) : Same (wr9_scanDigits o1) σ σ0 := by
  unfold f9_scanDigits at hf
  have hS : Same (wr9_scanDigits o1) σ σ := Same.rf
  exact hS.tr (fr9_scanDigits_6 N  N x2 (0 : Int64) σ hf)
def wr9_scanOne (o1 : Nat) : Wr := [(5, 1, none), (3, 1, none)]
set_option maxHeartbeats 4000000 in
theorem fr9_scanOne_19 (N : Nat) {o1 : Nat} {σ0 : Mm} {r0 : Int32} : ∀ (x2 : Int32) (x4 : Int32) (σ : Mm), f9_scanOne_19 N o1 x2 x4 σ = some (r0, σ0) → Same (wr9_scanOne o1) σ σ0 := by
  intro x2 x4 σ hf
  unfold f9_scanOne_19 at hf
  have hS : Same (wr9_scanOne o1) σ σ := Same.rf
  obtain ⟨-, hf⟩ := z_c_e hf
  obtain ⟨σ_2, eσ_2, hf⟩ := z_l_x hf
  have hS := hS.tr (υ := σ_2) (by rw [eσ_2]; exact Same_sIe (i := 1) rfl)
  obtain ⟨-, rfl⟩ := Prod.mk.inj (Option.some.inj hf)
  exact hS
set_option maxHeartbeats 4000000 in
theorem fr9_scanOne_103 (N : Nat) {o1 : Nat} {σ0 : Mm} {r0 : Int32} : ∀ (x2 : Int32) (s1 : Int32) (s2 : Int32) (σ : Mm), f9_scanOne_103 N o1 x2 s1 s2 σ = some (r0, σ0) → Same (wr9_scanOne o1) σ σ0 := by
  intro x2 s1 s2 σ hf
  unfold f9_scanOne_103 at hf
  have hS : Same (wr9_scanOne o1) σ σ := Same.rf
  obtain ⟨-, hf⟩ := z_c_e hf
  obtain ⟨σ_12, eσ_12, hf⟩ := z_l_x hf
  have hS := hS.tr (υ := σ_12) (by rw [eσ_12]; exact Same_sIe (i := 1) rfl)
  obtain ⟨-, rfl⟩ := Prod.mk.inj (Option.some.inj hf)
  exact hS
set_option maxHeartbeats 4000000 in
theorem fr9_scanOne (N : Nat) {o1 : Nat} {x2 : Int32} {x3 : Int32} {x4 : Int32} {σ σ0 : Mm} {r0 : Int32} (hf : f9_scanOne N o1 x2 x3 x4 σ = some (r0, σ0)) : Same (wr9_scanOne o1) σ σ0 := by
  unfold f9_scanOne at hf
  have hS : Same (wr9_scanOne o1) σ σ := Same.rf
  obtain ⟨-, hf⟩ := z_c_e hf
  obtain ⟨σ_1, eσ_1, hf⟩ := z_l_x hf
  have hS := hS.tr (υ := σ_1) (by rw [eσ_1]; exact Same_sLr (i := 0) rfl)
  rcases z_if hf with hf | hf
  · exact hS.tr (fr9_scanOne_19 N  x2 x4 σ_1 hf)
  · rcases z_if hf with hf | hf
    · obtain ⟨hi_3, hf⟩ := z_c_e hf
      obtain ⟨x5_4, ex5_4, hf⟩ := z_l_x hf
      obtain ⟨r_5, σ_6, hc_7, hf⟩ := z_b_e hf
      have hS := hS.tr (Same.nil (fr9_isLetter N hc_7))
      rcases z_if hf with hf | hf
      · obtain ⟨r_8, σ_9, hc_10, hf⟩ := z_b_e hf
        have hS := hS.tr (Same.nil (fr9_isDigit N hc_10))
        rcases z_if hf with hf | hf
        · obtain ⟨x6_11, ex6_11, hf⟩ := z_l_x hf
          rcases z_if hf with hf | hf
          · exact hS.tr (fr9_scanOne_103 N  x2 x4 ((4 : Int32) + x6_11) σ_9 hf)
          · exact hS.tr (fr9_scanOne_103 N  x2 x4 (1 : Int32) σ_9 hf)
        · obtain ⟨r_13, σ_14, hc_15, hf⟩ := z_b_e hf
          have hS := hS.tr ((fr9_scanDigits N hc_15).mono (wsub [0, 1] rfl))
          obtain ⟨-, rfl⟩ := Prod.mk.inj (Option.some.inj hf)
          exact hS
      · obtain ⟨r_16, σ_17, hc_18, hf⟩ := z_b_e hf
        have hS := hS.tr ((fr9_scanLetters N hc_18).mono (wsub [0, 1] rfl))
        obtain ⟨-, rfl⟩ := Prod.mk.inj (Option.some.inj hf)
        exact hS
    · exact hS.tr (fr9_scanOne_19 N  x2 x4 σ_1 hf)
def wr9_scan (o1 : Nat) : Wr := [(2, 1, some 4), (2, 1, some 5), (4, 1, none), (5, 1, none), (3, 1, none)]
set_option maxHeartbeats 4000000 in
theorem fr9_scan_15 (N : Nat) {o1 : Nat} {x2 : Int32} {σ0 : Mm} {u0 : Unit} : ∀ (fu : Nat) (x3 : Int32) (x4 : Int32) (σ : Mm), f9_scan_15 N o1 x2 fu x3 x4 σ = some (u0, σ0) → Same (wr9_scan o1) σ σ0 := by
  intro fu
  induction fu with
  | zero =>
    intro x3 x4 σ hf
    rw [f9_scan_15] at hf
    cases hf
  | succ fu ih =>
    intro x3 x4 σ hf
    rw [f9_scan_15] at hf
    have hS : Same (wr9_scan o1) σ σ := Same.rf
    rcases z_if hf with hf | hf
    · obtain ⟨-, rfl⟩ := Prod.mk.inj (Option.some.inj hf)
      exact hS
    · obtain ⟨r_3, σ_4, hc_5, hf⟩ := z_b_e hf
      have hS := hS.tr (Same.nil (fr9_behindBlanks N hc_5))
      obtain ⟨-, hf⟩ := z_c_e hf
      obtain ⟨σ_6, eσ_6, hf⟩ := z_l_x hf
      have hS := hS.tr (υ := σ_6) (by rw [eσ_6]; exact Same_sIe (i := 2) rfl)
      obtain ⟨r_7, σ_8, hc_9, hf⟩ := z_b_e hf
      have hS := hS.tr ((fr9_scanOne N hc_9).mono (wsub [3, 4] rfl))
      obtain ⟨hi_10, hf⟩ := z_c_e hf
      rcases z_if hf with hf | hf
      · obtain ⟨-, rfl⟩ := Prod.mk.inj (Option.some.inj hf)
        exact hS
      · obtain ⟨hi_11, hf⟩ := z_c_e hf
        rcases z_if hf with hf | hf
        · obtain ⟨-, rfl⟩ := Prod.mk.inj (Option.some.inj hf)
          exact hS
        · obtain ⟨x4_12, ex4_12, hf⟩ := z_l_x hf
          exact hS.tr (ih r_7 x4_12 σ_8 hf)
set_option maxHeartbeats 4000000 in
theorem fr9_scan (N : Nat) {o1 : Nat} {x2 : Int32} {σ σ0 : Mm} {u0 : Unit} (hf : f9_scan N o1 x2 σ = some (u0, σ0)) : Same (wr9_scan o1) σ σ0 := by
  unfold f9_scan at hf
  have hS : Same (wr9_scan o1) σ σ := Same.rf
  obtain ⟨σ_1, eσ_1, hf⟩ := z_l_x hf
  have hS := hS.tr (υ := σ_1) (by rw [eσ_1]; exact Same_sI (i := 0) rfl)
  obtain ⟨σ_2, eσ_2, hf⟩ := z_l_x hf
  have hS := hS.tr (υ := σ_2) (by rw [eσ_2]; exact Same_sI (i := 1) rfl)
  exact hS.tr (fr9_scan_15 N  N (0 : Int32) (0 : Int32) σ_2 hf)
def wr10_tapeFour : Wr := [(1, 1, none), (0, 1, some 1)]
set_option maxHeartbeats 4000000 in
theorem fr10_tapeFour_3 (N : Nat) {x1 : Int32} {σ0 : Mm} {u0 : Unit} : ∀ (fu : Nat) (x2 : Int32) (σ : Mm), f10_tapeFour_3 N x1 fu x2 σ = some (u0, σ0) → Same (wr10_tapeFour) σ σ0 := by
  intro fu
  induction fu with
  | zero =>
    intro x2 σ hf
    rw [f10_tapeFour_3] at hf
    cases hf
  | succ fu ih =>
    intro x2 σ hf
    rw [f10_tapeFour_3] at hf
    have hS : Same (wr10_tapeFour) σ σ := Same.rf
    rcases z_if hf with hf | hf
    · obtain ⟨-, rfl⟩ := Prod.mk.inj (Option.some.inj hf)
      exact hS
    · rcases z_if hf with hf | hf
      · obtain ⟨-, rfl⟩ := Prod.mk.inj (Option.some.inj hf)
        exact hS
      · obtain ⟨-, hf⟩ := z_c_e hf
        obtain ⟨σ_1, eσ_1, hf⟩ := z_l_x hf
        have hS := hS.tr (υ := σ_1) (by rw [eσ_1]; exact Same_sIe (i := 0) rfl)
        obtain ⟨σ_2, eσ_2, hf⟩ := z_l_x hf
        have hS := hS.tr (υ := σ_2) (by rw [eσ_2]; exact Same_sI (i := 1) rfl)
        obtain ⟨x2_3, ex2_3, hf⟩ := z_l_x hf
        exact hS.tr (ih x2_3 σ_2 hf)
set_option maxHeartbeats 4000000 in
theorem fr10_tapeFour (N : Nat) {x1 : Int32} {σ σ0 : Mm} {u0 : Unit} (hf : f10_tapeFour N x1 σ = some (u0, σ0)) : Same (wr10_tapeFour) σ σ0 := by
  unfold f10_tapeFour at hf
  have hS : Same (wr10_tapeFour) σ σ := Same.rf
  exact hS.tr (fr10_tapeFour_3 N  N (24 : Int32) σ hf)
def wr10_feed : Wr := [(1, 1, none), (0, 1, some 1)]
set_option maxHeartbeats 4000000 in
theorem fr10_feed (N : Nat) {x1 : Int32} {x2 : Int32} {x3 : Int32} {x4 : Int32} {x5 : Int32} {σ σ0 : Mm} {r0 : Int32} (hf : f10_feed N x1 x2 x3 x4 x5 σ = some (r0, σ0)) : Same (wr10_feed) σ σ0 := by
  unfold f10_feed at hf
  have hS : Same (wr10_feed) σ σ := Same.rf
  rcases z_if hf with hf | hf
  · obtain ⟨r_1, σ_2, hc_3, hf⟩ := z_b_e hf
    have hS := hS.tr ((fr10_tapeFour N hc_3).mono (wsub [0, 1] rfl))
    obtain ⟨r_4, σ_5, hc_6, hf⟩ := z_b_e hf
    have hS := hS.tr ((fr10_tapeFour N hc_6).mono (wsub [0, 1] rfl))
    obtain ⟨r_7, σ_8, hc_9, hf⟩ := z_b_e hf
    have hS := hS.tr ((fr10_tapeFour N hc_9).mono (wsub [0, 1] rfl))
    obtain ⟨r_10, σ_11, hc_12, hf⟩ := z_b_e hf
    have hS := hS.tr ((fr10_tapeFour N hc_12).mono (wsub [0, 1] rfl))
    obtain ⟨r_13, σ_14, hc_15, hf⟩ := z_b_e hf
    have hS := hS.tr ((fr10_tapeFour N hc_15).mono (wsub [0, 1] rfl))
    obtain ⟨-, rfl⟩ := Prod.mk.inj (Option.some.inj hf)
    exact hS
  · obtain ⟨-, rfl⟩ := Prod.mk.inj (Option.some.inj hf)
    exact hS
def wr10_back : Wr := [(0, 1, some 1)]
set_option maxHeartbeats 4000000 in
theorem fr10_back (N : Nat) {x1 : Int32} {σ σ0 : Mm} {r0 : Int32} (hf : f10_back N x1 σ = some (r0, σ0)) : Same (wr10_back) σ σ0 := by
  unfold f10_back at hf
  have hS : Same (wr10_back) σ σ := Same.rf
  rcases z_if hf with hf | hf
  · obtain ⟨-, rfl⟩ := Prod.mk.inj (Option.some.inj hf)
    exact hS
  · rcases z_if hf with hf | hf
    · obtain ⟨σ_1, eσ_1, hf⟩ := z_l_x hf
      have hS := hS.tr (υ := σ_1) (by rw [eσ_1]; exact Same_sI (i := 0) rfl)
      obtain ⟨-, rfl⟩ := Prod.mk.inj (Option.some.inj hf)
      exact hS
    · obtain ⟨-, rfl⟩ := Prod.mk.inj (Option.some.inj hf)
      exact hS
def wr10_beginWithSpareLand : Wr := [(0, 1, some 4), (0, 1, some 3), (60, 1, some 1), (51, 1, none), (52, 1, none), (53, 1, none), (54, 1, none), (55, 1, none), (56, 1, some 0), (56, 1, some 1), (56, 1, some 2), (56, 1, some 3), (57, 1, none), (70, 1, some 2), (70, 1, some 5), (0, 1, some 15)]
set_option maxHeartbeats 4000000 in
theorem fr10_beginWithSpareLand (N : Nat) {σ σ0 : Mm} {u0 : Unit} (hf : f10_beginWithSpareLand N σ = some (u0, σ0)) : Same (wr10_beginWithSpareLand) σ σ0 := by
  unfold f10_beginWithSpareLand at hf
  have hS : Same (wr10_beginWithSpareLand) σ σ := Same.rf
  obtain ⟨t_1, ht_2, kht_2, hf⟩ := z_r_e hf
  obtain ⟨t_3, ht_4, kht_4, hf⟩ := z_r_e hf
  obtain ⟨σ_5, eσ_5, hf⟩ := z_l_x hf
  have hS := hS.tr (υ := σ_5) (by rw [eσ_5]; exact Same_sR (i := 0) rfl)
  obtain ⟨σ_6, eσ_6, hf⟩ := z_l_x hf
  have hS := hS.tr (υ := σ_6) (by rw [eσ_6]; exact Same_sR (i := 1) rfl)
  obtain ⟨σ_7, eσ_7, hf⟩ := z_l_x hf
  have hS := hS.tr (υ := σ_7) (by rw [eσ_7]; exact Same_sR (i := 2) rfl)
  obtain ⟨r_8, σ_9, hc_10, hf⟩ := z_b_e hf
  have hS := hS.tr ((fr1_become N hc_10).mono ((kdo_3 kht_2).elim (fun e9 => by rw [e9]; exact wsub [3, 4, 5, 6, 7] rfl) (fun e9 => by rw [e9]; exact wsub [3, 4, 5, 6, 7] rfl)))
  obtain ⟨r_11, σ_12, hc_13, hf⟩ := z_b_e hf
  have hS := hS.tr ((fr5_begin N hc_13).mono ((kdo_3 kht_2).elim (fun e9 => by rw [e9]; exact wsub [8, 9, 10, 11, 12] rfl) (fun e9 => by rw [e9]; exact wsub [8, 9, 10, 11, 12] rfl)))
  obtain ⟨r_14, σ_15, hc_16, hf⟩ := z_b_e hf
  have hS := hS.tr ((fr6_forgetAll N hc_16).mono (wsub [13, 14] rfl))
  obtain ⟨σ_17, eσ_17, hf⟩ := z_l_x hf
  have hS := hS.tr (υ := σ_17) (by rw [eσ_17]; exact Same_sI (i := 15) rfl)
  obtain ⟨-, rfl⟩ := Prod.mk.inj (Option.some.inj hf)
  exact hS
def wr10_read : Wr := [(2, 1, some 4), (2, 1, some 5), (4, 1, none), (5, 1, none), (3, 1, none), (0, 1, some 1), (7, 1, some 0), (7, 1, some 1), (7, 1, some 2), (7, 1, some 3), (7, 1, some 4), (7, 1, some 5), (7, 1, some 16), (19, 1, some 2), (22, 1, none), (20, 1, none), (21, 1, none), (27, 1, some 0), (27, 1, some 1), (27, 1, some 2), (27, 1, some 3), (27, 1, some 4), (27, 1, some 5), (27, 1, some 16), (39, 1, some 2), (42, 1, none), (40, 1, none), (41, 1, none), (47, 1, some 1), (47, 1, some 2), (47, 1, some 3), (47, 1, some 4), (47, 1, some 5), (47, 1, some 6), (47, 1, some 8), (47, 1, some 9), (48, 1, none), (49, 1, some 1), (49, 1, some 2), (24, 1, none), (25, 1, none), (26, 1, none), (44, 1, none), (45, 1, none), (46, 1, none), (8, 1, none), (28, 1, none), (9, 1, none), (29, 1, none), (10, 1, none), (30, 1, none), (11, 1, none), (31, 1, none), (12, 1, none), (32, 1, none), (14, 1, none), (15, 1, none), (16, 1, none), (17, 1, none), (18, 1, none), (34, 1, none), (35, 1, none), (36, 1, none), (37, 1, none), (38, 1, none), (0, 1, some 4), (0, 1, some 3), (60, 1, some 1), (51, 1, none), (52, 1, none), (53, 1, none), (54, 1, none), (55, 1, none), (56, 1, some 0), (56, 1, some 1), (56, 1, some 2), (56, 1, some 3), (57, 1, none), (70, 1, some 2), (70, 1, some 5), (0, 1, some 15)]
set_option maxHeartbeats 4000000 in
theorem fr10_read (N : Nat) {σ σ0 : Mm} {r0 : Int32} (hf : f10_read N σ = some (r0, σ0)) : Same (wr10_read) σ σ0 := by
  unfold f10_read at hf
  have hS : Same (wr10_read) σ σ := Same.rf
  obtain ⟨r_1, σ_2, hc_3, hf⟩ := z_b_e hf
  have hS := hS.tr ((fr9_scan N hc_3).mono (wsub [0, 1, 2, 3, 4] rfl))
  obtain ⟨σ_4, eσ_4, hf⟩ := z_l_x hf
  have hS := hS.tr (υ := σ_4) (by rw [eσ_4]; exact Same_sI (i := 5) rfl)
  obtain ⟨t_5, ht_6, kht_6, hf⟩ := z_r_e hf
  obtain ⟨r_7, σ_8, hc_9, hf⟩ := z_b_e hf
  have hS := hS.tr ((fr3_clear N hc_9).mono ((kdo_3 kht_6).elim (fun e9 => by rw [e9]; exact wsub [6, 7, 8, 9, 10, 11, 12, 13, 14, 15, 16] rfl) (fun e9 => by rw [e9]; exact wsub [17, 18, 19, 20, 21, 22, 23, 24, 25, 26, 27] rfl)))
  obtain ⟨t_10, ht_11, kht_11, hf⟩ := z_r_e hf
  obtain ⟨r_12, σ_13, hc_14, hf⟩ := z_b_e hf
  have hS := hS.tr ((fr2_keeps N hc_14).mono ((kdo_3 kht_11).elim (fun e9 => by rw [e9]; exact wsub [28, 29, 30, 31, 32, 33, 0, 1, 14, 25, 34, 35, 36, 15, 16, 13, 26, 27, 24] rfl) (fun e9 => by rw [e9]; exact wsub [28, 29, 30, 31, 32, 33, 0, 1, 14, 25, 34, 35, 36, 15, 16, 13, 26, 27, 24] rfl)))
  rcases z_if hf with hf | hf
  · obtain ⟨-, rfl⟩ := Prod.mk.inj (Option.some.inj hf)
    exact hS
  · obtain ⟨t_15, ht_16, kht_16, hf⟩ := z_r_e hf
    obtain ⟨r_17, σ_18, hc_19, hf⟩ := z_b_e hf
    have hS := hS.tr ((fr8_fills N hc_19).mono ((kdo_3 kht_16).elim (fun e9 => by rw [e9]; exact wsub [37, 38, 39, 40, 41, 12, 42, 43, 44, 23, 0, 1, 6, 17, 45, 46, 47, 48, 49, 50, 7, 18, 51, 52, 53, 54, 8, 19, 55, 56, 57, 58, 59, 60, 61, 62, 63, 64, 9, 20, 10, 21, 11, 22] rfl) (fun e9 => by rw [e9]; exact wsub [37, 38, 39, 40, 41, 12, 42, 43, 44, 23, 0, 1, 6, 17, 45, 46, 47, 48, 49, 50, 7, 18, 51, 52, 53, 54, 8, 19, 55, 56, 57, 58, 59, 60, 61, 62, 63, 64, 9, 20, 10, 21, 11, 22] rfl)))
    rcases z_if hf with hf | hf
    · obtain ⟨-, rfl⟩ := Prod.mk.inj (Option.some.inj hf)
      exact hS
    · obtain ⟨r_20, σ_21, hc_22, hf⟩ := z_b_e hf
      have hS := hS.tr ((fr10_beginWithSpareLand N hc_22).mono (wsub [65, 66, 67, 68, 69, 70, 71, 72, 73, 74, 75, 76, 77, 78, 79, 80] rfl))
      obtain ⟨-, rfl⟩ := Prod.mk.inj (Option.some.inj hf)
      exact hS
def wr10_place : Wr := []
set_option maxHeartbeats 4000000 in
theorem fr10_place (N : Nat) {σ σ0 : Mm} {r0 : Int32} (hf : f10_place N σ = some (r0, σ0)) : Same (wr10_place) σ σ0 := by
  unfold f10_place at hf
  have hS : Same (wr10_place) σ σ := Same.rf
  obtain ⟨-, rfl⟩ := Prod.mk.inj (Option.some.inj hf)
  exact hS
def wr10_noPlot : Wr := []
set_option maxHeartbeats 4000000 in
theorem fr10_noPlot (N : Nat) {x1 : Int32} {σ σ0 : Mm} {r0 : Int32} (hf : f10_noPlot N x1 σ = some (r0, σ0)) : Same (wr10_noPlot) σ σ0 := by
  unfold f10_noPlot at hf
  have hS : Same (wr10_noPlot) σ σ := Same.rf
  rcases z_if hf with hf | hf
  · obtain ⟨-, rfl⟩ := Prod.mk.inj (Option.some.inj hf)
    exact hS
  · obtain ⟨t_1, ht_2, kht_2, hf⟩ := z_r_e hf
    rcases z_if hf with hf | hf
    · obtain ⟨-, rfl⟩ := Prod.mk.inj (Option.some.inj hf)
      exact hS
    · obtain ⟨-, rfl⟩ := Prod.mk.inj (Option.some.inj hf)
      exact hS
def wr10_plot : Wr := [(61, 1, some 0), (61, 1, some 1), (61, 1, some 2), (61, 1, some 3), (61, 1, some 4), (61, 1, some 5), (23, 1, none), (43, 1, none)]
set_option maxHeartbeats 4000000 in
theorem fr10_plot (N : Nat) {x1 : Int32} {x2 : Int32} {σ σ0 : Mm} {r0 : Int32} (hf : f10_plot N x1 x2 σ = some (r0, σ0)) : Same (wr10_plot) σ σ0 := by
  unfold f10_plot at hf
  have hS : Same (wr10_plot) σ σ := Same.rf
  obtain ⟨r_1, σ_2, hc_3, hf⟩ := z_b_e hf
  have hS := hS.tr (Same.nil (fr10_noPlot N hc_3))
  rcases z_if hf with hf | hf
  · rcases z_if hf with hf | hf
    · obtain ⟨t_4, ht_5, kht_5, hf⟩ := z_r_e hf
      obtain ⟨hi_6, hf⟩ := z_c_e hf
      obtain ⟨-, rfl⟩ := Prod.mk.inj (Option.some.inj hf)
      exact hS
    rcases z_if hf with hf | hf
    · obtain ⟨t_7, ht_8, kht_8, hf⟩ := z_r_e hf
      obtain ⟨hi_9, hf⟩ := z_c_e hf
      obtain ⟨-, rfl⟩ := Prod.mk.inj (Option.some.inj hf)
      exact hS
    rcases z_if hf with hf | hf
    · obtain ⟨t_10, ht_11, kht_11, hf⟩ := z_r_e hf
      obtain ⟨hi_12, hf⟩ := z_c_e hf
      obtain ⟨-, rfl⟩ := Prod.mk.inj (Option.some.inj hf)
      exact hS
    rcases z_if hf with hf | hf
    · obtain ⟨r_13, σ_14, hc_15, hf⟩ := z_b_e hf
      have hS := hS.tr ((fr0_owner N hc_15).mono (wsub [0, 1, 2, 3, 4, 5, 6, 7] rfl))
      obtain ⟨-, rfl⟩ := Prod.mk.inj (Option.some.inj hf)
      exact hS
    rcases z_if hf with hf | hf
    · obtain ⟨r_16, σ_17, hc_18, hf⟩ := z_b_e hf
      have hS := hS.tr ((fr0_counting N hc_18).mono (wsub [0, 1, 2, 3, 4, 5, 6, 7] rfl))
      obtain ⟨-, rfl⟩ := Prod.mk.inj (Option.some.inj hf)
      exact hS
    obtain ⟨-, rfl⟩ := Prod.mk.inj (Option.some.inj hf)
    exact hS
  · obtain ⟨-, rfl⟩ := Prod.mk.inj (Option.some.inj hf)
    exact hS
def wr10_noWitness : Wr := []
set_option maxHeartbeats 4000000 in
theorem fr10_noWitness (N : Nat) {x1 : Int32} {σ σ0 : Mm} {r0 : Int32} (hf : f10_noWitness N x1 σ = some (r0, σ0)) : Same (wr10_noWitness) σ σ0 := by
  unfold f10_noWitness at hf
  have hS : Same (wr10_noWitness) σ σ := Same.rf
  rcases z_if hf with hf | hf
  · obtain ⟨-, rfl⟩ := Prod.mk.inj (Option.some.inj hf)
    exact hS
  · obtain ⟨t_1, ht_2, kht_2, hf⟩ := z_r_e hf
    rcases z_if hf with hf | hf
    · obtain ⟨-, rfl⟩ := Prod.mk.inj (Option.some.inj hf)
      exact hS
    · obtain ⟨-, rfl⟩ := Prod.mk.inj (Option.some.inj hf)
      exact hS
def wr10_witness : Wr := [(61, 1, some 0), (61, 1, some 1), (61, 1, some 2), (61, 1, some 3), (61, 1, some 4), (61, 1, some 5), (23, 1, none), (43, 1, none), (62, 1, some 0), (62, 1, some 1), (62, 1, some 3), (62, 1, some 4)]
set_option maxHeartbeats 4000000 in
theorem fr10_witness (N : Nat) {x1 : Int32} {x2 : Int32} {σ σ0 : Mm} {r0 : Int32} (hf : f10_witness N x1 x2 σ = some (r0, σ0)) : Same (wr10_witness) σ σ0 := by
  unfold f10_witness at hf
  have hS : Same (wr10_witness) σ σ := Same.rf
  obtain ⟨r_1, σ_2, hc_3, hf⟩ := z_b_e hf
  have hS := hS.tr (Same.nil (fr10_noWitness N hc_3))
  rcases z_if hf with hf | hf
  · rcases z_if hf with hf | hf
    · obtain ⟨hi_4, hf⟩ := z_c_e hf
      obtain ⟨-, rfl⟩ := Prod.mk.inj (Option.some.inj hf)
      exact hS
    rcases z_if hf with hf | hf
    · obtain ⟨t_5, ht_6, kht_6, hf⟩ := z_r_e hf
      obtain ⟨hi_7, hf⟩ := z_c_e hf
      obtain ⟨-, rfl⟩ := Prod.mk.inj (Option.some.inj hf)
      exact hS
    rcases z_if hf with hf | hf
    · obtain ⟨-, rfl⟩ := Prod.mk.inj (Option.some.inj hf)
      exact hS
    rcases z_if hf with hf | hf
    · obtain ⟨r_8, σ_9, hc_10, hf⟩ := z_b_e hf
      have hS := hS.tr ((fr0_swornToBy N hc_10).mono (wsub [0, 1, 2, 3, 4, 5, 6, 7] rfl))
      obtain ⟨-, rfl⟩ := Prod.mk.inj (Option.some.inj hf)
      exact hS
    rcases z_if hf with hf | hf
    · obtain ⟨r_11, σ_12, hc_13, hf⟩ := z_b_e hf
      have hS := hS.tr ((fr0_deathIn100 N hc_13).mono (wsub [8, 9, 10, 11, 6, 7] rfl))
      obtain ⟨-, rfl⟩ := Prod.mk.inj (Option.some.inj hf)
      exact hS
    obtain ⟨-, rfl⟩ := Prod.mk.inj (Option.some.inj hf)
    exact hS
  · obtain ⟨-, rfl⟩ := Prod.mk.inj (Option.some.inj hf)
    exact hS
def wr10_noGiving : Wr := []
set_option maxHeartbeats 4000000 in
theorem fr10_noGiving (N : Nat) {x1 : Int32} {σ σ0 : Mm} {r0 : Int32} (hf : f10_noGiving N x1 σ = some (r0, σ0)) : Same (wr10_noGiving) σ σ0 := by
  unfold f10_noGiving at hf
  have hS : Same (wr10_noGiving) σ σ := Same.rf
  rcases z_if hf with hf | hf
  · obtain ⟨-, rfl⟩ := Prod.mk.inj (Option.some.inj hf)
    exact hS
  · rcases z_if hf with hf | hf
    · obtain ⟨-, rfl⟩ := Prod.mk.inj (Option.some.inj hf)
      exact hS
    · obtain ⟨-, rfl⟩ := Prod.mk.inj (Option.some.inj hf)
      exact hS
def wr10_giving : Wr := [(61, 1, some 0), (61, 1, some 1), (61, 1, some 2), (61, 1, some 3), (61, 1, some 4), (61, 1, some 5), (23, 1, none), (43, 1, none)]
set_option maxHeartbeats 4000000 in
theorem fr10_giving (N : Nat) {x1 : Int32} {x2 : Int32} {σ σ0 : Mm} {r0 : Int32} (hf : f10_giving N x1 x2 σ = some (r0, σ0)) : Same (wr10_giving) σ σ0 := by
  unfold f10_giving at hf
  have hS : Same (wr10_giving) σ σ := Same.rf
  obtain ⟨r_1, σ_2, hc_3, hf⟩ := z_b_e hf
  have hS := hS.tr (Same.nil (fr10_noGiving N hc_3))
  rcases z_if hf with hf | hf
  · rcases z_if hf with hf | hf
    · obtain ⟨hi_4, hf⟩ := z_c_e hf
      obtain ⟨-, rfl⟩ := Prod.mk.inj (Option.some.inj hf)
      exact hS
    rcases z_if hf with hf | hf
    · obtain ⟨hi_5, hf⟩ := z_c_e hf
      obtain ⟨-, rfl⟩ := Prod.mk.inj (Option.some.inj hf)
      exact hS
    rcases z_if hf with hf | hf
    · obtain ⟨hi_6, hf⟩ := z_c_e hf
      obtain ⟨-, rfl⟩ := Prod.mk.inj (Option.some.inj hf)
      exact hS
    rcases z_if hf with hf | hf
    · obtain ⟨hi_7, hf⟩ := z_c_e hf
      obtain ⟨-, rfl⟩ := Prod.mk.inj (Option.some.inj hf)
      exact hS
    rcases z_if hf with hf | hf
    · obtain ⟨hi_8, hf⟩ := z_c_e hf
      obtain ⟨-, rfl⟩ := Prod.mk.inj (Option.some.inj hf)
      exact hS
    rcases z_if hf with hf | hf
    · obtain ⟨hi_9, hf⟩ := z_c_e hf
      obtain ⟨r_10, σ_11, hc_12, hf⟩ := z_b_e hf
      have hS := hS.tr ((fr0_swearers N hc_12).mono (wsub [0, 1, 2, 3, 4, 5, 6, 7] rfl))
      obtain ⟨-, rfl⟩ := Prod.mk.inj (Option.some.inj hf)
      exact hS
    rcases z_if hf with hf | hf
    · obtain ⟨r_13, σ_14, hc_15, hf⟩ := z_b_e hf
      have hS := hS.tr ((fr0_stands N hc_15).mono (wsub [0, 1, 2, 3, 4, 5, 6, 7] rfl))
      rcases z_if hf with hf | hf
      · obtain ⟨-, rfl⟩ := Prod.mk.inj (Option.some.inj hf)
        exact hS
      · obtain ⟨-, rfl⟩ := Prod.mk.inj (Option.some.inj hf)
        exact hS
    rcases z_if hf with hf | hf
    · obtain ⟨hi_16, hf⟩ := z_c_e hf
      obtain ⟨r_17, σ_18, hc_19, hf⟩ := z_b_e hf
      have hS := hS.tr ((fr0_counting N hc_19).mono (wsub [0, 1, 2, 3, 4, 5, 6, 7] rfl))
      obtain ⟨-, rfl⟩ := Prod.mk.inj (Option.some.inj hf)
      exact hS
    rcases z_if hf with hf | hf
    · obtain ⟨-, rfl⟩ := Prod.mk.inj (Option.some.inj hf)
      exact hS
    obtain ⟨-, rfl⟩ := Prod.mk.inj (Option.some.inj hf)
    exact hS
  · obtain ⟨-, rfl⟩ := Prod.mk.inj (Option.some.inj hf)
    exact hS
def wr10_noPerson : Wr := []
set_option maxHeartbeats 4000000 in
theorem fr10_noPerson (N : Nat) {x1 : Int32} {σ σ0 : Mm} {r0 : Int32} (hf : f10_noPerson N x1 σ = some (r0, σ0)) : Same (wr10_noPerson) σ σ0 := by
  unfold f10_noPerson at hf
  have hS : Same (wr10_noPerson) σ σ := Same.rf
  rcases z_if hf with hf | hf
  · obtain ⟨-, rfl⟩ := Prod.mk.inj (Option.some.inj hf)
    exact hS
  · obtain ⟨t_1, ht_2, kht_2, hf⟩ := z_r_e hf
    rcases z_if hf with hf | hf
    · obtain ⟨-, rfl⟩ := Prod.mk.inj (Option.some.inj hf)
      exact hS
    · obtain ⟨-, rfl⟩ := Prod.mk.inj (Option.some.inj hf)
      exact hS
def wr10_give : Wr := [(74, 60, none), (70, 1, some 1), (70, 1, some 2), (51, 1, none), (52, 1, none), (53, 1, none), (54, 1, none), (55, 1, none), (56, 1, some 3)]
set_option maxHeartbeats 4000000 in
theorem fr10_give (N : Nat) {x1 : Int32} {x2 : Int32} {x3 : Int32} {x4 : Int32} {σ σ0 : Mm} {r0 : Int32} (hf : f10_give N x1 x2 x3 x4 σ = some (r0, σ0)) : Same (wr10_give) σ σ0 := by
  unfold f10_give at hf
  have hS : Same (wr10_give) σ σ := Same.rf
  obtain ⟨r_1, σ_2, hc_3, hf⟩ := z_b_e hf
  have hS := hS.tr (Same.nil (fr10_noPlot N hc_3))
  rcases z_if hf with hf | hf
  · obtain ⟨r_4, σ_5, hc_6, hf⟩ := z_b_e hf
    have hS := hS.tr (Same.nil (fr10_noPerson N hc_6))
    rcases z_if hf with hf | hf
    · obtain ⟨r_7, σ_8, hc_9, hf⟩ := z_b_e hf
      have hS := hS.tr (Same.nil (fr10_noPerson N hc_9))
      rcases z_if hf with hf | hf
      · rcases z_if hf with hf | hf
        · obtain ⟨-, rfl⟩ := Prod.mk.inj (Option.some.inj hf)
          exact hS
        · obtain ⟨t_10, ht_11, kht_11, hf⟩ := z_r_e hf
          rcases z_if hf with hf | hf
          · rcases z_if hf with hf | hf
            · obtain ⟨-, rfl⟩ := Prod.mk.inj (Option.some.inj hf)
              exact hS
            · rcases z_if hf with hf | hf
              · obtain ⟨r_12, σ_13, hc_14, hf⟩ := z_b_e hf
                have hS := hS.tr ((fr6_keep N hc_14).mono (wsub [0, 1, 2] rfl))
                obtain ⟨x5_15, ex5_15, hf⟩ := z_l_x hf
                obtain ⟨r_16, σ_17, hc_18, hf⟩ := z_b_e hf
                have hS := hS.tr ((fr1_put N hc_18).mono (wsub [3, 4, 5, 6, 7] rfl))
                obtain ⟨σ_19, eσ_19, hf⟩ := z_l_x hf
                have hS := hS.tr (υ := σ_19) (by rw [eσ_19]; exact Same_sI (i := 8) rfl)
                obtain ⟨-, rfl⟩ := Prod.mk.inj (Option.some.inj hf)
                exact hS
              · obtain ⟨-, rfl⟩ := Prod.mk.inj (Option.some.inj hf)
                exact hS
          · obtain ⟨-, rfl⟩ := Prod.mk.inj (Option.some.inj hf)
            exact hS
      · obtain ⟨-, rfl⟩ := Prod.mk.inj (Option.some.inj hf)
        exact hS
    · obtain ⟨-, rfl⟩ := Prod.mk.inj (Option.some.inj hf)
      exact hS
  · obtain ⟨-, rfl⟩ := Prod.mk.inj (Option.some.inj hf)
    exact hS
def wr10_unsay : Wr := [(74, 60, none), (70, 1, some 1), (70, 1, some 2), (56, 1, some 2)]
set_option maxHeartbeats 4000000 in
theorem fr10_unsay_31 (N : Nat) {σ0 : Mm} {r0 : Int32} : ∀ (x2 : Int32) (x3 : Int32) (s0 : Int32) (σ : Mm), f10_unsay_31 N x2 x3 s0 σ = some (r0, σ0) → Same (wr10_unsay) σ σ0 := by
  intro x2 x3 s0 σ hf
  unfold f10_unsay_31 at hf
  have hS : Same (wr10_unsay) σ σ := Same.rf
  rcases z_if hf with hf | hf
  · obtain ⟨-, rfl⟩ := Prod.mk.inj (Option.some.inj hf)
    exact hS
  · obtain ⟨r_5, σ_6, hc_7, hf⟩ := z_b_e hf
    have hS := hS.tr ((fr6_keep N hc_7).mono (wsub [0, 1, 2] rfl))
    obtain ⟨σ_8, eσ_8, hf⟩ := z_l_x hf
    have hS := hS.tr (υ := σ_8) (by rw [eσ_8]; exact Same_sI (i := 3) rfl)
    obtain ⟨-, rfl⟩ := Prod.mk.inj (Option.some.inj hf)
    exact hS
set_option maxHeartbeats 4000000 in
theorem fr10_unsay (N : Nat) {x1 : Int32} {x2 : Int32} {σ σ0 : Mm} {r0 : Int32} (hf : f10_unsay N x1 x2 σ = some (r0, σ0)) : Same (wr10_unsay) σ σ0 := by
  unfold f10_unsay at hf
  have hS : Same (wr10_unsay) σ σ := Same.rf
  obtain ⟨r_1, σ_2, hc_3, hf⟩ := z_b_e hf
  have hS := hS.tr (Same.nil (fr10_noGiving N hc_3))
  rcases z_if hf with hf | hf
  · obtain ⟨x3_4, ex3_4, hf⟩ := z_l_x hf
    rcases z_if hf with hf | hf
    · exact hS.tr (fr10_unsay_31 N  x2 x3_4 (0 : Int32) σ_2 hf)
    · exact hS.tr (fr10_unsay_31 N  x2 x3_4 (1 : Int32) σ_2 hf)
  · obtain ⟨-, rfl⟩ := Prod.mk.inj (Option.some.inj hf)
    exact hS
def wr10_noYears : Wr := []
set_option maxHeartbeats 4000000 in
theorem fr10_noYears (N : Nat) {x0 : Int32} {σ σ0 : Mm} {r0 : Int32} (hf : f10_noYears N x0 σ = some (r0, σ0)) : Same (wr10_noYears) σ σ0 := by
  unfold f10_noYears at hf
  have hS : Same (wr10_noYears) σ σ := Same.rf
  rcases z_if hf with hf | hf
  · obtain ⟨-, rfl⟩ := Prod.mk.inj (Option.some.inj hf)
    exact hS
  · rcases z_if hf with hf | hf
    · obtain ⟨-, rfl⟩ := Prod.mk.inj (Option.some.inj hf)
      exact hS
    · obtain ⟨-, rfl⟩ := Prod.mk.inj (Option.some.inj hf)
      exact hS
def wr10_years : Wr := [(74, 60, none), (70, 1, some 1), (70, 1, some 2), (56, 1, some 0), (57, 1, none), (62, 1, some 0), (62, 1, some 1), (62, 1, some 3), (62, 1, some 4), (23, 1, none), (43, 1, none), (56, 1, some 1)]
set_option maxHeartbeats 4000000 in
theorem fr10_years (N : Nat) {x1 : Int32} {σ σ0 : Mm} {r0 : Int32} (hf : f10_years N x1 σ = some (r0, σ0)) : Same (wr10_years) σ σ0 := by
  unfold f10_years at hf
  have hS : Same (wr10_years) σ σ := Same.rf
  obtain ⟨r_1, σ_2, hc_3, hf⟩ := z_b_e hf
  have hS := hS.tr (Same.nil (fr10_noYears N hc_3))
  rcases z_if hf with hf | hf
  · rcases z_if hf with hf | hf
    · obtain ⟨-, rfl⟩ := Prod.mk.inj (Option.some.inj hf)
      exact hS
    · obtain ⟨r_4, σ_5, hc_6, hf⟩ := z_b_e hf
      have hS := hS.tr ((fr6_keep N hc_6).mono (wsub [0, 1, 2] rfl))
      obtain ⟨t_7, ht_8, kht_8, hf⟩ := z_r_e hf
      obtain ⟨r_9, σ_10, hc_11, hf⟩ := z_b_e hf
      have hS := hS.tr ((fr0_passYears N hc_11).mono (wsub [3, 4, 5, 6, 7, 8, 9, 10, 11] rfl))
      obtain ⟨-, rfl⟩ := Prod.mk.inj (Option.some.inj hf)
      exact hS
  · obtain ⟨-, rfl⟩ := Prod.mk.inj (Option.some.inj hf)
    exact hS
def wr10_undo : Wr := [(70, 1, some 1), (56, 1, some 0), (56, 1, some 1), (56, 1, some 2), (56, 1, some 3), (57, 1, none), (70, 1, some 2)]
set_option maxHeartbeats 4000000 in
theorem fr10_undo (N : Nat) {σ σ0 : Mm} {r0 : Int32} (hf : f10_undo N σ = some (r0, σ0)) : Same (wr10_undo) σ σ0 := by
  unfold f10_undo at hf
  have hS : Same (wr10_undo) σ σ := Same.rf
  obtain ⟨r_1, σ_2, hc_3, hf⟩ := z_b_e hf
  have hS := hS.tr ((fr6_takeBack N hc_3).mono (wsub [0, 1, 2, 3, 4, 5, 6] rfl))
  obtain ⟨-, hf⟩ := z_c_e hf
  obtain ⟨-, rfl⟩ := Prod.mk.inj (Option.some.inj hf)
  exact hS
def wr10_lasts : Wr := [(58, 1, some 0), (58, 1, some 1), (58, 1, some 2), (58, 1, some 3), (59, 1, none), (61, 1, some 0), (61, 1, some 1), (61, 1, some 2), (61, 1, some 3), (61, 1, some 4), (61, 1, some 5), (23, 1, none), (43, 1, none)]
set_option maxHeartbeats 4000000 in
theorem fr10_lasts_23 (N : Nat) {x1 : Int32} {σ0 : Mm} {r0 : Int32} : ∀ (fu : Nat) (x2 : Int32) (σ : Mm), f10_lasts_23 N x1 fu x2 σ = some (r0, σ0) → Same (wr10_lasts) σ σ0 := by
  intro fu
  induction fu with
  | zero =>
    intro x2 σ hf
    rw [f10_lasts_23] at hf
    cases hf
  | succ fu ih =>
    intro x2 σ hf
    rw [f10_lasts_23] at hf
    have hS : Same (wr10_lasts) σ σ := Same.rf
    rcases z_if hf with hf | hf
    · obtain ⟨-, rfl⟩ := Prod.mk.inj (Option.some.inj hf)
      exact hS
    · obtain ⟨r_7, σ_8, hc_9, hf⟩ := z_b_e hf
      have hS := hS.tr ((fr0_stands N hc_9).mono (wsub [5, 6, 7, 8, 9, 10, 11, 12] rfl))
      rcases z_if hf with hf | hf
      · obtain ⟨-, rfl⟩ := Prod.mk.inj (Option.some.inj hf)
        exact hS
      · obtain ⟨r_10, σ_11, hc_12, hf⟩ := z_b_e hf
        have hS := hS.tr ((fr0_passQuietYear N hc_12).mono (wsub [0, 4] rfl))
        obtain ⟨x2_13, ex2_13, hf⟩ := z_l_x hf
        exact hS.tr (ih x2_13 σ_11 hf)
set_option maxHeartbeats 4000000 in
theorem fr10_lasts (N : Nat) {x1 : Int32} {σ σ0 : Mm} {r0 : Int32} (hf : f10_lasts N x1 σ = some (r0, σ0)) : Same (wr10_lasts) σ σ0 := by
  unfold f10_lasts at hf
  have hS : Same (wr10_lasts) σ σ := Same.rf
  obtain ⟨r_1, σ_2, hc_3, hf⟩ := z_b_e hf
  have hS := hS.tr (Same.nil (fr10_noGiving N hc_3))
  rcases z_if hf with hf | hf
  · obtain ⟨r_4, σ_5, hc_6, hf⟩ := z_b_e hf
    have hS := hS.tr ((fr5_become N hc_6).mono (wsub [0, 1, 2, 3, 4] rfl))
    exact hS.tr (fr10_lasts_23 N  N (0 : Int32) σ_5 hf)
  · obtain ⟨-, rfl⟩ := Prod.mk.inj (Option.some.inj hf)
    exact hS
def wr10_book : Wr := [(61, 1, some 0), (61, 1, some 1), (61, 1, some 2), (61, 1, some 3), (61, 1, some 4), (61, 1, some 5), (23, 1, none), (43, 1, none)]
set_option maxHeartbeats 4000000 in
theorem fr10_book_45 (N : Nat) {σ0 : Mm} {r0 : Int32} {k4 : Int32 → Int32 → Mm → Option (Int32 × Mm)} (hk4 : ∀ (x1 : Int32) (x2 : Int32) (σ : Mm), k4 x1 x2 σ = some (r0, σ0) → Same (wr10_book) σ σ0) : ∀ (x1 : Int32) (x2 : Int32) (σ : Mm), f10_book_45 N k4 x1 x2 σ = some (r0, σ0) → Same (wr10_book) σ σ0 := by
  intro x1 x2 σ hf
  unfold f10_book_45 at hf
  have hS : Same (wr10_book) σ σ := Same.rf
  obtain ⟨x2_9, ex2_9, hf⟩ := z_l_x hf
  exact hS.tr (hk4 x1 x2_9 σ hf)
set_option maxHeartbeats 4000000 in
theorem fr10_book_4 (N : Nat) {σ0 : Mm} {r0 : Int32} : ∀ (fu : Nat) (x1 : Int32) (x2 : Int32) (σ : Mm), f10_book_4 N fu x1 x2 σ = some (r0, σ0) → Same (wr10_book) σ σ0 := by
  intro fu
  induction fu with
  | zero =>
    intro x1 x2 σ hf
    rw [f10_book_4] at hf
    cases hf
  | succ fu ih =>
    intro x1 x2 σ hf
    rw [f10_book_4] at hf
    have hS : Same (wr10_book) σ σ := Same.rf
    obtain ⟨t_1, ht_2, kht_2, hf⟩ := z_r_e hf
    rcases z_if hf with hf | hf
    · obtain ⟨-, rfl⟩ := Prod.mk.inj (Option.some.inj hf)
      exact hS
    · obtain ⟨r_3, σ_4, hc_5, hf⟩ := z_b_e hf
      have hS := hS.tr (Same.nil (fr0_ownerByBook N hc_5))
      obtain ⟨r_6, σ_7, hc_8, hf⟩ := z_b_e hf
      have hS := hS.tr ((fr0_owner N hc_8).mono (wsub [0, 1, 2, 3, 4, 5, 6, 7] rfl))
      rcases z_if hf with hf | hf
      · exact hS.tr (fr10_book_45 N ih x1 x2 σ_7 hf)
      · obtain ⟨x1_10, ex1_10, hf⟩ := z_l_x hf
        exact hS.tr (fr10_book_45 N ih x1_10 x2 σ_7 hf)
set_option maxHeartbeats 4000000 in
theorem fr10_book (N : Nat) {σ σ0 : Mm} {r0 : Int32} (hf : f10_book N σ = some (r0, σ0)) : Same (wr10_book) σ σ0 := by
  unfold f10_book at hf
  have hS : Same (wr10_book) σ σ := Same.rf
  exact hS.tr (fr10_book_4 N  N (0 : Int32) (0 : Int32) σ hf)
def wr10_hangs : Wr := [(58, 1, some 0), (58, 1, some 1), (58, 1, some 2), (58, 1, some 3), (59, 1, none), (61, 1, some 0), (61, 1, some 1), (61, 1, some 2), (61, 1, some 3), (61, 1, some 4), (61, 1, some 5), (23, 1, none), (43, 1, none)]
set_option maxHeartbeats 4000000 in
theorem fr10_hangs_113 (N : Nat) {σ0 : Mm} {r0 : Int32} : ∀ (x1 : Int32) (x2 : Int32) (x3 : Int32) (σ : Mm), f10_hangs_113 N x1 x2 x3 σ = some (r0, σ0) → Same (wr10_hangs) σ σ0 := by
  intro x1 x2 x3 σ hf
  unfold f10_hangs_113 at hf
  have hS : Same (wr10_hangs) σ σ := Same.rf
  rcases z_if hf with hf | hf
  · obtain ⟨-, rfl⟩ := Prod.mk.inj (Option.some.inj hf)
    exact hS
  · obtain ⟨-, rfl⟩ := Prod.mk.inj (Option.some.inj hf)
    exact hS
set_option maxHeartbeats 4000000 in
theorem fr10_hangs_107 (N : Nat) {x1 : Int32} {σ0 : Mm} {r0 : Int32} {k20 : Int32 → Int32 → Int32 → Mm → Option (Int32 × Mm)} (hk20 : ∀ (x2 : Int32) (x3 : Int32) (x4 : Int32) (σ : Mm), k20 x2 x3 x4 σ = some (r0, σ0) → Same (wr10_hangs) σ σ0) : ∀ (x2 : Int32) (x3 : Int32) (x4 : Int32) (σ : Mm), f10_hangs_107 N k20 x1 x2 x3 x4 σ = some (r0, σ0) → Same (wr10_hangs) σ σ0 := by
  intro x2 x3 x4 σ hf
  unfold f10_hangs_107 at hf
  have hS : Same (wr10_hangs) σ σ := Same.rf
  obtain ⟨x4_4, ex4_4, hf⟩ := z_l_x hf
  exact hS.tr (hk20 x2 x3 x4_4 σ hf)
set_option maxHeartbeats 4000000 in
theorem fr10_hangs_20 (N : Nat) {x1 : Int32} {σ0 : Mm} {r0 : Int32} : ∀ (fu : Nat) (x2 : Int32) (x3 : Int32) (x4 : Int32) (σ : Mm), f10_hangs_20 N x1 fu x2 x3 x4 σ = some (r0, σ0) → Same (wr10_hangs) σ σ0 := by
  intro fu
  induction fu with
  | zero =>
    intro x2 x3 x4 σ hf
    rw [f10_hangs_20] at hf
    cases hf
  | succ fu ih =>
    intro x2 x3 x4 σ hf
    rw [f10_hangs_20] at hf
    have hS : Same (wr10_hangs) σ σ := Same.rf
    obtain ⟨t_1, ht_2, kht_2, hf⟩ := z_r_e hf
    rcases z_if hf with hf | hf
    · exact hS.tr (fr10_hangs_113 N  x1 x2 x3 σ hf)
    · obtain ⟨x5_3, ex5_3, hf⟩ := z_l_x hf
      rcases z_if hf with hf | hf
      · exact hS.tr (fr10_hangs_107 N ih x2 x3 x4 σ hf)
      · obtain ⟨r_5, σ_6, hc_7, hf⟩ := z_b_e hf
        have hS := hS.tr ((fr5_become N hc_7).mono (wsub [0, 1, 2, 3, 4] rfl))
        obtain ⟨σ_8, eσ_8, hf⟩ := z_l_x hf
        have hS := hS.tr (υ := σ_8) (by rw [eσ_8]; exact Same_sI (i := 1) rfl)
        obtain ⟨r_9, σ_10, hc_11, hf⟩ := z_b_e hf
        have hS := hS.tr ((fr0_plotsOfOthers N hc_11).mono (wsub [5, 6, 7, 8, 9, 10, 11, 12] rfl))
        rcases z_if hf with hf | hf
        · exact hS.tr (fr10_hangs_107 N ih x2 x3 x4 σ_10 hf)
        · exact hS.tr (fr10_hangs_107 N ih x4 r_9 x4 σ_10 hf)
set_option maxHeartbeats 4000000 in
theorem fr10_hangs_11 (N : Nat) {σ0 : Mm} {r0 : Int32} : ∀ (x1 : Int32) (σ : Mm), f10_hangs_11 N x1 σ = some (r0, σ0) → Same (wr10_hangs) σ σ0 := by
  intro x1 σ hf
  unfold f10_hangs_11 at hf
  have hS : Same (wr10_hangs) σ σ := Same.rf
  exact hS.tr (fr10_hangs_20 N  N (-2 : Int32) (-2 : Int32) (0 : Int32) σ hf)
set_option maxHeartbeats 4000000 in
theorem fr10_hangs (N : Nat) {x1 : Int32} {σ σ0 : Mm} {r0 : Int32} (hf : f10_hangs N x1 σ = some (r0, σ0)) : Same (wr10_hangs) σ σ0 := by
  unfold f10_hangs at hf
  have hS : Same (wr10_hangs) σ σ := Same.rf
  rcases z_if hf with hf | hf
  · exact hS.tr (fr10_hangs_11 N  x1 σ hf)
  · rcases z_if hf with hf | hf
    · exact hS.tr (fr10_hangs_11 N  x1 σ hf)
    · obtain ⟨-, rfl⟩ := Prod.mk.inj (Option.some.inj hf)
      exact hS
def wr10_seeWhoWouldSwear : Wr := [(58, 1, some 0), (58, 1, some 1), (58, 1, some 2), (58, 1, some 3), (59, 1, none), (61, 1, some 0), (61, 1, some 1), (61, 1, some 2), (61, 1, some 3), (61, 1, some 4), (61, 1, some 5), (23, 1, none), (43, 1, none), (159, 1, none)]
set_option maxHeartbeats 4000000 in
theorem fr10_seeWhoWouldSwear_13 (N : Nat) {x1 : Int32} {x2 : Int32} {σ0 : Mm} {u0 : Unit} : ∀ (fu : Nat) (x3 : Int32) (σ : Mm), f10_seeWhoWouldSwear_13 N x1 x2 fu x3 σ = some (u0, σ0) → Same (wr10_seeWhoWouldSwear) σ σ0 := by
  intro fu
  induction fu with
  | zero =>
    intro x3 σ hf
    rw [f10_seeWhoWouldSwear_13] at hf
    cases hf
  | succ fu ih =>
    intro x3 σ hf
    rw [f10_seeWhoWouldSwear_13] at hf
    have hS : Same (wr10_seeWhoWouldSwear) σ σ := Same.rf
    rcases z_if hf with hf | hf
    · obtain ⟨-, rfl⟩ := Prod.mk.inj (Option.some.inj hf)
      exact hS
    · rcases z_if hf with hf | hf
      · obtain ⟨-, rfl⟩ := Prod.mk.inj (Option.some.inj hf)
        exact hS
      · obtain ⟨r_4, σ_5, hc_6, hf⟩ := z_b_e hf
        have hS := hS.tr ((fr0_swearersOf N hc_6).mono (wsub [5, 6, 7, 8, 9, 10, 11, 12] rfl))
        obtain ⟨-, hf⟩ := z_c_e hf
        obtain ⟨σ_7, eσ_7, hf⟩ := z_l_x hf
        have hS := hS.tr (υ := σ_7) (by rw [eσ_7]; exact Same_sIe (i := 13) rfl)
        obtain ⟨r_8, σ_9, hc_10, hf⟩ := z_b_e hf
        have hS := hS.tr ((fr0_passQuietYear N hc_10).mono (wsub [0, 4] rfl))
        obtain ⟨x3_11, ex3_11, hf⟩ := z_l_x hf
        exact hS.tr (ih x3_11 σ_9 hf)
set_option maxHeartbeats 4000000 in
theorem fr10_seeWhoWouldSwear (N : Nat) {x1 : Int32} {x2 : Int32} {σ σ0 : Mm} {u0 : Unit} (hf : f10_seeWhoWouldSwear N x1 x2 σ = some (u0, σ0)) : Same (wr10_seeWhoWouldSwear) σ σ0 := by
  unfold f10_seeWhoWouldSwear at hf
  have hS : Same (wr10_seeWhoWouldSwear) σ σ := Same.rf
  obtain ⟨r_1, σ_2, hc_3, hf⟩ := z_b_e hf
  have hS := hS.tr ((fr5_become N hc_3).mono (wsub [0, 1, 2, 3, 4] rfl))
  exact hS.tr (fr10_seeWhoWouldSwear_13 N  N (0 : Int32) σ_2 hf)
def wr10_mirrored : Wr := []
set_option maxHeartbeats 4000000 in
theorem fr10_mirrored_27 (N : Nat) {x0 : Int32} {σ0 : Mm} {r0 : Int32} {k4 : Int32 → Int32 → Mm → Option (Int32 × Mm)} (hk4 : ∀ (x1 : Int32) (x2 : Int32) (σ : Mm), k4 x1 x2 σ = some (r0, σ0) → Same (wr10_mirrored) σ σ0) : ∀ (x1 : Int32) (x2 : Int32) (σ : Mm), f10_mirrored_27 N k4 x0 x1 x2 σ = some (r0, σ0) → Same (wr10_mirrored) σ σ0 := by
  intro x1 x2 σ hf
  unfold f10_mirrored_27 at hf
  have hS : Same (wr10_mirrored) σ σ := Same.rf
  obtain ⟨x2_1, ex2_1, hf⟩ := z_l_x hf
  exact hS.tr (hk4 x1 x2_1 σ hf)
set_option maxHeartbeats 4000000 in
theorem fr10_mirrored_4 (N : Nat) {x0 : Int32} {σ0 : Mm} {r0 : Int32} : ∀ (fu : Nat) (x1 : Int32) (x2 : Int32) (σ : Mm), f10_mirrored_4 N x0 fu x1 x2 σ = some (r0, σ0) → Same (wr10_mirrored) σ σ0 := by
  intro fu
  induction fu with
  | zero =>
    intro x1 x2 σ hf
    rw [f10_mirrored_4] at hf
    cases hf
  | succ fu ih =>
    intro x1 x2 σ hf
    rw [f10_mirrored_4] at hf
    have hS : Same (wr10_mirrored) σ σ := Same.rf
    rcases z_if hf with hf | hf
    · obtain ⟨-, rfl⟩ := Prod.mk.inj (Option.some.inj hf)
      exact hS
    · rcases z_if hf with hf | hf
      · exact hS.tr (fr10_mirrored_27 N ih x1 x2 σ hf)
      · obtain ⟨x1_2, ex1_2, hf⟩ := z_l_x hf
        exact hS.tr (fr10_mirrored_27 N ih x1_2 x2 σ hf)
set_option maxHeartbeats 4000000 in
theorem fr10_mirrored (N : Nat) {x0 : Int32} {σ σ0 : Mm} {r0 : Int32} (hf : f10_mirrored N x0 σ = some (r0, σ0)) : Same (wr10_mirrored) σ σ0 := by
  unfold f10_mirrored at hf
  have hS : Same (wr10_mirrored) σ σ := Same.rf
  exact hS.tr (fr10_mirrored_4 N  N (0 : Int32) (0 : Int32) σ hf)
def wr10_coversYears : Wr := []
set_option maxHeartbeats 4000000 in
theorem fr10_coversYears_2 (N : Nat) {x1 : Int32} {x2 : Int32} {σ0 : Mm} {r0 : Int32} : ∀ (fu : Nat) (x3 : Int32) (σ : Mm), f10_coversYears_2 N x1 x2 fu x3 σ = some (r0, σ0) → Same (wr10_coversYears) σ σ0 := by
  intro fu
  induction fu with
  | zero =>
    intro x3 σ hf
    rw [f10_coversYears_2] at hf
    cases hf
  | succ fu ih =>
    intro x3 σ hf
    rw [f10_coversYears_2] at hf
    have hS : Same (wr10_coversYears) σ σ := Same.rf
    rcases z_if hf with hf | hf
    · obtain ⟨-, rfl⟩ := Prod.mk.inj (Option.some.inj hf)
      exact hS
    · rcases z_if hf with hf | hf
      · obtain ⟨-, rfl⟩ := Prod.mk.inj (Option.some.inj hf)
        exact hS
      · obtain ⟨hi_1, hf⟩ := z_c_e hf
        obtain ⟨t_2, ht_3, kht_3, hf⟩ := z_r_e hf
        rcases z_if hf with hf | hf
        · obtain ⟨x3_4, ex3_4, hf⟩ := z_l_x hf
          exact hS.tr (ih x3_4 σ hf)
        · obtain ⟨-, rfl⟩ := Prod.mk.inj (Option.some.inj hf)
          exact hS
set_option maxHeartbeats 4000000 in
theorem fr10_coversYears (N : Nat) {x1 : Int32} {x2 : Int32} {σ σ0 : Mm} {r0 : Int32} (hf : f10_coversYears N x1 x2 σ = some (r0, σ0)) : Same (wr10_coversYears) σ σ0 := by
  unfold f10_coversYears at hf
  have hS : Same (wr10_coversYears) σ σ := Same.rf
  exact hS.tr (fr10_coversYears_2 N  N (0 : Int32) σ hf)
def wr10_fewestWitnesses : Wr := [(58, 1, some 0), (58, 1, some 1), (58, 1, some 2), (58, 1, some 3), (59, 1, none), (61, 1, some 0), (61, 1, some 1), (61, 1, some 2), (61, 1, some 3), (61, 1, some 4), (61, 1, some 5), (23, 1, none), (43, 1, none), (159, 1, none)]
set_option maxHeartbeats 4000000 in
theorem fr10_fewestWitnesses_74 (N : Nat) {x1 : Int32} {σ0 : Mm} {r0 : Int32} {k8 : Int32 → Mm → Option (Int32 × Mm)} (hk8 : ∀ (x2 : Int32) (σ : Mm), k8 x2 σ = some (r0, σ0) → Same (wr10_fewestWitnesses) σ σ0) : ∀ (x2 : Int32) (σ : Mm), f10_fewestWitnesses_74 N k8 x1 x2 σ = some (r0, σ0) → Same (wr10_fewestWitnesses) σ σ0 := by
  intro x2 σ hf
  unfold f10_fewestWitnesses_74 at hf
  have hS : Same (wr10_fewestWitnesses) σ σ := Same.rf
  obtain ⟨x2_7, ex2_7, hf⟩ := z_l_x hf
  exact hS.tr (hk8 x2_7 σ hf)
set_option maxHeartbeats 4000000 in
theorem fr10_fewestWitnesses_68 (N : Nat) {x1 : Int32} {x2 : Int32} {σ0 : Mm} {r0 : Int32} {k8 : Int32 → Mm → Option (Int32 × Mm)} (hk8 : ∀ (x2 : Int32) (σ : Mm), k8 x2 σ = some (r0, σ0) → Same (wr10_fewestWitnesses) σ σ0) {k22 : Int32 → Mm → Option (Int32 × Mm)} (hk22 : ∀ (x3 : Int32) (σ : Mm), k22 x3 σ = some (r0, σ0) → Same (wr10_fewestWitnesses) σ σ0) : ∀ (x3 : Int32) (σ : Mm), f10_fewestWitnesses_68 N k8 k22 x1 x2 x3 σ = some (r0, σ0) → Same (wr10_fewestWitnesses) σ σ0 := by
  intro x3 σ hf
  unfold f10_fewestWitnesses_68 at hf
  have hS : Same (wr10_fewestWitnesses) σ σ := Same.rf
  obtain ⟨x3_8, ex3_8, hf⟩ := z_l_x hf
  exact hS.tr (hk22 x3_8 σ hf)
set_option maxHeartbeats 4000000 in
theorem fr10_fewestWitnesses_22 (N : Nat) {x1 : Int32} {x2 : Int32} {σ0 : Mm} {r0 : Int32} {k8 : Int32 → Mm → Option (Int32 × Mm)} (hk8 : ∀ (x2 : Int32) (σ : Mm), k8 x2 σ = some (r0, σ0) → Same (wr10_fewestWitnesses) σ σ0) : ∀ (fu : Nat) (x3 : Int32) (σ : Mm), f10_fewestWitnesses_22 N k8 x1 x2 fu x3 σ = some (r0, σ0) → Same (wr10_fewestWitnesses) σ σ0 := by
  intro fu
  induction fu with
  | zero =>
    intro x3 σ hf
    rw [f10_fewestWitnesses_22] at hf
    cases hf
  | succ fu ih =>
    intro x3 σ hf
    rw [f10_fewestWitnesses_22] at hf
    have hS : Same (wr10_fewestWitnesses) σ σ := Same.rf
    rcases z_if hf with hf | hf
    · exact hS.tr (fr10_fewestWitnesses_74 N hk8 x2 σ hf)
    · rcases z_if hf with hf | hf
      · obtain ⟨r_9, σ_10, hc_11, hf⟩ := z_b_e hf
        have hS := hS.tr (Same.nil (fr10_mirrored N hc_11))
        rcases z_if hf with hf | hf
        · obtain ⟨r_12, σ_13, hc_14, hf⟩ := z_b_e hf
          have hS := hS.tr (Same.nil (fr10_coversYears N hc_14))
          rcases z_if hf with hf | hf
          · exact hS.tr (fr10_fewestWitnesses_68 N hk8 ih x3 σ_13 hf)
          · obtain ⟨-, rfl⟩ := Prod.mk.inj (Option.some.inj hf)
            exact hS
        · exact hS.tr (fr10_fewestWitnesses_68 N hk8 ih x3 σ_10 hf)
      · exact hS.tr (fr10_fewestWitnesses_68 N hk8 ih x3 σ hf)
set_option maxHeartbeats 4000000 in
theorem fr10_fewestWitnesses_8 (N : Nat) {x1 : Int32} {σ0 : Mm} {r0 : Int32} : ∀ (fu : Nat) (x2 : Int32) (σ : Mm), f10_fewestWitnesses_8 N x1 fu x2 σ = some (r0, σ0) → Same (wr10_fewestWitnesses) σ σ0 := by
  intro fu
  induction fu with
  | zero =>
    intro x2 σ hf
    rw [f10_fewestWitnesses_8] at hf
    cases hf
  | succ fu ih =>
    intro x2 σ hf
    rw [f10_fewestWitnesses_8] at hf
    have hS : Same (wr10_fewestWitnesses) σ σ := Same.rf
    rcases z_if hf with hf | hf
    · obtain ⟨-, rfl⟩ := Prod.mk.inj (Option.some.inj hf)
      exact hS
    · obtain ⟨r_4, σ_5, hc_6, hf⟩ := z_b_e hf
      have hS := hS.tr ((fr10_seeWhoWouldSwear N hc_6).mono (wsub [0, 1, 2, 3, 4, 5, 6, 7, 8, 9, 10, 11, 12, 13] rfl))
      exact hS.tr (fr10_fewestWitnesses_22 N ih N (127 : Int32) σ_5 hf)
set_option maxHeartbeats 4000000 in
theorem fr10_fewestWitnesses (N : Nat) {x1 : Int32} {σ σ0 : Mm} {r0 : Int32} (hf : f10_fewestWitnesses N x1 σ = some (r0, σ0)) : Same (wr10_fewestWitnesses) σ σ0 := by
  unfold f10_fewestWitnesses at hf
  have hS : Same (wr10_fewestWitnesses) σ σ := Same.rf
  obtain ⟨t_1, ht_2, kht_2, hf⟩ := z_r_e hf
  obtain ⟨x2_3, ex2_3, hf⟩ := z_l_x hf
  exact hS.tr (fr10_fewestWitnesses_8 N  N x2_3 σ hf)
def wr10_bitAt : Wr := []
set_option maxHeartbeats 4000000 in
theorem fr10_bitAt_28 (N : Nat) {x0 : Int32} {x1 : Int32} {σ0 : Mm} {r0 : Int32} {k4 : Int32 → Int32 → Mm → Option (Int32 × Mm)} (hk4 : ∀ (x2 : Int32) (x3 : Int32) (σ : Mm), k4 x2 x3 σ = some (r0, σ0) → Same (wr10_bitAt) σ σ0) : ∀ (x2 : Int32) (x3 : Int32) (σ : Mm), f10_bitAt_28 N k4 x0 x1 x2 x3 σ = some (r0, σ0) → Same (wr10_bitAt) σ σ0 := by
  intro x2 x3 σ hf
  unfold f10_bitAt_28 at hf
  have hS : Same (wr10_bitAt) σ σ := Same.rf
  obtain ⟨x3_1, ex3_1, hf⟩ := z_l_x hf
  exact hS.tr (hk4 x2 x3_1 σ hf)
set_option maxHeartbeats 4000000 in
theorem fr10_bitAt_4 (N : Nat) {x0 : Int32} {x1 : Int32} {σ0 : Mm} {r0 : Int32} : ∀ (fu : Nat) (x2 : Int32) (x3 : Int32) (σ : Mm), f10_bitAt_4 N x0 x1 fu x2 x3 σ = some (r0, σ0) → Same (wr10_bitAt) σ σ0 := by
  intro fu
  induction fu with
  | zero =>
    intro x2 x3 σ hf
    rw [f10_bitAt_4] at hf
    cases hf
  | succ fu ih =>
    intro x2 x3 σ hf
    rw [f10_bitAt_4] at hf
    have hS : Same (wr10_bitAt) σ σ := Same.rf
    rcases z_if hf with hf | hf
    · obtain ⟨-, rfl⟩ := Prod.mk.inj (Option.some.inj hf)
      exact hS
    · rcases z_if hf with hf | hf
      · exact hS.tr (fr10_bitAt_28 N ih x2 x3 σ hf)
      · rcases z_if hf with hf | hf
        · obtain ⟨-, rfl⟩ := Prod.mk.inj (Option.some.inj hf)
          exact hS
        · obtain ⟨x2_2, ex2_2, hf⟩ := z_l_x hf
          exact hS.tr (fr10_bitAt_28 N ih x2_2 x3 σ hf)
set_option maxHeartbeats 4000000 in
theorem fr10_bitAt (N : Nat) {x0 : Int32} {x1 : Int32} {σ σ0 : Mm} {r0 : Int32} (hf : f10_bitAt N x0 x1 σ = some (r0, σ0)) : Same (wr10_bitAt) σ σ0 := by
  unfold f10_bitAt at hf
  have hS : Same (wr10_bitAt) σ σ := Same.rf
  exact hS.tr (fr10_bitAt_4 N  N (0 : Int32) (0 : Int32) σ hf)
def wr10_cover : Wr := [(58, 1, some 0), (58, 1, some 1), (58, 1, some 2), (58, 1, some 3), (59, 1, none), (61, 1, some 0), (61, 1, some 1), (61, 1, some 2), (61, 1, some 3), (61, 1, some 4), (61, 1, some 5), (23, 1, none), (43, 1, none), (159, 1, none)]
set_option maxHeartbeats 4000000 in
theorem fr10_cover (N : Nat) {x1 : Int32} {x2 : Int32} {σ σ0 : Mm} {r0 : Int32} (hf : f10_cover N x1 x2 σ = some (r0, σ0)) : Same (wr10_cover) σ σ0 := by
  unfold f10_cover at hf
  have hS : Same (wr10_cover) σ σ := Same.rf
  obtain ⟨r_1, σ_2, hc_3, hf⟩ := z_b_e hf
  have hS := hS.tr (Same.nil (fr10_noYears N hc_3))
  rcases z_if hf with hf | hf
  · rcases z_if hf with hf | hf
    · obtain ⟨-, rfl⟩ := Prod.mk.inj (Option.some.inj hf)
      exact hS
    · rcases z_if hf with hf | hf
      · obtain ⟨r_4, σ_5, hc_6, hf⟩ := z_b_e hf
        have hS := hS.tr ((fr10_fewestWitnesses N hc_6).mono (wsub [0, 1, 2, 3, 4, 5, 6, 7, 8, 9, 10, 11, 12, 13] rfl))
        rcases z_if hf with hf | hf
        · obtain ⟨-, rfl⟩ := Prod.mk.inj (Option.some.inj hf)
          exact hS
        · rcases z_if hf with hf | hf
          · obtain ⟨-, rfl⟩ := Prod.mk.inj (Option.some.inj hf)
            exact hS
          · obtain ⟨r_7, σ_8, hc_9, hf⟩ := z_b_e hf
            have hS := hS.tr (Same.nil (fr10_bitAt N hc_9))
            obtain ⟨-, rfl⟩ := Prod.mk.inj (Option.some.inj hf)
            exact hS
      · obtain ⟨-, rfl⟩ := Prod.mk.inj (Option.some.inj hf)
        exact hS
  · obtain ⟨-, rfl⟩ := Prod.mk.inj (Option.some.inj hf)
    exact hS
def wr10_walk : Wr := [(63, 1, some 3), (63, 1, some 6), (63, 1, some 7), (63, 1, some 8), (23, 1, none), (43, 1, none)]
set_option maxHeartbeats 4000000 in
theorem fr10_walk (N : Nat) {x1 : Int32} {x2 : Int32} {σ σ0 : Mm} {r0 : Int32} (hf : f10_walk N x1 x2 σ = some (r0, σ0)) : Same (wr10_walk) σ σ0 := by
  unfold f10_walk at hf
  have hS : Same (wr10_walk) σ σ := Same.rf
  obtain ⟨r_1, σ_2, hc_3, hf⟩ := z_b_e hf
  have hS := hS.tr (Same.nil (fr10_noPlot N hc_3))
  rcases z_if hf with hf | hf
  · obtain ⟨r_4, σ_5, hc_6, hf⟩ := z_b_e hf
    have hS := hS.tr (Same.nil (fr10_noPlot N hc_6))
    rcases z_if hf with hf | hf
    · obtain ⟨r_7, σ_8, hc_9, hf⟩ := z_b_e hf
      have hS := hS.tr ((fr0_walking N hc_9).mono (wsub [0, 1, 2, 3, 4, 5] rfl))
      obtain ⟨-, rfl⟩ := Prod.mk.inj (Option.some.inj hf)
      exact hS
    · obtain ⟨-, rfl⟩ := Prod.mk.inj (Option.some.inj hf)
      exact hS
  · obtain ⟨-, rfl⟩ := Prod.mk.inj (Option.some.inj hf)
    exact hS
def wr10_asks : Wr := [(64, 1, some 3), (64, 1, some 7), (64, 1, some 8), (23, 1, none), (43, 1, none)]
set_option maxHeartbeats 4000000 in
theorem fr10_asks (N : Nat) {x1 : Int32} {σ σ0 : Mm} {r0 : Int32} (hf : f10_asks N x1 σ = some (r0, σ0)) : Same (wr10_asks) σ σ0 := by
  unfold f10_asks at hf
  have hS : Same (wr10_asks) σ σ := Same.rf
  obtain ⟨r_1, σ_2, hc_3, hf⟩ := z_b_e hf
  have hS := hS.tr (Same.nil (fr10_noPlot N hc_3))
  rcases z_if hf with hf | hf
  · obtain ⟨r_4, σ_5, hc_6, hf⟩ := z_b_e hf
    have hS := hS.tr ((fr0_asking N hc_6).mono (wsub [0, 1, 2, 3, 4] rfl))
    obtain ⟨-, rfl⟩ := Prod.mk.inj (Option.some.inj hf)
    exact hS
  · obtain ⟨-, rfl⟩ := Prod.mk.inj (Option.some.inj hf)
    exact hS
def wr10_round : Wr := [(69, 1, none), (64, 1, some 3), (64, 1, some 7), (64, 1, some 8), (23, 1, none), (43, 1, none), (68, 1, none), (63, 1, some 3), (63, 1, some 6), (63, 1, some 7), (63, 1, some 8), (67, 1, none)]
set_option maxHeartbeats 4000000 in
theorem fr10_round (N : Nat) {x1 : Int32} {x2 : Int32} {σ σ0 : Mm} {r0 : Int32} (hf : f10_round N x1 x2 σ = some (r0, σ0)) : Same (wr10_round) σ σ0 := by
  unfold f10_round at hf
  have hS : Same (wr10_round) σ σ := Same.rf
  obtain ⟨t_1, ht_2, kht_2, hf⟩ := z_r_e hf
  rcases z_if hf with hf | hf
  · rcases z_if hf with hf | hf
    · obtain ⟨-, rfl⟩ := Prod.mk.inj (Option.some.inj hf)
      exact hS
    · rcases z_if hf with hf | hf
      · obtain ⟨r_3, σ_4, hc_5, hf⟩ := z_b_e hf
        have hS := hS.tr ((fr7_measure N hc_5).mono (wsub [0, 1, 2, 3, 4, 5, 6, 7, 8, 9, 10, 11] rfl))
        rcases z_if hf with hf | hf
        · obtain ⟨r_9, σ_10, hc_11, hf⟩ := z_b_e hf
          have hS := hS.tr (Same.nil (fr7_shortest N hc_11))
          obtain ⟨-, rfl⟩ := Prod.mk.inj (Option.some.inj hf)
          exact hS
        · obtain ⟨r_6, σ_7, hc_8, hf⟩ := z_b_e hf
          have hS := hS.tr (Same.nil (fr7_plotAt N hc_8))
          obtain ⟨-, rfl⟩ := Prod.mk.inj (Option.some.inj hf)
          exact hS
      · obtain ⟨-, rfl⟩ := Prod.mk.inj (Option.some.inj hf)
        exact hS
  · obtain ⟨-, rfl⟩ := Prod.mk.inj (Option.some.inj hf)
    exact hS
def wr10_lookAhead : Wr := [(58, 1, some 0), (58, 1, some 1), (58, 1, some 2), (58, 1, some 3), (59, 1, none), (62, 1, some 0), (62, 1, some 1), (62, 1, some 3), (62, 1, some 4), (23, 1, none), (43, 1, none)]
set_option maxHeartbeats 4000000 in
theorem fr10_lookAhead (N : Nat) {x1 : Int32} {x2 : Int32} {σ σ0 : Mm} {u0 : Unit} (hf : f10_lookAhead N x1 x2 σ = some (u0, σ0)) : Same (wr10_lookAhead) σ σ0 := by
  unfold f10_lookAhead at hf
  have hS : Same (wr10_lookAhead) σ σ := Same.rf
  obtain ⟨r_1, σ_2, hc_3, hf⟩ := z_b_e hf
  have hS := hS.tr ((fr5_become N hc_3).mono (wsub [0, 1, 2, 3, 4] rfl))
  obtain ⟨r_4, σ_5, hc_6, hf⟩ := z_b_e hf
  have hS := hS.tr ((fr0_passYears N hc_6).mono (wsub [0, 4, 5, 6, 7, 8, 9, 10, 1] rfl))
  obtain ⟨-, rfl⟩ := Prod.mk.inj (Option.some.inj hf)
  exact hS
def wr10_has : Wr := [(58, 1, some 0), (58, 1, some 1), (58, 1, some 2), (58, 1, some 3), (59, 1, none), (62, 1, some 0), (62, 1, some 1), (62, 1, some 3), (62, 1, some 4), (23, 1, none), (43, 1, none), (65, 1, none), (61, 1, some 0), (61, 1, some 1), (61, 1, some 2), (61, 1, some 3), (61, 1, some 4), (61, 1, some 5)]
set_option maxHeartbeats 4000000 in
theorem fr10_has (N : Nat) {x1 : Int32} {x2 : Int32} {σ σ0 : Mm} {r0 : Int32} (hf : f10_has N x1 x2 σ = some (r0, σ0)) : Same (wr10_has) σ σ0 := by
  unfold f10_has at hf
  have hS : Same (wr10_has) σ σ := Same.rf
  obtain ⟨r_1, σ_2, hc_3, hf⟩ := z_b_e hf
  have hS := hS.tr (Same.nil (fr10_noPerson N hc_3))
  rcases z_if hf with hf | hf
  · obtain ⟨r_4, σ_5, hc_6, hf⟩ := z_b_e hf
    have hS := hS.tr (Same.nil (fr10_noYears N hc_6))
    rcases z_if hf with hf | hf
    · obtain ⟨t_7, ht_8, kht_8, hf⟩ := z_r_e hf
      obtain ⟨r_9, σ_10, hc_11, hf⟩ := z_b_e hf
      have hS := hS.tr ((fr10_lookAhead N hc_11).mono (wsub [0, 1, 2, 3, 4, 5, 6, 7, 8, 9, 10] rfl))
      obtain ⟨r_12, σ_13, hc_14, hf⟩ := z_b_e hf
      have hS := hS.tr ((fr0_countPlots N hc_14).mono (wsub [11, 12, 13, 14, 15, 16, 17, 9, 10] rfl))
      obtain ⟨hi_15, hf⟩ := z_c_e hf
      obtain ⟨-, rfl⟩ := Prod.mk.inj (Option.some.inj hf)
      exact hS
    · obtain ⟨-, rfl⟩ := Prod.mk.inj (Option.some.inj hf)
      exact hS
  · obtain ⟨-, rfl⟩ := Prod.mk.inj (Option.some.inj hf)
    exact hS
def wr10_within : Wr := [(69, 1, none), (64, 1, some 3), (64, 1, some 7), (64, 1, some 8), (23, 1, none), (43, 1, none), (68, 1, none), (63, 1, some 3), (63, 1, some 6), (63, 1, some 7), (63, 1, some 8), (67, 1, none)]
set_option maxHeartbeats 4000000 in
theorem fr10_within (N : Nat) {x1 : Int32} {x2 : Int32} {σ σ0 : Mm} {r0 : Int32} (hf : f10_within N x1 x2 σ = some (r0, σ0)) : Same (wr10_within) σ σ0 := by
  unfold f10_within at hf
  have hS : Same (wr10_within) σ σ := Same.rf
  obtain ⟨r_1, σ_2, hc_3, hf⟩ := z_b_e hf
  have hS := hS.tr (Same.nil (fr10_noPlot N hc_3))
  rcases z_if hf with hf | hf
  · rcases z_if hf with hf | hf
    · obtain ⟨-, rfl⟩ := Prod.mk.inj (Option.some.inj hf)
      exact hS
    · rcases z_if hf with hf | hf
      · obtain ⟨t_4, ht_5, kht_5, hf⟩ := z_r_e hf
        obtain ⟨x3_6, ex3_6, hf⟩ := z_l_x hf
        obtain ⟨r_7, σ_8, hc_9, hf⟩ := z_b_e hf
        have hS := hS.tr ((fr7_measure N hc_9).mono (wsub [0, 1, 2, 3, 4, 5, 6, 7, 8, 9, 10, 11] rfl))
        obtain ⟨r_10, σ_11, hc_12, hf⟩ := z_b_e hf
        have hS := hS.tr (Same.nil (fr7_mostFrom N hc_12))
        obtain ⟨-, rfl⟩ := Prod.mk.inj (Option.some.inj hf)
        exact hS
      · obtain ⟨-, rfl⟩ := Prod.mk.inj (Option.some.inj hf)
        exact hS
  · obtain ⟨-, rfl⟩ := Prod.mk.inj (Option.some.inj hf)
    exact hS
def wr10_rich : Wr := [(58, 1, some 0), (58, 1, some 1), (58, 1, some 2), (58, 1, some 3), (59, 1, none), (62, 1, some 0), (62, 1, some 1), (62, 1, some 3), (62, 1, some 4), (23, 1, none), (43, 1, none), (65, 1, none), (61, 1, some 0), (61, 1, some 1), (61, 1, some 2), (61, 1, some 3), (61, 1, some 4), (61, 1, some 5)]
set_option maxHeartbeats 4000000 in
theorem fr10_rich_99 (N : Nat) {σ0 : Mm} {r0 : Int32} : ∀ (x2 : Int32) (x3 : Int32) (x4 : Int32) (σ : Mm), f10_rich_99 N x2 x3 x4 σ = some (r0, σ0) → Same (wr10_rich) σ σ0 := by
  intro x2 x3 x4 σ hf
  unfold f10_rich_99 at hf
  have hS : Same (wr10_rich) σ σ := Same.rf
  rcases z_if hf with hf | hf
  · obtain ⟨-, rfl⟩ := Prod.mk.inj (Option.some.inj hf)
    exact hS
  · obtain ⟨-, rfl⟩ := Prod.mk.inj (Option.some.inj hf)
    exact hS
set_option maxHeartbeats 4000000 in
theorem fr10_rich_93 (N : Nat) {x2 : Int32} {σ0 : Mm} {r0 : Int32} {k51 : Int32 → Int32 → Int32 → Mm → Option (Int32 × Mm)} (hk51 : ∀ (x3 : Int32) (x4 : Int32) (x5 : Int32) (σ : Mm), k51 x3 x4 x5 σ = some (r0, σ0) → Same (wr10_rich) σ σ0) : ∀ (x3 : Int32) (x4 : Int32) (x5 : Int32) (σ : Mm), f10_rich_93 N k51 x2 x3 x4 x5 σ = some (r0, σ0) → Same (wr10_rich) σ σ0 := by
  intro x3 x4 x5 σ hf
  unfold f10_rich_93 at hf
  have hS : Same (wr10_rich) σ σ := Same.rf
  obtain ⟨x5_15, ex5_15, hf⟩ := z_l_x hf
  exact hS.tr (hk51 x3 x4 x5_15 σ hf)
set_option maxHeartbeats 4000000 in
theorem fr10_rich_51 (N : Nat) {x2 : Int32} {σ0 : Mm} {r0 : Int32} : ∀ (fu : Nat) (x3 : Int32) (x4 : Int32) (x5 : Int32) (σ : Mm), f10_rich_51 N x2 fu x3 x4 x5 σ = some (r0, σ0) → Same (wr10_rich) σ σ0 := by
  intro fu
  induction fu with
  | zero =>
    intro x3 x4 x5 σ hf
    rw [f10_rich_51] at hf
    cases hf
  | succ fu ih =>
    intro x3 x4 x5 σ hf
    rw [f10_rich_51] at hf
    have hS : Same (wr10_rich) σ σ := Same.rf
    obtain ⟨t_12, ht_13, kht_13, hf⟩ := z_r_e hf
    rcases z_if hf with hf | hf
    · exact hS.tr (fr10_rich_99 N  x2 x3 x4 σ hf)
    · obtain ⟨hi_14, hf⟩ := z_c_e hf
      rcases z_if hf with hf | hf
      · exact hS.tr (fr10_rich_93 N ih x3 x4 x5 σ hf)
      · obtain ⟨hi_16, hf⟩ := z_c_e hf
        obtain ⟨x4_17, ex4_17, hf⟩ := z_l_x hf
        exact hS.tr (fr10_rich_93 N ih x5 x4_17 x5 σ hf)
set_option maxHeartbeats 4000000 in
theorem fr10_rich_18 (N : Nat) {σ0 : Mm} {r0 : Int32} : ∀ (x1 : Int32) (x2 : Int32) (σ : Mm), f10_rich_18 N x1 x2 σ = some (r0, σ0) → Same (wr10_rich) σ σ0 := by
  intro x1 x2 σ hf
  unfold f10_rich_18 at hf
  have hS : Same (wr10_rich) σ σ := Same.rf
  obtain ⟨t_4, ht_5, kht_5, hf⟩ := z_r_e hf
  obtain ⟨r_6, σ_7, hc_8, hf⟩ := z_b_e hf
  have hS := hS.tr ((fr10_lookAhead N hc_8).mono (wsub [0, 1, 2, 3, 4, 5, 6, 7, 8, 9, 10] rfl))
  obtain ⟨r_9, σ_10, hc_11, hf⟩ := z_b_e hf
  have hS := hS.tr ((fr0_countPlots N hc_11).mono (wsub [11, 12, 13, 14, 15, 16, 17, 9, 10] rfl))
  exact hS.tr (fr10_rich_51 N  N (-2 : Int32) (-2 : Int32) (0 : Int32) σ_10 hf)
set_option maxHeartbeats 4000000 in
theorem fr10_rich (N : Nat) {x1 : Int32} {x2 : Int32} {σ σ0 : Mm} {r0 : Int32} (hf : f10_rich N x1 x2 σ = some (r0, σ0)) : Same (wr10_rich) σ σ0 := by
  unfold f10_rich at hf
  have hS : Same (wr10_rich) σ σ := Same.rf
  obtain ⟨r_1, σ_2, hc_3, hf⟩ := z_b_e hf
  have hS := hS.tr (Same.nil (fr10_noYears N hc_3))
  rcases z_if hf with hf | hf
  · rcases z_if hf with hf | hf
    · exact hS.tr (fr10_rich_18 N  x1 x2 σ_2 hf)
    · rcases z_if hf with hf | hf
      · exact hS.tr (fr10_rich_18 N  x1 x2 σ_2 hf)
      · obtain ⟨-, rfl⟩ := Prod.mk.inj (Option.some.inj hf)
        exact hS
  · obtain ⟨-, rfl⟩ := Prod.mk.inj (Option.some.inj hf)
    exact hS
def wr10_chain : Wr := [(61, 1, some 0), (61, 1, some 1), (61, 1, some 2), (61, 1, some 3), (61, 1, some 4), (61, 1, some 5), (23, 1, none), (43, 1, none)]
set_option maxHeartbeats 4000000 in
theorem fr10_chain (N : Nat) {x1 : Int32} {x2 : Int32} {σ σ0 : Mm} {r0 : Int32} (hf : f10_chain N x1 x2 σ = some (r0, σ0)) : Same (wr10_chain) σ σ0 := by
  unfold f10_chain at hf
  have hS : Same (wr10_chain) σ σ := Same.rf
  obtain ⟨r_1, σ_2, hc_3, hf⟩ := z_b_e hf
  have hS := hS.tr (Same.nil (fr10_noPlot N hc_3))
  rcases z_if hf with hf | hf
  · rcases z_if hf with hf | hf
    · obtain ⟨r_4, σ_5, hc_6, hf⟩ := z_b_e hf
      have hS := hS.tr ((fr0_counting N hc_6).mono (wsub [0, 1, 2, 3, 4, 5, 6, 7] rfl))
      rcases z_if hf with hf | hf
      · obtain ⟨-, rfl⟩ := Prod.mk.inj (Option.some.inj hf)
        exact hS
      · rcases z_if hf with hf | hf
        · obtain ⟨t_14, ht_15, kht_15, hf⟩ := z_r_e hf
          obtain ⟨hi_16, hf⟩ := z_c_e hf
          obtain ⟨-, rfl⟩ := Prod.mk.inj (Option.some.inj hf)
          exact hS
        · obtain ⟨r_7, σ_8, hc_9, hf⟩ := z_b_e hf
          have hS := hS.tr (Same.nil (fr10_bitAt N hc_9))
          obtain ⟨r_10, σ_11, hc_12, hf⟩ := z_b_e hf
          have hS := hS.tr (Same.nil (fr10_noGiving N hc_12))
          rcases z_if hf with hf | hf
          · obtain ⟨hi_13, hf⟩ := z_c_e hf
            obtain ⟨-, rfl⟩ := Prod.mk.inj (Option.some.inj hf)
            exact hS
          · obtain ⟨-, rfl⟩ := Prod.mk.inj (Option.some.inj hf)
            exact hS
    · obtain ⟨-, rfl⟩ := Prod.mk.inj (Option.some.inj hf)
      exact hS
  · obtain ⟨-, rfl⟩ := Prod.mk.inj (Option.some.inj hf)
    exact hS
def wr10_idle : Wr := [(61, 1, some 0), (61, 1, some 1), (61, 1, some 2), (61, 1, some 3), (61, 1, some 4), (61, 1, some 5), (23, 1, none), (43, 1, none)]
set_option maxHeartbeats 4000000 in
theorem fr10_idle (N : Nat) {x1 : Int32} {σ σ0 : Mm} {r0 : Int32} (hf : f10_idle N x1 σ = some (r0, σ0)) : Same (wr10_idle) σ σ0 := by
  unfold f10_idle at hf
  have hS : Same (wr10_idle) σ σ := Same.rf
  obtain ⟨r_1, σ_2, hc_3, hf⟩ := z_b_e hf
  have hS := hS.tr (Same.nil (fr10_noPlot N hc_3))
  rcases z_if hf with hf | hf
  · obtain ⟨r_4, σ_5, hc_6, hf⟩ := z_b_e hf
    have hS := hS.tr ((fr0_standing N hc_6).mono (wsub [0, 1, 2, 3, 4, 5, 6, 7] rfl))
    obtain ⟨r_7, σ_8, hc_9, hf⟩ := z_b_e hf
    have hS := hS.tr (Same.nil (fr1_ofPlot N hc_9))
    obtain ⟨r_10, σ_11, hc_12, hf⟩ := z_b_e hf
    have hS := hS.tr ((fr0_counting N hc_12).mono (wsub [0, 1, 2, 3, 4, 5, 6, 7] rfl))
    obtain ⟨-, rfl⟩ := Prod.mk.inj (Option.some.inj hf)
    exact hS
  · obtain ⟨-, rfl⟩ := Prod.mk.inj (Option.some.inj hf)
    exact hS
def wr10_eldest : Wr := []
set_option maxHeartbeats 4000000 in
theorem fr10_eldest_81 (N : Nat) {σ0 : Mm} {r0 : Int32} : ∀ (x1 : Int32) (x2 : Int32) (x3 : Int32) (σ : Mm), f10_eldest_81 N x1 x2 x3 σ = some (r0, σ0) → Same (wr10_eldest) σ σ0 := by
  intro x1 x2 x3 σ hf
  unfold f10_eldest_81 at hf
  have hS : Same (wr10_eldest) σ σ := Same.rf
  rcases z_if hf with hf | hf
  · obtain ⟨-, rfl⟩ := Prod.mk.inj (Option.some.inj hf)
    exact hS
  · obtain ⟨-, rfl⟩ := Prod.mk.inj (Option.some.inj hf)
    exact hS
set_option maxHeartbeats 4000000 in
theorem fr10_eldest_75 (N : Nat) {x1 : Int32} {σ0 : Mm} {r0 : Int32} {k20 : Int32 → Int32 → Int32 → Mm → Option (Int32 × Mm)} (hk20 : ∀ (x2 : Int32) (x3 : Int32) (x4 : Int32) (σ : Mm), k20 x2 x3 x4 σ = some (r0, σ0) → Same (wr10_eldest) σ σ0) : ∀ (x2 : Int32) (x3 : Int32) (x4 : Int32) (σ : Mm), f10_eldest_75 N k20 x1 x2 x3 x4 σ = some (r0, σ0) → Same (wr10_eldest) σ σ0 := by
  intro x2 x3 x4 σ hf
  unfold f10_eldest_75 at hf
  have hS : Same (wr10_eldest) σ σ := Same.rf
  obtain ⟨x4_3, ex4_3, hf⟩ := z_l_x hf
  exact hS.tr (hk20 x2 x3 x4_3 σ hf)
set_option maxHeartbeats 4000000 in
theorem fr10_eldest_20 (N : Nat) {x1 : Int32} {σ0 : Mm} {r0 : Int32} : ∀ (fu : Nat) (x2 : Int32) (x3 : Int32) (x4 : Int32) (σ : Mm), f10_eldest_20 N x1 fu x2 x3 x4 σ = some (r0, σ0) → Same (wr10_eldest) σ σ0 := by
  intro fu
  induction fu with
  | zero =>
    intro x2 x3 x4 σ hf
    rw [f10_eldest_20] at hf
    cases hf
  | succ fu ih =>
    intro x2 x3 x4 σ hf
    rw [f10_eldest_20] at hf
    have hS : Same (wr10_eldest) σ σ := Same.rf
    obtain ⟨t_1, ht_2, kht_2, hf⟩ := z_r_e hf
    rcases z_if hf with hf | hf
    · exact hS.tr (fr10_eldest_81 N  x1 x2 x3 σ hf)
    · rcases z_if hf with hf | hf
      · exact hS.tr (fr10_eldest_75 N ih x2 x3 x4 σ hf)
      · obtain ⟨hi_4, hf⟩ := z_c_e hf
        rcases z_if hf with hf | hf
        · exact hS.tr (fr10_eldest_75 N ih x2 x3 x4 σ hf)
        · obtain ⟨hi_5, hf⟩ := z_c_e hf
          obtain ⟨x3_6, ex3_6, hf⟩ := z_l_x hf
          exact hS.tr (fr10_eldest_75 N ih x4 x3_6 x4 σ hf)
set_option maxHeartbeats 4000000 in
theorem fr10_eldest_11 (N : Nat) {σ0 : Mm} {r0 : Int32} : ∀ (x1 : Int32) (σ : Mm), f10_eldest_11 N x1 σ = some (r0, σ0) → Same (wr10_eldest) σ σ0 := by
  intro x1 σ hf
  unfold f10_eldest_11 at hf
  have hS : Same (wr10_eldest) σ σ := Same.rf
  exact hS.tr (fr10_eldest_20 N  N (-2 : Int32) (-2 : Int32) (0 : Int32) σ hf)
set_option maxHeartbeats 4000000 in
theorem fr10_eldest (N : Nat) {x1 : Int32} {σ σ0 : Mm} {r0 : Int32} (hf : f10_eldest N x1 σ = some (r0, σ0)) : Same (wr10_eldest) σ σ0 := by
  unfold f10_eldest at hf
  have hS : Same (wr10_eldest) σ σ := Same.rf
  rcases z_if hf with hf | hf
  · exact hS.tr (fr10_eldest_11 N  x1 σ hf)
  · rcases z_if hf with hf | hf
    · exact hS.tr (fr10_eldest_11 N  x1 σ hf)
    · obtain ⟨-, rfl⟩ := Prod.mk.inj (Option.some.inj hf)
      exact hS
def wr10_lapse : Wr := [(58, 1, some 0), (58, 1, some 1), (58, 1, some 2), (58, 1, some 3), (59, 1, none), (62, 1, some 0), (62, 1, some 1), (62, 1, some 3), (62, 1, some 4), (23, 1, none), (43, 1, none), (61, 1, some 0), (61, 1, some 1), (61, 1, some 2), (61, 1, some 3), (61, 1, some 4), (61, 1, some 5)]
set_option maxHeartbeats 4000000 in
theorem fr10_lapse (N : Nat) {x1 : Int32} {σ σ0 : Mm} {r0 : Int32} (hf : f10_lapse N x1 σ = some (r0, σ0)) : Same (wr10_lapse) σ σ0 := by
  unfold f10_lapse at hf
  have hS : Same (wr10_lapse) σ σ := Same.rf
  obtain ⟨r_1, σ_2, hc_3, hf⟩ := z_b_e hf
  have hS := hS.tr (Same.nil (fr10_noYears N hc_3))
  rcases z_if hf with hf | hf
  · obtain ⟨t_4, ht_5, kht_5, hf⟩ := z_r_e hf
    obtain ⟨r_6, σ_7, hc_8, hf⟩ := z_b_e hf
    have hS := hS.tr ((fr10_lookAhead N hc_8).mono (wsub [0, 1, 2, 3, 4, 5, 6, 7, 8, 9, 10] rfl))
    obtain ⟨r_9, σ_10, hc_11, hf⟩ := z_b_e hf
    have hS := hS.tr ((fr0_standing N hc_11).mono (wsub [11, 12, 13, 14, 15, 16, 9, 10] rfl))
    obtain ⟨r_12, σ_13, hc_14, hf⟩ := z_b_e hf
    have hS := hS.tr ((fr0_standing N hc_14).mono (wsub [11, 12, 13, 14, 15, 16, 9, 10] rfl))
    obtain ⟨-, rfl⟩ := Prod.mk.inj (Option.some.inj hf)
    exact hS
  · obtain ⟨-, rfl⟩ := Prod.mk.inj (Option.some.inj hf)
    exact hS
def wr10_passes : Wr := [(61, 1, some 0), (61, 1, some 1), (61, 1, some 2), (61, 1, some 3), (61, 1, some 4), (61, 1, some 5), (23, 1, none), (43, 1, none), (58, 1, some 0), (58, 1, some 1), (58, 1, some 2), (58, 1, some 3), (59, 1, none), (62, 1, some 0), (62, 1, some 1), (62, 1, some 3), (62, 1, some 4)]
set_option maxHeartbeats 4000000 in
theorem fr10_passes_36 (N : Nat) {x1 : Int32} {x2 : Int32} {σ0 : Mm} {r0 : Int32} : ∀ (fu : Nat) (x3 : Int32) (σ : Mm), f10_passes_36 N x1 x2 fu x3 σ = some (r0, σ0) → Same (wr10_passes) σ σ0 := by
  intro fu
  induction fu with
  | zero =>
    intro x3 σ hf
    rw [f10_passes_36] at hf
    cases hf
  | succ fu ih =>
    intro x3 σ hf
    rw [f10_passes_36] at hf
    have hS : Same (wr10_passes) σ σ := Same.rf
    rcases z_if hf with hf | hf
    · obtain ⟨-, rfl⟩ := Prod.mk.inj (Option.some.inj hf)
      exact hS
    · obtain ⟨t_10, ht_11, kht_11, hf⟩ := z_r_e hf
      obtain ⟨r_12, σ_13, hc_14, hf⟩ := z_b_e hf
      have hS := hS.tr ((fr0_passYear N hc_14).mono (wsub [8, 12, 13, 14, 15, 16, 6, 7, 9] rfl))
      obtain ⟨r_15, σ_16, hc_17, hf⟩ := z_b_e hf
      have hS := hS.tr ((fr0_owner N hc_17).mono (wsub [0, 1, 2, 3, 4, 5, 6, 7] rfl))
      rcases z_if hf with hf | hf
      · obtain ⟨x3_18, ex3_18, hf⟩ := z_l_x hf
        exact hS.tr (ih x3_18 σ_16 hf)
      · obtain ⟨-, rfl⟩ := Prod.mk.inj (Option.some.inj hf)
        exact hS
set_option maxHeartbeats 4000000 in
theorem fr10_passes (N : Nat) {x1 : Int32} {σ σ0 : Mm} {r0 : Int32} (hf : f10_passes N x1 σ = some (r0, σ0)) : Same (wr10_passes) σ σ0 := by
  unfold f10_passes at hf
  have hS : Same (wr10_passes) σ σ := Same.rf
  obtain ⟨r_1, σ_2, hc_3, hf⟩ := z_b_e hf
  have hS := hS.tr (Same.nil (fr10_noPlot N hc_3))
  rcases z_if hf with hf | hf
  · obtain ⟨r_4, σ_5, hc_6, hf⟩ := z_b_e hf
    have hS := hS.tr ((fr0_owner N hc_6).mono (wsub [0, 1, 2, 3, 4, 5, 6, 7] rfl))
    obtain ⟨r_7, σ_8, hc_9, hf⟩ := z_b_e hf
    have hS := hS.tr ((fr5_become N hc_9).mono (wsub [8, 9, 10, 11, 12] rfl))
    exact hS.tr (fr10_passes_36 N  N (1 : Int32) σ_8 hf)
  · obtain ⟨-, rfl⟩ := Prod.mk.inj (Option.some.inj hf)
    exact hS
def wr10_weakest : Wr := [(61, 1, some 0), (61, 1, some 1), (61, 1, some 2), (61, 1, some 3), (61, 1, some 4), (61, 1, some 5), (23, 1, none), (43, 1, none)]
set_option maxHeartbeats 4000000 in
theorem fr10_weakest_95 (N : Nat) {σ0 : Mm} {r0 : Int32} : ∀ (x1 : Int32) (x3 : Int32) (x4 : Int32) (σ : Mm), f10_weakest_95 N x1 x3 x4 σ = some (r0, σ0) → Same (wr10_weakest) σ σ0 := by
  intro x1 x3 x4 σ hf
  unfold f10_weakest_95 at hf
  have hS : Same (wr10_weakest) σ σ := Same.rf
  rcases z_if hf with hf | hf
  · obtain ⟨-, rfl⟩ := Prod.mk.inj (Option.some.inj hf)
    exact hS
  · obtain ⟨-, rfl⟩ := Prod.mk.inj (Option.some.inj hf)
    exact hS
set_option maxHeartbeats 4000000 in
theorem fr10_weakest_89 (N : Nat) {x1 : Int32} {x2 : Int32} {σ0 : Mm} {r0 : Int32} {k33 : Int32 → Int32 → Int32 → Mm → Option (Int32 × Mm)} (hk33 : ∀ (x3 : Int32) (x4 : Int32) (x5 : Int32) (σ : Mm), k33 x3 x4 x5 σ = some (r0, σ0) → Same (wr10_weakest) σ σ0) : ∀ (x3 : Int32) (x4 : Int32) (x5 : Int32) (σ : Mm), f10_weakest_89 N k33 x1 x2 x3 x4 x5 σ = some (r0, σ0) → Same (wr10_weakest) σ σ0 := by
  intro x3 x4 x5 σ hf
  unfold f10_weakest_89 at hf
  have hS : Same (wr10_weakest) σ σ := Same.rf
  obtain ⟨x5_4, ex5_4, hf⟩ := z_l_x hf
  exact hS.tr (hk33 x3 x4 x5_4 σ hf)
set_option maxHeartbeats 4000000 in
theorem fr10_weakest_82 (N : Nat) {x1 : Int32} {x2 : Int32} {σ0 : Mm} {r0 : Int32} {k33 : Int32 → Int32 → Int32 → Mm → Option (Int32 × Mm)} (hk33 : ∀ (x3 : Int32) (x4 : Int32) (x5 : Int32) (σ : Mm), k33 x3 x4 x5 σ = some (r0, σ0) → Same (wr10_weakest) σ σ0) : ∀ (x5 : Int32) (x6 : Int32) (σ : Mm), f10_weakest_82 N k33 x1 x2 x5 x6 σ = some (r0, σ0) → Same (wr10_weakest) σ σ0 := by
  intro x5 x6 σ hf
  unfold f10_weakest_82 at hf
  have hS : Same (wr10_weakest) σ σ := Same.rf
  exact hS.tr (fr10_weakest_89 N hk33 x5 x6 x5 σ hf)
set_option maxHeartbeats 4000000 in
theorem fr10_weakest_33 (N : Nat) {x1 : Int32} {x2 : Int32} {σ0 : Mm} {r0 : Int32} : ∀ (fu : Nat) (x3 : Int32) (x4 : Int32) (x5 : Int32) (σ : Mm), f10_weakest_33 N x1 x2 fu x3 x4 x5 σ = some (r0, σ0) → Same (wr10_weakest) σ σ0 := by
  intro fu
  induction fu with
  | zero =>
    intro x3 x4 x5 σ hf
    rw [f10_weakest_33] at hf
    cases hf
  | succ fu ih =>
    intro x3 x4 x5 σ hf
    rw [f10_weakest_33] at hf
    have hS : Same (wr10_weakest) σ σ := Same.rf
    rcases z_if hf with hf | hf
    · exact hS.tr (fr10_weakest_95 N  x1 x3 x4 σ hf)
    · rcases z_if hf with hf | hf
      · exact hS.tr (fr10_weakest_89 N ih x3 x4 x5 σ hf)
      · obtain ⟨r_5, σ_6, hc_7, hf⟩ := z_b_e hf
        have hS := hS.tr ((fr0_howManySwear N hc_7).mono (wsub [0, 1, 2, 3, 4, 5, 6, 7] rfl))
        rcases z_if hf with hf | hf
        · exact hS.tr (fr10_weakest_82 N ih x5 r_5 σ_6 hf)
        · rcases z_if hf with hf | hf
          · exact hS.tr (fr10_weakest_89 N ih x3 x4 x5 σ_6 hf)
          · exact hS.tr (fr10_weakest_82 N ih x5 r_5 σ_6 hf)
set_option maxHeartbeats 4000000 in
theorem fr10_weakest_11 (N : Nat) {σ0 : Mm} {r0 : Int32} : ∀ (x1 : Int32) (σ : Mm), f10_weakest_11 N x1 σ = some (r0, σ0) → Same (wr10_weakest) σ σ0 := by
  intro x1 σ hf
  unfold f10_weakest_11 at hf
  have hS : Same (wr10_weakest) σ σ := Same.rf
  obtain ⟨r_1, σ_2, hc_3, hf⟩ := z_b_e hf
  have hS := hS.tr ((fr0_countingOfAll N hc_3).mono (wsub [0, 1, 2, 3, 4, 5, 6, 7] rfl))
  exact hS.tr (fr10_weakest_33 N  N (-2 : Int32) (-2 : Int32) (0 : Int32) σ_2 hf)
set_option maxHeartbeats 4000000 in
theorem fr10_weakest (N : Nat) {x1 : Int32} {σ σ0 : Mm} {r0 : Int32} (hf : f10_weakest N x1 σ = some (r0, σ0)) : Same (wr10_weakest) σ σ0 := by
  unfold f10_weakest at hf
  have hS : Same (wr10_weakest) σ σ := Same.rf
  rcases z_if hf with hf | hf
  · exact hS.tr (fr10_weakest_11 N  x1 σ hf)
  · rcases z_if hf with hf | hf
    · exact hS.tr (fr10_weakest_11 N  x1 σ hf)
    · obtain ⟨-, rfl⟩ := Prod.mk.inj (Option.some.inj hf)
      exact hS
def wr10_ownerIn : Wr := [(58, 1, some 0), (58, 1, some 1), (58, 1, some 2), (58, 1, some 3), (59, 1, none), (62, 1, some 0), (62, 1, some 1), (62, 1, some 3), (62, 1, some 4), (23, 1, none), (43, 1, none), (61, 1, some 0), (61, 1, some 1), (61, 1, some 2), (61, 1, some 3), (61, 1, some 4), (61, 1, some 5)]
set_option maxHeartbeats 4000000 in
theorem fr10_ownerIn (N : Nat) {x1 : Int32} {x2 : Int32} {σ σ0 : Mm} {r0 : Int32} (hf : f10_ownerIn N x1 x2 σ = some (r0, σ0)) : Same (wr10_ownerIn) σ σ0 := by
  unfold f10_ownerIn at hf
  have hS : Same (wr10_ownerIn) σ σ := Same.rf
  obtain ⟨r_1, σ_2, hc_3, hf⟩ := z_b_e hf
  have hS := hS.tr (Same.nil (fr10_noPlot N hc_3))
  rcases z_if hf with hf | hf
  · obtain ⟨r_4, σ_5, hc_6, hf⟩ := z_b_e hf
    have hS := hS.tr (Same.nil (fr10_noYears N hc_6))
    rcases z_if hf with hf | hf
    · obtain ⟨t_7, ht_8, kht_8, hf⟩ := z_r_e hf
      obtain ⟨r_9, σ_10, hc_11, hf⟩ := z_b_e hf
      have hS := hS.tr ((fr10_lookAhead N hc_11).mono (wsub [0, 1, 2, 3, 4, 5, 6, 7, 8, 9, 10] rfl))
      obtain ⟨r_12, σ_13, hc_14, hf⟩ := z_b_e hf
      have hS := hS.tr ((fr0_owner N hc_14).mono (wsub [11, 12, 13, 14, 15, 16, 9, 10] rfl))
      obtain ⟨-, rfl⟩ := Prod.mk.inj (Option.some.inj hf)
      exact hS
    · obtain ⟨-, rfl⟩ := Prod.mk.inj (Option.some.inj hf)
      exact hS
  · obtain ⟨-, rfl⟩ := Prod.mk.inj (Option.some.inj hf)
    exact hS
def wr10_then : Wr := [(58, 1, some 0), (58, 1, some 1), (58, 1, some 2), (58, 1, some 3), (59, 1, none), (62, 1, some 0), (62, 1, some 1), (62, 1, some 3), (62, 1, some 4), (23, 1, none), (43, 1, none)]
set_option maxHeartbeats 4000000 in
theorem fr10_then_26 (N : Nat) {σ0 : Mm} {r0 : Int32} : ∀ (x1 : Int32) (x2 : Int32) (x3 : Int32) (σ : Mm), f10_then_26 N x1 x2 x3 σ = some (r0, σ0) → Same (wr10_then) σ σ0 := by
  intro x1 x2 x3 σ hf
  unfold f10_then_26 at hf
  have hS : Same (wr10_then) σ σ := Same.rf
  obtain ⟨t_7, ht_8, kht_8, hf⟩ := z_r_e hf
  obtain ⟨r_9, σ_10, hc_11, hf⟩ := z_b_e hf
  have hS := hS.tr ((fr10_lookAhead N hc_11).mono (wsub [0, 1, 2, 3, 4, 5, 6, 7, 8, 9, 10] rfl))
  rcases z_if hf with hf | hf
  · obtain ⟨hi_12, hf⟩ := z_c_e hf
    obtain ⟨-, rfl⟩ := Prod.mk.inj (Option.some.inj hf)
    exact hS
  · obtain ⟨-, rfl⟩ := Prod.mk.inj (Option.some.inj hf)
    exact hS
set_option maxHeartbeats 4000000 in
theorem fr10_then (N : Nat) {x1 : Int32} {x2 : Int32} {x3 : Int32} {σ σ0 : Mm} {r0 : Int32} (hf : f10_then N x1 x2 x3 σ = some (r0, σ0)) : Same (wr10_then) σ σ0 := by
  unfold f10_then at hf
  have hS : Same (wr10_then) σ σ := Same.rf
  obtain ⟨r_1, σ_2, hc_3, hf⟩ := z_b_e hf
  have hS := hS.tr (Same.nil (fr10_noWitness N hc_3))
  rcases z_if hf with hf | hf
  · obtain ⟨r_4, σ_5, hc_6, hf⟩ := z_b_e hf
    have hS := hS.tr (Same.nil (fr10_noYears N hc_6))
    rcases z_if hf with hf | hf
    · rcases z_if hf with hf | hf
      · exact hS.tr (fr10_then_26 N  x1 x2 x3 σ_5 hf)
      · rcases z_if hf with hf | hf
        · exact hS.tr (fr10_then_26 N  x1 x2 x3 σ_5 hf)
        · obtain ⟨-, rfl⟩ := Prod.mk.inj (Option.some.inj hf)
          exact hS
    · obtain ⟨-, rfl⟩ := Prod.mk.inj (Option.some.inj hf)
      exact hS
  · obtain ⟨-, rfl⟩ := Prod.mk.inj (Option.some.inj hf)
    exact hS
def wr10_swearIn : Wr := [(58, 1, some 0), (58, 1, some 1), (58, 1, some 2), (58, 1, some 3), (59, 1, none), (62, 1, some 0), (62, 1, some 1), (62, 1, some 3), (62, 1, some 4), (23, 1, none), (43, 1, none), (61, 1, some 0), (61, 1, some 1), (61, 1, some 2), (61, 1, some 3), (61, 1, some 4), (61, 1, some 5)]
set_option maxHeartbeats 4000000 in
theorem fr10_swearIn (N : Nat) {x1 : Int32} {x2 : Int32} {σ σ0 : Mm} {r0 : Int32} (hf : f10_swearIn N x1 x2 σ = some (r0, σ0)) : Same (wr10_swearIn) σ σ0 := by
  unfold f10_swearIn at hf
  have hS : Same (wr10_swearIn) σ σ := Same.rf
  obtain ⟨r_1, σ_2, hc_3, hf⟩ := z_b_e hf
  have hS := hS.tr (Same.nil (fr10_noGiving N hc_3))
  rcases z_if hf with hf | hf
  · obtain ⟨r_4, σ_5, hc_6, hf⟩ := z_b_e hf
    have hS := hS.tr (Same.nil (fr10_noYears N hc_6))
    rcases z_if hf with hf | hf
    · obtain ⟨t_7, ht_8, kht_8, hf⟩ := z_r_e hf
      obtain ⟨r_9, σ_10, hc_11, hf⟩ := z_b_e hf
      have hS := hS.tr ((fr10_lookAhead N hc_11).mono (wsub [0, 1, 2, 3, 4, 5, 6, 7, 8, 9, 10] rfl))
      obtain ⟨r_12, σ_13, hc_14, hf⟩ := z_b_e hf
      have hS := hS.tr ((fr0_howManySwear N hc_14).mono (wsub [11, 12, 13, 14, 15, 16, 9, 10] rfl))
      obtain ⟨-, rfl⟩ := Prod.mk.inj (Option.some.inj hf)
      exact hS
    · obtain ⟨-, rfl⟩ := Prod.mk.inj (Option.some.inj hf)
      exact hS
  · obtain ⟨-, rfl⟩ := Prod.mk.inj (Option.some.inj hf)
    exact hS
def wr10_year : Wr := [(58, 1, some 0), (58, 1, some 1), (58, 1, some 2), (58, 1, some 3), (59, 1, none), (62, 1, some 0), (62, 1, some 1), (62, 1, some 3), (62, 1, some 4), (23, 1, none), (43, 1, none), (61, 1, some 0), (61, 1, some 1), (61, 1, some 2), (61, 1, some 3), (61, 1, some 4), (61, 1, some 5)]
set_option maxHeartbeats 4000000 in
theorem fr10_year_85 (N : Nat) {x1 : Int32} {x2 : Int32} {x3 : Int32} {x4 : Int32} {σ0 : Mm} {r0 : Int32} {k44 : Int32 → Int32 → Mm → Option (Int32 × Mm)} (hk44 : ∀ (x5 : Int32) (x6 : Int32) (σ : Mm), k44 x5 x6 σ = some (r0, σ0) → Same (wr10_year) σ σ0) : ∀ (x5 : Int32) (x6 : Int32) (σ : Mm), f10_year_85 N k44 x1 x2 x3 x4 x5 x6 σ = some (r0, σ0) → Same (wr10_year) σ σ0 := by
  intro x5 x6 σ hf
  unfold f10_year_85 at hf
  have hS : Same (wr10_year) σ σ := Same.rf
  obtain ⟨x6_18, ex6_18, hf⟩ := z_l_x hf
  exact hS.tr (hk44 x5 x6_18 σ hf)
set_option maxHeartbeats 4000000 in
theorem fr10_year_44 (N : Nat) {x1 : Int32} {x2 : Int32} {x3 : Int32} {x4 : Int32} {σ0 : Mm} {r0 : Int32} : ∀ (fu : Nat) (x5 : Int32) (x6 : Int32) (σ : Mm), f10_year_44 N x1 x2 x3 x4 fu x5 x6 σ = some (r0, σ0) → Same (wr10_year) σ σ0 := by
  intro fu
  induction fu with
  | zero =>
    intro x5 x6 σ hf
    rw [f10_year_44] at hf
    cases hf
  | succ fu ih =>
    intro x5 x6 σ hf
    rw [f10_year_44] at hf
    have hS : Same (wr10_year) σ σ := Same.rf
    rcases z_if hf with hf | hf
    · obtain ⟨-, rfl⟩ := Prod.mk.inj (Option.some.inj hf)
      exact hS
    · obtain ⟨t_10, ht_11, kht_11, hf⟩ := z_r_e hf
      obtain ⟨r_12, σ_13, hc_14, hf⟩ := z_b_e hf
      have hS := hS.tr ((fr10_lookAhead N hc_14).mono (wsub [0, 1, 2, 3, 4, 5, 6, 7, 8, 9, 10] rfl))
      obtain ⟨r_15, σ_16, hc_17, hf⟩ := z_b_e hf
      have hS := hS.tr ((fr0_owner N hc_17).mono (wsub [11, 12, 13, 14, 15, 16, 9, 10] rfl))
      rcases z_if hf with hf | hf
      · obtain ⟨x5_19, ex5_19, hf⟩ := z_l_x hf
        exact hS.tr (fr10_year_85 N ih x5_19 x6 σ_16 hf)
      · exact hS.tr (fr10_year_85 N ih x5 x6 σ_16 hf)
set_option maxHeartbeats 4000000 in
theorem fr10_year (N : Nat) {x1 : Int32} {x2 : Int32} {x3 : Int32} {x4 : Int32} {σ σ0 : Mm} {r0 : Int32} (hf : f10_year N x1 x2 x3 x4 σ = some (r0, σ0)) : Same (wr10_year) σ σ0 := by
  unfold f10_year at hf
  have hS : Same (wr10_year) σ σ := Same.rf
  obtain ⟨r_1, σ_2, hc_3, hf⟩ := z_b_e hf
  have hS := hS.tr (Same.nil (fr10_noPlot N hc_3))
  rcases z_if hf with hf | hf
  · obtain ⟨r_4, σ_5, hc_6, hf⟩ := z_b_e hf
    have hS := hS.tr (Same.nil (fr10_noPerson N hc_6))
    rcases z_if hf with hf | hf
    · obtain ⟨r_7, σ_8, hc_9, hf⟩ := z_b_e hf
      have hS := hS.tr (Same.nil (fr10_noYears N hc_9))
      rcases z_if hf with hf | hf
      · rcases z_if hf with hf | hf
        · obtain ⟨-, rfl⟩ := Prod.mk.inj (Option.some.inj hf)
          exact hS
        · rcases z_if hf with hf | hf
          · exact hS.tr (fr10_year_44 N  N (0 : Int32) (0 : Int32) σ_8 hf)
          · obtain ⟨-, rfl⟩ := Prod.mk.inj (Option.some.inj hf)
            exact hS
      · obtain ⟨-, rfl⟩ := Prod.mk.inj (Option.some.inj hf)
        exact hS
    · obtain ⟨-, rfl⟩ := Prod.mk.inj (Option.some.inj hf)
      exact hS
  · obtain ⟨-, rfl⟩ := Prod.mk.inj (Option.some.inj hf)
    exact hS
def wr10_tell : Wr := [(158, 1, none), (0, 1, some 14), (0, 1, some 15)]
set_option maxHeartbeats 4000000 in
theorem fr10_tell_57 (N : Nat) {σ0 : Mm} {r0 : Int32} : ∀ (x3 : Int32) (s1 : Int32) (σ : Mm), f10_tell_57 N x3 s1 σ = some (r0, σ0) → Same (wr10_tell) σ σ0 := by
  intro x3 s1 σ hf
  unfold f10_tell_57 at hf
  have hS : Same (wr10_tell) σ σ := Same.rf
  obtain ⟨σ_6, eσ_6, hf⟩ := z_l_x hf
  have hS := hS.tr (υ := σ_6) (by rw [eσ_6]; exact Same_sI (i := 1) rfl)
  obtain ⟨σ_7, eσ_7, hf⟩ := z_l_x hf
  have hS := hS.tr (υ := σ_7) (by rw [eσ_7]; exact Same_sI (i := 2) rfl)
  obtain ⟨-, rfl⟩ := Prod.mk.inj (Option.some.inj hf)
  exact hS
set_option maxHeartbeats 4000000 in
theorem fr10_tell (N : Nat) {x1 : Int32} {x2 : Int32} {σ σ0 : Mm} {r0 : Int32} (hf : f10_tell N x1 x2 σ = some (r0, σ0)) : Same (wr10_tell) σ σ0 := by
  unfold f10_tell at hf
  have hS : Same (wr10_tell) σ σ := Same.rf
  obtain ⟨r_1, σ_2, hc_3, hf⟩ := z_b_e hf
  have hS := hS.tr (Same.nil (fr10_noWitness N hc_3))
  rcases z_if hf with hf | hf
  · rcases z_if hf with hf | hf
    · obtain ⟨x3_4, ex3_4, hf⟩ := z_l_x hf
      obtain ⟨-, hf⟩ := z_c_e hf
      obtain ⟨σ_5, eσ_5, hf⟩ := z_l_x hf
      have hS := hS.tr (υ := σ_5) (by rw [eσ_5]; exact Same_sIe (i := 0) rfl)
      rcases z_if hf with hf | hf
      · exact hS.tr (fr10_tell_57 N  x3_4 ((gI σ_5 0 14) &&& (((1 : Int32) <<< (x3_4 &&& 31)) ^^^ (-1 : Int32))) σ_5 hf)
      · exact hS.tr (fr10_tell_57 N  x3_4 ((gI σ_5 0 14) ||| ((1 : Int32) <<< (x3_4 &&& 31))) σ_5 hf)
    · obtain ⟨-, rfl⟩ := Prod.mk.inj (Option.some.inj hf)
      exact hS
  · obtain ⟨-, rfl⟩ := Prod.mk.inj (Option.some.inj hf)
    exact hS
def wr10_forget : Wr := [(0, 1, some 15)]
set_option maxHeartbeats 4000000 in
theorem fr10_forget (N : Nat) {σ σ0 : Mm} {r0 : Int32} (hf : f10_forget N σ = some (r0, σ0)) : Same (wr10_forget) σ σ0 := by
  unfold f10_forget at hf
  have hS : Same (wr10_forget) σ σ := Same.rf
  obtain ⟨x1_1, ex1_1, hf⟩ := z_l_x hf
  obtain ⟨σ_2, eσ_2, hf⟩ := z_l_x hf
  have hS := hS.tr (υ := σ_2) (by rw [eσ_2]; exact Same_sI (i := 0) rfl)
  obtain ⟨-, rfl⟩ := Prod.mk.inj (Option.some.inj hf)
  exact hS
def wr10_leftBy : Wr := [(61, 1, some 0), (61, 1, some 1), (61, 1, some 2), (61, 1, some 3), (61, 1, some 4), (61, 1, some 5), (23, 1, none), (43, 1, none)]
set_option maxHeartbeats 4000000 in
theorem fr10_leftBy_68 (N : Nat) {x1 : Int32} {σ0 : Mm} {r0 : Int32} {k14 : Int32 → Int32 → Mm → Option (Int32 × Mm)} (hk14 : ∀ (x2 : Int32) (x3 : Int32) (σ : Mm), k14 x2 x3 σ = some (r0, σ0) → Same (wr10_leftBy) σ σ0) : ∀ (x3 : Int32) (s0 : Int32) (s1 : Int32) (σ : Mm), f10_leftBy_68 N k14 x1 x3 s0 s1 σ = some (r0, σ0) → Same (wr10_leftBy) σ σ0 := by
  intro x3 s0 s1 σ hf
  unfold f10_leftBy_68 at hf
  have hS : Same (wr10_leftBy) σ σ := Same.rf
  obtain ⟨x2_6, ex2_6, hf⟩ := z_l_x hf
  obtain ⟨x3_7, ex3_7, hf⟩ := z_l_x hf
  exact hS.tr (hk14 x2_6 x3_7 σ hf)
set_option maxHeartbeats 4000000 in
theorem fr10_leftBy_14 (N : Nat) {x1 : Int32} {σ0 : Mm} {r0 : Int32} : ∀ (fu : Nat) (x2 : Int32) (x3 : Int32) (σ : Mm), f10_leftBy_14 N x1 fu x2 x3 σ = some (r0, σ0) → Same (wr10_leftBy) σ σ0 := by
  intro fu
  induction fu with
  | zero =>
    intro x2 x3 σ hf
    rw [f10_leftBy_14] at hf
    cases hf
  | succ fu ih =>
    intro x2 x3 σ hf
    rw [f10_leftBy_14] at hf
    have hS : Same (wr10_leftBy) σ σ := Same.rf
    rcases z_if hf with hf | hf
    · obtain ⟨-, rfl⟩ := Prod.mk.inj (Option.some.inj hf)
      exact hS
    · rcases z_if hf with hf | hf
      · obtain ⟨-, rfl⟩ := Prod.mk.inj (Option.some.inj hf)
        exact hS
      · obtain ⟨hi_2, hf⟩ := z_c_e hf
        obtain ⟨r_3, σ_4, hc_5, hf⟩ := z_b_e hf
        have hS := hS.tr ((fr0_swornToBy N hc_5).mono (wsub [0, 1, 2, 3, 4, 5, 6, 7] rfl))
        rcases z_if hf with hf | hf
        · exact hS.tr (fr10_leftBy_68 N ih x3 x2 (r_3 ^^^ (-1 : Int32)) σ_4 hf)
        · exact hS.tr (fr10_leftBy_68 N ih x3 x2 r_3 σ_4 hf)
set_option maxHeartbeats 4000000 in
theorem fr10_leftBy (N : Nat) {x1 : Int32} {σ σ0 : Mm} {r0 : Int32} (hf : f10_leftBy N x1 σ = some (r0, σ0)) : Same (wr10_leftBy) σ σ0 := by
  unfold f10_leftBy at hf
  have hS : Same (wr10_leftBy) σ σ := Same.rf
  obtain ⟨x2_1, ex2_1, hf⟩ := z_l_x hf
  exact hS.tr (fr10_leftBy_14 N  N x2_1 (0 : Int32) σ hf)
def wr10_which : Wr := [(61, 1, some 0), (61, 1, some 1), (61, 1, some 2), (61, 1, some 3), (61, 1, some 4), (61, 1, some 5), (23, 1, none), (43, 1, none)]
set_option maxHeartbeats 4000000 in
theorem fr10_which_23 (N : Nat) {σ0 : Mm} {r0 : Int32} : ∀ (x1 : Int32) (x2 : Int32) (σ : Mm), f10_which_23 N x1 x2 σ = some (r0, σ0) → Same (wr10_which) σ σ0 := by
  intro x1 x2 σ hf
  unfold f10_which_23 at hf
  have hS : Same (wr10_which) σ σ := Same.rf
  obtain ⟨r_1, σ_2, hc_3, hf⟩ := z_b_e hf
  have hS := hS.tr ((fr10_leftBy N hc_3).mono (wsub [0, 1, 2, 3, 4, 5, 6, 7] rfl))
  rcases z_if hf with hf | hf
  · obtain ⟨-, rfl⟩ := Prod.mk.inj (Option.some.inj hf)
    exact hS
  · obtain ⟨-, rfl⟩ := Prod.mk.inj (Option.some.inj hf)
    exact hS
set_option maxHeartbeats 4000000 in
theorem fr10_which (N : Nat) {x1 : Int32} {x2 : Int32} {σ σ0 : Mm} {r0 : Int32} (hf : f10_which N x1 x2 σ = some (r0, σ0)) : Same (wr10_which) σ σ0 := by
  unfold f10_which at hf
  have hS : Same (wr10_which) σ σ := Same.rf
  rcases z_if hf with hf | hf
  · obtain ⟨-, rfl⟩ := Prod.mk.inj (Option.some.inj hf)
    exact hS
  · rcases z_if hf with hf | hf
    · obtain ⟨-, rfl⟩ := Prod.mk.inj (Option.some.inj hf)
      exact hS
    · rcases z_if hf with hf | hf
      · exact hS.tr (fr10_which_23 N  x1 x2 σ hf)
      · rcases z_if hf with hf | hf
        · exact hS.tr (fr10_which_23 N  x1 x2 σ hf)
        · obtain ⟨-, rfl⟩ := Prod.mk.inj (Option.some.inj hf)
          exact hS
def wr10_ask : Wr := [(61, 1, some 0), (61, 1, some 1), (61, 1, some 2), (61, 1, some 3), (61, 1, some 4), (61, 1, some 5), (23, 1, none), (43, 1, none)]
set_option maxHeartbeats 4000000 in
theorem fr10_ask_97 (N : Nat) {x2 : Int32} {σ0 : Mm} {r0 : Int32} {k37 : Int32 → Int32 → Int32 → Mm → Option (Int32 × Mm)} (hk37 : ∀ (x3 : Int32) (x4 : Int32) (x5 : Int32) (σ : Mm), k37 x3 x4 x5 σ = some (r0, σ0) → Same (wr10_ask) σ σ0) : ∀ (x3 : Int32) (x4 : Int32) (x5 : Int32) (σ : Mm), f10_ask_97 N k37 x2 x3 x4 x5 σ = some (r0, σ0) → Same (wr10_ask) σ σ0 := by
  intro x3 x4 x5 σ hf
  unfold f10_ask_97 at hf
  have hS : Same (wr10_ask) σ σ := Same.rf
  obtain ⟨x5_11, ex5_11, hf⟩ := z_l_x hf
  exact hS.tr (hk37 x3 x4 x5_11 σ hf)
set_option maxHeartbeats 4000000 in
theorem fr10_ask_37 (N : Nat) {x2 : Int32} {σ0 : Mm} {r0 : Int32} : ∀ (fu : Nat) (x3 : Int32) (x4 : Int32) (x5 : Int32) (σ : Mm), f10_ask_37 N x2 fu x3 x4 x5 σ = some (r0, σ0) → Same (wr10_ask) σ σ0 := by
  intro fu
  induction fu with
  | zero =>
    intro x3 x4 x5 σ hf
    rw [f10_ask_37] at hf
    cases hf
  | succ fu ih =>
    intro x3 x4 x5 σ hf
    rw [f10_ask_37] at hf
    have hS : Same (wr10_ask) σ σ := Same.rf
    obtain ⟨t_4, ht_5, kht_5, hf⟩ := z_r_e hf
    rcases z_if hf with hf | hf
    · obtain ⟨-, rfl⟩ := Prod.mk.inj (Option.some.inj hf)
      exact hS
    · obtain ⟨r_6, σ_7, hc_8, hf⟩ := z_b_e hf
      have hS := hS.tr ((fr0_swornToBy N hc_8).mono (wsub [0, 1, 2, 3, 4, 5, 6, 7] rfl))
      obtain ⟨x6_9, ex6_9, hf⟩ := z_l_x hf
      obtain ⟨x7_10, ex7_10, hf⟩ := z_l_x hf
      rcases z_if hf with hf | hf
      · exact hS.tr (fr10_ask_97 N ih x3 x4 x5 σ_7 hf)
      · exact hS.tr (fr10_ask_97 N ih x5 x7_10 x5 σ_7 hf)
set_option maxHeartbeats 4000000 in
theorem fr10_ask (N : Nat) {x1 : Int32} {σ σ0 : Mm} {r0 : Int32} (hf : f10_ask N x1 σ = some (r0, σ0)) : Same (wr10_ask) σ σ0 := by
  unfold f10_ask at hf
  have hS : Same (wr10_ask) σ σ := Same.rf
  rcases z_if hf with hf | hf
  · obtain ⟨-, rfl⟩ := Prod.mk.inj (Option.some.inj hf)
    exact hS
  · rcases z_if hf with hf | hf
    · obtain ⟨r_1, σ_2, hc_3, hf⟩ := z_b_e hf
      have hS := hS.tr ((fr10_leftBy N hc_3).mono (wsub [0, 1, 2, 3, 4, 5, 6, 7] rfl))
      rcases z_if hf with hf | hf
      · obtain ⟨-, rfl⟩ := Prod.mk.inj (Option.some.inj hf)
        exact hS
      · exact hS.tr (fr10_ask_37 N  N (-2 : Int32) (21 : Int32) (0 : Int32) σ_2 hf)
    · obtain ⟨-, rfl⟩ := Prod.mk.inj (Option.some.inj hf)
      exact hS
def wr10_hold : Wr := [(134, 24, none), (70, 1, some 5)]
set_option maxHeartbeats 4000000 in
theorem fr10_hold (N : Nat) {x1 : Int32} {σ σ0 : Mm} {r0 : Int32} (hf : f10_hold N x1 σ = some (r0, σ0)) : Same (wr10_hold) σ σ0 := by
  unfold f10_hold at hf
  have hS : Same (wr10_hold) σ σ := Same.rf
  rcases z_if hf with hf | hf
  · obtain ⟨-, rfl⟩ := Prod.mk.inj (Option.some.inj hf)
    exact hS
  · rcases z_if hf with hf | hf
    · obtain ⟨r_1, σ_2, hc_3, hf⟩ := z_b_e hf
      have hS := hS.tr ((fr6_holdIn N hc_3).mono (wsub [0, 1] rfl))
      obtain ⟨-, rfl⟩ := Prod.mk.inj (Option.some.inj hf)
      exact hS
    · obtain ⟨-, rfl⟩ := Prod.mk.inj (Option.some.inj hf)
      exact hS
def wr10_restore : Wr := [(56, 1, some 0), (56, 1, some 1), (56, 1, some 2), (56, 1, some 3), (57, 1, none), (51, 1, none), (52, 1, none), (53, 1, none), (54, 1, none), (55, 1, none), (70, 1, some 2)]
set_option maxHeartbeats 4000000 in
theorem fr10_restore (N : Nat) {x1 : Int32} {σ σ0 : Mm} {r0 : Int32} (hf : f10_restore N x1 σ = some (r0, σ0)) : Same (wr10_restore) σ σ0 := by
  unfold f10_restore at hf
  have hS : Same (wr10_restore) σ σ := Same.rf
  rcases z_if hf with hf | hf
  · obtain ⟨-, rfl⟩ := Prod.mk.inj (Option.some.inj hf)
    exact hS
  · rcases z_if hf with hf | hf
    · obtain ⟨r_1, σ_2, hc_3, hf⟩ := z_b_e hf
      have hS := hS.tr ((fr6_goOnFrom N hc_3).mono (wsub [0, 1, 2, 3, 4, 5, 6, 7, 8, 9, 10] rfl))
      obtain ⟨-, hf⟩ := z_c_e hf
      obtain ⟨-, rfl⟩ := Prod.mk.inj (Option.some.inj hf)
      exact hS
    · obtain ⟨-, rfl⟩ := Prod.mk.inj (Option.some.inj hf)
      exact hS
def wr10_plotsPassed : Wr := [(61, 1, some 0), (61, 1, some 1), (61, 1, some 2), (61, 1, some 3), (61, 1, some 4), (61, 1, some 5), (23, 1, none), (43, 1, none)]
set_option maxHeartbeats 4000000 in
theorem fr10_plotsPassed_42 (N : Nat) {σ0 : Mm} {r0 : Int32} {k4 : Int32 → Int32 → Mm → Option (Int32 × Mm)} (hk4 : ∀ (x1 : Int32) (x2 : Int32) (σ : Mm), k4 x1 x2 σ = some (r0, σ0) → Same (wr10_plotsPassed) σ σ0) : ∀ (x1 : Int32) (x2 : Int32) (σ : Mm), f10_plotsPassed_42 N k4 x1 x2 σ = some (r0, σ0) → Same (wr10_plotsPassed) σ σ0 := by
  intro x1 x2 σ hf
  unfold f10_plotsPassed_42 at hf
  have hS : Same (wr10_plotsPassed) σ σ := Same.rf
  obtain ⟨x2_9, ex2_9, hf⟩ := z_l_x hf
  exact hS.tr (hk4 x1 x2_9 σ hf)
set_option maxHeartbeats 4000000 in
theorem fr10_plotsPassed_4 (N : Nat) {σ0 : Mm} {r0 : Int32} : ∀ (fu : Nat) (x1 : Int32) (x2 : Int32) (σ : Mm), f10_plotsPassed_4 N fu x1 x2 σ = some (r0, σ0) → Same (wr10_plotsPassed) σ σ0 := by
  intro fu
  induction fu with
  | zero =>
    intro x1 x2 σ hf
    rw [f10_plotsPassed_4] at hf
    cases hf
  | succ fu ih =>
    intro x1 x2 σ hf
    rw [f10_plotsPassed_4] at hf
    have hS : Same (wr10_plotsPassed) σ σ := Same.rf
    obtain ⟨t_1, ht_2, kht_2, hf⟩ := z_r_e hf
    rcases z_if hf with hf | hf
    · obtain ⟨-, rfl⟩ := Prod.mk.inj (Option.some.inj hf)
      exact hS
    · obtain ⟨r_3, σ_4, hc_5, hf⟩ := z_b_e hf
      have hS := hS.tr ((fr0_owner N hc_5).mono (wsub [0, 1, 2, 3, 4, 5, 6, 7] rfl))
      obtain ⟨t_6, ht_7, kht_7, hf⟩ := z_r_e hf
      obtain ⟨hi_8, hf⟩ := z_c_e hf
      rcases z_if hf with hf | hf
      · exact hS.tr (fr10_plotsPassed_42 N ih x1 x2 σ_4 hf)
      · obtain ⟨x1_10, ex1_10, hf⟩ := z_l_x hf
        exact hS.tr (fr10_plotsPassed_42 N ih x1_10 x2 σ_4 hf)
set_option maxHeartbeats 4000000 in
theorem fr10_plotsPassed (N : Nat) {σ σ0 : Mm} {r0 : Int32} (hf : f10_plotsPassed N σ = some (r0, σ0)) : Same (wr10_plotsPassed) σ σ0 := by
  unfold f10_plotsPassed at hf
  have hS : Same (wr10_plotsPassed) σ σ := Same.rf
  exact hS.tr (fr10_plotsPassed_4 N  N (0 : Int32) (0 : Int32) σ hf)
def wr10_allSwearing : Wr := [(61, 1, some 0), (61, 1, some 1), (61, 1, some 2), (61, 1, some 3), (61, 1, some 4), (61, 1, some 5), (23, 1, none), (43, 1, none)]
set_option maxHeartbeats 4000000 in
theorem fr10_allSwearing_4 (N : Nat) {σ0 : Mm} {r0 : Int32} : ∀ (fu : Nat) (x1 : Int32) (x2 : Int32) (σ : Mm), f10_allSwearing_4 N fu x1 x2 σ = some (r0, σ0) → Same (wr10_allSwearing) σ σ0 := by
  intro fu
  induction fu with
  | zero =>
    intro x1 x2 σ hf
    rw [f10_allSwearing_4] at hf
    cases hf
  | succ fu ih =>
    intro x1 x2 σ hf
    rw [f10_allSwearing_4] at hf
    have hS : Same (wr10_allSwearing) σ σ := Same.rf
    rcases z_if hf with hf | hf
    · obtain ⟨-, rfl⟩ := Prod.mk.inj (Option.some.inj hf)
      exact hS
    · obtain ⟨r_1, σ_2, hc_3, hf⟩ := z_b_e hf
      have hS := hS.tr ((fr0_howManySwear N hc_3).mono (wsub [0, 1, 2, 3, 4, 5, 6, 7] rfl))
      obtain ⟨x1_4, ex1_4, hf⟩ := z_l_x hf
      obtain ⟨x2_5, ex2_5, hf⟩ := z_l_x hf
      exact hS.tr (ih x1_4 x2_5 σ_2 hf)
set_option maxHeartbeats 4000000 in
theorem fr10_allSwearing (N : Nat) {σ σ0 : Mm} {r0 : Int32} (hf : f10_allSwearing N σ = some (r0, σ0)) : Same (wr10_allSwearing) σ σ0 := by
  unfold f10_allSwearing at hf
  have hS : Same (wr10_allSwearing) σ σ := Same.rf
  exact hS.tr (fr10_allSwearing_4 N  N (0 : Int32) (0 : Int32) σ hf)
def wr10_count : Wr := [(61, 1, some 0), (61, 1, some 1), (61, 1, some 2), (61, 1, some 3), (61, 1, some 4), (61, 1, some 5), (23, 1, none), (43, 1, none)]
set_option maxHeartbeats 4000000 in
theorem fr10_count (N : Nat) {x1 : Int32} {σ σ0 : Mm} {r0 : Int32} (hf : f10_count N x1 σ = some (r0, σ0)) : Same (wr10_count) σ σ0 := by
  unfold f10_count at hf
  have hS : Same (wr10_count) σ σ := Same.rf
  rcases z_if hf with hf | hf
  · obtain ⟨t_1, ht_2, kht_2, hf⟩ := z_r_e hf
    obtain ⟨-, rfl⟩ := Prod.mk.inj (Option.some.inj hf)
    exact hS
  rcases z_if hf with hf | hf
  · obtain ⟨t_3, ht_4, kht_4, hf⟩ := z_r_e hf
    obtain ⟨-, rfl⟩ := Prod.mk.inj (Option.some.inj hf)
    exact hS
  rcases z_if hf with hf | hf
  · obtain ⟨t_5, ht_6, kht_6, hf⟩ := z_r_e hf
    obtain ⟨-, rfl⟩ := Prod.mk.inj (Option.some.inj hf)
    exact hS
  rcases z_if hf with hf | hf
  · obtain ⟨-, rfl⟩ := Prod.mk.inj (Option.some.inj hf)
    exact hS
  rcases z_if hf with hf | hf
  · obtain ⟨-, rfl⟩ := Prod.mk.inj (Option.some.inj hf)
    exact hS
  rcases z_if hf with hf | hf
  · obtain ⟨-, rfl⟩ := Prod.mk.inj (Option.some.inj hf)
    exact hS
  rcases z_if hf with hf | hf
  · obtain ⟨r_7, σ_8, hc_9, hf⟩ := z_b_e hf
    have hS := hS.tr ((fr0_standing N hc_9).mono (wsub [0, 1, 2, 3, 4, 5, 6, 7] rfl))
    obtain ⟨-, rfl⟩ := Prod.mk.inj (Option.some.inj hf)
    exact hS
  rcases z_if hf with hf | hf
  · obtain ⟨r_10, σ_11, hc_12, hf⟩ := z_b_e hf
    have hS := hS.tr ((fr0_countingOfAll N hc_12).mono (wsub [0, 1, 2, 3, 4, 5, 6, 7] rfl))
    obtain ⟨-, rfl⟩ := Prod.mk.inj (Option.some.inj hf)
    exact hS
  rcases z_if hf with hf | hf
  · obtain ⟨-, rfl⟩ := Prod.mk.inj (Option.some.inj hf)
    exact hS
  rcases z_if hf with hf | hf
  · obtain ⟨-, rfl⟩ := Prod.mk.inj (Option.some.inj hf)
    exact hS
  rcases z_if hf with hf | hf
  · obtain ⟨-, rfl⟩ := Prod.mk.inj (Option.some.inj hf)
    exact hS
  rcases z_if hf with hf | hf
  · obtain ⟨-, rfl⟩ := Prod.mk.inj (Option.some.inj hf)
    exact hS
  rcases z_if hf with hf | hf
  · obtain ⟨-, rfl⟩ := Prod.mk.inj (Option.some.inj hf)
    exact hS
  rcases z_if hf with hf | hf
  · obtain ⟨t_13, ht_14, kht_14, hf⟩ := z_r_e hf
    obtain ⟨-, rfl⟩ := Prod.mk.inj (Option.some.inj hf)
    exact hS
  rcases z_if hf with hf | hf
  · obtain ⟨r_15, σ_16, hc_17, hf⟩ := z_b_e hf
    have hS := hS.tr ((fr10_plotsPassed N hc_17).mono (wsub [0, 1, 2, 3, 4, 5, 6, 7] rfl))
    obtain ⟨-, rfl⟩ := Prod.mk.inj (Option.some.inj hf)
    exact hS
  rcases z_if hf with hf | hf
  · obtain ⟨r_18, σ_19, hc_20, hf⟩ := z_b_e hf
    have hS := hS.tr ((fr10_allSwearing N hc_20).mono (wsub [0, 1, 2, 3, 4, 5, 6, 7] rfl))
    obtain ⟨-, rfl⟩ := Prod.mk.inj (Option.some.inj hf)
    exact hS
  obtain ⟨-, rfl⟩ := Prod.mk.inj (Option.some.inj hf)
  exact hS
