
def wr4_answer (o : Nat) (o2 : Nat) : Wr := [((o + 4), 1, none)]
set_option maxHeartbeats 4000000 in
theorem fr4_answer_304 (N : Nat) {o : Nat} {o2 : Nat} {σ0 : Mm} {r0 : Int32} {k13 : Int32 → Int32 → Int32 → Mm → Option (Int32 × Mm)} (hk13 : ∀ (x3 : Int32) (x4 : Int32) (x5 : Int32) (σ : Mm), k13 x3 x4 x5 σ = some (r0, σ0) → Same (wr4_answer o o2) σ σ0) : ∀ (x3 : Int32) (x4 : Int32) (x5 : Int32) (σ : Mm), f4_answer_304 N k13 o o2 x3 x4 x5 σ = some (r0, σ0) → Same (wr4_answer o o2) σ σ0 := by
  intro x3 x4 x5 σ hf
  unfold f4_answer_304 at hf
  have hS : Same (wr4_answer o o2) σ σ := Same.rf
  obtain ⟨x5_11, ex5_11, hf⟩ := z_l_x hf
  exact hS.tr (hk13 x3 x4 x5_11 σ hf)
set_option maxHeartbeats 4000000 in
theorem fr4_answer_105 (N : Nat) {o : Nat} {o2 : Nat} {σ0 : Mm} {r0 : Int32} {k13 : Int32 → Int32 → Int32 → Mm → Option (Int32 × Mm)} (hk13 : ∀ (x3 : Int32) (x4 : Int32) (x5 : Int32) (σ : Mm), k13 x3 x4 x5 σ = some (r0, σ0) → Same (wr4_answer o o2) σ σ0) : ∀ (x3 : Int32) (x4 : Int32) (x5 : Int32) (s1 : Int32) (s2 : Int32) (σ : Mm), f4_answer_105 N k13 o o2 x3 x4 x5 s1 s2 σ = some (r0, σ0) → Same (wr4_answer o o2) σ σ0 := by
  intro x3 x4 x5 s1 s2 σ hf
  unfold f4_answer_105 at hf
  have hS : Same (wr4_answer o o2) σ σ := Same.rf
  obtain ⟨-, hf⟩ := z_c_e hf
  obtain ⟨σ_9, eσ_9, hf⟩ := z_l_x hf
  have hS := hS.tr (υ := σ_9) (by rw [eσ_9]; exact Same_sIe (i := 0) rfl)
  obtain ⟨x4_10, ex4_10, hf⟩ := z_l_x hf
  exact hS.tr (fr4_answer_304 N hk13 x3 x4_10 x5 σ_9 hf)
set_option maxHeartbeats 4000000 in
theorem fr4_answer_85 (N : Nat) {o : Nat} {o2 : Nat} {σ0 : Mm} {r0 : Int32} {k13 : Int32 → Int32 → Int32 → Mm → Option (Int32 × Mm)} (hk13 : ∀ (x3 : Int32) (x4 : Int32) (x5 : Int32) (σ : Mm), k13 x3 x4 x5 σ = some (r0, σ0) → Same (wr4_answer o o2) σ σ0) : ∀ (x3 : Int32) (x4 : Int32) (x5 : Int32) (x6 : Int32) (x7 : Int32) (σ : Mm), f4_answer_85 N k13 o o2 x3 x4 x5 x6 x7 σ = some (r0, σ0) → Same (wr4_answer o o2) σ σ0 := by
  intro x3 x4 x5 x6 x7 σ hf
  unfold f4_answer_85 at hf
  have hS : Same (wr4_answer o o2) σ σ := Same.rf
  rcases z_if hf with hf | hf
  · exact hS.tr (fr4_answer_105 N hk13 x3 x4 x5 x4 x7 σ hf)
  · obtain ⟨hi_8, hf⟩ := z_c_e hf
    exact hS.tr (fr4_answer_105 N hk13 x3 x4 x5 x4 (gI σ o2 (ix x7)) σ hf)
set_option maxHeartbeats 4000000 in
theorem fr4_answer_60 (N : Nat) {o : Nat} {o2 : Nat} {σ0 : Mm} {r0 : Int32} {k13 : Int32 → Int32 → Int32 → Mm → Option (Int32 × Mm)} (hk13 : ∀ (x3 : Int32) (x4 : Int32) (x5 : Int32) (σ : Mm), k13 x3 x4 x5 σ = some (r0, σ0) → Same (wr4_answer o o2) σ σ0) : ∀ (x3 : Int32) (x4 : Int32) (x5 : Int32) (x6 : Int32) (x7 : Int32) (σ : Mm), f4_answer_60 N k13 o o2 x3 x4 x5 x6 x7 σ = some (r0, σ0) → Same (wr4_answer o o2) σ σ0 := by
  intro x3 x4 x5 x6 x7 σ hf
  unfold f4_answer_60 at hf
  have hS : Same (wr4_answer o o2) σ σ := Same.rf
  rcases z_if hf with hf | hf
  · obtain ⟨-, rfl⟩ := Prod.mk.inj (Option.some.inj hf)
    exact hS
  · rcases z_if hf with hf | hf
    · rcases z_if hf with hf | hf
      · exact hS.tr (fr4_answer_85 N hk13 x3 x4 x5 x6 x7 σ hf)
      · obtain ⟨-, rfl⟩ := Prod.mk.inj (Option.some.inj hf)
        exact hS
    · exact hS.tr (fr4_answer_85 N hk13 x3 x4 x5 x6 x7 σ hf)
set_option maxHeartbeats 4000000 in
theorem fr4_answer_228 (N : Nat) {o : Nat} {o2 : Nat} {σ0 : Mm} {r0 : Int32} {k13 : Int32 → Int32 → Int32 → Mm → Option (Int32 × Mm)} (hk13 : ∀ (x3 : Int32) (x4 : Int32) (x5 : Int32) (σ : Mm), k13 x3 x4 x5 σ = some (r0, σ0) → Same (wr4_answer o o2) σ σ0) : ∀ (x4 : Int32) (x5 : Int32) (s0 : Int32) (σ : Mm), f4_answer_228 N k13 o o2 x4 x5 s0 σ = some (r0, σ0) → Same (wr4_answer o o2) σ σ0 := by
  intro x4 x5 s0 σ hf
  unfold f4_answer_228 at hf
  have hS : Same (wr4_answer o o2) σ σ := Same.rf
  exact hS.tr (fr4_answer_304 N hk13 s0 x4 x5 σ hf)
set_option maxHeartbeats 4000000 in
theorem fr4_answer_283 (N : Nat) {o : Nat} {o2 : Nat} {σ0 : Mm} {r0 : Int32} {k13 : Int32 → Int32 → Int32 → Mm → Option (Int32 × Mm)} (hk13 : ∀ (x3 : Int32) (x4 : Int32) (x5 : Int32) (σ : Mm), k13 x3 x4 x5 σ = some (r0, σ0) → Same (wr4_answer o o2) σ σ0) : ∀ (x3 : Int32) (x4 : Int32) (x5 : Int32) (x8 : Int32) (x9 : Int32) (σ : Mm), f4_answer_283 N k13 o o2 x3 x4 x5 x8 x9 σ = some (r0, σ0) → Same (wr4_answer o o2) σ σ0 := by
  intro x3 x4 x5 x8 x9 σ hf
  unfold f4_answer_283 at hf
  have hS : Same (wr4_answer o o2) σ σ := Same.rf
  rcases z_if hf with hf | hf
  · obtain ⟨-, rfl⟩ := Prod.mk.inj (Option.some.inj hf)
    exact hS
  · obtain ⟨-, hf⟩ := z_c_e hf
    obtain ⟨-, hf⟩ := z_c_e hf
    obtain ⟨σ_18, eσ_18, hf⟩ := z_l_x hf
    have hS := hS.tr (υ := σ_18) (by rw [eσ_18]; exact Same_sIe (i := 0) rfl)
    exact hS.tr (fr4_answer_304 N hk13 x3 x4 x5 σ_18 hf)
set_option maxHeartbeats 4000000 in
theorem fr4_answer_118 (N : Nat) {o : Nat} {o2 : Nat} {σ0 : Mm} {r0 : Int32} : ∀ (x4 : Int32) (σ : Mm), f4_answer_118 N o o2 x4 σ = some (r0, σ0) → Same (wr4_answer o o2) σ σ0 := by
  intro x4 σ hf
  unfold f4_answer_118 at hf
  have hS : Same (wr4_answer o o2) σ σ := Same.rf
  rcases z_if hf with hf | hf
  · obtain ⟨-, rfl⟩ := Prod.mk.inj (Option.some.inj hf)
    exact hS
  · obtain ⟨hi_22, hf⟩ := z_c_e hf
    obtain ⟨-, rfl⟩ := Prod.mk.inj (Option.some.inj hf)
    exact hS
set_option maxHeartbeats 4000000 in
theorem fr4_answer_13 (N : Nat) {o : Nat} {o2 : Nat} {σ0 : Mm} {r0 : Int32} : ∀ (fu : Nat) (x3 : Int32) (x4 : Int32) (x5 : Int32) (σ : Mm), f4_answer_13 N o o2 fu x3 x4 x5 σ = some (r0, σ0) → Same (wr4_answer o o2) σ σ0 := by
  intro fu
  induction fu with
  | zero =>
    intro x3 x4 x5 σ hf
    rw [f4_answer_13] at hf
    cases hf
  | succ fu ih =>
    intro x3 x4 x5 σ hf
    rw [f4_answer_13] at hf
    have hS : Same (wr4_answer o o2) σ σ := Same.rf
    rcases z_if hf with hf | hf
    · obtain ⟨-, rfl⟩ := Prod.mk.inj (Option.some.inj hf)
      exact hS
    · rcases z_if hf with hf | hf
      · obtain ⟨-, rfl⟩ := Prod.mk.inj (Option.some.inj hf)
        exact hS
      · obtain ⟨hi_3, hf⟩ := z_c_e hf
        obtain ⟨x6_4, ex6_4, hf⟩ := z_l_x hf
        obtain ⟨hi_5, hf⟩ := z_c_e hf
        obtain ⟨x7_6, ex7_6, hf⟩ := z_l_x hf
        obtain ⟨x3_7, ex3_7, hf⟩ := z_l_x hf
        rcases z_if hf with hf | hf
        · exact hS.tr (fr4_answer_60 N ih x3_7 x4 x5 x6_4 x7_6 σ hf)
        · rcases z_if hf with hf | hf
          · exact hS.tr (fr4_answer_60 N ih x3_7 x4 x5 x6_4 x7_6 σ hf)
          · rcases z_if hf with hf | hf
            · exact hS.tr (fr4_answer_118 N  x4 σ hf)
            · rcases z_if hf with hf | hf
              · obtain ⟨x4_12, ex4_12, hf⟩ := z_l_x hf
                obtain ⟨hi_13, hf⟩ := z_c_e hf
                obtain ⟨x8_14, ex8_14, hf⟩ := z_l_x hf
                obtain ⟨hi_15, hf⟩ := z_c_e hf
                obtain ⟨x9_16, ex9_16, hf⟩ := z_l_x hf
                rcases z_if hf with hf | hf
                · obtain ⟨x4_17, ex4_17, hf⟩ := z_l_x hf
                  rcases z_if hf with hf | hf
                  · exact hS.tr (fr4_answer_228 N ih x4_17 x5 x7_6 σ hf)
                  · exact hS.tr (fr4_answer_228 N ih x4_17 x5 x3_7 σ hf)
                rcases z_if hf with hf | hf
                · exact hS.tr (fr4_answer_283 N ih x3_7 x4_12 x5 x8_14 x9_16 σ hf)
                rcases z_if hf with hf | hf
                · exact hS.tr (fr4_answer_283 N ih x3_7 x4_12 x5 x8_14 x9_16 σ hf)
                rcases z_if hf with hf | hf
                · exact hS.tr (fr4_answer_283 N ih x3_7 x4_12 x5 x8_14 x9_16 σ hf)
                rcases z_if hf with hf | hf
                · obtain ⟨-, hf⟩ := z_c_e hf
                  obtain ⟨σ_19, eσ_19, hf⟩ := z_l_x hf
                  have hS := hS.tr (υ := σ_19) (by rw [eσ_19]; exact Same_sIe (i := 0) rfl)
                  exact hS.tr (fr4_answer_304 N ih x3_7 x4_12 x5 σ_19 hf)
                rcases z_if hf with hf | hf
                · obtain ⟨-, hf⟩ := z_c_e hf
                  obtain ⟨σ_20, eσ_20, hf⟩ := z_l_x hf
                  have hS := hS.tr (υ := σ_20) (by rw [eσ_20]; exact Same_sIe (i := 0) rfl)
                  exact hS.tr (fr4_answer_304 N ih x3_7 x4_12 x5 σ_20 hf)
                rcases z_if hf with hf | hf
                · obtain ⟨-, hf⟩ := z_c_e hf
                  obtain ⟨σ_21, eσ_21, hf⟩ := z_l_x hf
                  have hS := hS.tr (υ := σ_21) (by rw [eσ_21]; exact Same_sIe (i := 0) rfl)
                  exact hS.tr (fr4_answer_304 N ih x3_7 x4_12 x5 σ_21 hf)
                exact hS.tr (fr4_answer_283 N ih x3_7 x4_12 x5 x8_14 x9_16 σ hf)
              · obtain ⟨-, rfl⟩ := Prod.mk.inj (Option.some.inj hf)
                exact hS
set_option maxHeartbeats 4000000 in
theorem fr4_answer (N : Nat) {o : Nat} {o2 : Nat} {x1 : Int32} {σ σ0 : Mm} {r0 : Int32} (hf : f4_answer N o o2 x1 σ = some (r0, σ0)) : Same (wr4_answer o o2) σ σ0 := by
  unfold f4_answer at hf
  have hS : Same (wr4_answer o o2) σ σ := Same.rf
  obtain ⟨hi_1, hf⟩ := z_c_e hf
  obtain ⟨x3_2, ex3_2, hf⟩ := z_l_x hf
  exact hS.tr (fr4_answer_13 N  N x3_2 (0 : Int32) (0 : Int32) σ hf)
def wr0_swearersOf (o1 : Nat) : Wr := [(61, 1, some 0), (61, 1, some 1), (61, 1, some 2), (61, 1, some 3), (61, 1, some 4), (61, 1, some 5), (23, 1, none), (43, 1, none)]
set_option maxHeartbeats 4000000 in
theorem fr0_swearersOf_123 (N : Nat) {o1 : Nat} {x2 : Int32} {x3 : Int32} {x4 : Int32} {σ0 : Mm} {r0 : Int32} {k6 : Int32 → Int32 → Mm → Option (Int32 × Mm)} (hk6 : ∀ (x5 : Int32) (x6 : Int32) (σ : Mm), k6 x5 x6 σ = some (r0, σ0) → Same (wr0_swearersOf o1) σ σ0) : ∀ (x5 : Int32) (x6 : Int32) (σ : Mm), f0_swearersOf_123 N k6 o1 x2 x3 x4 x5 x6 σ = some (r0, σ0) → Same (wr0_swearersOf o1) σ σ0 := by
  intro x5 x6 σ hf
  unfold f0_swearersOf_123 at hf
  have hS : Same (wr0_swearersOf o1) σ σ := Same.rf
  obtain ⟨x6_4, ex6_4, hf⟩ := z_l_x hf
  exact hS.tr (hk6 x5 x6_4 σ hf)
set_option maxHeartbeats 4000000 in
theorem fr0_swearersOf_6 (N : Nat) {o1 : Nat} {x2 : Int32} {x3 : Int32} {x4 : Int32} {σ0 : Mm} {r0 : Int32} : ∀ (fu : Nat) (x5 : Int32) (x6 : Int32) (σ : Mm), f0_swearersOf_6 N o1 x2 x3 x4 fu x5 x6 σ = some (r0, σ0) → Same (wr0_swearersOf o1) σ σ0 := by
  intro fu
  induction fu with
  | zero =>
    intro x5 x6 σ hf
    rw [f0_swearersOf_6] at hf
    cases hf
  | succ fu ih =>
    intro x5 x6 σ hf
    rw [f0_swearersOf_6] at hf
    have hS : Same (wr0_swearersOf o1) σ σ := Same.rf
    obtain ⟨t_1, ht_2, kht_2, hf⟩ := z_r_e hf
    rcases z_if hf with hf | hf
    · obtain ⟨-, rfl⟩ := Prod.mk.inj (Option.some.inj hf)
      exact hS
    · obtain ⟨x7_3, ex7_3, hf⟩ := z_l_x hf
      rcases z_if hf with hf | hf
      · exact hS.tr (fr0_swearersOf_123 N ih x5 x6 σ hf)
      · obtain ⟨hi_5, hf⟩ := z_c_e hf
        obtain ⟨-, hf⟩ := z_c_e hf
        obtain ⟨σ_6, eσ_6, hf⟩ := z_l_x hf
        have hS := hS.tr (υ := σ_6) (by rw [eσ_6]; exact Same_sI (i := 0) rfl)
        obtain ⟨t_7, ht_8, kht_8, hf⟩ := z_r_e hf
        obtain ⟨hi_9, hf⟩ := z_c_e hf
        obtain ⟨-, hf⟩ := z_c_e hf
        obtain ⟨σ_10, eσ_10, hf⟩ := z_l_x hf
        have hS := hS.tr (υ := σ_10) (by rw [eσ_10]; exact Same_sI (i := 1) rfl)
        obtain ⟨-, hf⟩ := z_c_e hf
        obtain ⟨σ_11, eσ_11, hf⟩ := z_l_x hf
        have hS := hS.tr (υ := σ_11) (by rw [eσ_11]; exact Same_sI (i := 2) rfl)
        obtain ⟨-, hf⟩ := z_c_e hf
        obtain ⟨σ_12, eσ_12, hf⟩ := z_l_x hf
        have hS := hS.tr (υ := σ_12) (by rw [eσ_12]; exact Same_sI (i := 3) rfl)
        obtain ⟨-, hf⟩ := z_c_e hf
        obtain ⟨σ_13, eσ_13, hf⟩ := z_l_x hf
        have hS := hS.tr (υ := σ_13) (by rw [eσ_13]; exact Same_sI (i := 4) rfl)
        obtain ⟨-, hf⟩ := z_c_e hf
        obtain ⟨σ_14, eσ_14, hf⟩ := z_l_x hf
        have hS := hS.tr (υ := σ_14) (by rw [eσ_14]; exact Same_sI (i := 5) rfl)
        obtain ⟨t_15, ht_16, kht_16, hf⟩ := z_r_e hf
        obtain ⟨r_17, σ_18, hc_19, hf⟩ := z_b_e hf
        have hS := hS.tr ((fr4_answer N hc_19).mono ((kdo_3 kht_16).elim (fun e9 => by rw [e9]; exact wsub [6] rfl) (fun e9 => by rw [e9]; exact wsub [7] rfl)))
        rcases z_if hf with hf | hf
        · exact hS.tr (fr0_swearersOf_123 N ih x5 x6 σ_18 hf)
        · obtain ⟨x5_20, ex5_20, hf⟩ := z_l_x hf
          exact hS.tr (fr0_swearersOf_123 N ih x5_20 x6 σ_18 hf)
set_option maxHeartbeats 4000000 in
theorem fr0_swearersOf (N : Nat) {o1 : Nat} {x2 : Int32} {x3 : Int32} {x4 : Int32} {σ σ0 : Mm} {r0 : Int32} (hf : f0_swearersOf N o1 x2 x3 x4 σ = some (r0, σ0)) : Same (wr0_swearersOf o1) σ σ0 := by
  unfold f0_swearersOf at hf
  have hS : Same (wr0_swearersOf o1) σ σ := Same.rf
  exact hS.tr (fr0_swearersOf_6 N  N (0 : Int32) (0 : Int32) σ hf)
def wr0_swearers (o1 : Nat) : Wr := [(61, 1, some 0), (61, 1, some 1), (61, 1, some 2), (61, 1, some 3), (61, 1, some 4), (61, 1, some 5), (23, 1, none), (43, 1, none)]
set_option maxHeartbeats 4000000 in
theorem fr0_swearers (N : Nat) {o1 : Nat} {x2 : Int32} {x3 : Int32} {σ σ0 : Mm} {r0 : Int32} (hf : f0_swearers N o1 x2 x3 σ = some (r0, σ0)) : Same (wr0_swearers o1) σ σ0 := by
  unfold f0_swearers at hf
  have hS : Same (wr0_swearers o1) σ σ := Same.rf
  obtain ⟨hi_1, hf⟩ := z_c_e hf
  obtain ⟨x4_2, ex4_2, hf⟩ := z_l_x hf
  obtain ⟨hi_3, hf⟩ := z_c_e hf
  obtain ⟨x5_4, ex5_4, hf⟩ := z_l_x hf
  obtain ⟨r_5, σ_6, hc_7, hf⟩ := z_b_e hf
  have hS := hS.tr ((fr0_swearersOf N hc_7).mono (wsub [0, 1, 2, 3, 4, 5, 6, 7] rfl))
  obtain ⟨-, rfl⟩ := Prod.mk.inj (Option.some.inj hf)
  exact hS
def wr0_howManySwear (o1 : Nat) : Wr := [(61, 1, some 0), (61, 1, some 1), (61, 1, some 2), (61, 1, some 3), (61, 1, some 4), (61, 1, some 5), (23, 1, none), (43, 1, none)]
set_option maxHeartbeats 4000000 in
theorem fr0_howManySwear (N : Nat) {o1 : Nat} {x2 : Int32} {σ σ0 : Mm} {r0 : Int32} (hf : f0_howManySwear N o1 x2 σ = some (r0, σ0)) : Same (wr0_howManySwear o1) σ σ0 := by
  unfold f0_howManySwear at hf
  have hS : Same (wr0_howManySwear o1) σ σ := Same.rf
  obtain ⟨hi_1, hf⟩ := z_c_e hf
  obtain ⟨r_2, σ_3, hc_4, hf⟩ := z_b_e hf
  have hS := hS.tr ((fr0_swearers N hc_4).mono (wsub [0, 1, 2, 3, 4, 5, 6, 7] rfl))
  obtain ⟨-, rfl⟩ := Prod.mk.inj (Option.some.inj hf)
  exact hS
def wr0_swornToBy (o1 : Nat) : Wr := [(61, 1, some 0), (61, 1, some 1), (61, 1, some 2), (61, 1, some 3), (61, 1, some 4), (61, 1, some 5), (23, 1, none), (43, 1, none)]
set_option maxHeartbeats 4000000 in
theorem fr0_swornToBy_34 (N : Nat) {o1 : Nat} {x2 : Int32} {σ0 : Mm} {r0 : Int32} {k5 : Int32 → Int32 → Mm → Option (Int32 × Mm)} (hk5 : ∀ (x3 : Int32) (x4 : Int32) (σ : Mm), k5 x3 x4 σ = some (r0, σ0) → Same (wr0_swornToBy o1) σ σ0) : ∀ (x3 : Int32) (x4 : Int32) (σ : Mm), f0_swornToBy_34 N k5 o1 x2 x3 x4 σ = some (r0, σ0) → Same (wr0_swornToBy o1) σ σ0 := by
  intro x3 x4 σ hf
  unfold f0_swornToBy_34 at hf
  have hS : Same (wr0_swornToBy o1) σ σ := Same.rf
  obtain ⟨x4_4, ex4_4, hf⟩ := z_l_x hf
  exact hS.tr (hk5 x3 x4_4 σ hf)
set_option maxHeartbeats 4000000 in
theorem fr0_swornToBy_5 (N : Nat) {o1 : Nat} {x2 : Int32} {σ0 : Mm} {r0 : Int32} : ∀ (fu : Nat) (x3 : Int32) (x4 : Int32) (σ : Mm), f0_swornToBy_5 N o1 x2 fu x3 x4 σ = some (r0, σ0) → Same (wr0_swornToBy o1) σ σ0 := by
  intro fu
  induction fu with
  | zero =>
    intro x3 x4 σ hf
    rw [f0_swornToBy_5] at hf
    cases hf
  | succ fu ih =>
    intro x3 x4 σ hf
    rw [f0_swornToBy_5] at hf
    have hS : Same (wr0_swornToBy o1) σ σ := Same.rf
    rcases z_if hf with hf | hf
    · obtain ⟨-, rfl⟩ := Prod.mk.inj (Option.some.inj hf)
      exact hS
    · obtain ⟨r_1, σ_2, hc_3, hf⟩ := z_b_e hf
      have hS := hS.tr ((fr0_swearers N hc_3).mono (wsub [0, 1, 2, 3, 4, 5, 6, 7] rfl))
      rcases z_if hf with hf | hf
      · exact hS.tr (fr0_swornToBy_34 N ih x3 x4 σ_2 hf)
      · obtain ⟨x3_5, ex3_5, hf⟩ := z_l_x hf
        exact hS.tr (fr0_swornToBy_34 N ih x3_5 x4 σ_2 hf)
set_option maxHeartbeats 4000000 in
theorem fr0_swornToBy (N : Nat) {o1 : Nat} {x2 : Int32} {σ σ0 : Mm} {r0 : Int32} (hf : f0_swornToBy N o1 x2 σ = some (r0, σ0)) : Same (wr0_swornToBy o1) σ σ0 := by
  unfold f0_swornToBy at hf
  have hS : Same (wr0_swornToBy o1) σ σ := Same.rf
  exact hS.tr (fr0_swornToBy_5 N  N (0 : Int32) (0 : Int32) σ hf)
def wr0_stands (o1 : Nat) : Wr := [(61, 1, some 0), (61, 1, some 1), (61, 1, some 2), (61, 1, some 3), (61, 1, some 4), (61, 1, some 5), (23, 1, none), (43, 1, none)]
set_option maxHeartbeats 4000000 in
theorem fr0_stands (N : Nat) {o1 : Nat} {x2 : Int32} {σ σ0 : Mm} {r0 : Int32} (hf : f0_stands N o1 x2 σ = some (r0, σ0)) : Same (wr0_stands o1) σ σ0 := by
  unfold f0_stands at hf
  have hS : Same (wr0_stands o1) σ σ := Same.rf
  rcases z_if hf with hf | hf
  · obtain ⟨hi_1, hf⟩ := z_c_e hf
    obtain ⟨r_2, σ_3, hc_4, hf⟩ := z_b_e hf
    have hS := hS.tr ((fr0_swearers N hc_4).mono (wsub [0, 1, 2, 3, 4, 5, 6, 7] rfl))
    obtain ⟨t_5, ht_6, kht_6, hf⟩ := z_r_e hf
    rcases z_if hf with hf | hf
    · obtain ⟨-, rfl⟩ := Prod.mk.inj (Option.some.inj hf)
      exact hS
    · obtain ⟨-, rfl⟩ := Prod.mk.inj (Option.some.inj hf)
      exact hS
  · obtain ⟨-, rfl⟩ := Prod.mk.inj (Option.some.inj hf)
    exact hS
def wr0_standing (o1 : Nat) : Wr := [(61, 1, some 0), (61, 1, some 1), (61, 1, some 2), (61, 1, some 3), (61, 1, some 4), (61, 1, some 5), (23, 1, none), (43, 1, none)]
set_option maxHeartbeats 4000000 in
theorem fr0_standing_27 (N : Nat) {o1 : Nat} {σ0 : Mm} {r0 : Int32} {k4 : Int32 → Int32 → Mm → Option (Int32 × Mm)} (hk4 : ∀ (x2 : Int32) (x3 : Int32) (σ : Mm), k4 x2 x3 σ = some (r0, σ0) → Same (wr0_standing o1) σ σ0) : ∀ (x2 : Int32) (x3 : Int32) (σ : Mm), f0_standing_27 N k4 o1 x2 x3 σ = some (r0, σ0) → Same (wr0_standing o1) σ σ0 := by
  intro x2 x3 σ hf
  unfold f0_standing_27 at hf
  have hS : Same (wr0_standing o1) σ σ := Same.rf
  obtain ⟨x3_4, ex3_4, hf⟩ := z_l_x hf
  exact hS.tr (hk4 x2 x3_4 σ hf)
set_option maxHeartbeats 4000000 in
theorem fr0_standing_4 (N : Nat) {o1 : Nat} {σ0 : Mm} {r0 : Int32} : ∀ (fu : Nat) (x2 : Int32) (x3 : Int32) (σ : Mm), f0_standing_4 N o1 fu x2 x3 σ = some (r0, σ0) → Same (wr0_standing o1) σ σ0 := by
  intro fu
  induction fu with
  | zero =>
    intro x2 x3 σ hf
    rw [f0_standing_4] at hf
    cases hf
  | succ fu ih =>
    intro x2 x3 σ hf
    rw [f0_standing_4] at hf
    have hS : Same (wr0_standing o1) σ σ := Same.rf
    rcases z_if hf with hf | hf
    · obtain ⟨-, rfl⟩ := Prod.mk.inj (Option.some.inj hf)
      exact hS
    · obtain ⟨r_1, σ_2, hc_3, hf⟩ := z_b_e hf
      have hS := hS.tr ((fr0_stands N hc_3).mono (wsub [0, 1, 2, 3, 4, 5, 6, 7] rfl))
      rcases z_if hf with hf | hf
      · exact hS.tr (fr0_standing_27 N ih x2 x3 σ_2 hf)
      · obtain ⟨x2_5, ex2_5, hf⟩ := z_l_x hf
        exact hS.tr (fr0_standing_27 N ih x2_5 x3 σ_2 hf)
set_option maxHeartbeats 4000000 in
theorem fr0_standing (N : Nat) {o1 : Nat} {σ σ0 : Mm} {r0 : Int32} (hf : f0_standing N o1 σ = some (r0, σ0)) : Same (wr0_standing o1) σ σ0 := by
  unfold f0_standing at hf
  have hS : Same (wr0_standing o1) σ σ := Same.rf
  exact hS.tr (fr0_standing_4 N  N (0 : Int32) (0 : Int32) σ hf)
def wr0_counting (o1 : Nat) : Wr := [(61, 1, some 0), (61, 1, some 1), (61, 1, some 2), (61, 1, some 3), (61, 1, some 4), (61, 1, some 5), (23, 1, none), (43, 1, none)]
set_option maxHeartbeats 4000000 in
theorem fr0_counting_83 (N : Nat) {o1 : Nat} {x2 : Int32} {σ0 : Mm} {r0 : Int32} {k16 : Int32 → Int32 → Int32 → Mm → Option (Int32 × Mm)} (hk16 : ∀ (x3 : Int32) (x4 : Int32) (x5 : Int32) (σ : Mm), k16 x3 x4 x5 σ = some (r0, σ0) → Same (wr0_counting o1) σ σ0) : ∀ (x3 : Int32) (x4 : Int32) (x5 : Int32) (σ : Mm), f0_counting_83 N k16 o1 x2 x3 x4 x5 σ = some (r0, σ0) → Same (wr0_counting o1) σ σ0 := by
  intro x3 x4 x5 σ hf
  unfold f0_counting_83 at hf
  have hS : Same (wr0_counting o1) σ σ := Same.rf
  obtain ⟨x5_6, ex5_6, hf⟩ := z_l_x hf
  exact hS.tr (hk16 x3 x4 x5_6 σ hf)
set_option maxHeartbeats 4000000 in
theorem fr0_counting_16 (N : Nat) {o1 : Nat} {x2 : Int32} {σ0 : Mm} {r0 : Int32} : ∀ (fu : Nat) (x3 : Int32) (x4 : Int32) (x5 : Int32) (σ : Mm), f0_counting_16 N o1 x2 fu x3 x4 x5 σ = some (r0, σ0) → Same (wr0_counting o1) σ σ0 := by
  intro fu
  induction fu with
  | zero =>
    intro x3 x4 x5 σ hf
    rw [f0_counting_16] at hf
    cases hf
  | succ fu ih =>
    intro x3 x4 x5 σ hf
    rw [f0_counting_16] at hf
    have hS : Same (wr0_counting o1) σ σ := Same.rf
    rcases z_if hf with hf | hf
    · obtain ⟨-, rfl⟩ := Prod.mk.inj (Option.some.inj hf)
      exact hS
    · obtain ⟨hi_5, hf⟩ := z_c_e hf
      rcases z_if hf with hf | hf
      · obtain ⟨hi_7, hf⟩ := z_c_e hf
        rcases z_if hf with hf | hf
        · obtain ⟨r_8, σ_9, hc_10, hf⟩ := z_b_e hf
          have hS := hS.tr ((fr0_stands N hc_10).mono (wsub [0, 1, 2, 3, 4, 5, 6, 7] rfl))
          rcases z_if hf with hf | hf
          · exact hS.tr (fr0_counting_83 N ih x3 x4 x5 σ_9 hf)
          · obtain ⟨hi_11, hf⟩ := z_c_e hf
            obtain ⟨x4_12, ex4_12, hf⟩ := z_l_x hf
            obtain ⟨x3_13, ex3_13, hf⟩ := z_l_x hf
            exact hS.tr (fr0_counting_83 N ih x3_13 x4_12 x5 σ_9 hf)
        · exact hS.tr (fr0_counting_83 N ih x3 x4 x5 σ hf)
      · exact hS.tr (fr0_counting_83 N ih x3 x4 x5 σ hf)
set_option maxHeartbeats 4000000 in
theorem fr0_counting (N : Nat) {o1 : Nat} {x2 : Int32} {σ σ0 : Mm} {r0 : Int32} (hf : f0_counting N o1 x2 σ = some (r0, σ0)) : Same (wr0_counting o1) σ σ0 := by
  unfold f0_counting at hf
  have hS : Same (wr0_counting o1) σ σ := Same.rf
  obtain ⟨t_1, ht_2, kht_2, hf⟩ := z_r_e hf
  obtain ⟨hi_3, hf⟩ := z_c_e hf
  obtain ⟨x4_4, ex4_4, hf⟩ := z_l_x hf
  exact hS.tr (fr0_counting_16 N  N (0 : Int32) x4_4 (0 : Int32) σ hf)
def wr0_countingOfAll (o1 : Nat) : Wr := [(61, 1, some 0), (61, 1, some 1), (61, 1, some 2), (61, 1, some 3), (61, 1, some 4), (61, 1, some 5), (23, 1, none), (43, 1, none)]
set_option maxHeartbeats 4000000 in
theorem fr0_countingOfAll_4 (N : Nat) {o1 : Nat} {σ0 : Mm} {r0 : Int32} : ∀ (fu : Nat) (x2 : Int32) (x3 : Int32) (σ : Mm), f0_countingOfAll_4 N o1 fu x2 x3 σ = some (r0, σ0) → Same (wr0_countingOfAll o1) σ σ0 := by
  intro fu
  induction fu with
  | zero =>
    intro x2 x3 σ hf
    rw [f0_countingOfAll_4] at hf
    cases hf
  | succ fu ih =>
    intro x2 x3 σ hf
    rw [f0_countingOfAll_4] at hf
    have hS : Same (wr0_countingOfAll o1) σ σ := Same.rf
    obtain ⟨t_1, ht_2, kht_2, hf⟩ := z_r_e hf
    rcases z_if hf with hf | hf
    · obtain ⟨-, rfl⟩ := Prod.mk.inj (Option.some.inj hf)
      exact hS
    · obtain ⟨r_3, σ_4, hc_5, hf⟩ := z_b_e hf
      have hS := hS.tr ((fr0_counting N hc_5).mono (wsub [0, 1, 2, 3, 4, 5, 6, 7] rfl))
      obtain ⟨x2_6, ex2_6, hf⟩ := z_l_x hf
      obtain ⟨x3_7, ex3_7, hf⟩ := z_l_x hf
      exact hS.tr (ih x2_6 x3_7 σ_4 hf)
set_option maxHeartbeats 4000000 in
theorem fr0_countingOfAll (N : Nat) {o1 : Nat} {σ σ0 : Mm} {r0 : Int32} (hf : f0_countingOfAll N o1 σ = some (r0, σ0)) : Same (wr0_countingOfAll o1) σ σ0 := by
  unfold f0_countingOfAll at hf
  have hS : Same (wr0_countingOfAll o1) σ σ := Same.rf
  exact hS.tr (fr0_countingOfAll_4 N  N (0 : Int32) (0 : Int32) σ hf)
def wr0_owner (o1 : Nat) : Wr := [(61, 1, some 0), (61, 1, some 1), (61, 1, some 2), (61, 1, some 3), (61, 1, some 4), (61, 1, some 5), (23, 1, none), (43, 1, none)]
set_option maxHeartbeats 4000000 in
theorem fr0_owner_71 (N : Nat) {o1 : Nat} {x2 : Int32} {σ0 : Mm} {r0 : Int32} {k13 : Int32 → Int32 → Mm → Option (Int32 × Mm)} (hk13 : ∀ (x3 : Int32) (x4 : Int32) (σ : Mm), k13 x3 x4 σ = some (r0, σ0) → Same (wr0_owner o1) σ σ0) : ∀ (x3 : Int32) (x4 : Int32) (σ : Mm), f0_owner_71 N k13 o1 x2 x3 x4 σ = some (r0, σ0) → Same (wr0_owner o1) σ σ0 := by
  intro x3 x4 σ hf
  unfold f0_owner_71 at hf
  have hS : Same (wr0_owner o1) σ σ := Same.rf
  obtain ⟨x4_6, ex4_6, hf⟩ := z_l_x hf
  exact hS.tr (hk13 x3 x4_6 σ hf)
set_option maxHeartbeats 4000000 in
theorem fr0_owner_13 (N : Nat) {o1 : Nat} {x2 : Int32} {σ0 : Mm} {r0 : Int32} : ∀ (fu : Nat) (x3 : Int32) (x4 : Int32) (σ : Mm), f0_owner_13 N o1 x2 fu x3 x4 σ = some (r0, σ0) → Same (wr0_owner o1) σ σ0 := by
  intro fu
  induction fu with
  | zero =>
    intro x3 x4 σ hf
    rw [f0_owner_13] at hf
    cases hf
  | succ fu ih =>
    intro x3 x4 σ hf
    rw [f0_owner_13] at hf
    have hS : Same (wr0_owner o1) σ σ := Same.rf
    rcases z_if hf with hf | hf
    · obtain ⟨-, rfl⟩ := Prod.mk.inj (Option.some.inj hf)
      exact hS
    · obtain ⟨hi_5, hf⟩ := z_c_e hf
      rcases z_if hf with hf | hf
      · obtain ⟨hi_7, hf⟩ := z_c_e hf
        rcases z_if hf with hf | hf
        · obtain ⟨r_8, σ_9, hc_10, hf⟩ := z_b_e hf
          have hS := hS.tr ((fr0_stands N hc_10).mono (wsub [0, 1, 2, 3, 4, 5, 6, 7] rfl))
          rcases z_if hf with hf | hf
          · exact hS.tr (fr0_owner_71 N ih x3 x4 σ_9 hf)
          · obtain ⟨hi_11, hf⟩ := z_c_e hf
            obtain ⟨x3_12, ex3_12, hf⟩ := z_l_x hf
            exact hS.tr (fr0_owner_71 N ih x3_12 x4 σ_9 hf)
        · exact hS.tr (fr0_owner_71 N ih x3 x4 σ hf)
      · exact hS.tr (fr0_owner_71 N ih x3 x4 σ hf)
set_option maxHeartbeats 4000000 in
theorem fr0_owner (N : Nat) {o1 : Nat} {x2 : Int32} {σ σ0 : Mm} {r0 : Int32} (hf : f0_owner N o1 x2 σ = some (r0, σ0)) : Same (wr0_owner o1) σ σ0 := by
  unfold f0_owner at hf
  have hS : Same (wr0_owner o1) σ σ := Same.rf
  obtain ⟨t_1, ht_2, kht_2, hf⟩ := z_r_e hf
  obtain ⟨hi_3, hf⟩ := z_c_e hf
  obtain ⟨x3_4, ex3_4, hf⟩ := z_l_x hf
  exact hS.tr (fr0_owner_13 N  N x3_4 (0 : Int32) σ hf)
def wr0_ownerByBook (o1 : Nat) : Wr := []
set_option maxHeartbeats 4000000 in
theorem fr0_ownerByBook_85 (N : Nat) {o1 : Nat} {x2 : Int32} {σ0 : Mm} {r0 : Int32} {k13 : Int32 → Int32 → Mm → Option (Int32 × Mm)} (hk13 : ∀ (x3 : Int32) (x4 : Int32) (σ : Mm), k13 x3 x4 σ = some (r0, σ0) → Same (wr0_ownerByBook o1) σ σ0) : ∀ (x3 : Int32) (x4 : Int32) (σ : Mm), f0_ownerByBook_85 N k13 o1 x2 x3 x4 σ = some (r0, σ0) → Same (wr0_ownerByBook o1) σ σ0 := by
  intro x3 x4 σ hf
  unfold f0_ownerByBook_85 at hf
  have hS : Same (wr0_ownerByBook o1) σ σ := Same.rf
  obtain ⟨x4_5, ex4_5, hf⟩ := z_l_x hf
  exact hS.tr (hk13 x3 x4_5 σ hf)
set_option maxHeartbeats 4000000 in
theorem fr0_ownerByBook_39 (N : Nat) {o1 : Nat} {x2 : Int32} {σ0 : Mm} {r0 : Int32} {k13 : Int32 → Int32 → Mm → Option (Int32 × Mm)} (hk13 : ∀ (x3 : Int32) (x4 : Int32) (σ : Mm), k13 x3 x4 σ = some (r0, σ0) → Same (wr0_ownerByBook o1) σ σ0) : ∀ (x3 : Int32) (x4 : Int32) (s0 : Int32) (σ : Mm), f0_ownerByBook_39 N k13 o1 x2 x3 x4 s0 σ = some (r0, σ0) → Same (wr0_ownerByBook o1) σ σ0 := by
  intro x3 x4 s0 σ hf
  unfold f0_ownerByBook_39 at hf
  have hS : Same (wr0_ownerByBook o1) σ σ := Same.rf
  rcases z_if hf with hf | hf
  · exact hS.tr (fr0_ownerByBook_85 N hk13 x3 x4 σ hf)
  · obtain ⟨hi_6, hf⟩ := z_c_e hf
    rcases z_if hf with hf | hf
    · obtain ⟨hi_7, hf⟩ := z_c_e hf
      rcases z_if hf with hf | hf
      · obtain ⟨hi_8, hf⟩ := z_c_e hf
        obtain ⟨x3_9, ex3_9, hf⟩ := z_l_x hf
        exact hS.tr (fr0_ownerByBook_85 N hk13 x3_9 x4 σ hf)
      · exact hS.tr (fr0_ownerByBook_85 N hk13 x3 x4 σ hf)
    · exact hS.tr (fr0_ownerByBook_85 N hk13 x3 x4 σ hf)
set_option maxHeartbeats 4000000 in
theorem fr0_ownerByBook_13 (N : Nat) {o1 : Nat} {x2 : Int32} {σ0 : Mm} {r0 : Int32} : ∀ (fu : Nat) (x3 : Int32) (x4 : Int32) (σ : Mm), f0_ownerByBook_13 N o1 x2 fu x3 x4 σ = some (r0, σ0) → Same (wr0_ownerByBook o1) σ σ0 := by
  intro fu
  induction fu with
  | zero =>
    intro x3 x4 σ hf
    rw [f0_ownerByBook_13] at hf
    cases hf
  | succ fu ih =>
    intro x3 x4 σ hf
    rw [f0_ownerByBook_13] at hf
    have hS : Same (wr0_ownerByBook o1) σ σ := Same.rf
    rcases z_if hf with hf | hf
    · obtain ⟨-, rfl⟩ := Prod.mk.inj (Option.some.inj hf)
      exact hS
    · rcases z_if hf with hf | hf
      · exact hS.tr (fr0_ownerByBook_39 N ih x3 x4 (1 : Int32) σ hf)
      · exact hS.tr (fr0_ownerByBook_39 N ih x3 x4 (0 : Int32) σ hf)
set_option maxHeartbeats 4000000 in
theorem fr0_ownerByBook (N : Nat) {o1 : Nat} {x2 : Int32} {σ σ0 : Mm} {r0 : Int32} (hf : f0_ownerByBook N o1 x2 σ = some (r0, σ0)) : Same (wr0_ownerByBook o1) σ σ0 := by
  unfold f0_ownerByBook at hf
  have hS : Same (wr0_ownerByBook o1) σ σ := Same.rf
  obtain ⟨t_1, ht_2, kht_2, hf⟩ := z_r_e hf
  obtain ⟨hi_3, hf⟩ := z_c_e hf
  obtain ⟨x3_4, ex3_4, hf⟩ := z_l_x hf
  exact hS.tr (fr0_ownerByBook_13 N  N x3_4 (0 : Int32) σ hf)
def wr0_plotsOfOthers (o1 : Nat) (o2 : Nat) : Wr := [(61, 1, some 0), (61, 1, some 1), (61, 1, some 2), (61, 1, some 3), (61, 1, some 4), (61, 1, some 5), (23, 1, none), (43, 1, none)]
set_option maxHeartbeats 4000000 in
theorem fr0_plotsOfOthers_37 (N : Nat) {o1 : Nat} {o2 : Nat} {σ0 : Mm} {r0 : Int32} {k5 : Int32 → Int32 → Mm → Option (Int32 × Mm)} (hk5 : ∀ (x3 : Int32) (x4 : Int32) (σ : Mm), k5 x3 x4 σ = some (r0, σ0) → Same (wr0_plotsOfOthers o1 o2) σ σ0) : ∀ (x3 : Int32) (x4 : Int32) (σ : Mm), f0_plotsOfOthers_37 N k5 o1 o2 x3 x4 σ = some (r0, σ0) → Same (wr0_plotsOfOthers o1 o2) σ σ0 := by
  intro x3 x4 σ hf
  unfold f0_plotsOfOthers_37 at hf
  have hS : Same (wr0_plotsOfOthers o1 o2) σ σ := Same.rf
  obtain ⟨x4_9, ex4_9, hf⟩ := z_l_x hf
  exact hS.tr (hk5 x3 x4_9 σ hf)
set_option maxHeartbeats 4000000 in
theorem fr0_plotsOfOthers_5 (N : Nat) {o1 : Nat} {o2 : Nat} {σ0 : Mm} {r0 : Int32} : ∀ (fu : Nat) (x3 : Int32) (x4 : Int32) (σ : Mm), f0_plotsOfOthers_5 N o1 o2 fu x3 x4 σ = some (r0, σ0) → Same (wr0_plotsOfOthers o1 o2) σ σ0 := by
  intro fu
  induction fu with
  | zero =>
    intro x3 x4 σ hf
    rw [f0_plotsOfOthers_5] at hf
    cases hf
  | succ fu ih =>
    intro x3 x4 σ hf
    rw [f0_plotsOfOthers_5] at hf
    have hS : Same (wr0_plotsOfOthers o1 o2) σ σ := Same.rf
    obtain ⟨t_1, ht_2, kht_2, hf⟩ := z_r_e hf
    rcases z_if hf with hf | hf
    · obtain ⟨-, rfl⟩ := Prod.mk.inj (Option.some.inj hf)
      exact hS
    · obtain ⟨r_3, σ_4, hc_5, hf⟩ := z_b_e hf
      have hS := hS.tr ((fr0_owner N hc_5).mono (wsub [0, 1, 2, 3, 4, 5, 6, 7] rfl))
      obtain ⟨r_6, σ_7, hc_8, hf⟩ := z_b_e hf
      have hS := hS.tr ((fr0_owner N hc_8).mono (wsub [0, 1, 2, 3, 4, 5, 6, 7] rfl))
      rcases z_if hf with hf | hf
      · exact hS.tr (fr0_plotsOfOthers_37 N ih x3 x4 σ_7 hf)
      · obtain ⟨x3_10, ex3_10, hf⟩ := z_l_x hf
        exact hS.tr (fr0_plotsOfOthers_37 N ih x3_10 x4 σ_7 hf)
set_option maxHeartbeats 4000000 in
theorem fr0_plotsOfOthers (N : Nat) {o1 : Nat} {o2 : Nat} {σ σ0 : Mm} {r0 : Int32} (hf : f0_plotsOfOthers N o1 o2 σ = some (r0, σ0)) : Same (wr0_plotsOfOthers o1 o2) σ σ0 := by
  unfold f0_plotsOfOthers at hf
  have hS : Same (wr0_plotsOfOthers o1 o2) σ σ := Same.rf
  exact hS.tr (fr0_plotsOfOthers_5 N  N (0 : Int32) (0 : Int32) σ hf)
def wr0_countPlots (o1 : Nat) : Wr := [(65, 1, none), (61, 1, some 0), (61, 1, some 1), (61, 1, some 2), (61, 1, some 3), (61, 1, some 4), (61, 1, some 5), (23, 1, none), (43, 1, none)]
set_option maxHeartbeats 4000000 in
theorem fr0_countPlots_51 (N : Nat) {o1 : Nat} {σ0 : Mm} {u0 : Unit} {k10 : Int32 → Mm → Option (Unit × Mm)} (hk10 : ∀ (x2 : Int32) (σ : Mm), k10 x2 σ = some (u0, σ0) → Same (wr0_countPlots o1) σ σ0) : ∀ (x2 : Int32) (σ : Mm), f0_countPlots_51 N k10 o1 x2 σ = some (u0, σ0) → Same (wr0_countPlots o1) σ σ0 := by
  intro x2 σ hf
  unfold f0_countPlots_51 at hf
  have hS : Same (wr0_countPlots o1) σ σ := Same.rf
  obtain ⟨x2_8, ex2_8, hf⟩ := z_l_x hf
  exact hS.tr (hk10 x2_8 σ hf)
set_option maxHeartbeats 4000000 in
theorem fr0_countPlots_10 (N : Nat) {o1 : Nat} {σ0 : Mm} {u0 : Unit} : ∀ (fu : Nat) (x2 : Int32) (σ : Mm), f0_countPlots_10 N o1 fu x2 σ = some (u0, σ0) → Same (wr0_countPlots o1) σ σ0 := by
  intro fu
  induction fu with
  | zero =>
    intro x2 σ hf
    rw [f0_countPlots_10] at hf
    cases hf
  | succ fu ih =>
    intro x2 σ hf
    rw [f0_countPlots_10] at hf
    have hS : Same (wr0_countPlots o1) σ σ := Same.rf
    obtain ⟨t_3, ht_4, kht_4, hf⟩ := z_r_e hf
    rcases z_if hf with hf | hf
    · obtain ⟨-, rfl⟩ := Prod.mk.inj (Option.some.inj hf)
      exact hS
    · obtain ⟨r_5, σ_6, hc_7, hf⟩ := z_b_e hf
      have hS := hS.tr ((fr0_owner N hc_7).mono (wsub [1, 2, 3, 4, 5, 6, 7, 8] rfl))
      rcases z_if hf with hf | hf
      · exact hS.tr (fr0_countPlots_51 N ih x2 σ_6 hf)
      · rcases z_if hf with hf | hf
        · exact hS.tr (fr0_countPlots_51 N ih x2 σ_6 hf)
        · obtain ⟨hi_9, hf⟩ := z_c_e hf
          obtain ⟨-, hf⟩ := z_c_e hf
          obtain ⟨σ_10, eσ_10, hf⟩ := z_l_x hf
          have hS := hS.tr (υ := σ_10) (by rw [eσ_10]; exact Same_sIe (i := 0) rfl)
          exact hS.tr (fr0_countPlots_51 N ih x2 σ_10 hf)
set_option maxHeartbeats 4000000 in
theorem fr0_countPlots (N : Nat) {o1 : Nat} {σ σ0 : Mm} {u0 : Unit} (hf : f0_countPlots N o1 σ = some (u0, σ0)) : Same (wr0_countPlots o1) σ σ0 := by
  unfold f0_countPlots at hf
  have hS : Same (wr0_countPlots o1) σ σ := Same.rf
  obtain ⟨rhc_2, σ_1, hc_2, hf⟩ := z_b_e hf
  have hS := hS.tr ((frJ_fill N hc_2).mono (wsub [0] rfl))
  exact hS.tr (fr0_countPlots_10 N  N (0 : Int32) σ_1 hf)
def wr0_heldTo : Wr := []
set_option maxHeartbeats 4000000 in
theorem fr0_heldTo (N : Nat) {x0 : Int32} {x1 : Int32} {σ σ0 : Mm} {r0 : Int32} (hf : f0_heldTo N x0 x1 σ = some (r0, σ0)) : Same (wr0_heldTo) σ σ0 := by
  unfold f0_heldTo at hf
  have hS : Same (wr0_heldTo) σ σ := Same.rf
  obtain ⟨-, rfl⟩ := Prod.mk.inj (Option.some.inj hf)
  exact hS
def wr0_deathIn100 (o1 : Nat) : Wr := [(62, 1, some 0), (62, 1, some 1), (62, 1, some 3), (62, 1, some 4), (23, 1, none), (43, 1, none)]
set_option maxHeartbeats 4000000 in
theorem fr0_deathIn100 (N : Nat) {o1 : Nat} {x2 : Int32} {σ σ0 : Mm} {r0 : Int32} (hf : f0_deathIn100 N o1 x2 σ = some (r0, σ0)) : Same (wr0_deathIn100 o1) σ σ0 := by
  unfold f0_deathIn100 at hf
  have hS : Same (wr0_deathIn100 o1) σ σ := Same.rf
  obtain ⟨hi_1, hf⟩ := z_c_e hf
  obtain ⟨-, hf⟩ := z_c_e hf
  obtain ⟨σ_2, eσ_2, hf⟩ := z_l_x hf
  have hS := hS.tr (υ := σ_2) (by rw [eσ_2]; exact Same_sI (i := 0) rfl)
  obtain ⟨t_3, ht_4, kht_4, hf⟩ := z_r_e hf
  obtain ⟨hi_5, hf⟩ := z_c_e hf
  obtain ⟨-, hf⟩ := z_c_e hf
  obtain ⟨σ_6, eσ_6, hf⟩ := z_l_x hf
  have hS := hS.tr (υ := σ_6) (by rw [eσ_6]; exact Same_sI (i := 1) rfl)
  obtain ⟨-, hf⟩ := z_c_e hf
  obtain ⟨σ_7, eσ_7, hf⟩ := z_l_x hf
  have hS := hS.tr (υ := σ_7) (by rw [eσ_7]; exact Same_sI (i := 2) rfl)
  obtain ⟨-, hf⟩ := z_c_e hf
  obtain ⟨σ_8, eσ_8, hf⟩ := z_l_x hf
  have hS := hS.tr (υ := σ_8) (by rw [eσ_8]; exact Same_sI (i := 3) rfl)
  obtain ⟨t_9, ht_10, kht_10, hf⟩ := z_r_e hf
  obtain ⟨r_11, σ_12, hc_13, hf⟩ := z_b_e hf
  have hS := hS.tr ((fr4_answer N hc_13).mono ((kdo_3 kht_10).elim (fun e9 => by rw [e9]; exact wsub [4] rfl) (fun e9 => by rw [e9]; exact wsub [5] rfl)))
  obtain ⟨r_14, σ_15, hc_16, hf⟩ := z_b_e hf
  have hS := hS.tr (Same.nil (fr0_heldTo N hc_16))
  obtain ⟨-, rfl⟩ := Prod.mk.inj (Option.some.inj hf)
  exact hS
def wr0_stirred : Wr := []
set_option maxHeartbeats 4000000 in
theorem fr0_stirred (N : Nat) {x0 : Int32} {x1 : Int32} {σ σ0 : Mm} {r0 : Int32} (hf : f0_stirred N x0 x1 σ = some (r0, σ0)) : Same (wr0_stirred) σ σ0 := by
  unfold f0_stirred at hf
  have hS : Same (wr0_stirred) σ σ := Same.rf
  obtain ⟨x2_1, ex2_1, hf⟩ := z_l_x hf
  obtain ⟨-, rfl⟩ := Prod.mk.inj (Option.some.inj hf)
  exact hS
def wr0_lotOf100 : Wr := []
set_option maxHeartbeats 4000000 in
theorem fr0_lotOf100 (N : Nat) {x0 : Int32} {x1 : Int32} {σ σ0 : Mm} {r0 : Int32} (hf : f0_lotOf100 N x0 x1 σ = some (r0, σ0)) : Same (wr0_lotOf100) σ σ0 := by
  unfold f0_lotOf100 at hf
  have hS : Same (wr0_lotOf100) σ σ := Same.rf
  obtain ⟨r_1, σ_2, hc_3, hf⟩ := z_b_e hf
  have hS := hS.tr (Same.nil (fr0_stirred N hc_3))
  obtain ⟨r_4, σ_5, hc_6, hf⟩ := z_b_e hf
  have hS := hS.tr (Same.nil (fr0_stirred N hc_6))
  obtain ⟨-, rfl⟩ := Prod.mk.inj (Option.some.inj hf)
  exact hS
def wr0_passQuietYear (o1 : Nat) : Wr := [(o1, 1, some 0), ((o1 + 1), 1, none)]
set_option maxHeartbeats 4000000 in
theorem fr0_passQuietYear_50 (N : Nat) {o1 : Nat} {σ0 : Mm} {u0 : Unit} : ∀ (σ : Mm), f0_passQuietYear_50 N o1 σ = some (u0, σ0) → Same (wr0_passQuietYear o1) σ σ0 := by
  intro σ hf
  unfold f0_passQuietYear_50 at hf
  have hS : Same (wr0_passQuietYear o1) σ σ := Same.rf
  obtain ⟨σ_3, eσ_3, hf⟩ := z_l_x hf
  have hS := hS.tr (υ := σ_3) (by rw [eσ_3]; exact Same_sI (i := 0) rfl)
  obtain ⟨-, rfl⟩ := Prod.mk.inj (Option.some.inj hf)
  exact hS
set_option maxHeartbeats 4000000 in
theorem fr0_passQuietYear_44 (N : Nat) {o1 : Nat} {σ0 : Mm} {u0 : Unit} {k2 : Int32 → Mm → Option (Unit × Mm)} (hk2 : ∀ (x2 : Int32) (σ : Mm), k2 x2 σ = some (u0, σ0) → Same (wr0_passQuietYear o1) σ σ0) : ∀ (x2 : Int32) (σ : Mm), f0_passQuietYear_44 N k2 o1 x2 σ = some (u0, σ0) → Same (wr0_passQuietYear o1) σ σ0 := by
  intro x2 σ hf
  unfold f0_passQuietYear_44 at hf
  have hS : Same (wr0_passQuietYear o1) σ σ := Same.rf
  obtain ⟨x2_4, ex2_4, hf⟩ := z_l_x hf
  exact hS.tr (hk2 x2_4 σ hf)
set_option maxHeartbeats 4000000 in
theorem fr0_passQuietYear_2 (N : Nat) {o1 : Nat} {σ0 : Mm} {u0 : Unit} : ∀ (fu : Nat) (x2 : Int32) (σ : Mm), f0_passQuietYear_2 N o1 fu x2 σ = some (u0, σ0) → Same (wr0_passQuietYear o1) σ σ0 := by
  intro fu
  induction fu with
  | zero =>
    intro x2 σ hf
    rw [f0_passQuietYear_2] at hf
    cases hf
  | succ fu ih =>
    intro x2 σ hf
    rw [f0_passQuietYear_2] at hf
    have hS : Same (wr0_passQuietYear o1) σ σ := Same.rf
    obtain ⟨t_1, ht_2, kht_2, hf⟩ := z_r_e hf
    rcases z_if hf with hf | hf
    · exact hS.tr (fr0_passQuietYear_50 N   σ hf)
    · rcases z_if hf with hf | hf
      · exact hS.tr (fr0_passQuietYear_44 N ih x2 σ hf)
      · obtain ⟨hi_5, hf⟩ := z_c_e hf
        obtain ⟨-, hf⟩ := z_c_e hf
        obtain ⟨σ_6, eσ_6, hf⟩ := z_l_x hf
        have hS := hS.tr (υ := σ_6) (by rw [eσ_6]; exact Same_sIe (i := 1) rfl)
        exact hS.tr (fr0_passQuietYear_44 N ih x2 σ_6 hf)
set_option maxHeartbeats 4000000 in
theorem fr0_passQuietYear (N : Nat) {o1 : Nat} {σ σ0 : Mm} {u0 : Unit} (hf : f0_passQuietYear N o1 σ = some (u0, σ0)) : Same (wr0_passQuietYear o1) σ σ0 := by
  unfold f0_passQuietYear at hf
  have hS : Same (wr0_passQuietYear o1) σ σ := Same.rf
  exact hS.tr (fr0_passQuietYear_2 N  N (0 : Int32) σ hf)
def wr0_passYear (o1 : Nat) : Wr := [(o1, 1, some 0), ((o1 + 1), 1, none), (62, 1, some 0), (62, 1, some 1), (62, 1, some 3), (62, 1, some 4), (23, 1, none), (43, 1, none), (o1, 1, some 1)]
set_option maxHeartbeats 4000000 in
theorem fr0_passYear_78 (N : Nat) {o1 : Nat} {σ0 : Mm} {u0 : Unit} : ∀ (σ : Mm), f0_passYear_78 N o1 σ = some (u0, σ0) → Same (wr0_passYear o1) σ σ0 := by
  intro σ hf
  unfold f0_passYear_78 at hf
  have hS : Same (wr0_passYear o1) σ σ := Same.rf
  obtain ⟨r_3, σ_4, hc_5, hf⟩ := z_b_e hf
  have hS := hS.tr ((fr0_passQuietYear N hc_5).mono (wsub [0, 1] rfl))
  obtain ⟨-, rfl⟩ := Prod.mk.inj (Option.some.inj hf)
  exact hS
set_option maxHeartbeats 4000000 in
theorem fr0_passYear_72 (N : Nat) {o1 : Nat} {x2 : Int32} {σ0 : Mm} {u0 : Unit} {k2 : Int32 → Mm → Option (Unit × Mm)} (hk2 : ∀ (x3 : Int32) (σ : Mm), k2 x3 σ = some (u0, σ0) → Same (wr0_passYear o1) σ σ0) : ∀ (x3 : Int32) (σ : Mm), f0_passYear_72 N k2 o1 x2 x3 σ = some (u0, σ0) → Same (wr0_passYear o1) σ σ0 := by
  intro x3 σ hf
  unfold f0_passYear_72 at hf
  have hS : Same (wr0_passYear o1) σ σ := Same.rf
  obtain ⟨x3_7, ex3_7, hf⟩ := z_l_x hf
  exact hS.tr (hk2 x3_7 σ hf)
set_option maxHeartbeats 4000000 in
theorem fr0_passYear_2 (N : Nat) {o1 : Nat} {x2 : Int32} {σ0 : Mm} {u0 : Unit} : ∀ (fu : Nat) (x3 : Int32) (σ : Mm), f0_passYear_2 N o1 x2 fu x3 σ = some (u0, σ0) → Same (wr0_passYear o1) σ σ0 := by
  intro fu
  induction fu with
  | zero =>
    intro x3 σ hf
    rw [f0_passYear_2] at hf
    cases hf
  | succ fu ih =>
    intro x3 σ hf
    rw [f0_passYear_2] at hf
    have hS : Same (wr0_passYear o1) σ σ := Same.rf
    obtain ⟨t_1, ht_2, kht_2, hf⟩ := z_r_e hf
    rcases z_if hf with hf | hf
    · exact hS.tr (fr0_passYear_78 N   σ hf)
    · obtain ⟨x4_6, ex4_6, hf⟩ := z_l_x hf
      rcases z_if hf with hf | hf
      · exact hS.tr (fr0_passYear_72 N ih x3 σ hf)
      · obtain ⟨r_8, σ_9, hc_10, hf⟩ := z_b_e hf
        have hS := hS.tr ((fr0_deathIn100 N hc_10).mono (wsub [2, 3, 4, 5, 6, 7] rfl))
        rcases z_if hf with hf | hf
        · exact hS.tr (fr0_passYear_72 N ih x3 σ_9 hf)
        · obtain ⟨r_11, σ_12, hc_13, hf⟩ := z_b_e hf
          have hS := hS.tr (Same.nil (fr0_lotOf100 N hc_13))
          rcases z_if hf with hf | hf
          · exact hS.tr (fr0_passYear_72 N ih x3 σ_12 hf)
          · obtain ⟨σ_14, eσ_14, hf⟩ := z_l_x hf
            have hS := hS.tr (υ := σ_14) (by rw [eσ_14]; exact Same_sI (i := 8) rfl)
            exact hS.tr (fr0_passYear_72 N ih x3 σ_14 hf)
set_option maxHeartbeats 4000000 in
theorem fr0_passYear (N : Nat) {o1 : Nat} {x2 : Int32} {σ σ0 : Mm} {u0 : Unit} (hf : f0_passYear N o1 x2 σ = some (u0, σ0)) : Same (wr0_passYear o1) σ σ0 := by
  unfold f0_passYear at hf
  have hS : Same (wr0_passYear o1) σ σ := Same.rf
  exact hS.tr (fr0_passYear_2 N  N (0 : Int32) σ hf)
def wr0_passYears (o1 : Nat) : Wr := [(o1, 1, some 0), ((o1 + 1), 1, none), (62, 1, some 0), (62, 1, some 1), (62, 1, some 3), (62, 1, some 4), (23, 1, none), (43, 1, none), (o1, 1, some 1)]
set_option maxHeartbeats 4000000 in
theorem fr0_passYears_3 (N : Nat) {o1 : Nat} {x2 : Int32} {x3 : Int32} {σ0 : Mm} {u0 : Unit} : ∀ (fu : Nat) (x4 : Int32) (σ : Mm), f0_passYears_3 N o1 x2 x3 fu x4 σ = some (u0, σ0) → Same (wr0_passYears o1) σ σ0 := by
  intro fu
  induction fu with
  | zero =>
    intro x4 σ hf
    rw [f0_passYears_3] at hf
    cases hf
  | succ fu ih =>
    intro x4 σ hf
    rw [f0_passYears_3] at hf
    have hS : Same (wr0_passYears o1) σ σ := Same.rf
    rcases z_if hf with hf | hf
    · obtain ⟨-, rfl⟩ := Prod.mk.inj (Option.some.inj hf)
      exact hS
    · obtain ⟨r_1, σ_2, hc_3, hf⟩ := z_b_e hf
      have hS := hS.tr ((fr0_passYear N hc_3).mono (wsub [0, 1, 2, 3, 4, 5, 6, 7, 8] rfl))
      obtain ⟨x4_4, ex4_4, hf⟩ := z_l_x hf
      exact hS.tr (ih x4_4 σ_2 hf)
set_option maxHeartbeats 4000000 in
theorem fr0_passYears (N : Nat) {o1 : Nat} {x2 : Int32} {x3 : Int32} {σ σ0 : Mm} {u0 : Unit} (hf : f0_passYears N o1 x2 x3 σ = some (u0, σ0)) : Same (wr0_passYears o1) σ σ0 := by
  unfold f0_passYears at hf
  have hS : Same (wr0_passYears o1) σ σ := Same.rf
  exact hS.tr (fr0_passYears_3 N  N (0 : Int32) σ hf)
def wr0_walking (o1 : Nat) : Wr := [(63, 1, some 3), (63, 1, some 6), (63, 1, some 7), (63, 1, some 8), (23, 1, none), (43, 1, none)]
set_option maxHeartbeats 4000000 in
theorem fr0_walking (N : Nat) {o1 : Nat} {x2 : Int32} {x3 : Int32} {σ σ0 : Mm} {r0 : Int32} (hf : f0_walking N o1 x2 x3 σ = some (r0, σ0)) : Same (wr0_walking o1) σ σ0 := by
  unfold f0_walking at hf
  have hS : Same (wr0_walking o1) σ σ := Same.rf
  obtain ⟨-, hf⟩ := z_c_e hf
  obtain ⟨σ_1, eσ_1, hf⟩ := z_l_x hf
  have hS := hS.tr (υ := σ_1) (by rw [eσ_1]; exact Same_sI (i := 0) rfl)
  obtain ⟨t_2, ht_3, kht_3, hf⟩ := z_r_e hf
  obtain ⟨hi_4, hf⟩ := z_c_e hf
  obtain ⟨t_5, ht_6, kht_6, hf⟩ := z_r_e hf
  obtain ⟨hi_7, hf⟩ := z_c_e hf
  obtain ⟨t_8, ht_9, kht_9, hf⟩ := z_r_e hf
  obtain ⟨hi_10, hf⟩ := z_c_e hf
  obtain ⟨t_11, ht_12, kht_12, hf⟩ := z_r_e hf
  obtain ⟨hi_13, hf⟩ := z_c_e hf
  obtain ⟨-, hf⟩ := z_c_e hf
  obtain ⟨σ_14, eσ_14, hf⟩ := z_l_x hf
  have hS := hS.tr (υ := σ_14) (by rw [eσ_14]; exact Same_sI (i := 1) rfl)
  obtain ⟨t_15, ht_16, kht_16, hf⟩ := z_r_e hf
  obtain ⟨hi_17, hf⟩ := z_c_e hf
  obtain ⟨-, hf⟩ := z_c_e hf
  obtain ⟨σ_18, eσ_18, hf⟩ := z_l_x hf
  have hS := hS.tr (υ := σ_18) (by rw [eσ_18]; exact Same_sI (i := 2) rfl)
  obtain ⟨t_19, ht_20, kht_20, hf⟩ := z_r_e hf
  obtain ⟨hi_21, hf⟩ := z_c_e hf
  obtain ⟨-, hf⟩ := z_c_e hf
  obtain ⟨σ_22, eσ_22, hf⟩ := z_l_x hf
  have hS := hS.tr (υ := σ_22) (by rw [eσ_22]; exact Same_sI (i := 3) rfl)
  obtain ⟨t_23, ht_24, kht_24, hf⟩ := z_r_e hf
  obtain ⟨r_25, σ_26, hc_27, hf⟩ := z_b_e hf
  have hS := hS.tr ((fr4_answer N hc_27).mono ((kdo_3 kht_24).elim (fun e9 => by rw [e9]; exact wsub [4] rfl) (fun e9 => by rw [e9]; exact wsub [5] rfl)))
  obtain ⟨r_28, σ_29, hc_30, hf⟩ := z_b_e hf
  have hS := hS.tr (Same.nil (fr0_heldTo N hc_30))
  obtain ⟨-, rfl⟩ := Prod.mk.inj (Option.some.inj hf)
  exact hS
def wr0_asking (o1 : Nat) : Wr := [(64, 1, some 3), (64, 1, some 7), (64, 1, some 8), (23, 1, none), (43, 1, none)]
set_option maxHeartbeats 4000000 in
theorem fr0_asking (N : Nat) {o1 : Nat} {x2 : Int32} {σ σ0 : Mm} {r0 : Int32} (hf : f0_asking N o1 x2 σ = some (r0, σ0)) : Same (wr0_asking o1) σ σ0 := by
  unfold f0_asking at hf
  have hS : Same (wr0_asking o1) σ σ := Same.rf
  obtain ⟨-, hf⟩ := z_c_e hf
  obtain ⟨σ_1, eσ_1, hf⟩ := z_l_x hf
  have hS := hS.tr (υ := σ_1) (by rw [eσ_1]; exact Same_sI (i := 0) rfl)
  obtain ⟨t_2, ht_3, kht_3, hf⟩ := z_r_e hf
  obtain ⟨hi_4, hf⟩ := z_c_e hf
  obtain ⟨-, hf⟩ := z_c_e hf
  obtain ⟨σ_5, eσ_5, hf⟩ := z_l_x hf
  have hS := hS.tr (υ := σ_5) (by rw [eσ_5]; exact Same_sI (i := 1) rfl)
  obtain ⟨t_6, ht_7, kht_7, hf⟩ := z_r_e hf
  obtain ⟨hi_8, hf⟩ := z_c_e hf
  obtain ⟨-, hf⟩ := z_c_e hf
  obtain ⟨σ_9, eσ_9, hf⟩ := z_l_x hf
  have hS := hS.tr (υ := σ_9) (by rw [eσ_9]; exact Same_sI (i := 2) rfl)
  obtain ⟨t_10, ht_11, kht_11, hf⟩ := z_r_e hf
  obtain ⟨r_12, σ_13, hc_14, hf⟩ := z_b_e hf
  have hS := hS.tr ((fr4_answer N hc_14).mono ((kdo_3 kht_11).elim (fun e9 => by rw [e9]; exact wsub [3] rfl) (fun e9 => by rw [e9]; exact wsub [4] rfl)))
  obtain ⟨r_15, σ_16, hc_17, hf⟩ := z_b_e hf
  have hS := hS.tr (Same.nil (fr0_heldTo N hc_17))
  obtain ⟨-, rfl⟩ := Prod.mk.inj (Option.some.inj hf)
  exact hS
def wr1_put (o : Nat) : Wr := [((o + 1), 1, none), ((o + 2), 1, none), ((o + 3), 1, none), ((o + 4), 1, none), ((o + 5), 1, none)]
set_option maxHeartbeats 4000000 in
theorem fr1_put (N : Nat) {o : Nat} {x1 : Int32} {x2 : Int32} {x3 : Int32} {x4 : Int32} {x5 : Int32} {x6 : Int32} {σ σ0 : Mm} {u0 : Unit} (hf : f1_put N o x1 x2 x3 x4 x5 x6 σ = some (u0, σ0)) : Same (wr1_put o) σ σ0 := by
  unfold f1_put at hf
  have hS : Same (wr1_put o) σ σ := Same.rf
  rcases z_if hf with hf | hf
  · obtain ⟨-, rfl⟩ := Prod.mk.inj (Option.some.inj hf)
    exact hS
  · rcases z_if hf with hf | hf
    · obtain ⟨-, rfl⟩ := Prod.mk.inj (Option.some.inj hf)
      exact hS
    · obtain ⟨-, hf⟩ := z_c_e hf
      obtain ⟨σ_1, eσ_1, hf⟩ := z_l_x hf
      have hS := hS.tr (υ := σ_1) (by rw [eσ_1]; exact Same_sIe (i := 0) rfl)
      obtain ⟨-, hf⟩ := z_c_e hf
      obtain ⟨σ_2, eσ_2, hf⟩ := z_l_x hf
      have hS := hS.tr (υ := σ_2) (by rw [eσ_2]; exact Same_sIe (i := 1) rfl)
      obtain ⟨-, hf⟩ := z_c_e hf
      obtain ⟨σ_3, eσ_3, hf⟩ := z_l_x hf
      have hS := hS.tr (υ := σ_3) (by rw [eσ_3]; exact Same_sIe (i := 2) rfl)
      obtain ⟨-, hf⟩ := z_c_e hf
      obtain ⟨σ_4, eσ_4, hf⟩ := z_l_x hf
      have hS := hS.tr (υ := σ_4) (by rw [eσ_4]; exact Same_sIe (i := 3) rfl)
      obtain ⟨-, hf⟩ := z_c_e hf
      obtain ⟨σ_5, eσ_5, hf⟩ := z_l_x hf
      have hS := hS.tr (υ := σ_5) (by rw [eσ_5]; exact Same_sIe (i := 4) rfl)
      obtain ⟨-, rfl⟩ := Prod.mk.inj (Option.some.inj hf)
      exact hS
def wr1_become (o : Nat) (o1 : Nat) : Wr := [((o + 1), 1, none), ((o + 2), 1, none), ((o + 3), 1, none), ((o + 4), 1, none), ((o + 5), 1, none)]
set_option maxHeartbeats 4000000 in
theorem fr1_become (N : Nat) {o : Nat} {o1 : Nat} {σ σ0 : Mm} {u0 : Unit} (hf : f1_become N o o1 σ = some (u0, σ0)) : Same (wr1_become o o1) σ σ0 := by
  unfold f1_become at hf
  have hS : Same (wr1_become o o1) σ σ := Same.rf
  obtain ⟨σ_1, eσ_1, hf⟩ := z_l_x hf
  have hS := hS.tr (υ := σ_1) (by rw [eσ_1]; exact Same_sIr (i := 0) rfl)
  obtain ⟨σ_2, eσ_2, hf⟩ := z_l_x hf
  have hS := hS.tr (υ := σ_2) (by rw [eσ_2]; exact Same_sIr (i := 1) rfl)
  obtain ⟨σ_3, eσ_3, hf⟩ := z_l_x hf
  have hS := hS.tr (υ := σ_3) (by rw [eσ_3]; exact Same_sIr (i := 2) rfl)
  obtain ⟨σ_4, eσ_4, hf⟩ := z_l_x hf
  have hS := hS.tr (υ := σ_4) (by rw [eσ_4]; exact Same_sIr (i := 3) rfl)
  obtain ⟨σ_5, eσ_5, hf⟩ := z_l_x hf
  have hS := hS.tr (υ := σ_5) (by rw [eσ_5]; exact Same_sIr (i := 4) rfl)
  obtain ⟨-, rfl⟩ := Prod.mk.inj (Option.some.inj hf)
  exact hS
def wr1_ofPlot (o : Nat) : Wr := []
set_option maxHeartbeats 4000000 in
theorem fr1_ofPlot_36 (N : Nat) {o : Nat} {x1 : Int32} {x2 : Int32} {σ0 : Mm} {r0 : Int32} {k5 : Int32 → Int32 → Mm → Option (Int32 × Mm)} (hk5 : ∀ (x3 : Int32) (x4 : Int32) (σ : Mm), k5 x3 x4 σ = some (r0, σ0) → Same (wr1_ofPlot o) σ σ0) : ∀ (x3 : Int32) (x4 : Int32) (σ : Mm), f1_ofPlot_36 N k5 o x1 x2 x3 x4 σ = some (r0, σ0) → Same (wr1_ofPlot o) σ σ0 := by
  intro x3 x4 σ hf
  unfold f1_ofPlot_36 at hf
  have hS : Same (wr1_ofPlot o) σ σ := Same.rf
  obtain ⟨x4_2, ex4_2, hf⟩ := z_l_x hf
  exact hS.tr (hk5 x3 x4_2 σ hf)
set_option maxHeartbeats 4000000 in
theorem fr1_ofPlot_5 (N : Nat) {o : Nat} {x1 : Int32} {x2 : Int32} {σ0 : Mm} {r0 : Int32} : ∀ (fu : Nat) (x3 : Int32) (x4 : Int32) (σ : Mm), f1_ofPlot_5 N o x1 x2 fu x3 x4 σ = some (r0, σ0) → Same (wr1_ofPlot o) σ σ0 := by
  intro fu
  induction fu with
  | zero =>
    intro x3 x4 σ hf
    rw [f1_ofPlot_5] at hf
    cases hf
  | succ fu ih =>
    intro x3 x4 σ hf
    rw [f1_ofPlot_5] at hf
    have hS : Same (wr1_ofPlot o) σ σ := Same.rf
    rcases z_if hf with hf | hf
    · obtain ⟨-, rfl⟩ := Prod.mk.inj (Option.some.inj hf)
      exact hS
    · rcases z_if hf with hf | hf
      · obtain ⟨-, rfl⟩ := Prod.mk.inj (Option.some.inj hf)
        exact hS
      · obtain ⟨hi_1, hf⟩ := z_c_e hf
        rcases z_if hf with hf | hf
        · obtain ⟨x3_3, ex3_3, hf⟩ := z_l_x hf
          exact hS.tr (fr1_ofPlot_36 N ih x3_3 x4 σ hf)
        · exact hS.tr (fr1_ofPlot_36 N ih x3 x4 σ hf)
set_option maxHeartbeats 4000000 in
theorem fr1_ofPlot (N : Nat) {o : Nat} {x1 : Int32} {x2 : Int32} {σ σ0 : Mm} {r0 : Int32} (hf : f1_ofPlot N o x1 x2 σ = some (r0, σ0)) : Same (wr1_ofPlot o) σ σ0 := by
  unfold f1_ofPlot at hf
  have hS : Same (wr1_ofPlot o) σ σ := Same.rf
  exact hS.tr (fr1_ofPlot_5 N  N (0 : Int32) (0 : Int32) σ hf)
def wr9_kindAt : Wr := []
set_option maxHeartbeats 4000000 in
theorem fr9_kindAt (N : Nat) {x1 : Int32} {σ σ0 : Mm} {r0 : Int32} (hf : f9_kindAt N x1 σ = some (r0, σ0)) : Same (wr9_kindAt) σ σ0 := by
  unfold f9_kindAt at hf
  have hS : Same (wr9_kindAt) σ σ := Same.rf
  rcases z_if hf with hf | hf
  · obtain ⟨-, rfl⟩ := Prod.mk.inj (Option.some.inj hf)
    exact hS
  · rcases z_if hf with hf | hf
    · obtain ⟨-, rfl⟩ := Prod.mk.inj (Option.some.inj hf)
      exact hS
    · obtain ⟨hi_1, hf⟩ := z_c_e hf
      obtain ⟨-, rfl⟩ := Prod.mk.inj (Option.some.inj hf)
      exact hS
def wr9_refuse : Wr := [(2, 1, some 4), (2, 1, some 5)]
set_option maxHeartbeats 4000000 in
theorem fr9_refuse_29 (N : Nat) {σ0 : Mm} {r0 : Int32} : ∀ (s1 : Int32) (σ : Mm), f9_refuse_29 N s1 σ = some (r0, σ0) → Same (wr9_refuse) σ σ0 := by
  intro s1 σ hf
  unfold f9_refuse_29 at hf
  have hS : Same (wr9_refuse) σ σ := Same.rf
  obtain ⟨σ_2, eσ_2, hf⟩ := z_l_x hf
  have hS := hS.tr (υ := σ_2) (by rw [eσ_2]; exact Same_sI (i := 1) rfl)
  obtain ⟨-, rfl⟩ := Prod.mk.inj (Option.some.inj hf)
  exact hS
set_option maxHeartbeats 4000000 in
theorem fr9_refuse_28 (N : Nat) {σ0 : Mm} {r0 : Int32} : ∀ (σ : Mm), f9_refuse_28 N σ = some (r0, σ0) → Same (wr9_refuse) σ σ0 := by
  intro σ hf
  unfold f9_refuse_28 at hf
  have hS : Same (wr9_refuse) σ σ := Same.rf
  exact hS.tr (fr9_refuse_29 N  (-1 : Int32) σ hf)
set_option maxHeartbeats 4000000 in
theorem fr9_refuse (N : Nat) {x1 : Int32} {x2 : Int32} {σ σ0 : Mm} {r0 : Int32} (hf : f9_refuse N x1 x2 σ = some (r0, σ0)) : Same (wr9_refuse) σ σ0 := by
  unfold f9_refuse at hf
  have hS : Same (wr9_refuse) σ σ := Same.rf
  obtain ⟨σ_1, eσ_1, hf⟩ := z_l_x hf
  have hS := hS.tr (υ := σ_1) (by rw [eσ_1]; exact Same_sI (i := 0) rfl)
  rcases z_if hf with hf | hf
  · exact hS.tr (fr9_refuse_28 N   σ_1 hf)
  · rcases z_if hf with hf | hf
    · exact hS.tr (fr9_refuse_28 N   σ_1 hf)
    · obtain ⟨hi_3, hf⟩ := z_c_e hf
      exact hS.tr (fr9_refuse_29 N  (gI σ_1 4 (ix x2)) σ_1 hf)
def wr2_take : Wr := [(47, 1, some 2), (2, 1, some 4), (2, 1, some 5)]
set_option maxHeartbeats 4000000 in
theorem fr2_take (N : Nat) {x1 : Int32} {σ σ0 : Mm} {r0 : Int32} (hf : f2_take N x1 σ = some (r0, σ0)) : Same (wr2_take) σ σ0 := by
  unfold f2_take at hf
  have hS : Same (wr2_take) σ σ := Same.rf
  obtain ⟨r_1, σ_2, hc_3, hf⟩ := z_b_e hf
  have hS := hS.tr (Same.nil (fr9_kindAt N hc_3))
  rcases z_if hf with hf | hf
  · rcases z_if hf with hf | hf
    · obtain ⟨σ_4, eσ_4, hf⟩ := z_l_x hf
      have hS := hS.tr (υ := σ_4) (by rw [eσ_4]; exact Same_sI (i := 0) rfl)
      obtain ⟨-, rfl⟩ := Prod.mk.inj (Option.some.inj hf)
      exact hS
    · obtain ⟨r_5, σ_6, hc_7, hf⟩ := z_b_e hf
      have hS := hS.tr ((fr9_refuse N hc_7).mono (wsub [1, 2] rfl))
      obtain ⟨-, hf⟩ := z_c_e hf
      obtain ⟨-, rfl⟩ := Prod.mk.inj (Option.some.inj hf)
      exact hS
  · obtain ⟨r_8, σ_9, hc_10, hf⟩ := z_b_e hf
    have hS := hS.tr ((fr9_refuse N hc_10).mono (wsub [1, 2] rfl))
    obtain ⟨-, hf⟩ := z_c_e hf
    obtain ⟨-, rfl⟩ := Prod.mk.inj (Option.some.inj hf)
    exact hS
def wr4_begin (o : Nat) : Wr := [((o + 3), 1, none)]
set_option maxHeartbeats 4000000 in
theorem fr4_begin (N : Nat) {o : Nat} {x1 : Int32} {σ σ0 : Mm} {u0 : Unit} (hf : f4_begin N o x1 σ = some (u0, σ0)) : Same (wr4_begin o) σ σ0 := by
  unfold f4_begin at hf
  have hS : Same (wr4_begin o) σ σ := Same.rf
  rcases z_if hf with hf | hf
  · obtain ⟨-, rfl⟩ := Prod.mk.inj (Option.some.inj hf)
    exact hS
  · rcases z_if hf with hf | hf
    · obtain ⟨-, rfl⟩ := Prod.mk.inj (Option.some.inj hf)
      exact hS
    · obtain ⟨-, hf⟩ := z_c_e hf
      obtain ⟨σ_1, eσ_1, hf⟩ := z_l_x hf
      have hS := hS.tr (υ := σ_1) (by rw [eσ_1]; exact Same_sIe (i := 0) rfl)
      obtain ⟨-, rfl⟩ := Prod.mk.inj (Option.some.inj hf)
      exact hS
def wr2_await : Wr := [(48, 1, none), (47, 1, some 8)]
set_option maxHeartbeats 4000000 in
theorem fr2_await (N : Nat) {x1 : Int32} {σ σ0 : Mm} {u0 : Unit} (hf : f2_await N x1 σ = some (u0, σ0)) : Same (wr2_await) σ σ0 := by
  unfold f2_await at hf
  have hS : Same (wr2_await) σ σ := Same.rf
  rcases z_if hf with hf | hf
  · obtain ⟨-, rfl⟩ := Prod.mk.inj (Option.some.inj hf)
    exact hS
  · obtain ⟨-, hf⟩ := z_c_e hf
    obtain ⟨σ_1, eσ_1, hf⟩ := z_l_x hf
    have hS := hS.tr (υ := σ_1) (by rw [eσ_1]; exact Same_sIe (i := 0) rfl)
    obtain ⟨σ_2, eσ_2, hf⟩ := z_l_x hf
    have hS := hS.tr (υ := σ_2) (by rw [eσ_2]; exact Same_sI (i := 1) rfl)
    obtain ⟨-, rfl⟩ := Prod.mk.inj (Option.some.inj hf)
    exact hS
def wr2_takeOpenings : Wr := [(47, 1, some 2), (2, 1, some 4), (2, 1, some 5), (48, 1, none), (47, 1, some 8), (47, 1, some 9)]
set_option maxHeartbeats 4000000 in
theorem fr2_takeOpenings_34 (N : Nat) {σ0 : Mm} {r0 : Int32} : ∀ (σ : Mm), f2_takeOpenings_34 N σ = some (r0, σ0) → Same (wr2_takeOpenings) σ σ0 := by
  intro σ hf
  unfold f2_takeOpenings_34 at hf
  have hS : Same (wr2_takeOpenings) σ σ := Same.rf
  obtain ⟨r_12, σ_13, hc_14, hf⟩ := z_b_e hf
  have hS := hS.tr ((fr9_refuse N hc_14).mono (wsub [1, 2] rfl))
  obtain ⟨-, hf⟩ := z_c_e hf
  obtain ⟨-, rfl⟩ := Prod.mk.inj (Option.some.inj hf)
  exact hS
set_option maxHeartbeats 4000000 in
theorem fr2_takeOpenings_2 (N : Nat) {σ0 : Mm} {r0 : Int32} : ∀ (fu : Nat) (x1 : Int32) (σ : Mm), f2_takeOpenings_2 N fu x1 σ = some (r0, σ0) → Same (wr2_takeOpenings) σ σ0 := by
  intro fu
  induction fu with
  | zero =>
    intro x1 σ hf
    rw [f2_takeOpenings_2] at hf
    cases hf
  | succ fu ih =>
    intro x1 σ hf
    rw [f2_takeOpenings_2] at hf
    have hS : Same (wr2_takeOpenings) σ σ := Same.rf
    rcases z_if hf with hf | hf
    · obtain ⟨-, rfl⟩ := Prod.mk.inj (Option.some.inj hf)
      exact hS
    · obtain ⟨r_1, σ_2, hc_3, hf⟩ := z_b_e hf
      have hS := hS.tr (Same.nil (fr9_kindAt N hc_3))
      rcases z_if hf with hf | hf
      · rcases z_if hf with hf | hf
        · exact hS.tr (fr2_takeOpenings_34 N   σ_2 hf)
        · obtain ⟨r_4, σ_5, hc_6, hf⟩ := z_b_e hf
          have hS := hS.tr ((fr2_take N hc_6).mono (wsub [0, 1, 2] rfl))
          rcases z_if hf with hf | hf
          · obtain ⟨-, rfl⟩ := Prod.mk.inj (Option.some.inj hf)
            exact hS
          · obtain ⟨r_7, σ_8, hc_9, hf⟩ := z_b_e hf
            have hS := hS.tr ((fr2_await N hc_9).mono (wsub [3, 4] rfl))
            obtain ⟨σ_10, eσ_10, hf⟩ := z_l_x hf
            have hS := hS.tr (υ := σ_10) (by rw [eσ_10]; exact Same_sI (i := 5) rfl)
            obtain ⟨x1_11, ex1_11, hf⟩ := z_l_x hf
            exact hS.tr (ih x1_11 σ_10 hf)
      · obtain ⟨-, rfl⟩ := Prod.mk.inj (Option.some.inj hf)
        exact hS
set_option maxHeartbeats 4000000 in
theorem fr2_takeOpenings (N : Nat) {σ σ0 : Mm} {r0 : Int32} (hf : f2_takeOpenings N σ = some (r0, σ0)) : Same (wr2_takeOpenings) σ σ0 := by
  unfold f2_takeOpenings at hf
  have hS : Same (wr2_takeOpenings) σ σ := Same.rf
  exact hS.tr (fr2_takeOpenings_2 N  N (0 : Int32) σ hf)
def wr9_valueAt : Wr := []
set_option maxHeartbeats 4000000 in
theorem fr9_valueAt (N : Nat) {x1 : Int32} {σ σ0 : Mm} {l0 : Int64} (hf : f9_valueAt N x1 σ = some (l0, σ0)) : Same (wr9_valueAt) σ σ0 := by
  unfold f9_valueAt at hf
  have hS : Same (wr9_valueAt) σ σ := Same.rf
  rcases z_if hf with hf | hf
  · obtain ⟨-, rfl⟩ := Prod.mk.inj (Option.some.inj hf)
    exact hS
  · rcases z_if hf with hf | hf
    · obtain ⟨-, rfl⟩ := Prod.mk.inj (Option.some.inj hf)
      exact hS
    · obtain ⟨hi_1, hf⟩ := z_c_e hf
      obtain ⟨-, rfl⟩ := Prod.mk.inj (Option.some.inj hf)
      exact hS
def wr4_put (o : Nat) : Wr := [((o + 1), 1, none), ((o + 2), 1, none), (o, 1, some 2)]
set_option maxHeartbeats 4000000 in
theorem fr4_put (N : Nat) {o : Nat} {x1 : Int32} {x2 : Int32} {σ σ0 : Mm} {r0 : Int32} (hf : f4_put N o x1 x2 σ = some (r0, σ0)) : Same (wr4_put o) σ σ0 := by
  unfold f4_put at hf
  have hS : Same (wr4_put o) σ σ := Same.rf
  obtain ⟨x3_1, ex3_1, hf⟩ := z_l_x hf
  rcases z_if hf with hf | hf
  · obtain ⟨-, rfl⟩ := Prod.mk.inj (Option.some.inj hf)
    exact hS
  · obtain ⟨-, hf⟩ := z_c_e hf
    obtain ⟨σ_2, eσ_2, hf⟩ := z_l_x hf
    have hS := hS.tr (υ := σ_2) (by rw [eσ_2]; exact Same_sIe (i := 0) rfl)
    obtain ⟨-, hf⟩ := z_c_e hf
    obtain ⟨σ_3, eσ_3, hf⟩ := z_l_x hf
    have hS := hS.tr (υ := σ_3) (by rw [eσ_3]; exact Same_sIe (i := 1) rfl)
    obtain ⟨σ_4, eσ_4, hf⟩ := z_l_x hf
    have hS := hS.tr (υ := σ_4) (by rw [eσ_4]; exact Same_sI (i := 2) rfl)
    obtain ⟨-, rfl⟩ := Prod.mk.inj (Option.some.inj hf)
    exact hS
def wr2_takeUnit : Wr := [(2, 1, some 4), (2, 1, some 5), (20, 1, none), (21, 1, none), (19, 1, some 2), (40, 1, none), (41, 1, none), (39, 1, some 2), (47, 1, some 2)]
set_option maxHeartbeats 4000000 in
theorem fr2_takeUnit_75 (N : Nat) {σ0 : Mm} {r0 : Int32} : ∀ (σ : Mm), f2_takeUnit_75 N σ = some (r0, σ0) → Same (wr2_takeUnit) σ σ0 := by
  intro σ hf
  unfold f2_takeUnit_75 at hf
  have hS : Same (wr2_takeUnit) σ σ := Same.rf
  obtain ⟨r_4, σ_5, hc_6, hf⟩ := z_b_e hf
  have hS := hS.tr ((fr9_refuse N hc_6).mono (wsub [0, 1] rfl))
  obtain ⟨-, hf⟩ := z_c_e hf
  obtain ⟨-, rfl⟩ := Prod.mk.inj (Option.some.inj hf)
  exact hS
set_option maxHeartbeats 4000000 in
theorem fr2_takeUnit (N : Nat) {σ σ0 : Mm} {r0 : Int32} (hf : f2_takeUnit N σ = some (r0, σ0)) : Same (wr2_takeUnit) σ σ0 := by
  unfold f2_takeUnit at hf
  have hS : Same (wr2_takeUnit) σ σ := Same.rf
  obtain ⟨r_1, σ_2, hc_3, hf⟩ := z_b_e hf
  have hS := hS.tr (Same.nil (fr9_kindAt N hc_3))
  rcases z_if hf with hf | hf
  · obtain ⟨t_15, ht_16, kht_16, hf⟩ := z_r_e hf
    obtain ⟨r_17, σ_18, hc_19, hf⟩ := z_b_e hf
    have hS := hS.tr (Same.nil (fr9_valueAt N hc_19))
    obtain ⟨r_20, σ_21, hc_22, hf⟩ := z_b_e hf
    have hS := hS.tr ((fr4_put N hc_22).mono ((kdo_4 kht_16).elim (fun e9 => by rw [e9]; exact wsub [2, 3, 4] rfl) (fun e9 => by rw [e9]; exact wsub [5, 6, 7] rfl)))
    obtain ⟨r_23, σ_24, hc_25, hf⟩ := z_b_e hf
    have hS := hS.tr ((fr2_take N hc_25).mono (wsub [8, 0, 1] rfl))
    obtain ⟨-, hf⟩ := z_c_e hf
    obtain ⟨-, rfl⟩ := Prod.mk.inj (Option.some.inj hf)
    exact hS
  · rcases z_if hf with hf | hf
    · exact hS.tr (fr2_takeUnit_75 N   σ_2 hf)
    · rcases z_if hf with hf | hf
      · exact hS.tr (fr2_takeUnit_75 N   σ_2 hf)
      · obtain ⟨t_7, ht_8, kht_8, hf⟩ := z_r_e hf
        obtain ⟨r_9, σ_10, hc_11, hf⟩ := z_b_e hf
        have hS := hS.tr ((fr4_put N hc_11).mono ((kdo_4 kht_8).elim (fun e9 => by rw [e9]; exact wsub [2, 3, 4] rfl) (fun e9 => by rw [e9]; exact wsub [5, 6, 7] rfl)))
        obtain ⟨r_12, σ_13, hc_14, hf⟩ := z_b_e hf
        have hS := hS.tr ((fr2_take N hc_14).mono (wsub [8, 0, 1] rfl))
        obtain ⟨-, hf⟩ := z_c_e hf
        obtain ⟨-, rfl⟩ := Prod.mk.inj (Option.some.inj hf)
        exact hS
def wr2_rank : Wr := []
set_option maxHeartbeats 4000000 in
theorem fr2_rank (N : Nat) {x0 : Int32} {σ σ0 : Mm} {r0 : Int32} (hf : f2_rank N x0 σ = some (r0, σ0)) : Same (wr2_rank) σ σ0 := by
  unfold f2_rank at hf
  have hS : Same (wr2_rank) σ σ := Same.rf
  rcases z_if hf with hf | hf
  · obtain ⟨-, rfl⟩ := Prod.mk.inj (Option.some.inj hf)
    exact hS
  · rcases z_if hf with hf | hf
    · obtain ⟨-, rfl⟩ := Prod.mk.inj (Option.some.inj hf)
      exact hS
    · rcases z_if hf with hf | hf
      · obtain ⟨-, rfl⟩ := Prod.mk.inj (Option.some.inj hf)
        exact hS
      · rcases z_if hf with hf | hf
        · obtain ⟨-, rfl⟩ := Prod.mk.inj (Option.some.inj hf)
          exact hS
        · obtain ⟨-, rfl⟩ := Prod.mk.inj (Option.some.inj hf)
          exact hS
def wr2_settle : Wr := [(20, 1, none), (21, 1, none), (19, 1, some 2), (40, 1, none), (41, 1, none), (39, 1, some 2), (47, 1, some 8)]
set_option maxHeartbeats 4000000 in
theorem fr2_settle_6 (N : Nat) {x1 : Int32} {σ0 : Mm} {u0 : Unit} : ∀ (fu : Nat) (x2 : Int32) (σ : Mm), f2_settle_6 N x1 fu x2 σ = some (u0, σ0) → Same (wr2_settle) σ σ0 := by
  intro fu
  induction fu with
  | zero =>
    intro x2 σ hf
    rw [f2_settle_6] at hf
    cases hf
  | succ fu ih =>
    intro x2 σ hf
    rw [f2_settle_6] at hf
    have hS : Same (wr2_settle) σ σ := Same.rf
    rcases z_if hf with hf | hf
    · obtain ⟨-, rfl⟩ := Prod.mk.inj (Option.some.inj hf)
      exact hS
    · rcases z_if hf with hf | hf
      · obtain ⟨-, rfl⟩ := Prod.mk.inj (Option.some.inj hf)
        exact hS
      · obtain ⟨hi_1, hf⟩ := z_c_e hf
        obtain ⟨x3_2, ex3_2, hf⟩ := z_l_x hf
        obtain ⟨r_3, σ_4, hc_5, hf⟩ := z_b_e hf
        have hS := hS.tr (Same.nil (fr2_rank N hc_5))
        rcases z_if hf with hf | hf
        · obtain ⟨t_6, ht_7, kht_7, hf⟩ := z_r_e hf
          obtain ⟨r_8, σ_9, hc_10, hf⟩ := z_b_e hf
          have hS := hS.tr ((fr4_put N hc_10).mono ((kdo_4 kht_7).elim (fun e9 => by rw [e9]; exact wsub [0, 1, 2] rfl) (fun e9 => by rw [e9]; exact wsub [3, 4, 5] rfl)))
          obtain ⟨σ_11, eσ_11, hf⟩ := z_l_x hf
          have hS := hS.tr (υ := σ_11) (by rw [eσ_11]; exact Same_sI (i := 6) rfl)
          obtain ⟨x2_12, ex2_12, hf⟩ := z_l_x hf
          exact hS.tr (ih x2_12 σ_11 hf)
        · obtain ⟨-, rfl⟩ := Prod.mk.inj (Option.some.inj hf)
          exact hS
set_option maxHeartbeats 4000000 in
theorem fr2_settle (N : Nat) {x1 : Int32} {σ σ0 : Mm} {u0 : Unit} (hf : f2_settle N x1 σ = some (u0, σ0)) : Same (wr2_settle) σ σ0 := by
  unfold f2_settle at hf
  have hS : Same (wr2_settle) σ σ := Same.rf
  exact hS.tr (fr2_settle_6 N  N (21 : Int32) σ hf)
def wr2_takeClosings : Wr := [(47, 1, some 2), (2, 1, some 4), (2, 1, some 5), (20, 1, none), (21, 1, none), (19, 1, some 2), (40, 1, none), (41, 1, none), (39, 1, some 2), (47, 1, some 8), (47, 1, some 9)]
set_option maxHeartbeats 4000000 in
theorem fr2_takeClosings_2 (N : Nat) {σ0 : Mm} {r0 : Int32} : ∀ (fu : Nat) (x1 : Int32) (σ : Mm), f2_takeClosings_2 N fu x1 σ = some (r0, σ0) → Same (wr2_takeClosings) σ σ0 := by
  intro fu
  induction fu with
  | zero =>
    intro x1 σ hf
    rw [f2_takeClosings_2] at hf
    cases hf
  | succ fu ih =>
    intro x1 σ hf
    rw [f2_takeClosings_2] at hf
    have hS : Same (wr2_takeClosings) σ σ := Same.rf
    rcases z_if hf with hf | hf
    · obtain ⟨-, rfl⟩ := Prod.mk.inj (Option.some.inj hf)
      exact hS
    · rcases z_if hf with hf | hf
      · obtain ⟨-, rfl⟩ := Prod.mk.inj (Option.some.inj hf)
        exact hS
      · obtain ⟨r_1, σ_2, hc_3, hf⟩ := z_b_e hf
        have hS := hS.tr (Same.nil (fr9_kindAt N hc_3))
        rcases z_if hf with hf | hf
        · obtain ⟨r_4, σ_5, hc_6, hf⟩ := z_b_e hf
          have hS := hS.tr ((fr2_take N hc_6).mono (wsub [0, 1, 2] rfl))
          rcases z_if hf with hf | hf
          · obtain ⟨-, rfl⟩ := Prod.mk.inj (Option.some.inj hf)
            exact hS
          · obtain ⟨r_7, σ_8, hc_9, hf⟩ := z_b_e hf
            have hS := hS.tr ((fr2_settle N hc_9).mono (wsub [3, 4, 5, 6, 7, 8, 9] rfl))
            obtain ⟨σ_10, eσ_10, hf⟩ := z_l_x hf
            have hS := hS.tr (υ := σ_10) (by rw [eσ_10]; exact Same_sI (i := 9) rfl)
            obtain ⟨σ_11, eσ_11, hf⟩ := z_l_x hf
            have hS := hS.tr (υ := σ_11) (by rw [eσ_11]; exact Same_sI (i := 10) rfl)
            obtain ⟨x1_12, ex1_12, hf⟩ := z_l_x hf
            exact hS.tr (ih x1_12 σ_11 hf)
        · obtain ⟨-, rfl⟩ := Prod.mk.inj (Option.some.inj hf)
          exact hS
set_option maxHeartbeats 4000000 in
theorem fr2_takeClosings (N : Nat) {σ σ0 : Mm} {r0 : Int32} (hf : f2_takeClosings N σ = some (r0, σ0)) : Same (wr2_takeClosings) σ σ0 := by
  unfold f2_takeClosings at hf
  have hS : Same (wr2_takeClosings) σ σ := Same.rf
  exact hS.tr (fr2_takeClosings_2 N  N (0 : Int32) σ hf)
def wr2_keepsSum : Wr := [(47, 1, some 8), (47, 1, some 9), (47, 1, some 2), (2, 1, some 4), (2, 1, some 5), (48, 1, none), (20, 1, none), (21, 1, none), (19, 1, some 2), (40, 1, none), (41, 1, none), (39, 1, some 2)]
set_option maxHeartbeats 4000000 in
theorem fr2_keepsSum_61 (N : Nat) {σ0 : Mm} {r0 : Int32} : ∀ (σ : Mm), f2_keepsSum_61 N σ = some (r0, σ0) → Same (wr2_keepsSum) σ σ0 := by
  intro σ hf
  unfold f2_keepsSum_61 at hf
  have hS : Same (wr2_keepsSum) σ σ := Same.rf
  obtain ⟨r_31, σ_32, hc_33, hf⟩ := z_b_e hf
  have hS := hS.tr ((fr2_settle N hc_33).mono (wsub [6, 7, 8, 9, 10, 11, 0] rfl))
  rcases z_if hf with hf | hf
  · obtain ⟨-, rfl⟩ := Prod.mk.inj (Option.some.inj hf)
    exact hS
  · obtain ⟨r_34, σ_35, hc_36, hf⟩ := z_b_e hf
    have hS := hS.tr ((fr2_take N hc_36).mono (wsub [2, 3, 4] rfl))
    rcases z_if hf with hf | hf
    · obtain ⟨-, rfl⟩ := Prod.mk.inj (Option.some.inj hf)
      exact hS
    · obtain ⟨-, rfl⟩ := Prod.mk.inj (Option.some.inj hf)
      exact hS
set_option maxHeartbeats 4000000 in
theorem fr2_keepsSum_12 (N : Nat) {σ0 : Mm} {r0 : Int32} : ∀ (fu : Nat) (x1 : Int32) (σ : Mm), f2_keepsSum_12 N fu x1 σ = some (r0, σ0) → Same (wr2_keepsSum) σ σ0 := by
  intro fu
  induction fu with
  | zero =>
    intro x1 σ hf
    rw [f2_keepsSum_12] at hf
    cases hf
  | succ fu ih =>
    intro x1 σ hf
    rw [f2_keepsSum_12] at hf
    have hS : Same (wr2_keepsSum) σ σ := Same.rf
    rcases z_if hf with hf | hf
    · obtain ⟨-, rfl⟩ := Prod.mk.inj (Option.some.inj hf)
      exact hS
    · obtain ⟨r_3, σ_4, hc_5, hf⟩ := z_b_e hf
      have hS := hS.tr ((fr2_takeOpenings N hc_5).mono (wsub [2, 3, 4, 5, 0, 1] rfl))
      rcases z_if hf with hf | hf
      · obtain ⟨-, rfl⟩ := Prod.mk.inj (Option.some.inj hf)
        exact hS
      · obtain ⟨r_6, σ_7, hc_8, hf⟩ := z_b_e hf
        have hS := hS.tr ((fr2_takeUnit N hc_8).mono (wsub [3, 4, 6, 7, 8, 9, 10, 11, 2] rfl))
        rcases z_if hf with hf | hf
        · obtain ⟨-, rfl⟩ := Prod.mk.inj (Option.some.inj hf)
          exact hS
        · obtain ⟨r_9, σ_10, hc_11, hf⟩ := z_b_e hf
          have hS := hS.tr ((fr2_takeClosings N hc_11).mono (wsub [2, 3, 4, 6, 7, 8, 9, 10, 11, 0, 1] rfl))
          rcases z_if hf with hf | hf
          · obtain ⟨-, rfl⟩ := Prod.mk.inj (Option.some.inj hf)
            exact hS
          · obtain ⟨r_12, σ_13, hc_14, hf⟩ := z_b_e hf
            have hS := hS.tr (Same.nil (fr9_kindAt N hc_14))
            obtain ⟨r_15, σ_16, hc_17, hf⟩ := z_b_e hf
            have hS := hS.tr (Same.nil (fr2_rank N hc_17))
            rcases z_if hf with hf | hf
            · exact hS.tr (fr2_keepsSum_61 N   σ_16 hf)
            · obtain ⟨r_18, σ_19, hc_20, hf⟩ := z_b_e hf
              have hS := hS.tr (Same.nil (fr2_rank N hc_20))
              obtain ⟨r_21, σ_22, hc_23, hf⟩ := z_b_e hf
              have hS := hS.tr ((fr2_settle N hc_23).mono (wsub [6, 7, 8, 9, 10, 11, 0] rfl))
              obtain ⟨r_24, σ_25, hc_26, hf⟩ := z_b_e hf
              have hS := hS.tr ((fr2_take N hc_26).mono (wsub [2, 3, 4] rfl))
              rcases z_if hf with hf | hf
              · obtain ⟨-, rfl⟩ := Prod.mk.inj (Option.some.inj hf)
                exact hS
              · obtain ⟨r_27, σ_28, hc_29, hf⟩ := z_b_e hf
                have hS := hS.tr ((fr2_await N hc_29).mono (wsub [5, 0] rfl))
                obtain ⟨x1_30, ex1_30, hf⟩ := z_l_x hf
                exact hS.tr (ih x1_30 σ_28 hf)
set_option maxHeartbeats 4000000 in
theorem fr2_keepsSum (N : Nat) {σ σ0 : Mm} {r0 : Int32} (hf : f2_keepsSum N σ = some (r0, σ0)) : Same (wr2_keepsSum) σ σ0 := by
  unfold f2_keepsSum at hf
  have hS : Same (wr2_keepsSum) σ σ := Same.rf
  obtain ⟨σ_1, eσ_1, hf⟩ := z_l_x hf
  have hS := hS.tr (υ := σ_1) (by rw [eσ_1]; exact Same_sI (i := 0) rfl)
  obtain ⟨σ_2, eσ_2, hf⟩ := z_l_x hf
  have hS := hS.tr (υ := σ_2) (by rw [eσ_2]; exact Same_sI (i := 1) rfl)
  exact hS.tr (fr2_keepsSum_12 N  N (0 : Int32) σ_2 hf)
def wr4_leapToHere (o : Nat) : Wr := [((o + 2), 1, none)]
set_option maxHeartbeats 4000000 in
theorem fr4_leapToHere (N : Nat) {o : Nat} {x1 : Int32} {σ σ0 : Mm} {u0 : Unit} (hf : f4_leapToHere N o x1 σ = some (u0, σ0)) : Same (wr4_leapToHere o) σ σ0 := by
  unfold f4_leapToHere at hf
  have hS : Same (wr4_leapToHere o) σ σ := Same.rf
  rcases z_if hf with hf | hf
  · obtain ⟨-, rfl⟩ := Prod.mk.inj (Option.some.inj hf)
    exact hS
  · rcases z_if hf with hf | hf
    · obtain ⟨-, rfl⟩ := Prod.mk.inj (Option.some.inj hf)
      exact hS
    · obtain ⟨-, hf⟩ := z_c_e hf
      obtain ⟨σ_1, eσ_1, hf⟩ := z_l_x hf
      have hS := hS.tr (υ := σ_1) (by rw [eσ_1]; exact Same_sIe (i := 0) rfl)
      obtain ⟨-, rfl⟩ := Prod.mk.inj (Option.some.inj hf)
      exact hS
def wr2_keepsLaw : Wr := [(47, 1, some 2), (2, 1, some 4), (2, 1, some 5), (22, 1, none), (42, 1, none), (47, 1, some 8), (47, 1, some 9), (48, 1, none), (20, 1, none), (21, 1, none), (19, 1, some 2), (40, 1, none), (41, 1, none), (39, 1, some 2)]
set_option maxHeartbeats 4000000 in
theorem fr2_keepsLaw_165 (N : Nat) {σ0 : Mm} {r0 : Int32} : ∀ (σ : Mm), f2_keepsLaw_165 N σ = some (r0, σ0) → Same (wr2_keepsLaw) σ σ0 := by
  intro σ hf
  unfold f2_keepsLaw_165 at hf
  have hS : Same (wr2_keepsLaw) σ σ := Same.rf
  obtain ⟨r_12, σ_13, hc_14, hf⟩ := z_b_e hf
  have hS := hS.tr ((fr2_keepsSum N hc_14).mono (wsub [5, 6, 0, 1, 2, 7, 8, 9, 10, 11, 12, 13] rfl))
  rcases z_if hf with hf | hf
  · obtain ⟨-, rfl⟩ := Prod.mk.inj (Option.some.inj hf)
    exact hS
  · obtain ⟨t_15, ht_16, kht_16, hf⟩ := z_r_e hf
    obtain ⟨r_17, σ_18, hc_19, hf⟩ := z_b_e hf
    have hS := hS.tr ((fr4_put N hc_19).mono ((kdo_4 kht_16).elim (fun e9 => by rw [e9]; exact wsub [8, 9, 10] rfl) (fun e9 => by rw [e9]; exact wsub [11, 12, 13] rfl)))
    obtain ⟨r_20, σ_21, hc_22, hf⟩ := z_b_e hf
    have hS := hS.tr ((fr2_take N hc_22).mono (wsub [0, 1, 2] rfl))
    obtain ⟨-, hf⟩ := z_c_e hf
    obtain ⟨-, rfl⟩ := Prod.mk.inj (Option.some.inj hf)
    exact hS
set_option maxHeartbeats 4000000 in
theorem fr2_keepsLaw_57 (N : Nat) {σ0 : Mm} {r0 : Int32} : ∀ (σ : Mm), f2_keepsLaw_57 N σ = some (r0, σ0) → Same (wr2_keepsLaw) σ σ0 := by
  intro σ hf
  unfold f2_keepsLaw_57 at hf
  have hS : Same (wr2_keepsLaw) σ σ := Same.rf
  obtain ⟨r_63, σ_64, hc_65, hf⟩ := z_b_e hf
  have hS := hS.tr ((fr9_refuse N hc_65).mono (wsub [1, 2] rfl))
  obtain ⟨-, hf⟩ := z_c_e hf
  obtain ⟨-, rfl⟩ := Prod.mk.inj (Option.some.inj hf)
  exact hS
set_option maxHeartbeats 4000000 in
theorem fr2_keepsLaw_31 (N : Nat) {σ0 : Mm} {r0 : Int32} : ∀ (fu : Nat) (x2 : Int32) (σ : Mm), f2_keepsLaw_31 N fu x2 σ = some (r0, σ0) → Same (wr2_keepsLaw) σ σ0 := by
  intro fu
  induction fu with
  | zero =>
    intro x2 σ hf
    rw [f2_keepsLaw_31] at hf
    cases hf
  | succ fu ih =>
    intro x2 σ hf
    rw [f2_keepsLaw_31] at hf
    have hS : Same (wr2_keepsLaw) σ σ := Same.rf
    rcases z_if hf with hf | hf
    · exact hS.tr (fr2_keepsLaw_165 N   σ hf)
    · obtain ⟨r_23, σ_24, hc_25, hf⟩ := z_b_e hf
      have hS := hS.tr (Same.nil (fr9_kindAt N hc_25))
      rcases z_if hf with hf | hf
      · rcases z_if hf with hf | hf
        · exact hS.tr (fr2_keepsLaw_57 N   σ_24 hf)
        · obtain ⟨r_26, σ_27, hc_28, hf⟩ := z_b_e hf
          have hS := hS.tr ((fr2_take N hc_28).mono (wsub [0, 1, 2] rfl))
          rcases z_if hf with hf | hf
          · obtain ⟨-, rfl⟩ := Prod.mk.inj (Option.some.inj hf)
            exact hS
          · obtain ⟨r_29, σ_30, hc_31, hf⟩ := z_b_e hf
            have hS := hS.tr ((fr2_keepsSum N hc_31).mono (wsub [5, 6, 0, 1, 2, 7, 8, 9, 10, 11, 12, 13] rfl))
            rcases z_if hf with hf | hf
            · obtain ⟨-, rfl⟩ := Prod.mk.inj (Option.some.inj hf)
              exact hS
            · obtain ⟨r_32, σ_33, hc_34, hf⟩ := z_b_e hf
              have hS := hS.tr ((fr2_take N hc_34).mono (wsub [0, 1, 2] rfl))
              rcases z_if hf with hf | hf
              · obtain ⟨-, rfl⟩ := Prod.mk.inj (Option.some.inj hf)
                exact hS
              · obtain ⟨r_35, σ_36, hc_37, hf⟩ := z_b_e hf
                have hS := hS.tr ((fr2_keepsSum N hc_37).mono (wsub [5, 6, 0, 1, 2, 7, 8, 9, 10, 11, 12, 13] rfl))
                rcases z_if hf with hf | hf
                · obtain ⟨-, rfl⟩ := Prod.mk.inj (Option.some.inj hf)
                  exact hS
                · obtain ⟨r_38, σ_39, hc_40, hf⟩ := z_b_e hf
                  have hS := hS.tr ((fr2_take N hc_40).mono (wsub [0, 1, 2] rfl))
                  rcases z_if hf with hf | hf
                  · obtain ⟨-, rfl⟩ := Prod.mk.inj (Option.some.inj hf)
                    exact hS
                  · obtain ⟨t_41, ht_42, kht_42, hf⟩ := z_r_e hf
                    obtain ⟨r_43, σ_44, hc_45, hf⟩ := z_b_e hf
                    have hS := hS.tr ((fr4_put N hc_45).mono ((kdo_4 kht_42).elim (fun e9 => by rw [e9]; exact wsub [8, 9, 10] rfl) (fun e9 => by rw [e9]; exact wsub [11, 12, 13] rfl)))
                    obtain ⟨r_46, σ_47, hc_48, hf⟩ := z_b_e hf
                    have hS := hS.tr ((fr2_keepsSum N hc_48).mono (wsub [5, 6, 0, 1, 2, 7, 8, 9, 10, 11, 12, 13] rfl))
                    rcases z_if hf with hf | hf
                    · obtain ⟨-, rfl⟩ := Prod.mk.inj (Option.some.inj hf)
                      exact hS
                    · obtain ⟨r_49, σ_50, hc_51, hf⟩ := z_b_e hf
                      have hS := hS.tr ((fr2_take N hc_51).mono (wsub [0, 1, 2] rfl))
                      rcases z_if hf with hf | hf
                      · obtain ⟨-, rfl⟩ := Prod.mk.inj (Option.some.inj hf)
                        exact hS
                      · obtain ⟨t_52, ht_53, kht_53, hf⟩ := z_r_e hf
                        obtain ⟨r_54, σ_55, hc_56, hf⟩ := z_b_e hf
                        have hS := hS.tr ((fr4_put N hc_56).mono ((kdo_4 kht_53).elim (fun e9 => by rw [e9]; exact wsub [8, 9, 10] rfl) (fun e9 => by rw [e9]; exact wsub [11, 12, 13] rfl)))
                        obtain ⟨t_57, ht_58, kht_58, hf⟩ := z_r_e hf
                        obtain ⟨r_59, σ_60, hc_61, hf⟩ := z_b_e hf
                        have hS := hS.tr ((fr4_leapToHere N hc_61).mono ((kdo_4 kht_58).elim (fun e9 => by rw [e9]; exact wsub [9] rfl) (fun e9 => by rw [e9]; exact wsub [12] rfl)))
                        obtain ⟨x2_62, ex2_62, hf⟩ := z_l_x hf
                        exact hS.tr (ih x2_62 σ_60 hf)
      · exact hS.tr (fr2_keepsLaw_165 N   σ_24 hf)
set_option maxHeartbeats 4000000 in
theorem fr2_keepsLaw (N : Nat) {x1 : Int32} {σ σ0 : Mm} {r0 : Int32} (hf : f2_keepsLaw N x1 σ = some (r0, σ0)) : Same (wr2_keepsLaw) σ σ0 := by
  unfold f2_keepsLaw at hf
  have hS : Same (wr2_keepsLaw) σ σ := Same.rf
  obtain ⟨r_1, σ_2, hc_3, hf⟩ := z_b_e hf
  have hS := hS.tr ((fr2_take N hc_3).mono (wsub [0, 1, 2] rfl))
  rcases z_if hf with hf | hf
  · obtain ⟨-, rfl⟩ := Prod.mk.inj (Option.some.inj hf)
    exact hS
  · obtain ⟨r_4, σ_5, hc_6, hf⟩ := z_b_e hf
    have hS := hS.tr ((fr2_take N hc_6).mono (wsub [0, 1, 2] rfl))
    rcases z_if hf with hf | hf
    · obtain ⟨-, rfl⟩ := Prod.mk.inj (Option.some.inj hf)
      exact hS
    · obtain ⟨t_7, ht_8, kht_8, hf⟩ := z_r_e hf
      obtain ⟨r_9, σ_10, hc_11, hf⟩ := z_b_e hf
      have hS := hS.tr ((fr4_begin N hc_11).mono ((kdo_4 kht_8).elim (fun e9 => by rw [e9]; exact wsub [3] rfl) (fun e9 => by rw [e9]; exact wsub [4] rfl)))
      exact hS.tr (fr2_keepsLaw_31 N  N (0 : Int32) σ_10 hf)
def wr2_hasRoom : Wr := [(2, 1, some 4), (2, 1, some 5)]
set_option maxHeartbeats 4000000 in
theorem fr2_hasRoom (N : Nat) {x1 : Int32} {x2 : Int32} {σ σ0 : Mm} {r0 : Int32} (hf : f2_hasRoom N x1 x2 σ = some (r0, σ0)) : Same (wr2_hasRoom) σ σ0 := by
  unfold f2_hasRoom at hf
  have hS : Same (wr2_hasRoom) σ σ := Same.rf
  rcases z_if hf with hf | hf
  · obtain ⟨-, rfl⟩ := Prod.mk.inj (Option.some.inj hf)
    exact hS
  · obtain ⟨r_1, σ_2, hc_3, hf⟩ := z_b_e hf
    have hS := hS.tr ((fr9_refuse N hc_3).mono (wsub [0, 1] rfl))
    rcases z_if hf with hf | hf
    · obtain ⟨-, rfl⟩ := Prod.mk.inj (Option.some.inj hf)
      exact hS
    · obtain ⟨-, rfl⟩ := Prod.mk.inj (Option.some.inj hf)
      exact hS
def wr2_takeNames : Wr := [(47, 1, some 2), (2, 1, some 4), (2, 1, some 5)]
set_option maxHeartbeats 4000000 in
theorem fr2_takeNames_2 (N : Nat) {σ0 : Mm} {r0 : Int32} : ∀ (fu : Nat) (x1 : Int32) (σ : Mm), f2_takeNames_2 N fu x1 σ = some (r0, σ0) → Same (wr2_takeNames) σ σ0 := by
  intro fu
  induction fu with
  | zero =>
    intro x1 σ hf
    rw [f2_takeNames_2] at hf
    cases hf
  | succ fu ih =>
    intro x1 σ hf
    rw [f2_takeNames_2] at hf
    have hS : Same (wr2_takeNames) σ σ := Same.rf
    rcases z_if hf with hf | hf
    · obtain ⟨-, rfl⟩ := Prod.mk.inj (Option.some.inj hf)
      exact hS
    · obtain ⟨r_1, σ_2, hc_3, hf⟩ := z_b_e hf
      have hS := hS.tr (Same.nil (fr9_kindAt N hc_3))
      rcases z_if hf with hf | hf
      · obtain ⟨r_4, σ_5, hc_6, hf⟩ := z_b_e hf
        have hS := hS.tr ((fr2_take N hc_6).mono (wsub [0, 1, 2] rfl))
        rcases z_if hf with hf | hf
        · obtain ⟨-, rfl⟩ := Prod.mk.inj (Option.some.inj hf)
          exact hS
        · obtain ⟨x1_7, ex1_7, hf⟩ := z_l_x hf
          exact hS.tr (ih x1_7 σ_5 hf)
      · obtain ⟨-, rfl⟩ := Prod.mk.inj (Option.some.inj hf)
        exact hS
set_option maxHeartbeats 4000000 in
theorem fr2_takeNames (N : Nat) {σ σ0 : Mm} {r0 : Int32} (hf : f2_takeNames N σ = some (r0, σ0)) : Same (wr2_takeNames) σ σ0 := by
  unfold f2_takeNames at hf
  have hS : Same (wr2_takeNames) σ σ := Same.rf
  exact hS.tr (fr2_takeNames_2 N  N (0 : Int32) σ hf)
def wr2_keepsTell : Wr := [(47, 1, some 3), (2, 1, some 4), (2, 1, some 5), (47, 1, some 2), (47, 1, some 4), (47, 1, some 5), (47, 1, some 6)]
set_option maxHeartbeats 4000000 in
theorem fr2_keepsTell_369 (N : Nat) {σ0 : Mm} {r0 : Int32} : ∀ (σ : Mm), f2_keepsTell_369 N σ = some (r0, σ0) → Same (wr2_keepsTell) σ σ0 := by
  intro σ hf
  unfold f2_keepsTell_369 at hf
  have hS : Same (wr2_keepsTell) σ σ := Same.rf
  obtain ⟨r_80, σ_81, hc_82, hf⟩ := z_b_e hf
  have hS := hS.tr ((fr9_refuse N hc_82).mono (wsub [1, 2] rfl))
  obtain ⟨-, hf⟩ := z_c_e hf
  obtain ⟨-, rfl⟩ := Prod.mk.inj (Option.some.inj hf)
  exact hS
set_option maxHeartbeats 4000000 in
theorem fr2_keepsTell (N : Nat) {x1 : Int32} {σ σ0 : Mm} {r0 : Int32} (hf : f2_keepsTell N x1 σ = some (r0, σ0)) : Same (wr2_keepsTell) σ σ0 := by
  unfold f2_keepsTell at hf
  have hS : Same (wr2_keepsTell) σ σ := Same.rf
  rcases z_if hf with hf | hf
  · obtain ⟨σ_1, eσ_1, hf⟩ := z_l_x hf
    have hS := hS.tr (υ := σ_1) (by rw [eσ_1]; exact Same_sI (i := 0) rfl)
    obtain ⟨r_2, σ_3, hc_4, hf⟩ := z_b_e hf
    have hS := hS.tr ((fr2_hasRoom N hc_4).mono (wsub [1, 2] rfl))
    rcases z_if hf with hf | hf
    · obtain ⟨-, rfl⟩ := Prod.mk.inj (Option.some.inj hf)
      exact hS
    · obtain ⟨r_5, σ_6, hc_7, hf⟩ := z_b_e hf
      have hS := hS.tr ((fr2_take N hc_7).mono (wsub [3, 1, 2] rfl))
      rcases z_if hf with hf | hf
      · obtain ⟨-, rfl⟩ := Prod.mk.inj (Option.some.inj hf)
        exact hS
      · obtain ⟨r_8, σ_9, hc_10, hf⟩ := z_b_e hf
        have hS := hS.tr ((fr2_take N hc_10).mono (wsub [3, 1, 2] rfl))
        rcases z_if hf with hf | hf
        · obtain ⟨-, rfl⟩ := Prod.mk.inj (Option.some.inj hf)
          exact hS
        · obtain ⟨r_11, σ_12, hc_13, hf⟩ := z_b_e hf
          have hS := hS.tr ((fr2_take N hc_13).mono (wsub [3, 1, 2] rfl))
          rcases z_if hf with hf | hf
          · obtain ⟨-, rfl⟩ := Prod.mk.inj (Option.some.inj hf)
            exact hS
          · obtain ⟨-, rfl⟩ := Prod.mk.inj (Option.some.inj hf)
            exact hS
  rcases z_if hf with hf | hf
  · obtain ⟨σ_14, eσ_14, hf⟩ := z_l_x hf
    have hS := hS.tr (υ := σ_14) (by rw [eσ_14]; exact Same_sI (i := 4) rfl)
    obtain ⟨r_15, σ_16, hc_17, hf⟩ := z_b_e hf
    have hS := hS.tr ((fr2_hasRoom N hc_17).mono (wsub [1, 2] rfl))
    rcases z_if hf with hf | hf
    · obtain ⟨-, rfl⟩ := Prod.mk.inj (Option.some.inj hf)
      exact hS
    · obtain ⟨r_18, σ_19, hc_20, hf⟩ := z_b_e hf
      have hS := hS.tr ((fr2_take N hc_20).mono (wsub [3, 1, 2] rfl))
      rcases z_if hf with hf | hf
      · obtain ⟨-, rfl⟩ := Prod.mk.inj (Option.some.inj hf)
        exact hS
      · obtain ⟨r_21, σ_22, hc_23, hf⟩ := z_b_e hf
        have hS := hS.tr ((fr2_take N hc_23).mono (wsub [3, 1, 2] rfl))
        rcases z_if hf with hf | hf
        · obtain ⟨-, rfl⟩ := Prod.mk.inj (Option.some.inj hf)
          exact hS
        · obtain ⟨r_24, σ_25, hc_26, hf⟩ := z_b_e hf
          have hS := hS.tr ((fr2_take N hc_26).mono (wsub [3, 1, 2] rfl))
          rcases z_if hf with hf | hf
          · obtain ⟨-, rfl⟩ := Prod.mk.inj (Option.some.inj hf)
            exact hS
          · obtain ⟨r_27, σ_28, hc_29, hf⟩ := z_b_e hf
            have hS := hS.tr ((fr2_take N hc_29).mono (wsub [3, 1, 2] rfl))
            rcases z_if hf with hf | hf
            · obtain ⟨-, rfl⟩ := Prod.mk.inj (Option.some.inj hf)
              exact hS
            · obtain ⟨r_30, σ_31, hc_32, hf⟩ := z_b_e hf
              have hS := hS.tr ((fr2_take N hc_32).mono (wsub [3, 1, 2] rfl))
              rcases z_if hf with hf | hf
              · obtain ⟨-, rfl⟩ := Prod.mk.inj (Option.some.inj hf)
                exact hS
              · obtain ⟨r_33, σ_34, hc_35, hf⟩ := z_b_e hf
                have hS := hS.tr ((fr2_take N hc_35).mono (wsub [3, 1, 2] rfl))
                rcases z_if hf with hf | hf
                · obtain ⟨-, rfl⟩ := Prod.mk.inj (Option.some.inj hf)
                  exact hS
                · obtain ⟨-, rfl⟩ := Prod.mk.inj (Option.some.inj hf)
                  exact hS
  rcases z_if hf with hf | hf
  · obtain ⟨σ_36, eσ_36, hf⟩ := z_l_x hf
    have hS := hS.tr (υ := σ_36) (by rw [eσ_36]; exact Same_sI (i := 5) rfl)
    obtain ⟨r_37, σ_38, hc_39, hf⟩ := z_b_e hf
    have hS := hS.tr ((fr2_hasRoom N hc_39).mono (wsub [1, 2] rfl))
    rcases z_if hf with hf | hf
    · obtain ⟨-, rfl⟩ := Prod.mk.inj (Option.some.inj hf)
      exact hS
    · obtain ⟨r_40, σ_41, hc_42, hf⟩ := z_b_e hf
      have hS := hS.tr ((fr2_take N hc_42).mono (wsub [3, 1, 2] rfl))
      rcases z_if hf with hf | hf
      · obtain ⟨-, rfl⟩ := Prod.mk.inj (Option.some.inj hf)
        exact hS
      · obtain ⟨r_43, σ_44, hc_45, hf⟩ := z_b_e hf
        have hS := hS.tr ((fr2_take N hc_45).mono (wsub [3, 1, 2] rfl))
        rcases z_if hf with hf | hf
        · obtain ⟨-, rfl⟩ := Prod.mk.inj (Option.some.inj hf)
          exact hS
        · obtain ⟨r_46, σ_47, hc_48, hf⟩ := z_b_e hf
          have hS := hS.tr ((fr2_take N hc_48).mono (wsub [3, 1, 2] rfl))
          rcases z_if hf with hf | hf
          · obtain ⟨-, rfl⟩ := Prod.mk.inj (Option.some.inj hf)
            exact hS
          · obtain ⟨r_49, σ_50, hc_51, hf⟩ := z_b_e hf
            have hS := hS.tr ((fr2_take N hc_51).mono (wsub [3, 1, 2] rfl))
            rcases z_if hf with hf | hf
            · obtain ⟨-, rfl⟩ := Prod.mk.inj (Option.some.inj hf)
              exact hS
            · obtain ⟨r_52, σ_53, hc_54, hf⟩ := z_b_e hf
              have hS := hS.tr ((fr2_take N hc_54).mono (wsub [3, 1, 2] rfl))
              rcases z_if hf with hf | hf
              · obtain ⟨-, rfl⟩ := Prod.mk.inj (Option.some.inj hf)
                exact hS
              · obtain ⟨-, rfl⟩ := Prod.mk.inj (Option.some.inj hf)
                exact hS
  rcases z_if hf with hf | hf
  · obtain ⟨σ_55, eσ_55, hf⟩ := z_l_x hf
    have hS := hS.tr (υ := σ_55) (by rw [eσ_55]; exact Same_sI (i := 6) rfl)
    obtain ⟨r_56, σ_57, hc_58, hf⟩ := z_b_e hf
    have hS := hS.tr ((fr2_hasRoom N hc_58).mono (wsub [1, 2] rfl))
    rcases z_if hf with hf | hf
    · obtain ⟨-, rfl⟩ := Prod.mk.inj (Option.some.inj hf)
      exact hS
    · obtain ⟨r_59, σ_60, hc_61, hf⟩ := z_b_e hf
      have hS := hS.tr ((fr2_take N hc_61).mono (wsub [3, 1, 2] rfl))
      rcases z_if hf with hf | hf
      · obtain ⟨-, rfl⟩ := Prod.mk.inj (Option.some.inj hf)
        exact hS
      · obtain ⟨r_62, σ_63, hc_64, hf⟩ := z_b_e hf
        have hS := hS.tr ((fr2_take N hc_64).mono (wsub [3, 1, 2] rfl))
        rcases z_if hf with hf | hf
        · obtain ⟨-, rfl⟩ := Prod.mk.inj (Option.some.inj hf)
          exact hS
        · obtain ⟨r_65, σ_66, hc_67, hf⟩ := z_b_e hf
          have hS := hS.tr ((fr2_take N hc_67).mono (wsub [3, 1, 2] rfl))
          rcases z_if hf with hf | hf
          · obtain ⟨-, rfl⟩ := Prod.mk.inj (Option.some.inj hf)
            exact hS
          · obtain ⟨r_68, σ_69, hc_70, hf⟩ := z_b_e hf
            have hS := hS.tr ((fr2_take N hc_70).mono (wsub [3, 1, 2] rfl))
            rcases z_if hf with hf | hf
            · obtain ⟨-, rfl⟩ := Prod.mk.inj (Option.some.inj hf)
              exact hS
            · obtain ⟨r_71, σ_72, hc_73, hf⟩ := z_b_e hf
              have hS := hS.tr ((fr2_take N hc_73).mono (wsub [3, 1, 2] rfl))
              rcases z_if hf with hf | hf
              · obtain ⟨-, rfl⟩ := Prod.mk.inj (Option.some.inj hf)
                exact hS
              · obtain ⟨r_74, σ_75, hc_76, hf⟩ := z_b_e hf
                have hS := hS.tr ((fr2_takeNames N hc_76).mono (wsub [3, 1, 2] rfl))
                rcases z_if hf with hf | hf
                · obtain ⟨-, rfl⟩ := Prod.mk.inj (Option.some.inj hf)
                  exact hS
                · obtain ⟨r_77, σ_78, hc_79, hf⟩ := z_b_e hf
                  have hS := hS.tr ((fr2_take N hc_79).mono (wsub [3, 1, 2] rfl))
                  rcases z_if hf with hf | hf
                  · obtain ⟨-, rfl⟩ := Prod.mk.inj (Option.some.inj hf)
                    exact hS
                  · obtain ⟨-, rfl⟩ := Prod.mk.inj (Option.some.inj hf)
                    exact hS
  rcases z_if hf with hf | hf
  · exact hS.tr (fr2_keepsTell_369 N   σ hf)
  rcases z_if hf with hf | hf
  · exact hS.tr (fr2_keepsTell_369 N   σ hf)
  rcases z_if hf with hf | hf
  · exact hS.tr (fr2_keepsTell_369 N   σ hf)
  rcases z_if hf with hf | hf
  · exact hS.tr (fr2_keepsTell_369 N   σ hf)
  rcases z_if hf with hf | hf
  · obtain ⟨r_83, σ_84, hc_85, hf⟩ := z_b_e hf
    have hS := hS.tr ((fr2_take N hc_85).mono (wsub [3, 1, 2] rfl))
    rcases z_if hf with hf | hf
    · obtain ⟨-, rfl⟩ := Prod.mk.inj (Option.some.inj hf)
      exact hS
    · obtain ⟨r_86, σ_87, hc_88, hf⟩ := z_b_e hf
      have hS := hS.tr ((fr2_take N hc_88).mono (wsub [3, 1, 2] rfl))
      rcases z_if hf with hf | hf
      · obtain ⟨-, rfl⟩ := Prod.mk.inj (Option.some.inj hf)
        exact hS
      · obtain ⟨r_89, σ_90, hc_91, hf⟩ := z_b_e hf
        have hS := hS.tr ((fr2_take N hc_91).mono (wsub [3, 1, 2] rfl))
        rcases z_if hf with hf | hf
        · obtain ⟨-, rfl⟩ := Prod.mk.inj (Option.some.inj hf)
          exact hS
        · obtain ⟨-, rfl⟩ := Prod.mk.inj (Option.some.inj hf)
          exact hS
  rcases z_if hf with hf | hf
  · obtain ⟨r_92, σ_93, hc_94, hf⟩ := z_b_e hf
    have hS := hS.tr ((fr2_take N hc_94).mono (wsub [3, 1, 2] rfl))
    rcases z_if hf with hf | hf
    · obtain ⟨-, rfl⟩ := Prod.mk.inj (Option.some.inj hf)
      exact hS
    · obtain ⟨r_95, σ_96, hc_97, hf⟩ := z_b_e hf
      have hS := hS.tr ((fr2_take N hc_97).mono (wsub [3, 1, 2] rfl))
      rcases z_if hf with hf | hf
      · obtain ⟨-, rfl⟩ := Prod.mk.inj (Option.some.inj hf)
        exact hS
      · obtain ⟨r_98, σ_99, hc_100, hf⟩ := z_b_e hf
        have hS := hS.tr ((fr2_take N hc_100).mono (wsub [3, 1, 2] rfl))
        rcases z_if hf with hf | hf
        · obtain ⟨-, rfl⟩ := Prod.mk.inj (Option.some.inj hf)
          exact hS
        · obtain ⟨-, rfl⟩ := Prod.mk.inj (Option.some.inj hf)
          exact hS
  exact hS.tr (fr2_keepsTell_369 N   σ hf)
def wr2_keeps (o1 : Nat) : Wr := [(47, 1, some 1), (47, 1, some 2), (47, 1, some 3), (47, 1, some 4), (47, 1, some 5), (47, 1, some 6), (2, 1, some 4), (2, 1, some 5), (22, 1, none), (42, 1, none), (47, 1, some 8), (47, 1, some 9), (48, 1, none), (20, 1, none), (21, 1, none), (19, 1, some 2), (40, 1, none), (41, 1, none), (39, 1, some 2)]
set_option maxHeartbeats 4000000 in
theorem fr2_keeps_113 (N : Nat) {o1 : Nat} {σ0 : Mm} {r0 : Int32} {k35 : Int32 → Mm → Option (Int32 × Mm)} (hk35 : ∀ (x2 : Int32) (σ : Mm), k35 x2 σ = some (r0, σ0) → Same (wr2_keeps o1) σ σ0) : ∀ (x2 : Int32) (σ : Mm), f2_keeps_113 N k35 o1 x2 σ = some (r0, σ0) → Same (wr2_keeps o1) σ σ0 := by
  intro x2 σ hf
  unfold f2_keeps_113 at hf
  have hS : Same (wr2_keeps o1) σ σ := Same.rf
  obtain ⟨x2_16, ex2_16, hf⟩ := z_l_x hf
  exact hS.tr (hk35 x2_16 σ hf)
set_option maxHeartbeats 4000000 in
theorem fr2_keeps_85 (N : Nat) {o1 : Nat} {σ0 : Mm} {r0 : Int32} {k35 : Int32 → Mm → Option (Int32 × Mm)} (hk35 : ∀ (x2 : Int32) (σ : Mm), k35 x2 σ = some (r0, σ0) → Same (wr2_keeps o1) σ σ0) : ∀ (x2 : Int32) (x3 : Int32) (s0 : Int32) (σ : Mm), f2_keeps_85 N k35 o1 x2 x3 s0 σ = some (r0, σ0) → Same (wr2_keeps o1) σ σ0 := by
  intro x2 x3 s0 σ hf
  unfold f2_keeps_85 at hf
  have hS : Same (wr2_keeps o1) σ σ := Same.rf
  rcases z_if hf with hf | hf
  · obtain ⟨r_13, σ_14, hc_15, hf⟩ := z_b_e hf
    have hS := hS.tr ((fr2_keepsTell N hc_15).mono (wsub [2, 6, 7, 1, 3, 4, 5] rfl))
    rcases z_if hf with hf | hf
    · obtain ⟨-, rfl⟩ := Prod.mk.inj (Option.some.inj hf)
      exact hS
    · exact hS.tr (fr2_keeps_113 N hk35 x2 σ_14 hf)
  · obtain ⟨r_17, σ_18, hc_19, hf⟩ := z_b_e hf
    have hS := hS.tr ((fr2_keepsLaw N hc_19).mono (wsub [1, 6, 7, 8, 9, 10, 11, 12, 13, 14, 15, 16, 17, 18] rfl))
    rcases z_if hf with hf | hf
    · obtain ⟨-, rfl⟩ := Prod.mk.inj (Option.some.inj hf)
      exact hS
    · exact hS.tr (fr2_keeps_113 N hk35 x2 σ_18 hf)
set_option maxHeartbeats 4000000 in
theorem fr2_keeps_84 (N : Nat) {o1 : Nat} {σ0 : Mm} {r0 : Int32} {k35 : Int32 → Mm → Option (Int32 × Mm)} (hk35 : ∀ (x2 : Int32) (σ : Mm), k35 x2 σ = some (r0, σ0) → Same (wr2_keeps o1) σ σ0) : ∀ (x2 : Int32) (x3 : Int32) (σ : Mm), f2_keeps_84 N k35 o1 x2 x3 σ = some (r0, σ0) → Same (wr2_keeps o1) σ σ0 := by
  intro x2 x3 σ hf
  unfold f2_keeps_84 at hf
  have hS : Same (wr2_keeps o1) σ σ := Same.rf
  exact hS.tr (fr2_keeps_85 N hk35 x2 x3 (0 : Int32) σ hf)
set_option maxHeartbeats 4000000 in
theorem fr2_keeps_35 (N : Nat) {o1 : Nat} {σ0 : Mm} {r0 : Int32} : ∀ (fu : Nat) (x2 : Int32) (σ : Mm), f2_keeps_35 N o1 fu x2 σ = some (r0, σ0) → Same (wr2_keeps o1) σ σ0 := by
  intro fu
  induction fu with
  | zero =>
    intro x2 σ hf
    rw [f2_keeps_35] at hf
    cases hf
  | succ fu ih =>
    intro x2 σ hf
    rw [f2_keeps_35] at hf
    have hS : Same (wr2_keeps o1) σ σ := Same.rf
    rcases z_if hf with hf | hf
    · obtain ⟨-, rfl⟩ := Prod.mk.inj (Option.some.inj hf)
      exact hS
    · obtain ⟨r_7, σ_8, hc_9, hf⟩ := z_b_e hf
      have hS := hS.tr (Same.nil (fr9_kindAt N hc_9))
      rcases z_if hf with hf | hf
      · obtain ⟨-, rfl⟩ := Prod.mk.inj (Option.some.inj hf)
        exact hS
      · obtain ⟨r_10, σ_11, hc_12, hf⟩ := z_b_e hf
        have hS := hS.tr (Same.nil (fr9_kindAt N hc_12))
        rcases z_if hf with hf | hf
        · exact hS.tr (fr2_keeps_84 N ih x2 r_10 σ_11 hf)
        · rcases z_if hf with hf | hf
          · exact hS.tr (fr2_keeps_84 N ih x2 r_10 σ_11 hf)
          · exact hS.tr (fr2_keeps_85 N ih x2 r_10 (1 : Int32) σ_11 hf)
set_option maxHeartbeats 4000000 in
theorem fr2_keeps (N : Nat) {o1 : Nat} {σ σ0 : Mm} {r0 : Int32} (hf : f2_keeps N o1 σ = some (r0, σ0)) : Same (wr2_keeps o1) σ σ0 := by
  unfold f2_keeps at hf
  have hS : Same (wr2_keeps o1) σ σ := Same.rf
  obtain ⟨σ_1, eσ_1, hf⟩ := z_l_x hf
  have hS := hS.tr (υ := σ_1) (by rw [eσ_1]; exact Same_sR (i := 0) rfl)
  obtain ⟨σ_2, eσ_2, hf⟩ := z_l_x hf
  have hS := hS.tr (υ := σ_2) (by rw [eσ_2]; exact Same_sI (i := 1) rfl)
  obtain ⟨σ_3, eσ_3, hf⟩ := z_l_x hf
  have hS := hS.tr (υ := σ_3) (by rw [eσ_3]; exact Same_sI (i := 2) rfl)
  obtain ⟨σ_4, eσ_4, hf⟩ := z_l_x hf
  have hS := hS.tr (υ := σ_4) (by rw [eσ_4]; exact Same_sI (i := 3) rfl)
  obtain ⟨σ_5, eσ_5, hf⟩ := z_l_x hf
  have hS := hS.tr (υ := σ_5) (by rw [eσ_5]; exact Same_sI (i := 4) rfl)
  obtain ⟨σ_6, eσ_6, hf⟩ := z_l_x hf
  have hS := hS.tr (υ := σ_6) (by rw [eσ_6]; exact Same_sI (i := 5) rfl)
  exact hS.tr (fr2_keeps_35 N  N (0 : Int32) σ_6 hf)
def wr4_clear (o : Nat) : Wr := [(o, 1, some 2), ((o + 3), 1, none), ((o + 1), 1, none), ((o + 2), 1, none)]
set_option maxHeartbeats 4000000 in
theorem fr4_clear (N : Nat) {o : Nat} {σ σ0 : Mm} {u0 : Unit} (hf : f4_clear N o σ = some (u0, σ0)) : Same (wr4_clear o) σ σ0 := by
  unfold f4_clear at hf
  have hS : Same (wr4_clear o) σ σ := Same.rf
  obtain ⟨σ_1, eσ_1, hf⟩ := z_l_x hf
  have hS := hS.tr (υ := σ_1) (by rw [eσ_1]; exact Same_sI (i := 0) rfl)
  obtain ⟨r_2, σ_3, hc_4, hf⟩ := z_b_e hf
  have hS := hS.tr ((fr4_begin N hc_4).mono (wsub [1] rfl))
  obtain ⟨r_5, σ_6, hc_7, hf⟩ := z_b_e hf
  have hS := hS.tr ((fr4_put N hc_7).mono (wsub [2, 3, 0] rfl))
  obtain ⟨r_8, σ_9, hc_10, hf⟩ := z_b_e hf
  have hS := hS.tr ((fr4_put N hc_10).mono (wsub [2, 3, 0] rfl))
  obtain ⟨r_11, σ_12, hc_13, hf⟩ := z_b_e hf
  have hS := hS.tr ((fr4_put N hc_13).mono (wsub [2, 3, 0] rfl))
  obtain ⟨r_14, σ_15, hc_16, hf⟩ := z_b_e hf
  have hS := hS.tr ((fr4_put N hc_16).mono (wsub [2, 3, 0] rfl))
  obtain ⟨r_17, σ_18, hc_19, hf⟩ := z_b_e hf
  have hS := hS.tr ((fr4_begin N hc_19).mono (wsub [1] rfl))
  obtain ⟨r_20, σ_21, hc_22, hf⟩ := z_b_e hf
  have hS := hS.tr ((fr4_put N hc_22).mono (wsub [2, 3, 0] rfl))
  obtain ⟨r_23, σ_24, hc_25, hf⟩ := z_b_e hf
  have hS := hS.tr ((fr4_put N hc_25).mono (wsub [2, 3, 0] rfl))
  obtain ⟨r_26, σ_27, hc_28, hf⟩ := z_b_e hf
  have hS := hS.tr ((fr4_begin N hc_28).mono (wsub [1] rfl))
  obtain ⟨r_29, σ_30, hc_31, hf⟩ := z_b_e hf
  have hS := hS.tr ((fr4_put N hc_31).mono (wsub [2, 3, 0] rfl))
  obtain ⟨r_32, σ_33, hc_34, hf⟩ := z_b_e hf
  have hS := hS.tr ((fr4_put N hc_34).mono (wsub [2, 3, 0] rfl))
  obtain ⟨r_35, σ_36, hc_37, hf⟩ := z_b_e hf
  have hS := hS.tr ((fr4_begin N hc_37).mono (wsub [1] rfl))
  obtain ⟨r_38, σ_39, hc_40, hf⟩ := z_b_e hf
  have hS := hS.tr ((fr4_put N hc_40).mono (wsub [2, 3, 0] rfl))
  obtain ⟨r_41, σ_42, hc_43, hf⟩ := z_b_e hf
  have hS := hS.tr ((fr4_put N hc_43).mono (wsub [2, 3, 0] rfl))
  obtain ⟨-, rfl⟩ := Prod.mk.inj (Option.some.inj hf)
  exact hS
def wr3_clear (o : Nat) : Wr := [(o, 1, some 0), (o, 1, some 1), (o, 1, some 2), (o, 1, some 3), (o, 1, some 4), (o, 1, some 5), (o, 1, some 16), ((o + 12), 1, some 2), ((o + 15), 1, none), ((o + 13), 1, none), ((o + 14), 1, none)]
set_option maxHeartbeats 4000000 in
theorem fr3_clear (N : Nat) {o : Nat} {σ σ0 : Mm} {u0 : Unit} (hf : f3_clear N o σ = some (u0, σ0)) : Same (wr3_clear o) σ σ0 := by
  unfold f3_clear at hf
  have hS : Same (wr3_clear o) σ σ := Same.rf
  obtain ⟨σ_1, eσ_1, hf⟩ := z_l_x hf
  have hS := hS.tr (υ := σ_1) (by rw [eσ_1]; exact Same_sI (i := 0) rfl)
  obtain ⟨σ_2, eσ_2, hf⟩ := z_l_x hf
  have hS := hS.tr (υ := σ_2) (by rw [eσ_2]; exact Same_sI (i := 1) rfl)
  obtain ⟨σ_3, eσ_3, hf⟩ := z_l_x hf
  have hS := hS.tr (υ := σ_3) (by rw [eσ_3]; exact Same_sI (i := 2) rfl)
  obtain ⟨σ_4, eσ_4, hf⟩ := z_l_x hf
  have hS := hS.tr (υ := σ_4) (by rw [eσ_4]; exact Same_sI (i := 3) rfl)
  obtain ⟨σ_5, eσ_5, hf⟩ := z_l_x hf
  have hS := hS.tr (υ := σ_5) (by rw [eσ_5]; exact Same_sI (i := 4) rfl)
  obtain ⟨σ_6, eσ_6, hf⟩ := z_l_x hf
  have hS := hS.tr (υ := σ_6) (by rw [eσ_6]; exact Same_sI (i := 5) rfl)
  obtain ⟨σ_7, eσ_7, hf⟩ := z_l_x hf
  have hS := hS.tr (υ := σ_7) (by rw [eσ_7]; exact Same_sI (i := 6) rfl)
  obtain ⟨r_8, σ_9, hc_10, hf⟩ := z_b_e hf
  have hS := hS.tr ((fr4_clear N hc_10).mono (wsub [7, 8, 9, 10] rfl))
  obtain ⟨-, rfl⟩ := Prod.mk.inj (Option.some.inj hf)
  exact hS
def wr3_addName (o : Nat) : Wr := [((o + 17), 1, none), ((o + 18), 1, none), ((o + 19), 1, none), (o, 1, some 16)]
set_option maxHeartbeats 4000000 in
theorem fr3_addName (N : Nat) {o : Nat} {x1 : Int64} {x3 : Int32} {x4 : Int32} {σ σ0 : Mm} {u0 : Unit} (hf : f3_addName N o x1 x3 x4 σ = some (u0, σ0)) : Same (wr3_addName o) σ σ0 := by
  unfold f3_addName at hf
  have hS : Same (wr3_addName o) σ σ := Same.rf
  rcases z_if hf with hf | hf
  · obtain ⟨-, rfl⟩ := Prod.mk.inj (Option.some.inj hf)
    exact hS
  · obtain ⟨-, hf⟩ := z_c_e hf
    obtain ⟨σ_1, eσ_1, hf⟩ := z_l_x hf
    have hS := hS.tr (υ := σ_1) (by rw [eσ_1]; exact Same_sLr (i := 0) rfl)
    obtain ⟨-, hf⟩ := z_c_e hf
    obtain ⟨σ_2, eσ_2, hf⟩ := z_l_x hf
    have hS := hS.tr (υ := σ_2) (by rw [eσ_2]; exact Same_sIe (i := 1) rfl)
    obtain ⟨-, hf⟩ := z_c_e hf
    obtain ⟨σ_3, eσ_3, hf⟩ := z_l_x hf
    have hS := hS.tr (υ := σ_3) (by rw [eσ_3]; exact Same_sIe (i := 2) rfl)
    obtain ⟨σ_4, eσ_4, hf⟩ := z_l_x hf
    have hS := hS.tr (υ := σ_4) (by rw [eσ_4]; exact Same_sI (i := 3) rfl)
    obtain ⟨-, rfl⟩ := Prod.mk.inj (Option.some.inj hf)
    exact hS
def wr3_rowOfName (o : Nat) : Wr := []
set_option maxHeartbeats 4000000 in
theorem fr3_rowOfName_2 (N : Nat) {o : Nat} {x1 : Int64} {σ0 : Mm} {r0 : Int32} : ∀ (fu : Nat) (x3 : Int32) (σ : Mm), f3_rowOfName_2 N o x1 fu x3 σ = some (r0, σ0) → Same (wr3_rowOfName o) σ σ0 := by
  intro fu
  induction fu with
  | zero =>
    intro x3 σ hf
    rw [f3_rowOfName_2] at hf
    cases hf
  | succ fu ih =>
    intro x3 σ hf
    rw [f3_rowOfName_2] at hf
    have hS : Same (wr3_rowOfName o) σ σ := Same.rf
    rcases z_if hf with hf | hf
    · obtain ⟨-, rfl⟩ := Prod.mk.inj (Option.some.inj hf)
      exact hS
    · obtain ⟨hi_1, hf⟩ := z_c_e hf
      rcases z_if hf with hf | hf
      · obtain ⟨-, rfl⟩ := Prod.mk.inj (Option.some.inj hf)
        exact hS
      · obtain ⟨x3_2, ex3_2, hf⟩ := z_l_x hf
        exact hS.tr (ih x3_2 σ hf)
set_option maxHeartbeats 4000000 in
theorem fr3_rowOfName (N : Nat) {o : Nat} {x1 : Int64} {σ σ0 : Mm} {r0 : Int32} (hf : f3_rowOfName N o x1 σ = some (r0, σ0)) : Same (wr3_rowOfName o) σ σ0 := by
  unfold f3_rowOfName at hf
  have hS : Same (wr3_rowOfName o) σ σ := Same.rf
  exact hS.tr (fr3_rowOfName_2 N  N (0 : Int32) σ hf)
def wr3_numberOfName (o : Nat) : Wr := []
set_option maxHeartbeats 4000000 in
theorem fr3_numberOfName (N : Nat) {o : Nat} {x1 : Int64} {x3 : Int32} {σ σ0 : Mm} {r0 : Int32} (hf : f3_numberOfName N o x1 x3 σ = some (r0, σ0)) : Same (wr3_numberOfName o) σ σ0 := by
  unfold f3_numberOfName at hf
  have hS : Same (wr3_numberOfName o) σ σ := Same.rf
  obtain ⟨r_1, σ_2, hc_3, hf⟩ := z_b_e hf
  have hS := hS.tr (Same.nil (fr3_rowOfName N hc_3))
  rcases z_if hf with hf | hf
  · obtain ⟨-, rfl⟩ := Prod.mk.inj (Option.some.inj hf)
    exact hS
  · obtain ⟨hi_4, hf⟩ := z_c_e hf
    rcases z_if hf with hf | hf
    · obtain ⟨hi_5, hf⟩ := z_c_e hf
      obtain ⟨-, rfl⟩ := Prod.mk.inj (Option.some.inj hf)
      exact hS
    · obtain ⟨-, rfl⟩ := Prod.mk.inj (Option.some.inj hf)
      exact hS
def wr5_begin (o : Nat) (o1 : Nat) : Wr := [(o, 1, some 0), (o, 1, some 1), (o, 1, some 2), (o, 1, some 3), ((o + 1), 1, none)]
set_option maxHeartbeats 4000000 in
theorem fr5_begin (N : Nat) {o : Nat} {o1 : Nat} {σ σ0 : Mm} {u0 : Unit} (hf : f5_begin N o o1 σ = some (u0, σ0)) : Same (wr5_begin o o1) σ σ0 := by
  unfold f5_begin at hf
  have hS : Same (wr5_begin o o1) σ σ := Same.rf
  obtain ⟨σ_1, eσ_1, hf⟩ := z_l_x hf
  have hS := hS.tr (υ := σ_1) (by rw [eσ_1]; exact Same_sI (i := 0) rfl)
  obtain ⟨σ_2, eσ_2, hf⟩ := z_l_x hf
  have hS := hS.tr (υ := σ_2) (by rw [eσ_2]; exact Same_sI (i := 1) rfl)
  obtain ⟨σ_3, eσ_3, hf⟩ := z_l_x hf
  have hS := hS.tr (υ := σ_3) (by rw [eσ_3]; exact Same_sI (i := 2) rfl)
  obtain ⟨σ_4, eσ_4, hf⟩ := z_l_x hf
  have hS := hS.tr (υ := σ_4) (by rw [eσ_4]; exact Same_sI (i := 3) rfl)
  obtain ⟨σ_5, eσ_5, hf⟩ := z_l_x hf
  have hS := hS.tr (υ := σ_5) (by rw [eσ_5]; exact Same_sIr (i := 4) rfl)
  obtain ⟨-, rfl⟩ := Prod.mk.inj (Option.some.inj hf)
  exact hS
def wr5_become (o : Nat) (o1 : Nat) : Wr := [(o, 1, some 0), (o, 1, some 1), (o, 1, some 2), (o, 1, some 3), ((o + 1), 1, none)]
set_option maxHeartbeats 4000000 in
theorem fr5_become (N : Nat) {o : Nat} {o1 : Nat} {σ σ0 : Mm} {u0 : Unit} (hf : f5_become N o o1 σ = some (u0, σ0)) : Same (wr5_become o o1) σ σ0 := by
  unfold f5_become at hf
  have hS : Same (wr5_become o o1) σ σ := Same.rf
  obtain ⟨σ_1, eσ_1, hf⟩ := z_l_x hf
  have hS := hS.tr (υ := σ_1) (by rw [eσ_1]; exact Same_sI (i := 0) rfl)
  obtain ⟨σ_2, eσ_2, hf⟩ := z_l_x hf
  have hS := hS.tr (υ := σ_2) (by rw [eσ_2]; exact Same_sI (i := 1) rfl)
  obtain ⟨σ_3, eσ_3, hf⟩ := z_l_x hf
  have hS := hS.tr (υ := σ_3) (by rw [eσ_3]; exact Same_sI (i := 2) rfl)
  obtain ⟨σ_4, eσ_4, hf⟩ := z_l_x hf
  have hS := hS.tr (υ := σ_4) (by rw [eσ_4]; exact Same_sI (i := 3) rfl)
  obtain ⟨σ_5, eσ_5, hf⟩ := z_l_x hf
  have hS := hS.tr (υ := σ_5) (by rw [eσ_5]; exact Same_sIr (i := 4) rfl)
  obtain ⟨-, rfl⟩ := Prod.mk.inj (Option.some.inj hf)
  exact hS
def wr6_forgetAll : Wr := [(70, 1, some 2), (70, 1, some 5)]
set_option maxHeartbeats 4000000 in
theorem fr6_forgetAll (N : Nat) {σ σ0 : Mm} {u0 : Unit} (hf : f6_forgetAll N σ = some (u0, σ0)) : Same (wr6_forgetAll) σ σ0 := by
  unfold f6_forgetAll at hf
  have hS : Same (wr6_forgetAll) σ σ := Same.rf
  obtain ⟨σ_1, eσ_1, hf⟩ := z_l_x hf
  have hS := hS.tr (υ := σ_1) (by rw [eσ_1]; exact Same_sI (i := 0) rfl)
  obtain ⟨σ_2, eσ_2, hf⟩ := z_l_x hf
  have hS := hS.tr (υ := σ_2) (by rw [eσ_2]; exact Same_sI (i := 1) rfl)
  obtain ⟨-, rfl⟩ := Prod.mk.inj (Option.some.inj hf)
  exact hS
def wr6_keep (o1 : Nat) : Wr := [(74, 60, none), (70, 1, some 1), (70, 1, some 2)]
set_option maxHeartbeats 4000000 in
theorem fr6_keep_35 (N : Nat) {o1 : Nat} {σ0 : Mm} {u0 : Unit} : ∀ (s1 : Int32) (σ : Mm), f6_keep_35 N o1 s1 σ = some (u0, σ0) → Same (wr6_keep o1) σ σ0 := by
  intro s1 σ hf
  unfold f6_keep_35 at hf
  have hS : Same (wr6_keep o1) σ σ := Same.rf
  obtain ⟨σ_5, eσ_5, hf⟩ := z_l_x hf
  have hS := hS.tr (υ := σ_5) (by rw [eσ_5]; exact Same_sI (i := 1) rfl)
  obtain ⟨σ_6, eσ_6, hf⟩ := z_l_x hf
  have hS := hS.tr (υ := σ_6) (by rw [eσ_6]; exact Same_sI (i := 2) rfl)
  obtain ⟨-, rfl⟩ := Prod.mk.inj (Option.some.inj hf)
  exact hS
set_option maxHeartbeats 4000000 in
theorem fr6_keep (N : Nat) {o1 : Nat} {σ σ0 : Mm} {u0 : Unit} (hf : f6_keep N o1 σ = some (u0, σ0)) : Same (wr6_keep o1) σ σ0 := by
  unfold f6_keep at hf
  have hS : Same (wr6_keep o1) σ σ := Same.rf
  obtain ⟨hi_1, hf⟩ := z_c_e hf
  obtain ⟨r_2, σ_3, hc_4, hf⟩ := z_b_e hf
  have hS := hS.tr ((fr5_become N hc_4).big (by
    intro a ha
    have := ix_lt_71 hi_1
    simp only [wr5_become, List.mem_cons, List.not_mem_nil, or_false] at ha
    rcases ha with rfl | rfl | rfl | rfl | rfl
    · exact ⟨_, List.mem_of_getElem? (i := 0) rfl, by dsimp only; omega, by dsimp only; omega, by simp⟩
    · exact ⟨_, List.mem_of_getElem? (i := 0) rfl, by dsimp only; omega, by dsimp only; omega, by simp⟩
    · exact ⟨_, List.mem_of_getElem? (i := 0) rfl, by dsimp only; omega, by dsimp only; omega, by simp⟩
    · exact ⟨_, List.mem_of_getElem? (i := 0) rfl, by dsimp only; omega, by dsimp only; omega, by simp⟩
    · exact ⟨_, List.mem_of_getElem? (i := 0) rfl, by dsimp only; omega, by dsimp only; omega, by simp⟩))
  rcases z_if hf with hf | hf
  · exact hS.tr (fr6_keep_35 N  (0 : Int32) σ_3 hf)
  · exact hS.tr (fr6_keep_35 N  ((gI σ_3 70 1) + (1 : Int32)) σ_3 hf)
def wr6_takeBack (o1 : Nat) : Wr := [(70, 1, some 1), (o1, 1, some 0), (o1, 1, some 1), (o1, 1, some 2), (o1, 1, some 3), ((o1 + 1), 1, none), (70, 1, some 2)]
set_option maxHeartbeats 4000000 in
theorem fr6_takeBack_28 (N : Nat) {o1 : Nat} {σ0 : Mm} {r0 : Int32} : ∀ (s1 : Int32) (σ : Mm), f6_takeBack_28 N o1 s1 σ = some (r0, σ0) → Same (wr6_takeBack o1) σ σ0 := by
  intro s1 σ hf
  unfold f6_takeBack_28 at hf
  have hS : Same (wr6_takeBack o1) σ σ := Same.rf
  obtain ⟨σ_1, eσ_1, hf⟩ := z_l_x hf
  have hS := hS.tr (υ := σ_1) (by rw [eσ_1]; exact Same_sI (i := 0) rfl)
  obtain ⟨hi_2, hf⟩ := z_c_e hf
  obtain ⟨r_3, σ_4, hc_5, hf⟩ := z_b_e hf
  have hS := hS.tr ((fr5_become N hc_5).big (by
    intro a ha
    have := ix_lt_71 hi_2
    simp only [wr5_become, List.mem_cons, List.not_mem_nil, or_false] at ha
    rcases ha with rfl | rfl | rfl | rfl | rfl
    · exact ⟨_, List.mem_of_getElem? (i := 1) rfl, by dsimp only; omega, by dsimp only; omega, by simp⟩
    · exact ⟨_, List.mem_of_getElem? (i := 2) rfl, by dsimp only; omega, by dsimp only; omega, by simp⟩
    · exact ⟨_, List.mem_of_getElem? (i := 3) rfl, by dsimp only; omega, by dsimp only; omega, by simp⟩
    · exact ⟨_, List.mem_of_getElem? (i := 4) rfl, by dsimp only; omega, by dsimp only; omega, by simp⟩
    · exact ⟨_, List.mem_of_getElem? (i := 5) rfl, by dsimp only; omega, by dsimp only; omega, by simp⟩))
  obtain ⟨σ_6, eσ_6, hf⟩ := z_l_x hf
  have hS := hS.tr (υ := σ_6) (by rw [eσ_6]; exact Same_sI (i := 6) rfl)
  obtain ⟨-, rfl⟩ := Prod.mk.inj (Option.some.inj hf)
  exact hS
set_option maxHeartbeats 4000000 in
theorem fr6_takeBack (N : Nat) {o1 : Nat} {σ σ0 : Mm} {r0 : Int32} (hf : f6_takeBack N o1 σ = some (r0, σ0)) : Same (wr6_takeBack o1) σ σ0 := by
  unfold f6_takeBack at hf
  have hS : Same (wr6_takeBack o1) σ σ := Same.rf
  rcases z_if hf with hf | hf
  · obtain ⟨-, rfl⟩ := Prod.mk.inj (Option.some.inj hf)
    exact hS
  · rcases z_if hf with hf | hf
    · exact hS.tr (fr6_takeBack_28 N  (29 : Int32) σ hf)
    · exact hS.tr (fr6_takeBack_28 N  ((gI σ 70 1) - (1 : Int32)) σ hf)
def wr6_holdIn (o2 : Nat) (o3 : Nat) : Wr := [(134, 24, none), (70, 1, some 5)]
set_option maxHeartbeats 4000000 in
theorem fr6_holdIn (N : Nat) {o2 : Nat} {o3 : Nat} {x1 : Int32} {σ σ0 : Mm} {u0 : Unit} (hf : f6_holdIn N o2 o3 x1 σ = some (u0, σ0)) : Same (wr6_holdIn o2 o3) σ σ0 := by
  unfold f6_holdIn at hf
  have hS : Same (wr6_holdIn o2 o3) σ σ := Same.rf
  obtain ⟨hi_1, hf⟩ := z_c_e hf
  obtain ⟨r_2, σ_3, hc_4, hf⟩ := z_b_e hf
  have hS := hS.tr ((fr5_become N hc_4).big (by
    intro a ha
    have := ix_lt_72 hi_1
    simp only [wr5_become, List.mem_cons, List.not_mem_nil, or_false] at ha
    rcases ha with rfl | rfl | rfl | rfl | rfl
    · exact ⟨_, List.mem_of_getElem? (i := 0) rfl, by dsimp only; omega, by dsimp only; omega, by simp⟩
    · exact ⟨_, List.mem_of_getElem? (i := 0) rfl, by dsimp only; omega, by dsimp only; omega, by simp⟩
    · exact ⟨_, List.mem_of_getElem? (i := 0) rfl, by dsimp only; omega, by dsimp only; omega, by simp⟩
    · exact ⟨_, List.mem_of_getElem? (i := 0) rfl, by dsimp only; omega, by dsimp only; omega, by simp⟩
    · exact ⟨_, List.mem_of_getElem? (i := 0) rfl, by dsimp only; omega, by dsimp only; omega, by simp⟩))
  obtain ⟨hi_5, hf⟩ := z_c_e hf
  obtain ⟨r_6, σ_7, hc_8, hf⟩ := z_b_e hf
  have hS := hS.tr ((fr1_become N hc_8).big (by
    intro a ha
    have := ix_lt_73 hi_5
    simp only [wr1_become, List.mem_cons, List.not_mem_nil, or_false] at ha
    rcases ha with rfl | rfl | rfl | rfl | rfl
    · exact ⟨_, List.mem_of_getElem? (i := 0) rfl, by dsimp only; omega, by dsimp only; omega, by simp⟩
    · exact ⟨_, List.mem_of_getElem? (i := 0) rfl, by dsimp only; omega, by dsimp only; omega, by simp⟩
    · exact ⟨_, List.mem_of_getElem? (i := 0) rfl, by dsimp only; omega, by dsimp only; omega, by simp⟩
    · exact ⟨_, List.mem_of_getElem? (i := 0) rfl, by dsimp only; omega, by dsimp only; omega, by simp⟩
    · exact ⟨_, List.mem_of_getElem? (i := 0) rfl, by dsimp only; omega, by dsimp only; omega, by simp⟩))
  obtain ⟨σ_9, eσ_9, hf⟩ := z_l_x hf
  have hS := hS.tr (υ := σ_9) (by rw [eσ_9]; exact Same_sI (i := 1) rfl)
  obtain ⟨-, rfl⟩ := Prod.mk.inj (Option.some.inj hf)
  exact hS
def wr6_goOnFrom (o2 : Nat) (o3 : Nat) : Wr := [(o2, 1, some 0), (o2, 1, some 1), (o2, 1, some 2), (o2, 1, some 3), ((o2 + 1), 1, none), ((o3 + 1), 1, none), ((o3 + 2), 1, none), ((o3 + 3), 1, none), ((o3 + 4), 1, none), ((o3 + 5), 1, none), (70, 1, some 2)]
set_option maxHeartbeats 4000000 in
theorem fr6_goOnFrom (N : Nat) {o2 : Nat} {o3 : Nat} {x1 : Int32} {σ σ0 : Mm} {r0 : Int32} (hf : f6_goOnFrom N o2 o3 x1 σ = some (r0, σ0)) : Same (wr6_goOnFrom o2 o3) σ σ0 := by
  unfold f6_goOnFrom at hf
  have hS : Same (wr6_goOnFrom o2 o3) σ σ := Same.rf
  rcases z_if hf with hf | hf
  · obtain ⟨-, rfl⟩ := Prod.mk.inj (Option.some.inj hf)
    exact hS
  · obtain ⟨hi_1, hf⟩ := z_c_e hf
    obtain ⟨r_2, σ_3, hc_4, hf⟩ := z_b_e hf
    have hS := hS.tr ((fr5_become N hc_4).big (by
    intro a ha
    have := ix_lt_72 hi_1
    simp only [wr5_become, List.mem_cons, List.not_mem_nil, or_false] at ha
    rcases ha with rfl | rfl | rfl | rfl | rfl
    · exact ⟨_, List.mem_of_getElem? (i := 0) rfl, by dsimp only; omega, by dsimp only; omega, by simp⟩
    · exact ⟨_, List.mem_of_getElem? (i := 1) rfl, by dsimp only; omega, by dsimp only; omega, by simp⟩
    · exact ⟨_, List.mem_of_getElem? (i := 2) rfl, by dsimp only; omega, by dsimp only; omega, by simp⟩
    · exact ⟨_, List.mem_of_getElem? (i := 3) rfl, by dsimp only; omega, by dsimp only; omega, by simp⟩
    · exact ⟨_, List.mem_of_getElem? (i := 4) rfl, by dsimp only; omega, by dsimp only; omega, by simp⟩))
    obtain ⟨hi_5, hf⟩ := z_c_e hf
    obtain ⟨r_6, σ_7, hc_8, hf⟩ := z_b_e hf
    have hS := hS.tr ((fr1_become N hc_8).big (by
    intro a ha
    have := ix_lt_73 hi_5
    simp only [wr1_become, List.mem_cons, List.not_mem_nil, or_false] at ha
    rcases ha with rfl | rfl | rfl | rfl | rfl
    · exact ⟨_, List.mem_of_getElem? (i := 5) rfl, by dsimp only; omega, by dsimp only; omega, by simp⟩
    · exact ⟨_, List.mem_of_getElem? (i := 6) rfl, by dsimp only; omega, by dsimp only; omega, by simp⟩
    · exact ⟨_, List.mem_of_getElem? (i := 7) rfl, by dsimp only; omega, by dsimp only; omega, by simp⟩
    · exact ⟨_, List.mem_of_getElem? (i := 8) rfl, by dsimp only; omega, by dsimp only; omega, by simp⟩
    · exact ⟨_, List.mem_of_getElem? (i := 9) rfl, by dsimp only; omega, by dsimp only; omega, by simp⟩))
    obtain ⟨σ_9, eσ_9, hf⟩ := z_l_x hf
    have hS := hS.tr (υ := σ_9) (by rw [eσ_9]; exact Same_sI (i := 10) rfl)
    obtain ⟨-, rfl⟩ := Prod.mk.inj (Option.some.inj hf)
    exact hS
def wr7_isIn : Wr := []
set_option maxHeartbeats 4000000 in
theorem fr7_isIn (N : Nat) {x0 : Int32} {x1 : Int32} {σ σ0 : Mm} {r0 : Int32} (hf : f7_isIn N x0 x1 σ = some (r0, σ0)) : Same (wr7_isIn) σ σ0 := by
  unfold f7_isIn at hf
  have hS : Same (wr7_isIn) σ σ := Same.rf
  rcases z_if hf with hf | hf
  · obtain ⟨-, rfl⟩ := Prod.mk.inj (Option.some.inj hf)
    exact hS
  · obtain ⟨-, rfl⟩ := Prod.mk.inj (Option.some.inj hf)
    exact hS
def wr7_lengthBy : Wr := []
set_option maxHeartbeats 4000000 in
theorem fr7_lengthBy (N : Nat) {x1 : Int32} {x2 : Int32} {x3 : Int32} {σ σ0 : Mm} {r0 : Int32} (hf : f7_lengthBy N x1 x2 x3 σ = some (r0, σ0)) : Same (wr7_lengthBy) σ σ0 := by
  unfold f7_lengthBy at hf
  have hS : Same (wr7_lengthBy) σ σ := Same.rf
  obtain ⟨x4_1, ex4_1, hf⟩ := z_l_x hf
  obtain ⟨hi_2, hf⟩ := z_c_e hf
  obtain ⟨hi_3, hf⟩ := z_c_e hf
  obtain ⟨-, rfl⟩ := Prod.mk.inj (Option.some.inj hf)
  exact hS
def wr7_nextPlot : Wr := []
set_option maxHeartbeats 4000000 in
theorem fr7_nextPlot_53 (N : Nat) {x1 : Int32} {x2 : Int32} {σ0 : Mm} {r0 : Int32} {k8 : Int32 → Int32 → Int32 → Mm → Option (Int32 × Mm)} (hk8 : ∀ (x3 : Int32) (x4 : Int32) (x5 : Int32) (σ : Mm), k8 x3 x4 x5 σ = some (r0, σ0) → Same (wr7_nextPlot) σ σ0) : ∀ (x3 : Int32) (x4 : Int32) (x5 : Int32) (σ : Mm), f7_nextPlot_53 N k8 x1 x2 x3 x4 x5 σ = some (r0, σ0) → Same (wr7_nextPlot) σ σ0 := by
  intro x3 x4 x5 σ hf
  unfold f7_nextPlot_53 at hf
  have hS : Same (wr7_nextPlot) σ σ := Same.rf
  obtain ⟨x5_4, ex5_4, hf⟩ := z_l_x hf
  exact hS.tr (hk8 x3 x4 x5_4 σ hf)
set_option maxHeartbeats 4000000 in
theorem fr7_nextPlot_46 (N : Nat) {x1 : Int32} {x2 : Int32} {σ0 : Mm} {r0 : Int32} {k8 : Int32 → Int32 → Int32 → Mm → Option (Int32 × Mm)} (hk8 : ∀ (x3 : Int32) (x4 : Int32) (x5 : Int32) (σ : Mm), k8 x3 x4 x5 σ = some (r0, σ0) → Same (wr7_nextPlot) σ σ0) : ∀ (x5 : Int32) (x6 : Int32) (σ : Mm), f7_nextPlot_46 N k8 x1 x2 x5 x6 σ = some (r0, σ0) → Same (wr7_nextPlot) σ σ0 := by
  intro x5 x6 σ hf
  unfold f7_nextPlot_46 at hf
  have hS : Same (wr7_nextPlot) σ σ := Same.rf
  exact hS.tr (fr7_nextPlot_53 N hk8 x5 x6 x5 σ hf)
set_option maxHeartbeats 4000000 in
theorem fr7_nextPlot_8 (N : Nat) {x1 : Int32} {x2 : Int32} {σ0 : Mm} {r0 : Int32} : ∀ (fu : Nat) (x3 : Int32) (x4 : Int32) (x5 : Int32) (σ : Mm), f7_nextPlot_8 N x1 x2 fu x3 x4 x5 σ = some (r0, σ0) → Same (wr7_nextPlot) σ σ0 := by
  intro fu
  induction fu with
  | zero =>
    intro x3 x4 x5 σ hf
    rw [f7_nextPlot_8] at hf
    cases hf
  | succ fu ih =>
    intro x3 x4 x5 σ hf
    rw [f7_nextPlot_8] at hf
    have hS : Same (wr7_nextPlot) σ σ := Same.rf
    rcases z_if hf with hf | hf
    · obtain ⟨-, rfl⟩ := Prod.mk.inj (Option.some.inj hf)
      exact hS
    · obtain ⟨r_1, σ_2, hc_3, hf⟩ := z_b_e hf
      have hS := hS.tr (Same.nil (fr7_isIn N hc_3))
      rcases z_if hf with hf | hf
      · exact hS.tr (fr7_nextPlot_53 N ih x3 x4 x5 σ_2 hf)
      · obtain ⟨r_5, σ_6, hc_7, hf⟩ := z_b_e hf
        have hS := hS.tr (Same.nil (fr7_lengthBy N hc_7))
        rcases z_if hf with hf | hf
        · exact hS.tr (fr7_nextPlot_46 N ih x5 r_5 σ_6 hf)
        · rcases z_if hf with hf | hf
          · exact hS.tr (fr7_nextPlot_53 N ih x3 x4 x5 σ_6 hf)
          · exact hS.tr (fr7_nextPlot_46 N ih x5 r_5 σ_6 hf)
set_option maxHeartbeats 4000000 in
theorem fr7_nextPlot (N : Nat) {x1 : Int32} {x2 : Int32} {σ σ0 : Mm} {r0 : Int32} (hf : f7_nextPlot N x1 x2 σ = some (r0, σ0)) : Same (wr7_nextPlot) σ σ0 := by
  unfold f7_nextPlot at hf
  have hS : Same (wr7_nextPlot) σ σ := Same.rf
  exact hS.tr (fr7_nextPlot_8 N  N (-1 : Int32) (0 : Int32) (0 : Int32) σ hf)
def wr7_findThrough : Wr := [(69, 1, none)]
set_option maxHeartbeats 4000000 in
theorem fr7_findThrough_57 (N : Nat) {x1 : Int32} {x2 : Int32} {σ0 : Mm} {u0 : Unit} {k2 : Int32 → Mm → Option (Unit × Mm)} (hk2 : ∀ (x3 : Int32) (σ : Mm), k2 x3 σ = some (u0, σ0) → Same (wr7_findThrough) σ σ0) : ∀ (x3 : Int32) (σ : Mm), f7_findThrough_57 N k2 x1 x2 x3 σ = some (u0, σ0) → Same (wr7_findThrough) σ σ0 := by
  intro x3 σ hf
  unfold f7_findThrough_57 at hf
  have hS : Same (wr7_findThrough) σ σ := Same.rf
  obtain ⟨x3_4, ex3_4, hf⟩ := z_l_x hf
  exact hS.tr (hk2 x3_4 σ hf)
set_option maxHeartbeats 4000000 in
theorem fr7_findThrough_56 (N : Nat) {x1 : Int32} {x2 : Int32} {σ0 : Mm} {u0 : Unit} {k2 : Int32 → Mm → Option (Unit × Mm)} (hk2 : ∀ (x3 : Int32) (σ : Mm), k2 x3 σ = some (u0, σ0) → Same (wr7_findThrough) σ σ0) : ∀ (x3 : Int32) (s1 : Int32) (s2 : Int32) (σ : Mm), f7_findThrough_56 N k2 x1 x2 x3 s1 s2 σ = some (u0, σ0) → Same (wr7_findThrough) σ σ0 := by
  intro x3 s1 s2 σ hf
  unfold f7_findThrough_56 at hf
  have hS : Same (wr7_findThrough) σ σ := Same.rf
  obtain ⟨-, hf⟩ := z_c_e hf
  obtain ⟨σ_11, eσ_11, hf⟩ := z_l_x hf
  have hS := hS.tr (υ := σ_11) (by rw [eσ_11]; exact Same_sIe (i := 0) rfl)
  exact hS.tr (fr7_findThrough_57 N hk2 x3 σ_11 hf)
set_option maxHeartbeats 4000000 in
theorem fr7_findThrough_2 (N : Nat) {x1 : Int32} {x2 : Int32} {σ0 : Mm} {u0 : Unit} : ∀ (fu : Nat) (x3 : Int32) (σ : Mm), f7_findThrough_2 N x1 x2 fu x3 σ = some (u0, σ0) → Same (wr7_findThrough) σ σ0 := by
  intro fu
  induction fu with
  | zero =>
    intro x3 σ hf
    rw [f7_findThrough_2] at hf
    cases hf
  | succ fu ih =>
    intro x3 σ hf
    rw [f7_findThrough_2] at hf
    have hS : Same (wr7_findThrough) σ σ := Same.rf
    rcases z_if hf with hf | hf
    · obtain ⟨-, rfl⟩ := Prod.mk.inj (Option.some.inj hf)
      exact hS
    · obtain ⟨r_1, σ_2, hc_3, hf⟩ := z_b_e hf
      have hS := hS.tr (Same.nil (fr7_isIn N hc_3))
      rcases z_if hf with hf | hf
      · exact hS.tr (fr7_findThrough_57 N ih x3 σ_2 hf)
      · obtain ⟨r_5, σ_6, hc_7, hf⟩ := z_b_e hf
        have hS := hS.tr (Same.nil (fr7_nextPlot N hc_7))
        rcases z_if hf with hf | hf
        · exact hS.tr (fr7_findThrough_56 N ih x3 ((x2 * (7 : Int32)) + x3) (0 : Int32) σ_6 hf)
        · obtain ⟨r_8, σ_9, hc_10, hf⟩ := z_b_e hf
          have hS := hS.tr (Same.nil (fr7_lengthBy N hc_10))
          exact hS.tr (fr7_findThrough_56 N ih x3 ((x2 * (7 : Int32)) + x3) r_8 σ_9 hf)
set_option maxHeartbeats 4000000 in
theorem fr7_findThrough (N : Nat) {x1 : Int32} {x2 : Int32} {σ σ0 : Mm} {u0 : Unit} (hf : f7_findThrough N x1 x2 σ = some (u0, σ0)) : Same (wr7_findThrough) σ σ0 := by
  unfold f7_findThrough at hf
  have hS : Same (wr7_findThrough) σ σ := Same.rf
  exact hS.tr (fr7_findThrough_2 N  N (0 : Int32) σ hf)
def wr7_measure (o2 : Nat) : Wr := [(69, 1, none), (64, 1, some 3), (64, 1, some 7), (64, 1, some 8), (23, 1, none), (43, 1, none), (68, 1, none), (63, 1, some 3), (63, 1, some 6), (63, 1, some 7), (63, 1, some 8), (67, 1, none)]
set_option maxHeartbeats 4000000 in
theorem fr7_measure_119 (N : Nat) {o2 : Nat} {x3 : Int32} {σ0 : Mm} {u0 : Unit} {k89 : Int32 → Mm → Option (Unit × Mm)} (hk89 : ∀ (x4 : Int32) (σ : Mm), k89 x4 σ = some (u0, σ0) → Same (wr7_measure o2) σ σ0) : ∀ (x4 : Int32) (σ : Mm), f7_measure_119 N k89 o2 x3 x4 σ = some (u0, σ0) → Same (wr7_measure o2) σ σ0 := by
  intro x4 σ hf
  unfold f7_measure_119 at hf
  have hS : Same (wr7_measure o2) σ σ := Same.rf
  obtain ⟨x4_1, ex4_1, hf⟩ := z_l_x hf
  exact hS.tr (hk89 x4_1 σ hf)
set_option maxHeartbeats 4000000 in
theorem fr7_measure_89 (N : Nat) {o2 : Nat} {x3 : Int32} {σ0 : Mm} {u0 : Unit} : ∀ (fu : Nat) (x4 : Int32) (σ : Mm), f7_measure_89 N o2 x3 fu x4 σ = some (u0, σ0) → Same (wr7_measure o2) σ σ0 := by
  intro fu
  induction fu with
  | zero =>
    intro x4 σ hf
    rw [f7_measure_89] at hf
    cases hf
  | succ fu ih =>
    intro x4 σ hf
    rw [f7_measure_89] at hf
    have hS : Same (wr7_measure o2) σ σ := Same.rf
    rcases z_if hf with hf | hf
    · obtain ⟨-, rfl⟩ := Prod.mk.inj (Option.some.inj hf)
      exact hS
    · rcases z_if hf with hf | hf
      · obtain ⟨-, rfl⟩ := Prod.mk.inj (Option.some.inj hf)
        exact hS
      · rcases z_if hf with hf | hf
        · obtain ⟨r_2, σ_3, hc_4, hf⟩ := z_b_e hf
          have hS := hS.tr ((fr7_findThrough N hc_4).mono (wsub [0] rfl))
          exact hS.tr (fr7_measure_119 N ih x4 σ_3 hf)
        · exact hS.tr (fr7_measure_119 N ih x4 σ hf)
set_option maxHeartbeats 4000000 in
theorem fr7_measure_86 (N : Nat) {o2 : Nat} {σ0 : Mm} {u0 : Unit} : ∀ (x3 : Int32) (σ : Mm), f7_measure_86 N o2 x3 σ = some (u0, σ0) → Same (wr7_measure o2) σ σ0 := by
  intro x3 σ hf
  unfold f7_measure_86 at hf
  have hS : Same (wr7_measure o2) σ σ := Same.rf
  exact hS.tr (fr7_measure_89 N  N (0 : Int32) σ hf)
set_option maxHeartbeats 4000000 in
theorem fr7_measure_80 (N : Nat) {o2 : Nat} {x3 : Int32} {σ0 : Mm} {u0 : Unit} {k3 : Int32 → Mm → Option (Unit × Mm)} (hk3 : ∀ (x4 : Int32) (σ : Mm), k3 x4 σ = some (u0, σ0) → Same (wr7_measure o2) σ σ0) : ∀ (x4 : Int32) (σ : Mm), f7_measure_80 N k3 o2 x3 x4 σ = some (u0, σ0) → Same (wr7_measure o2) σ σ0 := by
  intro x4 σ hf
  unfold f7_measure_80 at hf
  have hS : Same (wr7_measure o2) σ σ := Same.rf
  obtain ⟨x4_8, ex4_8, hf⟩ := z_l_x hf
  exact hS.tr (hk3 x4_8 σ hf)
set_option maxHeartbeats 4000000 in
theorem fr7_measure_74 (N : Nat) {o2 : Nat} {x3 : Int32} {x4 : Int32} {σ0 : Mm} {u0 : Unit} {k3 : Int32 → Mm → Option (Unit × Mm)} (hk3 : ∀ (x4 : Int32) (σ : Mm), k3 x4 σ = some (u0, σ0) → Same (wr7_measure o2) σ σ0) {k36 : Int32 → Mm → Option (Unit × Mm)} (hk36 : ∀ (x5 : Int32) (σ : Mm), k36 x5 σ = some (u0, σ0) → Same (wr7_measure o2) σ σ0) : ∀ (x5 : Int32) (σ : Mm), f7_measure_74 N k3 k36 o2 x3 x4 x5 σ = some (u0, σ0) → Same (wr7_measure o2) σ σ0 := by
  intro x5 σ hf
  unfold f7_measure_74 at hf
  have hS : Same (wr7_measure o2) σ σ := Same.rf
  obtain ⟨x5_16, ex5_16, hf⟩ := z_l_x hf
  exact hS.tr (hk36 x5_16 σ hf)
set_option maxHeartbeats 4000000 in
theorem fr7_measure_36 (N : Nat) {o2 : Nat} {x3 : Int32} {x4 : Int32} {σ0 : Mm} {u0 : Unit} {k3 : Int32 → Mm → Option (Unit × Mm)} (hk3 : ∀ (x4 : Int32) (σ : Mm), k3 x4 σ = some (u0, σ0) → Same (wr7_measure o2) σ σ0) : ∀ (fu : Nat) (x5 : Int32) (σ : Mm), f7_measure_36 N k3 o2 x3 x4 fu x5 σ = some (u0, σ0) → Same (wr7_measure o2) σ σ0 := by
  intro fu
  induction fu with
  | zero =>
    intro x5 σ hf
    rw [f7_measure_36] at hf
    cases hf
  | succ fu ih =>
    intro x5 σ hf
    rw [f7_measure_36] at hf
    have hS : Same (wr7_measure o2) σ σ := Same.rf
    rcases z_if hf with hf | hf
    · exact hS.tr (fr7_measure_80 N hk3 x4 σ hf)
    · obtain ⟨r_13, σ_14, hc_15, hf⟩ := z_b_e hf
      have hS := hS.tr (Same.nil (fr7_isIn N hc_15))
      rcases z_if hf with hf | hf
      · exact hS.tr (fr7_measure_74 N hk3 ih x5 σ_14 hf)
      · obtain ⟨r_17, σ_18, hc_19, hf⟩ := z_b_e hf
        have hS := hS.tr ((fr0_walking N hc_19).mono (wsub [7, 8, 9, 10, 4, 5] rfl))
        obtain ⟨-, hf⟩ := z_c_e hf
        obtain ⟨σ_20, eσ_20, hf⟩ := z_l_x hf
        have hS := hS.tr (υ := σ_20) (by rw [eσ_20]; exact Same_sIe (i := 11) rfl)
        exact hS.tr (fr7_measure_74 N hk3 ih x5 σ_20 hf)
set_option maxHeartbeats 4000000 in
theorem fr7_measure_3 (N : Nat) {o2 : Nat} {x3 : Int32} {σ0 : Mm} {u0 : Unit} : ∀ (fu : Nat) (x4 : Int32) (σ : Mm), f7_measure_3 N o2 x3 fu x4 σ = some (u0, σ0) → Same (wr7_measure o2) σ σ0 := by
  intro fu
  induction fu with
  | zero =>
    intro x4 σ hf
    rw [f7_measure_3] at hf
    cases hf
  | succ fu ih =>
    intro x4 σ hf
    rw [f7_measure_3] at hf
    have hS : Same (wr7_measure o2) σ σ := Same.rf
    rcases z_if hf with hf | hf
    · exact hS.tr (fr7_measure_86 N  x3 σ hf)
    · obtain ⟨r_5, σ_6, hc_7, hf⟩ := z_b_e hf
      have hS := hS.tr (Same.nil (fr7_isIn N hc_7))
      rcases z_if hf with hf | hf
      · exact hS.tr (fr7_measure_80 N ih x4 σ_6 hf)
      · obtain ⟨r_9, σ_10, hc_11, hf⟩ := z_b_e hf
        have hS := hS.tr ((fr0_asking N hc_11).mono (wsub [1, 2, 3, 4, 5] rfl))
        obtain ⟨-, hf⟩ := z_c_e hf
        obtain ⟨σ_12, eσ_12, hf⟩ := z_l_x hf
        have hS := hS.tr (υ := σ_12) (by rw [eσ_12]; exact Same_sIe (i := 6) rfl)
        exact hS.tr (fr7_measure_36 N ih N (0 : Int32) σ_12 hf)
set_option maxHeartbeats 4000000 in
theorem fr7_measure (N : Nat) {o2 : Nat} {x3 : Int32} {σ σ0 : Mm} {u0 : Unit} (hf : f7_measure N o2 x3 σ = some (u0, σ0)) : Same (wr7_measure o2) σ σ0 := by
  unfold f7_measure at hf
  have hS : Same (wr7_measure o2) σ σ := Same.rf
  exact hS.tr (fr7_measure_3 N  N (0 : Int32) σ hf)
def wr7_firstPlot : Wr := []
set_option maxHeartbeats 4000000 in
theorem fr7_firstPlot_61 (N : Nat) {x1 : Int32} {σ0 : Mm} {r0 : Int32} {k7 : Int32 → Int32 → Int32 → Mm → Option (Int32 × Mm)} (hk7 : ∀ (x2 : Int32) (x3 : Int32) (x4 : Int32) (σ : Mm), k7 x2 x3 x4 σ = some (r0, σ0) → Same (wr7_firstPlot) σ σ0) : ∀ (x2 : Int32) (x3 : Int32) (x4 : Int32) (σ : Mm), f7_firstPlot_61 N k7 x1 x2 x3 x4 σ = some (r0, σ0) → Same (wr7_firstPlot) σ σ0 := by
  intro x2 x3 x4 σ hf
  unfold f7_firstPlot_61 at hf
  have hS : Same (wr7_firstPlot) σ σ := Same.rf
  obtain ⟨x4_4, ex4_4, hf⟩ := z_l_x hf
  exact hS.tr (hk7 x2 x3 x4_4 σ hf)
set_option maxHeartbeats 4000000 in
theorem fr7_firstPlot_55 (N : Nat) {x1 : Int32} {σ0 : Mm} {r0 : Int32} {k7 : Int32 → Int32 → Int32 → Mm → Option (Int32 × Mm)} (hk7 : ∀ (x2 : Int32) (x3 : Int32) (x4 : Int32) (σ : Mm), k7 x2 x3 x4 σ = some (r0, σ0) → Same (wr7_firstPlot) σ σ0) : ∀ (x4 : Int32) (x5 : Int32) (σ : Mm), f7_firstPlot_55 N k7 x1 x4 x5 σ = some (r0, σ0) → Same (wr7_firstPlot) σ σ0 := by
  intro x4 x5 σ hf
  unfold f7_firstPlot_55 at hf
  have hS : Same (wr7_firstPlot) σ σ := Same.rf
  exact hS.tr (fr7_firstPlot_61 N hk7 x4 x5 x4 σ hf)
set_option maxHeartbeats 4000000 in
theorem fr7_firstPlot_7 (N : Nat) {x1 : Int32} {σ0 : Mm} {r0 : Int32} : ∀ (fu : Nat) (x2 : Int32) (x3 : Int32) (x4 : Int32) (σ : Mm), f7_firstPlot_7 N x1 fu x2 x3 x4 σ = some (r0, σ0) → Same (wr7_firstPlot) σ σ0 := by
  intro fu
  induction fu with
  | zero =>
    intro x2 x3 x4 σ hf
    rw [f7_firstPlot_7] at hf
    cases hf
  | succ fu ih =>
    intro x2 x3 x4 σ hf
    rw [f7_firstPlot_7] at hf
    have hS : Same (wr7_firstPlot) σ σ := Same.rf
    rcases z_if hf with hf | hf
    · obtain ⟨-, rfl⟩ := Prod.mk.inj (Option.some.inj hf)
      exact hS
    · obtain ⟨r_1, σ_2, hc_3, hf⟩ := z_b_e hf
      have hS := hS.tr (Same.nil (fr7_isIn N hc_3))
      rcases z_if hf with hf | hf
      · exact hS.tr (fr7_firstPlot_61 N ih x2 x3 x4 σ_2 hf)
      · obtain ⟨hi_5, hf⟩ := z_c_e hf
        obtain ⟨x5_6, ex5_6, hf⟩ := z_l_x hf
        rcases z_if hf with hf | hf
        · exact hS.tr (fr7_firstPlot_55 N ih x4 x5_6 σ_2 hf)
        · rcases z_if hf with hf | hf
          · exact hS.tr (fr7_firstPlot_61 N ih x2 x3 x4 σ_2 hf)
          · exact hS.tr (fr7_firstPlot_55 N ih x4 x5_6 σ_2 hf)
set_option maxHeartbeats 4000000 in
theorem fr7_firstPlot (N : Nat) {x1 : Int32} {σ σ0 : Mm} {r0 : Int32} (hf : f7_firstPlot N x1 σ = some (r0, σ0)) : Same (wr7_firstPlot) σ σ0 := by
  unfold f7_firstPlot at hf
  have hS : Same (wr7_firstPlot) σ σ := Same.rf
  exact hS.tr (fr7_firstPlot_7 N  N (-1 : Int32) (0 : Int32) (0 : Int32) σ hf)
def wr7_askOfAll : Wr := []
set_option maxHeartbeats 4000000 in
theorem fr7_askOfAll_27 (N : Nat) {x1 : Int32} {σ0 : Mm} {r0 : Int32} {k4 : Int32 → Int32 → Mm → Option (Int32 × Mm)} (hk4 : ∀ (x2 : Int32) (x3 : Int32) (σ : Mm), k4 x2 x3 σ = some (r0, σ0) → Same (wr7_askOfAll) σ σ0) : ∀ (x2 : Int32) (x3 : Int32) (σ : Mm), f7_askOfAll_27 N k4 x1 x2 x3 σ = some (r0, σ0) → Same (wr7_askOfAll) σ σ0 := by
  intro x2 x3 σ hf
  unfold f7_askOfAll_27 at hf
  have hS : Same (wr7_askOfAll) σ σ := Same.rf
  obtain ⟨x3_4, ex3_4, hf⟩ := z_l_x hf
  exact hS.tr (hk4 x2 x3_4 σ hf)
set_option maxHeartbeats 4000000 in
theorem fr7_askOfAll_4 (N : Nat) {x1 : Int32} {σ0 : Mm} {r0 : Int32} : ∀ (fu : Nat) (x2 : Int32) (x3 : Int32) (σ : Mm), f7_askOfAll_4 N x1 fu x2 x3 σ = some (r0, σ0) → Same (wr7_askOfAll) σ σ0 := by
  intro fu
  induction fu with
  | zero =>
    intro x2 x3 σ hf
    rw [f7_askOfAll_4] at hf
    cases hf
  | succ fu ih =>
    intro x2 x3 σ hf
    rw [f7_askOfAll_4] at hf
    have hS : Same (wr7_askOfAll) σ σ := Same.rf
    rcases z_if hf with hf | hf
    · obtain ⟨-, rfl⟩ := Prod.mk.inj (Option.some.inj hf)
      exact hS
    · obtain ⟨r_1, σ_2, hc_3, hf⟩ := z_b_e hf
      have hS := hS.tr (Same.nil (fr7_isIn N hc_3))
      rcases z_if hf with hf | hf
      · exact hS.tr (fr7_askOfAll_27 N ih x2 x3 σ_2 hf)
      · obtain ⟨hi_5, hf⟩ := z_c_e hf
        obtain ⟨x2_6, ex2_6, hf⟩ := z_l_x hf
        exact hS.tr (fr7_askOfAll_27 N ih x2_6 x3 σ_2 hf)
set_option maxHeartbeats 4000000 in
theorem fr7_askOfAll (N : Nat) {x1 : Int32} {σ σ0 : Mm} {r0 : Int32} (hf : f7_askOfAll N x1 σ = some (r0, σ0)) : Same (wr7_askOfAll) σ σ0 := by
  unfold f7_askOfAll at hf
  have hS : Same (wr7_askOfAll) σ σ := Same.rf
  exact hS.tr (fr7_askOfAll_4 N  N (0 : Int32) (0 : Int32) σ hf)
def wr7_shortest : Wr := []
set_option maxHeartbeats 4000000 in
theorem fr7_shortest (N : Nat) {x1 : Int32} {σ σ0 : Mm} {r0 : Int32} (hf : f7_shortest N x1 σ = some (r0, σ0)) : Same (wr7_shortest) σ σ0 := by
  unfold f7_shortest at hf
  have hS : Same (wr7_shortest) σ σ := Same.rf
  obtain ⟨r_1, σ_2, hc_3, hf⟩ := z_b_e hf
  have hS := hS.tr (Same.nil (fr7_firstPlot N hc_3))
  rcases z_if hf with hf | hf
  · obtain ⟨-, rfl⟩ := Prod.mk.inj (Option.some.inj hf)
    exact hS
  · obtain ⟨r_4, σ_5, hc_6, hf⟩ := z_b_e hf
    have hS := hS.tr (Same.nil (fr7_askOfAll N hc_6))
    obtain ⟨hi_7, hf⟩ := z_c_e hf
    obtain ⟨-, rfl⟩ := Prod.mk.inj (Option.some.inj hf)
    exact hS
def wr7_plotAt : Wr := []
set_option maxHeartbeats 4000000 in
theorem fr7_plotAt_12 (N : Nat) {x2 : Int32} {σ0 : Mm} {r0 : Int32} : ∀ (fu : Nat) (x3 : Int32) (x4 : Int32) (x5 : Int32) (σ : Mm), f7_plotAt_12 N x2 fu x3 x4 x5 σ = some (r0, σ0) → Same (wr7_plotAt) σ σ0 := by
  intro fu
  induction fu with
  | zero =>
    intro x3 x4 x5 σ hf
    rw [f7_plotAt_12] at hf
    cases hf
  | succ fu ih =>
    intro x3 x4 x5 σ hf
    rw [f7_plotAt_12] at hf
    have hS : Same (wr7_plotAt) σ σ := Same.rf
    rcases z_if hf with hf | hf
    · obtain ⟨-, rfl⟩ := Prod.mk.inj (Option.some.inj hf)
      exact hS
    · rcases z_if hf with hf | hf
      · obtain ⟨-, rfl⟩ := Prod.mk.inj (Option.some.inj hf)
        exact hS
      · obtain ⟨x4_4, ex4_4, hf⟩ := z_l_x hf
        obtain ⟨r_5, σ_6, hc_7, hf⟩ := z_b_e hf
        have hS := hS.tr (Same.nil (fr7_nextPlot N hc_7))
        obtain ⟨x5_8, ex5_8, hf⟩ := z_l_x hf
        exact hS.tr (ih r_5 x4_4 x5_8 σ_6 hf)
set_option maxHeartbeats 4000000 in
theorem fr7_plotAt (N : Nat) {x1 : Int32} {x2 : Int32} {σ σ0 : Mm} {r0 : Int32} (hf : f7_plotAt N x1 x2 σ = some (r0, σ0)) : Same (wr7_plotAt) σ σ0 := by
  unfold f7_plotAt at hf
  have hS : Same (wr7_plotAt) σ σ := Same.rf
  obtain ⟨r_1, σ_2, hc_3, hf⟩ := z_b_e hf
  have hS := hS.tr (Same.nil (fr7_firstPlot N hc_3))
  exact hS.tr (fr7_plotAt_12 N  N r_1 x1 (0 : Int32) σ_2 hf)
def wr7_mostFrom : Wr := []
set_option maxHeartbeats 4000000 in
theorem fr7_mostFrom_77 (N : Nat) {x1 : Int32} {x2 : Int32} {x3 : Int32} {σ0 : Mm} {r0 : Int32} {k6 : Int32 → Int32 → Mm → Option (Int32 × Mm)} (hk6 : ∀ (x4 : Int32) (x5 : Int32) (σ : Mm), k6 x4 x5 σ = some (r0, σ0) → Same (wr7_mostFrom) σ σ0) : ∀ (x4 : Int32) (x5 : Int32) (σ : Mm), f7_mostFrom_77 N k6 x1 x2 x3 x4 x5 σ = some (r0, σ0) → Same (wr7_mostFrom) σ σ0 := by
  intro x4 x5 σ hf
  unfold f7_mostFrom_77 at hf
  have hS : Same (wr7_mostFrom) σ σ := Same.rf
  obtain ⟨x5_4, ex5_4, hf⟩ := z_l_x hf
  exact hS.tr (hk6 x4 x5_4 σ hf)
set_option maxHeartbeats 4000000 in
theorem fr7_mostFrom_6 (N : Nat) {x1 : Int32} {x2 : Int32} {x3 : Int32} {σ0 : Mm} {r0 : Int32} : ∀ (fu : Nat) (x4 : Int32) (x5 : Int32) (σ : Mm), f7_mostFrom_6 N x1 x2 x3 fu x4 x5 σ = some (r0, σ0) → Same (wr7_mostFrom) σ σ0 := by
  intro fu
  induction fu with
  | zero =>
    intro x4 x5 σ hf
    rw [f7_mostFrom_6] at hf
    cases hf
  | succ fu ih =>
    intro x4 x5 σ hf
    rw [f7_mostFrom_6] at hf
    have hS : Same (wr7_mostFrom) σ σ := Same.rf
    rcases z_if hf with hf | hf
    · obtain ⟨-, rfl⟩ := Prod.mk.inj (Option.some.inj hf)
      exact hS
    · rcases z_if hf with hf | hf
      · obtain ⟨-, rfl⟩ := Prod.mk.inj (Option.some.inj hf)
        exact hS
      · obtain ⟨r_1, σ_2, hc_3, hf⟩ := z_b_e hf
        have hS := hS.tr (Same.nil (fr7_isIn N hc_3))
        rcases z_if hf with hf | hf
        · obtain ⟨hi_5, hf⟩ := z_c_e hf
          obtain ⟨r_6, σ_7, hc_8, hf⟩ := z_b_e hf
          have hS := hS.tr (Same.nil (fr7_askOfAll N hc_8))
          obtain ⟨hi_9, hf⟩ := z_c_e hf
          obtain ⟨x6_10, ex6_10, hf⟩ := z_l_x hf
          rcases z_if hf with hf | hf
          · exact hS.tr (fr7_mostFrom_77 N ih x4 x5 σ_7 hf)
          · obtain ⟨x4_11, ex4_11, hf⟩ := z_l_x hf
            exact hS.tr (fr7_mostFrom_77 N ih x4_11 x5 σ_7 hf)
        · exact hS.tr (fr7_mostFrom_77 N ih x4 x5 σ_2 hf)
set_option maxHeartbeats 4000000 in
theorem fr7_mostFrom (N : Nat) {x1 : Int32} {x2 : Int32} {x3 : Int32} {σ σ0 : Mm} {r0 : Int32} (hf : f7_mostFrom N x1 x2 x3 σ = some (r0, σ0)) : Same (wr7_mostFrom) σ σ0 := by
  unfold f7_mostFrom at hf
  have hS : Same (wr7_mostFrom) σ σ := Same.rf
  exact hS.tr (fr7_mostFrom_6 N  N (0 : Int32) (0 : Int32) σ hf)
def wr8_takeNewName : Wr := [(24, 1, none), (25, 1, none), (26, 1, none), (7, 1, some 16), (44, 1, none), (45, 1, none), (46, 1, none), (27, 1, some 16), (49, 1, some 2), (2, 1, some 4), (2, 1, some 5)]
set_option maxHeartbeats 4000000 in
theorem fr8_takeNewName (N : Nat) {x1 : Int32} {x2 : Int32} {σ σ0 : Mm} {r0 : Int32} (hf : f8_takeNewName N x1 x2 σ = some (r0, σ0)) : Same (wr8_takeNewName) σ σ0 := by
  unfold f8_takeNewName at hf
  have hS : Same (wr8_takeNewName) σ σ := Same.rf
  rcases z_if hf with hf | hf
  · obtain ⟨t_1, ht_2, kht_2, hf⟩ := z_r_e hf
    obtain ⟨r_3, σ_4, hc_5, hf⟩ := z_b_e hf
    have hS := hS.tr (Same.nil (fr9_valueAt N hc_5))
    obtain ⟨r_6, σ_7, hc_8, hf⟩ := z_b_e hf
    have hS := hS.tr (Same.nil (fr3_rowOfName N hc_8))
    rcases z_if hf with hf | hf
    · obtain ⟨t_9, ht_10, kht_10, hf⟩ := z_r_e hf
      obtain ⟨r_11, σ_12, hc_13, hf⟩ := z_b_e hf
      have hS := hS.tr (Same.nil (fr9_valueAt N hc_13))
      obtain ⟨r_14, σ_15, hc_16, hf⟩ := z_b_e hf
      have hS := hS.tr ((fr3_addName N hc_16).mono ((kdo_3 kht_10).elim (fun e9 => by rw [e9]; exact wsub [0, 1, 2, 3] rfl) (fun e9 => by rw [e9]; exact wsub [4, 5, 6, 7] rfl)))
      obtain ⟨σ_17, eσ_17, hf⟩ := z_l_x hf
      have hS := hS.tr (υ := σ_17) (by rw [eσ_17]; exact Same_sI (i := 8) rfl)
      obtain ⟨-, rfl⟩ := Prod.mk.inj (Option.some.inj hf)
      exact hS
    · obtain ⟨r_18, σ_19, hc_20, hf⟩ := z_b_e hf
      have hS := hS.tr ((fr9_refuse N hc_20).mono (wsub [9, 10] rfl))
      obtain ⟨-, hf⟩ := z_c_e hf
      obtain ⟨-, rfl⟩ := Prod.mk.inj (Option.some.inj hf)
      exact hS
  · obtain ⟨-, rfl⟩ := Prod.mk.inj (Option.some.inj hf)
    exact hS
def wr8_fillsPerson : Wr := [(24, 1, none), (25, 1, none), (26, 1, none), (7, 1, some 16), (44, 1, none), (45, 1, none), (46, 1, none), (27, 1, some 16), (49, 1, some 2), (2, 1, some 4), (2, 1, some 5), (7, 1, some 0), (27, 1, some 0)]
set_option maxHeartbeats 4000000 in
theorem fr8_fillsPerson (N : Nat) {σ σ0 : Mm} {r0 : Int32} (hf : f8_fillsPerson N σ = some (r0, σ0)) : Same (wr8_fillsPerson) σ σ0 := by
  unfold f8_fillsPerson at hf
  have hS : Same (wr8_fillsPerson) σ σ := Same.rf
  obtain ⟨t_1, ht_2, kht_2, hf⟩ := z_r_e hf
  obtain ⟨x1_3, ex1_3, hf⟩ := z_l_x hf
  rcases z_if hf with hf | hf
  · obtain ⟨-, rfl⟩ := Prod.mk.inj (Option.some.inj hf)
    exact hS
  · obtain ⟨r_4, σ_5, hc_6, hf⟩ := z_b_e hf
    have hS := hS.tr ((fr8_takeNewName N hc_6).mono (wsub [0, 1, 2, 3, 4, 5, 6, 7, 8, 9, 10] rfl))
    rcases z_if hf with hf | hf
    · obtain ⟨-, rfl⟩ := Prod.mk.inj (Option.some.inj hf)
      exact hS
    · obtain ⟨t_7, ht_8, kht_8, hf⟩ := z_r_e hf
      obtain ⟨σ_9, eσ_9, hf⟩ := z_l_x hf
      have hS := hS.tr (υ := σ_9) ((kdo_3 kht_8).elim (fun e9 => by rw [eσ_9, e9]; exact Same_sI (i := 11) rfl) (fun e9 => by rw [eσ_9, e9]; exact Same_sI (i := 12) rfl))
      obtain ⟨-, rfl⟩ := Prod.mk.inj (Option.some.inj hf)
      exact hS
def wr8_takeNumber : Wr := [(2, 1, some 4), (2, 1, some 5), (49, 1, some 2)]
set_option maxHeartbeats 4000000 in
theorem fr8_takeNumber_48 (N : Nat) {σ0 : Mm} {r0 : Int32} : ∀ (x1 : Int32) (σ : Mm), f8_takeNumber_48 N x1 σ = some (r0, σ0) → Same (wr8_takeNumber) σ σ0 := by
  intro x1 σ hf
  unfold f8_takeNumber_48 at hf
  have hS : Same (wr8_takeNumber) σ σ := Same.rf
  obtain ⟨r_4, σ_5, hc_6, hf⟩ := z_b_e hf
  have hS := hS.tr ((fr9_refuse N hc_6).mono (wsub [0, 1] rfl))
  obtain ⟨-, rfl⟩ := Prod.mk.inj (Option.some.inj hf)
  exact hS
set_option maxHeartbeats 4000000 in
theorem fr8_takeNumber (N : Nat) {x1 : Int32} {x2 : Int32} {σ σ0 : Mm} {r0 : Int32} (hf : f8_takeNumber N x1 x2 σ = some (r0, σ0)) : Same (wr8_takeNumber) σ σ0 := by
  unfold f8_takeNumber at hf
  have hS : Same (wr8_takeNumber) σ σ := Same.rf
  rcases z_if hf with hf | hf
  · rcases z_if hf with hf | hf
    · obtain ⟨r_1, σ_2, hc_3, hf⟩ := z_b_e hf
      have hS := hS.tr (Same.nil (fr9_valueAt N hc_3))
      rcases z_if hf with hf | hf
      · exact hS.tr (fr8_takeNumber_48 N  x1 σ_2 hf)
      · rcases z_if hf with hf | hf
        · obtain ⟨σ_7, eσ_7, hf⟩ := z_l_x hf
          have hS := hS.tr (υ := σ_7) (by rw [eσ_7]; exact Same_sI (i := 2) rfl)
          obtain ⟨-, rfl⟩ := Prod.mk.inj (Option.some.inj hf)
          exact hS
        · exact hS.tr (fr8_takeNumber_48 N  x1 σ_2 hf)
    · obtain ⟨-, rfl⟩ := Prod.mk.inj (Option.some.inj hf)
      exact hS
  · obtain ⟨-, rfl⟩ := Prod.mk.inj (Option.some.inj hf)
    exact hS
def wr8_takeKnown : Wr := [(49, 1, some 2), (2, 1, some 4), (2, 1, some 5)]
set_option maxHeartbeats 4000000 in
theorem fr8_takeKnown (N : Nat) {x1 : Int32} {σ σ0 : Mm} {r0 : Int32} (hf : f8_takeKnown N x1 σ = some (r0, σ0)) : Same (wr8_takeKnown) σ σ0 := by
  unfold f8_takeKnown at hf
  have hS : Same (wr8_takeKnown) σ σ := Same.rf
  rcases z_if hf with hf | hf
  · rcases z_if hf with hf | hf
    · obtain ⟨t_1, ht_2, kht_2, hf⟩ := z_r_e hf
      obtain ⟨r_3, σ_4, hc_5, hf⟩ := z_b_e hf
      have hS := hS.tr (Same.nil (fr9_valueAt N hc_5))
      obtain ⟨r_6, σ_7, hc_8, hf⟩ := z_b_e hf
      have hS := hS.tr (Same.nil (fr3_numberOfName N hc_8))
      rcases z_if hf with hf | hf
      · obtain ⟨r_10, σ_11, hc_12, hf⟩ := z_b_e hf
        have hS := hS.tr ((fr9_refuse N hc_12).mono (wsub [1, 2] rfl))
        obtain ⟨-, rfl⟩ := Prod.mk.inj (Option.some.inj hf)
        exact hS
      · obtain ⟨σ_9, eσ_9, hf⟩ := z_l_x hf
        have hS := hS.tr (υ := σ_9) (by rw [eσ_9]; exact Same_sI (i := 0) rfl)
        obtain ⟨-, rfl⟩ := Prod.mk.inj (Option.some.inj hf)
        exact hS
    · obtain ⟨-, rfl⟩ := Prod.mk.inj (Option.some.inj hf)
      exact hS
  · obtain ⟨-, rfl⟩ := Prod.mk.inj (Option.some.inj hf)
    exact hS
