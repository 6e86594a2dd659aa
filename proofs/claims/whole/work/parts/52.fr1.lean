
def wr11_put : Wr := [(161, 1, none), (160, 1, some 2)]
set_option maxHeartbeats 4000000 in
theorem fr11_put_3 (N : Nat) {x1 : Int32} {σ0 : Mm} {u0 : Unit} : ∀ (fu : Nat) (x2 : Int32) (σ : Mm), f11_put_3 N x1 fu x2 σ = some (u0, σ0) → Same (wr11_put) σ σ0 := by
  intro fu
  induction fu with
  | zero =>
    intro x2 σ hf
    rw [f11_put_3] at hf
    cases hf
  | succ fu ih =>
    intro x2 σ hf
    rw [f11_put_3] at hf
    have hS : Same (wr11_put) σ σ := Same.rf
    rcases z_if hf with hf | hf
    · obtain ⟨-, rfl⟩ := Prod.mk.inj (Option.some.inj hf)
      exact hS
    · obtain ⟨-, hf⟩ := z_c_e hf
      obtain ⟨σ_1, eσ_1, hf⟩ := z_l_x hf
      have hS := hS.tr (υ := σ_1) (by rw [eσ_1]; exact Same_sIe (i := 0) rfl)
      obtain ⟨σ_2, eσ_2, hf⟩ := z_l_x hf
      have hS := hS.tr (υ := σ_2) (by rw [eσ_2]; exact Same_sI (i := 1) rfl)
      obtain ⟨x2_3, ex2_3, hf⟩ := z_l_x hf
      exact hS.tr (ih x2_3 σ_2 hf)
set_option maxHeartbeats 4000000 in
theorem fr11_put (N : Nat) {x1 : Int32} {σ σ0 : Mm} {u0 : Unit} (hf : f11_put N x1 σ = some (u0, σ0)) : Same (wr11_put) σ σ0 := by
  unfold f11_put at hf
  have hS : Same (wr11_put) σ σ := Same.rf
  exact hS.tr (fr11_put_3 N  N (24 : Int32) σ hf)
def wr11_feed : Wr := [(161, 1, none), (160, 1, some 2)]
set_option maxHeartbeats 4000000 in
theorem fr11_feed (N : Nat) {x1 : Int32} {x2 : Int32} {x3 : Int32} {x4 : Int32} {x5 : Int32} {σ σ0 : Mm} {r0 : Int32} (hf : f11_feed N x1 x2 x3 x4 x5 σ = some (r0, σ0)) : Same (wr11_feed) σ σ0 := by
  unfold f11_feed at hf
  have hS : Same (wr11_feed) σ σ := Same.rf
  rcases z_if hf with hf | hf
  · obtain ⟨r_1, σ_2, hc_3, hf⟩ := z_b_e hf
    have hS := hS.tr ((fr11_put N hc_3).mono (wsub [0, 1] rfl))
    obtain ⟨r_4, σ_5, hc_6, hf⟩ := z_b_e hf
    have hS := hS.tr ((fr11_put N hc_6).mono (wsub [0, 1] rfl))
    obtain ⟨r_7, σ_8, hc_9, hf⟩ := z_b_e hf
    have hS := hS.tr ((fr11_put N hc_9).mono (wsub [0, 1] rfl))
    obtain ⟨r_10, σ_11, hc_12, hf⟩ := z_b_e hf
    have hS := hS.tr ((fr11_put N hc_12).mono (wsub [0, 1] rfl))
    obtain ⟨r_13, σ_14, hc_15, hf⟩ := z_b_e hf
    have hS := hS.tr ((fr11_put N hc_15).mono (wsub [0, 1] rfl))
    obtain ⟨-, rfl⟩ := Prod.mk.inj (Option.some.inj hf)
    exact hS
  · obtain ⟨-, rfl⟩ := Prod.mk.inj (Option.some.inj hf)
    exact hS
def wr11_back : Wr := [(160, 1, some 2)]
set_option maxHeartbeats 4000000 in
theorem fr11_back (N : Nat) {x1 : Int32} {σ σ0 : Mm} {r0 : Int32} (hf : f11_back N x1 σ = some (r0, σ0)) : Same (wr11_back) σ σ0 := by
  unfold f11_back at hf
  have hS : Same (wr11_back) σ σ := Same.rf
  rcases z_if hf with hf | hf
  · obtain ⟨-, rfl⟩ := Prod.mk.inj (Option.some.inj hf)
    exact hS
  · rcases z_if hf with hf | hf
    · obtain ⟨σ_1, eσ_1, hf⟩ := z_l_x hf
      have hS := hS.tr (υ := σ_1) (by rw [eσ_1]; exact Same_sI (i := 0) rfl)
      obtain ⟨-, rfl⟩ := Prod.mk.inj (Option.some.inj hf)
      exact hS
    · obtain ⟨-, rfl⟩ := Prod.mk.inj (Option.some.inj hf)
      exact hS
def wr11_byteAt : Wr := []
set_option maxHeartbeats 4000000 in
theorem fr11_byteAt (N : Nat) {x1 : Int32} {σ σ0 : Mm} {r0 : Int32} (hf : f11_byteAt N x1 σ = some (r0, σ0)) : Same (wr11_byteAt) σ σ0 := by
  unfold f11_byteAt at hf
  have hS : Same (wr11_byteAt) σ σ := Same.rf
  rcases z_if hf with hf | hf
  · obtain ⟨-, rfl⟩ := Prod.mk.inj (Option.some.inj hf)
    exact hS
  · obtain ⟨hi_1, hf⟩ := z_c_e hf
    obtain ⟨-, rfl⟩ := Prod.mk.inj (Option.some.inj hf)
    exact hS
def wr11_isDigit : Wr := []
set_option maxHeartbeats 4000000 in
theorem fr11_isDigit (N : Nat) {x0 : Int32} {σ σ0 : Mm} {r0 : Int32} (hf : f11_isDigit N x0 σ = some (r0, σ0)) : Same (wr11_isDigit) σ σ0 := by
  unfold f11_isDigit at hf
  have hS : Same (wr11_isDigit) σ σ := Same.rf
  rcases z_if hf with hf | hf
  · obtain ⟨-, rfl⟩ := Prod.mk.inj (Option.some.inj hf)
    exact hS
  · rcases z_if hf with hf | hf
    · obtain ⟨-, rfl⟩ := Prod.mk.inj (Option.some.inj hf)
      exact hS
    · obtain ⟨-, rfl⟩ := Prod.mk.inj (Option.some.inj hf)
      exact hS
def wr11_isLetter : Wr := []
set_option maxHeartbeats 4000000 in
theorem fr11_isLetter (N : Nat) {x0 : Int32} {σ σ0 : Mm} {r0 : Int32} (hf : f11_isLetter N x0 σ = some (r0, σ0)) : Same (wr11_isLetter) σ σ0 := by
  unfold f11_isLetter at hf
  have hS : Same (wr11_isLetter) σ σ := Same.rf
  rcases z_if hf with hf | hf
  · obtain ⟨-, rfl⟩ := Prod.mk.inj (Option.some.inj hf)
    exact hS
  · rcases z_if hf with hf | hf
    · obtain ⟨-, rfl⟩ := Prod.mk.inj (Option.some.inj hf)
      exact hS
    · obtain ⟨-, rfl⟩ := Prod.mk.inj (Option.some.inj hf)
      exact hS
def wr11_appends : Wr := []
set_option maxHeartbeats 4000000 in
theorem fr11_appends (N : Nat) {x0 : Int64} {x2 : Int32} {σ σ0 : Mm} {l0 : Int64} (hf : f11_appends N x0 x2 σ = some (l0, σ0)) : Same (wr11_appends) σ σ0 := by
  unfold f11_appends at hf
  have hS : Same (wr11_appends) σ σ := Same.rf
  rcases z_if hf with hf | hf
  · obtain ⟨-, rfl⟩ := Prod.mk.inj (Option.some.inj hf)
    exact hS
  · obtain ⟨-, rfl⟩ := Prod.mk.inj (Option.some.inj hf)
    exact hS
def wr11_word : Wr := []
set_option maxHeartbeats 4000000 in
theorem fr11_word (N : Nat) {x0 : Int32} {x1 : Int32} {x2 : Int32} {x3 : Int32} {x4 : Int32} {x5 : Int32} {x6 : Int32} {σ σ0 : Mm} {l0 : Int64} (hf : f11_word N x0 x1 x2 x3 x4 x5 x6 σ = some (l0, σ0)) : Same (wr11_word) σ σ0 := by
  unfold f11_word at hf
  have hS : Same (wr11_word) σ σ := Same.rf
  obtain ⟨r_1, σ_2, hc_3, hf⟩ := z_b_e hf
  have hS := hS.tr (Same.nil (fr11_appends N hc_3))
  obtain ⟨r_4, σ_5, hc_6, hf⟩ := z_b_e hf
  have hS := hS.tr (Same.nil (fr11_appends N hc_6))
  obtain ⟨r_7, σ_8, hc_9, hf⟩ := z_b_e hf
  have hS := hS.tr (Same.nil (fr11_appends N hc_9))
  obtain ⟨r_10, σ_11, hc_12, hf⟩ := z_b_e hf
  have hS := hS.tr (Same.nil (fr11_appends N hc_12))
  obtain ⟨r_13, σ_14, hc_15, hf⟩ := z_b_e hf
  have hS := hS.tr (Same.nil (fr11_appends N hc_15))
  obtain ⟨r_16, σ_17, hc_18, hf⟩ := z_b_e hf
  have hS := hS.tr (Same.nil (fr11_appends N hc_18))
  obtain ⟨r_19, σ_20, hc_21, hf⟩ := z_b_e hf
  have hS := hS.tr (Same.nil (fr11_appends N hc_21))
  obtain ⟨-, rfl⟩ := Prod.mk.inj (Option.some.inj hf)
  exact hS
def wr11_token : Wr := [(163, 1, none), (164, 1, none), (165, 1, none), (166, 1, none), (160, 1, some 10)]
set_option maxHeartbeats 4000000 in
theorem fr11_token (N : Nat) {x1 : Int32} {x2 : Int32} {x3 : Int32} {x4 : Int64} {σ σ0 : Mm} {u0 : Unit} (hf : f11_token N x1 x2 x3 x4 σ = some (u0, σ0)) : Same (wr11_token) σ σ0 := by
  unfold f11_token at hf
  have hS : Same (wr11_token) σ σ := Same.rf
  obtain ⟨-, hf⟩ := z_c_e hf
  obtain ⟨σ_1, eσ_1, hf⟩ := z_l_x hf
  have hS := hS.tr (υ := σ_1) (by rw [eσ_1]; exact Same_sIe (i := 0) rfl)
  obtain ⟨-, hf⟩ := z_c_e hf
  obtain ⟨σ_2, eσ_2, hf⟩ := z_l_x hf
  have hS := hS.tr (υ := σ_2) (by rw [eσ_2]; exact Same_sIe (i := 1) rfl)
  obtain ⟨-, hf⟩ := z_c_e hf
  obtain ⟨σ_3, eσ_3, hf⟩ := z_l_x hf
  have hS := hS.tr (υ := σ_3) (by rw [eσ_3]; exact Same_sIe (i := 2) rfl)
  obtain ⟨-, hf⟩ := z_c_e hf
  obtain ⟨σ_4, eσ_4, hf⟩ := z_l_x hf
  have hS := hS.tr (υ := σ_4) (by rw [eσ_4]; exact Same_sLr (i := 3) rfl)
  obtain ⟨σ_5, eσ_5, hf⟩ := z_l_x hf
  have hS := hS.tr (υ := σ_5) (by rw [eσ_5]; exact Same_sI (i := 4) rfl)
  obtain ⟨-, rfl⟩ := Prod.mk.inj (Option.some.inj hf)
  exact hS
def wr11_sign : Wr := [(163, 1, none), (164, 1, none), (165, 1, none), (166, 1, none), (160, 1, some 10)]
set_option maxHeartbeats 4000000 in
theorem fr11_sign_95 (N : Nat) {σ0 : Mm} {r0 : Int32} : ∀ (x1 : Int32) (x4 : Int32) (σ : Mm), f11_sign_95 N x1 x4 σ = some (r0, σ0) → Same (wr11_sign) σ σ0 := by
  intro x1 x4 σ hf
  unfold f11_sign_95 at hf
  have hS : Same (wr11_sign) σ σ := Same.rf
  obtain ⟨r_1, σ_2, hc_3, hf⟩ := z_b_e hf
  have hS := hS.tr ((fr11_token N hc_3).mono (wsub [0, 1, 2, 3, 4] rfl))
  obtain ⟨-, rfl⟩ := Prod.mk.inj (Option.some.inj hf)
  exact hS
set_option maxHeartbeats 4000000 in
theorem fr11_sign_85 (N : Nat) {σ0 : Mm} {r0 : Int32} : ∀ (x1 : Int32) (x2 : Int32) (x4 : Int32) (σ : Mm), f11_sign_85 N x1 x2 x4 σ = some (r0, σ0) → Same (wr11_sign) σ σ0 := by
  intro x1 x2 x4 σ hf
  unfold f11_sign_85 at hf
  have hS : Same (wr11_sign) σ σ := Same.rf
  rcases z_if hf with hf | hf
  · exact hS.tr (fr11_sign_95 N  x1 (13 : Int32) σ hf)
  · exact hS.tr (fr11_sign_95 N  x1 x4 σ hf)
set_option maxHeartbeats 4000000 in
theorem fr11_sign_75 (N : Nat) {σ0 : Mm} {r0 : Int32} : ∀ (x1 : Int32) (x2 : Int32) (x4 : Int32) (σ : Mm), f11_sign_75 N x1 x2 x4 σ = some (r0, σ0) → Same (wr11_sign) σ σ0 := by
  intro x1 x2 x4 σ hf
  unfold f11_sign_75 at hf
  have hS : Same (wr11_sign) σ σ := Same.rf
  rcases z_if hf with hf | hf
  · exact hS.tr (fr11_sign_85 N  x1 x2 (15 : Int32) σ hf)
  · exact hS.tr (fr11_sign_85 N  x1 x2 x4 σ hf)
set_option maxHeartbeats 4000000 in
theorem fr11_sign_65 (N : Nat) {σ0 : Mm} {r0 : Int32} : ∀ (x1 : Int32) (x2 : Int32) (x4 : Int32) (σ : Mm), f11_sign_65 N x1 x2 x4 σ = some (r0, σ0) → Same (wr11_sign) σ σ0 := by
  intro x1 x2 x4 σ hf
  unfold f11_sign_65 at hf
  have hS : Same (wr11_sign) σ σ := Same.rf
  rcases z_if hf with hf | hf
  · exact hS.tr (fr11_sign_75 N  x1 x2 (10 : Int32) σ hf)
  · exact hS.tr (fr11_sign_75 N  x1 x2 x4 σ hf)
set_option maxHeartbeats 4000000 in
theorem fr11_sign_55 (N : Nat) {σ0 : Mm} {r0 : Int32} : ∀ (x1 : Int32) (x2 : Int32) (x4 : Int32) (σ : Mm), f11_sign_55 N x1 x2 x4 σ = some (r0, σ0) → Same (wr11_sign) σ σ0 := by
  intro x1 x2 x4 σ hf
  unfold f11_sign_55 at hf
  have hS : Same (wr11_sign) σ σ := Same.rf
  rcases z_if hf with hf | hf
  · exact hS.tr (fr11_sign_65 N  x1 x2 (9 : Int32) σ hf)
  · exact hS.tr (fr11_sign_65 N  x1 x2 x4 σ hf)
set_option maxHeartbeats 4000000 in
theorem fr11_sign_43 (N : Nat) {σ0 : Mm} {r0 : Int32} : ∀ (x1 : Int32) (x2 : Int32) (s0 : Int32) (σ : Mm), f11_sign_43 N x1 x2 s0 σ = some (r0, σ0) → Same (wr11_sign) σ σ0 := by
  intro x1 x2 s0 σ hf
  unfold f11_sign_43 at hf
  have hS : Same (wr11_sign) σ σ := Same.rf
  rcases z_if hf with hf | hf
  · exact hS.tr (fr11_sign_55 N  x1 x2 (8 : Int32) σ hf)
  · exact hS.tr (fr11_sign_55 N  x1 x2 s0 σ hf)
set_option maxHeartbeats 4000000 in
theorem fr11_sign (N : Nat) {x1 : Int32} {x2 : Int32} {x3 : Int32} {σ σ0 : Mm} {r0 : Int32} (hf : f11_sign N x1 x2 x3 σ = some (r0, σ0)) : Same (wr11_sign) σ σ0 := by
  unfold f11_sign at hf
  have hS : Same (wr11_sign) σ σ := Same.rf
  rcases z_if hf with hf | hf
  · exact hS.tr (fr11_sign_43 N  x1 x2 (4 : Int32) σ hf)
  · rcases z_if hf with hf | hf
    · exact hS.tr (fr11_sign_43 N  x1 x2 (5 : Int32) σ hf)
    · rcases z_if hf with hf | hf
      · exact hS.tr (fr11_sign_43 N  x1 x2 (6 : Int32) σ hf)
      · rcases z_if hf with hf | hf
        · exact hS.tr (fr11_sign_43 N  x1 x2 (7 : Int32) σ hf)
        · exact hS.tr (fr11_sign_43 N  x1 x2 (3 : Int32) σ hf)
def wr11_cut : Wr := [(160, 1, some 10), (163, 1, none), (164, 1, none), (165, 1, none), (166, 1, none)]
set_option maxHeartbeats 4000000 in
theorem fr11_cut_291 (N : Nat) {σ0 : Mm} {u0 : Unit} {k7 : Int32 → Mm → Option (Unit × Mm)} (hk7 : ∀ (x1 : Int32) (σ : Mm), k7 x1 σ = some (u0, σ0) → Same (wr11_cut) σ σ0) : ∀ (x1 : Int32) (σ : Mm), f11_cut_291 N k7 x1 σ = some (u0, σ0) → Same (wr11_cut) σ σ0 := by
  intro x1 σ hf
  unfold f11_cut_291 at hf
  have hS : Same (wr11_cut) σ σ := Same.rf
  exact hS.tr (hk7 x1 σ hf)
set_option maxHeartbeats 4000000 in
theorem fr11_cut_67 (N : Nat) {σ0 : Mm} {u0 : Unit} {k7 : Int32 → Mm → Option (Unit × Mm)} (hk7 : ∀ (x1 : Int32) (σ : Mm), k7 x1 σ = some (u0, σ0) → Same (wr11_cut) σ σ0) : ∀ (x1 : Int32) (σ : Mm), f11_cut_67 N k7 x1 σ = some (u0, σ0) → Same (wr11_cut) σ σ0 := by
  intro x1 σ hf
  unfold f11_cut_67 at hf
  have hS : Same (wr11_cut) σ σ := Same.rf
  obtain ⟨x1_5, ex1_5, hf⟩ := z_l_x hf
  exact hS.tr (fr11_cut_291 N hk7 x1_5 σ hf)
set_option maxHeartbeats 4000000 in
theorem fr11_cut_261 (N : Nat) {σ0 : Mm} {u0 : Unit} {k7 : Int32 → Mm → Option (Unit × Mm)} (hk7 : ∀ (x1 : Int32) (σ : Mm), k7 x1 σ = some (u0, σ0) → Same (wr11_cut) σ σ0) : ∀ (x1 : Int32) (x3 : Int32) (x4 : Int32) (s1 : Int32) (σ : Mm), f11_cut_261 N k7 x1 x3 x4 s1 σ = some (u0, σ0) → Same (wr11_cut) σ σ0 := by
  intro x1 x3 x4 s1 σ hf
  unfold f11_cut_261 at hf
  have hS : Same (wr11_cut) σ σ := Same.rf
  obtain ⟨r_25, σ_26, hc_27, hf⟩ := z_b_e hf
  have hS := hS.tr ((fr11_token N hc_27).mono (wsub [1, 2, 3, 4, 0] rfl))
  obtain ⟨x1_28, ex1_28, hf⟩ := z_l_x hf
  exact hS.tr (fr11_cut_291 N hk7 x1_28 σ_26 hf)
set_option maxHeartbeats 4000000 in
theorem fr11_cut_250 (N : Nat) {σ0 : Mm} {u0 : Unit} {k7 : Int32 → Mm → Option (Unit × Mm)} (hk7 : ∀ (x1 : Int32) (σ : Mm), k7 x1 σ = some (u0, σ0) → Same (wr11_cut) σ σ0) : ∀ (x1 : Int32) (x3 : Int32) (x4 : Int32) (σ : Mm), f11_cut_250 N k7 x1 x3 x4 σ = some (u0, σ0) → Same (wr11_cut) σ σ0 := by
  intro x1 x3 x4 σ hf
  unfold f11_cut_250 at hf
  have hS : Same (wr11_cut) σ σ := Same.rf
  rcases z_if hf with hf | hf
  · exact hS.tr (fr11_cut_261 N hk7 x1 x3 x4 (2 : Int32) σ hf)
  · exact hS.tr (fr11_cut_261 N hk7 x1 x3 x4 (3 : Int32) σ hf)
set_option maxHeartbeats 4000000 in
theorem fr11_cut_244 (N : Nat) {x1 : Int32} {σ0 : Mm} {u0 : Unit} {k7 : Int32 → Mm → Option (Unit × Mm)} (hk7 : ∀ (x1 : Int32) (σ : Mm), k7 x1 σ = some (u0, σ0) → Same (wr11_cut) σ σ0) {k208 : Int32 → Int32 → Mm → Option (Unit × Mm)} (hk208 : ∀ (x3 : Int32) (x4 : Int32) (σ : Mm), k208 x3 x4 σ = some (u0, σ0) → Same (wr11_cut) σ σ0) : ∀ (x3 : Int32) (x4 : Int32) (σ : Mm), f11_cut_244 N k7 k208 x1 x3 x4 σ = some (u0, σ0) → Same (wr11_cut) σ σ0 := by
  intro x3 x4 σ hf
  unfold f11_cut_244 at hf
  have hS : Same (wr11_cut) σ σ := Same.rf
  obtain ⟨x3_29, ex3_29, hf⟩ := z_l_x hf
  exact hS.tr (hk208 x3_29 x4 σ hf)
set_option maxHeartbeats 4000000 in
theorem fr11_cut_208 (N : Nat) {x1 : Int32} {σ0 : Mm} {u0 : Unit} {k7 : Int32 → Mm → Option (Unit × Mm)} (hk7 : ∀ (x1 : Int32) (σ : Mm), k7 x1 σ = some (u0, σ0) → Same (wr11_cut) σ σ0) : ∀ (fu : Nat) (x3 : Int32) (x4 : Int32) (σ : Mm), f11_cut_208 N k7 x1 fu x3 x4 σ = some (u0, σ0) → Same (wr11_cut) σ σ0 := by
  intro fu
  induction fu with
  | zero =>
    intro x3 x4 σ hf
    rw [f11_cut_208] at hf
    cases hf
  | succ fu ih =>
    intro x3 x4 σ hf
    rw [f11_cut_208] at hf
    have hS : Same (wr11_cut) σ σ := Same.rf
    obtain ⟨r_19, σ_20, hc_21, hf⟩ := z_b_e hf
    have hS := hS.tr (Same.nil (fr11_byteAt N hc_21))
    obtain ⟨r_22, σ_23, hc_24, hf⟩ := z_b_e hf
    have hS := hS.tr (Same.nil (fr11_isDigit N hc_24))
    rcases z_if hf with hf | hf
    · exact hS.tr (fr11_cut_250 N hk7 x1 x3 x4 σ_23 hf)
    · rcases z_if hf with hf | hf
      · exact hS.tr (fr11_cut_244 N hk7 ih x3 x4 σ_23 hf)
      · obtain ⟨r_30, σ_31, hc_32, hf⟩ := z_b_e hf
        have hS := hS.tr (Same.nil (fr11_byteAt N hc_32))
        obtain ⟨x4_33, ex4_33, hf⟩ := z_l_x hf
        exact hS.tr (fr11_cut_244 N hk7 ih x3 x4_33 σ_31 hf)
set_option maxHeartbeats 4000000 in
theorem fr11_cut_179 (N : Nat) {σ0 : Mm} {u0 : Unit} {k7 : Int32 → Mm → Option (Unit × Mm)} (hk7 : ∀ (x1 : Int32) (σ : Mm), k7 x1 σ = some (u0, σ0) → Same (wr11_cut) σ σ0) : ∀ (x1 : Int32) (x3 : Int32) (x4 : Int64) (x6 : Int32) (σ : Mm), f11_cut_179 N k7 x1 x3 x4 x6 σ = some (u0, σ0) → Same (wr11_cut) σ σ0 := by
  intro x1 x3 x4 x6 σ hf
  unfold f11_cut_179 at hf
  have hS : Same (wr11_cut) σ σ := Same.rf
  obtain ⟨r_40, σ_41, hc_42, hf⟩ := z_b_e hf
  have hS := hS.tr ((fr11_token N hc_42).mono (wsub [1, 2, 3, 4, 0] rfl))
  obtain ⟨x1_43, ex1_43, hf⟩ := z_l_x hf
  exact hS.tr (fr11_cut_291 N hk7 x1_43 σ_41 hf)
set_option maxHeartbeats 4000000 in
theorem fr11_cut_173 (N : Nat) {x1 : Int32} {x3 : Int32} {x4 : Int64} {σ0 : Mm} {u0 : Unit} {k7 : Int32 → Mm → Option (Unit × Mm)} (hk7 : ∀ (x1 : Int32) (σ : Mm), k7 x1 σ = some (u0, σ0) → Same (wr11_cut) σ σ0) {k146 : Int32 → Int32 → Mm → Option (Unit × Mm)} (hk146 : ∀ (x6 : Int32) (x7 : Int32) (σ : Mm), k146 x6 x7 σ = some (u0, σ0) → Same (wr11_cut) σ σ0) : ∀ (x6 : Int32) (x7 : Int32) (σ : Mm), f11_cut_173 N k7 k146 x1 x3 x4 x6 x7 σ = some (u0, σ0) → Same (wr11_cut) σ σ0 := by
  intro x6 x7 σ hf
  unfold f11_cut_173 at hf
  have hS : Same (wr11_cut) σ σ := Same.rf
  obtain ⟨x7_45, ex7_45, hf⟩ := z_l_x hf
  exact hS.tr (hk146 x6 x7_45 σ hf)
set_option maxHeartbeats 4000000 in
theorem fr11_cut_146 (N : Nat) {x1 : Int32} {x3 : Int32} {x4 : Int64} {σ0 : Mm} {u0 : Unit} {k7 : Int32 → Mm → Option (Unit × Mm)} (hk7 : ∀ (x1 : Int32) (σ : Mm), k7 x1 σ = some (u0, σ0) → Same (wr11_cut) σ σ0) : ∀ (fu : Nat) (x6 : Int32) (x7 : Int32) (σ : Mm), f11_cut_146 N k7 x1 x3 x4 fu x6 x7 σ = some (u0, σ0) → Same (wr11_cut) σ σ0 := by
  intro fu
  induction fu with
  | zero =>
    intro x6 x7 σ hf
    rw [f11_cut_146] at hf
    cases hf
  | succ fu ih =>
    intro x6 x7 σ hf
    rw [f11_cut_146] at hf
    have hS : Same (wr11_cut) σ σ := Same.rf
    rcases z_if hf with hf | hf
    · exact hS.tr (fr11_cut_179 N hk7 x1 x3 x4 x6 σ hf)
    · obtain ⟨hi_44, hf⟩ := z_c_e hf
      rcases z_if hf with hf | hf
      · obtain ⟨x6_46, ex6_46, hf⟩ := z_l_x hf
        exact hS.tr (fr11_cut_173 N hk7 ih x6_46 x7 σ hf)
      · exact hS.tr (fr11_cut_173 N hk7 ih x6 x7 σ hf)
set_option maxHeartbeats 4000000 in
theorem fr11_cut_135 (N : Nat) {σ0 : Mm} {u0 : Unit} {k7 : Int32 → Mm → Option (Unit × Mm)} (hk7 : ∀ (x1 : Int32) (σ : Mm), k7 x1 σ = some (u0, σ0) → Same (wr11_cut) σ σ0) : ∀ (x1 : Int32) (x3 : Int32) (x4 : Int64) (s0 : Int32) (σ : Mm), f11_cut_135 N k7 x1 x3 x4 s0 σ = some (u0, σ0) → Same (wr11_cut) σ σ0 := by
  intro x1 x3 x4 s0 σ hf
  unfold f11_cut_135 at hf
  have hS : Same (wr11_cut) σ σ := Same.rf
  rcases z_if hf with hf | hf
  · exact hS.tr (fr11_cut_179 N hk7 x1 x3 x4 s0 σ hf)
  · exact hS.tr (fr11_cut_146 N hk7 N s0 (0 : Int32) σ hf)
set_option maxHeartbeats 4000000 in
theorem fr11_cut_124 (N : Nat) {σ0 : Mm} {u0 : Unit} {k7 : Int32 → Mm → Option (Unit × Mm)} (hk7 : ∀ (x1 : Int32) (σ : Mm), k7 x1 σ = some (u0, σ0) → Same (wr11_cut) σ σ0) : ∀ (x1 : Int32) (x3 : Int32) (x4 : Int64) (σ : Mm), f11_cut_124 N k7 x1 x3 x4 σ = some (u0, σ0) → Same (wr11_cut) σ σ0 := by
  intro x1 x3 x4 σ hf
  unfold f11_cut_124 at hf
  have hS : Same (wr11_cut) σ σ := Same.rf
  rcases z_if hf with hf | hf
  · exact hS.tr (fr11_cut_135 N hk7 x1 x3 x4 (1 : Int32) σ hf)
  · exact hS.tr (fr11_cut_135 N hk7 x1 x3 x4 (3 : Int32) σ hf)
set_option maxHeartbeats 4000000 in
theorem fr11_cut_118 (N : Nat) {x1 : Int32} {σ0 : Mm} {u0 : Unit} {k7 : Int32 → Mm → Option (Unit × Mm)} (hk7 : ∀ (x1 : Int32) (σ : Mm), k7 x1 σ = some (u0, σ0) → Same (wr11_cut) σ σ0) {k85 : Int32 → Int64 → Mm → Option (Unit × Mm)} (hk85 : ∀ (x3 : Int32) (x4 : Int64) (σ : Mm), k85 x3 x4 σ = some (u0, σ0) → Same (wr11_cut) σ σ0) : ∀ (x3 : Int32) (x4 : Int64) (σ : Mm), f11_cut_118 N k7 k85 x1 x3 x4 σ = some (u0, σ0) → Same (wr11_cut) σ σ0 := by
  intro x3 x4 σ hf
  unfold f11_cut_118 at hf
  have hS : Same (wr11_cut) σ σ := Same.rf
  obtain ⟨x3_47, ex3_47, hf⟩ := z_l_x hf
  exact hS.tr (hk85 x3_47 x4 σ hf)
set_option maxHeartbeats 4000000 in
theorem fr11_cut_85 (N : Nat) {x1 : Int32} {σ0 : Mm} {u0 : Unit} {k7 : Int32 → Mm → Option (Unit × Mm)} (hk7 : ∀ (x1 : Int32) (σ : Mm), k7 x1 σ = some (u0, σ0) → Same (wr11_cut) σ σ0) : ∀ (fu : Nat) (x3 : Int32) (x4 : Int64) (σ : Mm), f11_cut_85 N k7 x1 fu x3 x4 σ = some (u0, σ0) → Same (wr11_cut) σ σ0 := by
  intro fu
  induction fu with
  | zero =>
    intro x3 x4 σ hf
    rw [f11_cut_85] at hf
    cases hf
  | succ fu ih =>
    intro x3 x4 σ hf
    rw [f11_cut_85] at hf
    have hS : Same (wr11_cut) σ σ := Same.rf
    obtain ⟨r_34, σ_35, hc_36, hf⟩ := z_b_e hf
    have hS := hS.tr (Same.nil (fr11_byteAt N hc_36))
    obtain ⟨r_37, σ_38, hc_39, hf⟩ := z_b_e hf
    have hS := hS.tr (Same.nil (fr11_isLetter N hc_39))
    rcases z_if hf with hf | hf
    · exact hS.tr (fr11_cut_124 N hk7 x1 x3 x4 σ_38 hf)
    · rcases z_if hf with hf | hf
      · exact hS.tr (fr11_cut_118 N hk7 ih x3 x4 σ_38 hf)
      · obtain ⟨r_48, σ_49, hc_50, hf⟩ := z_b_e hf
        have hS := hS.tr (Same.nil (fr11_byteAt N hc_50))
        obtain ⟨r_51, σ_52, hc_53, hf⟩ := z_b_e hf
        have hS := hS.tr (Same.nil (fr11_appends N hc_53))
        exact hS.tr (fr11_cut_118 N hk7 ih x3 r_51 σ_52 hf)
set_option maxHeartbeats 4000000 in
theorem fr11_cut_31 (N : Nat) {σ0 : Mm} {u0 : Unit} : ∀ (σ : Mm), f11_cut_31 N σ = some (u0, σ0) → Same (wr11_cut) σ σ0 := by
  intro σ hf
  unfold f11_cut_31 at hf
  have hS : Same (wr11_cut) σ σ := Same.rf
  obtain ⟨r_54, σ_55, hc_56, hf⟩ := z_b_e hf
  have hS := hS.tr ((fr11_token N hc_56).mono (wsub [1, 2, 3, 4, 0] rfl))
  obtain ⟨-, rfl⟩ := Prod.mk.inj (Option.some.inj hf)
  exact hS
set_option maxHeartbeats 4000000 in
theorem fr11_cut_7 (N : Nat) {σ0 : Mm} {u0 : Unit} : ∀ (fu : Nat) (x1 : Int32) (σ : Mm), f11_cut_7 N fu x1 σ = some (u0, σ0) → Same (wr11_cut) σ σ0 := by
  intro fu
  induction fu with
  | zero =>
    intro x1 σ hf
    rw [f11_cut_7] at hf
    cases hf
  | succ fu ih =>
    intro x1 σ hf
    rw [f11_cut_7] at hf
    have hS : Same (wr11_cut) σ σ := Same.rf
    rcases z_if hf with hf | hf
    · obtain ⟨-, rfl⟩ := Prod.mk.inj (Option.some.inj hf)
      exact hS
    · obtain ⟨r_2, σ_3, hc_4, hf⟩ := z_b_e hf
      have hS := hS.tr (Same.nil (fr11_byteAt N hc_4))
      rcases z_if hf with hf | hf
      · rcases z_if hf with hf | hf
        · exact hS.tr (fr11_cut_67 N ih x1 σ_3 hf)
        · rcases z_if hf with hf | hf
          · exact hS.tr (fr11_cut_67 N ih x1 σ_3 hf)
          · rcases z_if hf with hf | hf
            · exact hS.tr (fr11_cut_67 N ih x1 σ_3 hf)
            · rcases z_if hf with hf | hf
              · exact hS.tr (fr11_cut_67 N ih x1 σ_3 hf)
              · obtain ⟨r_6, σ_7, hc_8, hf⟩ := z_b_e hf
                have hS := hS.tr (Same.nil (fr11_isLetter N hc_8))
                rcases z_if hf with hf | hf
                · obtain ⟨r_9, σ_10, hc_11, hf⟩ := z_b_e hf
                  have hS := hS.tr (Same.nil (fr11_isDigit N hc_11))
                  rcases z_if hf with hf | hf
                  · obtain ⟨r_12, σ_13, hc_14, hf⟩ := z_b_e hf
                    have hS := hS.tr (Same.nil (fr11_byteAt N hc_14))
                    obtain ⟨r_15, σ_16, hc_17, hf⟩ := z_b_e hf
                    have hS := hS.tr ((fr11_sign N hc_17).mono (wsub [1, 2, 3, 4, 0] rfl))
                    obtain ⟨x1_18, ex1_18, hf⟩ := z_l_x hf
                    exact hS.tr (fr11_cut_291 N ih x1_18 σ_16 hf)
                  · exact hS.tr (fr11_cut_208 N ih N (0 : Int32) (0 : Int32) σ_10 hf)
                · exact hS.tr (fr11_cut_85 N ih N (0 : Int32) (0 : Int64) σ_7 hf)
      · exact hS.tr (fr11_cut_31 N   σ_3 hf)
set_option maxHeartbeats 4000000 in
theorem fr11_cut (N : Nat) {σ σ0 : Mm} {u0 : Unit} (hf : f11_cut N σ = some (u0, σ0)) : Same (wr11_cut) σ σ0 := by
  unfold f11_cut at hf
  have hS : Same (wr11_cut) σ σ := Same.rf
  obtain ⟨σ_1, eσ_1, hf⟩ := z_l_x hf
  have hS := hS.tr (υ := σ_1) (by rw [eσ_1]; exact Same_sI (i := 0) rfl)
  exact hS.tr (fr11_cut_7 N  N (0 : Int32) σ_1 hf)
def wr11_is : Wr := []
set_option maxHeartbeats 4000000 in
theorem fr11_is (N : Nat) {x1 : Int32} {σ σ0 : Mm} {r0 : Int32} (hf : f11_is N x1 σ = some (r0, σ0)) : Same (wr11_is) σ σ0 := by
  unfold f11_is at hf
  have hS : Same (wr11_is) σ σ := Same.rf
  rcases z_if hf with hf | hf
  · obtain ⟨hi_1, hf⟩ := z_c_e hf
    rcases z_if hf with hf | hf
    · obtain ⟨-, rfl⟩ := Prod.mk.inj (Option.some.inj hf)
      exact hS
    · obtain ⟨-, rfl⟩ := Prod.mk.inj (Option.some.inj hf)
      exact hS
  · obtain ⟨-, rfl⟩ := Prod.mk.inj (Option.some.inj hf)
    exact hS
def wr11_fail : Wr := [(160, 1, some 13), (160, 1, some 14)]
set_option maxHeartbeats 4000000 in
theorem fr11_fail (N : Nat) {x1 : Int32} {σ σ0 : Mm} {u0 : Unit} (hf : f11_fail N x1 σ = some (u0, σ0)) : Same (wr11_fail) σ σ0 := by
  unfold f11_fail at hf
  have hS : Same (wr11_fail) σ σ := Same.rf
  rcases z_if hf with hf | hf
  · obtain ⟨σ_1, eσ_1, hf⟩ := z_l_x hf
    have hS := hS.tr (υ := σ_1) (by rw [eσ_1]; exact Same_sI (i := 0) rfl)
    obtain ⟨hi_2, hf⟩ := z_c_e hf
    obtain ⟨σ_3, eσ_3, hf⟩ := z_l_x hf
    have hS := hS.tr (υ := σ_3) (by rw [eσ_3]; exact Same_sI (i := 1) rfl)
    obtain ⟨-, rfl⟩ := Prod.mk.inj (Option.some.inj hf)
    exact hS
  · obtain ⟨-, rfl⟩ := Prod.mk.inj (Option.some.inj hf)
    exact hS
def wr11_wrong : Wr := [(160, 1, some 15), (160, 1, some 16)]
set_option maxHeartbeats 4000000 in
theorem fr11_wrong_46 (N : Nat) {σ0 : Mm} {u0 : Unit} : ∀ (x1 : Int32) (x3 : Int32) (σ : Mm), f11_wrong_46 N x1 x3 σ = some (u0, σ0) → Same (wr11_wrong) σ σ0 := by
  intro x1 x3 σ hf
  unfold f11_wrong_46 at hf
  have hS : Same (wr11_wrong) σ σ := Same.rf
  obtain ⟨σ_3, eσ_3, hf⟩ := z_l_x hf
  have hS := hS.tr (υ := σ_3) (by rw [eσ_3]; exact Same_sI (i := 0) rfl)
  obtain ⟨σ_4, eσ_4, hf⟩ := z_l_x hf
  have hS := hS.tr (υ := σ_4) (by rw [eσ_4]; exact Same_sI (i := 1) rfl)
  obtain ⟨-, rfl⟩ := Prod.mk.inj (Option.some.inj hf)
  exact hS
set_option maxHeartbeats 4000000 in
theorem fr11_wrong (N : Nat) {x1 : Int32} {x2 : Int32} {σ σ0 : Mm} {u0 : Unit} (hf : f11_wrong N x1 x2 σ = some (u0, σ0)) : Same (wr11_wrong) σ σ0 := by
  unfold f11_wrong at hf
  have hS : Same (wr11_wrong) σ σ := Same.rf
  obtain ⟨hi_1, hf⟩ := z_c_e hf
  obtain ⟨x3_2, ex3_2, hf⟩ := z_l_x hf
  rcases z_if hf with hf | hf
  · obtain ⟨-, rfl⟩ := Prod.mk.inj (Option.some.inj hf)
    exact hS
  · rcases z_if hf with hf | hf
    · exact hS.tr (fr11_wrong_46 N  x1 x3_2 σ hf)
    · rcases z_if hf with hf | hf
      · obtain ⟨-, rfl⟩ := Prod.mk.inj (Option.some.inj hf)
        exact hS
      · rcases z_if hf with hf | hf
        · rcases z_if hf with hf | hf
          · exact hS.tr (fr11_wrong_46 N  x1 x3_2 σ hf)
          · obtain ⟨-, rfl⟩ := Prod.mk.inj (Option.some.inj hf)
            exact hS
        · exact hS.tr (fr11_wrong_46 N  x1 x3_2 σ hf)
def wr11_goesOn : Wr := [(160, 1, some 11), (160, 1, some 13), (160, 1, some 14)]
set_option maxHeartbeats 4000000 in
theorem fr11_goesOn (N : Nat) {σ σ0 : Mm} {u0 : Unit} (hf : f11_goesOn N σ = some (u0, σ0)) : Same (wr11_goesOn) σ σ0 := by
  unfold f11_goesOn at hf
  have hS : Same (wr11_goesOn) σ σ := Same.rf
  rcases z_if hf with hf | hf
  · obtain ⟨r_2, σ_3, hc_4, hf⟩ := z_b_e hf
    have hS := hS.tr ((fr11_fail N hc_4).mono (wsub [1, 2] rfl))
    obtain ⟨-, rfl⟩ := Prod.mk.inj (Option.some.inj hf)
    exact hS
  · obtain ⟨σ_1, eσ_1, hf⟩ := z_l_x hf
    have hS := hS.tr (υ := σ_1) (by rw [eσ_1]; exact Same_sI (i := 0) rfl)
    obtain ⟨-, rfl⟩ := Prod.mk.inj (Option.some.inj hf)
    exact hS
def wr11_must : Wr := [(160, 1, some 13), (160, 1, some 14), (160, 1, some 11)]
set_option maxHeartbeats 4000000 in
theorem fr11_must (N : Nat) {x1 : Int32} {σ σ0 : Mm} {u0 : Unit} (hf : f11_must N x1 σ = some (u0, σ0)) : Same (wr11_must) σ σ0 := by
  unfold f11_must at hf
  have hS : Same (wr11_must) σ σ := Same.rf
  obtain ⟨r_1, σ_2, hc_3, hf⟩ := z_b_e hf
  have hS := hS.tr (Same.nil (fr11_is N hc_3))
  rcases z_if hf with hf | hf
  · obtain ⟨r_4, σ_5, hc_6, hf⟩ := z_b_e hf
    have hS := hS.tr ((fr11_fail N hc_6).mono (wsub [0, 1] rfl))
    obtain ⟨-, rfl⟩ := Prod.mk.inj (Option.some.inj hf)
    exact hS
  · obtain ⟨r_7, σ_8, hc_9, hf⟩ := z_b_e hf
    have hS := hS.tr ((fr11_goesOn N hc_9).mono (wsub [2, 0, 1] rfl))
    obtain ⟨-, rfl⟩ := Prod.mk.inj (Option.some.inj hf)
    exact hS
def wr11_plain : Wr := [(170, 1, none), (171, 1, none), (175, 1, none), (178, 1, none), (184, 1, none), (185, 1, none), (186, 1, none), (187, 1, none)]
set_option maxHeartbeats 4000000 in
theorem fr11_plain_44 (N : Nat) {x1 : Int32} {σ0 : Mm} {u0 : Unit} : ∀ (fu : Nat) (x2 : Int32) (σ : Mm), f11_plain_44 N x1 fu x2 σ = some (u0, σ0) → Same (wr11_plain) σ σ0 := by
  intro fu
  induction fu with
  | zero =>
    intro x2 σ hf
    rw [f11_plain_44] at hf
    cases hf
  | succ fu ih =>
    intro x2 σ hf
    rw [f11_plain_44] at hf
    have hS : Same (wr11_plain) σ σ := Same.rf
    rcases z_if hf with hf | hf
    · obtain ⟨-, rfl⟩ := Prod.mk.inj (Option.some.inj hf)
      exact hS
    · obtain ⟨-, hf⟩ := z_c_e hf
      obtain ⟨σ_7, eσ_7, hf⟩ := z_l_x hf
      have hS := hS.tr (υ := σ_7) (by rw [eσ_7]; exact Same_sIe (i := 6) rfl)
      obtain ⟨-, hf⟩ := z_c_e hf
      obtain ⟨σ_8, eσ_8, hf⟩ := z_l_x hf
      have hS := hS.tr (υ := σ_8) (by rw [eσ_8]; exact Same_sIe (i := 7) rfl)
      obtain ⟨x2_9, ex2_9, hf⟩ := z_l_x hf
      exact hS.tr (ih x2_9 σ_8 hf)
set_option maxHeartbeats 4000000 in
theorem fr11_plain (N : Nat) {x1 : Int32} {σ σ0 : Mm} {u0 : Unit} (hf : f11_plain N x1 σ = some (u0, σ0)) : Same (wr11_plain) σ σ0 := by
  unfold f11_plain at hf
  have hS : Same (wr11_plain) σ σ := Same.rf
  obtain ⟨-, hf⟩ := z_c_e hf
  obtain ⟨σ_1, eσ_1, hf⟩ := z_l_x hf
  have hS := hS.tr (υ := σ_1) (by rw [eσ_1]; exact Same_sIe (i := 0) rfl)
  obtain ⟨-, hf⟩ := z_c_e hf
  obtain ⟨σ_2, eσ_2, hf⟩ := z_l_x hf
  have hS := hS.tr (υ := σ_2) (by rw [eσ_2]; exact Same_sIe (i := 1) rfl)
  obtain ⟨-, hf⟩ := z_c_e hf
  obtain ⟨σ_3, eσ_3, hf⟩ := z_l_x hf
  have hS := hS.tr (υ := σ_3) (by rw [eσ_3]; exact Same_sIe (i := 2) rfl)
  obtain ⟨-, hf⟩ := z_c_e hf
  obtain ⟨σ_4, eσ_4, hf⟩ := z_l_x hf
  have hS := hS.tr (υ := σ_4) (by rw [eσ_4]; exact Same_sIe (i := 3) rfl)
  obtain ⟨-, hf⟩ := z_c_e hf
  obtain ⟨σ_5, eσ_5, hf⟩ := z_l_x hf
  have hS := hS.tr (υ := σ_5) (by rw [eσ_5]; exact Same_sIe (i := 4) rfl)
  obtain ⟨-, hf⟩ := z_c_e hf
  obtain ⟨σ_6, eσ_6, hf⟩ := z_l_x hf
  have hS := hS.tr (υ := σ_6) (by rw [eσ_6]; exact Same_sIe (i := 5) rfl)
  exact hS.tr (fr11_plain_44 N  N (0 : Int32) σ_6 hf)
def wr11_roomFor : Wr := [(160, 1, some 11), (160, 1, some 13), (160, 1, some 14)]
set_option maxHeartbeats 4000000 in
theorem fr11_roomFor_10 (N : Nat) {σ0 : Mm} {u0 : Unit} : ∀ (σ : Mm), f11_roomFor_10 N σ = some (u0, σ0) → Same (wr11_roomFor) σ σ0 := by
  intro σ hf
  unfold f11_roomFor_10 at hf
  have hS : Same (wr11_roomFor) σ σ := Same.rf
  rcases z_if hf with hf | hf
  · obtain ⟨r_1, σ_2, hc_3, hf⟩ := z_b_e hf
    have hS := hS.tr ((fr11_goesOn N hc_3).mono (wsub [0, 1, 2] rfl))
    obtain ⟨-, rfl⟩ := Prod.mk.inj (Option.some.inj hf)
    exact hS
  · obtain ⟨-, rfl⟩ := Prod.mk.inj (Option.some.inj hf)
    exact hS
set_option maxHeartbeats 4000000 in
theorem fr11_roomFor (N : Nat) {x1 : Int32} {x2 : Int32} {σ σ0 : Mm} {u0 : Unit} (hf : f11_roomFor N x1 x2 σ = some (u0, σ0)) : Same (wr11_roomFor) σ σ0 := by
  unfold f11_roomFor at hf
  have hS : Same (wr11_roomFor) σ σ := Same.rf
  rcases z_if hf with hf | hf
  · obtain ⟨r_4, σ_5, hc_6, hf⟩ := z_b_e hf
    have hS := hS.tr ((fr11_fail N hc_6).mono (wsub [1, 2] rfl))
    exact hS.tr (fr11_roomFor_10 N   σ_5 hf)
  · exact hS.tr (fr11_roomFor_10 N   σ hf)
def wr11_named : Wr := [(160, 1, some 13), (160, 1, some 14), (160, 1, some 11), (160, 1, some 15), (160, 1, some 16)]
set_option maxHeartbeats 4000000 in
theorem fr11_named_49 (N : Nat) {x1 : Int32} {σ0 : Mm} {r0 : Int32} {k12 : Int32 → Mm → Option (Int32 × Mm)} (hk12 : ∀ (x2 : Int32) (σ : Mm), k12 x2 σ = some (r0, σ0) → Same (wr11_named) σ σ0) : ∀ (x2 : Int32) (σ : Mm), f11_named_49 N k12 x1 x2 σ = some (r0, σ0) → Same (wr11_named) σ σ0 := by
  intro x2 σ hf
  unfold f11_named_49 at hf
  have hS : Same (wr11_named) σ σ := Same.rf
  obtain ⟨x2_7, ex2_7, hf⟩ := z_l_x hf
  exact hS.tr (hk12 x2_7 σ hf)
set_option maxHeartbeats 4000000 in
theorem fr11_named_12 (N : Nat) {x1 : Int32} {σ0 : Mm} {r0 : Int32} : ∀ (fu : Nat) (x2 : Int32) (σ : Mm), f11_named_12 N x1 fu x2 σ = some (r0, σ0) → Same (wr11_named) σ σ0 := by
  intro fu
  induction fu with
  | zero =>
    intro x2 σ hf
    rw [f11_named_12] at hf
    cases hf
  | succ fu ih =>
    intro x2 σ hf
    rw [f11_named_12] at hf
    have hS : Same (wr11_named) σ σ := Same.rf
    rcases z_if hf with hf | hf
    · obtain ⟨-, rfl⟩ := Prod.mk.inj (Option.some.inj hf)
      exact hS
    · rcases z_if hf with hf | hf
      · obtain ⟨hi_5, hf⟩ := z_c_e hf
        obtain ⟨hi_6, hf⟩ := z_c_e hf
        rcases z_if hf with hf | hf
        · obtain ⟨r_8, σ_9, hc_10, hf⟩ := z_b_e hf
          have hS := hS.tr ((fr11_wrong N hc_10).mono (wsub [3, 4] rfl))
          exact hS.tr (fr11_named_49 N ih x2 σ_9 hf)
        · exact hS.tr (fr11_named_49 N ih x2 σ hf)
      · obtain ⟨-, rfl⟩ := Prod.mk.inj (Option.some.inj hf)
        exact hS
set_option maxHeartbeats 4000000 in
theorem fr11_named (N : Nat) {σ σ0 : Mm} {r0 : Int32} (hf : f11_named N σ = some (r0, σ0)) : Same (wr11_named) σ σ0 := by
  unfold f11_named at hf
  have hS : Same (wr11_named) σ σ := Same.rf
  obtain ⟨x1_1, ex1_1, hf⟩ := z_l_x hf
  obtain ⟨r_2, σ_3, hc_4, hf⟩ := z_b_e hf
  have hS := hS.tr ((fr11_must N hc_4).mono (wsub [0, 1, 2] rfl))
  exact hS.tr (fr11_named_12 N  N (0 : Int32) σ_3 hf)
def wr11_ends : Wr := [(160, 1, some 13), (160, 1, some 14), (160, 1, some 11), (168, 1, none), (169, 1, none), (160, 1, some 20)]
set_option maxHeartbeats 4000000 in
theorem fr11_ends (N : Nat) {x1 : Int32} {x2 : Int32} {σ σ0 : Mm} {u0 : Unit} (hf : f11_ends N x1 x2 σ = some (u0, σ0)) : Same (wr11_ends) σ σ0 := by
  unfold f11_ends at hf
  have hS : Same (wr11_ends) σ σ := Same.rf
  obtain ⟨r_1, σ_2, hc_3, hf⟩ := z_b_e hf
  have hS := hS.tr ((fr11_must N hc_3).mono (wsub [0, 1, 2] rfl))
  rcases z_if hf with hf | hf
  · obtain ⟨hi_4, hf⟩ := z_c_e hf
    obtain ⟨-, hf⟩ := z_c_e hf
    obtain ⟨σ_5, eσ_5, hf⟩ := z_l_x hf
    have hS := hS.tr (υ := σ_5) (by rw [eσ_5]; exact Same_sLr (i := 3) rfl)
    obtain ⟨-, hf⟩ := z_c_e hf
    obtain ⟨σ_6, eσ_6, hf⟩ := z_l_x hf
    have hS := hS.tr (υ := σ_6) (by rw [eσ_6]; exact Same_sIe (i := 4) rfl)
    obtain ⟨σ_7, eσ_7, hf⟩ := z_l_x hf
    have hS := hS.tr (υ := σ_7) (by rw [eσ_7]; exact Same_sI (i := 5) rfl)
    obtain ⟨-, rfl⟩ := Prod.mk.inj (Option.some.inj hf)
    exact hS
  · obtain ⟨-, rfl⟩ := Prod.mk.inj (Option.some.inj hf)
    exact hS
def wr11_bounded : Wr := [(160, 1, some 13), (160, 1, some 14), (160, 1, some 15), (160, 1, some 16), (160, 1, some 11)]
set_option maxHeartbeats 4000000 in
theorem fr11_bounded_15 (N : Nat) {σ0 : Mm} {r0 : Int32} : ∀ (x1 : Int32) (σ : Mm), f11_bounded_15 N x1 σ = some (r0, σ0) → Same (wr11_bounded) σ σ0 := by
  intro x1 σ hf
  unfold f11_bounded_15 at hf
  have hS : Same (wr11_bounded) σ σ := Same.rf
  obtain ⟨r_1, σ_2, hc_3, hf⟩ := z_b_e hf
  have hS := hS.tr ((fr11_fail N hc_3).mono (wsub [0, 1] rfl))
  obtain ⟨-, rfl⟩ := Prod.mk.inj (Option.some.inj hf)
  exact hS
set_option maxHeartbeats 4000000 in
theorem fr11_bounded_51 (N : Nat) {σ0 : Mm} {r0 : Int32} : ∀ (x3 : Int32) (σ : Mm), f11_bounded_51 N x3 σ = some (r0, σ0) → Same (wr11_bounded) σ σ0 := by
  intro x3 σ hf
  unfold f11_bounded_51 at hf
  have hS : Same (wr11_bounded) σ σ := Same.rf
  obtain ⟨r_12, σ_13, hc_14, hf⟩ := z_b_e hf
  have hS := hS.tr ((fr11_goesOn N hc_14).mono (wsub [4, 0, 1] rfl))
  obtain ⟨-, rfl⟩ := Prod.mk.inj (Option.some.inj hf)
  exact hS
set_option maxHeartbeats 4000000 in
theorem fr11_bounded_42 (N : Nat) {σ0 : Mm} {r0 : Int32} : ∀ (x3 : Int32) (σ : Mm), f11_bounded_42 N x3 σ = some (r0, σ0) → Same (wr11_bounded) σ σ0 := by
  intro x3 σ hf
  unfold f11_bounded_42 at hf
  have hS : Same (wr11_bounded) σ σ := Same.rf
  obtain ⟨r_9, σ_10, hc_11, hf⟩ := z_b_e hf
  have hS := hS.tr ((fr11_wrong N hc_11).mono (wsub [2, 3] rfl))
  exact hS.tr (fr11_bounded_51 N  x3 σ_10 hf)
set_option maxHeartbeats 4000000 in
theorem fr11_bounded (N : Nat) {x1 : Int32} {x2 : Int32} {σ σ0 : Mm} {r0 : Int32} (hf : f11_bounded N x1 x2 σ = some (r0, σ0)) : Same (wr11_bounded) σ σ0 := by
  unfold f11_bounded at hf
  have hS : Same (wr11_bounded) σ σ := Same.rf
  rcases z_if hf with hf | hf
  · exact hS.tr (fr11_bounded_15 N  x1 σ hf)
  · obtain ⟨r_4, σ_5, hc_6, hf⟩ := z_b_e hf
    have hS := hS.tr (Same.nil (fr11_is N hc_6))
    rcases z_if hf with hf | hf
    · exact hS.tr (fr11_bounded_15 N  x1 σ_5 hf)
    · obtain ⟨hi_7, hf⟩ := z_c_e hf
      obtain ⟨x3_8, ex3_8, hf⟩ := z_l_x hf
      rcases z_if hf with hf | hf
      · exact hS.tr (fr11_bounded_42 N  x3_8 σ_5 hf)
      · rcases z_if hf with hf | hf
        · exact hS.tr (fr11_bounded_51 N  x3_8 σ_5 hf)
        · exact hS.tr (fr11_bounded_42 N  x3_8 σ_5 hf)
def wr11_known : Wr := [(160, 1, some 13), (160, 1, some 14), (160, 1, some 11), (160, 1, some 15), (160, 1, some 16)]
set_option maxHeartbeats 4000000 in
theorem fr11_known_83 (N : Nat) {σ0 : Mm} {r0 : Int32} : ∀ (x2 : Int32) (σ : Mm), f11_known_83 N x2 σ = some (r0, σ0) → Same (wr11_known) σ σ0 := by
  intro x2 σ hf
  unfold f11_known_83 at hf
  have hS : Same (wr11_known) σ σ := Same.rf
  obtain ⟨r_5, σ_6, hc_7, hf⟩ := z_b_e hf
  have hS := hS.tr ((fr11_wrong N hc_7).mono (wsub [3, 4] rfl))
  obtain ⟨-, rfl⟩ := Prod.mk.inj (Option.some.inj hf)
  exact hS
set_option maxHeartbeats 4000000 in
theorem fr11_known_77 (N : Nat) {x1 : Int32} {x2 : Int32} {σ0 : Mm} {r0 : Int32} {k21 : Int32 → Mm → Option (Int32 × Mm)} (hk21 : ∀ (x3 : Int32) (σ : Mm), k21 x3 σ = some (r0, σ0) → Same (wr11_known) σ σ0) : ∀ (x3 : Int32) (σ : Mm), f11_known_77 N k21 x1 x2 x3 σ = some (r0, σ0) → Same (wr11_known) σ σ0 := by
  intro x3 σ hf
  unfold f11_known_77 at hf
  have hS : Same (wr11_known) σ σ := Same.rf
  obtain ⟨x3_10, ex3_10, hf⟩ := z_l_x hf
  exact hS.tr (hk21 x3_10 σ hf)
set_option maxHeartbeats 4000000 in
theorem fr11_known_68 (N : Nat) {σ0 : Mm} {r0 : Int32} : ∀ (x1 : Int32) (x3 : Int32) (σ : Mm), f11_known_68 N x1 x3 σ = some (r0, σ0) → Same (wr11_known) σ σ0 := by
  intro x1 x3 σ hf
  unfold f11_known_68 at hf
  have hS : Same (wr11_known) σ σ := Same.rf
  obtain ⟨hi_13, hf⟩ := z_c_e hf
  obtain ⟨-, rfl⟩ := Prod.mk.inj (Option.some.inj hf)
  exact hS
set_option maxHeartbeats 4000000 in
theorem fr11_known_21 (N : Nat) {x1 : Int32} {x2 : Int32} {σ0 : Mm} {r0 : Int32} : ∀ (fu : Nat) (x3 : Int32) (σ : Mm), f11_known_21 N x1 x2 fu x3 σ = some (r0, σ0) → Same (wr11_known) σ σ0 := by
  intro fu
  induction fu with
  | zero =>
    intro x3 σ hf
    rw [f11_known_21] at hf
    cases hf
  | succ fu ih =>
    intro x3 σ hf
    rw [f11_known_21] at hf
    have hS : Same (wr11_known) σ σ := Same.rf
    rcases z_if hf with hf | hf
    · exact hS.tr (fr11_known_83 N  x2 σ hf)
    · obtain ⟨hi_8, hf⟩ := z_c_e hf
      obtain ⟨hi_9, hf⟩ := z_c_e hf
      rcases z_if hf with hf | hf
      · obtain ⟨hi_11, hf⟩ := z_c_e hf
        rcases z_if hf with hf | hf
        · exact hS.tr (fr11_known_77 N ih x3 σ hf)
        · obtain ⟨hi_12, hf⟩ := z_c_e hf
          rcases z_if hf with hf | hf
          · exact hS.tr (fr11_known_77 N ih x3 σ hf)
          · exact hS.tr (fr11_known_68 N  x1 x3 σ hf)
      · exact hS.tr (fr11_known_77 N ih x3 σ hf)
set_option maxHeartbeats 4000000 in
theorem fr11_known (N : Nat) {x1 : Int32} {σ σ0 : Mm} {r0 : Int32} (hf : f11_known N x1 σ = some (r0, σ0)) : Same (wr11_known) σ σ0 := by
  unfold f11_known at hf
  have hS : Same (wr11_known) σ σ := Same.rf
  obtain ⟨x2_1, ex2_1, hf⟩ := z_l_x hf
  obtain ⟨r_2, σ_3, hc_4, hf⟩ := z_b_e hf
  have hS := hS.tr ((fr11_must N hc_4).mono (wsub [0, 1, 2] rfl))
  rcases z_if hf with hf | hf
  · exact hS.tr (fr11_known_21 N  N (0 : Int32) σ_3 hf)
  · obtain ⟨-, rfl⟩ := Prod.mk.inj (Option.some.inj hf)
    exact hS
def wr11_tellPlot : Wr := [(160, 1, some 13), (160, 1, some 14), (160, 1, some 11), (160, 1, some 15), (160, 1, some 16), (172, 1, none), (173, 1, none), (174, 1, none), (168, 1, none), (169, 1, none), (160, 1, some 20), (171, 1, none)]
set_option maxHeartbeats 4000000 in
theorem fr11_tellPlot (N : Nat) {σ σ0 : Mm} {u0 : Unit} (hf : f11_tellPlot N σ = some (u0, σ0)) : Same (wr11_tellPlot) σ σ0 := by
  unfold f11_tellPlot at hf
  have hS : Same (wr11_tellPlot) σ σ := Same.rf
  obtain ⟨hi_1, hf⟩ := z_c_e hf
  obtain ⟨x1_2, ex1_2, hf⟩ := z_l_x hf
  obtain ⟨r_3, σ_4, hc_5, hf⟩ := z_b_e hf
  have hS := hS.tr ((fr11_named N hc_5).mono (wsub [0, 1, 2, 3, 4] rfl))
  obtain ⟨r_6, σ_7, hc_8, hf⟩ := z_b_e hf
  have hS := hS.tr ((fr11_bounded N hc_8).mono (wsub [0, 1, 3, 4, 2] rfl))
  obtain ⟨-, hf⟩ := z_c_e hf
  obtain ⟨σ_9, eσ_9, hf⟩ := z_l_x hf
  have hS := hS.tr (υ := σ_9) (by rw [eσ_9]; exact Same_sIe (i := 5) rfl)
  obtain ⟨r_10, σ_11, hc_12, hf⟩ := z_b_e hf
  have hS := hS.tr ((fr11_bounded N hc_12).mono (wsub [0, 1, 3, 4, 2] rfl))
  obtain ⟨-, hf⟩ := z_c_e hf
  obtain ⟨σ_13, eσ_13, hf⟩ := z_l_x hf
  have hS := hS.tr (υ := σ_13) (by rw [eσ_13]; exact Same_sIe (i := 6) rfl)
  obtain ⟨r_14, σ_15, hc_16, hf⟩ := z_b_e hf
  have hS := hS.tr ((fr11_known N hc_16).mono (wsub [0, 1, 2, 3, 4] rfl))
  obtain ⟨-, hf⟩ := z_c_e hf
  obtain ⟨σ_17, eσ_17, hf⟩ := z_l_x hf
  have hS := hS.tr (υ := σ_17) (by rw [eσ_17]; exact Same_sIe (i := 7) rfl)
  obtain ⟨hi_18, hf⟩ := z_c_e hf
  obtain ⟨r_19, σ_20, hc_21, hf⟩ := z_b_e hf
  have hS := hS.tr ((fr11_ends N hc_21).mono (wsub [0, 1, 2, 8, 9, 10] rfl))
  rcases z_if hf with hf | hf
  · obtain ⟨hi_22, hf⟩ := z_c_e hf
    obtain ⟨-, hf⟩ := z_c_e hf
    obtain ⟨σ_23, eσ_23, hf⟩ := z_l_x hf
    have hS := hS.tr (υ := σ_23) (by rw [eσ_23]; exact Same_sIe (i := 11) rfl)
    obtain ⟨-, rfl⟩ := Prod.mk.inj (Option.some.inj hf)
    exact hS
  · obtain ⟨-, rfl⟩ := Prod.mk.inj (Option.some.inj hf)
    exact hS
def wr11_tellWitness : Wr := [(160, 1, some 13), (160, 1, some 14), (160, 1, some 11), (160, 1, some 15), (160, 1, some 16), (176, 1, none), (177, 1, none), (168, 1, none), (169, 1, none), (160, 1, some 20), (175, 1, none)]
set_option maxHeartbeats 4000000 in
theorem fr11_tellWitness (N : Nat) {σ σ0 : Mm} {u0 : Unit} (hf : f11_tellWitness N σ = some (u0, σ0)) : Same (wr11_tellWitness) σ σ0 := by
  unfold f11_tellWitness at hf
  have hS : Same (wr11_tellWitness) σ σ := Same.rf
  obtain ⟨hi_1, hf⟩ := z_c_e hf
  obtain ⟨x1_2, ex1_2, hf⟩ := z_l_x hf
  obtain ⟨r_3, σ_4, hc_5, hf⟩ := z_b_e hf
  have hS := hS.tr ((fr11_named N hc_5).mono (wsub [0, 1, 2, 3, 4] rfl))
  obtain ⟨r_6, σ_7, hc_8, hf⟩ := z_b_e hf
  have hS := hS.tr ((fr11_bounded N hc_8).mono (wsub [0, 1, 3, 4, 2] rfl))
  obtain ⟨-, hf⟩ := z_c_e hf
  obtain ⟨σ_9, eσ_9, hf⟩ := z_l_x hf
  have hS := hS.tr (υ := σ_9) (by rw [eσ_9]; exact Same_sIe (i := 5) rfl)
  obtain ⟨r_10, σ_11, hc_12, hf⟩ := z_b_e hf
  have hS := hS.tr ((fr11_bounded N hc_12).mono (wsub [0, 1, 3, 4, 2] rfl))
  obtain ⟨-, hf⟩ := z_c_e hf
  obtain ⟨σ_13, eσ_13, hf⟩ := z_l_x hf
  have hS := hS.tr (υ := σ_13) (by rw [eσ_13]; exact Same_sIe (i := 6) rfl)
  obtain ⟨hi_14, hf⟩ := z_c_e hf
  obtain ⟨r_15, σ_16, hc_17, hf⟩ := z_b_e hf
  have hS := hS.tr ((fr11_ends N hc_17).mono (wsub [0, 1, 2, 7, 8, 9] rfl))
  rcases z_if hf with hf | hf
  · obtain ⟨hi_18, hf⟩ := z_c_e hf
    obtain ⟨-, hf⟩ := z_c_e hf
    obtain ⟨σ_19, eσ_19, hf⟩ := z_l_x hf
    have hS := hS.tr (υ := σ_19) (by rw [eσ_19]; exact Same_sIe (i := 10) rfl)
    obtain ⟨-, rfl⟩ := Prod.mk.inj (Option.some.inj hf)
    exact hS
  · obtain ⟨-, rfl⟩ := Prod.mk.inj (Option.some.inj hf)
    exact hS
def wr11_tellGiving : Wr := [(160, 1, some 13), (160, 1, some 14), (160, 1, some 11), (160, 1, some 15), (160, 1, some 16), (179, 1, none), (180, 1, none), (181, 1, none), (182, 1, none), (183, 1, none), (178, 1, none)]
set_option maxHeartbeats 4000000 in
theorem fr11_tellGiving_189 (N : Nat) {σ0 : Mm} {u0 : Unit} : ∀ (σ : Mm), f11_tellGiving_189 N σ = some (u0, σ0) → Same (wr11_tellGiving) σ σ0 := by
  intro σ hf
  unfold f11_tellGiving_189 at hf
  have hS : Same (wr11_tellGiving) σ σ := Same.rf
  obtain ⟨r_21, σ_22, hc_23, hf⟩ := z_b_e hf
  have hS := hS.tr ((fr11_must N hc_23).mono (wsub [0, 1, 2] rfl))
  rcases z_if hf with hf | hf
  · obtain ⟨hi_24, hf⟩ := z_c_e hf
    obtain ⟨-, hf⟩ := z_c_e hf
    obtain ⟨σ_25, eσ_25, hf⟩ := z_l_x hf
    have hS := hS.tr (υ := σ_25) (by rw [eσ_25]; exact Same_sIe (i := 10) rfl)
    obtain ⟨-, rfl⟩ := Prod.mk.inj (Option.some.inj hf)
    exact hS
  · obtain ⟨-, rfl⟩ := Prod.mk.inj (Option.some.inj hf)
    exact hS
set_option maxHeartbeats 4000000 in
theorem fr11_tellGiving_186 (N : Nat) {x1 : Int32} {σ0 : Mm} {u0 : Unit} {k114 : Mm → Option (Unit × Mm)} (hk114 : ∀ (σ : Mm), k114  σ = some (u0, σ0) → Same (wr11_tellGiving) σ σ0) : ∀ (σ : Mm), f11_tellGiving_186 N k114 x1 σ = some (u0, σ0) → Same (wr11_tellGiving) σ σ0 := by
  intro σ hf
  unfold f11_tellGiving_186 at hf
  have hS : Same (wr11_tellGiving) σ σ := Same.rf
  exact hS.tr (hk114  σ hf)
set_option maxHeartbeats 4000000 in
theorem fr11_tellGiving_168 (N : Nat) {x1 : Int32} {σ0 : Mm} {u0 : Unit} {k114 : Mm → Option (Unit × Mm)} (hk114 : ∀ (σ : Mm), k114  σ = some (u0, σ0) → Same (wr11_tellGiving) σ σ0) : ∀ (x4 : Int32) (σ : Mm), f11_tellGiving_168 N k114 x1 x4 σ = some (u0, σ0) → Same (wr11_tellGiving) σ σ0 := by
  intro x4 σ hf
  unfold f11_tellGiving_168 at hf
  have hS : Same (wr11_tellGiving) σ σ := Same.rf
  rcases z_if hf with hf | hf
  · exact hS.tr (fr11_tellGiving_186 N hk114  σ hf)
  · obtain ⟨hi_33, hf⟩ := z_c_e hf
    obtain ⟨-, hf⟩ := z_c_e hf
    obtain ⟨σ_34, eσ_34, hf⟩ := z_l_x hf
    have hS := hS.tr (υ := σ_34) (by rw [eσ_34]; exact Same_sIe (i := 9) rfl)
    exact hS.tr (fr11_tellGiving_186 N hk114  σ_34 hf)
set_option maxHeartbeats 4000000 in
theorem fr11_tellGiving_114 (N : Nat) {x1 : Int32} {σ0 : Mm} {u0 : Unit} : ∀ (fu : Nat) (σ : Mm), f11_tellGiving_114 N x1 fu σ = some (u0, σ0) → Same (wr11_tellGiving) σ σ0 := by
  intro fu
  induction fu with
  | zero =>
    intro σ hf
    rw [f11_tellGiving_114] at hf
    cases hf
  | succ fu ih =>
    intro σ hf
    rw [f11_tellGiving_114] at hf
    have hS : Same (wr11_tellGiving) σ σ := Same.rf
    rcases z_if hf with hf | hf
    · obtain ⟨r_26, σ_27, hc_28, hf⟩ := z_b_e hf
      have hS := hS.tr (Same.nil (fr11_is N hc_28))
      rcases z_if hf with hf | hf
      · exact hS.tr (fr11_tellGiving_189 N   σ_27 hf)
      · obtain ⟨x3_29, ex3_29, hf⟩ := z_l_x hf
        obtain ⟨r_30, σ_31, hc_32, hf⟩ := z_b_e hf
        have hS := hS.tr ((fr11_known N hc_32).mono (wsub [0, 1, 2, 3, 4] rfl))
        rcases z_if hf with hf | hf
        · exact hS.tr (fr11_tellGiving_168 N ih r_30 σ_31 hf)
        · obtain ⟨hi_35, hf⟩ := z_c_e hf
          rcases z_if hf with hf | hf
          · obtain ⟨r_36, σ_37, hc_38, hf⟩ := z_b_e hf
            have hS := hS.tr ((fr11_wrong N hc_38).mono (wsub [3, 4] rfl))
            exact hS.tr (fr11_tellGiving_168 N ih r_30 σ_37 hf)
          · exact hS.tr (fr11_tellGiving_168 N ih r_30 σ_31 hf)
    · exact hS.tr (fr11_tellGiving_189 N   σ hf)
set_option maxHeartbeats 4000000 in
theorem fr11_tellGiving_94 (N : Nat) {σ0 : Mm} {u0 : Unit} : ∀ (x1 : Int32) (σ : Mm), f11_tellGiving_94 N x1 σ = some (u0, σ0) → Same (wr11_tellGiving) σ σ0 := by
  intro x1 σ hf
  unfold f11_tellGiving_94 at hf
  have hS : Same (wr11_tellGiving) σ σ := Same.rf
  obtain ⟨r_16, σ_17, hc_18, hf⟩ := z_b_e hf
  have hS := hS.tr ((fr11_bounded N hc_18).mono (wsub [0, 1, 3, 4, 2] rfl))
  obtain ⟨-, hf⟩ := z_c_e hf
  obtain ⟨σ_19, eσ_19, hf⟩ := z_l_x hf
  have hS := hS.tr (υ := σ_19) (by rw [eσ_19]; exact Same_sIe (i := 8) rfl)
  obtain ⟨-, hf⟩ := z_c_e hf
  obtain ⟨σ_20, eσ_20, hf⟩ := z_l_x hf
  have hS := hS.tr (υ := σ_20) (by rw [eσ_20]; exact Same_sIe (i := 9) rfl)
  exact hS.tr (fr11_tellGiving_114 N  N  σ_20 hf)
set_option maxHeartbeats 4000000 in
theorem fr11_tellGiving (N : Nat) {σ σ0 : Mm} {u0 : Unit} (hf : f11_tellGiving N σ = some (u0, σ0)) : Same (wr11_tellGiving) σ σ0 := by
  unfold f11_tellGiving at hf
  have hS : Same (wr11_tellGiving) σ σ := Same.rf
  obtain ⟨hi_1, hf⟩ := z_c_e hf
  obtain ⟨x1_2, ex1_2, hf⟩ := z_l_x hf
  obtain ⟨r_3, σ_4, hc_5, hf⟩ := z_b_e hf
  have hS := hS.tr ((fr11_known N hc_5).mono (wsub [0, 1, 2, 3, 4] rfl))
  obtain ⟨-, hf⟩ := z_c_e hf
  obtain ⟨σ_6, eσ_6, hf⟩ := z_l_x hf
  have hS := hS.tr (υ := σ_6) (by rw [eσ_6]; exact Same_sIe (i := 5) rfl)
  obtain ⟨r_7, σ_8, hc_9, hf⟩ := z_b_e hf
  have hS := hS.tr ((fr11_known N hc_9).mono (wsub [0, 1, 2, 3, 4] rfl))
  obtain ⟨-, hf⟩ := z_c_e hf
  obtain ⟨σ_10, eσ_10, hf⟩ := z_l_x hf
  have hS := hS.tr (υ := σ_10) (by rw [eσ_10]; exact Same_sIe (i := 6) rfl)
  obtain ⟨x2_11, ex2_11, hf⟩ := z_l_x hf
  obtain ⟨r_12, σ_13, hc_14, hf⟩ := z_b_e hf
  have hS := hS.tr ((fr11_known N hc_14).mono (wsub [0, 1, 2, 3, 4] rfl))
  obtain ⟨-, hf⟩ := z_c_e hf
  obtain ⟨σ_15, eσ_15, hf⟩ := z_l_x hf
  have hS := hS.tr (υ := σ_15) (by rw [eσ_15]; exact Same_sIe (i := 7) rfl)
  rcases z_if hf with hf | hf
  · obtain ⟨hi_39, hf⟩ := z_c_e hf
    rcases z_if hf with hf | hf
    · exact hS.tr (fr11_tellGiving_94 N  x1_2 σ_15 hf)
    · obtain ⟨hi_40, hf⟩ := z_c_e hf
      obtain ⟨hi_41, hf⟩ := z_c_e hf
      rcases z_if hf with hf | hf
      · obtain ⟨r_42, σ_43, hc_44, hf⟩ := z_b_e hf
        have hS := hS.tr ((fr11_wrong N hc_44).mono (wsub [3, 4] rfl))
        exact hS.tr (fr11_tellGiving_94 N  x1_2 σ_43 hf)
      · exact hS.tr (fr11_tellGiving_94 N  x1_2 σ_15 hf)
  · exact hS.tr (fr11_tellGiving_94 N  x1_2 σ_15 hf)
def wr11_toldInt : Wr := [(160, 1, some 11), (160, 1, some 13), (160, 1, some 14), (160, 1, some 15), (160, 1, some 16)]
set_option maxHeartbeats 4000000 in
theorem fr11_toldInt (N : Nat) {x1 : Int32} {x2 : Int32} {σ σ0 : Mm} {r0 : Int32} (hf : f11_toldInt N x1 x2 σ = some (r0, σ0)) : Same (wr11_toldInt) σ σ0 := by
  unfold f11_toldInt at hf
  have hS : Same (wr11_toldInt) σ σ := Same.rf
  obtain ⟨r_1, σ_2, hc_3, hf⟩ := z_b_e hf
  have hS := hS.tr ((fr11_goesOn N hc_3).mono (wsub [0, 1, 2] rfl))
  obtain ⟨r_4, σ_5, hc_6, hf⟩ := z_b_e hf
  have hS := hS.tr ((fr11_bounded N hc_6).mono (wsub [1, 2, 3, 4, 0] rfl))
  obtain ⟨r_7, σ_8, hc_9, hf⟩ := z_b_e hf
  have hS := hS.tr ((fr11_must N hc_9).mono (wsub [1, 2, 0] rfl))
  obtain ⟨-, rfl⟩ := Prod.mk.inj (Option.some.inj hf)
  exact hS
def wr11_emit : Wr := [(193, 1, none), (194, 1, none), (160, 1, some 47)]
set_option maxHeartbeats 4000000 in
theorem fr11_emit (N : Nat) {x1 : Int32} {x2 : Int32} {σ σ0 : Mm} {u0 : Unit} (hf : f11_emit N x1 x2 σ = some (u0, σ0)) : Same (wr11_emit) σ σ0 := by
  unfold f11_emit at hf
  have hS : Same (wr11_emit) σ σ := Same.rf
  obtain ⟨-, hf⟩ := z_c_e hf
  obtain ⟨σ_1, eσ_1, hf⟩ := z_l_x hf
  have hS := hS.tr (υ := σ_1) (by rw [eσ_1]; exact Same_sIe (i := 0) rfl)
  obtain ⟨-, hf⟩ := z_c_e hf
  obtain ⟨σ_2, eσ_2, hf⟩ := z_l_x hf
  have hS := hS.tr (υ := σ_2) (by rw [eσ_2]; exact Same_sIe (i := 1) rfl)
  obtain ⟨σ_3, eσ_3, hf⟩ := z_l_x hf
  have hS := hS.tr (υ := σ_3) (by rw [eσ_3]; exact Same_sI (i := 2) rfl)
  obtain ⟨-, rfl⟩ := Prod.mk.inj (Option.some.inj hf)
  exact hS
def wr11_unit : Wr := [(160, 1, some 13), (160, 1, some 14), (193, 1, none), (194, 1, none), (160, 1, some 47), (160, 1, some 11)]
set_option maxHeartbeats 4000000 in
theorem fr11_unit_88 (N : Nat) {σ0 : Mm} {u0 : Unit} : ∀ (σ : Mm), f11_unit_88 N σ = some (u0, σ0) → Same (wr11_unit) σ σ0 := by
  intro σ hf
  unfold f11_unit_88 at hf
  have hS : Same (wr11_unit) σ σ := Same.rf
  obtain ⟨r_4, σ_5, hc_6, hf⟩ := z_b_e hf
  have hS := hS.tr ((fr11_fail N hc_6).mono (wsub [0, 1] rfl))
  obtain ⟨-, rfl⟩ := Prod.mk.inj (Option.some.inj hf)
  exact hS
set_option maxHeartbeats 4000000 in
theorem fr11_unit (N : Nat) {σ σ0 : Mm} {u0 : Unit} (hf : f11_unit N σ = some (u0, σ0)) : Same (wr11_unit) σ σ0 := by
  unfold f11_unit at hf
  have hS : Same (wr11_unit) σ σ := Same.rf
  obtain ⟨r_1, σ_2, hc_3, hf⟩ := z_b_e hf
  have hS := hS.tr (Same.nil (fr11_is N hc_3))
  rcases z_if hf with hf | hf
  · rcases z_if hf with hf | hf
    · obtain ⟨hi_7, hf⟩ := z_c_e hf
      rcases z_if hf with hf | hf
      · exact hS.tr (fr11_unit_88 N   σ_2 hf)
      · obtain ⟨hi_8, hf⟩ := z_c_e hf
        rcases z_if hf with hf | hf
        · exact hS.tr (fr11_unit_88 N   σ_2 hf)
        · obtain ⟨hi_9, hf⟩ := z_c_e hf
          obtain ⟨r_10, σ_11, hc_12, hf⟩ := z_b_e hf
          have hS := hS.tr ((fr11_emit N hc_12).mono (wsub [2, 3, 4] rfl))
          obtain ⟨r_13, σ_14, hc_15, hf⟩ := z_b_e hf
          have hS := hS.tr ((fr11_goesOn N hc_15).mono (wsub [5, 0, 1] rfl))
          obtain ⟨-, rfl⟩ := Prod.mk.inj (Option.some.inj hf)
          exact hS
    · exact hS.tr (fr11_unit_88 N   σ_2 hf)
  · obtain ⟨hi_16, hf⟩ := z_c_e hf
    obtain ⟨r_17, σ_18, hc_19, hf⟩ := z_b_e hf
    have hS := hS.tr ((fr11_emit N hc_19).mono (wsub [2, 3, 4] rfl))
    obtain ⟨r_20, σ_21, hc_22, hf⟩ := z_b_e hf
    have hS := hS.tr ((fr11_goesOn N hc_22).mono (wsub [5, 0, 1] rfl))
    obtain ⟨-, rfl⟩ := Prod.mk.inj (Option.some.inj hf)
    exact hS
def wr11_comesOut : Wr := [(160, 1, some 51), (193, 1, none), (194, 1, none), (160, 1, some 47)]
set_option maxHeartbeats 4000000 in
theorem fr11_comesOut_84 (N : Nat) {x1 : Int32} {σ0 : Mm} {u0 : Unit} {k0 : Mm → Option (Unit × Mm)} (hk0 : ∀ (σ : Mm), k0  σ = some (u0, σ0) → Same (wr11_comesOut) σ σ0) : ∀ (s1 : Int32) (σ : Mm), f11_comesOut_84 N k0 x1 s1 σ = some (u0, σ0) → Same (wr11_comesOut) σ σ0 := by
  intro s1 σ hf
  unfold f11_comesOut_84 at hf
  have hS : Same (wr11_comesOut) σ σ := Same.rf
  obtain ⟨r_4, σ_5, hc_6, hf⟩ := z_b_e hf
  have hS := hS.tr ((fr11_emit N hc_6).mono (wsub [1, 2, 3] rfl))
  exact hS.tr (hk0  σ_5 hf)
set_option maxHeartbeats 4000000 in
theorem fr11_comesOut_42 (N : Nat) {x1 : Int32} {σ0 : Mm} {u0 : Unit} {k0 : Mm → Option (Unit × Mm)} (hk0 : ∀ (σ : Mm), k0  σ = some (u0, σ0) → Same (wr11_comesOut) σ σ0) : ∀ (x2 : Int32) (σ : Mm), f11_comesOut_42 N k0 x1 x2 σ = some (u0, σ0) → Same (wr11_comesOut) σ σ0 := by
  intro x2 σ hf
  unfold f11_comesOut_42 at hf
  have hS : Same (wr11_comesOut) σ σ := Same.rf
  obtain ⟨σ_3, eσ_3, hf⟩ := z_l_x hf
  have hS := hS.tr (υ := σ_3) (by rw [eσ_3]; exact Same_sI (i := 0) rfl)
  rcases z_if hf with hf | hf
  · exact hS.tr (fr11_comesOut_84 N hk0 (2 : Int32) σ_3 hf)
  · rcases z_if hf with hf | hf
    · exact hS.tr (fr11_comesOut_84 N hk0 (3 : Int32) σ_3 hf)
    · rcases z_if hf with hf | hf
      · exact hS.tr (fr11_comesOut_84 N hk0 (4 : Int32) σ_3 hf)
      · exact hS.tr (fr11_comesOut_84 N hk0 (5 : Int32) σ_3 hf)
set_option maxHeartbeats 4000000 in
theorem fr11_comesOut_0 (N : Nat) {x1 : Int32} {σ0 : Mm} {u0 : Unit} : ∀ (fu : Nat) (σ : Mm), f11_comesOut_0 N x1 fu σ = some (u0, σ0) → Same (wr11_comesOut) σ σ0 := by
  intro fu
  induction fu with
  | zero =>
    intro σ hf
    rw [f11_comesOut_0] at hf
    cases hf
  | succ fu ih =>
    intro σ hf
    rw [f11_comesOut_0] at hf
    have hS : Same (wr11_comesOut) σ σ := Same.rf
    rcases z_if hf with hf | hf
    · obtain ⟨-, rfl⟩ := Prod.mk.inj (Option.some.inj hf)
      exact hS
    · obtain ⟨hi_1, hf⟩ := z_c_e hf
      obtain ⟨x2_2, ex2_2, hf⟩ := z_l_x hf
      rcases z_if hf with hf | hf
      · obtain ⟨-, rfl⟩ := Prod.mk.inj (Option.some.inj hf)
        exact hS
      · rcases z_if hf with hf | hf
        · exact hS.tr (fr11_comesOut_42 N ih x2_2 σ hf)
        · rcases z_if hf with hf | hf
          · obtain ⟨-, rfl⟩ := Prod.mk.inj (Option.some.inj hf)
            exact hS
          · rcases z_if hf with hf | hf
            · obtain ⟨-, rfl⟩ := Prod.mk.inj (Option.some.inj hf)
              exact hS
            · exact hS.tr (fr11_comesOut_42 N ih x2_2 σ hf)
set_option maxHeartbeats 4000000 in
theorem fr11_comesOut (N : Nat) {x1 : Int32} {σ σ0 : Mm} {u0 : Unit} (hf : f11_comesOut N x1 σ = some (u0, σ0)) : Same (wr11_comesOut) σ σ0 := by
  unfold f11_comesOut at hf
  have hS : Same (wr11_comesOut) σ σ := Same.rf
  exact hS.tr (fr11_comesOut_0 N  N  σ hf)
def wr11_expression : Wr := [(160, 1, some 51), (160, 1, some 13), (160, 1, some 14), (193, 1, none), (194, 1, none), (160, 1, some 47), (160, 1, some 11), (195, 1, none), (160, 1, some 12)]
set_option maxHeartbeats 4000000 in
theorem fr11_expression_234 (N : Nat) {x1 : Int32} {σ0 : Mm} {u0 : Unit} {k12 : Int32 → Mm → Option (Unit × Mm)} (hk12 : ∀ (x2 : Int32) (σ : Mm), k12 x2 σ = some (u0, σ0) → Same (wr11_expression) σ σ0) : ∀ (x2 : Int32) (s1 : Int32) (σ : Mm), f11_expression_234 N k12 x1 x2 s1 σ = some (u0, σ0) → Same (wr11_expression) σ σ0 := by
  intro x2 s1 σ hf
  unfold f11_expression_234 at hf
  have hS : Same (wr11_expression) σ σ := Same.rf
  obtain ⟨r_18, σ_19, hc_20, hf⟩ := z_b_e hf
  have hS := hS.tr ((fr11_comesOut N hc_20).mono (wsub [0, 3, 4, 5] rfl))
  obtain ⟨hi_21, hf⟩ := z_c_e hf
  obtain ⟨-, hf⟩ := z_c_e hf
  obtain ⟨σ_22, eσ_22, hf⟩ := z_l_x hf
  have hS := hS.tr (υ := σ_22) (by rw [eσ_22]; exact Same_sIe (i := 7) rfl)
  obtain ⟨σ_23, eσ_23, hf⟩ := z_l_x hf
  have hS := hS.tr (υ := σ_23) (by rw [eσ_23]; exact Same_sI (i := 0) rfl)
  obtain ⟨r_24, σ_25, hc_26, hf⟩ := z_b_e hf
  have hS := hS.tr ((fr11_goesOn N hc_26).mono (wsub [6, 1, 2] rfl))
  exact hS.tr (hk12 x2 σ_25 hf)
set_option maxHeartbeats 4000000 in
theorem fr11_expression_229 (N : Nat) {x1 : Int32} {σ0 : Mm} {u0 : Unit} {k12 : Int32 → Mm → Option (Unit × Mm)} (hk12 : ∀ (x2 : Int32) (σ : Mm), k12 x2 σ = some (u0, σ0) → Same (wr11_expression) σ σ0) : ∀ (x2 : Int32) (σ : Mm), f11_expression_229 N k12 x1 x2 σ = some (u0, σ0) → Same (wr11_expression) σ σ0 := by
  intro x2 σ hf
  unfold f11_expression_229 at hf
  have hS : Same (wr11_expression) σ σ := Same.rf
  exact hS.tr (fr11_expression_234 N hk12 x2 (1 : Int32) σ hf)
set_option maxHeartbeats 4000000 in
theorem fr11_expression_204 (N : Nat) {σ0 : Mm} {u0 : Unit} : ∀ (σ : Mm), f11_expression_204 N σ = some (u0, σ0) → Same (wr11_expression) σ σ0 := by
  intro σ hf
  unfold f11_expression_204 at hf
  have hS : Same (wr11_expression) σ σ := Same.rf
  obtain ⟨r_30, σ_31, hc_32, hf⟩ := z_b_e hf
  have hS := hS.tr ((fr11_comesOut N hc_32).mono (wsub [0, 3, 4, 5] rfl))
  obtain ⟨-, rfl⟩ := Prod.mk.inj (Option.some.inj hf)
  exact hS
set_option maxHeartbeats 4000000 in
theorem fr11_expression_191 (N : Nat) {σ0 : Mm} {u0 : Unit} : ∀ (x1 : Int32) (σ : Mm), f11_expression_191 N x1 σ = some (u0, σ0) → Same (wr11_expression) σ σ0 := by
  intro x1 σ hf
  unfold f11_expression_191 at hf
  have hS : Same (wr11_expression) σ σ := Same.rf
  rcases z_if hf with hf | hf
  · exact hS.tr (fr11_expression_204 N   σ hf)
  · obtain ⟨r_33, σ_34, hc_35, hf⟩ := z_b_e hf
    have hS := hS.tr ((fr11_fail N hc_35).mono (wsub [1, 2] rfl))
    exact hS.tr (fr11_expression_204 N   σ_34 hf)
set_option maxHeartbeats 4000000 in
theorem fr11_expression_186 (N : Nat) {x1 : Int32} {σ0 : Mm} {u0 : Unit} {k12 : Int32 → Mm → Option (Unit × Mm)} (hk12 : ∀ (x2 : Int32) (σ : Mm), k12 x2 σ = some (u0, σ0) → Same (wr11_expression) σ σ0) : ∀ (s0 : Int32) (σ : Mm), f11_expression_186 N k12 x1 s0 σ = some (u0, σ0) → Same (wr11_expression) σ σ0 := by
  intro s0 σ hf
  unfold f11_expression_186 at hf
  have hS : Same (wr11_expression) σ σ := Same.rf
  rcases z_if hf with hf | hf
  · exact hS.tr (fr11_expression_191 N  x1 σ hf)
  · obtain ⟨r_15, σ_16, hc_17, hf⟩ := z_b_e hf
    have hS := hS.tr (Same.nil (fr11_is N hc_17))
    rcases z_if hf with hf | hf
    · obtain ⟨r_27, σ_28, hc_29, hf⟩ := z_b_e hf
      have hS := hS.tr (Same.nil (fr11_is N hc_29))
      rcases z_if hf with hf | hf
      · exact hS.tr (fr11_expression_234 N hk12 s0 (0 : Int32) σ_28 hf)
      · exact hS.tr (fr11_expression_229 N hk12 s0 σ_28 hf)
    · exact hS.tr (fr11_expression_229 N hk12 s0 σ_16 hf)
set_option maxHeartbeats 4000000 in
theorem fr11_expression_181 (N : Nat) {x1 : Int32} {σ0 : Mm} {u0 : Unit} {k12 : Int32 → Mm → Option (Unit × Mm)} (hk12 : ∀ (x2 : Int32) (σ : Mm), k12 x2 σ = some (u0, σ0) → Same (wr11_expression) σ σ0) : ∀ (σ : Mm), f11_expression_181 N k12 x1 σ = some (u0, σ0) → Same (wr11_expression) σ σ0 := by
  intro σ hf
  unfold f11_expression_181 at hf
  have hS : Same (wr11_expression) σ σ := Same.rf
  exact hS.tr (fr11_expression_186 N hk12 (1 : Int32) σ hf)
set_option maxHeartbeats 4000000 in
theorem fr11_expression_145 (N : Nat) {x1 : Int32} {σ0 : Mm} {u0 : Unit} {k12 : Int32 → Mm → Option (Unit × Mm)} (hk12 : ∀ (x2 : Int32) (σ : Mm), k12 x2 σ = some (u0, σ0) → Same (wr11_expression) σ σ0) : ∀ (σ : Mm), f11_expression_145 N k12 x1 σ = some (u0, σ0) → Same (wr11_expression) σ σ0 := by
  intro σ hf
  unfold f11_expression_145 at hf
  have hS : Same (wr11_expression) σ σ := Same.rf
  obtain ⟨r_12, σ_13, hc_14, hf⟩ := z_b_e hf
  have hS := hS.tr (Same.nil (fr11_is N hc_14))
  rcases z_if hf with hf | hf
  · obtain ⟨r_36, σ_37, hc_38, hf⟩ := z_b_e hf
    have hS := hS.tr (Same.nil (fr11_is N hc_38))
    rcases z_if hf with hf | hf
    · obtain ⟨r_39, σ_40, hc_41, hf⟩ := z_b_e hf
      have hS := hS.tr (Same.nil (fr11_is N hc_41))
      rcases z_if hf with hf | hf
      · obtain ⟨r_42, σ_43, hc_44, hf⟩ := z_b_e hf
        have hS := hS.tr (Same.nil (fr11_is N hc_44))
        rcases z_if hf with hf | hf
        · exact hS.tr (fr11_expression_186 N hk12 (0 : Int32) σ_43 hf)
        · exact hS.tr (fr11_expression_181 N hk12  σ_43 hf)
      · exact hS.tr (fr11_expression_181 N hk12  σ_40 hf)
    · exact hS.tr (fr11_expression_181 N hk12  σ_37 hf)
  · exact hS.tr (fr11_expression_181 N hk12  σ_13 hf)
set_option maxHeartbeats 4000000 in
theorem fr11_expression_96 (N : Nat) {x1 : Int32} {σ0 : Mm} {u0 : Unit} {k12 : Int32 → Mm → Option (Unit × Mm)} (hk12 : ∀ (x2 : Int32) (σ : Mm), k12 x2 σ = some (u0, σ0) → Same (wr11_expression) σ σ0) : ∀ (fu : Nat) (σ : Mm), f11_expression_96 N k12 x1 fu σ = some (u0, σ0) → Same (wr11_expression) σ σ0 := by
  intro fu
  induction fu with
  | zero =>
    intro σ hf
    rw [f11_expression_96] at hf
    cases hf
  | succ fu ih =>
    intro σ hf
    rw [f11_expression_96] at hf
    have hS : Same (wr11_expression) σ σ := Same.rf
    obtain ⟨r_9, σ_10, hc_11, hf⟩ := z_b_e hf
    have hS := hS.tr (Same.nil (fr11_is N hc_11))
    rcases z_if hf with hf | hf
    · exact hS.tr (fr11_expression_145 N hk12  σ_10 hf)
    · rcases z_if hf with hf | hf
      · exact hS.tr (fr11_expression_145 N hk12  σ_10 hf)
      · obtain ⟨r_45, σ_46, hc_47, hf⟩ := z_b_e hf
        have hS := hS.tr ((fr11_comesOut N hc_47).mono (wsub [0, 3, 4, 5] rfl))
        obtain ⟨σ_48, eσ_48, hf⟩ := z_l_x hf
        have hS := hS.tr (υ := σ_48) (by rw [eσ_48]; exact Same_sI (i := 0) rfl)
        obtain ⟨σ_49, eσ_49, hf⟩ := z_l_x hf
        have hS := hS.tr (υ := σ_49) (by rw [eσ_49]; exact Same_sI (i := 8) rfl)
        obtain ⟨r_50, σ_51, hc_52, hf⟩ := z_b_e hf
        have hS := hS.tr ((fr11_goesOn N hc_52).mono (wsub [6, 1, 2] rfl))
        exact hS.tr (ih  σ_51 hf)
set_option maxHeartbeats 4000000 in
theorem fr11_expression_84 (N : Nat) {x1 : Int32} {σ0 : Mm} {u0 : Unit} {k12 : Int32 → Mm → Option (Unit × Mm)} (hk12 : ∀ (x2 : Int32) (σ : Mm), k12 x2 σ = some (u0, σ0) → Same (wr11_expression) σ σ0) : ∀ (σ : Mm), f11_expression_84 N k12 x1 σ = some (u0, σ0) → Same (wr11_expression) σ σ0 := by
  intro σ hf
  unfold f11_expression_84 at hf
  have hS : Same (wr11_expression) σ σ := Same.rf
  obtain ⟨r_6, σ_7, hc_8, hf⟩ := z_b_e hf
  have hS := hS.tr ((fr11_unit N hc_8).mono (wsub [1, 2, 3, 4, 5, 6] rfl))
  rcases z_if hf with hf | hf
  · exact hS.tr (fr11_expression_96 N hk12 N  σ_7 hf)
  · obtain ⟨-, rfl⟩ := Prod.mk.inj (Option.some.inj hf)
    exact hS
set_option maxHeartbeats 4000000 in
theorem fr11_expression_46 (N : Nat) {x1 : Int32} {σ0 : Mm} {u0 : Unit} {k12 : Int32 → Mm → Option (Unit × Mm)} (hk12 : ∀ (x2 : Int32) (σ : Mm), k12 x2 σ = some (u0, σ0) → Same (wr11_expression) σ σ0) {k23 : Mm → Option (Unit × Mm)} (hk23 : ∀ (σ : Mm), k23  σ = some (u0, σ0) → Same (wr11_expression) σ σ0) : ∀ (σ : Mm), f11_expression_46 N k12 k23 x1 σ = some (u0, σ0) → Same (wr11_expression) σ σ0 := by
  intro σ hf
  unfold f11_expression_46 at hf
  have hS : Same (wr11_expression) σ σ := Same.rf
  obtain ⟨σ_53, eσ_53, hf⟩ := z_l_x hf
  have hS := hS.tr (υ := σ_53) (by rw [eσ_53]; exact Same_sI (i := 8) rfl)
  obtain ⟨r_54, σ_55, hc_56, hf⟩ := z_b_e hf
  have hS := hS.tr ((fr11_goesOn N hc_56).mono (wsub [6, 1, 2] rfl))
  obtain ⟨-, hf⟩ := z_c_e hf
  obtain ⟨σ_57, eσ_57, hf⟩ := z_l_x hf
  have hS := hS.tr (υ := σ_57) (by rw [eσ_57]; exact Same_sIe (i := 7) rfl)
  obtain ⟨σ_58, eσ_58, hf⟩ := z_l_x hf
  have hS := hS.tr (υ := σ_58) (by rw [eσ_58]; exact Same_sI (i := 0) rfl)
  exact hS.tr (hk23  σ_58 hf)
set_option maxHeartbeats 4000000 in
theorem fr11_expression_23 (N : Nat) {x1 : Int32} {σ0 : Mm} {u0 : Unit} {k12 : Int32 → Mm → Option (Unit × Mm)} (hk12 : ∀ (x2 : Int32) (σ : Mm), k12 x2 σ = some (u0, σ0) → Same (wr11_expression) σ σ0) : ∀ (fu : Nat) (σ : Mm), f11_expression_23 N k12 x1 fu σ = some (u0, σ0) → Same (wr11_expression) σ σ0 := by
  intro fu
  induction fu with
  | zero =>
    intro σ hf
    rw [f11_expression_23] at hf
    cases hf
  | succ fu ih =>
    intro σ hf
    rw [f11_expression_23] at hf
    have hS : Same (wr11_expression) σ σ := Same.rf
    obtain ⟨r_3, σ_4, hc_5, hf⟩ := z_b_e hf
    have hS := hS.tr (Same.nil (fr11_is N hc_5))
    rcases z_if hf with hf | hf
    · exact hS.tr (fr11_expression_84 N hk12  σ_4 hf)
    · rcases z_if hf with hf | hf
      · obtain ⟨r_59, σ_60, hc_61, hf⟩ := z_b_e hf
        have hS := hS.tr ((fr11_fail N hc_61).mono (wsub [1, 2] rfl))
        exact hS.tr (fr11_expression_46 N hk12 ih  σ_60 hf)
      · exact hS.tr (fr11_expression_46 N hk12 ih  σ_4 hf)
set_option maxHeartbeats 4000000 in
theorem fr11_expression_12 (N : Nat) {x1 : Int32} {σ0 : Mm} {u0 : Unit} : ∀ (fu : Nat) (x2 : Int32) (σ : Mm), f11_expression_12 N x1 fu x2 σ = some (u0, σ0) → Same (wr11_expression) σ σ0 := by
  intro fu
  induction fu with
  | zero =>
    intro x2 σ hf
    rw [f11_expression_12] at hf
    cases hf
  | succ fu ih =>
    intro x2 σ hf
    rw [f11_expression_12] at hf
    have hS : Same (wr11_expression) σ σ := Same.rf
    rcases z_if hf with hf | hf
    · obtain ⟨-, rfl⟩ := Prod.mk.inj (Option.some.inj hf)
      exact hS
    · rcases z_if hf with hf | hf
      · exact hS.tr (fr11_expression_23 N ih N  σ hf)
      · obtain ⟨-, rfl⟩ := Prod.mk.inj (Option.some.inj hf)
        exact hS
set_option maxHeartbeats 4000000 in
theorem fr11_expression (N : Nat) {σ σ0 : Mm} {u0 : Unit} (hf : f11_expression N σ = some (u0, σ0)) : Same (wr11_expression) σ σ0 := by
  unfold f11_expression at hf
  have hS : Same (wr11_expression) σ σ := Same.rf
  obtain ⟨σ_1, eσ_1, hf⟩ := z_l_x hf
  have hS := hS.tr (υ := σ_1) (by rw [eσ_1]; exact Same_sI (i := 0) rfl)
  obtain ⟨x1_2, ex1_2, hf⟩ := z_l_x hf
  exact hS.tr (fr11_expression_12 N  N (1 : Int32) σ_1 hf)
def wr11_term : Wr := [(191, 1, none), (192, 1, none), (160, 1, some 41), (160, 1, some 51), (160, 1, some 13), (160, 1, some 14), (193, 1, none), (194, 1, none), (160, 1, some 47), (160, 1, some 11), (195, 1, none), (160, 1, some 12)]
set_option maxHeartbeats 4000000 in
theorem fr11_term_24 (N : Nat) {σ0 : Mm} {u0 : Unit} : ∀ (σ : Mm), f11_term_24 N σ = some (u0, σ0) → Same (wr11_term) σ σ0 := by
  intro σ hf
  unfold f11_term_24 at hf
  have hS : Same (wr11_term) σ σ := Same.rf
  obtain ⟨-, hf⟩ := z_c_e hf
  obtain ⟨σ_2, eσ_2, hf⟩ := z_l_x hf
  have hS := hS.tr (υ := σ_2) (by rw [eσ_2]; exact Same_sIe (i := 1) rfl)
  obtain ⟨σ_3, eσ_3, hf⟩ := z_l_x hf
  have hS := hS.tr (υ := σ_3) (by rw [eσ_3]; exact Same_sI (i := 2) rfl)
  obtain ⟨-, rfl⟩ := Prod.mk.inj (Option.some.inj hf)
  exact hS
set_option maxHeartbeats 4000000 in
theorem fr11_term (N : Nat) {σ σ0 : Mm} {u0 : Unit} (hf : f11_term N σ = some (u0, σ0)) : Same (wr11_term) σ σ0 := by
  unfold f11_term at hf
  have hS : Same (wr11_term) σ σ := Same.rf
  obtain ⟨-, hf⟩ := z_c_e hf
  obtain ⟨σ_1, eσ_1, hf⟩ := z_l_x hf
  have hS := hS.tr (υ := σ_1) (by rw [eσ_1]; exact Same_sIe (i := 0) rfl)
  rcases z_if hf with hf | hf
  · obtain ⟨r_4, σ_5, hc_6, hf⟩ := z_b_e hf
    have hS := hS.tr ((fr11_expression N hc_6).mono (wsub [3, 4, 5, 6, 7, 8, 9, 10, 11] rfl))
    exact hS.tr (fr11_term_24 N   σ_5 hf)
  · exact hS.tr (fr11_term_24 N   σ_1 hf)
def wr11_tellLaw : Wr := [(160, 1, some 13), (160, 1, some 14), (160, 1, some 11), (188, 1, none), (191, 1, none), (192, 1, none), (160, 1, some 41), (160, 1, some 51), (193, 1, none), (194, 1, none), (160, 1, some 47), (195, 1, none), (160, 1, some 12), (186, 1, none), (187, 1, none), (189, 1, none), (190, 1, none)]
set_option maxHeartbeats 4000000 in
theorem fr11_tellLaw_129 (N : Nat) {σ0 : Mm} {u0 : Unit} : ∀ (x1 : Int32) (x2 : Int32) (σ : Mm), f11_tellLaw_129 N x1 x2 σ = some (u0, σ0) → Same (wr11_tellLaw) σ σ0 := by
  intro x1 x2 σ hf
  unfold f11_tellLaw_129 at hf
  have hS : Same (wr11_tellLaw) σ σ := Same.rf
  obtain ⟨-, hf⟩ := z_c_e hf
  obtain ⟨σ_5, eσ_5, hf⟩ := z_l_x hf
  have hS := hS.tr (υ := σ_5) (by rw [eσ_5]; exact Same_sIe (i := 3) rfl)
  obtain ⟨r_6, σ_7, hc_8, hf⟩ := z_b_e hf
  have hS := hS.tr ((fr11_term N hc_8).mono (wsub [4, 5, 6, 7, 0, 1, 8, 9, 10, 2, 11, 12] rfl))
  obtain ⟨r_9, σ_10, hc_11, hf⟩ := z_b_e hf
  have hS := hS.tr ((fr11_must N hc_11).mono (wsub [0, 1, 2] rfl))
  rcases z_if hf with hf | hf
  · obtain ⟨-, hf⟩ := z_c_e hf
    obtain ⟨σ_12, eσ_12, hf⟩ := z_l_x hf
    have hS := hS.tr (υ := σ_12) (by rw [eσ_12]; exact Same_sIe (i := 13) rfl)
    obtain ⟨-, hf⟩ := z_c_e hf
    obtain ⟨σ_13, eσ_13, hf⟩ := z_l_x hf
    have hS := hS.tr (υ := σ_13) (by rw [eσ_13]; exact Same_sIe (i := 14) rfl)
    obtain ⟨-, rfl⟩ := Prod.mk.inj (Option.some.inj hf)
    exact hS
  · obtain ⟨-, rfl⟩ := Prod.mk.inj (Option.some.inj hf)
    exact hS
set_option maxHeartbeats 4000000 in
theorem fr11_tellLaw_110 (N : Nat) {x1 : Int32} {x2 : Int32} {σ0 : Mm} {u0 : Unit} {k12 : Int32 → Mm → Option (Unit × Mm)} (hk12 : ∀ (x3 : Int32) (σ : Mm), k12 x3 σ = some (u0, σ0) → Same (wr11_tellLaw) σ σ0) : ∀ (x3 : Int32) (σ : Mm), f11_tellLaw_110 N k12 x1 x2 x3 σ = some (u0, σ0) → Same (wr11_tellLaw) σ σ0 := by
  intro x3 σ hf
  unfold f11_tellLaw_110 at hf
  have hS : Same (wr11_tellLaw) σ σ := Same.rf
  obtain ⟨r_30, σ_31, hc_32, hf⟩ := z_b_e hf
  have hS := hS.tr ((fr11_must N hc_32).mono (wsub [0, 1, 2] rfl))
  obtain ⟨r_33, σ_34, hc_35, hf⟩ := z_b_e hf
  have hS := hS.tr ((fr11_term N hc_35).mono (wsub [4, 5, 6, 7, 0, 1, 8, 9, 10, 2, 11, 12] rfl))
  obtain ⟨r_36, σ_37, hc_38, hf⟩ := z_b_e hf
  have hS := hS.tr ((fr11_must N hc_38).mono (wsub [0, 1, 2] rfl))
  exact hS.tr (hk12 x3 σ_37 hf)
set_option maxHeartbeats 4000000 in
theorem fr11_tellLaw_38 (N : Nat) {x1 : Int32} {x2 : Int32} {σ0 : Mm} {u0 : Unit} {k12 : Int32 → Mm → Option (Unit × Mm)} (hk12 : ∀ (x3 : Int32) (σ : Mm), k12 x3 σ = some (u0, σ0) → Same (wr11_tellLaw) σ σ0) : ∀ (x3 : Int32) (σ : Mm), f11_tellLaw_38 N k12 x1 x2 x3 σ = some (u0, σ0) → Same (wr11_tellLaw) σ σ0 := by
  intro x3 σ hf
  unfold f11_tellLaw_38 at hf
  have hS : Same (wr11_tellLaw) σ σ := Same.rf
  rcases z_if hf with hf | hf
  · obtain ⟨x3_17, ex3_17, hf⟩ := z_l_x hf
    obtain ⟨r_18, σ_19, hc_20, hf⟩ := z_b_e hf
    have hS := hS.tr ((fr11_goesOn N hc_20).mono (wsub [2, 0, 1] rfl))
    obtain ⟨-, hf⟩ := z_c_e hf
    obtain ⟨σ_21, eσ_21, hf⟩ := z_l_x hf
    have hS := hS.tr (υ := σ_21) (by rw [eσ_21]; exact Same_sIe (i := 3) rfl)
    obtain ⟨-, hf⟩ := z_c_e hf
    obtain ⟨σ_22, eσ_22, hf⟩ := z_l_x hf
    have hS := hS.tr (υ := σ_22) (by rw [eσ_22]; exact Same_sIe (i := 15) rfl)
    obtain ⟨r_23, σ_24, hc_25, hf⟩ := z_b_e hf
    have hS := hS.tr ((fr11_expression N hc_25).mono (wsub [7, 0, 1, 8, 9, 10, 2, 11, 12] rfl))
    obtain ⟨r_26, σ_27, hc_28, hf⟩ := z_b_e hf
    have hS := hS.tr ((fr11_must N hc_28).mono (wsub [0, 1, 2] rfl))
    obtain ⟨-, hf⟩ := z_c_e hf
    obtain ⟨σ_29, eσ_29, hf⟩ := z_l_x hf
    have hS := hS.tr (υ := σ_29) (by rw [eσ_29]; exact Same_sIe (i := 16) rfl)
    rcases z_if hf with hf | hf
    · obtain ⟨r_39, σ_40, hc_41, hf⟩ := z_b_e hf
      have hS := hS.tr ((fr11_expression N hc_41).mono (wsub [7, 0, 1, 8, 9, 10, 2, 11, 12] rfl))
      exact hS.tr (fr11_tellLaw_110 N hk12 x3_17 σ_40 hf)
    · exact hS.tr (fr11_tellLaw_110 N hk12 x3_17 σ_29 hf)
  · obtain ⟨-, rfl⟩ := Prod.mk.inj (Option.some.inj hf)
    exact hS
set_option maxHeartbeats 4000000 in
theorem fr11_tellLaw_12 (N : Nat) {x1 : Int32} {x2 : Int32} {σ0 : Mm} {u0 : Unit} : ∀ (fu : Nat) (x3 : Int32) (σ : Mm), f11_tellLaw_12 N x1 x2 fu x3 σ = some (u0, σ0) → Same (wr11_tellLaw) σ σ0 := by
  intro fu
  induction fu with
  | zero =>
    intro x3 σ hf
    rw [f11_tellLaw_12] at hf
    cases hf
  | succ fu ih =>
    intro x3 σ hf
    rw [f11_tellLaw_12] at hf
    have hS : Same (wr11_tellLaw) σ σ := Same.rf
    rcases z_if hf with hf | hf
    · obtain ⟨r_14, σ_15, hc_16, hf⟩ := z_b_e hf
      have hS := hS.tr (Same.nil (fr11_is N hc_16))
      rcases z_if hf with hf | hf
      · exact hS.tr (fr11_tellLaw_129 N  x1 x2 σ_15 hf)
      · rcases z_if hf with hf | hf
        · obtain ⟨r_42, σ_43, hc_44, hf⟩ := z_b_e hf
          have hS := hS.tr ((fr11_fail N hc_44).mono (wsub [0, 1] rfl))
          exact hS.tr (fr11_tellLaw_38 N ih x3 σ_43 hf)
        · exact hS.tr (fr11_tellLaw_38 N ih x3 σ_15 hf)
    · exact hS.tr (fr11_tellLaw_129 N  x1 x2 σ hf)
set_option maxHeartbeats 4000000 in
theorem fr11_tellLaw (N : Nat) {x1 : Int32} {σ σ0 : Mm} {u0 : Unit} (hf : f11_tellLaw N x1 σ = some (u0, σ0)) : Same (wr11_tellLaw) σ σ0 := by
  unfold f11_tellLaw at hf
  have hS : Same (wr11_tellLaw) σ σ := Same.rf
  obtain ⟨r_1, σ_2, hc_3, hf⟩ := z_b_e hf
  have hS := hS.tr ((fr11_must N hc_3).mono (wsub [0, 1, 2] rfl))
  obtain ⟨x2_4, ex2_4, hf⟩ := z_l_x hf
  exact hS.tr (fr11_tellLaw_12 N  N (0 : Int32) σ_2 hf)
def wr11_tellOne : Wr := [(160, 1, some 11), (160, 1, some 13), (160, 1, some 14), (160, 1, some 15), (160, 1, some 16), (168, 1, none), (169, 1, none), (160, 1, some 20), (170, 1, none), (172, 1, none), (173, 1, none), (174, 1, none), (171, 1, none), (176, 1, none), (177, 1, none), (175, 1, none), (179, 1, none), (180, 1, none), (181, 1, none), (182, 1, none), (183, 1, none), (178, 1, none), (188, 1, none), (191, 1, none), (192, 1, none), (160, 1, some 41), (160, 1, some 51), (193, 1, none), (194, 1, none), (160, 1, some 47), (195, 1, none), (160, 1, some 12), (186, 1, none), (187, 1, none), (189, 1, none), (190, 1, none), (184, 1, none), (185, 1, none)]
set_option maxHeartbeats 4000000 in
theorem fr11_tellOne_288 (N : Nat) {σ0 : Mm} {u0 : Unit} : ∀ (x1 : Int32) (σ : Mm), f11_tellOne_288 N x1 σ = some (u0, σ0) → Same (wr11_tellOne) σ σ0 := by
  intro x1 σ hf
  unfold f11_tellOne_288 at hf
  have hS : Same (wr11_tellOne) σ σ := Same.rf
  rcases z_if hf with hf | hf
  · obtain ⟨r_41, σ_42, hc_43, hf⟩ := z_b_e hf
    have hS := hS.tr ((fr11_goesOn N hc_43).mono (wsub [0, 1, 2] rfl))
    obtain ⟨r_44, σ_45, hc_46, hf⟩ := z_b_e hf
    have hS := hS.tr ((fr11_tellLaw N hc_46).mono (wsub [1, 2, 0, 22, 23, 24, 25, 26, 27, 28, 29, 30, 31, 32, 33, 34, 35] rfl))
    obtain ⟨-, rfl⟩ := Prod.mk.inj (Option.some.inj hf)
    exact hS
  · obtain ⟨-, rfl⟩ := Prod.mk.inj (Option.some.inj hf)
    exact hS
set_option maxHeartbeats 4000000 in
theorem fr11_tellOne_283 (N : Nat) {σ0 : Mm} {u0 : Unit} : ∀ (x1 : Int32) (σ : Mm), f11_tellOne_283 N x1 σ = some (u0, σ0) → Same (wr11_tellOne) σ σ0 := by
  intro x1 σ hf
  unfold f11_tellOne_283 at hf
  have hS : Same (wr11_tellOne) σ σ := Same.rf
  obtain ⟨r_38, σ_39, hc_40, hf⟩ := z_b_e hf
  have hS := hS.tr ((fr11_fail N hc_40).mono (wsub [1, 2] rfl))
  exact hS.tr (fr11_tellOne_288 N  x1 σ_39 hf)
set_option maxHeartbeats 4000000 in
theorem fr11_tellOne_252 (N : Nat) {σ0 : Mm} {u0 : Unit} : ∀ (σ : Mm), f11_tellOne_252 N σ = some (u0, σ0) → Same (wr11_tellOne) σ σ0 := by
  intro σ hf
  unfold f11_tellOne_252 at hf
  have hS : Same (wr11_tellOne) σ σ := Same.rf
  obtain ⟨hi_36, hf⟩ := z_c_e hf
  obtain ⟨x1_37, ex1_37, hf⟩ := z_l_x hf
  rcases z_if hf with hf | hf
  · exact hS.tr (fr11_tellOne_283 N  x1_37 σ hf)
  · obtain ⟨hi_47, hf⟩ := z_c_e hf
    rcases z_if hf with hf | hf
    · exact hS.tr (fr11_tellOne_288 N  x1_37 σ hf)
    · exact hS.tr (fr11_tellOne_283 N  x1_37 σ hf)
set_option maxHeartbeats 4000000 in
theorem fr11_tellOne (N : Nat) {σ σ0 : Mm} {u0 : Unit} (hf : f11_tellOne N σ = some (u0, σ0)) : Same (wr11_tellOne) σ σ0 := by
  unfold f11_tellOne at hf
  have hS : Same (wr11_tellOne) σ σ := Same.rf
  obtain ⟨hi_1, hf⟩ := z_c_e hf
  rcases z_if hf with hf | hf
  · obtain ⟨hi_2, hf⟩ := z_c_e hf
    obtain ⟨r_3, σ_4, hc_5, hf⟩ := z_b_e hf
    have hS := hS.tr ((fr11_roomFor N hc_5).mono (wsub [0, 1, 2] rfl))
    rcases z_if hf with hf | hf
    · obtain ⟨r_6, σ_7, hc_8, hf⟩ := z_b_e hf
      have hS := hS.tr ((fr11_named N hc_8).mono (wsub [1, 2, 0, 3, 4] rfl))
      obtain ⟨hi_9, hf⟩ := z_c_e hf
      obtain ⟨r_10, σ_11, hc_12, hf⟩ := z_b_e hf
      have hS := hS.tr ((fr11_ends N hc_12).mono (wsub [1, 2, 0, 5, 6, 7] rfl))
      rcases z_if hf with hf | hf
      · obtain ⟨hi_13, hf⟩ := z_c_e hf
        obtain ⟨-, hf⟩ := z_c_e hf
        obtain ⟨σ_14, eσ_14, hf⟩ := z_l_x hf
        have hS := hS.tr (υ := σ_14) (by rw [eσ_14]; exact Same_sIe (i := 8) rfl)
        obtain ⟨-, rfl⟩ := Prod.mk.inj (Option.some.inj hf)
        exact hS
      · obtain ⟨-, rfl⟩ := Prod.mk.inj (Option.some.inj hf)
        exact hS
    · obtain ⟨-, rfl⟩ := Prod.mk.inj (Option.some.inj hf)
      exact hS
  rcases z_if hf with hf | hf
  · obtain ⟨hi_15, hf⟩ := z_c_e hf
    obtain ⟨r_16, σ_17, hc_18, hf⟩ := z_b_e hf
    have hS := hS.tr ((fr11_roomFor N hc_18).mono (wsub [0, 1, 2] rfl))
    rcases z_if hf with hf | hf
    · obtain ⟨r_19, σ_20, hc_21, hf⟩ := z_b_e hf
      have hS := hS.tr ((fr11_tellPlot N hc_21).mono (wsub [1, 2, 0, 3, 4, 9, 10, 11, 5, 6, 7, 12] rfl))
      obtain ⟨-, rfl⟩ := Prod.mk.inj (Option.some.inj hf)
      exact hS
    · obtain ⟨-, rfl⟩ := Prod.mk.inj (Option.some.inj hf)
      exact hS
  rcases z_if hf with hf | hf
  · obtain ⟨hi_22, hf⟩ := z_c_e hf
    obtain ⟨r_23, σ_24, hc_25, hf⟩ := z_b_e hf
    have hS := hS.tr ((fr11_roomFor N hc_25).mono (wsub [0, 1, 2] rfl))
    rcases z_if hf with hf | hf
    · obtain ⟨r_26, σ_27, hc_28, hf⟩ := z_b_e hf
      have hS := hS.tr ((fr11_tellWitness N hc_28).mono (wsub [1, 2, 0, 3, 4, 13, 14, 5, 6, 7, 15] rfl))
      obtain ⟨-, rfl⟩ := Prod.mk.inj (Option.some.inj hf)
      exact hS
    · obtain ⟨-, rfl⟩ := Prod.mk.inj (Option.some.inj hf)
      exact hS
  rcases z_if hf with hf | hf
  · obtain ⟨hi_29, hf⟩ := z_c_e hf
    obtain ⟨r_30, σ_31, hc_32, hf⟩ := z_b_e hf
    have hS := hS.tr ((fr11_roomFor N hc_32).mono (wsub [0, 1, 2] rfl))
    rcases z_if hf with hf | hf
    · obtain ⟨r_33, σ_34, hc_35, hf⟩ := z_b_e hf
      have hS := hS.tr ((fr11_tellGiving N hc_35).mono (wsub [1, 2, 0, 3, 4, 16, 17, 18, 19, 20, 21] rfl))
      obtain ⟨-, rfl⟩ := Prod.mk.inj (Option.some.inj hf)
      exact hS
    · obtain ⟨-, rfl⟩ := Prod.mk.inj (Option.some.inj hf)
      exact hS
  rcases z_if hf with hf | hf
  · exact hS.tr (fr11_tellOne_252 N   σ hf)
  rcases z_if hf with hf | hf
  · exact hS.tr (fr11_tellOne_252 N   σ hf)
  rcases z_if hf with hf | hf
  · exact hS.tr (fr11_tellOne_252 N   σ hf)
  rcases z_if hf with hf | hf
  · exact hS.tr (fr11_tellOne_252 N   σ hf)
  rcases z_if hf with hf | hf
  · obtain ⟨r_48, σ_49, hc_50, hf⟩ := z_b_e hf
    have hS := hS.tr ((fr11_toldInt N hc_50).mono (wsub [0, 1, 2, 3, 4] rfl))
    obtain ⟨-, hf⟩ := z_c_e hf
    obtain ⟨σ_51, eσ_51, hf⟩ := z_l_x hf
    have hS := hS.tr (υ := σ_51) (by rw [eσ_51]; exact Same_sIe (i := 36) rfl)
    obtain ⟨-, rfl⟩ := Prod.mk.inj (Option.some.inj hf)
    exact hS
  rcases z_if hf with hf | hf
  · obtain ⟨r_52, σ_53, hc_54, hf⟩ := z_b_e hf
    have hS := hS.tr ((fr11_toldInt N hc_54).mono (wsub [0, 1, 2, 3, 4] rfl))
    obtain ⟨-, hf⟩ := z_c_e hf
    obtain ⟨σ_55, eσ_55, hf⟩ := z_l_x hf
    have hS := hS.tr (υ := σ_55) (by rw [eσ_55]; exact Same_sIe (i := 37) rfl)
    obtain ⟨-, rfl⟩ := Prod.mk.inj (Option.some.inj hf)
    exact hS
  exact hS.tr (fr11_tellOne_252 N   σ hf)
def wr11_begins : Wr := [(199, 1, some 15), (160, 1, some 57), (160, 1, some 58), (160, 1, some 59), (199, 1, none)]
set_option maxHeartbeats 4000000 in
theorem fr11_begins_225 (N : Nat) {σ0 : Mm} {u0 : Unit} : ∀ (σ : Mm), f11_begins_225 N σ = some (u0, σ0) → Same (wr11_begins) σ σ0 := by
  intro σ hf
  unfold f11_begins_225 at hf
  have hS : Same (wr11_begins) σ σ := Same.rf
  obtain ⟨hi_5, hf⟩ := z_c_e hf
  obtain ⟨σ_6, eσ_6, hf⟩ := z_l_x hf
  have hS := hS.tr (υ := σ_6) (by rw [eσ_6]; exact Same_sI (i := 1) rfl)
  obtain ⟨σ_7, eσ_7, hf⟩ := z_l_x hf
  have hS := hS.tr (υ := σ_7) (by rw [eσ_7]; exact Same_sI (i := 2) rfl)
  obtain ⟨σ_8, eσ_8, hf⟩ := z_l_x hf
  have hS := hS.tr (υ := σ_8) (by rw [eσ_8]; exact Same_sI (i := 3) rfl)
  obtain ⟨-, rfl⟩ := Prod.mk.inj (Option.some.inj hf)
  exact hS
set_option maxHeartbeats 4000000 in
theorem fr11_begins_90 (N : Nat) {σ0 : Mm} {u0 : Unit} : ∀ (fu : Nat) (x1 : Int32) (σ : Mm), f11_begins_90 N fu x1 σ = some (u0, σ0) → Same (wr11_begins) σ σ0 := by
  intro fu
  induction fu with
  | zero =>
    intro x1 σ hf
    rw [f11_begins_90] at hf
    cases hf
  | succ fu ih =>
    intro x1 σ hf
    rw [f11_begins_90] at hf
    have hS : Same (wr11_begins) σ σ := Same.rf
    obtain ⟨hi_4, hf⟩ := z_c_e hf
    rcases z_if hf with hf | hf
    · exact hS.tr (fr11_begins_225 N   σ hf)
    · obtain ⟨hi_9, hf⟩ := z_c_e hf
      obtain ⟨-, hf⟩ := z_c_e hf
      obtain ⟨σ_10, eσ_10, hf⟩ := z_l_x hf
      have hS := hS.tr (υ := σ_10) (by rw [eσ_10]; exact Same_sIe (i := 4) rfl)
      obtain ⟨hi_11, hf⟩ := z_c_e hf
      obtain ⟨-, hf⟩ := z_c_e hf
      obtain ⟨σ_12, eσ_12, hf⟩ := z_l_x hf
      have hS := hS.tr (υ := σ_12) (by rw [eσ_12]; exact Same_sIe (i := 4) rfl)
      obtain ⟨hi_13, hf⟩ := z_c_e hf
      obtain ⟨-, hf⟩ := z_c_e hf
      obtain ⟨σ_14, eσ_14, hf⟩ := z_l_x hf
      have hS := hS.tr (υ := σ_14) (by rw [eσ_14]; exact Same_sIe (i := 4) rfl)
      obtain ⟨hi_15, hf⟩ := z_c_e hf
      obtain ⟨-, hf⟩ := z_c_e hf
      obtain ⟨σ_16, eσ_16, hf⟩ := z_l_x hf
      have hS := hS.tr (υ := σ_16) (by rw [eσ_16]; exact Same_sIe (i := 4) rfl)
      obtain ⟨hi_17, hf⟩ := z_c_e hf
      obtain ⟨-, hf⟩ := z_c_e hf
      obtain ⟨σ_18, eσ_18, hf⟩ := z_l_x hf
      have hS := hS.tr (υ := σ_18) (by rw [eσ_18]; exact Same_sIe (i := 4) rfl)
      obtain ⟨x1_19, ex1_19, hf⟩ := z_l_x hf
      exact hS.tr (ih x1_19 σ_18 hf)
set_option maxHeartbeats 4000000 in
theorem fr11_begins_72 (N : Nat) {σ0 : Mm} {u0 : Unit} : ∀ (σ : Mm), f11_begins_72 N σ = some (u0, σ0) → Same (wr11_begins) σ σ0 := by
  intro σ hf
  unfold f11_begins_72 at hf
  have hS : Same (wr11_begins) σ σ := Same.rf
  obtain ⟨hi_2, hf⟩ := z_c_e hf
  obtain ⟨-, hf⟩ := z_c_e hf
  obtain ⟨σ_3, eσ_3, hf⟩ := z_l_x hf
  have hS := hS.tr (υ := σ_3) (by rw [eσ_3]; exact Same_sI (i := 0) rfl)
  exact hS.tr (fr11_begins_90 N  N (0 : Int32) σ_3 hf)
set_option maxHeartbeats 4000000 in
theorem fr11_begins_23 (N : Nat) {σ0 : Mm} {u0 : Unit} : ∀ (fu : Nat) (x1 : Int32) (σ : Mm), f11_begins_23 N fu x1 σ = some (u0, σ0) → Same (wr11_begins) σ σ0 := by
  intro fu
  induction fu with
  | zero =>
    intro x1 σ hf
    rw [f11_begins_23] at hf
    cases hf
  | succ fu ih =>
    intro x1 σ hf
    rw [f11_begins_23] at hf
    have hS : Same (wr11_begins) σ σ := Same.rf
    obtain ⟨hi_1, hf⟩ := z_c_e hf
    rcases z_if hf with hf | hf
    · exact hS.tr (fr11_begins_72 N   σ hf)
    · obtain ⟨hi_20, hf⟩ := z_c_e hf
      obtain ⟨-, hf⟩ := z_c_e hf
      obtain ⟨σ_21, eσ_21, hf⟩ := z_l_x hf
      have hS := hS.tr (υ := σ_21) (by rw [eσ_21]; exact Same_sIe (i := 4) rfl)
      obtain ⟨-, hf⟩ := z_c_e hf
      obtain ⟨σ_22, eσ_22, hf⟩ := z_l_x hf
      have hS := hS.tr (υ := σ_22) (by rw [eσ_22]; exact Same_sIe (i := 4) rfl)
      obtain ⟨x1_23, ex1_23, hf⟩ := z_l_x hf
      exact hS.tr (ih x1_23 σ_22 hf)
set_option maxHeartbeats 4000000 in
theorem fr11_begins_21 (N : Nat) {σ0 : Mm} {u0 : Unit} : ∀ (σ : Mm), f11_begins_21 N σ = some (u0, σ0) → Same (wr11_begins) σ σ0 := by
  intro σ hf
  unfold f11_begins_21 at hf
  have hS : Same (wr11_begins) σ σ := Same.rf
  exact hS.tr (fr11_begins_23 N  N (0 : Int32) σ hf)
set_option maxHeartbeats 4000000 in
theorem fr11_begins_2 (N : Nat) {σ0 : Mm} {u0 : Unit} : ∀ (fu : Nat) (x1 : Int32) (σ : Mm), f11_begins_2 N fu x1 σ = some (u0, σ0) → Same (wr11_begins) σ σ0 := by
  intro fu
  induction fu with
  | zero =>
    intro x1 σ hf
    rw [f11_begins_2] at hf
    cases hf
  | succ fu ih =>
    intro x1 σ hf
    rw [f11_begins_2] at hf
    have hS : Same (wr11_begins) σ σ := Same.rf
    rcases z_if hf with hf | hf
    · exact hS.tr (fr11_begins_21 N   σ hf)
    · obtain ⟨-, hf⟩ := z_c_e hf
      obtain ⟨σ_24, eσ_24, hf⟩ := z_l_x hf
      have hS := hS.tr (υ := σ_24) (by rw [eσ_24]; exact Same_sIe (i := 4) rfl)
      obtain ⟨x1_25, ex1_25, hf⟩ := z_l_x hf
      exact hS.tr (ih x1_25 σ_24 hf)
set_option maxHeartbeats 4000000 in
theorem fr11_begins (N : Nat) {σ σ0 : Mm} {u0 : Unit} (hf : f11_begins N σ = some (u0, σ0)) : Same (wr11_begins) σ σ0 := by
  unfold f11_begins at hf
  have hS : Same (wr11_begins) σ σ := Same.rf
  exact hS.tr (fr11_begins_2 N  N (0 : Int32) σ hf)
def wr11_keepsRow : Wr := [(198, 1, none)]
set_option maxHeartbeats 4000000 in
theorem fr11_keepsRow_2 (N : Nat) {σ0 : Mm} {u0 : Unit} : ∀ (fu : Nat) (x1 : Int32) (σ : Mm), f11_keepsRow_2 N fu x1 σ = some (u0, σ0) → Same (wr11_keepsRow) σ σ0 := by
  intro fu
  induction fu with
  | zero =>
    intro x1 σ hf
    rw [f11_keepsRow_2] at hf
    cases hf
  | succ fu ih =>
    intro x1 σ hf
    rw [f11_keepsRow_2] at hf
    have hS : Same (wr11_keepsRow) σ σ := Same.rf
    rcases z_if hf with hf | hf
    · obtain ⟨-, rfl⟩ := Prod.mk.inj (Option.some.inj hf)
      exact hS
    · obtain ⟨hi_1, hf⟩ := z_c_e hf
      obtain ⟨-, hf⟩ := z_c_e hf
      obtain ⟨σ_2, eσ_2, hf⟩ := z_l_x hf
      have hS := hS.tr (υ := σ_2) (by rw [eσ_2]; exact Same_sIe (i := 0) rfl)
      obtain ⟨x1_3, ex1_3, hf⟩ := z_l_x hf
      exact hS.tr (ih x1_3 σ_2 hf)
set_option maxHeartbeats 4000000 in
theorem fr11_keepsRow (N : Nat) {σ σ0 : Mm} {u0 : Unit} (hf : f11_keepsRow N σ = some (u0, σ0)) : Same (wr11_keepsRow) σ σ0 := by
  unfold f11_keepsRow at hf
  have hS : Same (wr11_keepsRow) σ σ := Same.rf
  exact hS.tr (fr11_keepsRow_2 N  N (0 : Int32) σ hf)
def wr11_read : Wr := [(160, 1, some 4), (160, 1, some 2), (160, 1, some 10), (163, 1, none), (164, 1, none), (165, 1, none), (166, 1, none), (160, 1, some 11), (160, 1, some 12), (160, 1, some 13), (160, 1, some 15), (160, 1, some 19), (160, 1, some 20), (170, 1, none), (171, 1, none), (175, 1, none), (178, 1, none), (184, 1, none), (185, 1, none), (186, 1, none), (187, 1, none), (160, 1, some 41), (160, 1, some 47), (160, 1, some 17), (160, 1, some 18), (199, 1, some 15), (160, 1, some 57), (160, 1, some 58), (160, 1, some 59), (199, 1, none), (198, 1, none), (160, 1, some 63), (160, 1, some 69), (210, 1, none), (160, 1, some 14), (160, 1, some 16), (168, 1, none), (169, 1, none), (172, 1, none), (173, 1, none), (174, 1, none), (176, 1, none), (177, 1, none), (179, 1, none), (180, 1, none), (181, 1, none), (182, 1, none), (183, 1, none), (188, 1, none), (191, 1, none), (192, 1, none), (160, 1, some 51), (193, 1, none), (194, 1, none), (195, 1, none), (189, 1, none), (190, 1, none), (162, 1, none)]
set_option maxHeartbeats 4000000 in
theorem fr11_read_219 (N : Nat) {σ0 : Mm} {r0 : Int32} : ∀ (fu : Nat) (x1 : Int32) (σ : Mm), f11_read_219 N fu x1 σ = some (r0, σ0) → Same (wr11_read) σ σ0 := by
  intro fu
  induction fu with
  | zero =>
    intro x1 σ hf
    rw [f11_read_219] at hf
    cases hf
  | succ fu ih =>
    intro x1 σ hf
    rw [f11_read_219] at hf
    have hS : Same (wr11_read) σ σ := Same.rf
    rcases z_if hf with hf | hf
    · obtain ⟨-, rfl⟩ := Prod.mk.inj (Option.some.inj hf)
      exact hS
    · obtain ⟨-, hf⟩ := z_c_e hf
      obtain ⟨σ_27, eσ_27, hf⟩ := z_l_x hf
      have hS := hS.tr (υ := σ_27) (by rw [eσ_27]; exact Same_sIe (i := 33) rfl)
      obtain ⟨x1_28, ex1_28, hf⟩ := z_l_x hf
      exact hS.tr (ih x1_28 σ_27 hf)
set_option maxHeartbeats 4000000 in
theorem fr11_read_164 (N : Nat) {σ0 : Mm} {r0 : Int32} : ∀ (s1 : Int32) (σ : Mm), f11_read_164 N s1 σ = some (r0, σ0) → Same (wr11_read) σ σ0 := by
  intro s1 σ hf
  unfold f11_read_164 at hf
  have hS : Same (wr11_read) σ σ := Same.rf
  obtain ⟨σ_17, eσ_17, hf⟩ := z_l_x hf
  have hS := hS.tr (υ := σ_17) (by rw [eσ_17]; exact Same_sI (i := 23) rfl)
  rcases z_if hf with hf | hf
  · rcases z_if hf with hf | hf
    · obtain ⟨σ_18, eσ_18, hf⟩ := z_l_x hf
      have hS := hS.tr (υ := σ_18) (by rw [eσ_18]; exact Same_sI (i := 24) rfl)
      obtain ⟨r_19, σ_20, hc_21, hf⟩ := z_b_e hf
      have hS := hS.tr ((fr11_begins N hc_21).mono (wsub [25, 26, 27, 28, 29] rfl))
      obtain ⟨r_22, σ_23, hc_24, hf⟩ := z_b_e hf
      have hS := hS.tr ((fr11_keepsRow N hc_24).mono (wsub [30] rfl))
      obtain ⟨σ_25, eσ_25, hf⟩ := z_l_x hf
      have hS := hS.tr (υ := σ_25) (by rw [eσ_25]; exact Same_sI (i := 31) rfl)
      obtain ⟨σ_26, eσ_26, hf⟩ := z_l_x hf
      have hS := hS.tr (υ := σ_26) (by rw [eσ_26]; exact Same_sI (i := 32) rfl)
      exact hS.tr (fr11_read_219 N  N (0 : Int32) σ_26 hf)
    · obtain ⟨-, rfl⟩ := Prod.mk.inj (Option.some.inj hf)
      exact hS
  · obtain ⟨-, rfl⟩ := Prod.mk.inj (Option.some.inj hf)
    exact hS
set_option maxHeartbeats 4000000 in
theorem fr11_read_134 (N : Nat) {σ0 : Mm} {r0 : Int32} : ∀ (σ : Mm), f11_read_134 N σ = some (r0, σ0) → Same (wr11_read) σ σ0 := by
  intro σ hf
  unfold f11_read_134 at hf
  have hS : Same (wr11_read) σ σ := Same.rf
  rcases z_if hf with hf | hf
  · rcases z_if hf with hf | hf
    · exact hS.tr (fr11_read_164 N  (-1 : Int32) σ hf)
    · exact hS.tr (fr11_read_164 N  (gI σ 160 16) σ hf)
  · exact hS.tr (fr11_read_164 N  (gI σ 160 14) σ hf)
set_option maxHeartbeats 4000000 in
theorem fr11_read_112 (N : Nat) {σ0 : Mm} {r0 : Int32} : ∀ (fu : Nat) (σ : Mm), f11_read_112 N fu σ = some (r0, σ0) → Same (wr11_read) σ σ0 := by
  intro fu
  induction fu with
  | zero =>
    intro σ hf
    rw [f11_read_112] at hf
    cases hf
  | succ fu ih =>
    intro σ hf
    rw [f11_read_112] at hf
    have hS : Same (wr11_read) σ σ := Same.rf
    rcases z_if hf with hf | hf
    · obtain ⟨r_29, σ_30, hc_31, hf⟩ := z_b_e hf
      have hS := hS.tr (Same.nil (fr11_is N hc_31))
      rcases z_if hf with hf | hf
      · obtain ⟨r_32, σ_33, hc_34, hf⟩ := z_b_e hf
        have hS := hS.tr ((fr11_tellOne N hc_34).mono (wsub [7, 9, 34, 10, 35, 36, 37, 12, 13, 38, 39, 40, 14, 41, 42, 15, 43, 44, 45, 46, 47, 16, 48, 49, 50, 21, 51, 52, 53, 22, 54, 8, 19, 20, 55, 56, 17, 18] rfl))
        exact hS.tr (ih  σ_33 hf)
      · exact hS.tr (fr11_read_134 N   σ_30 hf)
    · exact hS.tr (fr11_read_134 N   σ hf)
set_option maxHeartbeats 4000000 in
theorem fr11_read_36 (N : Nat) {σ0 : Mm} {r0 : Int32} : ∀ (σ : Mm), f11_read_36 N σ = some (r0, σ0) → Same (wr11_read) σ σ0 := by
  intro σ hf
  unfold f11_read_36 at hf
  have hS : Same (wr11_read) σ σ := Same.rf
  obtain ⟨σ_2, eσ_2, hf⟩ := z_l_x hf
  have hS := hS.tr (υ := σ_2) (by rw [eσ_2]; exact Same_sI (i := 1) rfl)
  obtain ⟨r_3, σ_4, hc_5, hf⟩ := z_b_e hf
  have hS := hS.tr ((fr11_cut N hc_5).mono (wsub [2, 3, 4, 5, 6] rfl))
  obtain ⟨σ_6, eσ_6, hf⟩ := z_l_x hf
  have hS := hS.tr (υ := σ_6) (by rw [eσ_6]; exact Same_sI (i := 7) rfl)
  obtain ⟨σ_7, eσ_7, hf⟩ := z_l_x hf
  have hS := hS.tr (υ := σ_7) (by rw [eσ_7]; exact Same_sI (i := 8) rfl)
  obtain ⟨σ_8, eσ_8, hf⟩ := z_l_x hf
  have hS := hS.tr (υ := σ_8) (by rw [eσ_8]; exact Same_sI (i := 9) rfl)
  obtain ⟨σ_9, eσ_9, hf⟩ := z_l_x hf
  have hS := hS.tr (υ := σ_9) (by rw [eσ_9]; exact Same_sI (i := 10) rfl)
  obtain ⟨σ_10, eσ_10, hf⟩ := z_l_x hf
  have hS := hS.tr (υ := σ_10) (by rw [eσ_10]; exact Same_sI (i := 11) rfl)
  obtain ⟨σ_11, eσ_11, hf⟩ := z_l_x hf
  have hS := hS.tr (υ := σ_11) (by rw [eσ_11]; exact Same_sI (i := 12) rfl)
  obtain ⟨r_12, σ_13, hc_14, hf⟩ := z_b_e hf
  have hS := hS.tr ((fr11_plain N hc_14).mono (wsub [13, 14, 15, 16, 17, 18, 19, 20] rfl))
  obtain ⟨σ_15, eσ_15, hf⟩ := z_l_x hf
  have hS := hS.tr (υ := σ_15) (by rw [eσ_15]; exact Same_sI (i := 21) rfl)
  obtain ⟨σ_16, eσ_16, hf⟩ := z_l_x hf
  have hS := hS.tr (υ := σ_16) (by rw [eσ_16]; exact Same_sI (i := 22) rfl)
  exact hS.tr (fr11_read_112 N  N  σ_16 hf)
set_option maxHeartbeats 4000000 in
theorem fr11_read_10 (N : Nat) {σ0 : Mm} {r0 : Int32} : ∀ (fu : Nat) (x1 : Int32) (σ : Mm), f11_read_10 N fu x1 σ = some (r0, σ0) → Same (wr11_read) σ σ0 := by
  intro fu
  induction fu with
  | zero =>
    intro x1 σ hf
    rw [f11_read_10] at hf
    cases hf
  | succ fu ih =>
    intro x1 σ hf
    rw [f11_read_10] at hf
    have hS : Same (wr11_read) σ σ := Same.rf
    rcases z_if hf with hf | hf
    · exact hS.tr (fr11_read_36 N   σ hf)
    · obtain ⟨hi_35, hf⟩ := z_c_e hf
      obtain ⟨-, hf⟩ := z_c_e hf
      obtain ⟨σ_36, eσ_36, hf⟩ := z_l_x hf
      have hS := hS.tr (υ := σ_36) (by rw [eσ_36]; exact Same_sIe (i := 57) rfl)
      obtain ⟨x1_37, ex1_37, hf⟩ := z_l_x hf
      exact hS.tr (ih x1_37 σ_36 hf)
set_option maxHeartbeats 4000000 in
theorem fr11_read (N : Nat) {σ σ0 : Mm} {r0 : Int32} (hf : f11_read N σ = some (r0, σ0)) : Same (wr11_read) σ σ0 := by
  unfold f11_read at hf
  have hS : Same (wr11_read) σ σ := Same.rf
  obtain ⟨σ_1, eσ_1, hf⟩ := z_l_x hf
  have hS := hS.tr (υ := σ_1) (by rw [eσ_1]; exact Same_sI (i := 0) rfl)
  exact hS.tr (fr11_read_10 N  N (0 : Int32) σ_1 hf)
def wr11_place : Wr := []
set_option maxHeartbeats 4000000 in
theorem fr11_place (N : Nat) {σ σ0 : Mm} {r0 : Int32} (hf : f11_place N σ = some (r0, σ0)) : Same (wr11_place) σ σ0 := by
  unfold f11_place at hf
  have hS : Same (wr11_place) σ σ := Same.rf
  obtain ⟨-, rfl⟩ := Prod.mk.inj (Option.some.inj hf)
  exact hS
def wr11_termOf : Wr := [(197, 1, none), (160, 1, some 54)]
set_option maxHeartbeats 4000000 in
theorem fr11_termOf_159 (N : Nat) {x2 : Int32} {σ0 : Mm} {r0 : Int32} {k5 : Int32 → Int32 → Mm → Option (Int32 × Mm)} (hk5 : ∀ (x3 : Int32) (x4 : Int32) (σ : Mm), k5 x3 x4 σ = some (r0, σ0) → Same (wr11_termOf) σ σ0) : ∀ (x3 : Int32) (x4 : Int32) (σ : Mm), f11_termOf_159 N k5 x2 x3 x4 σ = some (r0, σ0) → Same (wr11_termOf) σ σ0 := by
  intro x3 x4 σ hf
  unfold f11_termOf_159 at hf
  have hS : Same (wr11_termOf) σ σ := Same.rf
  obtain ⟨x4_10, ex4_10, hf⟩ := z_l_x hf
  exact hS.tr (hk5 x3 x4_10 σ hf)
set_option maxHeartbeats 4000000 in
theorem fr11_termOf_158 (N : Nat) {x2 : Int32} {σ0 : Mm} {r0 : Int32} {k5 : Int32 → Int32 → Mm → Option (Int32 × Mm)} (hk5 : ∀ (x3 : Int32) (x4 : Int32) (σ : Mm), k5 x3 x4 σ = some (r0, σ0) → Same (wr11_termOf) σ σ0) : ∀ (x3 : Int32) (x4 : Int32) (s1 : Int32) (s2 : Int32) (σ : Mm), f11_termOf_158 N k5 x2 x3 x4 s1 s2 σ = some (r0, σ0) → Same (wr11_termOf) σ σ0 := by
  intro x3 x4 s1 s2 σ hf
  unfold f11_termOf_158 at hf
  have hS : Same (wr11_termOf) σ σ := Same.rf
  obtain ⟨-, hf⟩ := z_c_e hf
  obtain ⟨σ_9, eσ_9, hf⟩ := z_l_x hf
  have hS := hS.tr (υ := σ_9) (by rw [eσ_9]; exact Same_sIe (i := 0) rfl)
  exact hS.tr (fr11_termOf_159 N hk5 x3 x4 σ_9 hf)
set_option maxHeartbeats 4000000 in
theorem fr11_termOf_104 (N : Nat) {x2 : Int32} {σ0 : Mm} {r0 : Int32} {k5 : Int32 → Int32 → Mm → Option (Int32 × Mm)} (hk5 : ∀ (x3 : Int32) (x4 : Int32) (σ : Mm), k5 x3 x4 σ = some (r0, σ0) → Same (wr11_termOf) σ σ0) : ∀ (x3 : Int32) (x4 : Int32) (x5 : Int32) (x6 : Int32) (x7 : Int32) (σ : Mm), f11_termOf_104 N k5 x2 x3 x4 x5 x6 x7 σ = some (r0, σ0) → Same (wr11_termOf) σ σ0 := by
  intro x3 x4 x5 x6 x7 σ hf
  unfold f11_termOf_104 at hf
  have hS : Same (wr11_termOf) σ σ := Same.rf
  rcases z_if hf with hf | hf
  · exact hS.tr (fr11_termOf_158 N hk5 x3 x4 (x3 - (1 : Int32)) (x6 + x7) σ hf)
  · rcases z_if hf with hf | hf
    · exact hS.tr (fr11_termOf_158 N hk5 x3 x4 (x3 - (1 : Int32)) (x6 - x7) σ hf)
    · rcases z_if hf with hf | hf
      · exact hS.tr (fr11_termOf_158 N hk5 x3 x4 (x3 - (1 : Int32)) (x6 * x7) σ hf)
      · obtain ⟨-, hf⟩ := z_c_e hf
        exact hS.tr (fr11_termOf_158 N hk5 x3 x4 (x3 - (1 : Int32)) (x6 / x7) σ hf)
set_option maxHeartbeats 4000000 in
theorem fr11_termOf_97 (N : Nat) {σ0 : Mm} {r0 : Int32} : ∀ (σ : Mm), f11_termOf_97 N σ = some (r0, σ0) → Same (wr11_termOf) σ σ0 := by
  intro σ hf
  unfold f11_termOf_97 at hf
  have hS : Same (wr11_termOf) σ σ := Same.rf
  obtain ⟨σ_11, eσ_11, hf⟩ := z_l_x hf
  have hS := hS.tr (υ := σ_11) (by rw [eσ_11]; exact Same_sI (i := 1) rfl)
  obtain ⟨-, rfl⟩ := Prod.mk.inj (Option.some.inj hf)
  exact hS
set_option maxHeartbeats 4000000 in
theorem fr11_termOf_58 (N : Nat) {x2 : Int32} {σ0 : Mm} {r0 : Int32} {k5 : Int32 → Int32 → Mm → Option (Int32 × Mm)} (hk5 : ∀ (x3 : Int32) (x4 : Int32) (σ : Mm), k5 x3 x4 σ = some (r0, σ0) → Same (wr11_termOf) σ σ0) : ∀ (x3 : Int32) (x4 : Int32) (s1 : Int32) (s2 : Int32) (σ : Mm), f11_termOf_58 N k5 x2 x3 x4 s1 s2 σ = some (r0, σ0) → Same (wr11_termOf) σ σ0 := by
  intro x3 x4 s1 s2 σ hf
  unfold f11_termOf_58 at hf
  have hS : Same (wr11_termOf) σ σ := Same.rf
  obtain ⟨-, hf⟩ := z_c_e hf
  obtain ⟨σ_14, eσ_14, hf⟩ := z_l_x hf
  have hS := hS.tr (υ := σ_14) (by rw [eσ_14]; exact Same_sIe (i := 0) rfl)
  obtain ⟨x3_15, ex3_15, hf⟩ := z_l_x hf
  exact hS.tr (fr11_termOf_159 N hk5 x3_15 x4 σ_14 hf)
set_option maxHeartbeats 4000000 in
theorem fr11_termOf_5 (N : Nat) {x2 : Int32} {σ0 : Mm} {r0 : Int32} : ∀ (fu : Nat) (x3 : Int32) (x4 : Int32) (σ : Mm), f11_termOf_5 N x2 fu x3 x4 σ = some (r0, σ0) → Same (wr11_termOf) σ σ0 := by
  intro fu
  induction fu with
  | zero =>
    intro x3 x4 σ hf
    rw [f11_termOf_5] at hf
    cases hf
  | succ fu ih =>
    intro x3 x4 σ hf
    rw [f11_termOf_5] at hf
    have hS : Same (wr11_termOf) σ σ := Same.rf
    rcases z_if hf with hf | hf
    · obtain ⟨hi_1, hf⟩ := z_c_e hf
      obtain ⟨-, rfl⟩ := Prod.mk.inj (Option.some.inj hf)
      exact hS
    · obtain ⟨hi_2, hf⟩ := z_c_e hf
      obtain ⟨x5_3, ex5_3, hf⟩ := z_l_x hf
      rcases z_if hf with hf | hf
      · obtain ⟨x3_4, ex3_4, hf⟩ := z_l_x hf
        obtain ⟨hi_5, hf⟩ := z_c_e hf
        obtain ⟨x6_6, ex6_6, hf⟩ := z_l_x hf
        obtain ⟨hi_7, hf⟩ := z_c_e hf
        obtain ⟨x7_8, ex7_8, hf⟩ := z_l_x hf
        rcases z_if hf with hf | hf
        · rcases z_if hf with hf | hf
          · exact hS.tr (fr11_termOf_97 N   σ hf)
          · exact hS.tr (fr11_termOf_104 N ih x3_4 x4 x5_3 x6_6 x7_8 σ hf)
        · exact hS.tr (fr11_termOf_104 N ih x3_4 x4 x5_3 x6_6 x7_8 σ hf)
      · rcases z_if hf with hf | hf
        · obtain ⟨hi_16, hf⟩ := z_c_e hf
          exact hS.tr (fr11_termOf_58 N ih x3 x4 x3 (gI σ 194 (ix x4)) σ hf)
        · obtain ⟨hi_12, hf⟩ := z_c_e hf
          obtain ⟨hi_13, hf⟩ := z_c_e hf
          exact hS.tr (fr11_termOf_58 N ih x3 x4 x3 (gI σ 196 (ix (gI σ 194 (ix x4)))) σ hf)
set_option maxHeartbeats 4000000 in
theorem fr11_termOf (N : Nat) {x1 : Int32} {x2 : Int32} {σ σ0 : Mm} {r0 : Int32} (hf : f11_termOf N x1 x2 σ = some (r0, σ0)) : Same (wr11_termOf) σ σ0 := by
  unfold f11_termOf at hf
  have hS : Same (wr11_termOf) σ σ := Same.rf
  exact hS.tr (fr11_termOf_5 N  N (0 : Int32) x1 σ hf)
def wr11_in : Wr := []
set_option maxHeartbeats 4000000 in
theorem fr11_in (N : Nat) {x0 : Int32} {x1 : Int32} {x2 : Int32} {σ σ0 : Mm} {r0 : Int32} (hf : f11_in N x0 x1 x2 σ = some (r0, σ0)) : Same (wr11_in) σ σ0 := by
  unfold f11_in at hf
  have hS : Same (wr11_in) σ σ := Same.rf
  rcases z_if hf with hf | hf
  · obtain ⟨-, rfl⟩ := Prod.mk.inj (Option.some.inj hf)
    exact hS
  · rcases z_if hf with hf | hf
    · obtain ⟨-, rfl⟩ := Prod.mk.inj (Option.some.inj hf)
      exact hS
    · obtain ⟨-, rfl⟩ := Prod.mk.inj (Option.some.inj hf)
      exact hS
def wr11_held : Wr := []
set_option maxHeartbeats 4000000 in
theorem fr11_held (N : Nat) {x0 : Int32} {x1 : Int32} {x2 : Int32} {σ σ0 : Mm} {r0 : Int32} (hf : f11_held N x0 x1 x2 σ = some (r0, σ0)) : Same (wr11_held) σ σ0 := by
  unfold f11_held at hf
  have hS : Same (wr11_held) σ σ := Same.rf
  rcases z_if hf with hf | hf
  · rcases z_if hf with hf | hf
    · obtain ⟨-, rfl⟩ := Prod.mk.inj (Option.some.inj hf)
      exact hS
    · obtain ⟨-, rfl⟩ := Prod.mk.inj (Option.some.inj hf)
      exact hS
  · obtain ⟨-, rfl⟩ := Prod.mk.inj (Option.some.inj hf)
    exact hS
def wr11_bits : Wr := []
set_option maxHeartbeats 4000000 in
theorem fr11_bits_4 (N : Nat) {x0 : Int32} {σ0 : Mm} {r0 : Int32} : ∀ (fu : Nat) (x1 : Int32) (x2 : Int32) (σ : Mm), f11_bits_4 N x0 fu x1 x2 σ = some (r0, σ0) → Same (wr11_bits) σ σ0 := by
  intro fu
  induction fu with
  | zero =>
    intro x1 x2 σ hf
    rw [f11_bits_4] at hf
    cases hf
  | succ fu ih =>
    intro x1 x2 σ hf
    rw [f11_bits_4] at hf
    have hS : Same (wr11_bits) σ σ := Same.rf
    rcases z_if hf with hf | hf
    · obtain ⟨-, rfl⟩ := Prod.mk.inj (Option.some.inj hf)
      exact hS
    · obtain ⟨x1_1, ex1_1, hf⟩ := z_l_x hf
      obtain ⟨x2_2, ex2_2, hf⟩ := z_l_x hf
      exact hS.tr (ih x1_1 x2_2 σ hf)
set_option maxHeartbeats 4000000 in
theorem fr11_bits (N : Nat) {x0 : Int32} {σ σ0 : Mm} {r0 : Int32} (hf : f11_bits N x0 σ = some (r0, σ0)) : Same (wr11_bits) σ σ0 := by
  unfold f11_bits at hf
  have hS : Same (wr11_bits) σ σ := Same.rf
  exact hS.tr (fr11_bits_4 N  N (0 : Int32) (0 : Int32) σ hf)
def wr11_isPerson : Wr := []
set_option maxHeartbeats 4000000 in
theorem fr11_isPerson (N : Nat) {x1 : Int32} {σ σ0 : Mm} {r0 : Int32} (hf : f11_isPerson N x1 σ = some (r0, σ0)) : Same (wr11_isPerson) σ σ0 := by
  unfold f11_isPerson at hf
  have hS : Same (wr11_isPerson) σ σ := Same.rf
  obtain ⟨hi_1, hf⟩ := z_c_e hf
  obtain ⟨r_2, σ_3, hc_4, hf⟩ := z_b_e hf
  have hS := hS.tr (Same.nil (fr11_in N hc_4))
  obtain ⟨-, hf⟩ := z_c_e hf
  obtain ⟨-, rfl⟩ := Prod.mk.inj (Option.some.inj hf)
  exact hS
def wr11_isPlot : Wr := []
set_option maxHeartbeats 4000000 in
theorem fr11_isPlot (N : Nat) {x1 : Int32} {σ σ0 : Mm} {r0 : Int32} (hf : f11_isPlot N x1 σ = some (r0, σ0)) : Same (wr11_isPlot) σ σ0 := by
  unfold f11_isPlot at hf
  have hS : Same (wr11_isPlot) σ σ := Same.rf
  obtain ⟨hi_1, hf⟩ := z_c_e hf
  obtain ⟨r_2, σ_3, hc_4, hf⟩ := z_b_e hf
  have hS := hS.tr (Same.nil (fr11_in N hc_4))
  obtain ⟨-, hf⟩ := z_c_e hf
  obtain ⟨-, rfl⟩ := Prod.mk.inj (Option.some.inj hf)
  exact hS
def wr11_isWitness : Wr := []
set_option maxHeartbeats 4000000 in
theorem fr11_isWitness (N : Nat) {x1 : Int32} {σ σ0 : Mm} {r0 : Int32} (hf : f11_isWitness N x1 σ = some (r0, σ0)) : Same (wr11_isWitness) σ σ0 := by
  unfold f11_isWitness at hf
  have hS : Same (wr11_isWitness) σ σ := Same.rf
  obtain ⟨hi_1, hf⟩ := z_c_e hf
  obtain ⟨r_2, σ_3, hc_4, hf⟩ := z_b_e hf
  have hS := hS.tr (Same.nil (fr11_in N hc_4))
  obtain ⟨-, hf⟩ := z_c_e hf
  obtain ⟨-, rfl⟩ := Prod.mk.inj (Option.some.inj hf)
  exact hS
def wr11_isGiving : Wr := []
set_option maxHeartbeats 4000000 in
theorem fr11_isGiving (N : Nat) {x1 : Int32} {σ σ0 : Mm} {r0 : Int32} (hf : f11_isGiving N x1 σ = some (r0, σ0)) : Same (wr11_isGiving) σ σ0 := by
  unfold f11_isGiving at hf
  have hS : Same (wr11_isGiving) σ σ := Same.rf
  obtain ⟨hi_1, hf⟩ := z_c_e hf
  obtain ⟨r_2, σ_3, hc_4, hf⟩ := z_b_e hf
  have hS := hS.tr (Same.nil (fr11_in N hc_4))
  obtain ⟨-, hf⟩ := z_c_e hf
  obtain ⟨-, rfl⟩ := Prod.mk.inj (Option.some.inj hf)
  exact hS
def wr11_copies : Wr := [(160, 1, some 57), (160, 1, some 58), (160, 1, some 59), (199, 1, none)]
set_option maxHeartbeats 4000000 in
theorem fr11_copies_26 (N : Nat) {σ0 : Mm} {u0 : Unit} : ∀ (σ : Mm), f11_copies_26 N σ = some (u0, σ0) → Same (wr11_copies) σ σ0 := by
  intro σ hf
  unfold f11_copies_26 at hf
  have hS : Same (wr11_copies) σ σ := Same.rf
  obtain ⟨hi_1, hf⟩ := z_c_e hf
  obtain ⟨σ_2, eσ_2, hf⟩ := z_l_x hf
  have hS := hS.tr (υ := σ_2) (by rw [eσ_2]; exact Same_sI (i := 0) rfl)
  obtain ⟨σ_3, eσ_3, hf⟩ := z_l_x hf
  have hS := hS.tr (υ := σ_3) (by rw [eσ_3]; exact Same_sI (i := 1) rfl)
  obtain ⟨σ_4, eσ_4, hf⟩ := z_l_x hf
  have hS := hS.tr (υ := σ_4) (by rw [eσ_4]; exact Same_sI (i := 2) rfl)
  obtain ⟨-, rfl⟩ := Prod.mk.inj (Option.some.inj hf)
  exact hS
set_option maxHeartbeats 4000000 in
theorem fr11_copies_2 (N : Nat) {σ0 : Mm} {u0 : Unit} : ∀ (fu : Nat) (x1 : Int32) (σ : Mm), f11_copies_2 N fu x1 σ = some (u0, σ0) → Same (wr11_copies) σ σ0 := by
  intro fu
  induction fu with
  | zero =>
    intro x1 σ hf
    rw [f11_copies_2] at hf
    cases hf
  | succ fu ih =>
    intro x1 σ hf
    rw [f11_copies_2] at hf
    have hS : Same (wr11_copies) σ σ := Same.rf
    rcases z_if hf with hf | hf
    · exact hS.tr (fr11_copies_26 N   σ hf)
    · obtain ⟨hi_5, hf⟩ := z_c_e hf
      obtain ⟨-, hf⟩ := z_c_e hf
      obtain ⟨σ_6, eσ_6, hf⟩ := z_l_x hf
      have hS := hS.tr (υ := σ_6) (by rw [eσ_6]; exact Same_sIe (i := 3) rfl)
      obtain ⟨x1_7, ex1_7, hf⟩ := z_l_x hf
      exact hS.tr (ih x1_7 σ_6 hf)
set_option maxHeartbeats 4000000 in
theorem fr11_copies (N : Nat) {σ σ0 : Mm} {u0 : Unit} (hf : f11_copies N σ = some (u0, σ0)) : Same (wr11_copies) σ σ0 := by
  unfold f11_copies at hf
  have hS : Same (wr11_copies) σ σ := Same.rf
  exact hS.tr (fr11_copies_2 N  N (0 : Int32) σ hf)
def wr11_mixed : Wr := []
set_option maxHeartbeats 4000000 in
theorem fr11_mixed (N : Nat) {x0 : Int32} {x1 : Int32} {σ σ0 : Mm} {r0 : Int32} (hf : f11_mixed N x0 x1 σ = some (r0, σ0)) : Same (wr11_mixed) σ σ0 := by
  unfold f11_mixed at hf
  have hS : Same (wr11_mixed) σ σ := Same.rf
  obtain ⟨x2_1, ex2_1, hf⟩ := z_l_x hf
  obtain ⟨-, rfl⟩ := Prod.mk.inj (Option.some.inj hf)
  exact hS
def wr11_lotOf : Wr := []
set_option maxHeartbeats 4000000 in
theorem fr11_lotOf (N : Nat) {x1 : Int32} {σ σ0 : Mm} {r0 : Int32} (hf : f11_lotOf N x1 σ = some (r0, σ0)) : Same (wr11_lotOf) σ σ0 := by
  unfold f11_lotOf at hf
  have hS : Same (wr11_lotOf) σ σ := Same.rf
  obtain ⟨r_1, σ_2, hc_3, hf⟩ := z_b_e hf
  have hS := hS.tr (Same.nil (fr11_mixed N hc_3))
  obtain ⟨r_4, σ_5, hc_6, hf⟩ := z_b_e hf
  have hS := hS.tr (Same.nil (fr11_mixed N hc_6))
  obtain ⟨-, rfl⟩ := Prod.mk.inj (Option.some.inj hf)
  exact hS
def wr11_looks : Wr := [(196, 1, some 3), (196, 1, none)]
set_option maxHeartbeats 4000000 in
theorem fr11_looks_21 (N : Nat) {σ0 : Mm} {u0 : Unit} : ∀ (σ : Mm), f11_looks_21 N σ = some (u0, σ0) → Same (wr11_looks) σ σ0 := by
  intro σ hf
  unfold f11_looks_21 at hf
  have hS : Same (wr11_looks) σ σ := Same.rf
  obtain ⟨hi_1, hf⟩ := z_c_e hf
  obtain ⟨-, hf⟩ := z_c_e hf
  obtain ⟨σ_2, eσ_2, hf⟩ := z_l_x hf
  have hS := hS.tr (υ := σ_2) (by rw [eσ_2]; exact Same_sI (i := 0) rfl)
  obtain ⟨-, rfl⟩ := Prod.mk.inj (Option.some.inj hf)
  exact hS
set_option maxHeartbeats 4000000 in
theorem fr11_looks_2 (N : Nat) {σ0 : Mm} {u0 : Unit} : ∀ (fu : Nat) (x1 : Int32) (σ : Mm), f11_looks_2 N fu x1 σ = some (u0, σ0) → Same (wr11_looks) σ σ0 := by
  intro fu
  induction fu with
  | zero =>
    intro x1 σ hf
    rw [f11_looks_2] at hf
    cases hf
  | succ fu ih =>
    intro x1 σ hf
    rw [f11_looks_2] at hf
    have hS : Same (wr11_looks) σ σ := Same.rf
    rcases z_if hf with hf | hf
    · exact hS.tr (fr11_looks_21 N   σ hf)
    · obtain ⟨-, hf⟩ := z_c_e hf
      obtain ⟨σ_3, eσ_3, hf⟩ := z_l_x hf
      have hS := hS.tr (υ := σ_3) (by rw [eσ_3]; exact Same_sIe (i := 1) rfl)
      obtain ⟨x1_4, ex1_4, hf⟩ := z_l_x hf
      exact hS.tr (ih x1_4 σ_3 hf)
set_option maxHeartbeats 4000000 in
theorem fr11_looks (N : Nat) {σ σ0 : Mm} {u0 : Unit} (hf : f11_looks N σ = some (u0, σ0)) : Same (wr11_looks) σ σ0 := by
  unfold f11_looks at hf
  have hS : Same (wr11_looks) σ σ := Same.rf
  exact hS.tr (fr11_looks_2 N  N (0 : Int32) σ hf)
def wr11_lawTells : Wr := [(160, 1, some 54), (197, 1, none)]
set_option maxHeartbeats 4000000 in
theorem fr11_lawTells_119 (N : Nat) {σ0 : Mm} {r0 : Int32} : ∀ (x4 : Int32) (σ : Mm), f11_lawTells_119 N x4 σ = some (r0, σ0) → Same (wr11_lawTells) σ σ0 := by
  intro x4 σ hf
  unfold f11_lawTells_119 at hf
  have hS : Same (wr11_lawTells) σ σ := Same.rf
  obtain ⟨hi_9, hf⟩ := z_c_e hf
  obtain ⟨hi_10, hf⟩ := z_c_e hf
  obtain ⟨r_11, σ_12, hc_13, hf⟩ := z_b_e hf
  have hS := hS.tr ((fr11_termOf N hc_13).mono (wsub [1, 0] rfl))
  rcases z_if hf with hf | hf
  · obtain ⟨-, rfl⟩ := Prod.mk.inj (Option.some.inj hf)
    exact hS
  · obtain ⟨-, rfl⟩ := Prod.mk.inj (Option.some.inj hf)
    exact hS
set_option maxHeartbeats 4000000 in
theorem fr11_lawTells_39 (N : Nat) {x3 : Int32} {σ0 : Mm} {r0 : Int32} : ∀ (fu : Nat) (x4 : Int32) (σ : Mm), f11_lawTells_39 N x3 fu x4 σ = some (r0, σ0) → Same (wr11_lawTells) σ σ0 := by
  intro fu
  induction fu with
  | zero =>
    intro x4 σ hf
    rw [f11_lawTells_39] at hf
    cases hf
  | succ fu ih =>
    intro x4 σ hf
    rw [f11_lawTells_39] at hf
    have hS : Same (wr11_lawTells) σ σ := Same.rf
    obtain ⟨hi_7, hf⟩ := z_c_e hf
    rcases z_if hf with hf | hf
    · obtain ⟨-, rfl⟩ := Prod.mk.inj (Option.some.inj hf)
      exact hS
    · obtain ⟨hi_8, hf⟩ := z_c_e hf
      rcases z_if hf with hf | hf
      · exact hS.tr (fr11_lawTells_119 N  x4 σ hf)
      · obtain ⟨hi_14, hf⟩ := z_c_e hf
        obtain ⟨hi_15, hf⟩ := z_c_e hf
        obtain ⟨r_16, σ_17, hc_18, hf⟩ := z_b_e hf
        have hS := hS.tr ((fr11_termOf N hc_18).mono (wsub [1, 0] rfl))
        obtain ⟨hi_19, hf⟩ := z_c_e hf
        obtain ⟨hi_20, hf⟩ := z_c_e hf
        obtain ⟨r_21, σ_22, hc_23, hf⟩ := z_b_e hf
        have hS := hS.tr ((fr11_termOf N hc_23).mono (wsub [1, 0] rfl))
        rcases z_if hf with hf | hf
        · rcases z_if hf with hf | hf
          · exact hS.tr (fr11_lawTells_119 N  x4 σ_22 hf)
          · obtain ⟨x4_24, ex4_24, hf⟩ := z_l_x hf
            exact hS.tr (ih x4_24 σ_22 hf)
        · obtain ⟨-, rfl⟩ := Prod.mk.inj (Option.some.inj hf)
          exact hS
set_option maxHeartbeats 4000000 in
theorem fr11_lawTells (N : Nat) {x1 : Int32} {x2 : Int32} {σ σ0 : Mm} {r0 : Int32} (hf : f11_lawTells N x1 x2 σ = some (r0, σ0)) : Same (wr11_lawTells) σ σ0 := by
  unfold f11_lawTells at hf
  have hS : Same (wr11_lawTells) σ σ := Same.rf
  obtain ⟨x3_1, ex3_1, hf⟩ := z_l_x hf
  obtain ⟨hi_2, hf⟩ := z_c_e hf
  obtain ⟨hi_3, hf⟩ := z_c_e hf
  rcases z_if hf with hf | hf
  · obtain ⟨-, rfl⟩ := Prod.mk.inj (Option.some.inj hf)
    exact hS
  · obtain ⟨σ_4, eσ_4, hf⟩ := z_l_x hf
    have hS := hS.tr (υ := σ_4) (by rw [eσ_4]; exact Same_sI (i := 0) rfl)
    obtain ⟨hi_5, hf⟩ := z_c_e hf
    obtain ⟨x4_6, ex4_6, hf⟩ := z_l_x hf
    exact hS.tr (fr11_lawTells_39 N  N x4_6 σ_4 hf)
def wr11_looksAt : Wr := [(196, 1, some 3), (196, 1, none), (196, 1, some 0), (196, 1, some 1), (196, 1, some 4)]
set_option maxHeartbeats 4000000 in
theorem fr11_looksAt (N : Nat) {x1 : Int32} {σ σ0 : Mm} {u0 : Unit} (hf : f11_looksAt N x1 σ = some (u0, σ0)) : Same (wr11_looksAt) σ σ0 := by
  unfold f11_looksAt at hf
  have hS : Same (wr11_looksAt) σ σ := Same.rf
  obtain ⟨r_1, σ_2, hc_3, hf⟩ := z_b_e hf
  have hS := hS.tr ((fr11_looks N hc_3).mono (wsub [0, 1] rfl))
  obtain ⟨hi_4, hf⟩ := z_c_e hf
  obtain ⟨-, hf⟩ := z_c_e hf
  obtain ⟨σ_5, eσ_5, hf⟩ := z_l_x hf
  have hS := hS.tr (υ := σ_5) (by rw [eσ_5]; exact Same_sI (i := 2) rfl)
  obtain ⟨hi_6, hf⟩ := z_c_e hf
  obtain ⟨-, hf⟩ := z_c_e hf
  obtain ⟨σ_7, eσ_7, hf⟩ := z_l_x hf
  have hS := hS.tr (υ := σ_7) (by rw [eσ_7]; exact Same_sI (i := 3) rfl)
  obtain ⟨-, hf⟩ := z_c_e hf
  obtain ⟨σ_8, eσ_8, hf⟩ := z_l_x hf
  have hS := hS.tr (υ := σ_8) (by rw [eσ_8]; exact Same_sI (i := 4) rfl)
  obtain ⟨-, rfl⟩ := Prod.mk.inj (Option.some.inj hf)
  exact hS
def wr11_doesSwear : Wr := [(196, 1, some 3), (196, 1, none), (196, 1, some 0), (196, 1, some 1), (196, 1, some 4), (196, 1, some 2), (196, 1, some 5), (160, 1, some 54), (197, 1, none)]
set_option maxHeartbeats 4000000 in
theorem fr11_doesSwear (N : Nat) {x1 : Int32} {x2 : Int32} {σ σ0 : Mm} {r0 : Int32} (hf : f11_doesSwear N x1 x2 σ = some (r0, σ0)) : Same (wr11_doesSwear) σ σ0 := by
  unfold f11_doesSwear at hf
  have hS : Same (wr11_doesSwear) σ σ := Same.rf
  obtain ⟨hi_1, hf⟩ := z_c_e hf
  rcases z_if hf with hf | hf
  · obtain ⟨-, rfl⟩ := Prod.mk.inj (Option.some.inj hf)
    exact hS
  · obtain ⟨hi_2, hf⟩ := z_c_e hf
    rcases z_if hf with hf | hf
    · obtain ⟨-, rfl⟩ := Prod.mk.inj (Option.some.inj hf)
      exact hS
    · obtain ⟨r_3, σ_4, hc_5, hf⟩ := z_b_e hf
      have hS := hS.tr ((fr11_looksAt N hc_5).mono (wsub [0, 1, 2, 3, 4] rfl))
      obtain ⟨hi_6, hf⟩ := z_c_e hf
      obtain ⟨hi_7, hf⟩ := z_c_e hf
      obtain ⟨-, hf⟩ := z_c_e hf
      obtain ⟨σ_8, eσ_8, hf⟩ := z_l_x hf
      have hS := hS.tr (υ := σ_8) (by rw [eσ_8]; exact Same_sI (i := 5) rfl)
      obtain ⟨hi_9, hf⟩ := z_c_e hf
      obtain ⟨r_10, σ_11, hc_12, hf⟩ := z_b_e hf
      have hS := hS.tr (Same.nil (fr11_bits N hc_12))
      obtain ⟨-, hf⟩ := z_c_e hf
      obtain ⟨σ_13, eσ_13, hf⟩ := z_l_x hf
      have hS := hS.tr (υ := σ_13) (by rw [eσ_13]; exact Same_sI (i := 6) rfl)
      obtain ⟨hi_14, hf⟩ := z_c_e hf
      obtain ⟨hi_15, hf⟩ := z_c_e hf
      obtain ⟨r_16, σ_17, hc_18, hf⟩ := z_b_e hf
      have hS := hS.tr ((fr11_lawTells N hc_18).mono (wsub [7, 8] rfl))
      rcases z_if hf with hf | hf
      · obtain ⟨-, rfl⟩ := Prod.mk.inj (Option.some.inj hf)
        exact hS
      · obtain ⟨-, rfl⟩ := Prod.mk.inj (Option.some.inj hf)
        exact hS
def wr11_diesNow : Wr := [(196, 1, some 3), (196, 1, none), (196, 1, some 0), (196, 1, some 1), (196, 1, some 4), (160, 1, some 54), (197, 1, none)]
set_option maxHeartbeats 4000000 in
theorem fr11_diesNow (N : Nat) {x1 : Int32} {σ σ0 : Mm} {r0 : Int32} (hf : f11_diesNow N x1 σ = some (r0, σ0)) : Same (wr11_diesNow) σ σ0 := by
  unfold f11_diesNow at hf
  have hS : Same (wr11_diesNow) σ σ := Same.rf
  obtain ⟨r_1, σ_2, hc_3, hf⟩ := z_b_e hf
  have hS := hS.tr ((fr11_looksAt N hc_3).mono (wsub [0, 1, 2, 3, 4] rfl))
  obtain ⟨r_4, σ_5, hc_6, hf⟩ := z_b_e hf
  have hS := hS.tr ((fr11_lawTells N hc_6).mono (wsub [5, 6] rfl))
  obtain ⟨r_7, σ_8, hc_9, hf⟩ := z_b_e hf
  have hS := hS.tr (Same.nil (fr11_held N hc_9))
  obtain ⟨-, rfl⟩ := Prod.mk.inj (Option.some.inj hf)
  exact hS
def wr11_off : Wr := []
set_option maxHeartbeats 4000000 in
theorem fr11_off (N : Nat) {x0 : Int32} {x1 : Int32} {σ σ0 : Mm} {r0 : Int32} (hf : f11_off N x0 x1 σ = some (r0, σ0)) : Same (wr11_off) σ σ0 := by
  unfold f11_off at hf
  have hS : Same (wr11_off) σ σ := Same.rf
  rcases z_if hf with hf | hf
  · obtain ⟨-, rfl⟩ := Prod.mk.inj (Option.some.inj hf)
    exact hS
  · obtain ⟨-, rfl⟩ := Prod.mk.inj (Option.some.inj hf)
    exact hS
def wr11_walksTo : Wr := [(196, 1, some 3), (196, 1, none), (196, 1, some 6), (196, 1, some 7), (196, 1, some 8), (160, 1, some 54), (197, 1, none)]
set_option maxHeartbeats 4000000 in
theorem fr11_walksTo (N : Nat) {x1 : Int32} {x2 : Int32} {σ σ0 : Mm} {r0 : Int32} (hf : f11_walksTo N x1 x2 σ = some (r0, σ0)) : Same (wr11_walksTo) σ σ0 := by
  unfold f11_walksTo at hf
  have hS : Same (wr11_walksTo) σ σ := Same.rf
  obtain ⟨x3_1, ex3_1, hf⟩ := z_l_x hf
  obtain ⟨r_2, σ_3, hc_4, hf⟩ := z_b_e hf
  have hS := hS.tr ((fr11_looks N hc_4).mono (wsub [0, 1] rfl))
  obtain ⟨hi_5, hf⟩ := z_c_e hf
  obtain ⟨hi_6, hf⟩ := z_c_e hf
  obtain ⟨r_7, σ_8, hc_9, hf⟩ := z_b_e hf
  have hS := hS.tr (Same.nil (fr11_off N hc_9))
  obtain ⟨hi_10, hf⟩ := z_c_e hf
  obtain ⟨hi_11, hf⟩ := z_c_e hf
  obtain ⟨r_12, σ_13, hc_14, hf⟩ := z_b_e hf
  have hS := hS.tr (Same.nil (fr11_off N hc_14))
  obtain ⟨-, hf⟩ := z_c_e hf
  obtain ⟨σ_15, eσ_15, hf⟩ := z_l_x hf
  have hS := hS.tr (υ := σ_15) (by rw [eσ_15]; exact Same_sI (i := 2) rfl)
  obtain ⟨hi_16, hf⟩ := z_c_e hf
  obtain ⟨-, hf⟩ := z_c_e hf
  obtain ⟨σ_17, eσ_17, hf⟩ := z_l_x hf
  have hS := hS.tr (υ := σ_17) (by rw [eσ_17]; exact Same_sI (i := 3) rfl)
  obtain ⟨hi_18, hf⟩ := z_c_e hf
  obtain ⟨-, hf⟩ := z_c_e hf
  obtain ⟨σ_19, eσ_19, hf⟩ := z_l_x hf
  have hS := hS.tr (υ := σ_19) (by rw [eσ_19]; exact Same_sI (i := 4) rfl)
  obtain ⟨hi_20, hf⟩ := z_c_e hf
  obtain ⟨r_21, σ_22, hc_23, hf⟩ := z_b_e hf
  have hS := hS.tr ((fr11_lawTells N hc_23).mono (wsub [5, 6] rfl))
  obtain ⟨r_24, σ_25, hc_26, hf⟩ := z_b_e hf
  have hS := hS.tr (Same.nil (fr11_held N hc_26))
  obtain ⟨-, rfl⟩ := Prod.mk.inj (Option.some.inj hf)
  exact hS
def wr11_asksAt : Wr := [(196, 1, some 3), (196, 1, none), (196, 1, some 7), (196, 1, some 8), (160, 1, some 54), (197, 1, none)]
set_option maxHeartbeats 4000000 in
theorem fr11_asksAt (N : Nat) {x1 : Int32} {σ σ0 : Mm} {r0 : Int32} (hf : f11_asksAt N x1 σ = some (r0, σ0)) : Same (wr11_asksAt) σ σ0 := by
  unfold f11_asksAt at hf
  have hS : Same (wr11_asksAt) σ σ := Same.rf
  obtain ⟨r_1, σ_2, hc_3, hf⟩ := z_b_e hf
  have hS := hS.tr ((fr11_looks N hc_3).mono (wsub [0, 1] rfl))
  obtain ⟨hi_4, hf⟩ := z_c_e hf
  obtain ⟨-, hf⟩ := z_c_e hf
  obtain ⟨σ_5, eσ_5, hf⟩ := z_l_x hf
  have hS := hS.tr (υ := σ_5) (by rw [eσ_5]; exact Same_sI (i := 2) rfl)
  obtain ⟨hi_6, hf⟩ := z_c_e hf
  obtain ⟨-, hf⟩ := z_c_e hf
  obtain ⟨σ_7, eσ_7, hf⟩ := z_l_x hf
  have hS := hS.tr (υ := σ_7) (by rw [eσ_7]; exact Same_sI (i := 3) rfl)
  obtain ⟨r_8, σ_9, hc_10, hf⟩ := z_b_e hf
  have hS := hS.tr ((fr11_lawTells N hc_10).mono (wsub [4, 5] rfl))
  obtain ⟨r_11, σ_12, hc_13, hf⟩ := z_b_e hf
  have hS := hS.tr (Same.nil (fr11_held N hc_13))
  obtain ⟨-, rfl⟩ := Prod.mk.inj (Option.some.inj hf)
  exact hS
def wr11_swearBits : Wr := [(196, 1, some 3), (196, 1, none), (196, 1, some 0), (196, 1, some 1), (196, 1, some 4), (196, 1, some 2), (196, 1, some 5), (160, 1, some 54), (197, 1, none)]
set_option maxHeartbeats 4000000 in
theorem fr11_swearBits_32 (N : Nat) {x1 : Int32} {σ0 : Mm} {r0 : Int32} {k4 : Int32 → Int32 → Mm → Option (Int32 × Mm)} (hk4 : ∀ (x2 : Int32) (x3 : Int32) (σ : Mm), k4 x2 x3 σ = some (r0, σ0) → Same (wr11_swearBits) σ σ0) : ∀ (x2 : Int32) (x3 : Int32) (σ : Mm), f11_swearBits_32 N k4 x1 x2 x3 σ = some (r0, σ0) → Same (wr11_swearBits) σ σ0 := by
  intro x2 x3 σ hf
  unfold f11_swearBits_32 at hf
  have hS : Same (wr11_swearBits) σ σ := Same.rf
  obtain ⟨x3_5, ex3_5, hf⟩ := z_l_x hf
  exact hS.tr (hk4 x2 x3_5 σ hf)
set_option maxHeartbeats 4000000 in
theorem fr11_swearBits_4 (N : Nat) {x1 : Int32} {σ0 : Mm} {r0 : Int32} : ∀ (fu : Nat) (x2 : Int32) (x3 : Int32) (σ : Mm), f11_swearBits_4 N x1 fu x2 x3 σ = some (r0, σ0) → Same (wr11_swearBits) σ σ0 := by
  intro fu
  induction fu with
  | zero =>
    intro x2 x3 σ hf
    rw [f11_swearBits_4] at hf
    cases hf
  | succ fu ih =>
    intro x2 x3 σ hf
    rw [f11_swearBits_4] at hf
    have hS : Same (wr11_swearBits) σ σ := Same.rf
    obtain ⟨hi_1, hf⟩ := z_c_e hf
    rcases z_if hf with hf | hf
    · obtain ⟨-, rfl⟩ := Prod.mk.inj (Option.some.inj hf)
      exact hS
    · obtain ⟨r_2, σ_3, hc_4, hf⟩ := z_b_e hf
      have hS := hS.tr ((fr11_doesSwear N hc_4).mono (wsub [0, 1, 2, 3, 4, 5, 6, 7, 8] rfl))
      rcases z_if hf with hf | hf
      · exact hS.tr (fr11_swearBits_32 N ih x2 x3 σ_3 hf)
      · obtain ⟨x2_6, ex2_6, hf⟩ := z_l_x hf
        exact hS.tr (fr11_swearBits_32 N ih x2_6 x3 σ_3 hf)
set_option maxHeartbeats 4000000 in
theorem fr11_swearBits (N : Nat) {x1 : Int32} {σ σ0 : Mm} {r0 : Int32} (hf : f11_swearBits N x1 σ = some (r0, σ0)) : Same (wr11_swearBits) σ σ0 := by
  unfold f11_swearBits at hf
  have hS : Same (wr11_swearBits) σ σ := Same.rf
  exact hS.tr (fr11_swearBits_4 N  N (0 : Int32) (0 : Int32) σ hf)
def wr11_doesStand : Wr := [(196, 1, some 3), (196, 1, none), (196, 1, some 0), (196, 1, some 1), (196, 1, some 4), (196, 1, some 2), (196, 1, some 5), (160, 1, some 54), (197, 1, none)]
set_option maxHeartbeats 4000000 in
theorem fr11_doesStand (N : Nat) {x1 : Int32} {σ σ0 : Mm} {r0 : Int32} (hf : f11_doesStand N x1 σ = some (r0, σ0)) : Same (wr11_doesStand) σ σ0 := by
  unfold f11_doesStand at hf
  have hS : Same (wr11_doesStand) σ σ := Same.rf
  obtain ⟨hi_1, hf⟩ := z_c_e hf
  rcases z_if hf with hf | hf
  · obtain ⟨-, rfl⟩ := Prod.mk.inj (Option.some.inj hf)
    exact hS
  · rcases z_if hf with hf | hf
    · obtain ⟨r_2, σ_3, hc_4, hf⟩ := z_b_e hf
      have hS := hS.tr ((fr11_swearBits N hc_4).mono (wsub [0, 1, 2, 3, 4, 5, 6, 7, 8] rfl))
      obtain ⟨r_5, σ_6, hc_7, hf⟩ := z_b_e hf
      have hS := hS.tr (Same.nil (fr11_bits N hc_7))
      obtain ⟨hi_8, hf⟩ := z_c_e hf
      rcases z_if hf with hf | hf
      · obtain ⟨-, rfl⟩ := Prod.mk.inj (Option.some.inj hf)
        exact hS
      · obtain ⟨-, rfl⟩ := Prod.mk.inj (Option.some.inj hf)
        exact hS
    · obtain ⟨-, rfl⟩ := Prod.mk.inj (Option.some.inj hf)
      exact hS
def wr11_fillsWhose : Wr := [(196, 1, some 3), (196, 1, none), (196, 1, some 0), (196, 1, some 1), (196, 1, some 4), (196, 1, some 2), (196, 1, some 5), (160, 1, some 54), (197, 1, none), (201, 1, none), (202, 1, none), (200, 1, none)]
set_option maxHeartbeats 4000000 in
theorem fr11_fillsWhose_137 (N : Nat) {σ0 : Mm} {u0 : Unit} {k43 : Int32 → Mm → Option (Unit × Mm)} (hk43 : ∀ (x1 : Int32) (σ : Mm), k43 x1 σ = some (u0, σ0) → Same (wr11_fillsWhose) σ σ0) : ∀ (x1 : Int32) (σ : Mm), f11_fillsWhose_137 N k43 x1 σ = some (u0, σ0) → Same (wr11_fillsWhose) σ σ0 := by
  intro x1 σ hf
  unfold f11_fillsWhose_137 at hf
  have hS : Same (wr11_fillsWhose) σ σ := Same.rf
  obtain ⟨x1_12, ex1_12, hf⟩ := z_l_x hf
  exact hS.tr (hk43 x1_12 σ hf)
set_option maxHeartbeats 4000000 in
theorem fr11_fillsWhose_112 (N : Nat) {σ0 : Mm} {u0 : Unit} {k43 : Int32 → Mm → Option (Unit × Mm)} (hk43 : ∀ (x1 : Int32) (σ : Mm), k43 x1 σ = some (u0, σ0) → Same (wr11_fillsWhose) σ σ0) : ∀ (x1 : Int32) (x2 : Int32) (s1 : Int32) (s2 : Int32) (σ : Mm), f11_fillsWhose_112 N k43 x1 x2 s1 s2 σ = some (u0, σ0) → Same (wr11_fillsWhose) σ σ0 := by
  intro x1 x2 s1 s2 σ hf
  unfold f11_fillsWhose_112 at hf
  have hS : Same (wr11_fillsWhose) σ σ := Same.rf
  obtain ⟨-, hf⟩ := z_c_e hf
  obtain ⟨σ_10, eσ_10, hf⟩ := z_l_x hf
  have hS := hS.tr (υ := σ_10) (by rw [eσ_10]; exact Same_sIe (i := 10) rfl)
  obtain ⟨hi_11, hf⟩ := z_c_e hf
  rcases z_if hf with hf | hf
  · exact hS.tr (fr11_fillsWhose_137 N hk43 x1 σ_10 hf)
  · obtain ⟨hi_13, hf⟩ := z_c_e hf
    obtain ⟨-, hf⟩ := z_c_e hf
    obtain ⟨σ_14, eσ_14, hf⟩ := z_l_x hf
    have hS := hS.tr (υ := σ_14) (by rw [eσ_14]; exact Same_sIe (i := 11) rfl)
    exact hS.tr (fr11_fillsWhose_137 N hk43 x1 σ_14 hf)
set_option maxHeartbeats 4000000 in
theorem fr11_fillsWhose_111 (N : Nat) {σ0 : Mm} {u0 : Unit} {k43 : Int32 → Mm → Option (Unit × Mm)} (hk43 : ∀ (x1 : Int32) (σ : Mm), k43 x1 σ = some (u0, σ0) → Same (wr11_fillsWhose) σ σ0) : ∀ (x1 : Int32) (x2 : Int32) (s1 : Int32) (σ : Mm), f11_fillsWhose_111 N k43 x1 x2 s1 σ = some (u0, σ0) → Same (wr11_fillsWhose) σ σ0 := by
  intro x1 x2 s1 σ hf
  unfold f11_fillsWhose_111 at hf
  have hS : Same (wr11_fillsWhose) σ σ := Same.rf
  exact hS.tr (fr11_fillsWhose_112 N hk43 x1 x2 s1 (0 : Int32) σ hf)
set_option maxHeartbeats 4000000 in
theorem fr11_fillsWhose_43 (N : Nat) {σ0 : Mm} {u0 : Unit} : ∀ (fu : Nat) (x1 : Int32) (σ : Mm), f11_fillsWhose_43 N fu x1 σ = some (u0, σ0) → Same (wr11_fillsWhose) σ σ0 := by
  intro fu
  induction fu with
  | zero =>
    intro x1 σ hf
    rw [f11_fillsWhose_43] at hf
    cases hf
  | succ fu ih =>
    intro x1 σ hf
    rw [f11_fillsWhose_43] at hf
    have hS : Same (wr11_fillsWhose) σ σ := Same.rf
    obtain ⟨hi_2, hf⟩ := z_c_e hf
    rcases z_if hf with hf | hf
    · obtain ⟨-, rfl⟩ := Prod.mk.inj (Option.some.inj hf)
      exact hS
    · obtain ⟨hi_3, hf⟩ := z_c_e hf
      obtain ⟨x2_4, ex2_4, hf⟩ := z_l_x hf
      obtain ⟨r_5, σ_6, hc_7, hf⟩ := z_b_e hf
      have hS := hS.tr ((fr11_doesStand N hc_7).mono (wsub [0, 1, 2, 3, 4, 5, 6, 7, 8] rfl))
      obtain ⟨-, hf⟩ := z_c_e hf
      obtain ⟨σ_8, eσ_8, hf⟩ := z_l_x hf
      have hS := hS.tr (υ := σ_8) (by rw [eσ_8]; exact Same_sIe (i := 9) rfl)
      obtain ⟨hi_9, hf⟩ := z_c_e hf
      rcases z_if hf with hf | hf
      · exact hS.tr (fr11_fillsWhose_111 N ih x1 x2_4 x1 σ_8 hf)
      · obtain ⟨hi_15, hf⟩ := z_c_e hf
        obtain ⟨hi_16, hf⟩ := z_c_e hf
        rcases z_if hf with hf | hf
        · exact hS.tr (fr11_fillsWhose_112 N ih x1 x2_4 x1 (1 : Int32) σ_8 hf)
        · exact hS.tr (fr11_fillsWhose_111 N ih x1 x2_4 x1 σ_8 hf)
set_option maxHeartbeats 4000000 in
theorem fr11_fillsWhose_41 (N : Nat) {σ0 : Mm} {u0 : Unit} : ∀ (σ : Mm), f11_fillsWhose_41 N σ = some (u0, σ0) → Same (wr11_fillsWhose) σ σ0 := by
  intro σ hf
  unfold f11_fillsWhose_41 at hf
  have hS : Same (wr11_fillsWhose) σ σ := Same.rf
  exact hS.tr (fr11_fillsWhose_43 N  N (0 : Int32) σ hf)
set_option maxHeartbeats 4000000 in
theorem fr11_fillsWhose_2 (N : Nat) {σ0 : Mm} {u0 : Unit} : ∀ (fu : Nat) (x1 : Int32) (σ : Mm), f11_fillsWhose_2 N fu x1 σ = some (u0, σ0) → Same (wr11_fillsWhose) σ σ0 := by
  intro fu
  induction fu with
  | zero =>
    intro x1 σ hf
    rw [f11_fillsWhose_2] at hf
    cases hf
  | succ fu ih =>
    intro x1 σ hf
    rw [f11_fillsWhose_2] at hf
    have hS : Same (wr11_fillsWhose) σ σ := Same.rf
    obtain ⟨hi_1, hf⟩ := z_c_e hf
    rcases z_if hf with hf | hf
    · exact hS.tr (fr11_fillsWhose_41 N   σ hf)
    · obtain ⟨hi_17, hf⟩ := z_c_e hf
      obtain ⟨-, hf⟩ := z_c_e hf
      obtain ⟨σ_18, eσ_18, hf⟩ := z_l_x hf
      have hS := hS.tr (υ := σ_18) (by rw [eσ_18]; exact Same_sIe (i := 11) rfl)
      obtain ⟨x1_19, ex1_19, hf⟩ := z_l_x hf
      exact hS.tr (ih x1_19 σ_18 hf)
set_option maxHeartbeats 4000000 in
theorem fr11_fillsWhose (N : Nat) {σ σ0 : Mm} {u0 : Unit} (hf : f11_fillsWhose N σ = some (u0, σ0)) : Same (wr11_fillsWhose) σ σ0 := by
  unfold f11_fillsWhose at hf
  have hS : Same (wr11_fillsWhose) σ σ := Same.rf
  exact hS.tr (fr11_fillsWhose_2 N  N (0 : Int32) σ hf)
def wr11_yearGoes : Wr := [(199, 1, some 14), (199, 1, none), (196, 1, some 3), (196, 1, none), (196, 1, some 0), (196, 1, some 1), (196, 1, some 4), (160, 1, some 54), (197, 1, none)]
set_option maxHeartbeats 4000000 in
theorem fr11_yearGoes_101 (N : Nat) {σ0 : Mm} {u0 : Unit} : ∀ (σ : Mm), f11_yearGoes_101 N σ = some (u0, σ0) → Same (wr11_yearGoes) σ σ0 := by
  intro σ hf
  unfold f11_yearGoes_101 at hf
  have hS : Same (wr11_yearGoes) σ σ := Same.rf
  obtain ⟨hi_2, hf⟩ := z_c_e hf
  obtain ⟨-, hf⟩ := z_c_e hf
  obtain ⟨σ_3, eσ_3, hf⟩ := z_l_x hf
  have hS := hS.tr (υ := σ_3) (by rw [eσ_3]; exact Same_sI (i := 0) rfl)
  obtain ⟨-, rfl⟩ := Prod.mk.inj (Option.some.inj hf)
  exact hS
set_option maxHeartbeats 4000000 in
theorem fr11_yearGoes_95 (N : Nat) {σ0 : Mm} {u0 : Unit} {k2 : Int32 → Mm → Option (Unit × Mm)} (hk2 : ∀ (x1 : Int32) (σ : Mm), k2 x1 σ = some (u0, σ0) → Same (wr11_yearGoes) σ σ0) : ∀ (x1 : Int32) (σ : Mm), f11_yearGoes_95 N k2 x1 σ = some (u0, σ0) → Same (wr11_yearGoes) σ σ0 := by
  intro x1 σ hf
  unfold f11_yearGoes_95 at hf
  have hS : Same (wr11_yearGoes) σ σ := Same.rf
  obtain ⟨x1_10, ex1_10, hf⟩ := z_l_x hf
  exact hS.tr (hk2 x1_10 σ hf)
set_option maxHeartbeats 4000000 in
theorem fr11_yearGoes_74 (N : Nat) {σ0 : Mm} {u0 : Unit} {k2 : Int32 → Mm → Option (Unit × Mm)} (hk2 : ∀ (x1 : Int32) (σ : Mm), k2 x1 σ = some (u0, σ0) → Same (wr11_yearGoes) σ σ0) : ∀ (x1 : Int32) (σ : Mm), f11_yearGoes_74 N k2 x1 σ = some (u0, σ0) → Same (wr11_yearGoes) σ σ0 := by
  intro x1 σ hf
  unfold f11_yearGoes_74 at hf
  have hS : Same (wr11_yearGoes) σ σ := Same.rf
  obtain ⟨hi_5, hf⟩ := z_c_e hf
  obtain ⟨r_6, σ_7, hc_8, hf⟩ := z_b_e hf
  have hS := hS.tr (Same.nil (fr11_held N hc_8))
  obtain ⟨-, hf⟩ := z_c_e hf
  obtain ⟨σ_9, eσ_9, hf⟩ := z_l_x hf
  have hS := hS.tr (υ := σ_9) (by rw [eσ_9]; exact Same_sIe (i := 1) rfl)
  exact hS.tr (fr11_yearGoes_95 N hk2 x1 σ_9 hf)
set_option maxHeartbeats 4000000 in
theorem fr11_yearGoes_2 (N : Nat) {σ0 : Mm} {u0 : Unit} : ∀ (fu : Nat) (x1 : Int32) (σ : Mm), f11_yearGoes_2 N fu x1 σ = some (u0, σ0) → Same (wr11_yearGoes) σ σ0 := by
  intro fu
  induction fu with
  | zero =>
    intro x1 σ hf
    rw [f11_yearGoes_2] at hf
    cases hf
  | succ fu ih =>
    intro x1 σ hf
    rw [f11_yearGoes_2] at hf
    have hS : Same (wr11_yearGoes) σ σ := Same.rf
    obtain ⟨hi_1, hf⟩ := z_c_e hf
    rcases z_if hf with hf | hf
    · exact hS.tr (fr11_yearGoes_101 N   σ hf)
    · obtain ⟨hi_4, hf⟩ := z_c_e hf
      rcases z_if hf with hf | hf
      · exact hS.tr (fr11_yearGoes_95 N ih x1 σ hf)
      · rcases z_if hf with hf | hf
        · obtain ⟨hi_11, hf⟩ := z_c_e hf
          obtain ⟨r_12, σ_13, hc_14, hf⟩ := z_b_e hf
          have hS := hS.tr (Same.nil (fr11_lotOf N hc_14))
          obtain ⟨r_15, σ_16, hc_17, hf⟩ := z_b_e hf
          have hS := hS.tr ((fr11_diesNow N hc_17).mono (wsub [2, 3, 4, 5, 6, 7, 8] rfl))
          rcases z_if hf with hf | hf
          · exact hS.tr (fr11_yearGoes_74 N ih x1 σ_16 hf)
          · obtain ⟨-, hf⟩ := z_c_e hf
            obtain ⟨σ_18, eσ_18, hf⟩ := z_l_x hf
            have hS := hS.tr (υ := σ_18) (by rw [eσ_18]; exact Same_sIe (i := 1) rfl)
            exact hS.tr (fr11_yearGoes_95 N ih x1 σ_18 hf)
        · exact hS.tr (fr11_yearGoes_74 N ih x1 σ hf)
set_option maxHeartbeats 4000000 in
theorem fr11_yearGoes (N : Nat) {σ σ0 : Mm} {u0 : Unit} (hf : f11_yearGoes N σ = some (u0, σ0)) : Same (wr11_yearGoes) σ σ0 := by
  unfold f11_yearGoes at hf
  have hS : Same (wr11_yearGoes) σ σ := Same.rf
  exact hS.tr (fr11_yearGoes_2 N  N (0 : Int32) σ hf)
