-- THE OTHER PAIRS, with what read needs
def D_XI : Wr := [(0, 1, some 3), (160, 1, some 18), (19, 4, none), (39, 4, none), (186, 9, none), (6, 1, none), (167, 1, none)]
theorem XI.eqB {σ τ : Mm} (h : XI σ) (e : EqOn D_XI σ τ) (hb : V_byte τ) : XI τ := by
  obtain ⟨hV, -, o, v, lw, ⟨x1, x2, hv, ho⟩, hC, hM, hw⟩ := h
  refine ⟨fun k hk => ⟨((e 6 k (wIn_r 5 rfl (by decide) (by decide))).2.1).trans (hV k hk).1, ((e 167 k (wIn_r 6 rfl (by decide) (by decide))).2.1).trans (hV k hk).2⟩, hb, o, v, lw, ⟨(e.R (wIn_s 0 rfl)).trans x1, (e.I (wIn_s 1 rfl)).trans x2, hv, ho⟩, hC.eq (fun c k h1 h2 => ?_), hM.eq (fun c k h1 h2 _ => e.I (wIn_r 4 rfl h1 (by omega))), hw⟩
  rcases ho with rfl | rfl
  · exact e.I (wIn_r 2 rfl h1 h2)
  · exact e.I (wIn_r 3 rfl h1 h2)
theorem XI.keep {L M : Wr} {σ σ1 σ2 : Mm} (h : XI σ) (h1 : Same L σ σ1) (h2 : Same M σ1 σ2) (d1 : offL L ((1, 1, none) :: D_XI) = true) (d2 : offL M ((1, 1, none) :: D_XI) = true) : XI σ2 := by
  have e := (h1.on d1).tr (h2.on d2)
  refine h.eqB (e.sub fun a ha => List.mem_cons_of_mem _ ha) fun j hl => ?_
  obtain ⟨b, hb, hj⟩ := h.2.1 j hl
  exact ⟨b, hb, (e.I (wIn_r 0 rfl (by decide) (by decide))).trans hj⟩
theorem sgn8 (y : Int8) : ∃ b, b < 256 ∧ vp_nar .byte y.toInt32 = sgn b := by
  have h : ∀ k, k < 256 → (nI k).toInt8.toBitVec.toNat = k := by decide +kernel
  have e : (nI y.toBitVec.toNat).toInt8 = y := Int8.toBitVec_inj.mp (BitVec.eq_of_toNat_eq (h _ y.toBitVec.isLt))
  have e2 : sgn y.toBitVec.toNat = y.toInt32 := by unfold sgn; rw [e]
  exact ⟨y.toBitVec.toNat, y.toBitVec.isLt, by rw [← e2]; exact sg_nar _ y.toBitVec.isLt⟩
theorem tape_byte (N : Nat) {x1 : Int32} {σ0 : Mm} {u0 : Unit} : ∀ (fu : Nat) (x2 : Int32) (σ : Mm), f10_tapeFour_3 N x1 fu x2 σ = some (u0, σ0) → V_byte σ → V_byte σ0 := by
  intro fu
  induction fu with
  | zero =>
    intro x2 σ hf
    rw [f10_tapeFour_3] at hf
    cases hf
  | succ fu ih =>
    intro x2 σ hf hb
    rw [f10_tapeFour_3] at hf
    rcases z_if hf with hf | hf
    · obtain ⟨-, rfl⟩ := Prod.mk.inj (Option.some.inj hf)
      exact hb
    · rcases z_if hf with hf | hf
      · obtain ⟨-, rfl⟩ := Prod.mk.inj (Option.some.inj hf)
        exact hb
      · obtain ⟨-, hf⟩ := z_c_e hf
        obtain ⟨σ_1, eσ_1, hf⟩ := z_l_x hf
        obtain ⟨σ_2, eσ_2, hf⟩ := z_l_x hf
        obtain ⟨x2_3, ex2_3, hf⟩ := z_l_x hf
        refine ih x2_3 σ_2 hf fun j hl => ?_
        rw [eσ_2, gI_o (by decide), eσ_1]
        by_cases c : j = ix (gI σ 0 1)
        · subst c
          rw [gI_e]
          exact sgn8 _
        · rw [gI_k c]
          exact hb j hl
theorem feed_byte (N : Nat) {x1 x2 x3 x4 x5 : Int32} {σ σ0 : Mm} {r0 : Int32} (hf : f10_feed N x1 x2 x3 x4 x5 σ = some (r0, σ0)) (hb : V_byte σ) : V_byte σ0 := by
  unfold f10_feed at hf
  rcases z_if hf with hf | hf
  · obtain ⟨r_1, σ_2, hc_3, hf⟩ := z_b_e hf
    have hb := tape_byte N N _ _ hc_3 hb
    obtain ⟨r_4, σ_5, hc_6, hf⟩ := z_b_e hf
    have hb := tape_byte N N _ _ hc_6 hb
    obtain ⟨r_7, σ_8, hc_9, hf⟩ := z_b_e hf
    have hb := tape_byte N N _ _ hc_9 hb
    obtain ⟨r_10, σ_11, hc_12, hf⟩ := z_b_e hf
    have hb := tape_byte N N _ _ hc_12 hb
    obtain ⟨r_13, σ_14, hc_15, hf⟩ := z_b_e hf
    have hb := tape_byte N N _ _ hc_15 hb
    obtain ⟨-, rfl⟩ := Prod.mk.inj (Option.some.inj hf)
    exact hb
  · obtain ⟨-, rfl⟩ := Prod.mk.inj (Option.some.inj hf)
    exact hb
theorem px_feed {N : Nat} (hN : 4000 ≤ N) : ∀ (x1 : Int32), ∀ (x2 : Int32), ∀ (x3 : Int32), ∀ (x4 : Int32), ∀ (x5 : Int32), ∀ (σ : Mm), IX N σ → ∃ (r : Int32) (σ1 σ2 : Mm), f10_feed N x1 x2 x3 x4 x5 σ = some (r, σ1) ∧ f11_feed N x1 x2 x3 x4 x5 σ1 = some (r, σ2) ∧ IX N σ2 := fun x1 x2 x3 x4 x5 σ h => by
  obtain ⟨r, σ1, σ2, e1, e2, hI⟩ := pr_feed hN x1 x2 x3 x4 x5 σ h.1
  refine ⟨r, σ1, σ2, e1, e2, hI, h.2.eqB (((fr10_feed N e1).on (by decide)).tr ((fr11_feed N e2).on (by decide))) fun j hl => ?_⟩
  obtain ⟨b, hb, hj⟩ := feed_byte N e1 h.2.2.1 j hl
  exact ⟨b, hb, (((fr11_feed N e2).on (D := [(1, 1, none)]) (by decide)).I (wIn_r 0 rfl (by decide) (by decide))).trans hj⟩
theorem px_back {N : Nat} (hN : 4000 ≤ N) : ∀ (x1 : Int32), ∀ (σ : Mm), IX N σ → ∃ (r : Int32) (σ1 σ2 : Mm), f10_back N x1 σ = some (r, σ1) ∧ f11_back N x1 σ1 = some (r, σ2) ∧ IX N σ2 := fun x1 σ h => by
  obtain ⟨r, σ1, σ2, e1, e2, hI⟩ := pr_back x1 σ h.1
  exact ⟨r, σ1, σ2, e1, e2, hI, h.2.keep (fr10_back N e1) (fr11_back N e2) (by decide) (by decide)⟩
theorem px_place {N : Nat} (hN : 4000 ≤ N) : ∀ (σ : Mm), IX N σ → ∃ (r : Int32) (σ1 σ2 : Mm), f10_place N  σ = some (r, σ1) ∧ f11_place N  σ1 = some (r, σ2) ∧ IX N σ2 := fun σ h => by
  obtain ⟨r, σ1, σ2, e1, e2, hI⟩ := pr_place σ h.1
  exact ⟨r, σ1, σ2, e1, e2, hI, h.2.keep (fr10_place N e1) (fr11_place N e2) (by decide) (by decide)⟩
theorem px_plot {N : Nat} (hN : 4000 ≤ N) : ∀ (x1 : Int32), ∀ (x2 : Int32), ∀ (σ : Mm), IX N σ → ∃ (r : Int32) (σ1 σ2 : Mm), f10_plot N x1 x2 σ = some (r, σ1) ∧ f11_plot N x1 x2 σ1 = some (r, σ2) ∧ IX N σ2 := fun x1 x2 σ h => by
  obtain ⟨r, σ1, σ2, e1, e2, hI⟩ := pr_plot hN x1 x2 σ h.1
  exact ⟨r, σ1, σ2, e1, e2, hI, h.2.keep (fr10_plot N e1) (fr11_plot N e2) (by decide) (by decide)⟩
theorem px_witness {N : Nat} (hN : 4000 ≤ N) : ∀ (x1 : Int32), ∀ (x2 : Int32), ∀ (σ : Mm), IX N σ → ∃ (r : Int32) (σ1 σ2 : Mm), f10_witness N x1 x2 σ = some (r, σ1) ∧ f11_witness N x1 x2 σ1 = some (r, σ2) ∧ IX N σ2 := fun x1 x2 σ h => by
  obtain ⟨r, σ1, σ2, e1, e2, hI⟩ := pr_witness hN x1 x2 σ h.1
  exact ⟨r, σ1, σ2, e1, e2, hI, h.2.keep (fr10_witness N e1) (fr11_witness N e2) (by decide) (by decide)⟩
theorem px_giving {N : Nat} (hN : 4000 ≤ N) : ∀ (x1 : Int32), ∀ (x2 : Int32), ∀ (σ : Mm), IX N σ → ∃ (r : Int32) (σ1 σ2 : Mm), f10_giving N x1 x2 σ = some (r, σ1) ∧ f11_giving N x1 x2 σ1 = some (r, σ2) ∧ IX N σ2 := fun x1 x2 σ h => by
  obtain ⟨r, σ1, σ2, e1, e2, hI⟩ := pr_giving hN x1 x2 σ h.1
  exact ⟨r, σ1, σ2, e1, e2, hI, h.2.keep (fr10_giving N e1) (fr11_giving N e2) (by decide) (by decide)⟩
theorem px_give {N : Nat} (hN : 4000 ≤ N) : ∀ (x1 : Int32), ∀ (x2 : Int32), ∀ (x3 : Int32), ∀ (x4 : Int32), ∀ (σ : Mm), IX N σ → ∃ (r : Int32) (σ1 σ2 : Mm), f10_give N x1 x2 x3 x4 σ = some (r, σ1) ∧ f11_give N x1 x2 x3 x4 σ1 = some (r, σ2) ∧ IX N σ2 := fun x1 x2 x3 x4 σ h => by
  obtain ⟨r, σ1, σ2, e1, e2, hI⟩ := pr_give hN x1 x2 x3 x4 σ h.1
  exact ⟨r, σ1, σ2, e1, e2, hI, h.2.keep (fr10_give N e1) (fr11_give N e2) (by decide) (by decide)⟩
theorem px_unsay {N : Nat} (hN : 4000 ≤ N) : ∀ (x1 : Int32), ∀ (x2 : Int32), ∀ (σ : Mm), IX N σ → (x2 = 0 ∨ x2 = 1) → ∃ (r : Int32) (σ1 σ2 : Mm), f10_unsay N x1 x2 σ = some (r, σ1) ∧ f11_unsay N x1 x2 σ1 = some (r, σ2) ∧ IX N σ2 := fun x1 x2 σ h hx => by
  obtain ⟨r, σ1, σ2, e1, e2, hI⟩ := pr_unsay hN x1 x2 σ h.1 hx
  exact ⟨r, σ1, σ2, e1, e2, hI, h.2.keep (fr10_unsay N e1) (fr11_unsay N e2) (by decide) (by decide)⟩
theorem px_years {N : Nat} (hN : 4000 ≤ N) : ∀ (x1 : Int32), ∀ (σ : Mm), IX N σ → ∃ (r : Int32) (σ1 σ2 : Mm), f10_years N x1 σ = some (r, σ1) ∧ f11_years N x1 σ1 = some (r, σ2) ∧ IX N σ2 := fun x1 σ h => by
  obtain ⟨r, σ1, σ2, e1, e2, hI⟩ := pr_years hN x1 σ h.1
  exact ⟨r, σ1, σ2, e1, e2, hI, h.2.keep (fr10_years N e1) (fr11_years N e2) (by decide) (by decide)⟩
theorem px_undo {N : Nat} (hN : 4000 ≤ N) : ∀ (σ : Mm), IX N σ → ∃ (r : Int32) (σ1 σ2 : Mm), f10_undo N  σ = some (r, σ1) ∧ f11_undo N  σ1 = some (r, σ2) ∧ IX N σ2 := fun σ h => by
  obtain ⟨r, σ1, σ2, e1, e2, hI⟩ := pr_undo hN σ h.1
  exact ⟨r, σ1, σ2, e1, e2, hI, h.2.keep (fr10_undo N e1) (fr11_undo N e2) (by decide) (by decide)⟩
theorem px_lasts {N : Nat} (hN : 4000 ≤ N) : ∀ (x1 : Int32), ∀ (σ : Mm), IX N σ → ∃ (r : Int32) (σ1 σ2 : Mm), f10_lasts N x1 σ = some (r, σ1) ∧ f11_lasts N x1 σ1 = some (r, σ2) ∧ IX N σ2 := fun x1 σ h => by
  obtain ⟨r, σ1, σ2, e1, e2, hI⟩ := pr_lasts hN x1 σ h.1
  exact ⟨r, σ1, σ2, e1, e2, hI, h.2.keep (fr10_lasts N e1) (fr11_lasts N e2) (by decide) (by decide)⟩
theorem px_book {N : Nat} (hN : 4000 ≤ N) : ∀ (σ : Mm), IX N σ → ∃ (r : Int32) (σ1 σ2 : Mm), f10_book N  σ = some (r, σ1) ∧ f11_book N  σ1 = some (r, σ2) ∧ IX N σ2 := fun σ h => by
  obtain ⟨r, σ1, σ2, e1, e2, hI⟩ := pr_book hN σ h.1
  exact ⟨r, σ1, σ2, e1, e2, hI, h.2.keep (fr10_book N e1) (fr11_book N e2) (by decide) (by decide)⟩
theorem px_hangs {N : Nat} (hN : 4000 ≤ N) : ∀ (x1 : Int32), ∀ (σ : Mm), IX N σ → ∃ (r : Int32) (σ1 σ2 : Mm), f10_hangs N x1 σ = some (r, σ1) ∧ f11_hangs N x1 σ1 = some (r, σ2) ∧ IX N σ2 := fun x1 σ h => by
  obtain ⟨r, σ1, σ2, e1, e2, hI⟩ := pr_hangs hN x1 σ h.1
  exact ⟨r, σ1, σ2, e1, e2, hI, h.2.keep (fr10_hangs N e1) (fr11_hangs N e2) (by decide) (by decide)⟩
theorem px_cover {N : Nat} (hN : 4000 ≤ N) : ∀ (x1 : Int32), ∀ (x2 : Int32), ∀ (σ : Mm), IX N σ → ∃ (r : Int32) (σ1 σ2 : Mm), f10_cover N x1 x2 σ = some (r, σ1) ∧ f11_cover N x1 x2 σ1 = some (r, σ2) ∧ IX N σ2 := fun x1 x2 σ h => by
  obtain ⟨r, σ1, σ2, e1, e2, hI⟩ := pr_cover hN x1 x2 σ h.1
  exact ⟨r, σ1, σ2, e1, e2, hI, h.2.keep (fr10_cover N e1) (fr11_cover N e2) (by decide) (by decide)⟩
theorem px_walk {N : Nat} (hN : 4000 ≤ N) : ∀ (x1 : Int32), ∀ (x2 : Int32), ∀ (σ : Mm), IX N σ → ∃ (r : Int32) (σ1 σ2 : Mm), f10_walk N x1 x2 σ = some (r, σ1) ∧ f11_walk N x1 x2 σ1 = some (r, σ2) ∧ IX N σ2 := fun x1 x2 σ h => by
  obtain ⟨r, σ1, σ2, e1, e2, hI⟩ := pr_walk hN x1 x2 σ h.1
  exact ⟨r, σ1, σ2, e1, e2, hI, h.2.keep (fr10_walk N e1) (fr11_walk N e2) (by decide) (by decide)⟩
theorem px_asks {N : Nat} (hN : 4000 ≤ N) : ∀ (x1 : Int32), ∀ (σ : Mm), IX N σ → ∃ (r : Int32) (σ1 σ2 : Mm), f10_asks N x1 σ = some (r, σ1) ∧ f11_asks N x1 σ1 = some (r, σ2) ∧ IX N σ2 := fun x1 σ h => by
  obtain ⟨r, σ1, σ2, e1, e2, hI⟩ := pr_asks hN x1 σ h.1
  exact ⟨r, σ1, σ2, e1, e2, hI, h.2.keep (fr10_asks N e1) (fr11_asks N e2) (by decide) (by decide)⟩
theorem px_round {N : Nat} (hN : 4000 ≤ N) : ∀ (x1 : Int32), ∀ (x2 : Int32), ∀ (σ : Mm), IX N σ → ∃ (r : Int32) (σ1 σ2 : Mm), f10_round N x1 x2 σ = some (r, σ1) ∧ f11_round N x1 x2 σ1 = some (r, σ2) ∧ IX N σ2 := fun x1 x2 σ h => by
  obtain ⟨r, σ1, σ2, e1, e2, hI⟩ := pr_round hN x1 x2 σ h.1
  exact ⟨r, σ1, σ2, e1, e2, hI, h.2.keep (fr10_round N e1) (fr11_round N e2) (by decide) (by decide)⟩
theorem px_has {N : Nat} (hN : 4000 ≤ N) : ∀ (x1 : Int32), ∀ (x2 : Int32), ∀ (σ : Mm), IX N σ → ∃ (r : Int32) (σ1 σ2 : Mm), f10_has N x1 x2 σ = some (r, σ1) ∧ f11_has N x1 x2 σ1 = some (r, σ2) ∧ IX N σ2 := fun x1 x2 σ h => by
  obtain ⟨r, σ1, σ2, e1, e2, hI⟩ := pr_has hN x1 x2 σ h.1
  exact ⟨r, σ1, σ2, e1, e2, hI, h.2.keep (fr10_has N e1) (fr11_has N e2) (by decide) (by decide)⟩
theorem px_within {N : Nat} (hN : 4000 ≤ N) : ∀ (x1 : Int32), ∀ (x2 : Int32), ∀ (σ : Mm), IX N σ → ∃ (r : Int32) (σ1 σ2 : Mm), f10_within N x1 x2 σ = some (r, σ1) ∧ f11_within N x1 x2 σ1 = some (r, σ2) ∧ IX N σ2 := fun x1 x2 σ h => by
  obtain ⟨r, σ1, σ2, e1, e2, hI⟩ := pr_within hN x1 x2 σ h.1
  exact ⟨r, σ1, σ2, e1, e2, hI, h.2.keep (fr10_within N e1) (fr11_within N e2) (by decide) (by decide)⟩
theorem px_rich {N : Nat} (hN : 4000 ≤ N) : ∀ (x1 : Int32), ∀ (x2 : Int32), ∀ (σ : Mm), IX N σ → ∃ (r : Int32) (σ1 σ2 : Mm), f10_rich N x1 x2 σ = some (r, σ1) ∧ f11_rich N x1 x2 σ1 = some (r, σ2) ∧ IX N σ2 := fun x1 x2 σ h => by
  obtain ⟨r, σ1, σ2, e1, e2, hI⟩ := pr_rich hN x1 x2 σ h.1
  exact ⟨r, σ1, σ2, e1, e2, hI, h.2.keep (fr10_rich N e1) (fr11_rich N e2) (by decide) (by decide)⟩
theorem px_chain {N : Nat} (hN : 4000 ≤ N) : ∀ (x1 : Int32), ∀ (x2 : Int32), ∀ (σ : Mm), IX N σ → ∃ (r : Int32) (σ1 σ2 : Mm), f10_chain N x1 x2 σ = some (r, σ1) ∧ f11_chain N x1 x2 σ1 = some (r, σ2) ∧ IX N σ2 := fun x1 x2 σ h => by
  obtain ⟨r, σ1, σ2, e1, e2, hI⟩ := pr_chain hN x1 x2 σ h.1
  exact ⟨r, σ1, σ2, e1, e2, hI, h.2.keep (fr10_chain N e1) (fr11_chain N e2) (by decide) (by decide)⟩
theorem px_idle {N : Nat} (hN : 4000 ≤ N) : ∀ (x1 : Int32), ∀ (σ : Mm), IX N σ → ∃ (r : Int32) (σ1 σ2 : Mm), f10_idle N x1 σ = some (r, σ1) ∧ f11_idle N x1 σ1 = some (r, σ2) ∧ IX N σ2 := fun x1 σ h => by
  obtain ⟨r, σ1, σ2, e1, e2, hI⟩ := pr_idle hN x1 σ h.1
  exact ⟨r, σ1, σ2, e1, e2, hI, h.2.keep (fr10_idle N e1) (fr11_idle N e2) (by decide) (by decide)⟩
theorem px_eldest {N : Nat} (hN : 4000 ≤ N) : ∀ (x1 : Int32), ∀ (σ : Mm), IX N σ → ∃ (r : Int32) (σ1 σ2 : Mm), f10_eldest N x1 σ = some (r, σ1) ∧ f11_eldest N x1 σ1 = some (r, σ2) ∧ IX N σ2 := fun x1 σ h => by
  obtain ⟨r, σ1, σ2, e1, e2, hI⟩ := pr_eldest hN x1 σ h.1
  exact ⟨r, σ1, σ2, e1, e2, hI, h.2.keep (fr10_eldest N e1) (fr11_eldest N e2) (by decide) (by decide)⟩
theorem px_lapse {N : Nat} (hN : 4000 ≤ N) : ∀ (x1 : Int32), ∀ (σ : Mm), IX N σ → ∃ (r : Int32) (σ1 σ2 : Mm), f10_lapse N x1 σ = some (r, σ1) ∧ f11_lapse N x1 σ1 = some (r, σ2) ∧ IX N σ2 := fun x1 σ h => by
  obtain ⟨r, σ1, σ2, e1, e2, hI⟩ := pr_lapse hN x1 σ h.1
  exact ⟨r, σ1, σ2, e1, e2, hI, h.2.keep (fr10_lapse N e1) (fr11_lapse N e2) (by decide) (by decide)⟩
theorem px_passes {N : Nat} (hN : 4000 ≤ N) : ∀ (x1 : Int32), ∀ (σ : Mm), IX N σ → ∃ (r : Int32) (σ1 σ2 : Mm), f10_passes N x1 σ = some (r, σ1) ∧ f11_passes N x1 σ1 = some (r, σ2) ∧ IX N σ2 := fun x1 σ h => by
  obtain ⟨r, σ1, σ2, e1, e2, hI⟩ := pr_passes hN x1 σ h.1
  exact ⟨r, σ1, σ2, e1, e2, hI, h.2.keep (fr10_passes N e1) (fr11_passes N e2) (by decide) (by decide)⟩
theorem px_weakest {N : Nat} (hN : 4000 ≤ N) : ∀ (x1 : Int32), ∀ (σ : Mm), IX N σ → ∃ (r : Int32) (σ1 σ2 : Mm), f10_weakest N x1 σ = some (r, σ1) ∧ f11_weakest N x1 σ1 = some (r, σ2) ∧ IX N σ2 := fun x1 σ h => by
  obtain ⟨r, σ1, σ2, e1, e2, hI⟩ := pr_weakest hN x1 σ h.1
  exact ⟨r, σ1, σ2, e1, e2, hI, h.2.keep (fr10_weakest N e1) (fr11_weakest N e2) (by decide) (by decide)⟩
theorem px_ownerIn {N : Nat} (hN : 4000 ≤ N) : ∀ (x1 : Int32), ∀ (x2 : Int32), ∀ (σ : Mm), IX N σ → ∃ (r : Int32) (σ1 σ2 : Mm), f10_ownerIn N x1 x2 σ = some (r, σ1) ∧ f11_ownerIn N x1 x2 σ1 = some (r, σ2) ∧ IX N σ2 := fun x1 x2 σ h => by
  obtain ⟨r, σ1, σ2, e1, e2, hI⟩ := pr_ownerIn hN x1 x2 σ h.1
  exact ⟨r, σ1, σ2, e1, e2, hI, h.2.keep (fr10_ownerIn N e1) (fr11_ownerIn N e2) (by decide) (by decide)⟩
theorem px_then {N : Nat} (hN : 4000 ≤ N) : ∀ (x1 : Int32), ∀ (x2 : Int32), ∀ (x3 : Int32), ∀ (σ : Mm), IX N σ → ∃ (r : Int32) (σ1 σ2 : Mm), f10_then N x1 x2 x3 σ = some (r, σ1) ∧ f11_then N x1 x2 x3 σ1 = some (r, σ2) ∧ IX N σ2 := fun x1 x2 x3 σ h => by
  obtain ⟨r, σ1, σ2, e1, e2, hI⟩ := pr_then hN x1 x2 x3 σ h.1
  exact ⟨r, σ1, σ2, e1, e2, hI, h.2.keep (fr10_then N e1) (fr11_then N e2) (by decide) (by decide)⟩
theorem px_swearIn {N : Nat} (hN : 4000 ≤ N) : ∀ (x1 : Int32), ∀ (x2 : Int32), ∀ (σ : Mm), IX N σ → ∃ (r : Int32) (σ1 σ2 : Mm), f10_swearIn N x1 x2 σ = some (r, σ1) ∧ f11_swearIn N x1 x2 σ1 = some (r, σ2) ∧ IX N σ2 := fun x1 x2 σ h => by
  obtain ⟨r, σ1, σ2, e1, e2, hI⟩ := pr_swearIn hN x1 x2 σ h.1
  exact ⟨r, σ1, σ2, e1, e2, hI, h.2.keep (fr10_swearIn N e1) (fr11_swearIn N e2) (by decide) (by decide)⟩
theorem px_year {N : Nat} (hN : 4000 ≤ N) : ∀ (x1 : Int32), ∀ (x2 : Int32), ∀ (x3 : Int32), ∀ (x4 : Int32), ∀ (σ : Mm), IX N σ → ∃ (r : Int32) (σ1 σ2 : Mm), f10_year N x1 x2 x3 x4 σ = some (r, σ1) ∧ f11_year N x1 x2 x3 x4 σ1 = some (r, σ2) ∧ IX N σ2 := fun x1 x2 x3 x4 σ h => by
  obtain ⟨r, σ1, σ2, e1, e2, hI⟩ := pr_year hN x1 x2 x3 x4 σ h.1
  exact ⟨r, σ1, σ2, e1, e2, hI, h.2.keep (fr10_year N e1) (fr11_year N e2) (by decide) (by decide)⟩
theorem px_tell {N : Nat} (hN : 4000 ≤ N) : ∀ (x1 : Int32), ∀ (x2 : Int32), ∀ (σ : Mm), IX N σ → (x2 = 0 ∨ x2 = 1) → ∃ (r : Int32) (σ1 σ2 : Mm), f10_tell N x1 x2 σ = some (r, σ1) ∧ f11_tell N x1 x2 σ1 = some (r, σ2) ∧ IX N σ2 := fun x1 x2 σ h hx => by
  obtain ⟨r, σ1, σ2, e1, e2, hI⟩ := pr_tell hN x1 x2 σ h.1 hx
  exact ⟨r, σ1, σ2, e1, e2, hI, h.2.keep (fr10_tell N e1) (fr11_tell N e2) (by decide) (by decide)⟩
theorem px_forget {N : Nat} (hN : 4000 ≤ N) : ∀ (σ : Mm), IX N σ → ∃ (r : Int32) (σ1 σ2 : Mm), f10_forget N  σ = some (r, σ1) ∧ f11_forget N  σ1 = some (r, σ2) ∧ IX N σ2 := fun σ h => by
  obtain ⟨r, σ1, σ2, e1, e2, hI⟩ := pr_forget σ h.1
  exact ⟨r, σ1, σ2, e1, e2, hI, h.2.keep (fr10_forget N e1) (fr11_forget N e2) (by decide) (by decide)⟩
theorem px_which {N : Nat} (hN : 4000 ≤ N) : ∀ (x1 : Int32), ∀ (x2 : Int32), ∀ (σ : Mm), IX N σ → ∃ (r : Int32) (σ1 σ2 : Mm), f10_which N x1 x2 σ = some (r, σ1) ∧ f11_which N x1 x2 σ1 = some (r, σ2) ∧ IX N σ2 := fun x1 x2 σ h => by
  obtain ⟨r, σ1, σ2, e1, e2, hI⟩ := pr_which hN x1 x2 σ h.1
  exact ⟨r, σ1, σ2, e1, e2, hI, h.2.keep (fr10_which N e1) (fr11_which N e2) (by decide) (by decide)⟩
theorem px_ask {N : Nat} (hN : 4000 ≤ N) : ∀ (x1 : Int32), ∀ (σ : Mm), IX N σ → ∃ (r : Int32) (σ1 σ2 : Mm), f10_ask N x1 σ = some (r, σ1) ∧ f11_ask N x1 σ1 = some (r, σ2) ∧ IX N σ2 := fun x1 σ h => by
  obtain ⟨r, σ1, σ2, e1, e2, hI⟩ := pr_ask hN x1 σ h.1
  exact ⟨r, σ1, σ2, e1, e2, hI, h.2.keep (fr10_ask N e1) (fr11_ask N e2) (by decide) (by decide)⟩
theorem px_hold {N : Nat} (hN : 4000 ≤ N) : ∀ (x1 : Int32), ∀ (σ : Mm), IX N σ → ∃ (r : Int32) (σ1 σ2 : Mm), f10_hold N x1 σ = some (r, σ1) ∧ f11_hold N x1 σ1 = some (r, σ2) ∧ IX N σ2 := fun x1 σ h => by
  obtain ⟨r, σ1, σ2, e1, e2, hI⟩ := pr_hold hN x1 σ h.1
  exact ⟨r, σ1, σ2, e1, e2, hI, h.2.keep (fr10_hold N e1) (fr11_hold N e2) (by decide) (by decide)⟩
theorem px_restore {N : Nat} (hN : 4000 ≤ N) : ∀ (x1 : Int32), ∀ (σ : Mm), IX N σ → ∃ (r : Int32) (σ1 σ2 : Mm), f10_restore N x1 σ = some (r, σ1) ∧ f11_restore N x1 σ1 = some (r, σ2) ∧ IX N σ2 := fun x1 σ h => by
  obtain ⟨r, σ1, σ2, e1, e2, hI⟩ := pr_restore hN x1 σ h.1
  exact ⟨r, σ1, σ2, e1, e2, hI, h.2.keep (fr10_restore N e1) (fr11_restore N e2) (by decide) (by decide)⟩
theorem px_count {N : Nat} (hN : 4000 ≤ N) : ∀ (x1 : Int32), ∀ (σ : Mm), IX N σ → ∃ (r : Int32) (σ1 σ2 : Mm), f10_count N x1 σ = some (r, σ1) ∧ f11_count N x1 σ1 = some (r, σ2) ∧ IX N σ2 := fun x1 σ h => by
  obtain ⟨r, σ1, σ2, e1, e2, hI⟩ := pr_count hN x1 σ h.1
  exact ⟨r, σ1, σ2, e1, e2, hI, h.2.keep (fr10_count N e1) (fr11_count N e2) (by decide) (by decide)⟩
