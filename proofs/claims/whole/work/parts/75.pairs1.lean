-- PAIRS OF READINGS
theorem Ok.ii {β : Type} {c : Prop} [Decidable c] {x y : Option (β × Mm)} {a b : β} (h1 : c → Ok x (fun r _ => r = a)) (h2 : ¬ c → Ok y (fun r _ => r = b)) : Ok (if c then x else y) (fun r _ => r = if c then a else b) := by
  by_cases h : c
  · rw [if_pos h, if_pos h]; exact h1 h
  · rw [if_neg h, if_neg h]; exact h2 h
theorem Ok.v {D : Wr} {σ : Mm} {y : Option (Int32 × Mm)} {v : Int32} (h : Ok y (Rd D σ v)) : Ok (z_b y fun r τ => some (r, τ)) (fun r _ => r = v) := by
  obtain ⟨r, τ, rfl, h, -⟩ := h
  exact ⟨r, τ, rfl, h⟩
theorem pairR {N : Nat} {σ : Mm} {x : Option (Int32 × Mm)} {y : Mm → Option (Int32 × Mm)} {L1 L2 : Wr} (hI : Inv N σ) (f1 : ∀ r τ, x = some (r, τ) → Same L1 σ τ) (hd1 : offL L1 D_all = true) (f2 : ∀ r τ υ, y τ = some (r, υ) → Same L2 τ υ) (hd2 : offL L2 D_all = true)
    (r : Int32) (h1 : Ok x (fun r1 _ => r1 = r)) (h2 : ∀ τ, EqOn D_all σ τ → Ok (y τ) (fun r2 _ => r2 = r)) : ∃ (r : Int32) (σ1 σ2 : Mm), x = some (r, σ1) ∧ y σ1 = some (r, σ2) ∧ Inv N σ2 := by
  obtain ⟨r1, σ1, e1, rfl⟩ := h1
  have hE := (f1 _ _ e1).on hd1
  obtain ⟨r2, σ2, e2, rfl⟩ := h2 σ1 hE
  exact ⟨r2, σ1, σ2, e1, e2, (hI.eq hE).keep (f2 _ _ _ e2) hd2⟩
theorem noYears_t {N : Nat} {x : Int32} {σ : Mm} (h : isN x 61) : f10_noYears N x σ = some (0, σ) := by
  obtain ⟨w, hw, rfl⟩ := h
  unfold f10_noYears
  rw [if_neg (nI_pos (by omega)), if_pos (show nI w ≤ (60 : Int32) from nI_le (b := 60) (by omega) (by decide))]
theorem noYears_f {N : Nat} {x : Int32} {σ : Mm} (h : ¬ isN x 61) : f10_noYears N x σ = some (1, σ) := by
  unfold f10_noYears
  rcases isN_not (by decide) h with a | a
  · rw [if_pos a]
  · by_cases c : x < 0
    · rw [if_pos c]
    · obtain ⟨j, hj, rfl⟩ := nI_of c
      rw [nI_leI (by decide) hj] at a
      rw [if_neg c, if_neg (show ¬ nI j ≤ (60 : Int32) from nI_ge (a := 60) (by omega) hj)]
theorem isLong_t {N : Nat} {x : Int32} {σ : Mm} (h : isN x 61) : f11_isLong N x σ = some (1, σ) := by
  unfold f11_isLong
  rw [show (60 : Int32) = nI 61 - 1 from rfl, in_t (by decide) h, z_b_some, zc_t isZ_1]
theorem isLong_f {N : Nat} {x : Int32} {σ : Mm} (h : ¬ isN x 61) : f11_isLong N x σ = some (0, σ) := by
  unfold f11_isLong
  rw [show (60 : Int32) = nI 61 - 1 from rfl, in_f (by decide) h, z_b_some, zc_t isZ_0]
theorem is01 {x : Int32} : isN x 2 ↔ (x = 0 ∨ x = 1) := by
  constructor
  · rintro ⟨w, hw, rfl⟩
    have : w = 0 ∨ w = 1 := by omega
    rcases this with rfl | rfl
    · exact Or.inl rfl
    · exact Or.inr rfl
  · rintro (rfl | rfl)
    · exact ⟨0, by decide, rfl⟩
    · exact ⟨1, by decide, rfl⟩
theorem in01_t {N : Nat} {x : Int32} {σ : Mm} (h : x = 0 ∨ x = 1) : f11_in N x 0 1 σ = some (1, σ) := in_t (n := 2) (by decide) (is01.mpr h)
theorem in01_f {N : Nat} {x : Int32} {σ : Mm} (h : ¬ (x = 0 ∨ x = 1)) : f11_in N x 0 1 σ = some (0, σ) := in_f (n := 2) (by decide) (fun c => h (is01.mp c))
theorem stF_f {d : Dt} {mo : Mo} : stF d mo false = std d mo := funext fun g => by unfold stF; rw [if_neg (by decide)]
theorem stF_t {d : Dt} {mo : Mo} : stF d mo true = said d := funext fun g => by unfold stF; rw [if_pos rfl]
/-- the reference looked ahead -/
def MG (N : Nat) (τ : Mm) (v : Nat) (d : Dt) (mo : Mo) : Prop := ML N τ v d ∧ MR τ d mo ∧ Wh τ d (std d mo) (dn d) ∧ gI τ 160 59 = b2 false
theorem r_now {N : Nat} (hN : 4000 ≤ N) {σ : Mm} {v : Nat} {d : Dt} {mo : Mo} {sd : Int32} (hd : Dok d) (hS : MSt N σ v d mo sd) {β : Type} {k : Unit → Mm → Option (β × Mm)} {Q : β → Mm → Prop} (h : ∀ τ, MG N τ v d mo → MSt N τ v d mo sd → Ok (k () τ) Q) :
    Ok (z_b (f11_copies N σ) fun _ σ1 => z_b (f11_fillsWhose N σ1) k) Q := by
  refine Ok.b (r_copies hN hd hS) ?_
  rintro u τ ⟨hM, hE, e57, e58, e59, hS2⟩
  refine Ok.b (r_fillsWhose hN hd hS2.1 hM (fl := false) e59).run ?_
  rintro u2 υ ⟨⟨hw, hU⟩, er⟩
  rw [stF_f] at hw
  refine h υ ⟨hS2.1.eq hU.M0, hM.eq hU, hw, by rw [flag hU.M1]; exact e59⟩ (hS2.eq' ?_)
  exact (fr11_fillsWhose N er).on rfl
theorem r_goesOnTo {N : Nat} (hN : 4000 ≤ N) {σ : Mm} {v : Nat} {d : Dt} {mo : Mo} {sd : Int32} (hd : Dok d) (hk : Mok d mo) (hS : MSt N σ v d mo sd) {n : Nat} (hn : n ≤ 60) : Ok (f11_goesOnTo N (nI n) σ) (fun _ τ => MG N τ v d (passN d sd mo n)) := by
  unfold f11_goesOnTo
  refine Ok.b (r_copies hN hd hS) ?_
  rintro u τ ⟨hM, hE, e57, e58, e59, hS2⟩
  refine Ok.b (r_goes hN hd hS2.1 hM hk e58 hn) ?_
  rintro u2 υ ⟨hM2, hU⟩
  rw [e57] at hM2
  refine Ok.b (r_fillsWhose hN hd (hS2.1.eq hU.M10) hM2 (fl := false) (by rw [flag hU]; exact e59)) ?_
  rintro u3 ρ ⟨hw, hR⟩
  rw [stF_f] at hw
  exact Ok.ret ⟨(hS2.1.eq hU.M10).eq hR.M0, hM2.eq hR, hw, by rw [flag hR.M1, flag hU]; exact e59⟩
theorem MG.whose {N : Nat} {τ : Mm} {v : Nat} {d : Dt} {mo : Mo} (h : MG N τ v d mo) {p : Nat} (hp : p < dQ d) : gI τ 200 p = nI (own d mo p) := h.2.2.1.1 p hp
theorem MG.ct {N : Nat} {τ : Mm} {v : Nat} {d : Dt} {mo : Mo} (h : MG N τ v d mo) {g : Nat} (hg : g < dn d) : gI τ 201 g = b2 (std d mo g) ∧ gI τ 202 g = b2 (ctAll d mo g) := h.2.2.1.2 g hg
-- plot
theorem pr_plot {N : Nat} (hN : 4000 ≤ N) : ∀ (x1 x2 : Int32) (σ : Mm), Inv N σ → ∃ (r : Int32) (σ1 σ2 : Mm), f10_plot N x1 x2 σ = some (r, σ1) ∧ f11_plot N x1 x2 σ1 = some (r, σ2) ∧ Inv N σ2 := by
  intro x1 x2 σ hI
  obtain ⟨o, v, d, mo, hB⟩ := bridgeI hI
  obtain ⟨hd, hk, hc, hm, hcM, hn, hsd, hInv⟩ := id hB
  have hL := hInv.2.2.1
  by_cases hp : isN x1 (dQ d)
  · obtain ⟨p, hp', rfl⟩ := id hp
    obtain ⟨d1, d2, d3, d4, d5, d6, d7, d8⟩ := id hd
    refine pairR hI (fun _ _ e => fr10_plot N e) rfl (fun _ _ _ e => fr11_plot N e) rfl (if x2 = 0 then nI (dx d p) else if x2 = 1 then nI (dy d p) else if x2 = 2 then nI (dfi d p) else if x2 = 3 then nI (own d mo p) else if x2 = 4 then nI (cnt (ctg d mo p) (dn d)) else -1) ?_ (fun τ hE => ?_)
    · obtain ⟨ho, hl3, hl, hP, hQ, hW, hK, hpl, hme, hgv, hlaw, hv⟩ := id hc
      obtain ⟨x, y, f⟩ := hpl p hp'
      unfold f10_plot
      rw [noPlot_t hL hp, z_b_some]
      refine Ok.t rfl (Ok.ii (fun _ => ?_) fun _ => Ok.ii (fun _ => ?_) fun _ => Ok.ii (fun _ => ?_) fun _ => Ok.ii (fun _ => ?_) fun _ => Ok.ii (fun _ => ?_) fun _ => Ok.ret rfl)
      · refine Ok.r hl3 (kd_land ho) (Ok.c (inBn (by omega) (by decide)) (Ok.ret ?_)); rw [ixn (by omega)]; exact x
      · refine Ok.r hl3 (kd_land ho) (Ok.c (inBn (by omega) (by decide)) (Ok.ret ?_)); rw [ixn (by omega)]; exact y
      · refine Ok.r hl3 (kd_land ho) (Ok.c (inBn (by omega) (by decide)) (Ok.ret ?_)); rw [ixn (by omega)]; exact f
      · exact Ok.v (c_owner hN hd hc hm (Or.inl rfl) hp')
      · refine Ok.b (c_counting hN hd hc hm (Or.inl rfl) hp') ?_
        rintro r υ ⟨rfl, -⟩
        exact Ok.ret (bitC_bs d5)
    · unfold f11_plot
      rw [isPlot_t (hL.eq (hE.sub (by decide))) hp, z_b_some]
      refine Ok.f (by decide) (r_now hN hd (hB.S.eq hE) fun υ hG _ => ?_)
      obtain ⟨hv2, h18, hP, hQ, hW, hK, hpl, hme, hlaw⟩ := id hG.1
      obtain ⟨x, y, f⟩ := hpl p hp'
      rw [h18, m7, ixn (show 7 * v + p < 2 ^ 31 by omega), ixn (show p < 2 ^ 31 by omega)]
      refine Ok.ii (fun _ => ?_) fun _ => Ok.ii (fun _ => ?_) fun _ => Ok.ii (fun _ => ?_) fun _ => Ok.ii (fun _ => ?_) fun _ => Ok.ii (fun _ => ?_) fun _ => Ok.ret rfl
      · exact Ok.c (inBn (by omega) (by decide)) (Ok.ret x)
      · exact Ok.c (inBn (by omega) (by decide)) (Ok.ret y)
      · exact Ok.c (inBn (by omega) (by decide)) (Ok.ret f)
      · exact Ok.c (inBn (by omega) (by decide)) (Ok.ret (hG.whose hp'))
      · refine Ok.b (r_countsOf hN hd hG.1 hG.2.1 hG.2.2.1 hp') ?_
        rintro r υ ⟨rfl, -⟩
        exact Ok.ret rfl
  · refine pairR hI (fun _ _ e => fr10_plot N e) rfl (fun _ _ _ e => fr11_plot N e) rfl (-1) ?_ (fun τ hE => ?_)
    · unfold f10_plot
      rw [noPlot_f hL hp, z_b_some]
      exact Ok.f (by decide) (Ok.ret rfl)
    · unfold f11_plot
      rw [isPlot_f (hL.eq (hE.sub (by decide))) hp, z_b_some]
      exact Ok.t rfl (Ok.ret rfl)
