-- THE GRAMMAR: an E, as the class takes it down
theorem TxC.congr {σ τ : Mm} {B : Nat → Nat} {n : Nat} (h : TxC σ B n) (e3 : ∀ j, gI τ 3 j = gI σ 3 j) (e4 : ∀ j, gI τ 4 j = gI σ 4 j) (e5 : ∀ j, gL τ 5 j = gL σ 5 j) : TxC τ B n := fun r hr hv => by
  obtain ⟨r1, r2, r3, r4⟩ := h r hr hv
  exact ⟨by rw [e3]; exact r1, by rw [e4]; exact r2, fun a b c => by rw [e5]; exact r3 a b c, fun a => by rw [e5]; exact r4 a⟩
theorem c_put {N : Nat} {σ : Mm} {B : Nat → Nat} {n q t : Nat} {l : Cd} {stk : List Nat} {dp : Nat} (h : GS σ B n q t l stk dp) (hl : l.length < 416) (a b : Nat) {D : Wr} (hD : keptG D q) : ∃ τ, f4_put N q (nI a) (nI b) σ = some (nI l.length, τ) ∧ GS τ B n q t ((a, b) :: l) stk dp ∧ EqOn D σ τ := by
  obtain ⟨g1, g2, g3, g4, g5, g6, g7, g8, g9, g10, g11, g12⟩ := id h
  have hq : q ≠ 3 ∧ q ≠ 4 ∧ q ≠ 47 ∧ q ≠ 48 ∧ q + 1 ≠ 3 ∧ q + 1 ≠ 4 ∧ q + 1 ≠ 47 ∧ q + 1 ≠ 48 ∧ q + 2 ≠ 3 ∧ q + 2 ≠ 4 ∧ q + 2 ≠ 47 ∧ q + 2 ≠ 48 := by omega
  have hoff := off1 hD (a := (q, 3, none)) (by simp)
  have offI : ∀ (c k : Nat) (τ : Mm) (x : Int32), q ≤ c → c < q + 3 → EqOn D τ (sI τ c k x) := fun c k τ x h1 h2 => Same.on (L := [(q, 3, none)]) (fun id j hn => ⟨gI_o (fun e => hn ⟨_, List.mem_cons_self, ⟨by subst e; exact h1, by subst e; exact h2⟩, Or.inl rfl⟩), rfl, rfl⟩) hoff
  refine ⟨sI (sI (sI σ (q + 1) l.length (nI a)) (q + 2) l.length (nI b)) q 2 (nI (l.length + 1)), ?_, ?_, ?_⟩
  · unfold f4_put
    rw [g8, z_l_eq, if_neg (show ¬ (416 : Int32) ≤ nI l.length from nI_ngt (n := 416) hl (by decide)), zc_t (inBn hl (by decide)), z_l_eq, zc_t (inBn hl (by decide)), z_l_eq, z_l_eq, ixn (by omega), gI_o (show q ≠ q + 2 by omega), gI_o (show q ≠ q + 1 by omega), g8, nI_1]
  · have e : ∀ c j, c ≠ q → c ≠ q + 1 → c ≠ q + 2 → gI (sI (sI (sI σ (q + 1) l.length (nI a)) (q + 2) l.length (nI b)) q 2 (nI (l.length + 1))) c j = gI σ c j := fun c j h1 h2 h3 => by rw [gI_o h1, gI_o h3, gI_o h2]
    refine ⟨g1, g2, g3.congr (fun j => e 3 j (by omega) (by omega) (by omega)) (fun j => e 4 j (by omega) (by omega) (by omega)) (fun j => rfl), g4, g5, g6, by rw [e 47 _ (by omega) (by omega) (by omega)]; exact g7, gI_e, ⟨?_, ?_, g9.congr fun j hj => ⟨?_, ?_⟩⟩, by rw [e 47 _ (by omega) (by omega) (by omega)]; exact g10, g11.congr fun j _ => e 48 j (by omega) (by omega) (by omega), by rw [e 47 _ (by omega) (by omega) (by omega)]; exact g12.1, by rw [e 2 _ (by omega) (by omega) (by omega)]; exact g12.2.1, by rw [e 2 _ (by omega) (by omega) (by omega)]; exact g12.2.2⟩
    · rw [gI_o (by omega), gI_o (by omega), gI_e]
    · rw [gI_o (by omega), gI_e]
    · rw [gI_o (by omega), gI_o (by omega), gI_k (by omega)]
    · rw [gI_o (by omega), gI_k (by omega), gI_o (by omega)]
  · exact ((offI (q + 1) _ σ _ (by omega) (by omega)).tr (offI (q + 2) _ _ _ (by omega) (by omega))).tr (offI q _ _ _ (by omega) (by omega))
theorem c_await {N : Nat} {σ : Mm} {B : Nat → Nat} {n q t : Nat} {l : Cd} {stk : List Nat} {dp : Nat} (h : GS σ B n q t l stk dp) (hl : stk.length < 21) (s : Nat) {D : Wr} (hD : keptG D q) : ∃ τ, f2_await N (nI s) σ = some ((), τ) ∧ GS τ B n q t l (s :: stk) dp ∧ EqOn D σ τ := by
  obtain ⟨g1, g2, g3, g4, g5, g6, g7, g8, g9, g10, g11, g12⟩ := id h
  refine ⟨sI (sI σ 48 stk.length (nI s)) 47 8 (nI (stk.length + 1)), ?_, ?_, EqOn_sIa (EqOn_sIa EqOn.rf (off1 hD (by simp))) (off1 hD (by simp))⟩
  · unfold f2_await
    rw [g10, if_neg (show ¬ (21 : Int32) ≤ nI stk.length from nI_ngt (n := 21) hl (by decide)), zc_t (inBn hl (by decide)), z_l_eq, z_l_eq, ixn (by omega), gI_o (by decide), g10, nI_1]
  · have e : ∀ c j, c ≠ 47 → c ≠ 48 → gI (sI (sI σ 48 stk.length (nI s)) 47 8 (nI (stk.length + 1))) c j = gI σ c j := fun c j h1 h2 => by rw [gI_o h1, gI_o h2]
    refine ⟨g1, g2, g3.congr (fun j => e 3 j (by omega) (by omega)) (fun j => e 4 j (by omega) (by omega)) (fun j => rfl), g4, g5, g6, by rw [gI_k (by decide), gI_o (by decide)]; exact g7, by rw [e _ _ (by omega) (by omega)]; exact g8, g9.congr fun j hj => ⟨e _ _ (by omega) (by omega), e _ _ (by omega) (by omega)⟩, gI_e, ⟨by rw [gI_o (by decide), gI_e], g11.congr fun j hj => by rw [gI_o (by decide), gI_k (by omega)]⟩, by rw [gI_k (by decide), gI_o (by decide)]; exact g12.1, by rw [e 2 _ (by decide) (by decide)]; exact g12.2.1, by rw [e 2 _ (by decide) (by decide)]; exact g12.2.2⟩
theorem c_rank {N s : Nat} (hs : s < 2 ^ 31) {σ : Mm} : f2_rank N (nI s) σ = some (nI (rnk s), σ) := by
  have ne : ∀ c : Nat, c < 256 → s ≠ c → ¬ nI s = nI c := fun c hc hne e => hne ((nI_eq hs (by omega)).mp e)
  by_cases c6 : s = 6
  · subst c6; rfl
  · by_cases c7 : s = 7
    · subst c7; rfl
    · by_cases c8 : s = 8
      · subst c8; rfl
      · by_cases c9 : s = 9
        · subst c9; rfl
        · unfold f2_rank rnk
          rw [if_neg (show ¬ nI s = 6 from ne 6 (by decide) c6), if_neg (show ¬ nI s = 7 from ne 7 (by decide) c7), if_neg (show ¬ nI s = 8 from ne 8 (by decide) c8), if_neg (show ¬ nI s = 9 from ne 9 (by decide) c9), if_neg (by omega), if_neg (by omega)]
          rfl
/-- GS with fewer that wait -/
theorem GS.pop {σ : Mm} {B : Nat → Nat} {n q t s : Nat} {l : Cd} {stk : List Nat} {dp : Nat} (h : GS σ B n q t l (s :: stk) dp) {D : Wr} (hD : keptG D q) : GS (sI σ 47 8 (nI stk.length)) B n q t l stk dp ∧ EqOn D σ (sI σ 47 8 (nI stk.length)) := by
  obtain ⟨g1, g2, g3, g4, g5, g6, g7, g8, g9, g10, g11, g12⟩ := id h
  refine ⟨⟨g1, g2, g3.congr (fun j => gI_o (by decide)) (fun j => gI_o (by decide)) (fun j => rfl), g4, g5, g6, by rw [gI_k (by decide)]; exact g7, by rw [gI_o (by omega)]; exact g8, g9.congr fun j hj => ⟨gI_o (by omega), gI_o (by omega)⟩, gI_e, g11.2.congr fun j hj => gI_o (by decide), by rw [gI_k (by decide)]; exact g12.1, by rw [gI_o (by decide)]; exact g12.2.1, by rw [gI_o (by decide)]; exact g12.2.2⟩, EqOn_sIa EqOn.rf (off1 hD (by simp))⟩
theorem GS.dep {σ : Mm} {B : Nat → Nat} {n q t : Nat} {l : Cd} {stk : List Nat} {dp : Nat} (h : GS σ B n q t l stk dp) {D : Wr} (hD : keptG D q) (d2 : Nat) : GS (sI σ 47 9 (nI d2)) B n q t l stk d2 ∧ EqOn D σ (sI σ 47 9 (nI d2)) := by
  obtain ⟨g1, g2, g3, g4, g5, g6, g7, g8, g9, g10, g11, g12⟩ := id h
  refine ⟨⟨g1, g2, g3.congr (fun j => gI_o (by decide)) (fun j => gI_o (by decide)) (fun j => rfl), g4, g5, g6, by rw [gI_k (by decide)]; exact g7, by rw [gI_o (by omega)]; exact g8, g9.congr fun j hj => ⟨gI_o (by omega), gI_o (by omega)⟩, by rw [gI_k (by decide)]; exact g10, g11.congr fun j hj => gI_o (by decide), gI_e, by rw [gI_o (by decide)]; exact g12.2.1, by rw [gI_o (by decide)]; exact g12.2.2⟩, EqOn_sIa EqOn.rf (off1 hD (by simp))⟩
/-- signs that bind -/
def sgs (stk : List Nat) : Prop := ∀ s ∈ stk, s < 2 ^ 31
def ns (stk : List Nat) : Nat := stk.length - dpt stk
theorem rnk_11 : rnk 11 = 0 := rfl
theorem stl_ns {least : Nat} (h1 : 1 ≤ least) : ∀ {stk : List Nat} {o : Cd}, dpt (stl least stk o).1 = dpt stk ∧ (stl least stk o).2.length + (stl least stk o).1.length = o.length + stk.length ∧ (stl least stk o).1.length ≤ stk.length
  | [], o => ⟨rfl, rfl, Nat.le_refl _⟩
  | s :: r, o => by
    unfold stl
    by_cases c : least ≤ rnk s
    · rw [if_pos c]
      obtain ⟨a1, a2, a3⟩ := stl_ns h1 (stk := r) (o := (s, 0) :: o)
      have hs : s ≠ 11 := fun e => by rw [e, rnk_11] at c; omega
      refine ⟨by rw [a1]; unfold dpt; rw [List.count_cons_of_ne hs], ?_, by simp only [List.length_cons]; omega⟩
      simp only [List.length_cons] at a2 ⊢
      omega
    · rw [if_neg c]
      exact ⟨rfl, rfl, Nat.le_refl _⟩
theorem c_settle {N : Nat} (hN : 4000 ≤ N) {B : Nat → Nat} {n q t least dp : Nat} (hle : least < 2 ^ 31) {D : Wr} (hD : keptG D q) : ∀ {stk : List Nat} {l : Cd} {σ : Mm}, GS σ B n q t l stk dp → sgs stk → stk.length ≤ 21 → l.length + stk.length < 416 + dpt stk → 1 ≤ least → Ok (f2_settle N (nI least) σ) (fun _ τ => GS τ B n q t (stl least stk l).2 (stl least stk l).1 dp ∧ EqOn D σ τ) := by
  intro stk l σ h hs h21 hlen h1
  unfold f2_settle
  have key : ∀ (stk : List Nat) (fu x : Nat) (l : Cd) (σ : Mm), GS σ B n q t l stk dp → sgs stk → stk.length ≤ x → x ≤ 21 → x < fu → l.length + stk.length < 416 + dpt stk → Ok (f2_settle_6 N (nI least) fu (nI x) σ) (fun _ τ => GS τ B n q t (stl least stk l).2 (stl least stk l).1 dp ∧ EqOn D σ τ) := by
    intro stk
    induction stk with
    | nil =>
      intro fu x l σ h hs h2 h3 h4 h5
      obtain ⟨fu, rfl⟩ : ∃ f, fu = f + 1 := ⟨fu - 1, by omega⟩
      rw [f2_settle_6]
      obtain ⟨g1, g2, g3, g4, g5, g6, g7, g8, g9, g10, g11, g12⟩ := id h
      refine Ok.i (fun _ => Ok.ret ⟨h, EqOn.rf⟩) (fun _ => Ok.t ?_ (Ok.ret ⟨h, EqOn.rf⟩))
      rw [g10]
      exact nI_le (b := 0) (Nat.le_refl _) (by decide)
    | cons s r ih =>
      intro fu x l σ h hs h2 h3 h4 h5
      simp only [List.length_cons] at h2 h5
      obtain ⟨fu, rfl⟩ : ∃ f, fu = f + 1 := ⟨fu - 1, by omega⟩
      obtain ⟨g1, g2, g3, g4, g5, g6, g7, g8, g9, g10, g11, g12⟩ := id h
      have hs1 : s < 2 ^ 31 := hs s List.mem_cons_self
      have hlen1 : gI σ 47 8 = nI (r.length + 1) := g10
      rw [f2_settle_6, hlen1, show nI (r.length + 1) - 1 = nI r.length from nI_pred _, ixn (by omega), g11.1]
      refine Ok.f (nI_nle (by omega) (by omega)) (Ok.f (nI_nle (by omega) (by omega)) (Ok.c (inBn (by omega) (by decide)) (Ok.l ?_)))
      rw [c_rank hs1, z_b_some]
      have hrk : rnk s ≤ 2 := by
        unfold rnk
        split
        · omega
        · split <;> omega
      refine Ok.i (fun c => ?_) (fun c => ?_)
      · rw [nI_leI hle (by omega)] at c
        have hne : s ≠ 11 := fun e => by rw [e, rnk_11] at c; omega
        have hdp : dpt (s :: r) = dpt r := by unfold dpt; rw [List.count_cons_of_ne hne]
        have hdr : dpt r ≤ r.length := List.count_le_length
        rw [hdp] at h5
        refine Ok.r g6 (kd_q g1) ?_
        by_cases hl : l.length < 416
        · obtain ⟨τ, e1, e2, e3⟩ := c_put (N := N) h hl s 0 hD
          rw [show (0 : Int32) = nI 0 from rfl, e1, z_b_some]
          have hl2 : gI τ 47 8 = nI (r.length + 1) := e2.2.2.2.2.2.2.2.2.2.1
          obtain ⟨p1, p2⟩ := e2.pop hD
          rw [hl2, show nI (r.length + 1) - 1 = nI r.length from nI_pred _, z_l_eq, z_l_eq, show nI x + (-1 : Int32) = nI (x - 1) by rw [show x = x - 1 + 1 by omega]; exact pk_m1 _]
          refine (ih fu (x - 1) ((s, 0) :: l) _ p1 (fun y hy => hs y (List.mem_cons_of_mem _ hy)) (by omega) (by omega) (by omega) (by simp only [List.length_cons]; omega)).mono ?_
          rintro u ρ ⟨a, b⟩
          rw [show stl least (s :: r) l = stl least r ((s, 0) :: l) by rw [stl, if_pos c]]
          exact ⟨a, (e3.tr p2).tr b⟩
        · exact absurd h5 (by omega)
      · rw [nI_leI hle (by omega)] at c
        rw [show stl least (s :: r) l = (s :: r, l) by rw [stl, if_neg c]]
        exact Ok.ret ⟨h, EqOn.rf⟩
  exact key stk N 21 l σ h hs h21 (by omega) (by omega) hlen
