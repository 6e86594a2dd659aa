-- WHAT WAS: moments kept, rows recorded
theorem Snap.congr {P Q W n : Nat} {yr al un ng yr' al' un' ng' : Int32} {age gp gf gt gb gw row age' gp' gf' gt' gb' gw' row' : Nat → Int32} (hW : W ≤ 7) (h : Snap P Q W n yr al un ng age gp gf gt gb gw row)
    (h1 : yr' = yr) (h2 : al' = al) (h3 : un' = un) (h4 : ng' = ng) (h5 : ∀ w, w < 7 → age' w = age w) (h6 : ∀ g, g < n → gp' g = gp g ∧ gf' g = gf g ∧ gt' g = gt g ∧ gb' g = gb g ∧ gw' g = gw g) (h7 : ∀ k, k < 117 → row' k = row k) :
    Snap P Q W n yr' al' un' ng' age' gp' gf' gt' gb' gw' row' := by
  subst h1 h2 h3 h4
  obtain ⟨s1, s2, s3, s4, s5, ⟨s, a1, a2, a3⟩, s7, s8⟩ := h
  refine ⟨s1, s2, by rw [h7 _ (by decide)]; exact s3, by rw [h7 _ (by decide)]; exact s4, by rw [h7 _ (by decide)]; exact s5, ⟨s, a1, a2, fun w hw => by rw [h7 _ (by omega)]; exact a3 w hw⟩, fun w hw => by rw [h7 _ (by omega), h5 w (by omega)]; exact s7 w hw, fun g hg => ?_⟩
  obtain ⟨e1, e2, e3, e4, e5⟩ := h6 g hg
  rw [e1, e2, e3, e4, e5, h7 _ (by omega), h7 _ (by omega), h7 _ (by omega), h7 _ (by omega), h7 _ (by omega)]
  exact s8 g hg
theorem SnapAt.congr {σ τ : Mm} {P Q W n m g m' g' : Nat} {f f' : Nat → Int32} (hW : W ≤ 7) (h : SnapAt σ P Q W n m g f) (h1 : ∀ k, k < 4 → gI τ m' k = gI σ m k) (h2 : ∀ k, k < 7 → gI τ (m' + 1) k = gI σ (m + 1) k) (h3 : ∀ c j, 1 ≤ c → c ≤ 5 → j < n → gI τ (g' + c) j = gI σ (g + c) j) (h4 : ∀ k, k < 117 → f' k = f k) : SnapAt τ P Q W n m' g' f' := by
  unfold SnapAt at *
  exact h.congr hW (h1 0 (by decide)) (h1 1 (by decide)) (h1 2 (by decide)) (h1 3 (by decide)) h2 (fun j hj => ⟨h3 1 j (by decide) (by decide) hj, h3 2 j (by decide) (by decide) hj, h3 3 j (by decide) (by decide) hj, h3 4 j (by decide) (by decide) hj, h3 5 j (by decide) (by decide) hj⟩) h4
/-- a moment and a row that tell the same -/
theorem snap_of {σ : Mm} {d : Dt} {mo : Mo} {m g : Nat} {f : Nat → Int32} (hd : Dok d) (hk : Mok d mo) (hm : CM σ m d mo) (hg : ∀ j, j < dn d → gI σ (g + 1) j = nI (dgp d j) ∧ gI σ (g + 2) j = nI (dgf d j) ∧ gI σ (g + 3) j = nI (dgt d j) ∧ gI σ (g + 4) j = dgb d j ∧ gI σ (g + 5) j = nI (dgw d j)) (hr : RowOf f d mo) : SnapAt σ (dP d) (dQ d) (dW d) (dn d) m g f := by
  obtain ⟨d1, d2, d3, d4, d5, d6, d7, d8⟩ := id hd
  obtain ⟨m0, m1, m2, m3, m4⟩ := hm
  obtain ⟨ra, rl, r14, r15, r16, rg⟩ := hr
  refine ⟨d5, m3, r15, by rw [r14, m0], by rw [r16, m2], ⟨bs (al mo) (dW d), bs_lt _, m1, fun w hw => ?_⟩, fun w hw => ⟨ag mo w, hk w hw, m4 w hw, ra w hw⟩, fun j hj => ?_⟩
  · rw [rl w hw, bs_bit, decide_eq_true hw, Bool.true_and]; rfl
  · obtain ⟨a1, a2, a3, a4, a5⟩ := hg j hj
    obtain ⟨b1, b2, b3, b4, b5⟩ := rg j hj
    obtain ⟨q1, q2, q3, q4⟩ := d7 j hj
    exact ⟨⟨_, q1, a1, b1⟩, ⟨_, q2, a2, b2⟩, ⟨_, q3, a3, b3⟩, by rw [a4, b4], ⟨_, q4, a5, b5⟩⟩
theorem undo_new {σ τ : Mm} {P Q W n n2 u nx : Nat} {ns : Nat → Nat} (hW : W ≤ 7) (hn : SnapAt σ P Q W n 56 50 (gI σ 198)) (hu1 : u ≤ 30) (hu2 : nx < 30) (hu6 : ∀ i j, i ≤ j → j < u → ns i ≤ ns j) (hu7 : ∀ j, j < u → ns j ≤ n ∧ SnapAt σ P Q W (ns j) (74 + 2 * ((nx + 30 - u + j) % 30)) 50 (fun k => gI σ 203 (117 * j + k)))
    (hn2 : n ≤ n2) (a1 : gI τ 70 1 = nI ((nx + 1) % 30)) (a2 : gI τ 70 2 = nI (min (u + 1) 30)) (a3 : ∀ k, k < 4 → gI τ (74 + 2 * nx) k = gI σ 56 k) (a4 : ∀ k, k < 7 → gI τ (74 + 2 * nx + 1) k = gI σ 57 k)
    (a5 : ∀ c k, 74 ≤ c → c < 134 → c ≠ 74 + 2 * nx → c ≠ 74 + 2 * nx + 1 → gI τ c k = gI σ c k) (a6 : ∀ c j, 1 ≤ c → c ≤ 5 → j < n → gI τ (50 + c) j = gI σ (50 + c) j)
    (b1 : gI τ 160 63 = nI (min u 29 + 1)) (b2 : ∀ j k, k < 117 → j < min u 29 → gI τ 203 (117 * j + k) = gI σ 203 (117 * (if u = 30 then j + 1 else j) + k)) (b3 : ∀ k, k < 117 → gI τ 203 (117 * min u 29 + k) = gI σ 198 k) : V_undo τ P Q W n2 := by
  by_cases c30 : u = 30
  · refine ⟨30, (nx + 1) % 30, fun j => if j < 29 then ns (j + 1) else n, by omega, Nat.mod_lt _ (by decide), by rw [a2, c30]; rfl, by rw [b1, c30]; rfl, a1, fun i j hij hj => ?_, fun j hj => ⟨?_, ?_⟩⟩
    · show (if i < 29 then ns (i + 1) else n) ≤ (if j < 29 then ns (j + 1) else n)
      by_cases ci : i < 29
      · by_cases cj : j < 29
        · rw [if_pos ci, if_pos cj]; exact hu6 _ _ (by omega) (by omega)
        · rw [if_pos ci, if_neg cj]; exact (hu7 _ (by omega)).1
      · rw [if_neg ci, if_neg (by omega)]; exact Nat.le_refl _
    · show (if j < 29 then ns (j + 1) else n) ≤ n2
      split
      · exact Nat.le_trans (hu7 _ (by omega)).1 hn2
      · exact hn2
    · show SnapAt τ P Q W (if j < 29 then ns (j + 1) else n) _ 50 _
      by_cases cj : j < 29
      · rw [if_pos cj]
        have h := hu7 (j + 1) (by omega)
        have e : (nx + 30 - u + (j + 1)) % 30 = ((nx + 1) % 30 + 30 - 30 + j) % 30 := by omega
        rw [e] at h
        refine h.2.congr hW (fun k _ => a5 _ _ (by omega) (by omega) (by omega) (by omega)) (fun k _ => a5 _ _ (by omega) (by omega) (by omega) (by omega)) (fun c i h1 h2 h3 => a6 c i h1 h2 (by have := h.1; omega)) (fun k hk => ?_)
        rw [b2 j k hk (by omega), if_pos c30]
      · rw [if_neg cj]
        have ej : j = 29 := by omega
        have e : ((nx + 1) % 30 + 30 - 30 + j) % 30 = nx := by omega
        rw [e]
        refine hn.congr hW a3 a4 a6 (fun k hk => ?_)
        have := b3 k hk
        rw [show min u 29 = j by omega] at this
        exact this
  · refine ⟨u + 1, (nx + 1) % 30, fun j => if j < u then ns j else n, by omega, Nat.mod_lt _ (by decide), by rw [a2]; congr 1; omega, by rw [b1]; congr 1; omega, a1, fun i j hij hj => ?_, fun j hj => ⟨?_, ?_⟩⟩
    · show (if i < u then ns i else n) ≤ (if j < u then ns j else n)
      by_cases ci : i < u
      · by_cases cj : j < u
        · rw [if_pos ci, if_pos cj]; exact hu6 _ _ hij cj
        · rw [if_pos ci, if_neg cj]; exact (hu7 _ ci).1
      · rw [if_neg ci, if_neg (by omega)]; exact Nat.le_refl _
    · show (if j < u then ns j else n) ≤ n2
      split
      · rename_i hc; exact Nat.le_trans (hu7 _ hc).1 hn2
      · exact hn2
    · show SnapAt τ P Q W (if j < u then ns j else n) _ 50 _
      by_cases cj : j < u
      · rw [if_pos cj]
        have h := hu7 j cj
        have e : (nx + 30 - u + j) % 30 = ((nx + 1) % 30 + 30 - (u + 1) + j) % 30 := by omega
        rw [e] at h
        refine h.2.congr hW (fun k _ => a5 _ _ (by omega) (by omega) (by omega) (by omega)) (fun k _ => a5 _ _ (by omega) (by omega) (by omega) (by omega)) (fun c i h1 h2 h3 => a6 c i h1 h2 (by have := h.1; omega)) (fun k hk => ?_)
        rw [b2 j k hk (by omega), if_neg c30]
      · rw [if_neg cj]
        have ej : j = u := by omega
        have e : ((nx + 1) % 30 + 30 - (u + 1) + j) % 30 = nx := by omega
        rw [e]
        refine hn.congr hW a3 a4 a6 (fun k hk => ?_)
        have := b3 k hk
        rw [show min u 29 = j by omega] at this
        exact this
/-- become: what a moment is afterwards -/
theorem become_v {N : Nat} {σ : Mm} {a b : Nat} (h : a ≠ b) (h1 : a + 1 ≠ b) (h2 : a ≠ b + 1) : Ok (f5_become N a b σ) (fun _ τ => (∀ k, k < 4 → gI τ a k = gI σ b k) ∧ (∀ k, k < 7 → gI τ (a + 1) k = gI σ (b + 1) k) ∧ (∀ k, 4 ≤ k → gI τ a k = gI σ a k) ∧ (∀ c k, c ≠ a → c ≠ a + 1 → gI τ c k = gI σ c k) ∧ (∀ c k, gR τ c k = gR σ c k)) := by
  refine ⟨_, _, rfl, fun k hk => ?_, fun k hk => ?_, fun k hk => ?_, fun c k hc1 hc2 => ?_, fun c k => rfl⟩
  · rcases (show k = 0 ∨ k = 1 ∨ k = 2 ∨ k = 3 by omega) with rfl | rfl | rfl | rfl <;> simp [gI_s, gI_r, h, h.symm]
  · rw [gI_r, if_pos rfl, pk_cpy_in (Nat.zero_le _) (by omega), Nat.sub_zero, Nat.zero_add]
    show gI (sI (sI (sI (sI σ a 0 _) a 1 _) a 2 _) a 3 _) (b + 1) k = _
    rw [gI_o (Ne.symm h2), gI_o (Ne.symm h2), gI_o (Ne.symm h2), gI_o (Ne.symm h2)]
  · rw [gI_r, if_neg (by omega), gI_k (by omega), gI_k (by omega), gI_k (by omega), gI_k (by omega)]
  · rw [gI_r, if_neg hc2, gI_o hc1, gI_o hc1, gI_o hc1, gI_o hc1]
/-- keep() -/
theorem c_keep {N : Nat} {σ : Mm} {u nx : Nat} (hu : u ≤ 30) (hx : nx < 30) (h1 : gI σ 70 1 = nI nx) (h2 : gI σ 70 2 = nI u) : Ok (f6_keep N 56 σ) (fun _ τ => gI τ 70 1 = nI ((nx + 1) % 30) ∧ gI τ 70 2 = nI (min (u + 1) 30) ∧ (∀ k, k < 4 → gI τ (74 + 2 * nx) k = gI σ 56 k) ∧ (∀ k, k < 7 → gI τ (74 + 2 * nx + 1) k = gI σ 57 k) ∧ (∀ c k, c ≠ 70 → c ≠ 74 + 2 * nx → c ≠ 74 + 2 * nx + 1 → gI τ c k = gI σ c k)) := by
  unfold f6_keep
  rw [h1, ixn (by omega)]
  refine Ok.c (inBn hx (by decide)) (Ok.b (become_v (by omega) (by omega) (by omega)) ?_)
  rintro v τ ⟨b1, b2, b3, b4, b5⟩
  rw [b4 70 1 (by omega) (by omega), h1, nI_1]
  have h35 : ∀ s : Nat, s = (nx + 1) % 30 → Ok (f6_keep_35 N 56 (nI s) τ) (fun _ τ => gI τ 70 1 = nI ((nx + 1) % 30) ∧ gI τ 70 2 = nI (min (u + 1) 30) ∧ (∀ k, k < 4 → gI τ (74 + 2 * nx) k = gI σ 56 k) ∧ (∀ k, k < 7 → gI τ (74 + 2 * nx + 1) k = gI σ 57 k) ∧ (∀ c k, c ≠ 70 → c ≠ 74 + 2 * nx → c ≠ 74 + 2 * nx + 1 → gI τ c k = gI σ c k)) := by
    intro s hs
    refine ⟨_, _, rfl, ?_, ?_, fun k hk => ?_, fun k hk => ?_, fun c k c1 c2 c3 => ?_⟩
    · rw [gI_k (by decide), gI_e, hs]
    · rw [gI_e, gI_k (by decide), b4 70 2 (by omega) (by omega), h2, nI_1]
      show (if nI 30 < nI (u + 1) then nI 30 else nI (u + 1)) = _
      by_cases c : 30 < u + 1
      · rw [if_pos (nI_lt c (by omega)), Nat.min_eq_right (by omega)]
      · rw [if_neg (nI_nlt (by omega) (by omega)), Nat.min_eq_left (by omega)]
    · rw [gI_o (by omega), gI_o (by omega)]; exact b1 k hk
    · rw [gI_o (by omega), gI_o (by omega)]; exact b2 k hk
    · rw [gI_o c1, gI_o c1]; exact b4 c k c2 c3
  refine Ok.i (fun h => ?_) (fun h => ?_)
  · have h : nI 30 ≤ nI (nx + 1) := h
    rw [nI_leI (by decide) (by omega)] at h
    exact h35 0 (by omega)
  · have h : ¬ nI 30 ≤ nI (nx + 1) := h
    rw [nI_leI (by decide) (by omega)] at h
    exact h35 (nx + 1) (by omega)
theorem m117 {v w : Nat} : (117 : Int32) * nI v + nI w = nI (117 * v + w) := by
  rw [show (117 : Int32) = nI 117 from rfl, pk_mul, nI_add]
theorem r_keepsRow {N : Nat} (hN : 4000 ≤ N) {σ : Mm} : Ok (f11_keepsRow N σ) (fun _ τ => (∀ k, k < 117 → gI τ 198 k = gI σ 199 k) ∧ ∀ c k, c ≠ 198 → gI τ c k = gI σ c k) := by
  refine Ok.lp (fun fu (_ : Unit) i τ => f11_keepsRow_2 N fu i τ) 117 (fun i _ τ => (∀ k, k < i → gI τ 198 k = gI σ 199 k) ∧ ∀ c k, c ≠ 198 → gI τ c k = gI σ c k) (a := ()) ⟨fun k hk => absurd hk (Nat.not_lt_zero _), fun c k _ => rfl⟩ (by omega) ?_ ?_
  · rintro fu i a τ hi ⟨h0, hE⟩ k
    show Ok (f11_keepsRow_2 N (fu + 1) (nI i) τ) _
    rw [f11_keepsRow_2]
    refine Ok.f (nI_ngt (n := 117) hi (by decide)) (Ok.c (inBn hi (by decide)) (Ok.c (inBn hi (by decide)) (Ok.l (Ok.l ?_))))
    rw [nI_1, ixn (by omega)]
    refine k () _ ⟨fun j hj => ?_, fun c j hc => by rw [gI_o hc]; exact hE c j hc⟩
    by_cases c : j = i
    · rw [c, gI_e]; exact hE _ _ (by decide)
    · rw [gI_k c]; exact h0 j (by omega)
  · rintro fu a τ ⟨h0, hE⟩
    show Ok (f11_keepsRow_2 N (fu + 1) (nI 117) τ) _
    rw [f11_keepsRow_2]
    exact Ok.t nI_rf (Ok.ret ⟨h0, hE⟩)
theorem r_rec51 {N : Nat} (hN : 4000 ≤ N) {σ : Mm} {u : Nat} (hu : u ≤ 29) (h63 : gI σ 160 63 = nI u) : Ok (f11_records_49 N σ) (fun _ τ => gI τ 160 63 = nI (u + 1) ∧ (∀ k, k < 117 → gI τ 198 k = gI σ 199 k) ∧ (∀ j, j < 117 * u → gI τ 203 j = gI σ 203 j) ∧ (∀ k, k < 117 → gI τ 203 (117 * u + k) = gI σ 198 k)) := by
  rw [f11_records_49]
  refine Ok.lp (fun fu (_ : Unit) i τ => f11_records_51 N fu i τ) 117 (fun i _ τ => (∀ k, k < i → gI τ 203 (117 * u + k) = gI σ 198 k) ∧ (∀ j, j < 117 * u → gI τ 203 j = gI σ 203 j) ∧ ∀ c k, c ≠ 203 → gI τ c k = gI σ c k) (a := ()) ⟨fun k hk => absurd hk (Nat.not_lt_zero _), fun j _ => rfl, fun c k _ => rfl⟩ (by omega) ?_ ?_
  · rintro fu i a τ hi ⟨h0, h1, hE⟩ k
    show Ok (f11_records_51 N (fu + 1) (nI i) τ) _
    rw [f11_records_51, hE 160 63 (by decide), h63, m117]
    refine Ok.f (nI_ngt (n := 117) hi (by decide)) (Ok.c (inBn hi (by decide)) (Ok.c (inBn (by omega) (by decide)) (Ok.l (Ok.l ?_))))
    rw [nI_1, ixn (show 117 * u + i < 2 ^ 31 by omega), ixn (show i < 2 ^ 31 by omega)]
    refine k () _ ⟨fun j hj => ?_, fun j hj => ?_, fun c j hc => by rw [gI_o hc]; exact hE c j hc⟩
    · by_cases c : j = i
      · rw [c, gI_e]; exact hE _ _ (by decide)
      · rw [gI_k (by omega)]; exact h0 j (by omega)
    · rw [gI_k (by omega)]; exact h1 j hj
  · rintro fu a τ ⟨h0, h1, hE⟩
    show Ok (f11_records_51 N (fu + 1) (nI 117) τ) _
    rw [f11_records_51]
    refine Ok.t nI_rf ?_
    rw [f11_records_83, z_l_eq]
    refine Ok.b (r_keepsRow hN) ?_
    rintro v ρ ⟨k1, k2⟩
    refine Ok.ret ⟨?_, fun k hk => ?_, fun j hj => ?_, fun k hk => ?_⟩
    · rw [k2 _ _ (by decide), gI_e, hE _ _ (by decide), h63, nI_1]
    · rw [k1 k hk, gI_o (by decide)]; exact hE _ _ (by decide)
    · rw [k2 _ _ (by decide), gI_o (by decide)]; exact h1 j hj
    · rw [k2 _ _ (by decide), gI_o (by decide)]; exact h0 k hk
theorem r_records {N : Nat} (hN : 4000 ≤ N) {σ : Mm} {u : Nat} (hu : u ≤ 30) (h63 : gI σ 160 63 = nI u) : Ok (f11_records N σ) (fun _ τ => gI τ 160 63 = nI (min u 29 + 1) ∧ (∀ k, k < 117 → gI τ 198 k = gI σ 199 k) ∧ (∀ j k, k < 117 → j < min u 29 → gI τ 203 (117 * j + k) = gI σ 203 (117 * (if u = 30 then j + 1 else j) + k)) ∧ (∀ k, k < 117 → gI τ 203 (117 * min u 29 + k) = gI σ 198 k)) := by
  unfold f11_records
  rw [h63]
  refine Ok.i (fun h => ?_) (fun h => ?_)
  · have h : nI u = nI 30 := h
    rw [nI_eq (by omega) (by decide)] at h
    refine Ok.lp (fun fu (_ : Unit) i τ => f11_records_11 N fu i τ) 3393 (fun i _ τ => (∀ j, gI τ 203 j = if j < i then gI σ 203 (j + 117) else gI σ 203 j) ∧ ∀ c k, c ≠ 203 → gI τ c k = gI σ c k) (a := ()) ⟨fun j => by rw [if_neg (by omega)], fun c k _ => rfl⟩ (by omega) ?_ ?_
    · rintro fu i a τ hi ⟨h0, hE⟩ k
      show Ok (f11_records_11 N (fu + 1) (nI i) τ) _
      rw [f11_records_11, show nI i + (117 : Int32) = nI (i + 117) from nI_add i 117]
      refine Ok.f (nI_ngt (n := 3393) hi (by decide)) (Ok.c (inBn (by omega) (by decide)) (Ok.c (inBn (by omega) (by decide)) (Ok.l (Ok.l ?_))))
      rw [nI_1, ixn (show i + 117 < 2 ^ 31 by omega), ixn (show i < 2 ^ 31 by omega)]
      refine k () _ ⟨fun j => ?_, fun c j hc => by rw [gI_o hc]; exact hE c j hc⟩
      by_cases c : j = i
      · rw [c, gI_e, if_pos (by omega), h0, if_neg (by omega)]
      · rw [gI_k c, h0]
        by_cases c2 : j < i
        · rw [if_pos c2, if_pos (by omega)]
        · rw [if_neg c2, if_neg (by omega)]
    · rintro fu a τ ⟨h0, hE⟩
      show Ok (f11_records_11 N (fu + 1) (nI 3393) τ) _
      rw [f11_records_11]
      refine Ok.t nI_rf ?_
      rw [f11_records_39, z_l_eq, hE 160 63 (by decide), h63, h, show nI 30 - (1 : Int32) = nI 29 from rfl]
      refine (r_rec51 hN (u := 29) (by decide) gI_e).mono ?_
      rintro v ρ ⟨q1, q2, q3, q4⟩
      refine ⟨q1, fun k hk => ?_, fun j k hk hj => ?_, fun k hk => ?_⟩
      · rw [q2 k hk, gI_o (by decide)]; exact hE _ _ (by decide)
      · rw [q3 _ (by omega), gI_o (by decide), h0, if_pos (by omega), if_pos rfl, show 117 * j + k + 117 = 117 * (j + 1) + k by omega]
      · rw [show min 30 29 = 29 from rfl, q4 k hk, gI_o (by decide)]; exact hE _ _ (by decide)
  · have h : ¬ nI u = nI 30 := h
    rw [nI_eq (by omega) (by decide)] at h
    refine (r_rec51 hN (u := u) (by omega) h63).mono ?_
    rintro v ρ ⟨q1, q2, q3, q4⟩
    rw [show min u 29 = u by omega]
    exact ⟨q1, q2, fun j k hk hj => by rw [q3 _ (by omega), if_neg h], q4⟩
