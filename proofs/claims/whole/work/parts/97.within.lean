-- WITHIN: the reference
/-- the table as numbers -/
def Tb (σ : Mm) (V : Nat → Nat) : Prop := ∀ j, j < 896 → gI σ 205 j = nI (V j)
def Snd (d : Dt) (mo : Mo) (p : Nat) (V : Nat → Nat) : Prop := ∀ s a, s < 2 ^ dQ d → a < dQ d → V (7 * s + a) = 99999 ∨ ∃ k, Pth (wlk d mo) (askV d mo) (dQ d) p k s a (V (7 * s + a))
def Rel (d : Dt) (mo : Mo) (time : Nat) (V : Nat → Nat) (s b o : Nat) : Prop := s.testBit o = false → V (7 * s + b) ≤ time → V (7 * ad s o + o) ≤ V (7 * s + b) + wlk d mo b o + askV d mo o
def Bst (d : Dt) (time : Nat) (V : Nat → Nat) (i a m : Nat) : Prop := m ≤ 7 ∧ (m = 0 ∨ ∃ s b, s < 2 ^ dQ d ∧ b < dQ d ∧ V (7 * s + b) ≤ time ∧ m = cnt s.testBit 7 ∧ (s < i ∨ (s = i ∧ b < a))) ∧ ∀ s b, s < 2 ^ dQ d → b < dQ d → (s < i ∨ (s = i ∧ b < a)) → V (7 * s + b) ≤ time → cnt s.testBit 7 ≤ m
/-- all that is known after some steps: sets below i, and of i itself the ends below a, and of a the next below j -/
def Wi (N : Nat) (σ : Mm) (v : Nat) (d : Dt) (mo : Mo) (p time i a j m : Nat) (V : Nat → Nat) : Prop := Tb σ V ∧ Snd d mo p V ∧ V (7 * 2 ^ p + p) ≤ askV d mo p ∧ (∀ s b o, s < 2 ^ dQ d → b < dQ d → o < dQ d → (s < i ∨ (s = i ∧ (b < a ∨ (b = a ∧ o < j)))) → Rel d mo time V s b o) ∧ Bst d time V i a m ∧ RW σ d mo ∧ ML N σ v d
theorem Snd.bd {d : Dt} {mo : Mo} {p : Nat} {V : Nat → Nat} (hd : Dok d) (hp : p < dQ d) (h : Snd d mo p V) {s a : Nat} (hs : s < 2 ^ dQ d) (ha : a < dQ d) : V (7 * s + a) ≤ 99999 := by
  rcases h s a hs ha with e | ⟨k, hk⟩
  · omega
  · have h1 := Pth.ok hd.2.1 hp (wlk_le d mo) (ask_le d mo) hk
    have h2 := cnt_le (p := s.testBit) 7
    omega
theorem r_within {N : Nat} (hN : 4000 ≤ N) {σ : Mm} {v : Nat} {d : Dt} {mo : Mo} {sd : Int32} (hd : Dok d) (hS : MSt N σ v d mo sd) {p time : Nat} (hp : p < dQ d) (ht : time ≤ 999) : Ok (z_b (f11_fillsWalks N σ) fun _ σ_10 => f11_within_27 N (nI p) (nI time) N 0 σ_10) (fun r _ => ∃ m, isMx d mo p time m ∧ r = nI m ∧ m ≤ 8) := by
  obtain ⟨d1, d2, d3, d4, d5, d6, d7, d8⟩ := id hd
  have hp7 : 2 ^ dQ d ≤ 2 ^ 7 := Nat.pow_le_pow_right (by decide) d2
  have hpp : 2 ^ p < 2 ^ dQ d := Nat.pow_lt_pow_right (by decide) hp
  refine Ok.b (r_fillsWalks hN hd hS) ?_
  rintro u τ ⟨w1, w2, hcτ⟩
  refine Ok.lp (fun fu (_ : Unit) i ρ => f11_within_27 N (nI p) (nI time) fu i ρ) 896 (fun i _ ρ => (∀ j, j < i → gI ρ 205 j = nI 99999) ∧ RW ρ d mo ∧ ML N ρ v d) (a := ()) ⟨fun j hj => absurd hj (Nat.not_lt_zero _), ⟨w1, w2⟩, hcτ⟩ (by omega) ?_ ?_
  · rintro fu i a ρ hi ⟨h0, hRW, hc⟩ kk
    show Ok (f11_within_27 N (nI p) (nI time) (fu + 1) (nI i) ρ) _
    rw [f11_within_27, ixn (by omega)]
    refine Ok.f (nI_ngt (n := 896) hi (by decide)) (Ok.c (inBn hi (by decide)) (Ok.l (Ok.l ?_)))
    rw [nI_1]
    refine kk () _ ⟨fun j hj => ?_, hRW.keep, hc.k205⟩
    by_cases e : j = i
    · rw [e, gI_e]; rfl
    · rw [gI_k e]; exact h0 j (by omega)
  rintro fu a ρ ⟨h0, hRW, hc⟩
  show Ok (f11_within_27 N (nI p) (nI time) (fu + 1) (nI 896) ρ) _
  rw [f11_within_27]
  refine Ok.t nI_rf ?_
  rw [f11_within_49, b1 (by omega), m7, ixn (by omega), ixn (by omega), hRW.2 p hp]
  refine Ok.c (inBn (by omega) (by decide)) (Ok.c (inBn (by omega) (by decide)) (Ok.l ?_))
  have bit2 : ∀ x : Nat, x < 2 ^ dQ d → ∀ y, x.testBit y = true → y < dQ d := fun x hx y hy => bQ hx hy
  have hW0 : Wi N (sI ρ 205 (7 * 2 ^ p + p) (nI (askV d mo p))) v d mo p time 0 0 0 0 (fun j => if j = 7 * 2 ^ p + p then askV d mo p else 99999) := by
    refine ⟨fun j hj => ?_, fun s b hs hb => ?_, ?_, fun s b o _ _ _ h => by omega, ⟨by omega, Or.inl rfl, fun s b _ _ h => by omega⟩, hRW.keep, hc.k205⟩
    · show _ = nI (if j = 7 * 2 ^ p + p then askV d mo p else 99999)
      by_cases e : j = 7 * 2 ^ p + p
      · rw [if_pos e, e, gI_e]
      · rw [gI_k e, if_neg e]; exact h0 j hj
    · show (if 7 * s + b = 7 * 2 ^ p + p then askV d mo p else 99999) = 99999 ∨ ∃ k, Pth (wlk d mo) (askV d mo) (dQ d) p k s b (if 7 * s + b = 7 * 2 ^ p + p then askV d mo p else 99999)
      by_cases e : 7 * s + b = 7 * 2 ^ p + p
      · right
        rw [if_pos e]
        exact ⟨0, by omega, by omega, rfl⟩
      · left
        rw [if_neg e]
    · show (if 7 * 2 ^ p + p = 7 * 2 ^ p + p then askV d mo p else 99999) ≤ _
      rw [if_pos rfl]
      exact Nat.le_refl _
  refine Ok.lp (fun fu (x : Int32) i ρ => f11_within_73 N (nI time) fu x i ρ) (2 ^ dQ d) (fun i x ρ => ∃ m V, x = nI m ∧ Wi N ρ v d mo p time i 0 0 m V) ⟨0, _, rfl, hW0⟩ (by omega) ?_ ?_
  · rintro fu i x ρ hi ⟨m, V, rfl, hWi⟩ kk
    have i7 : i < 2 ^ 7 := by omega
    have hci := cnt_le (p := i.testBit) 7
    obtain ⟨hv2, h18, hP, hQ, hW, hK, hpl, hme, hlaw⟩ := id hWi.2.2.2.2.2.2
    show Ok (f11_within_73 N (nI time) (fu + 1) _ (nI i) ρ) _
    rw [f11_within_73, h18, ixn (show v < 2 ^ 31 by omega), hQ, b1 (by omega)]
    refine Ok.c (inBn hv2 (by decide)) (Ok.f (nI_ngt hi (by omega)) ?_)
    refine Ok.lp (fun fu2 (x : Int32) a ρ => f11_within_92 N (fun x3 x4 σ => f11_within_73 N (nI time) fu x3 x4 σ) (nI time) (nI i) fu2 x a ρ) (dQ d) (fun a x ρ => ∃ m V, x = nI m ∧ Wi N ρ v d mo p time i a 0 m V) ⟨m, V, rfl, hWi⟩ (by omega) ?_ ?_
    · rintro fu2 a x ρ ha ⟨m, V, rfl, hWi⟩ kk2
      obtain ⟨hT, hSn, hB0, hRe, hBt, hRW, hc⟩ := id hWi
      obtain ⟨hv2, h18, hP, hQ, hW, hK, hpl, hme, hlaw⟩ := id hc
      have hVb := hSn.bd hd hp hi ha
      show Ok (f11_within_92 N _ (nI time) (nI i) (fu2 + 1) _ (nI a) ρ) _
      rw [f11_within_92, h18, ixn (show v < 2 ^ 31 by omega), hQ, m7, ixn (show 7 * i + a < 2 ^ 31 by omega), hT _ (by omega)]
      refine Ok.c (inBn hv2 (by decide)) (Ok.f (nI_ngt ha (by omega)) (Ok.c (inBn (by omega) (by decide)) (Ok.l (Ok.i (fun c => ?_) (fun c => ?_)))))
      · rw [nI_leI (by omega) (by omega)] at c
        -- the next ones
        have inner : ∀ m2, Bst d time V i (a + 1) m2 → Ok (f11_within_145 N (fun x3 x4 σ => f11_within_73 N (nI time) fu x3 x4 σ) (fun x3 x5 σ => f11_within_92 N (fun x3 x4 σ => f11_within_73 N (nI time) fu x3 x4 σ) (nI time) (nI i) fu2 x3 x5 σ) (nI time) (nI i) (nI m2) (nI a) (nI (V (7 * i + a))) ρ) (fun r _ => ∃ m, isMx d mo p time m ∧ r = nI m ∧ m ≤ 8) := by
          intro m2 hB2
          rw [f11_within_145]
          refine Ok.lp (fun fu3 (_ : Unit) o ρ3 => f11_within_148 N (fun x3 x4 σ => f11_within_73 N (nI time) fu x3 x4 σ) (fun x3 x5 σ => f11_within_92 N (fun x3 x4 σ => f11_within_73 N (nI time) fu x3 x4 σ) (nI time) (nI i) fu2 x3 x5 σ) (nI time) (nI m2) (nI i) (nI a) (nI (V (7 * i + a))) fu3 o ρ3) (dQ d) (fun o _ ρ3 => ∃ V3, V3 (7 * i + a) = V (7 * i + a) ∧ Tb ρ3 V3 ∧ Snd d mo p V3 ∧ V3 (7 * 2 ^ p + p) ≤ askV d mo p ∧ (∀ s b o', s < 2 ^ dQ d → b < dQ d → o' < dQ d → (s < i ∨ (s = i ∧ (b < a ∨ (b = a ∧ o' < o)))) → Rel d mo time V3 s b o') ∧ Bst d time V3 i (a + 1) m2 ∧ RW ρ3 d mo ∧ ML N ρ3 v d) (a := ()) ⟨V, rfl, hT, hSn, hB0, hRe, hB2, hRW, hc⟩ (by omega) ?_ ?_
          · rintro fu3 o b ρ3 ho ⟨V3, eV, hT, hSn, hB0, hRe, hBt, hRW, hc⟩ kk3
            obtain ⟨hv2, h18, hP, hQ, hW, hK, hpl, hme, hlaw⟩ := id hc
            have hwl := wlk_le d mo a o
            have hak := ask_le d mo o
            show Ok (f11_within_148 N _ _ (nI time) (nI m2) (nI i) (nI a) (nI (V (7 * i + a))) (fu3 + 1) (nI o) ρ3) _
            rw [f11_within_148, h18, ixn (show v < 2 ^ 31 by omega), hQ, bit_sr (by omega) (by omega), m7, b1 (by omega), orN (by omega) (by have := p31 (i := o) (by omega); omega), m7]
            refine Ok.c (inBn hv2 (by decide)) (Ok.f (nI_ngt ho (by omega)) (Ok.i (fun c2 => ?_) (fun c2 => ?_)))
            · have hb : i.testBit o = true := by
                cases e : i.testBit o
                · rw [e] at c2; exact absurd c2 (by decide)
                · rfl
              rw [f11_within_238, z_l_eq, nI_1]
              refine kk3 () _ ⟨V3, eV, hT, hSn, hB0, fun s b o' h1 h2 h3 h4 => ?_, hBt, hRW, hc⟩
              by_cases e : s = i ∧ b = a ∧ o' = o
              · obtain ⟨rfl, rfl, rfl⟩ := e
                intro hno
                rw [hb] at hno
                exact Bool.noConfusion hno
              · exact hRe s b o' h1 h2 h3 (by omega)
            · have hb : i.testBit o = false := by
                cases e : i.testBit o
                · rfl
                · rw [e] at c2; exact absurd rfl c2
              have hal : i ||| 2 ^ o = ad i o := rfl
              have had := ad_lt (a := o) hi ho
              have hgt := ad_gt i7 (show o < 7 by omega) hb
              have hVt := hSn.bd hd hp had ho
              rw [hal]
              refine Ok.l (Ok.c (inBn (by omega) (by decide)) (Ok.c (inBn (by omega) (by decide)) (Ok.l (Ok.c (inBn (by omega) (by decide)) ?_))))
              rw [ixn (show 7 * a + o < 2 ^ 31 by omega), ixn (show o < 2 ^ 31 by omega), ixn (show 7 * ad i o + o < 2 ^ 31 by omega), hRW.1 a o ha ho, hRW.2 o ho, nI_add, nI_add, hT (7 * ad i o + o) (by omega)]
              refine Ok.i (fun c3 => ?_) (fun c3 => ?_)
              · rw [nI_leI (by omega) (by omega)] at c3
                rw [f11_within_238, z_l_eq, nI_1]
                refine kk3 () _ ⟨V3, eV, hT, hSn, hB0, fun s b o' h1 h2 h3 h4 => ?_, hBt, hRW, hc⟩
                by_cases e : s = i ∧ b = a ∧ o' = o
                · obtain ⟨rfl, rfl, rfl⟩ := e
                  intro _ _
                  rw [eV]
                  exact c3
                · exact hRe s b o' h1 h2 h3 (by omega)
              · rw [nI_leI (by omega) (by omega)] at c3
                refine Ok.c (inBn (by omega) (by decide)) (Ok.l ?_)
                rw [f11_within_238, z_l_eq, nI_1]
                obtain ⟨x, hx⟩ : ∃ x, x = V (7 * i + a) + wlk d mo a o + askV d mo o := ⟨_, rfl⟩
                obtain ⟨at', hat⟩ : ∃ z, z = 7 * ad i o + o := ⟨_, rfl⟩
                rw [← hx, ← hat] at c3 ⊢
                have V4 : ∀ j, (fun j => if j = at' then x else V3 j) j ≤ V3 j := fun j => by
                  show (if j = at' then x else V3 j) ≤ V3 j
                  by_cases e : j = at'
                  · rw [if_pos e, e]; omega
                  · rw [if_neg e]; exact Nat.le_refl _
                have V4o : ∀ s b, s ≤ i → b < dQ d → (fun j => if j = at' then x else V3 j) (7 * s + b) = V3 (7 * s + b) := fun s b h1 h2 => by
                  show (if 7 * s + b = at' then x else V3 (7 * s + b)) = _
                  rw [if_neg (by omega)]
                refine kk3 () _ ⟨fun j => if j = at' then x else V3 j, ?_, ?_, ?_, ?_, fun s b o' h1 h2 h3 h4 => ?_, ?_, hRW.keep, hc.k205⟩
                · rw [V4o i a (Nat.le_refl _) ha]; exact eV
                · intro j hj
                  show _ = nI (if j = at' then x else V3 j)
                  by_cases e : j = at'
                  · rw [if_pos e, e, gI_e]
                  · rw [gI_k e, if_neg e]; exact hT j hj
                · intro s b hs hb'
                  show (if 7 * s + b = at' then x else V3 (7 * s + b)) = 99999 ∨ ∃ k, Pth (wlk d mo) (askV d mo) (dQ d) p k s b (if 7 * s + b = at' then x else V3 (7 * s + b))
                  by_cases e : 7 * s + b = at'
                  · rw [if_pos e]
                    right
                    rcases hSn i a hi ha with e9 | ⟨k, hk⟩
                    · rw [eV] at e9; omega
                    · rw [eV] at hk
                      refine ⟨k + 1, i, a, V (7 * i + a), hk, ?_, hb', ?_, ?_⟩
                      · rw [show b = o by omega]; exact hb
                      · rw [show b = o by omega]; omega
                      · rw [show b = o by omega]; exact hx
                  · rw [if_neg e]; exact hSn s b hs hb'
                · exact Nat.le_trans (V4 _) hB0
                · by_cases e : s = i ∧ b = a ∧ o' = o
                  · obtain ⟨rfl, rfl, rfl⟩ := e
                    intro _ _
                    rw [V4o s b (Nat.le_refl _) ha, eV]
                    show (if 7 * ad s o' + o' = at' then x else V3 (7 * ad s o' + o')) ≤ _
                    rw [if_pos hat.symm, hx]
                    exact Nat.le_refl _
                  · have hr := hRe s b o' h1 h2 h3 (by omega)
                    intro q1 q2
                    have hsi : s ≤ i := by omega
                    rw [V4o s b hsi h2] at q2 ⊢
                    exact Nat.le_trans (V4 _) (hr q1 q2)
                · obtain ⟨b1', b2', b3'⟩ := hBt
                  refine ⟨b1', ?_, fun s b h1 h2 h3 h4 => ?_⟩
                  · rcases b2' with e | ⟨s, b, q1, q2, q3, q4, q5⟩
                    · exact Or.inl e
                    · exact Or.inr ⟨s, b, q1, q2, Nat.le_trans (V4 _) q3, q4, q5⟩
                  · have hsi : s ≤ i := by omega
                    rw [V4o s b hsi h2] at h4
                    exact b3' s b h1 h2 h3 h4
          · rintro fu3 b ρ3 ⟨V3, eV, hT, hSn, hB0, hRe, hBt, hRW, hc⟩
            obtain ⟨hv2, h18, hP, hQ, hW, hK, hpl, hme, hlaw⟩ := id hc
            show Ok (f11_within_148 N _ _ (nI time) (nI m2) (nI i) (nI a) (nI (V (7 * i + a))) (fu3 + 1) (nI (dQ d)) ρ3) _
            rw [f11_within_148, h18, ixn (show v < 2 ^ 31 by omega), hQ]
            refine Ok.c (inBn hv2 (by decide)) (Ok.t nI_rf ?_)
            rw [f11_within_244, z_l_eq, nI_1]
            exact kk2 _ _ ⟨m2, V3, rfl, hT, hSn, hB0, fun s b o' h1 h2 h3 h4 => hRe s b o' h1 h2 h3 (by omega), hBt, hRW, hc⟩
        rw [r_bits hN (by omega), z_b_some, cnt7 i7]
        obtain ⟨b1', b2', b3'⟩ := hBt
        refine Ok.i (fun c2 => ?_) (fun c2 => ?_)
        · rw [nI_leI (by omega) (by omega)] at c2
          refine inner m ⟨b1', ?_, fun s b h1 h2 h3 h4 => ?_⟩
          · rcases b2' with e | ⟨s, b, q1, q2, q3, q4, q5⟩
            · exact Or.inl e
            · exact Or.inr ⟨s, b, q1, q2, q3, q4, by omega⟩
          · by_cases e : s = i ∧ b = a
            · rw [e.1]; exact c2
            · exact b3' s b h1 h2 (by omega) h4
        · rw [nI_leI (by omega) (by omega)] at c2
          rw [r_bits hN (by omega), z_b_some, cnt7 i7]
          refine inner (cnt i.testBit 7) ⟨hci, Or.inr ⟨i, a, hi, ha, c, rfl, by omega⟩, fun s b h1 h2 h3 h4 => ?_⟩
          by_cases e : s = i
          · rw [e]; exact Nat.le_refl _
          · have := b3' s b h1 h2 (by omega) h4
            omega
      · rw [nI_leI (by omega) (by omega)] at c
        rw [f11_within_244, z_l_eq, nI_1]
        obtain ⟨b1', b2', b3'⟩ := hBt
        refine kk2 _ _ ⟨m, V, rfl, hT, hSn, hB0, fun s b o' h1 h2 h3 h4 => ?_, ⟨b1', ?_, fun s b h1 h2 h3 h4 => ?_⟩, hRW, hc⟩
        · by_cases e : s = i ∧ b = a
          · obtain ⟨rfl, rfl⟩ := e
            intro _ q
            exact absurd q c
          · exact hRe s b o' h1 h2 h3 (by omega)
        · rcases b2' with e | ⟨s, b, q1, q2, q3, q4, q5⟩
          · exact Or.inl e
          · exact Or.inr ⟨s, b, q1, q2, q3, q4, by omega⟩
        · by_cases e : s = i ∧ b = a
          · obtain ⟨rfl, rfl⟩ := e
            exact absurd h4 c
          · exact b3' s b h1 h2 (by omega) h4
    · rintro fu2 x ρ ⟨m, V, rfl, hT, hSn, hB0, hRe, ⟨b1', b2', b3'⟩, hRW, hc⟩
      obtain ⟨hv2, h18, hP, hQ, hW, hK, hpl, hme, hlaw⟩ := id hc
      show Ok (f11_within_92 N _ (nI time) (nI i) (fu2 + 1) _ (nI (dQ d)) ρ) _
      rw [f11_within_92, h18, ixn (show v < 2 ^ 31 by omega), hQ]
      refine Ok.c (inBn hv2 (by decide)) (Ok.t nI_rf ?_)
      rw [f11_within_250, z_l_eq, nI_1]
      refine kk _ _ ⟨m, V, rfl, hT, hSn, hB0, fun s b o' h1 h2 h3 h4 => hRe s b o' h1 h2 h3 (by omega), ⟨b1', ?_, fun s b h1 h2 h3 h4 => b3' s b h1 h2 (by omega) h4⟩, hRW, hc⟩
      rcases b2' with e | ⟨s, b, q1, q2, q3, q4, q5⟩
      · exact Or.inl e
      · exact Or.inr ⟨s, b, q1, q2, q3, q4, by omega⟩
  · rintro fu x ρ ⟨m, V, rfl, hT, hSn, hB0, hRe, ⟨b1', b2', b3'⟩, hRW, hc⟩
    obtain ⟨hv2, h18, hP, hQ, hW, hK, hpl, hme, hlaw⟩ := id hc
    show Ok (f11_within_73 N (nI time) (fu + 1) _ (nI (2 ^ dQ d)) ρ) _
    rw [f11_within_73, h18, ixn (show v < 2 ^ 31 by omega), hQ, b1 (by omega)]
    refine Ok.c (inBn hv2 (by decide)) (Ok.t nI_rf (Ok.ret ⟨m, ⟨?_, fun t hw => ?_⟩, rfl, by omega⟩))
    · rcases b2' with e | ⟨s, b, q1, q2, q3, q4, q5⟩
      · exact Or.inl e
      · right
        rcases hSn s b q1 q2 with e | ⟨k, hk⟩
        · omega
        · obtain ⟨o1, o2, o3, o4, o5, o6⟩ := Pth.ok d2 hp (wlk_le d mo) (ask_le d mo) hk
          have s7 : s < 2 ^ 7 := by omega
          have hlow := Pth.low d2 hp (wlk_le d mo) (ask_le d mo) hk 0 (by decide) (fun i hi => by rw [Nat.zero_testBit] at hi; exact Bool.noConfusion hi)
          have e0 : thr (wlk d mo) 0 b = 0 := by
            rw [thr_eq (by decide), show nxt (wlk d mo) 0 b = none from (bst_ge (n := 0) (m := 7) (by omega) (fun i _ _ => Nat.zero_testBit i)).trans rfl]
            rfl
          rw [Nat.or_zero, sA_z (s := 0) (fun i _ => Nat.zero_testBit i), e0] at hlow
          have hcr := cnt_rm s7 o3
          have hlt := rm_lt s7 o3
          exact ⟨rm s p, ⟨by omega, rm_q s7, by omega⟩, by omega⟩
    · obtain ⟨t1, t2, t3⟩ := hw
      have hpth : Pth (wlk d mo) (askV d mo) (dQ d) p 0 (2 ^ p) p (askV d mo p) := ⟨rfl, rfl, rfl⟩
      obtain ⟨k2, a2, hk2⟩ := Pth.up d2 (t := t) hpth t1 rfl (fun i hi => by
        rw [Nat.testBit_two_pow]
        refine decide_eq_false fun e => ?_
        rw [← e, t2] at hi
        exact Bool.noConfusion hi)
      -- each path that is short enough is found
      have found : ∀ k s a c, Pth (wlk d mo) (askV d mo) (dQ d) p k s a c → c ≤ time → V (7 * s + a) ≤ c := by
        intro k
        induction k with
        | zero =>
          rintro s a c ⟨rfl, rfl, rfl⟩ _
          exact hB0
        | succ k ih =>
          rintro s a c ⟨s', b, c', h1, h2, h3, rfl, rfl⟩ hc
          obtain ⟨o1, o2, o3, o4, o5, o6⟩ := Pth.ok d2 hp (wlk_le d mo) (ask_le d mo) h1
          have q1 := ih s' b c' h1 (by omega)
          have q2 := hRe s' b a o1 o5 h3 (by omega) h2 (by omega)
          omega
      have q := found k2 _ a2 _ hk2 t3
      obtain ⟨o1, o2, o3, o4, o5, o6⟩ := Pth.ok d2 hp (wlk_le d mo) (ask_le d mo) hk2
      have hb3 := b3' _ a2 o1 o5 (by omega) (by omega)
      have t7 : t < 2 ^ 7 := by omega
      rw [Nat.or_comm] at hb3
      have := cnt_ad t7 (show p < 7 by omega) t2
      unfold ad at this
      omega
theorem pr_within {N : Nat} (hN : 4000 ≤ N) : ∀ (x1 x2 : Int32) (σ : Mm), Inv N σ → ∃ (r : Int32) (σ1 σ2 : Mm), f10_within N x1 x2 σ = some (r, σ1) ∧ f11_within N x1 x2 σ1 = some (r, σ2) ∧ Inv N σ2 := by
  intro x1 x2 σ hI
  obtain ⟨o, v, d, mo, hB⟩ := bridgeI hI
  obtain ⟨hd, hk, hc, hm, hcM, hn, hsd, hInv⟩ := id hB
  have hL := hInv.2.2.1
  have hNw := hInv.2.2.2.2.1
  obtain ⟨d1, d2, d3, d4, d5, d6, d7, d8⟩ := id hd
  have hp7 : 2 ^ dQ d ≤ 2 ^ 7 := Nat.pow_le_pow_right (by decide) d2
  by_cases hp : isN x1 (dQ d)
  · by_cases hy : isN x2 1000
    · obtain ⟨p, hp', rfl⟩ := id hp
      obtain ⟨t, ht', rfl⟩ := id hy
      have hin : ∀ τ, f11_in N (nI t) 0 999 τ = some (1, τ) := fun τ => in_t (n := 1000) (by decide) hy
      refine pairQ hI (fun _ _ e => fr10_within N e) rfl (fun _ _ _ e => fr11_within N e) rfl (P := fun r => ∃ m, isMx d mo p t m ∧ r = nI m ∧ m ≤ 8) ?_ ?_
      · obtain ⟨ho, hl3, hl, hP, hQ, hW, hK, hpl, hme, hgv, hlaw, hv⟩ := id hc
        refine gd0 (noPlot_t hL hp) (Ok.f (nI_pos (by omega)) (Ok.t (nI_le (b := 999) (by omega) (by decide)) (Ok.r hl3 (kd_land ho) (Ok.l ?_))))
        have hall := bs_all (n := dQ d)
        rw [hQ, sub1N (by omega)]
        refine Ok.b (c_measure hN hd hc hm (by omega)) ?_
        rintro u τ ⟨k1, k2⟩
        refine Ok.b (c_mostFrom hN hd hp' (by omega) hall (fun i hi => by rw [bs_bit, decide_eq_true hi]; rfl) k1 k2) ?_
        rintro r υ hr
        exact Ok.ret hr
      · rintro r ⟨m, hm1, rfl, hm8⟩ τ hE
        refine gd1 (isPlot_t (hB.L hE) hp) (gd1 (hin τ) ?_)
        refine (r_within hN hd (hB.S.eq hE) hp' (by omega)).mono ?_
        rintro r υ ⟨m2, hm2, rfl, hm28⟩
        have : m2 = m := by
          obtain ⟨a1, a2⟩ := hm1
          obtain ⟨b1, b2⟩ := hm2
          have l1 : m ≤ m2 := by
            rcases a1 with e | ⟨s, hs, e⟩
            · omega
            · have := b2 s hs; omega
          have l2 : m2 ≤ m := by
            rcases b1 with e | ⟨s, hs, e⟩
            · omega
            · have := a2 s hs; omega
          omega
        rw [this]
    · have hb : x2 < 0 ∨ ¬ x2 ≤ 999 := by
        by_cases c : x2 < 0
        · exact Or.inl c
        · obtain ⟨j, hj, rfl⟩ := nI_of c
          right
          by_cases c2 : j < 1000
          · exact absurd ⟨j, c2, rfl⟩ hy
          · exact nI_ge (a := 999) (by omega) hj
      have hin : ∀ τ, f11_in N x2 0 999 τ = some (0, τ) := fun τ => in_f (n := 1000) (by decide) hy
      refine pairR hI (fun _ _ e => fr10_within N e) rfl (fun _ _ _ e => fr11_within N e) rfl (-1) (gd0 (noPlot_t hL hp) ?_) (fun τ hE => gd1 (isPlot_t (hB.L hE) hp) (gd0 (hin τ) (Ok.ret rfl)))
      by_cases c : x2 < 0
      · exact Ok.t c (Ok.ret rfl)
      · rcases hb with e | e
        · exact absurd e c
        · exact Ok.f c (Ok.f e (Ok.ret rfl))
  · exact pairR hI (fun _ _ e => fr10_within N e) rfl (fun _ _ _ e => fr11_within N e) rfl (-1) (gd1 (noPlot_f hL hp) (Ok.ret rfl)) (fun τ hE => gd0 (isPlot_f (hB.L hE) hp) (Ok.ret rfl))
