-- BITS: sets as numbers
def bs (p : Nat → Bool) : Nat → Nat
  | 0 => 0
  | n + 1 => bs p n + (if p n then 2 ^ n else 0)
def cnt (p : Nat → Bool) : Nat → Nat
  | 0 => 0
  | n + 1 => cnt p n + (if p n then 1 else 0)
theorem bs_lt {p : Nat → Bool} : ∀ n, bs p n < 2 ^ n
  | 0 => Nat.one_pos
  | n + 1 => by
    have := bs_lt (p := p) n
    unfold bs
    split <;> rw [Nat.pow_succ] <;> omega
theorem bs_or1 {p : Nat → Bool} {n : Nat} : bs p n ||| 2 ^ n = bs p n + 2 ^ n := by
  have h := Nat.two_pow_add_eq_or_of_lt (bs_lt (p := p) n) 1
  rw [Nat.mul_one] at h
  rw [Nat.or_comm, ← h, Nat.add_comm]
theorem bs_bit {p : Nat → Bool} : ∀ {n i : Nat}, (bs p n).testBit i = (decide (i < n) && p i)
  | 0, i => by simp [bs]
  | n + 1, i => by
    unfold bs
    have ih := bs_bit (p := p) (n := n) (i := i)
    by_cases h : p n = true
    · rw [if_pos h, ← bs_or1, Nat.testBit_or, ih, Nat.testBit_two_pow]
      by_cases e : n = i
      · subst e; simp [h]
      · have : (decide (i < n + 1)) = decide (i < n) := by rw [decide_eq_decide]; omega
        simp [e, this]
    · rw [if_neg h, Nat.add_zero, ih]
      by_cases e : n = i
      · subst e; simp [h]
      · have : (decide (i < n + 1)) = decide (i < n) := by rw [decide_eq_decide]; omega
        simp [this]
theorem bs_ext {s : Nat} {p : Nat → Bool} {n : Nat} (h : ∀ i, s.testBit i = (decide (i < n) && p i)) : s = bs p n := Nat.eq_of_testBit_eq fun i => by rw [h, bs_bit]
theorem bs_of {s n : Nat} (h : s < 2 ^ n) : s = bs s.testBit n := bs_ext fun i => by
  by_cases hi : i < n
  · simp [hi]
  · have := Nat.testBit_lt_two_pow (Nat.lt_of_lt_of_le h (Nat.pow_le_pow_right (by decide) (Nat.le_of_not_lt hi)))
    simp [hi, this]
theorem bs_congr {p q : Nat → Bool} {n : Nat} (h : ∀ i, i < n → p i = q i) : bs p n = bs q n := bs_ext fun i => by
  rw [bs_bit]
  by_cases hi : i < n
  · simp [hi, h i hi]
  · simp [hi]
theorem bs_more {p : Nat → Bool} {n m : Nat} (h : n ≤ m) : bs p n = bs (fun i => decide (i < n) && p i) m := bs_ext fun i => by
  rw [bs_bit]
  by_cases hi : i < n
  · simp [hi, Nat.lt_of_lt_of_le hi h]
  · simp [hi]
theorem bs_or {p q : Nat → Bool} {n : Nat} : bs p n ||| bs q n = bs (fun i => p i || q i) n := bs_ext fun i => by
  rw [Nat.testBit_or, bs_bit, bs_bit]
  cases decide (i < n) <;> simp
theorem bs_and {p q : Nat → Bool} {n : Nat} : bs p n &&& bs q n = bs (fun i => p i && q i) n := bs_ext fun i => by
  rw [Nat.testBit_and, bs_bit, bs_bit]
  cases decide (i < n) <;> simp
theorem bs_z {n : Nat} : bs (fun _ => false) n = 0 := (bs_ext fun i => by simp).symm
theorem bs_inj {p q : Nat → Bool} {n : Nat} (h : bs p n = bs q n) {i : Nat} (hi : i < n) : p i = q i := by
  have := congrArg (fun s => s.testBit i) h
  simpa [bs_bit, hi] using this
theorem bs_0 {p : Nat → Bool} {n : Nat} : bs p n = 0 ↔ ∀ i, i < n → p i = false := by
  constructor
  · intro h i hi
    rw [← bs_z (n := n)] at h
    exact bs_inj h hi
  · intro h
    rw [← bs_z (n := n)]
    exact bs_congr h
theorem cnt_congr {p q : Nat → Bool} : ∀ {n : Nat}, (∀ i, i < n → p i = q i) → cnt p n = cnt q n
  | 0, _ => rfl
  | n + 1, h => by
    unfold cnt
    rw [cnt_congr (n := n) fun i hi => h i (by omega), h n (by omega)]
theorem cnt_le {p : Nat → Bool} : ∀ n, cnt p n ≤ n
  | 0 => Nat.le_refl _
  | n + 1 => by
    have := cnt_le (p := p) n
    unfold cnt
    split <;> omega
theorem cnt_add {p : Nat → Bool} {n : Nat} : ∀ m, cnt p (n + m) = cnt p n + cnt (fun i => p (n + i)) m
  | 0 => rfl
  | m + 1 => by
    show cnt p (n + m) + (if p (n + m) then 1 else 0) = cnt p n + (cnt _ m + (if p (n + m) then 1 else 0))
    rw [cnt_add m]
    omega
theorem bs_add {p : Nat → Bool} {n : Nat} : ∀ m, bs p (n + m) = bs p n + 2 ^ n * bs (fun i => p (n + i)) m
  | 0 => by simp [bs]
  | m + 1 => by
    show bs p (n + m) + (if p (n + m) then 2 ^ (n + m) else 0) = bs p n + 2 ^ n * (bs _ m + (if p (n + m) then 2 ^ m else 0))
    rw [bs_add m, Nat.mul_add, Nat.pow_add]
    split <;> omega
theorem cnt_z {p : Nat → Bool} : ∀ {n : Nat}, (∀ i, i < n → p i = false) → cnt p n = 0
  | 0, _ => rfl
  | n + 1, h => by
    unfold cnt
    rw [cnt_z (n := n) fun i hi => h i (by omega), h n (by omega)]
    rfl
theorem cnt_0 {p : Nat → Bool} : ∀ {n : Nat}, cnt p n = 0 → ∀ i, i < n → p i = false
  | 0, _, i, hi => absurd hi (Nat.not_lt_zero i)
  | n + 1, h, i, hi => by
    unfold cnt at h
    by_cases c : p n = true
    · rw [if_pos c] at h; omega
    · rw [if_neg c] at h
      by_cases e : i = n
      · subst e; simpa using c
      · exact cnt_0 (n := n) h i (by omega)
theorem cnt_more {p : Nat → Bool} {n m : Nat} (h : n ≤ m) : cnt (fun i => decide (i < n) && p i) m = cnt p n := by
  obtain ⟨k, rfl⟩ : ∃ k, m = n + k := ⟨m - n, by omega⟩
  rw [cnt_add, cnt_z (n := k) (fun i _ => by simp; omega), Nat.add_zero]
  exact cnt_congr fun i hi => by simp [hi]
-- Int32
theorem i32_ext {a b : Int32} (h : a.toBitVec.toNat = b.toBitVec.toNat) : a = b := Int32.toBitVec_inj.mp (BitVec.eq_of_toNat_eq h)
theorem sh31 {i : Nat} (h : i < 32) : (nI i &&& 31 : Int32) = nI i := by
  rw [pk_andN (by omega) 5 rfl, Nat.mod_eq_of_lt (by omega)]
theorem smod32 {i : Nat} (h : i < 32) : ((nI i).toBitVec.smod 32).toNat = i := by
  have : ∀ i, i < 32 → ((nI i).toBitVec.smod 32).toNat = i := by decide
  exact this i h
theorem b1 {i : Nat} (h : i < 32) : ((1 : Int32) <<< (nI i &&& 31)) = nI (2 ^ i) := by
  rw [sh31 h]
  have : ∀ i, i < 32 → ((1 : Int32) <<< nI i) = nI (2 ^ i) := by decide
  exact this i h
theorem shrN {n i : Nat} (hn : n < 2 ^ 31) (h : i < 32) : nI n >>> (nI i &&& 31) = nI (n / 2 ^ i) := by
  rw [sh31 h]
  exact pk_shrN hn _ i (smod32 h)
theorem umod32 {i : Nat} (h : i < 32) : (((nI i).toUInt32 &&& Int32.toUInt32 31).toBitVec % 32).toNat = i := by
  have : ∀ i, i < 32 → (((nI i).toUInt32 &&& Int32.toUInt32 31).toBitVec % 32).toNat = i := by decide
  exact this i h
theorem ushN {n i : Nat} (hn : n < 2 ^ 32) (h : i < 32) : ush (nI n) (nI i) = nI (n / 2 ^ i) := pk_ushrN hn _ i (umod32 h)
theorem andN {a b : Nat} (ha : a < 2 ^ 32) (hb : b < 2 ^ 32) : nI a &&& nI b = nI (a &&& b) := by
  apply i32_ext
  rw [Int32.toBitVec_and, BitVec.toNat_and, pk_tn ha, pk_tn hb, pk_tn (Nat.lt_of_le_of_lt Nat.and_le_left ha)]
theorem orN {a b : Nat} (ha : a < 2 ^ 32) (hb : b < 2 ^ 32) : nI a ||| nI b = nI (a ||| b) := by
  apply i32_ext
  rw [Int32.toBitVec_or, BitVec.toNat_or, pk_tn ha, pk_tn hb, pk_tn (Nat.or_lt_two_pow ha hb)]
theorem xorN {a b : Nat} (ha : a < 2 ^ 32) (hb : b < 2 ^ 32) : nI a ^^^ nI b = nI (a ^^^ b) := by
  apply i32_ext
  rw [Int32.toBitVec_xor, BitVec.toNat_xor, pk_tn ha, pk_tn hb, pk_tn (Nat.xor_lt_two_pow ha hb)]
theorem and1 {n : Nat} (h : n < 2 ^ 32) : nI n &&& 1 = nI (n % 2) := pk_andN h 1 rfl
theorem bit01 {b : Bool} : (if b = true then (1 : Int32) else 0) = nI (if b = true then 1 else 0) := by cases b <;> rfl
/-- (s >> i) & 1 -/
theorem bit_sr {s i : Nat} (hs : s < 2 ^ 31) (hi : i < 32) : (nI s >>> (nI i &&& 31)) &&& 1 = if s.testBit i then 1 else 0 := by
  rw [shrN hs hi, and1 (by have := Nat.div_le_self s (2 ^ i); omega), Nat.testBit_eq_decide_div_mod_eq]
  rcases Nat.mod_two_eq_zero_or_one (s / 2 ^ i) with e | e <;> rw [e] <;> rfl
theorem bit_usr {s i : Nat} (hs : s < 2 ^ 31) (hi : i < 32) : (ush (nI s) (nI i)) &&& 1 = if s.testBit i then 1 else 0 := by
  rw [ushN (by omega) hi, and1 (by have := Nat.div_le_self s (2 ^ i); omega), Nat.testBit_eq_decide_div_mod_eq]
  rcases Nat.mod_two_eq_zero_or_one (s / 2 ^ i) with e | e <;> rw [e] <;> rfl
theorem p31 {i : Nat} (hi : i < 31) : 2 ^ i < 2 ^ 31 := Nat.pow_lt_pow_right (by decide) hi
/-- s & (1 << i) -/
theorem bit_and {s i : Nat} (hs : s < 2 ^ 31) (hi : i < 31) : (nI s &&& nI (2 ^ i) = 0) = (s.testBit i = false) := by
  have h2 := p31 hi
  rw [andN (by omega) (by omega)]
  refine propext ⟨fun h => ?_, fun h => ?_⟩
  · rw [show (0 : Int32) = nI 0 from rfl, nI_eq (Nat.lt_of_le_of_lt Nat.and_le_left hs) (by decide)] at h
    have := congrArg (fun z => z.testBit i) h
    simpa [Nat.testBit_and, Nat.testBit_two_pow] using this
  · have : s &&& 2 ^ i = 0 := Nat.eq_of_testBit_eq fun j => by
      rw [Nat.testBit_and, Nat.testBit_two_pow, Nat.zero_testBit]
      by_cases e : i = j
      · subst e; simp [h]
      · simp [e]
    rw [this]; rfl
/-- set |= 1 << i -/
theorem bs_step {p : Nat → Bool} {i : Nat} (hi : i < 31) (h : p i = true) : nI (bs p i) ||| nI (2 ^ i) = nI (bs p (i + 1)) := by
  have h1 := bs_lt (p := p) i
  have h2 := p31 hi
  rw [orN (by omega) (by omega), bs_or1]
  show _ = nI (bs p i + _)
  rw [if_pos h]
theorem bs_skip {p : Nat → Bool} {i : Nat} (h : p i = false) : bs p (i + 1) = bs p i := by
  show bs p i + _ = _
  rw [if_neg (by rw [h]; decide), Nat.add_zero]
theorem cnt_step {p : Nat → Bool} {i : Nat} (h : p i = true) : cnt p (i + 1) = cnt p i + 1 := by
  show cnt p i + _ = _
  rw [if_pos h]
theorem cnt_skip {p : Nat → Bool} {i : Nat} (h : p i = false) : cnt p (i + 1) = cnt p i := by
  show cnt p i + _ = _
  rw [if_neg (by rw [h]; decide), Nat.add_zero]
/-- a & ~b -/
theorem diffN {p q : Nat → Bool} {n : Nat} (hn : n ≤ 31) : nI (bs p n) &&& ~~~ (nI (bs q n)) = nI (bs (fun i => p i && !q i) n) := by
  have hp : ∀ p : Nat → Bool, bs p n < 2 ^ 32 := fun p => Nat.lt_of_lt_of_le (bs_lt n) (Nat.pow_le_pow_right (by decide) (by omega))
  apply Int32.toBitVec_inj.mp
  refine BitVec.eq_of_getLsbD_eq fun i hi => ?_
  have g : ∀ p : Nat → Bool, (nI (bs p n)).toBitVec.getLsbD i = (decide (i < n) && p i) := fun p => by
    rw [BitVec.getLsbD, pk_tn (hp p), bs_bit]
  rw [Int32.toBitVec_and, Int32.toBitVec_not, BitVec.getLsbD_and, BitVec.getLsbD_not, g, g, g]
  cases decide (i < n) <;> simp [hi]
theorem bs_ge {p : Nat → Bool} {n m : Nat} (h : n ≤ m) (hp : ∀ i, n ≤ i → i < m → p i = false) : bs p m = bs p n := by
  rw [bs_more (p := p) h]
  exact bs_congr fun i hi => by
    by_cases c : i < n
    · simp [c]
    · simp [c, hp i (by omega) hi]
/-- (1 << n) - 1 -/
theorem bs_all : ∀ {n : Nat}, bs (fun _ => true) n + 1 = 2 ^ n
  | 0 => rfl
  | n + 1 => by
    have := bs_all (n := n)
    show bs _ n + 2 ^ n + 1 = 2 ^ (n + 1)
    rw [Nat.pow_succ]; omega
theorem sub1N {n : Nat} (hn : n < 31) : ((1 : Int32) <<< (nI n &&& 31)) - 1 = nI (bs (fun _ => true) n) := by
  rw [b1 (by omega), ← bs_all (n := n), nI_pred]
-- bitCount
theorem and_by {m M x : Nat} (hm : m < 256) : x &&& (m + 256 * M) = (x % 256 &&& m) + 256 * (x / 256 &&& M) := by
  have e1 : (x % 256 &&& m) + 256 * (x / 256 &&& M) = (256 * (x / 256 &&& M)) ||| (x % 256 &&& m) := by
    have h := Nat.two_pow_add_eq_or_of_lt (i := 8) (b := x % 256 &&& m) (Nat.lt_of_le_of_lt Nat.and_le_right hm) (x / 256 &&& M)
    rw [← h]; omega
  have e2 : m + 256 * M = (256 * M) ||| m := by
    have h := Nat.two_pow_add_eq_or_of_lt (i := 8) (b := m) hm M
    rw [← h]; omega
  have e3 : x = (256 * (x / 256)) ||| (x % 256) := by
    have h := Nat.two_pow_add_eq_or_of_lt (i := 8) (b := x % 256) (Nat.mod_lt _ (by decide)) (x / 256)
    rw [← h]; omega
  rw [e1, e2]
  refine Nat.eq_of_testBit_eq fun i => ?_
  have t : ∀ z, (256 * z).testBit i = (decide (8 ≤ i) && z.testBit (i - 8)) := fun z => Nat.testBit_two_pow_mul (i := 8)
  have t2 : ∀ z, z < 256 → 8 ≤ i → z.testBit i = false := fun z hz hi => Nat.testBit_lt_two_pow (Nat.lt_of_lt_of_le (m := 2 ^ 8) hz (Nat.pow_le_pow_right (by decide) hi))
  by_cases hi : 8 ≤ i
  · have e4 : x.testBit i = (x / 256).testBit (i - 8) := by
      conv => lhs; rw [e3]
      rw [Nat.testBit_or, t, t2 _ (Nat.mod_lt _ (by decide)) hi]
      simp [hi]
    rw [Nat.testBit_and, Nat.testBit_or, Nat.testBit_or, t, t, t2 m hm hi, Nat.testBit_and, Nat.testBit_and, t2 m hm hi, e4]
    simp [hi]
  · have e4 : x.testBit i = (x % 256).testBit i := by
      conv => lhs; rw [e3]
      rw [Nat.testBit_or, t]
      simp [hi]
    rw [Nat.testBit_and, Nat.testBit_or, Nat.testBit_or, t, t, Nat.testBit_and, e4]
    simp [hi]
def pc8 (a : Nat) : Nat := cnt a.testBit 8
def q1 (a : Nat) : Nat := a - ((a / 2) &&& 85)
def q2 (a : Nat) : Nat := (a &&& 51) + ((a / 4) &&& 51)
theorem by_1 : ∀ a, a < 256 → ∀ c, c < 2 → (a / 2 + 128 * c) &&& 85 = (a / 2) &&& 85 ∧ (a / 2) &&& 85 ≤ a := by decide +kernel
theorem by_2 : ∀ a, a < 256 → ∀ c, c < 4 → (a / 4 + 64 * c) &&& 51 = (a / 4) &&& 51 ∧ q2 (q1 a) ≤ 68 ∧ q1 a < 256 ∧ q2 (q1 a) % 16 ≤ 4 := by decide +kernel
theorem by_3 : ∀ a, a < 256 → ∀ c, c < 16 → (q2 (q1 a) + q2 (q1 a) / 16 + 16 * c) &&& 15 = pc8 a := by decide +kernel
theorem pc8_le (a : Nat) : pc8 a ≤ 8 := cnt_le 8
def m1 : Nat := 1431655765
def m2 : Nat := 858993459
def m3 : Nat := 252645135
theorem bitC_3 {a b c : Nat} (ha : a < 256) (hb : b < 256) (hc : c < 256) : bitC (nI (a + 256 * (b + 256 * c))) = nI (pc8 a + pc8 b + pc8 c) := by
  have hx : a + 256 * (b + 256 * c) < 2 ^ 24 := by omega
  -- the masks
  have k1 : ∀ x y z, x < 256 → y < 256 → z < 256 → (x + 256 * (y + 256 * z)) &&& 1431655765 = (x &&& 85) + 256 * ((y &&& 85) + 256 * (z &&& 85)) := by
    intro x y z hx hy hz
    rw [show (1431655765 : Nat) = 85 + 256 * (85 + 256 * (85 + 256 * 85)) from rfl, and_by (by decide), and_by (by decide), and_by (by decide),
      show (x + 256 * (y + 256 * z)) % 256 = x by omega, show (x + 256 * (y + 256 * z)) / 256 = y + 256 * z by omega, show (y + 256 * z) % 256 = y by omega, show (y + 256 * z) / 256 = z by omega, show z % 256 = z by omega, show z / 256 = 0 by omega, Nat.zero_and, Nat.mul_zero, Nat.add_zero]
  have k2 : ∀ x y z, x < 256 → y < 256 → z < 256 → (x + 256 * (y + 256 * z)) &&& 858993459 = (x &&& 51) + 256 * ((y &&& 51) + 256 * (z &&& 51)) := by
    intro x y z hx hy hz
    rw [show (858993459 : Nat) = 51 + 256 * (51 + 256 * (51 + 256 * 51)) from rfl, and_by (by decide), and_by (by decide), and_by (by decide),
      show (x + 256 * (y + 256 * z)) % 256 = x by omega, show (x + 256 * (y + 256 * z)) / 256 = y + 256 * z by omega, show (y + 256 * z) % 256 = y by omega, show (y + 256 * z) / 256 = z by omega, show z % 256 = z by omega, show z / 256 = 0 by omega, Nat.zero_and, Nat.mul_zero, Nat.add_zero]
  have k3 : ∀ x y z, x < 256 → y < 256 → z < 256 → (x + 256 * (y + 256 * z)) &&& 252645135 = (x &&& 15) + 256 * ((y &&& 15) + 256 * (z &&& 15)) := by
    intro x y z hx hy hz
    rw [show (252645135 : Nat) = 15 + 256 * (15 + 256 * (15 + 256 * 15)) from rfl, and_by (by decide), and_by (by decide), and_by (by decide),
      show (x + 256 * (y + 256 * z)) % 256 = x by omega, show (x + 256 * (y + 256 * z)) / 256 = y + 256 * z by omega, show (y + 256 * z) % 256 = y by omega, show (y + 256 * z) / 256 = z by omega, show z % 256 = z by omega, show z / 256 = 0 by omega, Nat.zero_and, Nat.mul_zero, Nat.add_zero]
  have a1 := by_1 a ha; have b1 := by_1 b hb; have c1 := by_1 c hc
  have a2 := by_2 a ha; have b2 := by_2 b hb; have c2 := by_2 c hc
  have a3 := by_3 a ha; have b3 := by_3 b hb; have c3 := by_3 c hc
  have pa := pc8_le a; have pb := pc8_le b; have pc := pc8_le c
  -- 1
  have e1 : nI (a + 256 * (b + 256 * c)) - (ush (nI (a + 256 * (b + 256 * c))) 1 &&& 1431655765) = nI (q1 a + 256 * (q1 b + 256 * q1 c)) := by
    have d : (a + 256 * (b + 256 * c)) / 2 ^ 1 = (a / 2 + 128 * (b % 2)) + 256 * ((b / 2 + 128 * (c % 2)) + 256 * (c / 2)) := by omega
    have a11 := a1 (b % 2) (Nat.mod_lt _ (by decide)); have b11 := b1 (c % 2) (Nat.mod_lt _ (by decide)); have c11 := c1 0 (by decide)
    rw [show (1 : Int32) = nI 1 from rfl, ushN (by omega) (by decide), d, show (1431655765 : Int32) = nI 1431655765 from rfl, andN (by omega) (by decide), k1 _ _ _ (by omega) (by omega) (by omega), a11.1, b11.1]
    rw [pk_sub (by omega)]
    congr 1
    unfold q1
    omega
  -- 2
  have e2 : (nI (q1 a + 256 * (q1 b + 256 * q1 c)) &&& 858993459) + (ush (nI (q1 a + 256 * (q1 b + 256 * q1 c))) 2 &&& 858993459) = nI (q2 (q1 a) + 256 * (q2 (q1 b) + 256 * q2 (q1 c))) := by
    have qa := (a2 0 (by decide)).2.2.1; have qb := (b2 0 (by decide)).2.2.1; have qc := (c2 0 (by decide)).2.2.1
    have d : (q1 a + 256 * (q1 b + 256 * q1 c)) / 2 ^ 2 = (q1 a / 4 + 64 * (q1 b % 4)) + 256 * ((q1 b / 4 + 64 * (q1 c % 4)) + 256 * (q1 c / 4)) := by omega
    have a11 := by_2 _ qa (q1 b % 4) (Nat.mod_lt _ (by decide)); have b11 := by_2 _ qb (q1 c % 4) (Nat.mod_lt _ (by decide))
    rw [show (2 : Int32) = nI 2 from rfl, ushN (by omega) (by decide), d, show (858993459 : Int32) = nI 858993459 from rfl, andN (by omega) (by decide), andN (by omega) (by decide), k2 _ _ _ qa qb qc, k2 _ _ _ (by omega) (by omega) (by omega), a11.1, b11.1, nI_add]
    congr 1
    unfold q2
    omega
  -- 3
  have e3 : (nI (q2 (q1 a) + 256 * (q2 (q1 b) + 256 * q2 (q1 c))) + ush (nI (q2 (q1 a) + 256 * (q2 (q1 b) + 256 * q2 (q1 c)))) 4) &&& 252645135 = nI (pc8 a + 256 * (pc8 b + 256 * pc8 c)) := by
    have qa := (a2 0 (by decide)).2.1; have qb := (b2 0 (by decide)).2.1; have qc := (c2 0 (by decide)).2.1; have ra := (a2 0 (by decide)).2.2.2; have rb := (b2 0 (by decide)).2.2.2; have rc := (c2 0 (by decide)).2.2.2
    have a11 := a3 (q2 (q1 b) % 16) (Nat.mod_lt _ (by decide)); have b11 := b3 (q2 (q1 c) % 16) (Nat.mod_lt _ (by decide)); have c11 := c3 0 (by decide)
    generalize q2 (q1 a) = u at *
    generalize q2 (q1 b) = v at *
    generalize q2 (q1 c) = w at *
    have d : (u + 256 * (v + 256 * w)) + (u + 256 * (v + 256 * w)) / 2 ^ 4 = (u + u / 16 + 16 * (v % 16)) + 256 * ((v + v / 16 + 16 * (w % 16)) + 256 * (w + w / 16)) := by omega
    rw [show (4 : Int32) = nI 4 from rfl, ushN (by omega) (by decide), nI_add, d, show (252645135 : Int32) = nI 252645135 from rfl, andN (by omega) (by decide), k3 _ _ _ (by omega) (by omega) (by omega), a11, b11, show (w + w / 16) &&& 15 = pc8 c from c11]
  unfold bitC
  simp only [z_l]
  rw [e1, e2, e3]
  generalize pc8 a = u at *
  generalize pc8 b = v at *
  generalize pc8 c = w at *
  have d1 : (u + 256 * (v + 256 * w)) / 2 ^ 8 = v + 256 * w := by omega
  have d2 : (u + 256 * (v + 256 * w) + (v + 256 * w)) / 2 ^ 16 = w := by omega
  rw [show (8 : Int32) = nI 8 from rfl, ushN (by omega) (by decide), nI_add, d1, show (16 : Int32) = nI 16 from rfl, ushN (by omega) (by decide), nI_add, d2, pk_andN (by omega) 6 rfl]
  congr 1
  omega
theorem pc8_bs {p : Nat → Bool} : pc8 (bs p 8) = cnt p 8 := cnt_congr fun i hi => by rw [bs_bit]; simp [hi]
/-- Integer.bitCount of a set of at most 20 -/
theorem bitC_bs {p : Nat → Bool} {n : Nat} (hn : n ≤ 20) : bitC (nI (bs p n)) = nI (cnt p n) := by
  rw [bs_more (p := p) (m := 24) (by omega), ← cnt_more (p := p) (m := 24) (by omega)]
  generalize (fun i => decide (i < n) && p i) = q
  rw [show (24 : Nat) = 8 + (8 + 8) from rfl, bs_add (n := 8) (8 + 8), bs_add (n := 8) 8, cnt_add (n := 8) (8 + 8), cnt_add (n := 8) 8, show (2 : Nat) ^ 8 = 256 from rfl, bitC_3 (bs_lt 8) (bs_lt 8) (bs_lt 8), pc8_bs, pc8_bs, pc8_bs]
  congr 1
  omega
theorem bitC_set {s n : Nat} (hs : s < 2 ^ n) (hn : n ≤ 20) : bitC (nI s) = nI (cnt s.testBit n) := by
  conv => lhs; rw [bs_of hs]
  exact bitC_bs hn
