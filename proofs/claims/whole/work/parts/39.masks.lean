/-! masks of sixteen bits -/
def msk (p : Nat → Bool) : Nat → Nat
  | 0 => 0
  | n + 1 => msk p n + (if p n then 2 ^ n else 0)
theorem msk_lt (p : Nat → Bool) : ∀ n, msk p n < 2 ^ n
  | 0 => by show 0 < 1; omega
  | n + 1 => by
    have := msk_lt p n
    show msk p n + (if p n then 2 ^ n else 0) < 2 ^ (n + 1)
    rw [Nat.pow_succ]
    split <;> omega
theorem msk_bit (p : Nat → Bool) : ∀ n i, (msk p n).testBit i = (decide (i < n) && p i)
  | 0, i => by show Nat.testBit 0 i = _; simp
  | n + 1, i => by
    have hl := msk_lt p n
    have ih := msk_bit p n
    show (msk p n + (if p n then 2 ^ n else 0)).testBit i = _
    cases hp : p n with
    | false =>
      simp only [Bool.false_eq_true, if_false, Nat.add_zero]
      rw [ih]
      by_cases c : i = n
      · subst c; simp [hp]
      · by_cases c2 : i < n
        · simp [c2, Nat.lt_succ_of_lt c2]
        · simp [c2, show ¬ i < n + 1 by omega]
    | true =>
      simp only [if_true]
      rw [Nat.add_comm]
      rcases Nat.lt_trichotomy i n with c | c | c
      · rw [Nat.testBit_two_pow_add_gt c, ih]
        simp [c, Nat.lt_succ_of_lt c]
      · subst c
        rw [Nat.testBit_two_pow_add_eq, ih]
        simp [hp]
      · have : 2 ^ n + msk p n < 2 ^ i := Nat.lt_of_lt_of_le (by rw [Nat.pow_succ]; omega : 2 ^ n + msk p n < 2 ^ (n + 1)) (Nat.pow_le_pow_right (by decide) c)
        rw [Nat.testBit_lt_two_pow this]
        simp [show ¬ i < n + 1 by omega]
theorem bits_ext {x y n : Nat} (hx : x < 2 ^ n) (hy : y < 2 ^ n) (h : ∀ i, i < n → x.testBit i = y.testBit i) : x = y := by
  apply Nat.eq_of_testBit_eq
  intro i
  by_cases c : i < n
  · exact h i c
  · have hp := Nat.pow_le_pow_right (show 0 < 2 by decide) (show n ≤ i by omega)
    rw [Nat.testBit_lt_two_pow (by omega), Nat.testBit_lt_two_pow (by omega)]
/-- how many bits are set -/
def pc (x : Nat) : Nat := fb_ct x.testBit 16
theorem pc_msk (p : Nat → Bool) : pc (msk p 16) = fb_ct p 16 := by
  unfold pc
  exact fb_ct_cong (fun k hk => by rw [msk_bit]; simp [hk])
/-- the lowest bit goes -/
theorem low_bit {x : Nat} (h0 : x ≠ 0) (hx : x < 2 ^ 16) : ∃ k, k < 16 ∧ x.testBit k = true ∧ (∀ j, j < k → x.testBit j = false) ∧ ∀ i, (x &&& (x - 1)).testBit i = (x.testBit i && !decide (i = k)) := by
  obtain ⟨k, hk, h1, h2⟩ : ∃ i, i < 16 ∧ x.testBit i = true ∧ ∀ j, j < i → ¬ x.testBit j = true := by
    apply fb_first (p := fun i => x.testBit i = true)
    obtain ⟨i, hi⟩ := Nat.exists_testBit_of_ne_zero h0
    refine ⟨i, ?_, hi⟩
    rcases Nat.lt_or_ge i 16 with q | q
    · exact q
    · have hp := Nat.pow_le_pow_right (show 0 < 2 by decide) q
      rw [Nat.testBit_lt_two_pow (by omega)] at hi
      cases hi
  have h2' : ∀ j, j < k → x.testBit j = false := fun j hj => by
    cases hb : x.testBit j with
    | false => rfl
    | true => exact absurd hb (h2 j hj)
  refine ⟨k, hk, h1, h2', fun i => ?_⟩
  -- x = 2^k * m with m odd
  have hm : x % 2 ^ k = 0 := by
    apply Nat.eq_of_testBit_eq
    intro j
    rw [Nat.testBit_mod_two_pow, Nat.zero_testBit]
    by_cases c : j < k
    · rw [h2' j c]; simp
    · simp [c]
  have hodd : (x / 2 ^ k) % 2 = 1 := by
    have : (x / 2 ^ k).testBit 0 = true := by rw [Nat.testBit_div_two_pow, Nat.zero_add]; exact h1
    rw [Nat.testBit_zero] at this
    exact of_decide_eq_true this
  have hd : (x - 1) / 2 ^ k = x / 2 ^ k - 1 := by
    have hpos : 0 < 2 ^ k := Nat.two_pow_pos k
    have e : x = 2 ^ k * (x / 2 ^ k) := by have := Nat.div_add_mod x (2 ^ k); omega
    generalize x / 2 ^ k = m at e hodd
    have hm1 : 1 ≤ m := by omega
    have e2 : x - 1 = (2 ^ k - 1) + 2 ^ k * (m - 1) := by
      rw [e, Nat.mul_sub, Nat.mul_one]
      have : 2 ^ k ≤ 2 ^ k * m := Nat.le_mul_of_pos_right _ hm1
      omega
    rw [e2, Nat.add_mul_div_left _ _ hpos, Nat.div_eq_of_lt (by omega), Nat.zero_add]
  rw [Nat.testBit_and]
  rcases Nat.lt_trichotomy i k with c | c | c
  · rw [h2' i c]; simp
  · subst c
    have : (x - 1).testBit i = false := by
      have e : (x - 1).testBit i = ((x - 1) / 2 ^ i).testBit 0 := by rw [Nat.testBit_div_two_pow, Nat.zero_add]
      rw [e, hd, Nat.testBit_zero]
      simp; omega
    rw [this]; simp
  · have e1 : (x - 1).testBit i = ((x - 1) / 2 ^ k / 2).testBit (i - k - 1) := by
      rw [Nat.div_div_eq_div_mul, ← Nat.pow_succ, Nat.testBit_div_two_pow, show i - k - 1 + (k + 1) = i by omega]
    have e2 : x.testBit i = (x / 2 ^ k / 2).testBit (i - k - 1) := by
      rw [Nat.div_div_eq_div_mul, ← Nat.pow_succ, Nat.testBit_div_two_pow, show i - k - 1 + (k + 1) = i by omega]
    have e3 : (x / 2 ^ k - 1) / 2 = x / 2 ^ k / 2 := by
      generalize x / 2 ^ k = z at hodd
      omega
    rw [e1, hd, e3, ← e2]
    simp [show ¬ i = k by omega]
theorem pc_low {x : Nat} (h0 : x ≠ 0) (hx : x < 2 ^ 16) : pc (x &&& (x - 1)) + 1 = pc x := by
  obtain ⟨k, hk, h1, -, h3⟩ := low_bit h0 hx
  unfold pc
  have e : fb_ct (x &&& (x - 1)).testBit 16 = fb_ct (fun i => if i = k then false else x.testBit i) 16 := fb_ct_cong (fun i _ => by
    rw [h3 i]
    by_cases c : i = k
    · simp [c]
    · simp [c])
  have := fb_ct_upd x.testBit false hk
  rw [h1] at this
  rw [e]
  simpa using this
theorem pc_zero : pc 0 = 0 := by decide
theorem n_bits8_L : ∀ (c F a x : Nat), pc x = c → c < F → x < 2 ^ 16 → fX8_bits_L4 F (nI a) (nI x) = some (nI (a + c))
  | c, 0, a, x, _, hF, _ => absurd hF (Nat.not_lt_zero c)
  | c, F + 1, a, x, hc, hF, hx => by
    rw [fX8_bits_L4]
    by_cases h0 : x = 0
    · subst h0
      rw [pc_zero] at hc
      subst hc
      rw [if_pos nI_0, Nat.add_zero]
    · have hp := pc_low h0 hx
      have e : nI x &&& (nI x - (1 : Int32)) = nI (x &&& (x - 1)) := by
        have : nI x - (1 : Int32) = nI (x - 1) := pk_sub (a := x) (b := 1) (by omega)
        rw [this, fa_and]
      rw [if_neg (nI_ne0 (by omega) (by omega)), gl_eq, gl_eq, nI_1, e, n_bits8_L (c - 1) F (a + 1) (x &&& (x - 1)) (by omega) (by omega) (Nat.lt_of_le_of_lt Nat.and_le_left hx)]
      exact congrArg (fun z => some (nI z)) (by omega)
theorem pc_le (x : Nat) : pc x ≤ 16 := fb_ct_le _ 16
theorem n_bits8 {x : Nat} (hx : x < 2 ^ 16) : fX8_bits (nI x) = some (nI (pc x)) := by
  unfold fX8_bits
  have e := n_bits8_L (pc x) gF 0 x rfl (by unfold gF; have := pc_le x; omega) hx
  rw [nI_0, Nat.zero_add] at e
  rw [e]
  rfl
/-! Integer.bitCount, byte by byte -/
theorem land_split {a b c d : Nat} (ha : a < 256) (hc : c < 256) : (a + 256 * b) &&& (c + 256 * d) = (a &&& c) + 256 * (b &&& d) := by
  have h1 : ∀ x y : Nat, x < 256 → x + 256 * y = 2 ^ 8 * y ||| x := fun x y hx => by
    rw [← Nat.two_pow_add_eq_or_of_lt (show x < 2 ^ 8 from hx)]; omega
  have hac : a &&& c < 256 := Nat.lt_of_le_of_lt Nat.and_le_left ha
  apply Nat.eq_of_testBit_eq
  intro i
  rw [h1 a b ha, h1 c d hc, h1 _ _ hac]
  simp only [Nat.testBit_and, Nat.testBit_or, Nat.testBit_two_pow_mul]
  by_cases q : 8 ≤ i
  · have z1 : a.testBit i = false := Nat.testBit_lt_two_pow (Nat.lt_of_lt_of_le ha (Nat.pow_le_pow_right (n := 2) (by decide) q))
    have z2 : c.testBit i = false := Nat.testBit_lt_two_pow (Nat.lt_of_lt_of_le hc (Nat.pow_le_pow_right (n := 2) (by decide) q))
    simp [q, z1, z2]
  · simp [q]
theorem by_1 : ∀ a : Fin 256, ∀ c : Fin 2, (a.val / 2 + 128 * c.val) &&& 85 = (a.val / 2) &&& 85 := by decide +kernel
theorem by_1u : ∀ a : Fin 256, (a.val / 2) &&& 5592405 = (a.val / 2) &&& 85 ∧ (a.val / 2) &&& 85 ≤ a.val := by decide +kernel
def b_1 (a : Nat) : Nat := a - ((a / 2) &&& 85)
theorem by_2 : ∀ a : Fin 256, ∀ c : Fin 4, (a.val / 4 + 64 * c.val) &&& 51 = (a.val / 4) &&& 51 := by decide +kernel
theorem by_2u : ∀ a : Fin 256, (a.val / 4) &&& 3355443 = (a.val / 4) &&& 51 ∧ a.val &&& 3355443 = a.val &&& 51 := by decide +kernel
def b_2 (a : Nat) : Nat := (a &&& 51) + ((a / 4) &&& 51)
theorem by_3 : ∀ a : Fin 256, b_1 a.val < 256 ∧ b_2 (b_1 a.val) ≤ 68 ∧ (b_2 (b_1 a.val) + b_2 (b_1 a.val) / 16) % 16 = fb_ct a.val.testBit 8 ∧ fb_ct a.val.testBit 8 ≤ 8 ∧ b_2 (b_1 a.val) % 16 ≤ 4 := by decide +kernel
theorem n_bitc {x : Nat} (hx : x < 2 ^ 16) : fJ6_bitCount_0f7a4 (nI x) = some (nI (pc x)) := by
  obtain ⟨a, b, ha, hb, rfl⟩ : ∃ a b, a < 256 ∧ b < 256 ∧ x = a + 256 * b := ⟨x % 256, x / 256, by omega, by omega, by omega⟩
  have t1 := by_1 ⟨a, ha⟩ ⟨b % 2, by omega⟩
  have t2 := by_1u ⟨a, ha⟩
  have t3 := by_1u ⟨b, hb⟩
  have f1 := by_3 ⟨a, ha⟩
  have f2 := by_3 ⟨b, hb⟩
  simp only at t1 t2 t3 f1 f2
  have u1 := by_2 ⟨b_1 a, f1.1⟩ ⟨b_1 b % 4, by omega⟩
  have u2 := by_2u ⟨b_1 a, f1.1⟩
  have u3 := by_2u ⟨b_1 b, f2.1⟩
  simp only at u1 u2 u3
  -- the steps
  have s1 : nI (a + 256 * b) - ((((nI (a + 256 * b)).toUInt32 >>> (((1 : Int32)).toUInt32 &&& Int32.toUInt32 31)).toInt32) &&& (1431655765 : Int32)) = nI (b_1 a + 256 * b_1 b) := by
    have e0 := n_ush (n := a + 256 * b) (by omega) 1 (by omega)
    have e0' : (((nI (a + 256 * b)).toUInt32 >>> (((1 : Int32)).toUInt32 &&& Int32.toUInt32 31)).toInt32) = nI ((a + 256 * b) / 2 ^ 1) := e0
    rw [e0', show (1431655765 : Int32) = nI (85 + 256 * 5592405) from rfl, fa_and, show (a + 256 * b) / 2 ^ 1 = (a / 2 + 128 * (b % 2)) + 256 * (b / 2) by omega, land_split (by omega) (by omega), t1, t3.1, pk_sub (by omega)]
    unfold b_1
    exact congrArg nI (by omega)
  have s2 : ((nI (b_1 a + 256 * b_1 b)) &&& (858993459 : Int32)) + ((((nI (b_1 a + 256 * b_1 b)).toUInt32 >>> (((2 : Int32)).toUInt32 &&& Int32.toUInt32 31)).toInt32) &&& (858993459 : Int32)) = nI (b_2 (b_1 a) + 256 * b_2 (b_1 b)) := by
    have e0 := n_ush (n := b_1 a + 256 * b_1 b) (by omega) 2 (by omega)
    have e0' : (((nI (b_1 a + 256 * b_1 b)).toUInt32 >>> (((2 : Int32)).toUInt32 &&& Int32.toUInt32 31)).toInt32) = nI ((b_1 a + 256 * b_1 b) / 2 ^ 2) := e0
    rw [e0', show (858993459 : Int32) = nI (51 + 256 * 3355443) from rfl, fa_and, fa_and, show (b_1 a + 256 * b_1 b) / 2 ^ 2 = (b_1 a / 4 + 64 * (b_1 b % 4)) + 256 * (b_1 b / 4) by omega, land_split f1.1 (by omega), land_split (by omega) (by omega), u1, u3.1, u3.2, nI_add]
    unfold b_2
    exact congrArg nI (by omega)
  generalize b_2 (b_1 a) = C at s2 f1
  generalize b_2 (b_1 b) = E at s2 f2
  generalize b_1 a = A1 at s1 s2
  generalize b_1 b = B1 at s1 s2
  have s3 : (nI (C + 256 * E) + (((nI (C + 256 * E)).toUInt32 >>> (((4 : Int32)).toUInt32 &&& Int32.toUInt32 31)).toInt32)) &&& (252645135 : Int32) = nI (fb_ct a.testBit 8 + 256 * fb_ct b.testBit 8) := by
    have e0 := n_ush (n := C + 256 * E) (by omega) 4 (by omega)
    have e0' : (((nI (C + 256 * E)).toUInt32 >>> (((4 : Int32)).toUInt32 &&& Int32.toUInt32 31)).toInt32) = nI ((C + 256 * E) / 2 ^ 4) := e0
    have m1 : (C + C / 16 + 16 * (E % 16)) &&& 15 = (C + C / 16 + 16 * (E % 16)) % 16 := Nat.and_two_pow_sub_one_eq_mod _ 4
    have m2 : (E + E / 16) &&& 986895 = (E + E / 16) % 16 := by
      have q1 : (E + E / 16) &&& 986895 = (E + E / 16) &&& 15 := by
        have := land_split (a := E + E / 16) (b := 0) (c := 15) (d := 3855) (by omega) (by omega)
        simpa using this
      rw [q1]
      exact Nat.and_two_pow_sub_one_eq_mod _ 4
    rw [e0', nI_add, show (252645135 : Int32) = nI (15 + 256 * 986895) from rfl, fa_and, show C + 256 * E + (C + 256 * E) / 2 ^ 4 = (C + C / 16 + 16 * (E % 16)) + 256 * (E + E / 16) by omega, land_split (by omega) (by omega), m1, m2]
    exact congrArg nI (by omega)
  have hpc : pc (a + 256 * b) = fb_ct a.testBit 8 + fb_ct b.testBit 8 := by
    unfold pc
    rw [show (16 : Nat) = 8 + 8 from rfl, fb_ct_split]
    have h1 : ∀ i, i < 8 → (a + 256 * b).testBit i = a.testBit i := fun i hi => by
      rw [show a + 256 * b = 2 ^ 8 * b + a by omega, Nat.testBit_two_pow_mul_add _ ha]; simp [hi]
    have h2 : ∀ i, i < 8 → (a + 256 * b).testBit (8 + i) = b.testBit i := fun i hi => by
      rw [show a + 256 * b = 2 ^ 8 * b + a by omega, Nat.testBit_two_pow_mul_add _ ha, if_neg (by omega), Nat.add_sub_cancel_left]
    rw [fb_ct_cong h1, fb_ct_cong h2]
  rw [hpc]
  generalize fb_ct a.testBit 8 = P at s3 f1
  generalize fb_ct b.testBit 8 = R at s3 f2
  have s4 : nI (P + 256 * R) + (((nI (P + 256 * R)).toUInt32 >>> (((8 : Int32)).toUInt32 &&& Int32.toUInt32 31)).toInt32) = nI (P + R + 256 * R) := by
    have e0 := n_ush (n := P + 256 * R) (by omega) 8 (by omega)
    have e0' : (((nI (P + 256 * R)).toUInt32 >>> (((8 : Int32)).toUInt32 &&& Int32.toUInt32 31)).toInt32) = nI ((P + 256 * R) / 2 ^ 8) := e0
    rw [e0', nI_add]
    exact congrArg nI (by omega)
  have s5 : nI (P + R + 256 * R) + (((nI (P + R + 256 * R)).toUInt32 >>> (((16 : Int32)).toUInt32 &&& Int32.toUInt32 31)).toInt32) = nI (P + R + 256 * R) := by
    have e0 := n_ush (n := P + R + 256 * R) (by omega) 16 (by omega)
    have e0' : (((nI (P + R + 256 * R)).toUInt32 >>> (((16 : Int32)).toUInt32 &&& Int32.toUInt32 31)).toInt32) = nI ((P + R + 256 * R) / 2 ^ 16) := e0
    rw [e0', nI_add]
    exact congrArg nI (by omega)
  unfold fJ6_bitCount_0f7a4
  rw [gl_eq, s1, gl_eq, s2, gl_eq, s3, gl_eq, s4, gl_eq, s5, pk_andN (by omega) 6 (by decide)]
  exact congrArg (fun z => some (nI z)) (by omega)
