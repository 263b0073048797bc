/-! the lowest and the highest bit -/
theorem n_nlzK {X : Nat} (h : X < 2 ^ 24) (h0 : X ≠ 0) : ∃ d, d < 24 ∧ 2 ^ d ≤ X ∧ X < 2 ^ (d + 1) ∧ fJ6_numberOfLeadingZeros_0f7a4 (nI X) = some (nI (31 - d)) := by
  unfold fJ6_numberOfLeadingZeros_0f7a4
  have e16 : (16 : Int32) = nI 16 := rfl
  have e8 : (8 : Int32) = nI 8 := rfl
  have e256 : (256 : Int32) = nI 256 := rfl
  have e65 : (65536 : Int32) = nI 65536 := rfl
  have m1 : (31 : Int32) + (-16) = nI 15 := by decide
  have m0 : (31 : Int32) = nI 31 := rfl
  rw [← nI_0, if_pos (nI_lt (by omega) (by omega))]
  obtain ⟨x1, n1, k1, hx1, hn1, hx1b, hx1p, hk1, st1⟩ : ∃ x1 n1 k1, x1 = X / 2 ^ k1 ∧ n1 = 31 - k1 ∧ x1 < 65536 ∧ 0 < x1 ∧ (k1 = 0 ∨ k1 = 16) ∧ (if nI X < (65536 : Int32) then (some (nI X, (31 : Int32))) else (gl ((31 : Int32) + (-16)) (fun x1_25 => (gl (((nI X).toUInt32 >>> (((16 : Int32)).toUInt32 &&& Int32.toUInt32 31)).toInt32) (fun x0_32 => (some (x0_32, x1_25))))))) = some (nI x1, nI n1) := by
    by_cases c : X < 65536
    · refine ⟨X, 31, 0, by simp, rfl, c, by omega, Or.inl rfl, ?_⟩
      rw [e65, if_pos (nI_lt c (by omega)), m0]
    · refine ⟨X / 2 ^ 16, 15, 16, rfl, rfl, by omega, by omega, Or.inr rfl, ?_⟩
      rw [e65, if_neg (nI_nlt (by omega) (by omega))]
      simp only [gl]
      rw [m1, e16, n_ush (by omega) 16 (by omega)]
  rw [st1]
  simp only [Option.bind_some]
  obtain ⟨x2, n2, k2, hx2, hn2, hx2b, hx2p, hk2, st2⟩ : ∃ x2 n2 k2, x2 = x1 / 2 ^ k2 ∧ n2 = n1 - k2 ∧ x2 < 256 ∧ 0 < x2 ∧ (k2 = 0 ∨ k2 = 8) ∧ (if nI x1 < (256 : Int32) then (some (nI x1, nI n1)) else (gl (nI n1 + (-8)) (fun x1_40 => (gl (((nI x1).toUInt32 >>> (((8 : Int32)).toUInt32 &&& Int32.toUInt32 31)).toInt32) (fun x0_47 => (some (x0_47, x1_40))))))) = some (nI x2, nI n2) := by
    by_cases c : x1 < 256
    · refine ⟨x1, n1, 0, by simp, rfl, c, by omega, Or.inl rfl, ?_⟩
      rw [e256, if_pos (nI_lt c (by omega))]
    · refine ⟨x1 / 2 ^ 8, n1 - 8, 8, rfl, rfl, by omega, by omega, Or.inr rfl, ?_⟩
      rw [e256, if_neg (nI_nlt (by omega) (by omega))]
      simp only [gl]
      rw [n_neg (k := 8) (by decide) (by omega), e8, n_ush (by omega) 8 (by omega)]
  rw [st2]
  simp only [Option.bind_some]
  obtain ⟨x3, n3, k3, hx3, hn3, hx3b, hx3p, hk3, st3⟩ : ∃ x3 n3 k3, x3 = x2 / 2 ^ k3 ∧ n3 = n2 - k3 ∧ x3 < 16 ∧ 0 < x3 ∧ (k3 = 0 ∨ k3 = 4) ∧ (if nI x2 < (16 : Int32) then (some (nI x2, nI n2)) else (gl (nI n2 + (-4)) (fun x1_54 => (gl (((nI x2).toUInt32 >>> (((4 : Int32)).toUInt32 &&& Int32.toUInt32 31)).toInt32) (fun x0_60 => (some (x0_60, x1_54))))))) = some (nI x3, nI n3) := by
    have e4 : (4 : Int32) = nI 4 := rfl
    by_cases c : x2 < 16
    · refine ⟨x2, n2, 0, by simp, rfl, c, by omega, Or.inl rfl, ?_⟩
      rw [e16, if_pos (nI_lt c (by omega))]
    · refine ⟨x2 / 2 ^ 4, n2 - 4, 4, rfl, rfl, by omega, by omega, Or.inr rfl, ?_⟩
      rw [e16, if_neg (nI_nlt (by omega) (by omega))]
      simp only [gl]
      rw [n_neg (k := 4) (by decide) (by omega), e4, n_ush (by omega) 4 (by omega)]
  rw [st3]
  simp only [Option.bind_some]
  obtain ⟨d, hd, hd1, hd2, hd3⟩ := nlz_a (x := x3) (n := n3) hx3p hx3b (by omega) (by omega)
  have hX : x3 = X / 2 ^ (k1 + k2 + k3) := by rw [hx3, hx2, hx1, Nat.div_div_eq_div_mul, Nat.div_div_eq_div_mul, ← Nat.pow_add, ← Nat.pow_add, Nat.add_assoc]
  rw [hX] at hd1 hd2
  obtain ⟨p1, p2⟩ := pow_up hd1 hd2
  refine ⟨d + (k1 + k2 + k3), ?_, p1, p2, ?_⟩
  · rcases Nat.lt_or_ge (d + (k1 + k2 + k3)) 24 with q | q
    · exact q
    · have := Nat.pow_le_pow_right (show 0 < 2 by decide) q
      omega
  · rw [show 31 - (d + (k1 + k2 + k3)) = n3 - d by omega]
    exact hd3
theorem bit_div (x k : Nat) : x.testBit k = decide (x / 2 ^ k % 2 = 1) := by
  have : x.testBit k = (x / 2 ^ k).testBit 0 := by rw [Nat.testBit_div_two_pow, Nat.zero_add]
  rw [this, Nat.testBit_zero]
theorem bit_shr {x k : Nat} (hx : x < 2 ^ 16) (hk : k ≤ 16) : ((nI x >>> (nI k &&& 31)) &&& (1 : Int32)) = nI (if x.testBit k = true then 1 else 0) := by
  rw [n_shr (by omega) (by omega), pk_andN (by have := Nat.div_le_self x (2 ^ k); omega) 1 (by decide), bit_div]
  have := Nat.mod_lt (x / 2 ^ k) (show 0 < 2 by decide)
  by_cases c : x / 2 ^ k % 2 = 1
  · rw [decide_eq_true c, if_pos rfl, Nat.pow_one, c]
  · rw [decide_eq_false c, if_neg (by decide), Nat.pow_one, show x / 2 ^ k % 2 = 0 by omega]
theorem n_low_L {x k : Nat} (hx : x < 2 ^ 16) (hk : k < 16) (h1 : x.testBit k = true) (h2 : ∀ j, j < k → x.testBit j = false) : ∀ (m F i : Nat), k - i = m → m < F → i ≤ k → fX8_lowest_L2 (nI x) F (nI i) = some (nI k)
  | m, 0, i, _, hF, _ => absurd hF (Nat.not_lt_zero m)
  | m, F + 1, i, hm, hF, hi => by
    rw [fX8_lowest_L2, bit_shr hx (by omega)]
    by_cases c : i = k
    · subst c
      rw [if_pos h1, if_neg (by decide)]
    · rw [h2 i (by omega), if_neg (show ¬ false = true by decide), if_pos nI_0, gl_eq, nI_1]
      exact n_low_L hx hk h1 h2 (m - 1) F (i + 1) (by omega) (by omega) (by omega)
theorem n_high_L {x k : Nat} (hx : x < 2 ^ 16) (h1 : x.testBit k = true) (h2 : ∀ j, k < j → j < 16 → x.testBit j = false) : ∀ (m F i : Nat), i - k = m → m < F → k ≤ i → i ≤ 15 → fX8_highest_L3 (nI x) F (nI i) = some (nI k)
  | m, 0, i, _, hF, _, _ => absurd hF (Nat.not_lt_zero m)
  | m, F + 1, i, hm, hF, hi, hi2 => by
    rw [fX8_highest_L3, bit_shr hx (by omega)]
    by_cases c : i = k
    · subst c
      rw [if_pos h1, if_neg (by decide)]
    · rw [h2 i (by omega) (by omega), if_neg (show ¬ false = true by decide), if_pos nI_0, gl_eq, sb_m1 (by omega)]
      exact n_high_L hx h1 h2 (m - 1) F (i - 1) (by omega) (by omega) (by omega) (by omega)
theorem bit_ge {x k : Nat} (h : x.testBit k = true) : 2 ^ k ≤ x := by
  rcases Nat.lt_or_ge x (2 ^ k) with q | q
  · rw [Nat.testBit_lt_two_pow q] at h; cases h
  · exact q
theorem n_high {x : Nat} (hx : x < 2 ^ 16) (h0 : x ≠ 0) : ∃ k, k < 16 ∧ fX8_highest (nI x) = some (nI k) ∧ ∃ z, fJ6_numberOfLeadingZeros_0f7a4 (nI x) = some z ∧ (31 : Int32) - z = nI k := by
  obtain ⟨d, hd, h1, h2, h3⟩ := n_nlzK (X := x) (by omega) h0
  have hd16 : d < 16 := by
    rcases Nat.lt_or_ge d 16 with q | q
    · exact q
    · have := Nat.pow_le_pow_right (show 0 < 2 by decide) q
      omega
  have hb : x.testBit d = true := by
    rw [bit_div, decide_eq_true_iff]
    have a1 : 1 ≤ x / 2 ^ d := (Nat.le_div_iff_mul_le (Nat.two_pow_pos d)).mpr (by omega)
    have a2 : x / 2 ^ d < 2 := Nat.div_lt_of_lt_mul (by rw [Nat.pow_succ] at h2; exact h2)
    omega
  have hbz : ∀ j, d < j → j < 16 → x.testBit j = false := fun j z1 z2 => Nat.testBit_lt_two_pow (Nat.lt_of_lt_of_le h2 (Nat.pow_le_pow_right (by decide) z1))
  refine ⟨d, hd16, ?_, _, h3, ?_⟩
  · unfold fX8_highest
    have e : fX8_highest_L3 (nI x) gF (15 : Int32) = some (nI d) := n_high_L hx hb hbz (15 - d) gF 15 rfl (by unfold gF; omega) (by omega) (Nat.le_refl _)
    rw [e]
    rfl
  · have := pk_sub (a := 31) (b := 31 - d) (by omega)
    rw [show 31 - (31 - d) = d by omega] at this
    exact this
theorem low_mask {x k : Nat} (hx : x < 2 ^ 16) (h1 : x.testBit k = true) (h2 : ∀ j, j < k → x.testBit j = false) : (x ^^^ (2 ^ 32 - 1)) &&& (x - 1) = 2 ^ k - 1 := by
  have hm : x % 2 ^ k = 0 := by
    apply Nat.eq_of_testBit_eq
    intro j
    rw [Nat.testBit_mod_two_pow, Nat.zero_testBit]
    by_cases c : j < k
    · rw [h2 j c]; simp
    · simp [c]
  have hodd : (x / 2 ^ k) % 2 = 1 := by
    rw [bit_div] at h1
    exact of_decide_eq_true h1
  have hpos : 0 < 2 ^ k := Nat.two_pow_pos k
  have e : x = 2 ^ k * (x / 2 ^ k) := by have := Nat.div_add_mod x (2 ^ k); omega
  have hd : x - 1 = 2 ^ k * (x / 2 ^ k - 1) + (2 ^ k - 1) := by
    generalize x / 2 ^ k = m at e hodd
    have hm1 : 1 ≤ m := by omega
    rw [e, Nat.mul_sub, Nat.mul_one]
    have : 2 ^ k ≤ 2 ^ k * m := Nat.le_mul_of_pos_right _ hm1
    omega
  apply Nat.eq_of_testBit_eq
  intro i
  rw [Nat.testBit_and, Nat.testBit_xor, Nat.testBit_two_pow_sub_one, Nat.testBit_two_pow_sub_one, hd, Nat.testBit_two_pow_mul_add _ (by omega), Nat.testBit_two_pow_sub_one]
  by_cases c : i < k
  · have hk : k < 16 := by
      rcases Nat.lt_or_ge k 16 with q | q
      · exact q
      · rw [Nat.testBit_lt_two_pow (Nat.lt_of_lt_of_le hx (Nat.pow_le_pow_right (by decide) q))] at h1; cases h1
    rw [h2 i c, if_pos c]
    simp [c, show i < 32 by omega]
  · rw [if_neg c]
    have hx2 : x.testBit i = (x / 2 ^ k).testBit (i - k) := by rw [Nat.testBit_div_two_pow, show i - k + k = i by omega]
    rw [hx2]
    generalize x / 2 ^ k = m at hodd hx2
    simp only [c, decide_false]
    by_cases ci : i = k
    · rw [ci, Nat.sub_self, Nat.testBit_zero, Nat.testBit_zero, show (m - 1) % 2 = 0 by omega]
      simp
    · have : (m - 1).testBit (i - k) = m.testBit (i - k) := by
        rw [show i - k = (i - k - 1) + 1 by omega, Nat.testBit_succ, Nat.testBit_succ, show (m - 1) / 2 = m / 2 by omega]
      rw [this]
      by_cases c3 : i < 32
      · simp [c3]
      · have hz : m.testBit (i - k) = false := by
          rw [← hx2]
          exact Nat.testBit_lt_two_pow (Nat.lt_of_lt_of_le hx (Nat.pow_le_pow_right (by decide) (by omega)))
        rw [hz]; simp
theorem n_low {x : Nat} (hx : x < 2 ^ 16) (h0 : x ≠ 0) : ∃ k, k < 16 ∧ fX8_lowest (nI x) = some (nI k) ∧ fJ6_numberOfTrailingZeros_0f7a4 (nI x) = some (nI k) := by
  obtain ⟨k, hk, h1, h2, -⟩ := low_bit h0 hx
  refine ⟨k, hk, ?_, ?_⟩
  · unfold fX8_lowest
    have e : fX8_lowest_L2 (nI x) gF (0 : Int32) = some (nI k) := n_low_L hx hk h1 h2 k gF 0 (Nat.sub_zero _) (by unfold gF; omega) (Nat.zero_le _)
    rw [e]
    rfl
  · have e : (nI x ^^^ (-1 : Int32)) &&& (nI x - (1 : Int32)) = nI (2 ^ k - 1) := by
      have q1 : nI x - (1 : Int32) = nI (x - 1) := pk_sub (a := x) (b := 1) (by omega)
      rw [show (-1 : Int32) = nI (2 ^ 32 - 1) from by decide, q1, fb_xorI, fa_and, low_mask hx h1 h2]
    unfold fJ6_numberOfTrailingZeros_0f7a4
    rw [gl_eq, e]
    rcases (show k = 0 ∨ k = 1 ∨ k = 2 ∨ k = 3 ∨ k = 4 ∨ k = 5 ∨ k = 6 ∨ k = 7 ∨ k = 8 ∨ k = 9 ∨ k = 10 ∨ k = 11 ∨ k = 12 ∨ k = 13 ∨ k = 14 ∨ k = 15 by omega) with rfl | rfl | rfl | rfl | rfl | rfl | rfl | rfl | rfl | rfl | rfl | rfl | rfl | rfl | rfl | rfl <;> decide
/-! what a node answers -/
theorem msk_ne0 {l : KL} {q : Nat} (h : isN l q) : msk (kid l q) 16 ≠ 0 := by
  intro e
  have h1 := nk_pc l q
  rw [e, pc_zero] at h1
  have h2 := h.2
  unfold bn at h2
  by_cases c : kH l q
  · rw [if_pos c] at h2; omega
  · rw [if_neg c] at h2; omega
theorem mark_if {α : Type} {s j : Nat} (hs : s ≤ 4) (hj : j ≤ 4) (A B : α) : (if nI s = nI j then A else (if nI j = (1 : Int32) then (if nI s = (2 : Int32) then A else (if nI j = (3 : Int32) then (if nI s = (4 : Int32) then A else B) else B)) else (if nI j = (3 : Int32) then (if nI s = (4 : Int32) then A else B) else B))) = if s = j ∨ (j = 1 ∧ s = 2) ∨ (j = 3 ∧ s = 4) then A else B := by
  have e0 : (nI s = nI j) = (s = j) := propext (nI_eq (by omega) (by omega))
  have e1 : (nI j = (1 : Int32)) = (j = 1) := propext (nI_eq (b := 1) (by omega) (by omega))
  have e2 : (nI s = (2 : Int32)) = (s = 2) := propext (nI_eq (b := 2) (by omega) (by omega))
  have e3 : (nI j = (3 : Int32)) = (j = 3) := propext (nI_eq (b := 3) (by omega) (by omega))
  have e4 : (nI s = (4 : Int32)) = (s = 4) := propext (nI_eq (b := 4) (by omega) (by omega))
  simp only [e0, e1, e2, e3, e4]
  (repeat' split) <;> first | rfl | (exfalso; omega)
theorem isOf_if {s j : Nat} (hs : s ≤ 4) (hj : j ≤ 4) : fX3_isOfSize (nI s) (nI j) = some (if s = j ∨ (j = 1 ∧ s = 2) ∨ (j = 3 ∧ s = 4) then 1 else 0) := by
  have e0 : (nI s = nI j) = (s = j) := propext (nI_eq (by omega) (by omega))
  have e1 : (nI j = (1 : Int32)) = (j = 1) := propext (nI_eq (b := 1) (by omega) (by omega))
  have e2 : (nI s = (2 : Int32)) = (s = 2) := propext (nI_eq (b := 2) (by omega) (by omega))
  have e3 : (nI j = (3 : Int32)) = (j = 3) := propext (nI_eq (b := 3) (by omega) (by omega))
  have e4 : (nI s = (4 : Int32)) = (s = 4) := propext (nI_eq (b := 4) (by omega) (by omega))
  unfold fX3_isOfSize
  simp only [e0, e1, e2, e3, e4]
  (repeat' split) <;> first | rfl | (exfalso; omega)
theorem n_finds_node {l : KL} (hg : kgood l) {z : Int32} {f : Nat → Int32} (h : pR (pN l) z f) {x : Nat} (hx : x < 2 ^ 27) : (isN l x ∧ ∃ r, fX8_nodeOf (nI x) z f = some r ∧ ¬ r = (-9 : Int32)) ∨ (¬ isN l x ∧ fX8_nodeOf (nI x) z f = some (-9)) := by
  obtain ⟨r, h1, h2⟩ := n_nodeOf h (pN_len hg) (fun q hq => wok_lt (pN_ok hg q hq)) hx
  rcases h2 with ⟨h3, rfl⟩ | ⟨j, h3, h4, rfl⟩
  · right; exact ⟨fun z => h3 ((pN_mem hg x).mpr z), h1⟩
  · left; exact ⟨(pN_mem hg x).mp (by rw [← h4]; exact getD_mem h3), _, h1, nI_ne9 (by have := pN_len hg; omega)⟩
theorem n_seat_node {l : KL} {ns : List Nat} {r : NT} (h : nodesC l ns r) {x : Nat} (hx : x < 2 ^ 27) : (isN l x ∧ ∃ j, j < ns.length ∧ ns.getD j 0 = x ∧ fX3_seatOf (nI x) r.1 r.2.1 = some (nI j) ∧ ¬ nI j = (-1 : Int32)) ∨ (¬ isN l x ∧ fX3_seatOf (nI x) r.1 r.2.1 = some (-1)) := by
  obtain ⟨d, h1, h2⟩ := n_seat6 h hx
  rcases h2 with ⟨h3, rfl⟩ | ⟨j, h3, h4, rfl⟩
  · right; exact ⟨fun z => h3 ((h.2.2.1 x).mpr z), h1⟩
  · left; exact ⟨(h.2.2.1 x).mp (by rw [← h4]; exact getD_mem h3), j, h3, h4, h1, nI_nm1 (by have := h.2.2.2; omega)⟩
theorem n_markOf {l : KL} {ns : List Nat} {r : NT} (h : nodesC l ns r) {d j : Nat} (hd : d < ns.length) (h1 : 1 ≤ j) (h4 : j ≤ 4) (fnd : Int32) (q35 : Int32 × (Nat → Int32)) (cn : Nat → Int32) : ∃ x, fX3_markOf (nI d) (nI j) r.1 r.2.2.2.2.2.2 = some x ∧ fX8_mark_J104 (nI j) (nI (msk (kid l (ns.getD d 0)) 16)) fnd q35 cn (nI (szN (nk l (ns.getD d 0)))) = some (x, fnd, q35.1, q35.2, cn) := by
  have hx := msk_lt (kid l (ns.getD d 0)) 16
  obtain ⟨lo, hlo, l1, l2⟩ := n_low hx (msk_ne0 (nC_isN h hd))
  obtain ⟨hi, hhi, g1, z, g2, g3⟩ := n_high hx (msk_ne0 (nC_isN h hd))
  have hs := szN_le (nk l (ns.getD d 0))
  unfold fX3_markOf fX8_mark_J104
  rw [n_childs6 h hd, Option.bind_some, l2, Option.bind_some, g2, Option.bind_some, gl_eq, g3, l1, g1, n_bitc hx, n_bits8 hx, n_places6 h hd, n_1shl (by omega), Option.bind_some, Option.bind_some, Option.bind_some, Option.bind_some, Option.bind_some, Option.bind_some]
  rcases (show j = 1 ∨ j = 2 ∨ j = 3 ∨ j = 4 by omega) with rfl | rfl | rfl | rfl
  · rw [if_pos (by decide), if_pos (by decide)]
    exact ⟨_, rfl, rfl⟩
  · rw [if_neg (by decide), if_pos (by decide), if_neg (by decide), if_pos (by decide)]
    exact ⟨_, rfl, rfl⟩
  · rw [if_neg (by decide), if_neg (by decide), if_pos (by decide), if_neg (by decide), if_neg (by decide), if_pos (by decide)]
    exact ⟨_, rfl, rfl⟩
  · rw [if_neg (by decide), if_neg (by decide), if_neg (by decide), if_neg (by decide), if_neg (by decide), if_neg (by decide)]
    exact ⟨_, rfl, rfl⟩
theorem e_mark {l : KL} {t : Nat → Int32} (hM : keyM l t) (hg : kgood l) {ns : List Nat} {r : NT} (hN : nodesC l ns r) (a b c fnd mn : Int32) (cn mp : Nat → Int32) : ∃ rn rm, fX7_mark a b c fnd r.1 r.2.1 r.2.2.2.2.2.2 cn = some rn ∧ fX8_mark a b c fnd mn t mp cn = some rm ∧ rn.1 = rm.1 ∧ rn.2.1 = rm.2.1 ∧ rn.2.2 = rm.2.2.2.2 := by
  unfold fX7_mark fX8_mark
  rcases n_path a b with ⟨v', n', ⟨-, h2, h3, rfl, rfl⟩, e1, e2⟩ | ⟨e1, e2⟩
  · rw [e1, e2, Option.bind_some, Option.bind_some, if_neg (show ¬ (1 : Int32) = 0 by decide), if_neg (show ¬ (1 : Int32) = 0 by decide), show (4 : Int64) = (4 : Int32).toInt64 by decide, show (1 : Int64) = (1 : Int32).toInt64 by decide]
    by_cases c1 : c < 1
    · rw [if_pos c1, in_f (fun e => (fa_of_lt c1).2.1 e.1), Option.bind_some, if_pos rfl]
      exact ⟨_, _, rfl, rfl, rfl, rfl, rfl⟩
    · rw [if_neg c1]
      by_cases c2 : c ≤ 4
      · rw [if_pos c2, in_t ⟨fa_of_nlt c1, c2⟩, Option.bind_some, if_neg (show ¬ (1 : Int32) = 0 by decide)]
        have hx := wmk_ok h2 h3
        have hxl := wok_lt hx
        obtain ⟨j, hj, rfl⟩ := nI_of2 (M := 4) (n := 4) rfl (by
          have n1 := fa_of_nlt c1
          rw [fa_lt]; rw [fa_le] at n1
          have e0 : (0 : Int32).toInt = 0 := rfl
          have e9 : (1 : Int32).toInt = 1 := rfl
          omega) c2
        have hj1 : 1 ≤ j := by
          rcases Nat.lt_or_ge j 1 with q | q
          · exact absurd (show nI j < 1 from nI_lt (b := 1) q (by omega)) c1
          · exact q
        obtain ⟨rf, hf1, hf2⟩ := n_finds hM hg mp
        rw [n_pack6 h2 h3, Option.bind_some, n_word8 h2 h3, Option.bind_some, hf1, Option.bind_some]
        rcases n_seat_node hN hxl with ⟨s1, d, s2, s3, s4, s5⟩ | ⟨s1, s2⟩
        · rcases n_finds_node hg hf2 hxl with ⟨u1, rr, u2, u3⟩ | ⟨u1, u2⟩
          · have hs := szN_le (nk l (wmk v' n'))
            rw [s4, Option.bind_some, if_neg s5, n_sizeOf6 hN s2, Option.bind_some, s3, isOf_if (by omega) hj, Option.bind_some, u2, Option.bind_some, if_neg u3, n_child hM hg hx, Option.bind_some, n_size8 (msk_lt _ 16), Option.bind_some, nk_pc]
            unfold fX8_mark_J87
            rw [mark_if (by omega) hj]
            by_cases c3 : szN (nk l (wmk v' n')) = j ∨ (j = 1 ∧ szN (nk l (wmk v' n')) = 2) ∨ (j = 3 ∧ szN (nk l (wmk v' n')) = 4)
            · obtain ⟨x, m1, m2⟩ := n_markOf hN s2 hj1 hj fnd rf cn
              rw [s3] at m2
              rw [if_pos c3, if_neg (by decide), m1, Option.bind_some, if_pos c3, m2]
              exact ⟨_, _, rfl, rfl, rfl, rfl, rfl⟩
            · have f3 : fX8_found (3 : Int32) cn = some (-3, nI 3, upd cn 3 (cn 3 + 1)) := (n_refuse (k := 3) (by omega) (by omega) cn).2
              have g3 : fX7_refuse (3 : Int32) cn = some (-3, nI 3, upd cn 3 (cn 3 + 1)) := (n_refuse (k := 3) (by omega) (by omega) cn).1
              unfold fX8_mark_J98
              rw [if_neg c3, if_pos rfl, g3, Option.bind_some, if_neg c3, f3, Option.bind_some]
              exact ⟨_, _, rfl, rfl, rfl, rfl, rfl⟩
          · exact absurd s1 u1
        · rcases n_finds_node hg hf2 hxl with ⟨u1, -⟩ | ⟨u1, u2⟩
          · exact absurd u1 s1
          · rw [s2, Option.bind_some, if_pos rfl, u2, Option.bind_some, if_pos rfl]
            exact ⟨_, _, rfl, rfl, rfl, rfl, rfl⟩
      · rw [if_neg c2, in_f (fun e => c2 e.2), Option.bind_some, if_pos rfl]
        exact ⟨_, _, rfl, rfl, rfl, rfl, rfl⟩
  · rw [e1, e2, Option.bind_some, Option.bind_some, if_pos rfl, if_pos rfl]
    exact ⟨_, _, rfl, rfl, rfl, rfl, rfl⟩
