/-! how many figures two words have alike from the first on -/
def wlcpG (A B : Nat) : Nat → Nat → Nat
  | 0, n => n
  | f + 1, n => if n < A % 8 ∧ n < B % 8 ∧ wfg A n = wfg B n then wlcpG A B f (n + 1) else n
def wlcp (A B : Nat) : Nat := wlcpG A B 6 0
theorem wlcpG_spec {A B : Nat} (hA : A % 8 ≤ 6) (hB : B % 8 ≤ 6) : ∀ (f n : Nat), n ≤ A % 8 → n ≤ B % 8 → wpre A n = wpre B n → 6 ≤ f + n →
    n ≤ wlcpG A B f n ∧ wlcpG A B f n ≤ A % 8 ∧ wlcpG A B f n ≤ B % 8 ∧ wpre A (wlcpG A B f n) = wpre B (wlcpG A B f n) ∧ ∀ k, k ≤ A % 8 → k ≤ B % 8 → wpre A k = wpre B k → k ≤ wlcpG A B f n
  | 0, n, h1, h2, h3, h4 => ⟨Nat.le_refl _, h1, h2, h3, fun k k1 k2 _ => by show k ≤ n; omega⟩
  | f + 1, n, h1, h2, h3, h4 => by
    unfold wlcpG
    by_cases c : n < A % 8 ∧ n < B % 8 ∧ wfg A n = wfg B n
    · rw [if_pos c]
      have e : wpre A (n + 1) = wpre B (n + 1) := by rw [wpre_succ (by omega), wpre_succ (by omega), h3, c.2.2]
      obtain ⟨q1, q2, q3, q4, q5⟩ := wlcpG_spec hA hB f (n + 1) c.1 c.2.1 e (by omega)
      exact ⟨by omega, q2, q3, q4, q5⟩
    · rw [if_neg c]
      refine ⟨Nat.le_refl _, h1, h2, h3, fun k k1 k2 k3 => ?_⟩
      rcases Nat.lt_or_ge n k with q | q
      · exact absurd ⟨by omega, by omega, by unfold wfg; rw [wpre_down (show k ≤ 6 by omega) (show n + 1 ≤ k by omega) k3]⟩ c
      · exact q
theorem wlcp_spec {A B : Nat} (hA : wok A) (hB : wok B) : wlcp A B ≤ A % 8 ∧ wlcp A B ≤ B % 8 ∧ wpre A (wlcp A B) = wpre B (wlcp A B) ∧ ∀ k, k ≤ A % 8 → k ≤ B % 8 → wpre A k = wpre B k → k ≤ wlcp A B := by
  obtain ⟨-, q2, q3, q4, q5⟩ := wlcpG_spec (wok_len hA) (wok_len hB) 6 0 (Nat.zero_le _) (Nat.zero_le _) (by rw [wpre_0 (wok_lt hA), wpre_0 (wok_lt hB)]) (by omega)
  exact ⟨q2, q3, q4, q5⟩
theorem wlcp_iff {A B k : Nat} (hA : wok A) (hB : wok B) (h1 : k ≤ A % 8) (h2 : k ≤ B % 8) : k ≤ wlcp A B ↔ wpre A k = wpre B k := by
  obtain ⟨q1, q2, q3, q4⟩ := wlcp_spec hA hB
  exact ⟨fun h => wpre_down (by have := wok_len hA; omega) h q3, q4 k h1 h2⟩
theorem wlcp_comm {A B : Nat} (hA : wok A) (hB : wok B) : wlcp A B = wlcp B A := by
  obtain ⟨q1, q2, q3, q4⟩ := wlcp_spec hA hB
  obtain ⟨p1, p2, p3, p4⟩ := wlcp_spec hB hA
  exact Nat.le_antisymm (p4 _ q2 q1 q3.symm) (q4 _ p2 p1 p3.symm)
theorem whead_lcp {P W : Nat} (hP : wok P) (hW : wok W) : whead P W ↔ wlcp W P = P % 8 := by
  obtain ⟨q1, q2, q3, q4⟩ := wlcp_spec hW hP
  constructor
  · intro h
    exact Nat.le_antisymm q2 (q4 _ h.1 (Nat.le_refl _) h.2.symm)
  · intro h
    rw [h] at q1 q3
    exact ⟨q1, q3.symm⟩
theorem whd_head {W k : Nat} (hW : wok W) (hk : k ≤ W % 8) : whead (whd W k) W := by
  have := wok_len hW
  refine ⟨by rw [whd_len (by omega)]; exact hk, ?_⟩
  rw [whd_len (by omega), whd_pre (by omega) (Nat.le_refl _)]
theorem whd_self {W : Nat} (hW : wok W) : whd W (W % 8) = W := (wok_eq hW).symm
theorem n_alike_L {A B : Nat} (hA : wok A) (hB : wok B) : ∀ (f F n : Nat), n ≤ A % 8 → n ≤ B % 8 → wpre A n = wpre B n → 6 ≤ f + n → f < F → fX8_alikeOf_L2 (nI A) (nI B) F (nI n) = some (nI (wlcpG A B f n))
  | f, 0, n, _, _, _, _, hF => absurd hF (Nat.not_lt_zero f)
  | 0, F + 1, n, h1, h2, h3, h4, hF => by
    have := wok_len hA
    rw [fX8_alikeOf_L2, n_len8 (wok_lt hA)]
    simp only [Option.bind_some]
    rw [if_pos (nI_le (by omega) (by omega))]
    rfl
  | f + 1, F + 1, n, h1, h2, h3, h4, hF => by
    have hl := wok_len hA
    have hm := wok_len hB
    rw [fX8_alikeOf_L2, n_len8 (wok_lt hA)]
    simp only [Option.bind_some]
    unfold wlcpG
    by_cases c1 : n < A % 8
    · rw [if_neg (nI_ge c1 (by omega)), n_len8 (wok_lt hB)]
      simp only [Option.bind_some]
      by_cases c2 : n < B % 8
      · rw [if_neg (nI_ge c2 (by omega)), n_fig8 (wok_lt hA) (by omega), n_fig8 (wok_lt hB) (by omega)]
        simp only [Option.bind_some]
        have f1 := wfg_lt A n
        have f2 := wfg_lt B n
        by_cases c3 : wfg A n = wfg B n
        · rw [if_pos (by rw [c3]), if_pos ⟨c1, c2, c3⟩]
          unfold gl
          rw [nI_1]
          exact n_alike_L hA hB f F (n + 1) c1 c2 (by rw [wpre_succ (by omega), wpre_succ (by omega), h3, c3]) (by omega) (by omega)
        · rw [if_neg (fun e => c3 ((nI_eq (by omega) (by omega)).mp e)), if_neg (fun e => c3 e.2.2)]
      · rw [if_pos (nI_le (by omega) (by omega)), if_neg (fun e => c2 e.2.1)]
    · rw [if_pos (nI_le (by omega) (by omega)), if_neg (fun e => c1 e.1)]
theorem n_alike {A B : Nat} (hA : wok A) (hB : wok B) : fX8_alikeOf (nI A) (nI B) = some (nI (wlcp A B)) := by
  unfold fX8_alikeOf
  rw [← nI_0, n_alike_L hA hB 6 gF 0 (Nat.zero_le _) (Nat.zero_le _) (by rw [wpre_0 (wok_lt hA), wpre_0 (wok_lt hB)]) (by omega) (by decide)]
  rfl
theorem n_begins {P W : Nat} (hP : wok P) (hW : wok W) [Decidable (whead P W)] : fX8_begins (nI W) (nI P) = some (if whead P W then 1 else 0) := by
  unfold fX8_begins
  rw [n_alike hW hP]
  simp only [Option.bind_some]
  rw [n_len8 (wok_lt hP)]
  simp only [Option.bind_some]
  have h1 := (wlcp_spec hW hP).1
  have h2 := wok_len hW
  have h3 := wok_len hP
  by_cases c : whead P W
  · rw [if_pos c, if_pos (by rw [(whead_lcp hP hW).mp c])]
  · rw [if_neg c, if_neg (fun e => c ((whead_lcp hP hW).mpr ((nI_eq (by omega) (by omega)).mp e)))]
theorem n_xor_div {a b s : Nat} : (a ^^^ b) / 2 ^ s = 0 ↔ a / 2 ^ s = b / 2 ^ s := by
  rw [← Nat.shiftRight_eq_div_pow, ← Nat.shiftRight_eq_div_pow, ← Nat.shiftRight_eq_div_pow, Nat.shiftRight_xor_distrib]
  constructor
  · intro h
    apply Nat.eq_of_testBit_eq
    intro i
    have := congrArg (fun x => x.testBit i) h
    simp only [Nat.testBit_xor, Nat.zero_testBit] at this
    revert this
    cases (a >>> s).testBit i <;> cases (b >>> s).testBit i <;> simp
  · intro h
    rw [h, Nat.xor_self]
theorem n_xor_lt {a b : Nat} (ha : a < 2 ^ 27) (hb : b < 2 ^ 27) : a ^^^ b < 2 ^ 27 := Nat.xor_lt_two_pow ha hb
theorem n_isHead {P W : Nat} (hP : wok P) (hW : wok W) [Decidable (whead P W)] : fX6_isHeadOf (nI P) (nI W) = some (if whead P W then 1 else 0) := by
  unfold fX6_isHeadOf
  have h2 := wok_len hW
  have h3 := wok_len hP
  rw [n_len6 (wok_lt hP), n_len6 (wok_lt hW)]
  simp only [Option.bind_some]
  by_cases c1 : P % 8 ≤ W % 8
  · rw [if_neg (nI_nlt c1 (by omega)), n_bits h3]
    simp only [Option.bind_some]
    have hx := n_xor_lt (wok_lt hP) (wok_lt hW)
    rw [fb_xorI, n_shr (by omega) (by omega)]
    by_cases c2 : wpre P (P % 8) = wpre W (P % 8)
    · rw [n_xor_div.mpr c2, if_pos nI_0, if_pos (show whead P W from ⟨c1, c2⟩)]
    · rw [if_neg (show ¬ whead P W from fun e => c2 e.2), if_neg]
      intro e
      have h0 : (P ^^^ W) / 2 ^ (27 - 4 * (P % 8)) < 2 ^ 31 := Nat.lt_of_le_of_lt (Nat.div_le_self _ _) (by omega)
      rw [← nI_0, nI_eq h0 (by omega)] at e
      exact c2 (n_xor_div.mp e)
  · rw [if_pos (nI_lt (by omega) (by omega)), if_neg (fun e => c1 e.1)]
/-! leading zeros of a number below 2^24, by figures -/
def walk6 (X : Nat) : Nat := if X = 0 then 6 else if X < 16 then 5 else if X < 256 then 4 else if X < 4096 then 3 else if X < 65536 then 2 else if X < 1048576 then 1 else 0
theorem n_ush {n : Nat} (hn : n < 2 ^ 32) (k : Nat) (hk : k ≤ 16) : ((nI n).toUInt32 >>> ((nI k).toUInt32 &&& Int32.toUInt32 31)).toInt32 = nI (n / 2 ^ k) := by
  refine pk_ushrN hn _ k ?_
  have : ∀ j : Fin 17, (((nI j.val).toUInt32 &&& Int32.toUInt32 31).toBitVec % 32).toNat = j.val := by decide
  exact this ⟨k, by omega⟩
theorem nlz_a {x n : Nat} (h0 : 0 < x) (hx : x < 16) (hn : 3 ≤ n) (hn2 : n ≤ 31) : ∃ d, d < 4 ∧ 2 ^ d ≤ x ∧ x < 2 ^ (d + 1) ∧ (if nI x < (4 : Int32) then (some (nI n - (((nI x).toUInt32 >>> (((1 : Int32)).toUInt32 &&& Int32.toUInt32 31)).toInt32))) else (gl (nI n + (-2)) (fun x1 => (gl (((nI x).toUInt32 >>> (((2 : Int32)).toUInt32 &&& Int32.toUInt32 31)).toInt32) (fun x0 => (some (x1 - (((x0).toUInt32 >>> (((1 : Int32)).toUInt32 &&& Int32.toUInt32 31)).toInt32)))))))) = some (nI (n - d)) := by
  have e1 : (1 : Int32) = nI 1 := rfl
  have e2 : (2 : Int32) = nI 2 := rfl
  have e4 : (4 : Int32) = nI 4 := rfl
  have m2 : nI n + (-2) = nI (n - 2) := by
    have := pk_sub (a := n) (b := 2) (by omega)
    rw [← this]
    show nI n + (-2) = nI n - 2
    rw [Int32.sub_eq_add_neg]
  simp only [gl]
  rw [m2, e4, e1, e2]
  by_cases c : x < 4
  · rw [if_pos (nI_lt c (by omega)), n_ush (by omega) 1 (by omega), pk_sub (by omega)]
    refine ⟨x / 2 ^ 1, by omega, ?_, ?_, rfl⟩
    · rcases (show x = 1 ∨ x = 2 ∨ x = 3 by omega) with rfl | rfl | rfl <;> decide
    · rcases (show x = 1 ∨ x = 2 ∨ x = 3 by omega) with rfl | rfl | rfl <;> decide
  · rw [if_neg (nI_nlt (by omega) (by omega)), n_ush (by omega) 2 (by omega), n_ush (by have := Nat.div_le_self x (2 ^ 2); omega) 1 (by omega), pk_sub (by omega)]
    refine ⟨2 + x / 2 ^ 2 / 2 ^ 1, by omega, ?_, ?_, by rw [Nat.sub_sub]⟩
    · rcases (show x / 4 = 1 ∨ x / 4 = 2 ∨ x / 4 = 3 by omega) with q | q | q <;> simp [q] <;> omega
    · rcases (show x / 4 = 1 ∨ x / 4 = 2 ∨ x / 4 = 3 by omega) with q | q | q <;> simp [q] <;> omega
theorem n_neg {n k : Nat} {c : Int32} (hc : c = -nI k) (h : k ≤ n) : nI n + c = nI (n - k) := by
  rw [hc, ← pk_sub h, Int32.sub_eq_add_neg]
theorem pow_up {d x k : Nat} (h1 : 2 ^ d ≤ x / 2 ^ k) (h2 : x / 2 ^ k < 2 ^ (d + 1)) : 2 ^ (d + k) ≤ x ∧ x < 2 ^ (d + k + 1) := by
  constructor
  · rw [Nat.pow_add]
    exact Nat.le_trans (Nat.mul_le_mul_right _ h1) (Nat.div_mul_le_self x _)
  · rw [show d + k + 1 = (d + 1) + k by omega, Nat.pow_add]
    exact (Nat.div_lt_iff_lt_mul (Nat.two_pow_pos k)).mp h2
theorem n_nlz {X : Nat} (h : X < 2 ^ 24) : ∃ z, z ≤ 32 ∧ 8 ≤ z ∧ fJ6_numberOfLeadingZeros_0f7a4 (nI X) = some (nI z) ∧ (z - 8) / 4 = walk6 X := by
  unfold fJ6_numberOfLeadingZeros_0f7a4
  by_cases h0 : X = 0
  · subst h0
    exact ⟨32, by omega, by omega, by decide, by decide⟩
  have key : ∃ d, d < 24 ∧ 2 ^ d ≤ X ∧ X < 2 ^ (d + 1) ∧ fJ6_numberOfLeadingZeros_0f7a4 (nI X) = some (nI (31 - d)) := by
    unfold fJ6_numberOfLeadingZeros_0f7a4
    have e16 : (16 : Int32) = nI 16 := rfl
    have e8 : (8 : Int32) = nI 8 := rfl
    have e256 : (256 : Int32) = nI 256 := rfl
    have e65 : (65536 : Int32) = nI 65536 := rfl
    have m1 : (31 : Int32) + (-16) = nI 15 := by decide
    have m0 : (31 : Int32) = nI 31 := rfl
    rw [← nI_0, if_pos (nI_lt (by omega) (by omega))]
    -- the first stage
    obtain ⟨x1, n1, k1, hx1, hn1, hx1b, hx1p, hk1, st1⟩ : ∃ x1 n1 k1, x1 = X / 2 ^ k1 ∧ n1 = 31 - k1 ∧ x1 < 65536 ∧ 0 < x1 ∧ (k1 = 0 ∨ k1 = 16) ∧ (if nI X < (65536 : Int32) then (some (nI X, (31 : Int32))) else (gl ((31 : Int32) + (-16)) (fun x1_25 => (gl (((nI X).toUInt32 >>> (((16 : Int32)).toUInt32 &&& Int32.toUInt32 31)).toInt32) (fun x0_32 => (some (x0_32, x1_25))))))) = some (nI x1, nI n1) := by
      by_cases c : X < 65536
      · refine ⟨X, 31, 0, by simp, rfl, c, by omega, Or.inl rfl, ?_⟩
        rw [e65, if_pos (nI_lt c (by omega)), m0]
      · refine ⟨X / 2 ^ 16, 15, 16, rfl, rfl, by omega, by omega, Or.inr rfl, ?_⟩
        rw [e65, if_neg (nI_nlt (by omega) (by omega))]
        simp only [gl]
        rw [m1, e16, n_ush (by omega) 16 (by omega)]
    rw [st1]
    simp only [Option.bind_some]
    obtain ⟨x2, n2, k2, hx2, hn2, hx2b, hx2p, hk2, st2⟩ : ∃ x2 n2 k2, x2 = x1 / 2 ^ k2 ∧ n2 = n1 - k2 ∧ x2 < 256 ∧ 0 < x2 ∧ (k2 = 0 ∨ k2 = 8) ∧ (if nI x1 < (256 : Int32) then (some (nI x1, nI n1)) else (gl (nI n1 + (-8)) (fun x1_40 => (gl (((nI x1).toUInt32 >>> (((8 : Int32)).toUInt32 &&& Int32.toUInt32 31)).toInt32) (fun x0_47 => (some (x0_47, x1_40))))))) = some (nI x2, nI n2) := by
      by_cases c : x1 < 256
      · refine ⟨x1, n1, 0, by simp, rfl, c, by omega, Or.inl rfl, ?_⟩
        rw [e256, if_pos (nI_lt c (by omega))]
      · refine ⟨x1 / 2 ^ 8, n1 - 8, 8, rfl, rfl, by omega, by omega, Or.inr rfl, ?_⟩
        rw [e256, if_neg (nI_nlt (by omega) (by omega))]
        simp only [gl]
        rw [n_neg (k := 8) (by decide) (by omega), e8, n_ush (by omega) 8 (by omega)]
    rw [st2]
    simp only [Option.bind_some]
    obtain ⟨x3, n3, k3, hx3, hn3, hx3b, hx3p, hk3, st3⟩ : ∃ x3 n3 k3, x3 = x2 / 2 ^ k3 ∧ n3 = n2 - k3 ∧ x3 < 16 ∧ 0 < x3 ∧ (k3 = 0 ∨ k3 = 4) ∧ (if nI x2 < (16 : Int32) then (some (nI x2, nI n2)) else (gl (nI n2 + (-4)) (fun x1_54 => (gl (((nI x2).toUInt32 >>> (((4 : Int32)).toUInt32 &&& Int32.toUInt32 31)).toInt32) (fun x0_60 => (some (x0_60, x1_54))))))) = some (nI x3, nI n3) := by
      have e4 : (4 : Int32) = nI 4 := rfl
      by_cases c : x2 < 16
      · refine ⟨x2, n2, 0, by simp, rfl, c, by omega, Or.inl rfl, ?_⟩
        rw [e16, if_pos (nI_lt c (by omega))]
      · refine ⟨x2 / 2 ^ 4, n2 - 4, 4, rfl, rfl, by omega, by omega, Or.inr rfl, ?_⟩
        rw [e16, if_neg (nI_nlt (by omega) (by omega))]
        simp only [gl]
        rw [n_neg (k := 4) (by decide) (by omega), e4, n_ush (by omega) 4 (by omega)]
    rw [st3]
    simp only [Option.bind_some]
    obtain ⟨d, hd, hd1, hd2, hd3⟩ := nlz_a (x := x3) (n := n3) hx3p hx3b (by omega) (by omega)
    have hX : x3 = X / 2 ^ (k1 + k2 + k3) := by rw [hx3, hx2, hx1, Nat.div_div_eq_div_mul, Nat.div_div_eq_div_mul, ← Nat.pow_add, ← Nat.pow_add, Nat.add_assoc]
    rw [hX] at hd1 hd2
    obtain ⟨p1, p2⟩ := pow_up hd1 hd2
    refine ⟨d + (k1 + k2 + k3), ?_, p1, p2, ?_⟩
    · rcases Nat.lt_or_ge (d + (k1 + k2 + k3)) 24 with q | q
      · exact q
      · have := Nat.pow_le_pow_right (show 0 < 2 by decide) q
        omega
    · rw [show 31 - (d + (k1 + k2 + k3)) = n3 - d by omega]
      exact hd3
  unfold fJ6_numberOfLeadingZeros_0f7a4 at key
  obtain ⟨d, hd, h1, h2, h3⟩ := key
  refine ⟨31 - d, by omega, by omega, h3, ?_⟩
  unfold walk6
  rcases (show d = 0 ∨ d = 1 ∨ d = 2 ∨ d = 3 ∨ d = 4 ∨ d = 5 ∨ d = 6 ∨ d = 7 ∨ d = 8 ∨ d = 9 ∨ d = 10 ∨ d = 11 ∨ d = 12 ∨ d = 13 ∨ d = 14 ∨ d = 15 ∨ d = 16 ∨ d = 17 ∨ d = 18 ∨ d = 19 ∨ d = 20 ∨ d = 21 ∨ d = 22 ∨ d = 23 by omega) with rfl | rfl | rfl | rfl | rfl | rfl | rfl | rfl | rfl | rfl | rfl | rfl | rfl | rfl | rfl | rfl | rfl | rfl | rfl | rfl | rfl | rfl | rfl | rfl <;> simp only [Nat.reducePow, Nat.reduceAdd] at h1 h2 <;> (repeat' split) <;> omega
/-- the figures alike by leading zeros -/
theorem walk6_iff {A B k : Nat} (hA : A < 2 ^ 27) (hB : B < 2 ^ 27) (hk : k ≤ 6) : k ≤ walk6 ((A ^^^ B) / 2 ^ 3) ↔ wpre A k = wpre B k := by
  have hx := n_xor_lt hA hB
  unfold wpre
  rw [← n_xor_div]
  generalize A ^^^ B = X at hx ⊢
  unfold walk6
  rcases w_le6 hk with rfl | rfl | rfl | rfl | rfl | rfl | rfl <;> (repeat' split) <;> simp <;> omega
theorem gl_eq {α β : Type} (e : α) (k : α → Option β) : gl e k = k e := rfl
theorem gd_ok {β : Type} {y : Int32} {k : Option β} (h : ¬ y = 0) : gd y k = k := if_neg h
theorem gdL_ok {β : Type} {y : Int64} {k : Option β} (h : ¬ y = 0) : gdL y k = k := if_neg h
theorem gx_ok {β : Type} {i : Int32} {n : Nat} {k : Option β} (h : vp_in i n) : gx i n k = k := if_neg h
theorem walk6_le (X : Nat) : walk6 X ≤ 6 := by
  unfold walk6; (repeat' split) <;> omega
theorem n_min {a b : Nat} (ha : a < 2 ^ 31) (hb : b < 2 ^ 31) : (if nI a < nI b then nI a else nI b) = nI (if a < b then a else b) := by
  by_cases c : a < b
  · rw [if_pos (nI_lt c hb), if_pos c]
  · rw [if_neg (nI_nlt (Nat.not_lt.mp c) ha), if_neg c]
theorem wlcp_min {A B : Nat} (hA : wok A) (hB : wok B) : (if (if B % 8 < A % 8 then B % 8 else A % 8) < walk6 ((A ^^^ B) / 2 ^ 3) then (if B % 8 < A % 8 then B % 8 else A % 8) else walk6 ((A ^^^ B) / 2 ^ 3)) = wlcp A B := by
  have hl := wok_len hA
  have hm := wok_len hB
  obtain ⟨q1, q2, q3, q4⟩ := wlcp_spec hA hB
  have hi := fun k hk => walk6_iff (k := k) (wok_lt hA) (wok_lt hB) hk
  have hw := walk6_le ((A ^^^ B) / 2 ^ 3)
  generalize walk6 ((A ^^^ B) / 2 ^ 3) = w at hw hi ⊢
  have u1 : wlcp A B ≤ w := (hi _ (by omega)).mpr q3
  generalize hmn : (if B % 8 < A % 8 then B % 8 else A % 8) = mn
  have hmn1 : mn ≤ A % 8 ∧ mn ≤ B % 8 ∧ (mn = A % 8 ∨ mn = B % 8) := by
    rw [← hmn]; split <;> omega
  by_cases c : mn < w
  · rw [if_pos c]
    have := q4 mn hmn1.1 hmn1.2.1 ((hi mn (by omega)).mp (by omega))
    omega
  · rw [if_neg c]
    have := q4 w (by omega) (by omega) ((hi w (by omega)).mp (Nat.le_refl _))
    omega
theorem n_shared {A B : Nat} (hA : wok A) (hB : wok B) : fX6_sharedLength (nI A) (nI B) = some (nI (wlcp A B)) := by
  have hx := n_xor_lt (wok_lt hA) (wok_lt hB)
  have hl := wok_len hA
  have hm := wok_len hB
  have e0 : (nI A ^^^ nI B) >>> ((3 : Int32) &&& 31) = nI ((A ^^^ B) / 2 ^ 3) := by
    rw [fb_xorI]
    exact n_shr (k := 3) (by omega) (by omega)
  obtain ⟨z, z1, z2, z3, z4⟩ := n_nlz (X := (A ^^^ B) / 2 ^ 3) (by omega)
  have e1 : (nI z - (8 : Int32)) / (4 : Int32) = nI (walk6 ((A ^^^ B) / 2 ^ 3)) := by
    have q1 : nI z - (8 : Int32) = nI (z - 8) := pk_sub (a := z) (b := 8) z2
    have q2 : nI (z - 8) / (4 : Int32) = nI ((z - 8) / 4) := pk_div (a := z - 8) (d := 4) (by omega) (by omega) (by omega)
    rw [q1, q2, z4]
  have hw := walk6_le ((A ^^^ B) / 2 ^ 3)
  have e2 : (if (if nI (B % 8) < nI (A % 8) then nI (B % 8) else nI (A % 8)) < nI (walk6 ((A ^^^ B) / 2 ^ 3)) then (if nI (B % 8) < nI (A % 8) then nI (B % 8) else nI (A % 8)) else nI (walk6 ((A ^^^ B) / 2 ^ 3))) = nI (wlcp A B) := by
    rw [n_min (by omega) (by omega), n_min (by split <;> omega) (by omega), wlcp_min hA hB]
  unfold fX6_sharedLength
  rw [e0, gl_eq, z3, Option.bind_some, gd_ok (by decide), gl_eq, e1, n_len6 (wok_lt hA), Option.bind_some, n_len6 (wok_lt hB), Option.bind_some, e2]
