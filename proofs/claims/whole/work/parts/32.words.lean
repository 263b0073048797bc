/-! which pairs are words -/
theorem n_in8 (a b c : Int32) : fX8_in (a.toInt64) (b.toInt64) (c.toInt64) = some (if b ≤ a ∧ a ≤ c then 1 else 0) := by
  unfold fX8_in
  by_cases h1 : a < b
  · rw [if_pos ((lg_cmp_lt _ _).mpr ((fa_wide_lt a b).mpr h1)), if_neg (fun e => (fa_of_lt h1).2.1 e.1)]
  · rw [if_neg (fun e => h1 ((fa_wide_lt a b).mp ((lg_cmp_lt _ _).mp e)))]
    by_cases h2 : c < a
    · rw [if_pos ((lg_cmp_gt _ _).mpr ((fa_wide_lt c a).mpr h2)), if_neg (fun e => (fa_of_lt h2).2.1 e.2)]
    · rw [if_neg (fun e => h2 ((fa_wide_lt c a).mp ((lg_cmp_gt _ _).mp e))), if_pos ⟨fa_of_nlt h1, fa_of_nlt h2⟩]
theorem n_inL (a : Int32) (b c : Int64) (hb : ∃ b' : Int32, b = b'.toInt64) (hc : ∃ c' : Int32, c = c'.toInt64) : fX8_in (a.toInt64) b c = some (if b ≤ a.toInt64 ∧ a.toInt64 ≤ c then 1 else 0) := by
  obtain ⟨b', rfl⟩ := hb
  obtain ⟨c', rfl⟩ := hc
  rw [n_in8]
  simp only [fa_wide_le]
/-- the numbers v, n of a word of least .. 6 figures -/
def wvalid (least : Nat) (v n : Int32) (v' n' : Nat) : Prop := least ≤ n' ∧ n' ≤ 6 ∧ v' < 16 ^ n' ∧ v = nI v' ∧ n = nI n'
theorem n_word_case (least : Nat) (hl : least ≤ 1) (v n : Int32) : (∃ v' n', wvalid least v n v' n') ∨ ¬ (nI least ≤ n ∧ n ≤ 6 ∧ 0 ≤ v ∧ v.toInt64 ≤ (((1 : Int64) <<< ((((4 : Int32) * n)).toInt64 &&& 63)) - (1 : Int64))) := by
  by_cases h : nI least ≤ n ∧ n ≤ 6 ∧ 0 ≤ v ∧ v.toInt64 ≤ (((1 : Int64) <<< ((((4 : Int32) * n)).toInt64 &&& 63)) - (1 : Int64))
  · left
    obtain ⟨h1, h2, h3, h4⟩ := h
    have hn0 : ¬ n < 0 := by
      rw [fa_lt]; rw [fa_le] at h1
      have : (nI least).toInt = (least : Int) := nI_toInt (by omega)
      have e0 : (0 : Int32).toInt = 0 := rfl
      omega
    obtain ⟨n', hn', rfl⟩ := nI_of2 (M := 6) (n := 6) rfl hn0 h2
    obtain ⟨v', hv', rfl⟩ := nI_of (x := v) (by rw [fa_lt]; rw [fa_le] at h3; omega)
    refine ⟨v', n', ?_, hn', ?_, rfl, rfl⟩
    · exact (nI_leI (by omega) (by omega)).mp h1
    · rw [fa_le64, nI_l hv'] at h4
      have e : (((1 : Int64) <<< ((((4 : Int32) * nI n')).toInt64 &&& 63)) - (1 : Int64)) = lN (16 ^ n' - 1) := by
        rcases w_le6 hn' with rfl | rfl | rfl | rfl | rfl | rfl | rfl <;> decide
      rw [e, lN_toInt hv', lN_toInt (by rcases w_le6 hn' with rfl | rfl | rfl | rfl | rfl | rfl | rfl <;> decide)] at h4
      have : 0 < 16 ^ n' := Nat.pow_pos (by decide)
      omega
  · right; exact h
theorem n_valid {least v' n' : Nat} {v n : Int32} (hl : least ≤ 1) (h : wvalid least v n v' n') : nI least ≤ n ∧ n ≤ 6 ∧ 0 ≤ v ∧ v.toInt64 ≤ (((1 : Int64) <<< ((((4 : Int32) * n)).toInt64 &&& 63)) - (1 : Int64)) ∧ v' < 2 ^ 24 := by
  obtain ⟨h1, h2, h3, rfl, rfl⟩ := h
  have h5 : v' < 2 ^ 24 := by rcases w_le6 h2 with rfl | rfl | rfl | rfl | rfl | rfl | rfl <;> simp at h3 ⊢ <;> omega
  refine ⟨nI_le h1 (by omega), ?_, nI_pos' (by omega), ?_, h5⟩
  · rw [show (6 : Int32) = nI 6 from rfl]; exact nI_le h2 (by omega)
  · have e : (((1 : Int64) <<< ((((4 : Int32) * nI n')).toInt64 &&& 63)) - (1 : Int64)) = lN (16 ^ n' - 1) := by
      rcases w_le6 h2 with rfl | rfl | rfl | rfl | rfl | rfl | rfl <;> decide
    have : 16 ^ n' ≤ 2 ^ 24 := by rcases w_le6 h2 with rfl | rfl | rfl | rfl | rfl | rfl | rfl <;> decide
    rw [e, nI_l (by omega), lN_le (by omega) (by omega)]
    omega
theorem n_lim (n : Int32) (h1 : 0 ≤ n) (h2 : n ≤ 6) : ∃ c' : Int32, (((1 : Int64) <<< ((((4 : Int32) * n)).toInt64 &&& 63)) - (1 : Int64)) = c'.toInt64 := by
  obtain ⟨n', hn', rfl⟩ := nI_of2 (M := 6) (n := 6) rfl (by rw [fa_lt]; rw [fa_le] at h1; omega) h2
  refine ⟨nI (16 ^ n' - 1), ?_⟩
  rcases w_le6 hn' with rfl | rfl | rfl | rfl | rfl | rfl | rfl <;> decide
theorem n_isWord8 (least : Nat) (hl : least ≤ 1) (v n : Int32) : fX8_isWord v n (nI least) = some (if nI least ≤ n ∧ n ≤ 6 ∧ 0 ≤ v ∧ v.toInt64 ≤ (((1 : Int64) <<< ((((4 : Int32) * n)).toInt64 &&& 63)) - (1 : Int64)) then 1 else 0) := by
  unfold fX8_isWord
  rw [n_inL n (nI least).toInt64 (6 : Int64) ⟨_, rfl⟩ ⟨6, by decide⟩]
  simp only [Option.bind_some]
  rw [show (6 : Int64) = (6 : Int32).toInt64 by decide]
  simp only [fa_wide_le]
  by_cases c1 : nI least ≤ n ∧ n ≤ 6
  · rw [if_pos c1, if_neg (by decide)]
    have h0 : (0 : Int32) ≤ n := by
      have h1 := c1.1
      rw [fa_le] at h1 ⊢
      have : (nI least).toInt = (least : Int) := nI_toInt (by omega)
      have e0 : (0 : Int32).toInt = 0 := rfl
      omega
    rw [n_inL v (0 : Int64) _ ⟨0, by decide⟩ (n_lim n h0 c1.2)]
    simp only [Option.bind_some]
    rw [show (0 : Int64) = (0 : Int32).toInt64 by decide]
    simp only [fa_wide_le]
    by_cases c2 : 0 ≤ v ∧ v.toInt64 ≤ (((1 : Int64) <<< ((((4 : Int32) * n)).toInt64 &&& 63)) - (1 : Int64))
    · rw [if_pos c2, if_neg (by decide), if_pos ⟨c1.1, c1.2, c2⟩]
    · rw [if_neg c2, if_pos rfl, if_neg (fun e => c2 e.2.2)]
  · rw [if_neg c1, if_pos rfl, if_neg (fun e => c1 ⟨e.1, e.2.1⟩)]
theorem n_isWord6 (v n : Int32) : fX6_isWord v n = some (if nI 1 ≤ n ∧ n ≤ 6 ∧ 0 ≤ v ∧ v.toInt64 ≤ (((1 : Int64) <<< ((((4 : Int32) * n)).toInt64 &&& 63)) - (1 : Int64)) then 1 else 0) := by
  unfold fX6_isWord
  have e1 : (1 : Int32) = nI 1 := rfl
  by_cases c1 : n < 1
  · rw [if_pos c1, if_neg (fun e => (fa_of_lt c1).2.1 e.1)]
  · rw [if_neg c1]
    by_cases c2 : 6 < n
    · rw [if_pos c2, if_neg (fun e => (fa_of_lt c2).2.1 e.2.1)]
    · rw [if_neg c2]
      by_cases c3 : v < 0
      · rw [if_pos c3, if_neg (fun e => (fa_of_lt c3).2.1 e.2.2.1)]
      · rw [if_neg c3]
        have n1 := fa_of_nlt c1
        have n2 := fa_of_nlt c2
        have n3 := fa_of_nlt c3
        obtain ⟨n', hn', rfl⟩ := nI_of2 (M := 6) (n := 6) rfl (by rw [fa_lt]; rw [fa_le] at n1; have e0 : (0 : Int32).toInt = 0 := rfl; have e9 : (1 : Int32).toInt = 1 := rfl; omega) n2
        obtain ⟨v', hv', rfl⟩ := nI_of (x := v) c3
        have e : (((1 : Int64) <<< ((((4 : Int32) * nI n')).toInt64 &&& 63)) - (1 : Int64)) = lN (16 ^ n' - 1) := by
          rcases w_le6 hn' with rfl | rfl | rfl | rfl | rfl | rfl | rfl <;> decide
        have e2 : ((1 : Int32) <<< (((4 : Int32) * nI n') &&& 31)) = nI (16 ^ n') := by
          rcases w_le6 hn' with rfl | rfl | rfl | rfl | rfl | rfl | rfl <;> decide
        have hp : 16 ^ n' ≤ 2 ^ 24 := by rcases w_le6 hn' with rfl | rfl | rfl | rfl | rfl | rfl | rfl <;> decide
        have hq : 0 < 16 ^ n' := Nat.pow_pos (by decide)
        rw [e, e2, nI_l hv']
        by_cases c4 : 16 ^ n' ≤ v'
        · rw [if_pos (nI_le c4 hv'), if_neg]
          intro q
          rw [lN_le hv' (by omega)] at q
          omega
        · rw [if_neg (nI_ge (by omega) (by omega)), if_pos]
          refine ⟨n1, n2, n3, ?_⟩
          rw [lN_le hv' (by omega)]
          omega
/-- a pair is a word, for both; or it is none, for both -/
theorem n_word (v n : Int32) : (∃ v' n', wvalid 1 v n v' n' ∧ fX6_isWord v n = some 1 ∧ fX8_isWord v n 1 = some 1) ∨ (fX6_isWord v n = some 0 ∧ fX8_isWord v n 1 = some 0) := by
  have e1 : (1 : Int32) = nI 1 := rfl
  rcases n_word_case 1 (by omega) v n with ⟨v', n', h⟩ | h
  · left
    refine ⟨v', n', h, ?_, ?_⟩
    · obtain ⟨a, b, c, d, -⟩ := n_valid (by omega) h
      rw [n_isWord6, if_pos ⟨a, b, c, d⟩]
    · obtain ⟨a, b, c, d, -⟩ := n_valid (by omega) h
      have := n_isWord8 1 (by omega) v n
      rw [if_pos ⟨a, b, c, d⟩] at this
      exact this
  · right
    have := n_isWord8 1 (by omega) v n
    rw [if_neg h] at this
    exact ⟨by rw [n_isWord6, if_neg h], this⟩
theorem n_path (v n : Int32) : (∃ v' n', wvalid 0 v n v' n' ∧ fX6_isPath v n = some 1 ∧ fX8_isWord v n 0 = some 1) ∨ (fX6_isPath v n = some 0 ∧ fX8_isWord v n 0 = some 0) := by
  have h8 := n_isWord8 0 (by omega) v n
  rw [nI_0] at h8
  unfold fX6_isPath
  by_cases c : n = 0
  · subst c
    rw [if_pos rfl]
    by_cases c2 : v = 0
    · subst c2
      left
      exact ⟨0, 0, ⟨by omega, by omega, by decide, rfl, rfl⟩, by rw [if_pos rfl], by decide⟩
    · right
      rw [if_neg c2]
      refine ⟨rfl, ?_⟩
      rcases n_word_case 0 (by omega) v 0 with ⟨v', n', h1, h2, h3, h4, h5⟩ | h
      · exfalso
        have : n' = 0 := ((nI_eq (a := 0) (by omega) (by omega)).mp (nI_0.trans h5)).symm
        subst this
        rw [h4] at c2
        exact c2 (by rw [show v' = 0 by simpa using h3]; rfl)
      · rw [nI_0] at h
        rw [h8, if_neg h]
  · rw [if_neg c]
    rcases n_word v n with ⟨v', n', h, h1, h2⟩ | ⟨h1, h2⟩
    · left
      have h0 : wvalid 0 v n v' n' := ⟨by omega, h.2.1, h.2.2⟩
      obtain ⟨p, q, r, t, -⟩ := n_valid (by omega) h0
      refine ⟨v', n', h0, by rw [h1]; rfl, ?_⟩
      rw [nI_0] at p
      rw [h8, if_pos ⟨p, q, r, t⟩]
    · right
      refine ⟨by rw [h1]; rfl, ?_⟩
      rcases n_word_case 0 (by omega) v n with ⟨v', n', h⟩ | h
      · exfalso
        have hn : n' ≠ 0 := by
          intro e; subst e; exact c h.2.2.2.2
        have h0 : wvalid 1 v n v' n' := ⟨by omega, h.2.1, h.2.2⟩
        obtain ⟨p, q, r, t, -⟩ := n_valid (by omega) h0
        rw [n_isWord6, if_pos ⟨p, q, r, t⟩] at h1
        exact absurd (Option.some.inj h1) (by decide)
      · rw [nI_0] at h
        rw [h8, if_neg h]
/-! what stands behind the first k figures -/
def wtl (W k : Nat) : Nat := wmk (wpre W (W % 8) % 16 ^ (W % 8 - k)) (W % 8 - k)
theorem n_behind {W k : Nat} (hW : wok W) (hk : k ≤ W % 8) : fX8_behind (nI W) (nI k) = some (nI (wtl W k)) := by
  have hl := wok_len hW
  unfold fX8_behind
  rw [n_len8 (wok_lt hW)]
  simp only [Option.bind_some, gl]
  rw [pk_sub hk, n_num8 hW]
  simp only [Option.bind_some]
  have e : ((1 : Int32) <<< (((4 : Int32) * nI (W % 8 - k)) &&& 31)) - (1 : Int32) = nI (2 ^ (4 * (W % 8 - k)) - 1) := by
    rcases w_le6 (show W % 8 - k ≤ 6 by omega) with q | q | q | q | q | q | q <;> rw [q] <;> decide
  have e2 : (nI (2 ^ (4 * (W % 8 - k)) - 1)).toBitVec.toNat = 2 ^ (4 * (W % 8 - k)) - 1 := by
    rcases w_le6 (show W % 8 - k ≤ 6 by omega) with q | q | q | q | q | q | q <;> rw [q] <;> decide
  have hp := wpre_lt (wok_lt hW) hl
  have hp2 : 16 ^ (W % 8) ≤ 2 ^ 24 := by rcases w_le6 hl with q | q | q | q | q | q | q <;> rw [q] <;> decide
  have e3 : (2 : Nat) ^ (4 * (W % 8 - k)) = 16 ^ (W % 8 - k) := by rw [Nat.pow_mul]
  rw [e, pk_andN (by omega) (4 * (W % 8 - k)) e2, e3, n_word8 (by omega) (Nat.mod_lt _ (Nat.pow_pos (by decide)))]
  rfl
theorem n_mask (y : Nat) : y &&& 134217720 = (y / 8 % 2 ^ 24) * 8 := by
  apply Nat.eq_of_testBit_eq
  intro i
  rw [Nat.testBit_and, show (134217720 : Nat) = (2 ^ 24 - 1) * 2 ^ 3 by decide, show (8 : Nat) = 2 ^ 3 by decide, Nat.testBit_mul_two_pow, Nat.testBit_mul_two_pow]
  by_cases h : 3 ≤ i
  · simp only [h, decide_true, Bool.true_and]
    rw [Nat.testBit_two_pow_sub_one, Nat.testBit_mod_two_pow, Nat.testBit_div_two_pow, show i - 3 + 3 = i by omega, Bool.and_comm]
  · simp [h]
theorem n_all (x : Int32) : x = nI x.toBitVec.toNat := by
  apply Int32.toBitVec_inj.mp
  apply BitVec.eq_of_toNat_eq
  rw [pk_tn x.toBitVec.isLt]
theorem n_tail {W k : Nat} (hW : wok W) (hk : k ≤ W % 8) : fX6_tail (nI W) (nI k) = some (nI (wtl W k)) := by
  have hl := wok_len hW
  have hW27 := wok_lt hW
  unfold fX6_tail
  rw [n_len6 hW27]
  simp only [Option.bind_some]
  rw [pk_sub hk, show (134217720 : Int32) = nI 134217720 from rfl, fa_and, n_mask]
  have e1 : ((4 : Int32) * nI k) = nI (4 * k) := by
    rcases w_le6 (show k ≤ 6 by omega) with rfl | rfl | rfl | rfl | rfl | rfl | rfl <;> decide
  have hF : W / 8 % 2 ^ 24 = W / 8 := Nat.mod_eq_of_lt (by omega)
  rw [e1, hF]
  have hs : ((nI (4 * k) &&& 31).toBitVec.smod 32).toNat = 4 * k := by
    rcases w_le6 (show k ≤ 6 by omega) with rfl | rfl | rfl | rfl | rfl | rfl | rfl <;> decide
  have e2 := pk_shl (nI (W / 8 * 8)) (nI (4 * k) &&& 31) (4 * k) hs
  rw [pk_tn (by omega)] at e2
  rw [n_all (nI (W / 8 * 8) <<< (nI (4 * k) &&& 31)), e2, fa_and, n_mask]
  have e3 : W / 8 * 8 * 2 ^ (4 * k) % 2 ^ 32 / 8 % 2 ^ 24 = (W / 8 * 16 ^ k) % 16 ^ 6 := by
    have q : W / 8 * 8 * 2 ^ (4 * k) = (W / 8 * 16 ^ k) * 8 := by
      rw [Nat.pow_mul]
      rw [Nat.mul_assoc, Nat.mul_assoc, Nat.mul_comm 8]
    rw [q]
    generalize W / 8 * 16 ^ k = z
    have : (16 : Nat) ^ 6 = 16777216 := by decide
    omega
  rw [e3]
  have e4 : W / 8 = wpre W (W % 8) * 16 ^ (6 - W % 8) := by
    have h9 := wok_eq hW
    generalize wpre W (W % 8) = p at h9 ⊢
    unfold wmk at h9
    rcases w_le6 hl with q | q | q | q | q | q | q <;> rw [q] at h9 ⊢ <;> simp at h9 ⊢ <;> omega
  have e5 : (W / 8 * 16 ^ k) % 16 ^ 6 = (wpre W (W % 8) % 16 ^ (W % 8 - k)) * 16 ^ (6 - (W % 8 - k)) := by
    rw [e4, Nat.mul_assoc, ← Nat.pow_add, show 6 - W % 8 + k = 6 - (W % 8 - k) by omega]
    have : (16 : Nat) ^ 6 = 16 ^ (W % 8 - k) * 16 ^ (6 - (W % 8 - k)) := by rw [← Nat.pow_add]; congr 1; omega
    rw [this, Nat.mul_mod_mul_right]
  rw [e5]
  have hb : W % 8 - k < 2 ^ 3 := by omega
  have := n_or (a := W % 8 - k) (k := 3) ((wpre W (W % 8) % 16 ^ (W % 8 - k)) * 16 ^ (6 - (W % 8 - k))) hb
  rw [show (8 : Nat) = 2 ^ 3 from rfl, this]
  unfold wtl wmk
  congr 3
  rw [Nat.mul_assoc]
  congr 1
  rw [show (16 : Nat) ^ (6 - (W % 8 - k)) = 2 ^ (4 * (6 - (W % 8 - k))) by rw [Nat.pow_mul], ← Nat.pow_add]
  congr 1
  omega
