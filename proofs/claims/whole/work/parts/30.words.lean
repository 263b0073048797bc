/-! words: a word of n figures v is held as the number v * 2^(27-4n) + n -/
theorem w_le6 {n : Nat} (h : n ≤ 6) : n = 0 ∨ n = 1 ∨ n = 2 ∨ n = 3 ∨ n = 4 ∨ n = 5 ∨ n = 6 := by omega
/-- the first k figures, as a number -/
def wpre (W k : Nat) : Nat := W / 2 ^ (27 - 4 * k)
def wmk (v n : Nat) : Nat := v * 2 ^ (27 - 4 * n) + n
/-- the head of k figures -/
def whd (W k : Nat) : Nat := wmk (wpre W k) k
/-- W is the number of a word (or a path) -/
def wok (W : Nat) : Prop := ∃ v n, n ≤ 6 ∧ v < 16 ^ n ∧ W = wmk v n
theorem wok_lt {W : Nat} (h : wok W) : W < 2 ^ 27 := by
  obtain ⟨v, n, hn, hv, rfl⟩ := h
  unfold wmk
  rcases w_le6 hn with rfl | rfl | rfl | rfl | rfl | rfl | rfl <;> simp at hv ⊢ <;> omega
theorem wmk_ok {v n : Nat} (hn : n ≤ 6) (hv : v < 16 ^ n) : wok (wmk v n) := ⟨v, n, hn, hv, rfl⟩
theorem wmk_len {v n : Nat} (hn : n ≤ 6) : wmk v n % 8 = n := by
  unfold wmk
  rcases w_le6 hn with rfl | rfl | rfl | rfl | rfl | rfl | rfl <;> simp <;> omega
theorem wok_len {W : Nat} (h : wok W) : W % 8 ≤ 6 := by
  obtain ⟨v, n, hn, hv, rfl⟩ := h
  rw [wmk_len hn]; exact hn
theorem wmk_pre {v n : Nat} (hn : n ≤ 6) : wpre (wmk v n) n = v := by
  unfold wpre wmk
  rcases w_le6 hn with rfl | rfl | rfl | rfl | rfl | rfl | rfl <;> simp <;> omega
theorem wok_eq {W : Nat} (h : wok W) : W = wmk (wpre W (W % 8)) (W % 8) := by
  obtain ⟨v, n, hn, hv, rfl⟩ := h
  rw [wmk_len hn, wmk_pre hn]
theorem wpre_0 {W : Nat} (h : W < 2 ^ 27) : wpre W 0 = 0 := by
  unfold wpre; simp; omega
theorem wpre_lt {W k : Nat} (h : W < 2 ^ 27) (hk : k ≤ 6) : wpre W k < 16 ^ k := by
  unfold wpre
  rcases w_le6 hk with rfl | rfl | rfl | rfl | rfl | rfl | rfl <;> simp <;> omega
/-- fewer figures of the first ones -/
theorem wpre_step {W k : Nat} (hk : k ≤ 5) : wpre W (k + 1) / 16 = wpre W k := by
  unfold wpre
  rcases w_le6 (show k ≤ 6 by omega) with rfl | rfl | rfl | rfl | rfl | rfl | rfl <;> simp [Nat.div_div_eq_div_mul] at *
theorem wpre_le {W k j : Nat} (hk : k ≤ 6) (hj : j ≤ k) : wpre W j = wpre W k / 16 ^ (k - j) := by
  unfold wpre
  rw [Nat.div_div_eq_div_mul]
  congr 1
  have e : (16 : Nat) ^ (k - j) = 2 ^ (4 * (k - j)) := by rw [show (16 : Nat) = 2 ^ 4 by decide, ← Nat.pow_mul]
  rw [e, ← Nat.pow_add]
  congr 1
  omega
theorem wpre_down {A B k j : Nat} (hk : k ≤ 6) (hj : j ≤ k) (h : wpre A k = wpre B k) : wpre A j = wpre B j := by
  rw [wpre_le hk hj, wpre_le hk hj, h]
theorem wpre_mono {A B k : Nat} (h : A ≤ B) : wpre A k ≤ wpre B k := Nat.div_le_div_right h
theorem wok_inj {A B : Nat} (hA : wok A) (hB : wok B) (hl : A % 8 = B % 8) (hp : wpre A (A % 8) = wpre B (A % 8)) : A = B := by
  rw [wok_eq hA, wok_eq hB, ← hl, hp]
theorem whd_ok {W k : Nat} (h : W < 2 ^ 27) (hk : k ≤ 6) : wok (whd W k) := wmk_ok hk (wpre_lt h hk)
theorem whd_len {W k : Nat} (hk : k ≤ 6) : whd W k % 8 = k := wmk_len hk
theorem whd_pre {W k j : Nat} (hk : k ≤ 6) (hj : j ≤ k) : wpre (whd W k) j = wpre W j := by
  rw [wpre_le hk hj, wpre_le hk hj]
  unfold whd
  rw [wmk_pre hk]
/-- the figure at place i -/
def wfg (W i : Nat) : Nat := wpre W (i + 1) % 16
theorem wpre_succ {W k : Nat} (hk : k ≤ 5) : wpre W (k + 1) = 16 * wpre W k + wfg W k := by
  have := wpre_step (W := W) hk
  unfold wfg
  omega
theorem wfg_lt (W i : Nat) : wfg W i < 16 := Nat.mod_lt _ (by decide)
/-- P is a head of W, or it -/
abbrev whead (P W : Nat) : Prop := P % 8 ≤ W % 8 ∧ wpre P (P % 8) = wpre W (P % 8)
theorem whead_rfl (W : Nat) : whead W W := ⟨Nat.le_refl _, rfl⟩
theorem whead_trans {A B C : Nat} (hB : wok B) (h1 : whead A B) (h2 : whead B C) : whead A C :=
  ⟨Nat.le_trans h1.1 h2.1, h1.2.trans (wpre_down (wok_len hB) h1.1 h2.2)⟩
/-- heads by the order of numbers -/
theorem whead_iff {P W : Nat} (hP : wok P) (hW : wok W) : whead P W ↔ P ≤ W ∧ wpre W (P % 8) = wpre P (P % 8) := by
  constructor
  · intro h
    refine ⟨?_, h.2.symm⟩
    obtain ⟨v, n, hn, hv, rfl⟩ := hP
    obtain ⟨u, k, hk, hu, rfl⟩ := hW
    have h1 := h.1
    have h2 := h.2
    rw [wmk_len hn] at h1 h2
    rw [wmk_len hk] at h1
    rw [wmk_pre hn] at h2
    have h3 := Nat.div_mul_le_self (wmk u k) (2 ^ (27 - 4 * n))
    have h4 : v * 2 ^ (27 - 4 * n) ≤ wmk u k := by
      have e : wmk u k / 2 ^ (27 - 4 * n) = v := h2.symm
      rw [e] at h3
      exact h3
    have h5 : v * 2 ^ (27 - 4 * n) % 8 = 0 := by
      rcases w_le6 hn with rfl | rfl | rfl | rfl | rfl | rfl | rfl <;> simp <;> omega
    have h6 := wmk_len (v := u) hk
    show v * 2 ^ (27 - 4 * n) + n ≤ wmk u k
    omega
  · intro ⟨h1, h2⟩
    refine ⟨?_, h2.symm⟩
    obtain ⟨v, n, hn, hv, rfl⟩ := hP
    obtain ⟨u, k, hk, hu, rfl⟩ := hW
    rw [wmk_len hn, wmk_len hk]
    rw [wmk_len hn, wmk_pre hn] at h2
    have h3 : wmk v n ≤ wmk u k := h1
    rcases Nat.lt_or_ge k n with q | q
    · exfalso
      -- fewer figures than the path, the same first ones: the number is smaller
      have e1 : wpre (wmk u k) n = u * 16 ^ (n - k) := by
        unfold wpre wmk
        rcases w_le6 hn with rfl | rfl | rfl | rfl | rfl | rfl | rfl <;> first | omega | (rcases w_le6 hk with rfl | rfl | rfl | rfl | rfl | rfl | rfl <;> first | omega | (simp; done) | (simp; omega))
      rw [e1] at h2
      rw [← h2] at h3
      unfold wmk at h3
      have e2 : u * 16 ^ (n - k) * 2 ^ (27 - 4 * n) = u * 2 ^ (27 - 4 * k) := by
        rw [Nat.mul_assoc, show (16 : Nat) ^ (n - k) = 2 ^ (4 * (n - k)) by rw [Nat.pow_mul], ← Nat.pow_add]
        congr 2
        omega
      rw [e2] at h3
      omega
    · exact q
/-! the ints -/
theorem n_bits {n : Nat} (h : n ≤ 6) : fX6_bitsBehind (nI n) = some (nI (27 - 4 * n)) := by
  rcases w_le6 h with rfl | rfl | rfl | rfl | rfl | rfl | rfl <;> decide
theorem n_len6 {W : Nat} (h : W < 2 ^ 27) : fX6_length (nI W) = some (nI (W % 8)) := by
  unfold fX6_length
  rw [pk_andN (by omega) 3 (by decide)]
theorem n_len8 {W : Nat} (h : W < 2 ^ 27) : fX8_sizeOf (nI W) = some (nI (W % 8)) := by
  unfold fX8_sizeOf
  rw [pk_andN (by omega) 3 (by decide)]
theorem n_shr {W k : Nat} (h : W < 2 ^ 31) (hk : k ≤ 27) : nI W >>> (nI k &&& 31) = nI (W / 2 ^ k) := by
  refine pk_shrN h _ k ?_
  have : ∀ j : Fin 28, ((nI j.val &&& 31).toBitVec.smod 32).toNat = j.val := by decide
  exact this ⟨k, by omega⟩
theorem n_shl {W k : Nat} (h : W * 2 ^ k < 2 ^ 32) (hk : k ≤ 27) : nI W <<< (nI k &&& 31) = nI (W * 2 ^ k) := by
  refine pk_shlN _ k ?_ h
  have : ∀ j : Fin 28, ((nI j.val &&& 31).toBitVec.smod 32).toNat = j.val := by decide
  exact this ⟨k, by omega⟩
theorem n_or {a k : Nat} (b : Nat) (h : a < 2 ^ k) : nI (b * 2 ^ k) ||| nI a = nI (b * 2 ^ k + a) := by
  rw [Nat.mul_comm]
  exact fa_or_sum b h
theorem n_pack6 {v n : Nat} (hn : n ≤ 6) (hv : v < 16 ^ n) : fX6_pack (nI v) (nI n) = some (nI (wmk v n)) := by
  unfold fX6_pack
  rw [n_bits hn]
  simp only [Option.bind_some]
  rw [n_shl (by rcases w_le6 hn with rfl | rfl | rfl | rfl | rfl | rfl | rfl <;> simp at hv ⊢ <;> omega) (by omega), n_or v (by rcases w_le6 hn with rfl | rfl | rfl | rfl | rfl | rfl | rfl <;> decide)]
  rfl
theorem n_word8 {v n : Nat} (hn : n ≤ 6) (hv : v < 16 ^ n) : fX8_word (nI v) (nI n) = some (nI (wmk v n)) := by
  unfold fX8_word
  have e1 : ((4 : Int32) * ((6 : Int32) - nI n)) = nI (4 * (6 - n)) := by
    rcases w_le6 hn with rfl | rfl | rfl | rfl | rfl | rfl | rfl <;> decide
  have hb : v * 2 ^ (4 * (6 - n)) < 2 ^ 24 := by
    rcases w_le6 hn with rfl | rfl | rfl | rfl | rfl | rfl | rfl <;> simp at hv ⊢ <;> omega
  rw [e1, n_shl (by omega) (by omega), show (8 : Int32) = nI 8 from rfl, pk_mul, nI_add]
  congr 2
  unfold wmk
  rw [Nat.mul_assoc, show (8 : Nat) = 2 ^ 3 from rfl, ← Nat.pow_add]
  congr 3
  omega
theorem n_figs6 {W : Nat} (h : wok W) : fX6_figures (nI W) = some (nI (wpre W (W % 8))) := by
  unfold fX6_figures
  rw [n_len6 (wok_lt h)]
  simp only [Option.bind_some]
  rw [n_bits (wok_len h)]
  simp only [Option.bind_some]
  rw [n_shr (by have := wok_lt h; omega) (by omega)]
  rfl
theorem n_shr3 {W k : Nat} (h : W < 2 ^ 27) (hk : k ≤ 24) : (nI W >>> ((3 : Int32) &&& 31)) >>> (nI k &&& 31) = nI (W / 2 ^ (k + 3)) := by
  rw [show (3 : Int32) = nI 3 from rfl, n_shr (by omega) (by omega), n_shr (by have := Nat.div_le_self W (2 ^ 3); omega) (by omega), Nat.div_div_eq_div_mul, ← Nat.pow_add, Nat.add_comm 3 k]
theorem n_num8 {W : Nat} (h : wok W) : fX8_numberOf (nI W) = some (nI (wpre W (W % 8))) := by
  unfold fX8_numberOf
  rw [n_len8 (wok_lt h)]
  simp only [Option.bind_some]
  have hl := wok_len h
  have e1 : ((4 : Int32) * ((6 : Int32) - nI (W % 8))) = nI (4 * (6 - W % 8)) := by
    rcases w_le6 hl with e | e | e | e | e | e | e <;> rw [e] <;> decide
  rw [e1, n_shr3 (wok_lt h) (by omega), show 4 * (6 - W % 8) + 3 = 27 - 4 * (W % 8) by omega]
  rfl
theorem n_fig6 {W i : Nat} (h : W < 2 ^ 27) (hi : i ≤ 5) : fX6_figure (nI W) (nI i) = some (nI (wfg W i)) := by
  unfold fX6_figure
  rw [nI_1, n_bits (by omega)]
  simp only [Option.bind_some]
  rw [n_shr (by omega) (by omega), pk_andN (by have := Nat.div_le_self W (2 ^ (27 - 4 * (i + 1))); omega) 4 (by decide)]
  rfl
theorem n_fig8 {W i : Nat} (h : W < 2 ^ 27) (hi : i ≤ 5) : fX8_figure (nI W) (nI i) = some (nI (wfg W i)) := by
  unfold fX8_figure
  have e1 : ((4 : Int32) * ((5 : Int32) - nI i)) = nI (4 * (5 - i)) := by
    rcases w_le6 (show i ≤ 6 by omega) with rfl | rfl | rfl | rfl | rfl | rfl | rfl <;> first | decide | omega
  rw [e1, n_shr3 h (by omega), pk_andN (by have := Nat.div_le_self W (2 ^ (4 * (5 - i) + 3)); omega) 4 (by decide), show 4 * (5 - i) + 3 = 27 - 4 * (i + 1) by omega]
  rfl
theorem n_head6 {W k : Nat} (h : W < 2 ^ 27) (hk : k ≤ 6) : fX6_head (nI W) (nI k) = some (nI (whd W k)) := by
  unfold fX6_head
  rw [n_bits hk]
  simp only [Option.bind_some]
  have hp := wpre_lt h hk
  rw [n_shr (by omega) (by omega)]
  show some (((nI (wpre W k)) <<< (nI (27 - 4 * k) &&& 31)) ||| nI k) = _
  rw [n_shl (by rcases w_le6 hk with rfl | rfl | rfl | rfl | rfl | rfl | rfl <;> simp at hp ⊢ <;> omega) (by omega), n_or _ (by rcases w_le6 hk with rfl | rfl | rfl | rfl | rfl | rfl | rfl <;> decide)]
  rfl
theorem n_head8 {W k : Nat} (h : W < 2 ^ 27) (hk : k ≤ 6) : fX8_head (nI W) (nI k) = some (nI (whd W k)) := by
  unfold fX8_head
  have hp := wpre_lt h hk
  have e1 : ((4 : Int32) * ((6 : Int32) - nI k)) = nI (4 * (6 - k)) := by
    rcases w_le6 hk with rfl | rfl | rfl | rfl | rfl | rfl | rfl <;> decide
  have e2 : (if nI k = 0 then (some (0 : Int32)) else (some ((nI W >>> ((3 : Int32) &&& 31)) >>> (((4 : Int32) * ((6 : Int32) - nI k)) &&& 31)))) = some (nI (wpre W k)) := by
    by_cases h0 : k = 0
    · subst h0
      rw [if_pos nI_0, wpre_0 h]
      rfl
    · rw [if_neg (nI_ne0 (by omega) (by omega)), e1, n_shr3 h (by omega), show 4 * (6 - k) + 3 = 27 - 4 * k by omega]
      rfl
  rw [e2]
  simp only [Option.bind_some]
  rw [n_word8 hk hp]
  rfl
