/-! nodes: a path at which keys part -/
/-- key k goes on behind the path q with the figure f -/
abbrev kgo (l : KL) (q f k : Nat) : Prop := whead q (kW l k) ∧ q % 8 < kW l k % 8 ∧ wfg (kW l k) (q % 8) = f
def kid (l : KL) (q f : Nat) : Bool := decide (0 < fb_ct (fun k => decide (kgo l q f k)) l.length)
theorem kid_iff {l : KL} {q f : Nat} : kid l q f = true ↔ ∃ k, k < l.length ∧ kgo l q f k := by
  unfold kid
  rw [decide_eq_true_iff, fb_ct_pos]
  exact ⟨fun ⟨k, h1, h2⟩ => ⟨k, h1, of_decide_eq_true h2⟩, fun ⟨k, h1, h2⟩ => ⟨k, h1, decide_eq_true h2⟩⟩
/-- how many children a path has -/
def nk (l : KL) (q : Nat) : Nat := fb_ct (kid l q) 16
theorem kH_iff {l : KL} (hg : kgood l) {x : Nat} : kH l x ↔ ∃ k, k < l.length ∧ kW l k = x := by
  constructor
  · intro h; exact ⟨_, h.1, h.2⟩
  · intro ⟨k, h1, h2⟩
    obtain ⟨a1, a2, a3⟩ := ah_is x l
    have hle : ¬ k < ah x l := fun q => by have := a2 k q; omega
    have hlt : ah x l < l.length := by omega
    have h3 := a3 hlt
    refine ⟨hlt, ?_⟩
    rcases Nat.lt_or_ge (ah x l) k with q | q
    · have := hg.2.2 _ k q h1; omega
    · rw [show ah x l = k by omega]; exact h2
def bn (l : KL) (q : Nat) : Nat := nk l q + (if kH l q then 1 else 0)
def isN (l : KL) (q : Nat) : Prop := wok q ∧ 2 ≤ bn l q
theorem ct_one {p : Nat → Bool} {n i : Nat} (hi : i < n) (h : p i = true) : 1 ≤ fb_ct p n := Nat.succ_le_of_lt (fb_ct_pos.mpr ⟨i, hi, h⟩)
theorem ct_two {p : Nat → Bool} {n i j : Nat} (hi : i < j) (hj : j < n) (h1 : p i = true) (h2 : p j = true) : 2 ≤ fb_ct p n := by
  have a1 := ct_one hi h1
  have a2 := fb_ct_mono p (show j + 1 ≤ n by omega)
  rw [fb_ct_succ, h2] at a2
  simp at a2
  omega
theorem ct_two_inv {p : Nat → Bool} : ∀ {n : Nat}, 2 ≤ fb_ct p n → ∃ i j, i < j ∧ j < n ∧ p i = true ∧ p j = true
  | 0, h => by exact absurd h (by show ¬ 2 ≤ 0; omega)
  | n + 1, h => by
    rw [fb_ct_succ] at h
    cases hp : p n with
    | false =>
      rw [hp] at h
      obtain ⟨i, j, q1, q2, q3, q4⟩ := ct_two_inv (n := n) (by simpa using h)
      exact ⟨i, j, q1, by omega, q3, q4⟩
    | true =>
      rw [hp] at h
      simp at h
      obtain ⟨i, q1, q2⟩ := fb_ct_pos.mp (show 0 < fb_ct p n by omega)
      exact ⟨i, n, q1, by omega, q2, hp⟩
theorem wlcp_fig {A B : Nat} (hA : wok A) (hB : wok B) (h1 : wlcp A B < A % 8) (h2 : wlcp A B < B % 8) : wfg A (wlcp A B) ≠ wfg B (wlcp A B) := by
  intro e
  obtain ⟨q1, q2, q3, q4⟩ := wlcp_spec hA hB
  have hl := wok_len hA
  have := q4 (wlcp A B + 1) h1 h2 (by rw [wpre_succ (by omega), wpre_succ (by omega), q3, e])
  omega
theorem wlcp_of {A B L : Nat} (hA : wok A) (hB : wok B) (h1 : L ≤ A % 8) (h2 : L ≤ B % 8) (hp : wpre A L = wpre B L) (hn : L = A % 8 ∨ L = B % 8 ∨ wfg A L ≠ wfg B L) : wlcp A B = L := by
  obtain ⟨q1, q2, q3, q4⟩ := wlcp_spec hA hB
  have := q4 L h1 h2 hp
  rcases Nat.lt_or_ge L (wlcp A B) with q | q
  · exfalso
    rcases hn with e | e | e
    · omega
    · omega
    · have hl := wok_len hA
      have h3 := wpre_down (show wlcp A B ≤ 6 by omega) (show L + 1 ≤ wlcp A B by omega) q3
      unfold wfg at e
      exact e (by rw [h3])
  · omega
/-- two keys beside each other part at a node -/
theorem adj_isN {l : KL} (hg : kgood l) {i : Nat} (hi : i + 1 < l.length) : isN l (whd (kW l i) (wlcp (kW l i) (kW l (i + 1)))) := by
  have hA := hg.ok (show i < l.length by omega)
  have hB := hg.ok hi
  have hlt := hg.2.2 i (i + 1) (by omega) hi
  obtain ⟨q1, q2, q3, q4⟩ := wlcp_spec hA hB
  have hl := wok_len hA
  generalize hL : wlcp (kW l i) (kW l (i + 1)) = L at q1 q2 q3 q4
  have hq : whd (kW l i) L % 8 = L := whd_len (by omega)
  have hqA : whead (whd (kW l i) L) (kW l i) := whd_head hA q1
  have hqB : whead (whd (kW l i) L) (kW l (i + 1)) := ⟨by rw [hq]; exact q2, by rw [hq, whd_pre (by omega) (Nat.le_refl _)]; exact q3⟩
  refine ⟨whd_ok (wok_lt hA) (by omega), ?_⟩
  have hB2 : L < kW l (i + 1) % 8 := by
    rcases Nat.lt_or_ge L (kW l (i + 1) % 8) with q | q
    · exact q
    · exfalso
      -- then the second is a head of the first
      have e : kW l (i + 1) % 8 = L := by omega
      have h1 : whead (kW l (i + 1)) (kW l i) := ⟨by omega, by rw [e]; exact q3.symm⟩
      have := ((whead_iff hB hA).mp h1).1
      omega
  have hf : wfg (kW l (i + 1)) L < 16 := wfg_lt _ _
  have k2 : kid l (whd (kW l i) L) (wfg (kW l (i + 1)) L) = true := kid_iff.mpr ⟨i + 1, hi, hqB, by rw [hq]; exact hB2, by rw [hq]⟩
  unfold bn nk
  rcases Nat.lt_or_ge L (kW l i % 8) with q | q
  · have k1 : kid l (whd (kW l i) L) (wfg (kW l i) L) = true := kid_iff.mpr ⟨i, by omega, hqA, by rw [hq]; exact q, by rw [hq]⟩
    have hne : wfg (kW l i) L ≠ wfg (kW l (i + 1)) L := by
      have := wlcp_fig hA hB (by rw [hL]; exact q) (by rw [hL]; exact hB2)
      rw [hL] at this
      exact this
    have hf1 : wfg (kW l i) L < 16 := wfg_lt _ _
    rcases Nat.lt_or_ge (wfg (kW l i) L) (wfg (kW l (i + 1)) L) with z | z
    · have := ct_two z hf k1 k2; omega
    · have := ct_two (show wfg (kW l (i + 1)) L < wfg (kW l i) L by omega) hf1 k2 k1; omega
  · have e : L = kW l i % 8 := by omega
    have e2 : whd (kW l i) L = kW l i := by rw [e]; exact whd_self hA
    have hk : kH l (whd (kW l i) L) := (kH_iff hg).mpr ⟨i, by omega, e2.symm⟩
    rw [if_pos hk]
    have := ct_one hf k2
    omega
/-- a number that changes between two places changes between two beside each other -/
theorem change_adj (f : Nat → Nat) : ∀ (m i : Nat), f i ≠ f (i + m) → ∃ k, i ≤ k ∧ k < i + m ∧ f k ≠ f (k + 1)
  | 0, i, h => absurd rfl h
  | m + 1, i, h => by
    by_cases c : f i = f (i + 1)
    · obtain ⟨k, h1, h2, h3⟩ := change_adj f m (i + 1) (by rw [← c, show i + 1 + m = i + (m + 1) by omega]; exact h)
      exact ⟨k, by omega, by omega, h3⟩
    · exact ⟨i, Nat.le_refl _, by omega, c⟩
/-- a node is where two keys beside each other part -/
theorem isN_adj {l : KL} (hg : kgood l) {q : Nat} (h : isN l q) : ∃ i, i + 1 < l.length ∧ whead q (kW l i) ∧ whead q (kW l (i + 1)) ∧ wlcp (kW l i) (kW l (i + 1)) = q % 8 ∧ q = whd (kW l i) (q % 8) := by
  obtain ⟨hq, h2⟩ := h
  -- it is enough to find the pair
  have fin : ∀ i, i + 1 < l.length → whead q (kW l i) → whead q (kW l (i + 1)) → (q % 8 = kW l i % 8 ∨ wfg (kW l i) (q % 8) ≠ wfg (kW l (i + 1)) (q % 8)) → ∃ i, i + 1 < l.length ∧ whead q (kW l i) ∧ whead q (kW l (i + 1)) ∧ wlcp (kW l i) (kW l (i + 1)) = q % 8 ∧ q = whd (kW l i) (q % 8) := by
    intro i hi w1 w2 hn
    have hA := hg.ok (show i < l.length by omega)
    have hB := hg.ok hi
    refine ⟨i, hi, w1, w2, wlcp_of hA hB w1.1 w2.1 (w1.2.symm.trans w2.2) (hn.elim Or.inl (fun z => Or.inr (Or.inr z))), ?_⟩
    unfold whd
    rw [← w1.2]
    exact wok_eq hq
  unfold bn at h2
  by_cases c : kH l q
  · rw [if_pos c] at h2
    obtain ⟨f, hf, hk⟩ := fb_ct_pos.mp (show 0 < nk l q by omega)
    obtain ⟨k, hk1, g1, g2, g3⟩ := kid_iff.mp hk
    obtain ⟨i, hi, e⟩ := (kH_iff hg).mp c
    have hik : i < k := by
      rcases Nat.lt_trichotomy i k with z | z | z
      · exact z
      · rw [z] at e; rw [e] at g2; omega
      · have h5 := hg.2.2 k i z hi
        have h6 := ((whead_iff hq (hg.ok hk1)).mp g1).1
        omega
    have w1 : whead q (kW l i) := by rw [e]; exact whead_rfl q
    have w2 : whead q (kW l (i + 1)) := k_sand hg hq (by omega) hk1 (by omega) (by have := hg.2.2 i (i + 1) (by omega) (by omega); omega) g1
    exact fin i (by omega) w1 w2 (Or.inl (by rw [e]))
  · rw [if_neg c] at h2
    obtain ⟨f1, f2, p1, p2, p3, p4⟩ := ct_two_inv (show 2 ≤ nk l q by omega)
    obtain ⟨k1, hk1, g1, g2, g3⟩ := kid_iff.mp p3
    obtain ⟨k2, hk2, r1, r2, r3⟩ := kid_iff.mp p4
    have main : ∀ a b, a < b → b < l.length → whead q (kW l a) → whead q (kW l b) → wfg (kW l a) (q % 8) ≠ wfg (kW l b) (q % 8) → ∃ i, i + 1 < l.length ∧ whead q (kW l i) ∧ whead q (kW l (i + 1)) ∧ wlcp (kW l i) (kW l (i + 1)) = q % 8 ∧ q = whd (kW l i) (q % 8) := by
      intro a b hab hb wa wb hne
      obtain ⟨k, z1, z2, z3⟩ := change_adj (fun k => wfg (kW l k) (q % 8)) (b - a) a (by rw [show a + (b - a) = b by omega]; exact hne)
      have qa := ((whead_iff hq (hg.ok (show a < l.length by omega))).mp wa).1
      have mono : ∀ k, a ≤ k → k < l.length → q ≤ kW l k := fun k y1 y2 => by
        rcases Nat.lt_or_ge a k with y | y
        · have := hg.2.2 a k y y2; omega
        · rw [show k = a by omega]; exact qa
      exact fin k (by omega) (k_sand hg hq (by omega) hb (by omega) (mono k z1 (by omega)) wb) (k_sand hg hq (by omega) hb (by omega) (mono (k + 1) (by omega) (by omega)) wb) (Or.inr z3)
    have hne : k1 ≠ k2 := fun e => by rw [e] at g3; omega
    rcases Nat.lt_or_ge k1 k2 with z | z
    · exact main k1 k2 z hk2 g1 r1 (by omega)
    · exact main k2 k1 (by omega) hk1 r1 g1 (by omega)
