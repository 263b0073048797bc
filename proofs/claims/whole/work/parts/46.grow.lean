/-! the class's nodes: what a group of keys beside each other gives -/
def nodeAt (l : KL) (q k : Nat) : Bool := decide (2 ≤ bn l (whd q k))
/-- how many nodes stand at the heads of a path, it too -/
def dep (l : KL) (q : Nat) : Nat := fb_ct (nodeAt l q) (q % 8 + 1)
def upG (l : KL) (q : Nat) : Nat → Nat
  | 0 => 0
  | n + 1 => if nodeAt l q n then n + 1 else upG l q n
/-- how many figures the prefix of a path has -/
def pfx (l : KL) (q : Nat) : Nat := q % 8 - upG l q (q % 8)
/-- the keys a .. b - 1 are those that have the first A figures of key a -/
def grp (l : KL) (a b A : Nat) : Prop := ∀ k, k < l.length → ((a ≤ k ∧ k < b) ↔ (A ≤ kW l k % 8 ∧ wpre (kW l k) A = wpre (kW l a) A))
theorem grp_top {l : KL} (hg : kgood l) (h0 : 0 < l.length) : grp l 0 l.length 0 := fun k hk => ⟨fun _ => ⟨Nat.zero_le _, by rw [wpre_0 (hg.lt hk), wpre_0 (hg.lt h0)]⟩, fun _ => ⟨Nat.zero_le _, hk⟩⟩
theorem kmono {l : KL} (hg : kgood l) {i j : Nat} (hij : i ≤ j) (hj : j < l.length) : kW l i ≤ kW l j := by
  rcases Nat.lt_or_ge i j with q | q
  · exact Nat.le_of_lt (hg.2.2 i j q hj)
  · rw [show i = j by omega]; exact Nat.le_refl _
theorem grp_node {l : KL} (hg : kgood l) {a b A : Nat} (h : grp l a b A) (hab : a + 2 ≤ b) (hb : b ≤ l.length) : ∃ L p, wlcp (kW l a) (kW l (b - 1)) = L ∧ whd (kW l a) L = p ∧ A ≤ L ∧ L ≤ 5 ∧ L ≤ kW l a % 8 ∧ wok p ∧ p % 8 = L ∧ ∀ k, k < l.length → (whead p (kW l k) ↔ a ≤ k ∧ k < b) := by
  have hka := hg.ok (show a < l.length by omega)
  have hkb := hg.ok (show b - 1 < l.length by omega)
  have h1 := (h a (by omega)).mp ⟨Nat.le_refl _, by omega⟩
  have h2 := (h (b - 1) (by omega)).mp ⟨by omega, by omega⟩
  obtain ⟨q1, q2, q3, q4⟩ := wlcp_spec hka hkb
  have hAL := q4 A h1.1 h2.1 h2.2.symm
  have l1 := wok_len hka
  have l2 := wok_len hkb
  have hL5 : wlcp (kW l a) (kW l (b - 1)) ≤ 5 := by
    rcases Nat.lt_or_ge (wlcp (kW l a) (kW l (b - 1))) 6 with z | z
    · omega
    · exfalso
      have e1 : kW l a % 8 = 6 := by omega
      have e2 : kW l (b - 1) % 8 = 6 := by omega
      have e3 : wlcp (kW l a) (kW l (b - 1)) = 6 := by omega
      rw [e3] at q3
      have := wok_inj hka hkb (by omega) (by rw [e1]; exact q3)
      have := hg.inj (by omega) (by omega) this
      omega
  have hp := whd_ok (k := wlcp (kW l a) (kW l (b - 1))) (wok_lt hka) (by omega)
  have hpl : whd (kW l a) (wlcp (kW l a) (kW l (b - 1))) % 8 = wlcp (kW l a) (kW l (b - 1)) := whd_len (by omega)
  refine ⟨_, _, rfl, rfl, hAL, hL5, q1, hp, hpl, fun k hk => ⟨fun z => ?_, fun z => ?_⟩⟩
  · refine (h k hk).mpr ⟨by have := z.1; omega, ?_⟩
    have z2 := z.2
    rw [hpl] at z2
    rw [← wpre_down (by omega) hAL z2, whd_pre (by omega) hAL]
  · have w1 := whd_head hka q1
    have w2 : whead (whd (kW l a) (wlcp (kW l a) (kW l (b - 1)))) (kW l (b - 1)) := ⟨by rw [hpl]; exact q2, by rw [hpl, whd_pre (by omega) (Nat.le_refl _)]; exact q3⟩
    refine k_sand hg hp hk (show b - 1 < l.length by omega) (by omega) ?_ w2
    have := ((whead_iff hp hka).mp w1).1
    have := kmono hg z.1 hk
    omega
theorem grp_ah {l : KL} (hg : kgood l) {a b p : Nat} (hp : wok p) (hab : a < b) (hb : b ≤ l.length) (h : ∀ k, k < l.length → (whead p (kW l k) ↔ a ≤ k ∧ k < b)) : ah p l = a ∧ ah p l + kun l p = b := by
  have ha := (h a (by omega)).mpr ⟨Nat.le_refl _, hab⟩
  have e : ah p l = a := isAh_one (ah_is p l) ⟨by omega, fun k hk => by
    rcases Nat.lt_or_ge (kW l k) p with z | z
    · exact z
    · have := (h k (by omega)).mp (k_sand hg hp (by omega) (show a < l.length by omega) (by omega) z ha)
      omega, fun _ => ((whead_iff hp (hg.ok (by omega))).mp ha).1⟩
  refine ⟨e, (isEn_kun hg hp (r := b) ⟨by omega, hb, fun k k1 k2 => (h k (by omega)).mpr ⟨by omega, k2⟩, fun hl z => ?_⟩).symm⟩
  have := (h b hl).mp z
  omega
theorem grp_mid {l : KL} {a b A p L : Nat} (hg : kgood l) (hgA : grp l a b A) (hp : wok p) (hpl : p % 8 = L) (hL : L ≤ 5) (hA : A ≤ L) (hpa : wpre p L = wpre (kW l a) L) (h : ∀ k, k < l.length → (whead p (kW l k) ↔ a ≤ k ∧ k < b)) {i : Nat} (h1 : A ≤ i) (h2 : i < L) : nodeAt l p i = false := by
  unfold nodeAt
  rw [decide_eq_false_iff_not]
  intro h3
  have hq : whd p i % 8 = i := whd_len (by omega)
  -- a key that begins with the shorter head begins with the path
  have key : ∀ k, k < l.length → whead (whd p i) (kW l k) → whead p (kW l k) := fun k hk z => by
    have z1 := z.1
    have z2 := z.2
    rw [hq] at z1 z2
    rw [whd_pre (by omega) (Nat.le_refl _)] at z2
    refine (h k hk).mpr ((hgA k hk).mpr ⟨by omega, ?_⟩)
    rw [← wpre_down (by omega) h1 z2, wpre_down (show L ≤ 6 by omega) hA hpa]
  unfold bn at h3
  have hk0 : ¬ kH l (whd p i) := fun z => by
    obtain ⟨k, hk, e⟩ := (kH_iff hg).mp z
    have := (key k hk (by rw [e]; exact whead_rfl _)).1
    rw [e, hq, hpl] at this
    omega
  rw [if_neg hk0] at h3
  obtain ⟨f1, f2, p1, p2, p3, p4⟩ := ct_two_inv (show 2 ≤ fb_ct (kid l (whd p i)) 16 from h3)
  obtain ⟨k1, hk1, g1, g2, g3⟩ := kid_iff.mp p3
  obtain ⟨k2, hk2, r1, r2, r3⟩ := kid_iff.mp p4
  rw [hq] at g3 r3
  have fig : ∀ k, whead p (kW l k) → wfg (kW l k) i = wfg p i := fun k z => by
    have z2 := z.2
    rw [hpl] at z2
    unfold wfg
    rw [wpre_down (show L ≤ 6 by omega) (show i + 1 ≤ L by omega) z2]
  have := fig k1 (key k1 hk1 g1)
  have := fig k2 (key k2 hk2 r1)
  omega
theorem whd_same {p W L i : Nat} (hpl : p % 8 = L) (hL : L ≤ 6) (hi : i ≤ L) (h : whead p W) : whd W i = whd p i := by
  have h2 := h.2
  rw [hpl] at h2
  unfold whd
  rw [wpre_down hL hi h2]
theorem nodeAt_same {l : KL} {p W L i : Nat} (hpl : p % 8 = L) (hL : L ≤ 6) (hi : i ≤ L) (h : whead p W) : nodeAt l W i = nodeAt l p i := by
  unfold nodeAt
  rw [whd_same hpl hL hi h]
theorem upG_is {l : KL} {p A : Nat} (h0 : A = 0 ∨ nodeAt l p (A - 1) = true) : ∀ n, (∀ i, A ≤ i → i < A + n → nodeAt l p i = false) → upG l p (A + n) = A
  | 0, _ => by
    rcases h0 with e | e
    · subst e; rfl
    · cases A with
      | zero => rfl
      | succ A =>
        show (if nodeAt l p A = true then A + 1 else upG l p A) = A + 1
        exact if_pos e
  | n + 1, h => by
    show (if nodeAt l p (A + n) = true then A + n + 1 else upG l p (A + n)) = A
    rw [h (A + n) (by omega) (by omega), if_neg (by decide)]
    exact upG_is h0 n (fun i q1 q2 => h i q1 (by omega))
theorem dep_is {l : KL} {p A L : Nat} (hA : A ≤ L) (hn : nodeAt l p L = true) (h : ∀ i, A ≤ i → i < L → nodeAt l p i = false) : fb_ct (nodeAt l p) (L + 1) = fb_ct (nodeAt l p) A + 1 := by
  rw [fb_ct_succ, hn]
  have := fb_ct_split (nodeAt l p) A (L - A)
  rw [show A + (L - A) = L by omega, fb_ct_zero.mpr (fun k hk => h (A + k) (by omega) (by omega))] at this
  rw [this]
  rfl
/-! keys beside each other in a group -/
theorem adj_diff {l : KL} (hg : kgood l) {p L i : Nat} (hp : wok p) (hpl : p % 8 = L) (hi : i + 1 < l.length) (w1 : whead p (kW l i)) (w2 : whead p (kW l (i + 1))) (h : kW l i % 8 = L ∨ wfg (kW l i) L ≠ wfg (kW l (i + 1)) L) : adjP l i = p := by
  have hA := hg.ok (show i < l.length by omega)
  have hB := hg.ok hi
  have e : wlcp (kW l i) (kW l (i + 1)) = L := wlcp_of hA hB (by rw [← hpl]; exact w1.1) (by rw [← hpl]; exact w2.1) (by rw [← hpl]; exact w1.2.symm.trans w2.2) (h.elim (fun z => Or.inl z.symm) (fun z => Or.inr (Or.inr z)))
  unfold adjP
  rw [e, ← hpl]
  unfold whd
  rw [← w1.2]
  exact (wok_eq hp).symm
theorem adj_same {l : KL} (hg : kgood l) {p L i : Nat} (hpl : p % 8 = L) (hL : L ≤ 5) (hi : i + 1 < l.length) (w1 : whead p (kW l i)) (w2 : whead p (kW l (i + 1))) (l1 : L < kW l i % 8) (l2 : L < kW l (i + 1) % 8) (h : wfg (kW l i) L = wfg (kW l (i + 1)) L) : wok (adjP l i) ∧ whead p (adjP l i) ∧ L < adjP l i % 8 ∧ wfg (adjP l i) L = wfg (kW l i) L := by
  have hA := hg.ok (show i < l.length by omega)
  have hB := hg.ok hi
  obtain ⟨q1, q2, q3, q4⟩ := wlcp_spec hA hB
  have hl6 := wok_len hA
  have hw : wpre (kW l i) L = wpre (kW l (i + 1)) L := by rw [← hpl]; exact w1.2.symm.trans w2.2
  have hle := q4 (L + 1) l1 l2 (by rw [wpre_succ hL, wpre_succ hL, hw, h])
  have e8 : adjP l i % 8 = wlcp (kW l i) (kW l (i + 1)) := whd_len (by omega)
  have ep : ∀ j, j ≤ wlcp (kW l i) (kW l (i + 1)) → wpre (adjP l i) j = wpre (kW l i) j := fun j hj => whd_pre (by omega) hj
  refine ⟨whd_ok (wok_lt hA) (by omega), ⟨by omega, ?_⟩, by omega, ?_⟩
  · rw [ep _ (by omega)]; exact w1.2
  · unfold wfg; rw [ep _ (by omega)]
/-- figures do not go down -/
theorem fig_mono {l : KL} (hg : kgood l) {p L i j : Nat} (hpl : p % 8 = L) (hL : L ≤ 5) (hij : i ≤ j) (hj : j < l.length) (w1 : whead p (kW l i)) (w2 : whead p (kW l j)) : wfg (kW l i) L ≤ wfg (kW l j) L := by
  have h1 := wpre_mono (k := L + 1) (kmono hg hij hj)
  rw [wpre_succ hL, wpre_succ hL] at h1
  have hw : wpre (kW l i) L = wpre (kW l j) L := by rw [← hpl]; exact w1.2.symm.trans w2.2
  omega
theorem sub_grp {l : KL} (hg : kgood l) {p L a a0 b st e : Nat} (hpl : p % 8 = L) (hL : L ≤ 5) (hb : b ≤ l.length) (h : ∀ k, k < l.length → (whead p (kW l k) ↔ a ≤ k ∧ k < b)) (ha0 : a ≤ a0) (hend : ∀ j, a ≤ j → j < a0 → kW l j % 8 = L) (hlong : ∀ j, a0 ≤ j → j < b → L < kW l j % 8) (hst : a0 ≤ st) (hse : st < e) (heb : e ≤ b) (hs : ∀ j, st ≤ j → j < e → wfg (kW l j) L = wfg (kW l st) L) (hlo : ∀ j, a0 ≤ j → j < st → wfg (kW l j) L < wfg (kW l st) L) (hne : e < b → wfg (kW l e) L ≠ wfg (kW l st) L) : grp l st e (L + 1) := by
  intro k hk
  have hwst := (h st (by omega)).mpr ⟨by omega, by omega⟩
  have hst2 := hwst.2
  rw [hpl] at hst2
  constructor
  · intro z
    have hwk := (h k hk).mpr ⟨by omega, by omega⟩
    have hk2 := hwk.2
    rw [hpl] at hk2
    exact ⟨hlong k (by omega) (by omega), by rw [wpre_succ hL, wpre_succ hL, ← hk2, ← hst2, hs k z.1 z.2]⟩
  · intro z
    have hk2 : wpre (kW l k) L = wpre p L := by rw [hst2, wpre_down (show L + 1 ≤ 6 by omega) (Nat.le_succ L) z.2]
    have hwk : whead p (kW l k) := ⟨by rw [hpl]; omega, by rw [hpl]; exact hk2.symm⟩
    have hin := (h k hk).mp hwk
    have hf : wfg (kW l k) L = wfg (kW l st) L := by unfold wfg; rw [z.2]
    refine ⟨?_, ?_⟩
    · rcases Nat.lt_or_ge k st with q | q
      · exfalso
        rcases Nat.lt_or_ge k a0 with q2 | q2
        · have := hend k hin.1 q2; omega
        · have := hlo k q2 q; omega
      · exact q
    · rcases Nat.lt_or_ge k e with q | q
      · exact q
      · exfalso
        have heb2 : e < b := by omega
        have hwe := (h e (by omega)).mpr ⟨by omega, heb2⟩
        have m1 := fig_mono hg hpl hL (show st ≤ e by omega) (by omega) hwst hwe
        have m2 := fig_mono hg hpl hL q hk hwe hwk
        exact hne heb2 (by omega)
