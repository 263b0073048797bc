/-! the class's walk over groups -/
abbrev NT : Type := Int32 × (Nat → Int32) × (Nat → Int32) × (Nat → Int32) × (Nat → Int32) × (Nat → Int32) × (Nat → Int32)
/-- what stands at place e of the class's nodes is the node of q -/
def nF (l : KL) (q e : Nat) (r : NT) : Prop := r.2.1 e = nI q ∧ r.2.2.1 e = nI (pfx l q) ∧ r.2.2.2.1 e = nI (dep l q) ∧ r.2.2.2.2.1 e = nI (ah q l) ∧ r.2.2.2.2.2.1 e = nI (ah q l + kun l q) ∧ r.2.2.2.2.2.2 e = nI (msk (kid l q) 16)
def nS (l : KL) (ns : List Nat) (s : Nat) (r : NT) : Prop := r.1 = nI (s + ns.length) ∧ ∀ j, j < ns.length → nF l (ns.getD j 0) (s + j) r
/-- below s all is as it was, but for the children of x -/
def sm6 (x s : Nat) (t r : NT) : Prop := ∀ e, e < s → r.2.1 e = t.2.1 e ∧ r.2.2.1 e = t.2.2.1 e ∧ r.2.2.2.1 e = t.2.2.2.1 e ∧ r.2.2.2.2.1 e = t.2.2.2.2.1 e ∧ r.2.2.2.2.2.1 e = t.2.2.2.2.2.1 e ∧ (e ≠ x → r.2.2.2.2.2.2 e = t.2.2.2.2.2.2 e)
theorem nF_fr {l : KL} {q e x s : Nat} {t r : NT} (h : nF l q e t) (hs : sm6 x s t r) (he : e < s) (hx : e ≠ x) : nF l q e r := by
  obtain ⟨a1, a2, a3, a4, a5, a6⟩ := hs e he
  obtain ⟨b1, b2, b3, b4, b5, b6⟩ := h
  exact ⟨a1.trans b1, a2.trans b2, a3.trans b3, a4.trans b4, a5.trans b5, (a6 hx).trans b6⟩
theorem nS_app {l : KL} {n1 n2 : List Nat} {s x : Nat} {t r : NT} (h1 : nS l n1 s t) (h2 : nS l n2 (s + n1.length) r) (hs : sm6 x (s + n1.length) t r) (hx : x < s) : nS l (n1 ++ n2) s r := by
  refine ⟨by rw [List.length_append, ← Nat.add_assoc]; exact h2.1, fun j hj => ?_⟩
  rw [List.length_append] at hj
  rcases Nat.lt_or_ge j n1.length with q | q
  · rw [show (n1 ++ n2).getD j 0 = n1.getD j 0 by rw [List.getD_eq_getElem?_getD, List.getD_eq_getElem?_getD, List.getElem?_append_left q]]
    exact nF_fr (h1.2 j q) hs (by omega) (by omega)
  · rw [show (n1 ++ n2).getD j 0 = n2.getD (j - n1.length) 0 by rw [List.getD_eq_getElem?_getD, List.getD_eq_getElem?_getD, List.getElem?_append_right q]]
    have := h2.2 (j - n1.length) (by omega)
    rw [show s + n1.length + (j - n1.length) = s + j by omega] at this
    exact this
def growOK (l : KL) (sz : Int32) (w : Nat → Int32) (d : Nat) : Prop := ∀ (a b A dp s : Nat) (x4 : Int32) (P Pf D Fr Ti C : Nat → Int32), grp l a b A → a < b → b ≤ l.length → fb_ct (nodeAt l (kW l a)) A = dp → (A = 0 ∨ nodeAt l (kW l a) (A - 1) = true) → s + (b - a) ≤ 48 → 7 ≤ d + A → (∀ L, A ≤ L → (nI L - x4) - (1 : Int32) = nI (L - A)) → ∃ (r : NT) (ns : List Nat), fX3_grow d (nI a) (nI b) x4 (nI dp) (nI s) sz w P Pf D Fr Ti C = some r ∧ nS l ns s r ∧ sm6 s s (nI s, P, Pf, D, Fr, Ti, C) r ∧ ns.Pairwise (· < ·) ∧ (∀ q, q ∈ ns ↔ ∃ i, a ≤ i ∧ i + 1 < b ∧ q = adjP l i) ∧ ns.length + 1 ≤ b - a
/-- there is room for the nodes of what is left of a group -/
def roomL (l : KL) (L b st k s : Nat) : Prop := s + (b - st) ≤ 48 ∨ (s + (b - st) ≤ 49 ∧ ∃ j, k ≤ j ∧ j < b ∧ wfg (kW l j) L ≠ wfg (kW l st) L)
theorem testBit_or_pow {M f g : Nat} : (M ||| 2 ^ f).testBit g = (M.testBit g || decide (f = g)) := by
  rw [Nat.testBit_or, Nat.testBit_two_pow]
set_option maxHeartbeats 4000000 in
theorem n_grow_L {l : KL} {sz : Int32} {w v : Nat → Int32} (hC : keyC l sz w v) (hg : kgood l) {d : Nat} (IH : growOK l sz w d) {p L a a0 b dp s0 : Nat} (hp : wok p) (hpl : p % 8 = L) (hL : L ≤ 5) (hb : b ≤ l.length) (hgrp : ∀ k, k < l.length → (whead p (kW l k) ↔ a ≤ k ∧ k < b)) (hnode : nodeAt l p L = true) (hdp : fb_ct (nodeAt l p) (L + 1) = dp + 1) (ha0 : a ≤ a0) (hend : ∀ j, a ≤ j → j < a0 → kW l j % 8 = L) (hlong : ∀ j, a0 ≤ j → j < b → L < kW l j % 8) (hd : 6 ≤ d + L) (hs0 : s0 < 48) : ∀ (m F st k s M : Nat) (P Pf D Fr Ti C : Nat → Int32), b - k = m → m + 2 ≤ F → a0 ≤ st → st < k → k ≤ b → (∀ j, st ≤ j → j < k → wfg (kW l j) L = wfg (kW l st) L) → (∀ j, a0 ≤ j → j < st → wfg (kW l j) L < wfg (kW l st) L) → roomL l L b st k s → s0 < s → M < 2 ^ 16 → C s0 = nI M → (∀ f, f < 16 → (M.testBit f = true ↔ ∃ j, a0 ≤ j ∧ j < st ∧ wfg (kW l j) L = f)) → ∃ (r : NT) (ns : List Nat) (M' : Nat), fX3_grow_L149 (nI b) sz w (nI L) (nI s0) (fX3_grow d) (nI dp) F (nI st) (nI k) (nI s) P Pf D Fr Ti C = some r ∧ nS l ns s r ∧ sm6 s0 s (nI s, P, Pf, D, Fr, Ti, C) r ∧ M' < 2 ^ 16 ∧ r.2.2.2.2.2.2 s0 = nI M' ∧ (∀ f, f < 16 → (M'.testBit f = true ↔ ∃ j, a0 ≤ j ∧ j < b ∧ wfg (kW l j) L = f)) ∧ ns.Pairwise (· < ·) ∧ (∀ q, q ∈ ns ↔ ∃ i, st ≤ i ∧ i + 1 < b ∧ q = adjP l i ∧ q ≠ p) ∧ ns.length + 1 ≤ b - st ∧ ((∃ j, k ≤ j ∧ j < b ∧ wfg (kW l j) L ≠ wfg (kW l st) L) → ns.length + 2 ≤ b - st) := by
  have h48 := hg.1
  -- a group's walk
  have call : ∀ (st e s : Nat) (P Pf D Fr Ti C : Nat → Int32), a0 ≤ st → st < e → e ≤ b → (∀ j, st ≤ j → j < e → wfg (kW l j) L = wfg (kW l st) L) → (∀ j, a0 ≤ j → j < st → wfg (kW l j) L < wfg (kW l st) L) → (e < b → wfg (kW l e) L ≠ wfg (kW l st) L) → s + (e - st) ≤ 48 → ∃ (r : NT) (ns : List Nat), fX3_grow d (nI st) (nI e) (nI L) (nI dp + (1 : Int32)) (nI s) sz w P Pf D Fr Ti C = some r ∧ nS l ns s r ∧ sm6 s s (nI s, P, Pf, D, Fr, Ti, C) r ∧ ns.Pairwise (· < ·) ∧ (∀ q, q ∈ ns ↔ ∃ i, st ≤ i ∧ i + 1 < e ∧ q = adjP l i) ∧ ns.length + 1 ≤ e - st := by
    intro st e s P Pf D Fr Ti C c1 c2 c3 c4 c5 c6 c7
    have hwst := (hgrp st (by omega)).mpr ⟨by omega, by omega⟩
    rw [nI_1]
    refine IH st e (L + 1) (dp + 1) s (nI L) P Pf D Fr Ti C (sub_grp hg hpl hL hb hgrp ha0 hend hlong c1 c2 c3 c4 c5 c6) c2 (by omega) ?_ (Or.inr ?_) c7 (by omega) (fun L' hL' => ?_)
    · rw [← hdp]
      exact fb_ct_cong (fun i hi => nodeAt_same hpl (by omega) (by omega) hwst)
    · rw [Nat.add_sub_cancel, nodeAt_same hpl (by omega) (Nat.le_refl _) hwst]
      exact hnode
    · have e1 := pk_sub (a := L') (b := L) (by omega)
      have e2 : nI (L' - L) - (1 : Int32) = nI (L' - L - 1) := pk_sub (a := L' - L) (b := 1) (by omega)
      rw [e1, e2, Nat.sub_sub]
  intro m
  induction m with
  | zero =>
    intro F st k s M P Pf D Fr Ti C hm hF hst hsk hkb hsm hlo hroom hs hM hCM hbits
    have ekb : k = b := by omega
    subst ekb
    obtain ⟨F, rfl⟩ : ∃ F', F = F' + 1 + 1 := ⟨F - 2, by omega⟩
    have hf := wfg_lt (kW l st) L
    have hroom2 : s + (k - st) ≤ 48 := by
      unfold roomL at hroom
      rcases hroom with z | ⟨-, j, z1, z2, -⟩
      · exact z
      · omega
    obtain ⟨r, ns, e1, e2, e3, e4, e5, e6⟩ := call st k s P Pf D Fr Ti (upd C s0 (nI (M ||| 2 ^ wfg (kW l st) L))) hst hsk (Nat.le_refl _) hsm hlo (fun z => by omega) hroom2
    rw [fX3_grow_L149, if_neg (nI_nlt (Nat.le_refl _) (by omega)), n_wordAt6 hC hg (by omega), Option.bind_some, n_fig6 (hg.lt (by omega)) hL, Option.bind_some, if_pos rfl, gx_n hs0 (by omega), gx_n hs0 (by omega), nI_clamp (by omega), hCM, n_1shl hf, fa_or, e1, Option.bind_some, Option.bind_some, gl_eq, nI_1, fX3_grow_L149, if_pos (nI_lt (by omega) (by omega))]
    have hor : M ||| 2 ^ wfg (kW l st) L < 2 ^ 16 := Nat.or_lt_two_pow hM (Nat.pow_lt_pow_right (by decide) hf)
    refine ⟨r, ns, M ||| 2 ^ wfg (kW l st) L, rfl, e2, fun e he => ?_, hor, ?_, fun f hf16 => ?_, e4, fun q => ?_, e6, fun ⟨j, z1, z2, _⟩ => by omega⟩
    · obtain ⟨b1, b2, b3, b4, b5, b6⟩ := e3 e he
      refine ⟨b1, b2, b3, b4, b5, fun hx => ?_⟩
      have b7 := b6 (by omega)
      dsimp only at b7
      rw [pk_un hx] at b7
      exact b7
    · have b7 := (e3 s0 hs).2.2.2.2.2 (by omega)
      dsimp only at b7
      rw [pk_us] at b7
      exact b7
    · rw [testBit_or_pow, Bool.or_eq_true, hbits f hf16, decide_eq_true_iff]
      constructor
      · rintro (⟨j, z1, z2, z3⟩ | z)
        · exact ⟨j, z1, by omega, z3⟩
        · exact ⟨st, hst, hsk, z⟩
      · rintro ⟨j, z1, z2, z3⟩
        rcases Nat.lt_or_ge j st with z | z
        · exact Or.inl ⟨j, z1, z, z3⟩
        · right; rw [← hsm j z z2]; exact z3
    · rw [e5 q]
      constructor
      · rintro ⟨i, z1, z2, z3⟩
        refine ⟨i, z1, z2, z3, fun z4 => ?_⟩
        have := (adj_same hg hpl hL (by omega) ((hgrp i (by omega)).mpr ⟨by omega, by omega⟩) ((hgrp (i + 1) (by omega)).mpr ⟨by omega, by omega⟩) (hlong i (by omega) (by omega)) (hlong (i + 1) (by omega) (by omega)) ((hsm i z1 (by omega)).trans (hsm (i + 1) (by omega) (by omega)).symm)).2.2.1
        rw [← z3, z4, hpl] at this
        omega
      · rintro ⟨i, z1, z2, z3, z4⟩
        exact ⟨i, z1, z2, z3⟩
  | succ m ih =>
    intro F st k s M P Pf D Fr Ti C hm hF hst hsk hkb hsm hlo hroom hs hM hCM hbits
    have hkb2 : k < b := by omega
    obtain ⟨F, rfl⟩ : ∃ F', F = F' + 1 := ⟨F - 1, by omega⟩
    have hf := wfg_lt (kW l st) L
    have hf2 := wfg_lt (kW l k) L
    have hwst := (hgrp st (by omega)).mpr ⟨by omega, by omega⟩
    have hwk := (hgrp k (by omega)).mpr ⟨by omega, by omega⟩
    rw [fX3_grow_L149, if_neg (nI_nlt (by omega) (by omega)), n_wordAt6 hC hg (show st < l.length by omega), Option.bind_some, n_fig6 (hg.lt (show st < l.length by omega)) hL, Option.bind_some, if_neg (fun e => by have := (nI_eq (by omega) (by omega)).mp e; omega), n_wordAt6 hC hg (show k < l.length by omega), Option.bind_some, n_fig6 (hg.lt (show k < l.length by omega)) hL, Option.bind_some]
    by_cases c : wfg (kW l k) L = wfg (kW l st) L
    · rw [if_pos (by rw [c]), Option.bind_some, gl_eq, nI_1]
      obtain ⟨r, ns, M', e1, e2, e3, e4, e5, e6, e7, e8, e9, e10⟩ := ih F st (k + 1) s M P Pf D Fr Ti C (by omega) (by omega) hst (by omega) (by omega) (fun j z1 z2 => by
        rcases Nat.lt_or_ge j k with z | z
        · exact hsm j z1 z
        · rw [show j = k by omega]; exact c) hlo (Or.elim (show s + (b - st) ≤ 48 ∨ (s + (b - st) ≤ 49 ∧ ∃ j, k ≤ j ∧ j < b ∧ wfg (kW l j) L ≠ wfg (kW l st) L) from hroom) Or.inl (fun ⟨z1, j, z2, z3, z4⟩ => Or.inr ⟨z1, j, by
          rcases Nat.lt_or_ge k j with z | z
          · omega
          · exact absurd (by rw [show j = k by omega]; exact c) z4, z3, z4⟩)) hs hM hCM hbits
      refine ⟨r, ns, M', e1, e2, e3, e4, e5, e6, e7, e8, e9, fun ⟨j, z1, z2, z3⟩ => e10 ⟨j, ?_, z2, z3⟩⟩
      rcases Nat.lt_or_ge k j with z | z
      · omega
      · exact absurd (by rw [show j = k by omega]; exact c) z3
    · have hroom2 : s + (b - st) ≤ 49 := by
        unfold roomL at hroom
        rcases hroom with z | ⟨z, -⟩ <;> omega
      obtain ⟨r1, n1, a1, a2, a3, a4, a5, a6⟩ := call st k s P Pf D Fr Ti (upd C s0 (nI (M ||| 2 ^ wfg (kW l st) L))) hst hsk (by omega) hsm hlo (fun _ => c) (by omega)
      have hor : M ||| 2 ^ wfg (kW l st) L < 2 ^ 16 := Nat.or_lt_two_pow hM (Nat.pow_lt_pow_right (by decide) hf)
      have hup : wfg (kW l st) L < wfg (kW l k) L := by
        have := fig_mono hg hpl hL (show st ≤ k by omega) (by omega) hwst hwk
        omega
      have hc0 : r1.2.2.2.2.2.2 s0 = nI (M ||| 2 ^ wfg (kW l st) L) := by
        have b7 := (a3 s0 hs).2.2.2.2.2 (by omega)
        dsimp only at b7
        rw [pk_us] at b7
        exact b7
      obtain ⟨r, ns, M', e1, e2, e3, e4, e5, e6, e7, e8, e9, e10⟩ := ih F k (k + 1) (s + n1.length) (M ||| 2 ^ wfg (kW l st) L) r1.2.1 r1.2.2.1 r1.2.2.2.1 r1.2.2.2.2.1 r1.2.2.2.2.2.1 r1.2.2.2.2.2.2 (by omega) (by omega) (by omega) (by omega) (by omega) (fun j z1 z2 => by rw [show j = k by omega]) (fun j z1 z2 => by
        rcases Nat.lt_or_ge j st with z | z
        · have := hlo j z1 z; omega
        · rw [hsm j z z2]; exact hup) (Or.inl (by omega)) (by omega) hor hc0 (fun f hf16 => by
          rw [testBit_or_pow, Bool.or_eq_true, hbits f hf16, decide_eq_true_iff]
          constructor
          · rintro (⟨j, z1, z2, z3⟩ | z)
            · exact ⟨j, z1, by omega, z3⟩
            · exact ⟨st, hst, hsk, z⟩
          · rintro ⟨j, z1, z2, z3⟩
            rcases Nat.lt_or_ge j st with z | z
            · exact Or.inl ⟨j, z1, z, z3⟩
            · right; rw [← hsm j z z2]; exact z3)
      rw [if_neg (fun e => c ((nI_eq (by omega) (by omega)).mp e)), gx_n hs0 (by omega), gx_n hs0 (by omega), nI_clamp (by omega), hCM, n_1shl hf, fa_or, a1, Option.bind_some, Option.bind_some, gl_eq, nI_1]
      dsimp only
      rw [a2.1]
      have e3' : sm6 s0 (s + n1.length) r1 r := e3
      refine ⟨r, n1 ++ ns, M', e1, nS_app a2 e2 e3' hs, fun e he => ?_, e4, e5, e6, ?_, fun q => ?_, ?_, fun _ => ?_⟩
      · obtain ⟨b1, b2, b3, b4, b5, b6⟩ := a3 e he
        obtain ⟨d1, d2, d3, d4, d5, d6⟩ := e3' e (by omega)
        refine ⟨d1.trans b1, d2.trans b2, d3.trans b3, d4.trans b4, d5.trans b5, fun hx => ?_⟩
        have b7 := b6 (by omega)
        dsimp only at b7
        rw [pk_un hx] at b7
        exact (d6 hx).trans b7
      · rw [List.pairwise_append]
        refine ⟨a4, e7, fun q1 hq1 q2 hq2 => ?_⟩
        obtain ⟨i, z1, z2, rfl⟩ := (a5 q1).mp hq1
        obtain ⟨i', y1, y2, rfl, y4⟩ := (e8 q2).mp hq2
        have hwi := (hgrp i (by omega)).mpr ⟨by omega, by omega⟩
        have hwi1 := (hgrp (i + 1) (by omega)).mpr ⟨by omega, by omega⟩
        have hvi := (hgrp i' (by omega)).mpr ⟨by omega, by omega⟩
        have hvi1 := (hgrp (i' + 1) (by omega)).mpr ⟨by omega, by omega⟩
        obtain ⟨u1, u2, u3, u4⟩ := adj_same hg hpl hL (by omega) hwi hwi1 (hlong i (by omega) (by omega)) (hlong (i + 1) (by omega) (by omega)) ((hsm i z1 (by omega)).trans (hsm (i + 1) (by omega) (by omega)).symm)
        have hsame : wfg (kW l i') L = wfg (kW l (i' + 1)) L := Classical.byContradiction (fun z => y4 (adj_diff hg hp hpl (by omega) hvi hvi1 (Or.inr z)))
        obtain ⟨t1, t2, t3, t4⟩ := adj_same hg hpl hL (by omega) hvi hvi1 (hlong i' (by omega) (by omega)) (hlong (i' + 1) (by omega) (by omega)) hsame
        have m1 := fig_mono hg hpl hL y1 (by omega) hwk hvi
        have f1 := hsm i z1 (by omega)
        rcases Nat.lt_or_ge (adjP l i) (adjP l i') with z | z
        · exact z
        · exfalso
          have h1 := wpre_mono (k := L + 1) z
          rw [wpre_succ hL, wpre_succ hL] at h1
          have hu := u2.2
          have ht := t2.2
          rw [hpl] at hu ht
          omega
      · rw [List.mem_append, a5 q, e8 q]
        constructor
        · rintro (⟨i, z1, z2, z3⟩ | ⟨i, z1, z2, z3, z4⟩)
          · refine ⟨i, z1, by omega, z3, fun z4 => ?_⟩
            have := (adj_same hg hpl hL (by omega) ((hgrp i (by omega)).mpr ⟨by omega, by omega⟩) ((hgrp (i + 1) (by omega)).mpr ⟨by omega, by omega⟩) (hlong i (by omega) (by omega)) (hlong (i + 1) (by omega) (by omega)) ((hsm i z1 (by omega)).trans (hsm (i + 1) (by omega) (by omega)).symm)).2.2.1
            rw [← z3, z4, hpl] at this
            omega
          · exact ⟨i, by omega, z2, z3, z4⟩
        · rintro ⟨i, z1, z2, z3, z4⟩
          rcases Nat.lt_trichotomy (i + 1) k with z | z | z
          · exact Or.inl ⟨i, z1, z, z3⟩
          · exfalso
            refine z4 (z3.trans (adj_diff hg hp hpl (by omega) ((hgrp i (by omega)).mpr ⟨by omega, by omega⟩) ((hgrp (i + 1) (by omega)).mpr ⟨by omega, by omega⟩) (Or.inr ?_)))
            rw [z, hsm i z1 (by omega)]
            omega
          · exact Or.inr ⟨i, by omega, z2, z3, z4⟩
      · rw [List.length_append]; omega
      · rw [List.length_append]; omega
set_option maxHeartbeats 4000000 in
theorem n_grow {l : KL} {sz : Int32} {w v : Nat → Int32} (hC : keyC l sz w v) (hg : kgood l) : ∀ d, growOK l sz w d := by
  have h48 := hg.1
  intro d
  induction d with
  | zero =>
    intro a b A dp s x4 P Pf D Fr Ti C hgr hab hb hdp hup hroom hd hx
    have := ((hgr a (by omega)).mp ⟨Nat.le_refl _, hab⟩).1
    have := wok_len (hg.ok (show a < l.length by omega))
    omega
  | succ d IH =>
    intro a b A dp s x4 P Pf D Fr Ti C hgr hab hb hdp hup hroom hd hx
    rw [fX3_grow]
    by_cases c : b - a < 2
    · rw [pk_sub (by omega), if_pos (show nI (b - a) < (2 : Int32) from nI_lt (b := 2) c (by omega))]
      exact ⟨_, [], rfl, ⟨rfl, fun j hj => absurd hj (Nat.not_lt_zero j)⟩, fun e he => ⟨rfl, rfl, rfl, rfl, rfl, fun _ => rfl⟩, List.Pairwise.nil, fun q => ⟨fun z => absurd z List.not_mem_nil, fun ⟨i, z1, z2, _⟩ => by omega⟩, by show 0 + 1 ≤ b - a; omega⟩
    · obtain ⟨L, p, eL, ep, hAL, hL, hLa, hp, hpl, hgrp⟩ := grp_node hg hgr (by omega) hb
      have hka := hg.ok (show a < l.length by omega)
      have hkb := hg.ok (show b - 1 < l.length by omega)
      have hwa := (hgrp a (by omega)).mpr ⟨Nat.le_refl _, hab⟩
      have hdl : dp ≤ A := by rw [← hdp]; exact fb_ct_le _ _
      have hb1 : nI b - (1 : Int32) = nI (b - 1) := pk_sub (a := b) (b := 1) (by omega)
      have hpa : wpre p L = wpre (kW l a) L := by rw [← hpl]; exact hwa.2
      have hmid := fun i => grp_mid (i := i) hg hgr hp hpl hL hAL hpa hgrp
      obtain ⟨hah, hku⟩ := grp_ah hg hp hab hb hgrp
      -- where the keys that go on begin
      obtain ⟨a0, ha0, hend, hlong, hq141, hfirst⟩ : ∃ a0, (a ≤ a0 ∧ a0 < b) ∧ (∀ j, a ≤ j → j < a0 → kW l j % 8 = L) ∧ (∀ j, a0 ≤ j → j < b → L < kW l j % 8) ∧ (if nI (kW l a % 8) = nI L then (some (nI a + (1 : Int32))) else (some (nI a))) = some (nI a0) ∧ ((a0 = a + 1 ∧ kW l a = p) ∨ (a0 = a ∧ L < kW l a % 8)) := by
        have hla := wok_len hka
        have later : ∀ j, a < j → j < b → L < kW l j % 8 := fun j z1 z2 => by
          have hwj := (hgrp j (by omega)).mpr ⟨by omega, z2⟩
          have hj1 := hwj.1
          rw [hpl] at hj1
          rcases Nat.lt_or_ge L (kW l j % 8) with z | z
          · exact z
          · exfalso
            have e1 : kW l j % 8 = L := by omega
            have e2 : kW l j = p := wok_inj (hg.ok (by omega)) hp (by omega) (by rw [e1]; have := hwj.2; rw [hpl] at this; exact this.symm)
            have h1 := ((whead_iff hp hka).mp hwa).1
            have h2 := hg.2.2 a j z1 (by omega)
            omega
        by_cases ce : kW l a % 8 = L
        · refine ⟨a + 1, ⟨by omega, by omega⟩, fun j z1 z2 => by rw [show j = a by omega]; exact ce, fun j z1 z2 => later j (by omega) z2, by rw [if_pos (by rw [ce]), nI_1], Or.inl ⟨rfl, ?_⟩⟩
          exact wok_inj hka hp (by omega) (by rw [ce]; exact hpa.symm)
        · refine ⟨a, ⟨Nat.le_refl _, hab⟩, fun j z1 z2 => by omega, fun j z1 z2 => ?_, by rw [if_neg (fun e => ce ((nI_eq (by omega) (by omega)).mp e))], Or.inr ⟨rfl, by omega⟩⟩
          rcases Nat.lt_or_ge a j with z | z
          · exact later j z z2
          · rw [show j = a by omega]; omega
      -- the first and the last part, if the first is no end
      have hpart : a0 = a → wfg (kW l (b - 1)) L ≠ wfg (kW l a) L := fun z => by
        have h1 := wlcp_fig hka hkb (by rw [eL]; have := hlong a (by omega) hab; omega) (by rw [eL]; exact hlong (b - 1) (by omega) (by omega))
        rw [eL] at h1
        exact fun z2 => h1 z2.symm
      -- p is a path at which two keys beside each other part
      have hadj : ∃ i, a ≤ i ∧ i + 1 < b ∧ p = adjP l i := by
        rcases hfirst with ⟨z1, z2⟩ | ⟨z1, z2⟩
        · exact ⟨a, Nat.le_refl _, by omega, (adj_diff hg hp hpl (by omega) hwa ((hgrp (a + 1) (by omega)).mpr ⟨by omega, by omega⟩) (Or.inl (by rw [z2]; exact hpl))).symm⟩
        · obtain ⟨i, y1, y2, y3⟩ := change_adj (fun k => wfg (kW l k) L) (b - 1 - a) a (by rw [show a + (b - 1 - a) = b - 1 by omega]; exact fun e => hpart z1 e.symm)
          exact ⟨i, y1, by omega, (adj_diff hg hp hpl (by omega) ((hgrp i (by omega)).mpr ⟨by omega, by omega⟩) ((hgrp (i + 1) (by omega)).mpr ⟨by omega, by omega⟩) (Or.inr y3)).symm⟩
      have hisN : isN l p := by
        obtain ⟨i, z1, z2, z3⟩ := hadj
        rw [z3]; exact adj_isN hg (by omega)
      have hself : whd p L = p := by rw [← hpl]; exact whd_self hp
      have hnode : nodeAt l p L = true := by
        unfold nodeAt
        rw [hself, decide_eq_true_iff]
        exact hisN.2
      have hdepA : fb_ct (nodeAt l p) A = dp := by
        rw [← hdp]
        exact fb_ct_cong (fun i hi => (nodeAt_same hpl (by omega) (by omega) hwa).symm)
      have hdep : fb_ct (nodeAt l p) (L + 1) = dp + 1 := by
        rw [dep_is hAL hnode (fun i z1 z2 => hmid i z1 z2), hdepA]
      have hupp : upG l p L = A := by
        have := upG_is (l := l) (p := p) (A := A) (hup.elim Or.inl (fun z => Or.inr (by
          rw [← nodeAt_same hpl (by omega) (by omega) hwa]; exact z))) (L - A) (fun i z1 z2 => hmid i z1 (by omega))
        rw [show A + (L - A) = L by omega] at this
        exact this
      have hlt0 : ah p l < 2 ^ 31 := by omega
      obtain ⟨r, ns, M', e1, e2, e3, e4, e5, e6, e7, e8, e9, e10⟩ := n_grow_L hC hg IH hp hpl hL hb hgrp hnode hdep ha0.1 hend hlong (by omega) (show s < 48 by omega) (b - (a0 + 1)) gF a0 (a0 + 1) (s + 1) 0 (upd P s (nI p)) (upd Pf s (nI (L - A))) (upd D s (nI (dp + 1))) (upd Fr s (nI a)) (upd Ti s (nI b)) (upd C s 0) rfl (by unfold gF; omega) (Nat.le_refl _) (by omega) (by omega) (fun j z1 z2 => by rw [show j = a0 by omega]) (fun j z1 z2 => by omega) (by
        unfold roomL
        rcases hfirst with ⟨z1, z2⟩ | ⟨z1, z2⟩
        · left; omega
        · right
          exact ⟨by omega, b - 1, by omega, by omega, by rw [z1]; exact hpart z1⟩) (by omega) (by omega) (by rw [pk_us]; rfl) (fun f hf => ⟨fun z => (by rw [Nat.zero_testBit] at z; cases z), fun ⟨j, z1, z2, _⟩ => by omega⟩)
      have ec : (if nI (kW l a % 8) = nI L then (some (nI a + (1 : Int32))) else (some (nI a))) = some (nI a0) := hq141
      rw [pk_sub (by omega), if_neg (show ¬ nI (b - a) < (2 : Int32) from nI_nlt (b := 2) (by omega) (by omega)), if_neg (show ¬ (6 : Int32) ≤ nI dp from nI_ge (b := 6) (by omega) (by omega)), if_pos (show nI s < (48 : Int32) from nI_lt (b := 48) (by omega) (by omega)), n_wordAt6 hC hg (show a < l.length by omega), Option.bind_some, hb1, n_wordAt6 hC hg (show b - 1 < l.length by omega), Option.bind_some, n_shared hka hkb, Option.bind_some, eL, gl_eq, n_head6 (wok_lt hka) (by omega), Option.bind_some, ep, gx_n (by omega) (by omega), gx_n (by omega) (by omega), gx_n (by omega) (by omega), gx_n (by omega) (by omega), gx_n (by omega) (by omega), gx_n (by omega) (by omega), n_len6 (wok_lt hka), Option.bind_some, ec, Option.bind_some, gl_eq, hx L hAL, nI_1, nI_1, nI_1, nI_clamp (show s < 2 ^ 31 by omega), e1, Option.bind_some]
      refine ⟨r, p :: ns, rfl, ⟨by rw [e2.1, List.length_cons]; exact congrArg nI (by omega), fun j hj => ?_⟩, fun e he => ?_, ?_, fun q => ?_, ?_⟩
      · cases j with
        | zero =>
          obtain ⟨b1, b2, b3, b4, b5, b6⟩ := e3 s (by omega)
          dsimp only at b1 b2 b3 b4 b5
          rw [pk_us] at b1 b2 b3 b4 b5
          show nF l p (s + 0) r
          rw [Nat.add_zero]
          refine ⟨b1, ?_, ?_, ?_, ?_, ?_⟩
          · rw [b2]; unfold pfx; rw [hpl, hupp]
          · rw [b3]; unfold dep; rw [hpl, hdep]
          · rw [b4, hah]
          · rw [b5, hku]
          · rw [e5]
            refine congrArg nI (bits_ext e4 (msk_lt _ 16) (fun f hf => ?_))
            rw [msk_bit, decide_eq_true hf, Bool.true_and]
            apply Bool.eq_iff_iff.mpr
            rw [e6 f hf, kid_iff]
            constructor
            · rintro ⟨j, z1, z2, z3⟩
              exact ⟨j, by omega, (hgrp j (by omega)).mpr ⟨by omega, z2⟩, by rw [hpl]; exact hlong j z1 z2, by rw [hpl]; exact z3⟩
            · rintro ⟨j, z0, z1, z2, z3⟩
              have hin := (hgrp j z0).mp z1
              rw [hpl] at z2 z3
              refine ⟨j, ?_, hin.2, z3⟩
              rcases Nat.lt_or_ge j a0 with y | y
              · have := hend j hin.1 y; omega
              · exact y
        | succ j =>
          have := e2.2 j (by simpa using hj)
          rw [show s + 1 + j = s + (j + 1) by omega] at this
          exact this
      · obtain ⟨b1, b2, b3, b4, b5, b6⟩ := e3 e (by omega)
        dsimp only at b1 b2 b3 b4 b5 b6
        have b7 := b6 (by omega)
        rw [pk_un (by omega)] at b1 b2 b3 b4 b5 b7
        exact ⟨b1, b2, b3, b4, b5, fun _ => b7⟩
      · rw [List.pairwise_cons]
        refine ⟨fun q hq => ?_, e7⟩
        obtain ⟨i, z1, z2, rfl, z4⟩ := (e8 q).mp hq
        have hwi := (hgrp i (by omega)).mpr ⟨by omega, by omega⟩
        have hwi1 := (hgrp (i + 1) (by omega)).mpr ⟨by omega, by omega⟩
        have hsame : wfg (kW l i) L = wfg (kW l (i + 1)) L := Classical.byContradiction (fun z => z4 (adj_diff hg hp hpl (by omega) hwi hwi1 (Or.inr z)))
        obtain ⟨u1, u2, u3, u4⟩ := adj_same hg hpl hL (by omega) hwi hwi1 (hlong i (by omega) (by omega)) (hlong (i + 1) (by omega) (by omega)) hsame
        have := ((whead_iff hp u1).mp u2).1
        omega
      · rw [List.mem_cons, e8 q]
        constructor
        · rintro (z | ⟨i, z1, z2, z3, z4⟩)
          · rw [z]; exact hadj
          · exact ⟨i, by omega, z2, z3⟩
        · rintro ⟨i, z1, z2, z3⟩
          by_cases z4 : q = p
          · exact Or.inl z4
          · refine Or.inr ⟨i, ?_, z2, z3, z4⟩
            rcases Nat.lt_or_ge i a0 with y | y
            · exfalso
              refine z4 (z3.trans (adj_diff hg hp hpl (by omega) ((hgrp i (by omega)).mpr ⟨by omega, by omega⟩) ((hgrp (i + 1) (by omega)).mpr ⟨by omega, by omega⟩) (Or.inl (hend i z1 y))))
            · exact y
      · rw [List.length_cons]
        rcases hfirst with ⟨z1, z2⟩ | ⟨z1, z2⟩
        · omega
        · have := e10 ⟨b - 1, by omega, by omega, by rw [z1]; exact hpart z1⟩
          omega
/-- the class's nodes are those of the keys -/
def nodesC (l : KL) (ns : List Nat) (r : NT) : Prop := nS l ns 0 r ∧ ns.Pairwise (· < ·) ∧ (∀ q, q ∈ ns ↔ isN l q) ∧ ns.length ≤ 47
theorem n_build {l : KL} {sz : Int32} {w v : Nat → Int32} (hC : keyC l sz w v) (hg : kgood l) (P Pf D Fr Ti C : Nat → Int32) : ∃ (r : NT) (ns : List Nat), fX3_build sz w P Pf D Fr Ti C = some r ∧ nodesC l ns r := by
  have h48 := hg.1
  unfold fX3_build
  by_cases c : l.length = 0
  · have e : fX3_grow 7 (0 : Int32) sz (-1 : Int32) (0 : Int32) (0 : Int32) sz w P Pf D Fr Ti C = some ((0 : Int32), P, Pf, D, Fr, Ti, C) := by
      rw [fX3_grow, hC.1, c, if_pos (by decide)]
    rw [e, Option.bind_some]
    refine ⟨_, [], rfl, ⟨rfl, fun j hj => absurd hj (Nat.not_lt_zero j)⟩, List.Pairwise.nil, fun q => ⟨fun z => absurd z List.not_mem_nil, fun z => ?_⟩, Nat.zero_le _⟩
    obtain ⟨i, z1, -⟩ := isN_adj hg z
    omega
  · obtain ⟨r, ns, e1, e2, e3, e4, e5, e6⟩ := n_grow hC hg 7 0 l.length 0 0 0 (-1) P Pf D Fr Ti C (grp_top hg (by omega)) (by omega) (Nat.le_refl _) rfl (Or.inl rfl) (by omega) (by omega) (fun L _ => by
      have : nI L - (-1 : Int32) = nI (L + 1) := by rw [← nI_1, Int32.sub_eq_add_neg]; rfl
      rw [this]
      exact nI_pred L)
    have e1' : fX3_grow 7 (0 : Int32) sz (-1 : Int32) (0 : Int32) (0 : Int32) sz w P Pf D Fr Ti C = some r := by
      rw [← hC.1] at e1
      exact e1
    rw [e1', Option.bind_some]
    refine ⟨_, ns, rfl, e2, e4, fun q => ?_, by omega⟩
    rw [e5 q]
    constructor
    · rintro ⟨i, z1, z2, rfl⟩
      exact adj_isN hg z2
    · intro z
      obtain ⟨i, h1, -, -, h4, h5⟩ := isN_adj hg z
      exact ⟨i, Nat.zero_le _, h1, by unfold adjP; rw [h4]; exact h5⟩
