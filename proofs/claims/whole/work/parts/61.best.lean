/-! the class's lowest node over a key -/
theorem n_lowest_L {l : KL} (hg : kgood l) {ns : List Nat} {r : NT} (h : nodesC l ns r) {k : Nat} (hk : k < l.length) : ∀ (i F : Nat), i ≤ ns.length → i < F → (∀ d, i ≤ d → d < ns.length → ¬ whead (ns.getD d 0) (kW l k)) → ∃ x, fX3_lowestOver_L7 (nI k) r.2.2.2.2.1 r.2.2.2.2.2.1 F (nI i - (1 : Int32)) = some x ∧ ((x = -1 ∧ ∀ d, d < ns.length → ¬ whead (ns.getD d 0) (kW l k)) ∨ ∃ d, d < ns.length ∧ x = nI d ∧ whead (ns.getD d 0) (kW l k) ∧ ∀ d', d < d' → d' < ns.length → ¬ whead (ns.getD d' 0) (kW l k))
  | i, 0, _, hF, _ => absurd hF (Nat.not_lt_zero i)
  | 0, F + 1, hi, hF, hno => by
    rw [fX3_lowestOver_L7, if_pos (show nI 0 - (1 : Int32) < 0 by decide)]
    exact ⟨_, rfl, Or.inl ⟨rfl, fun d hd => hno d (Nat.zero_le _) hd⟩⟩
  | i + 1, F + 1, hi, hF, hno => by
    have hl := h.2.2.2
    have h48 := hg.1
    have hq := (nC_isN h (show i < ns.length by omega)).1
    have k1 := kun_le hg hq
    have kin := kun_in hg hq hk
    have eg : nI i + (-1) = nI i - (1 : Int32) := by rw [Int32.sub_eq_add_neg]
    have rest := fun (hn : ¬ whead (ns.getD i 0) (kW l k)) => n_lowest_L hg h hk i F (by omega) (by omega) (fun d z1 z2 => by
      rcases Nat.lt_or_ge i d with z | z
      · exact hno d z z2
      · rw [show d = i by omega]; exact hn)
    rw [fX3_lowestOver_L7, nI_pred, if_neg (nI_pos (by omega)), gx_n (by omega) (by omega), nI_clamp (by omega), (nC_at h (show i < ns.length by omega)).2.2.2.1, (nC_at h (show i < ns.length by omega)).2.2.2.2.1]
    by_cases c1 : k < ah (ns.getD i 0) l
    · rw [if_pos (nI_lt c1 (by omega)), gl_eq, eg]
      exact rest (fun z => by have := kin.mp z; omega)
    · rw [if_neg (nI_nlt (by omega) (by omega)), gx_n (by omega) (by omega)]
      by_cases c2 : ah (ns.getD i 0) l + kun l (ns.getD i 0) ≤ k
      · rw [if_pos (nI_le c2 (by omega)), gl_eq, eg]
        exact rest (fun z => by have := kin.mp z; omega)
      · rw [if_neg (nI_ge (by omega) (by omega))]
        exact ⟨_, rfl, Or.inr ⟨i, by omega, rfl, kin.mpr ⟨by omega, by omega⟩, fun d' z1 z2 => hno d' z1 z2⟩⟩
theorem n_lowest {l : KL} (hg : kgood l) {ns : List Nat} {r : NT} (h : nodesC l ns r) {k : Nat} (hk : k < l.length) : ∃ x, fX3_lowestOver (nI k) r.1 r.2.2.2.2.1 r.2.2.2.2.2.1 = some x ∧ ((x = -1 ∧ ∀ q, isN l q → ¬ whead q (kW l k)) ∨ ∃ d, d < ns.length ∧ x = nI d ∧ whead (ns.getD d 0) (kW l k) ∧ ∀ Q, isN l Q → whead Q (kW l k) → Q % 8 ≤ ns.getD d 0 % 8) := by
  have hl := h.2.2.2
  obtain ⟨x, h1, h2⟩ := n_lowest_L hg h hk ns.length gF (Nat.le_refl _) (by unfold gF; omega) (fun d z1 z2 => by omega)
  unfold fX3_lowestOver
  rw [gl_eq, nC_size h]
  refine ⟨x, h1, ?_⟩
  rcases h2 with ⟨h3, h4⟩ | ⟨d, h3, h4, h5, h6⟩
  · refine Or.inl ⟨h3, fun q hq hw => ?_⟩
    obtain ⟨j, hj, e⟩ := mem_getD ((h.2.2.1 q).mpr hq)
    exact h4 j hj (by rw [e]; exact hw)
  · refine Or.inr ⟨d, h3, h4, h5, fun Q hQ hw => ?_⟩
    obtain ⟨j, hj, e⟩ := mem_getD ((h.2.2.1 Q).mpr hQ)
    have hjd : j ≤ d := by
      rcases Nat.lt_or_ge d j with z | z
      · exact absurd (by rw [e]; exact hw) (h6 j z hj)
      · exact z
    rcases Nat.lt_or_ge (ns.getD d 0 % 8) (Q % 8) with z | z
    · exfalso
      have hP := nC_isN h h3
      have h7 := ((whead_iff hP.1 hQ.1).mp (head_head hP.1 hQ.1 h5 hw (by omega))).1
      rcases Nat.lt_or_ge j d with y | y
      · have hpw := List.pairwise_iff_getElem.mp h.2.1 j d hj h3 y
        have g1 : ns.getD j 0 = ns[j] := by rw [List.getD_eq_getElem?_getD, List.getElem?_eq_getElem hj]; rfl
        have g2 : ns.getD d 0 = ns[d] := by rw [List.getD_eq_getElem?_getD, List.getElem?_eq_getElem h3]; rfl
        rw [← g1, ← g2, e] at hpw
        omega
      · rw [show j = d by omega] at e
        rw [e] at z
        omega
    · exact z
theorem n_saved {l : KL} {sz : Int32} {w v : Nat → Int32} (hC : keyC l sz w v) (hg : kgood l) {ns : List Nat} {r : NT} (h : nodesC l ns r) {k : Nat} (hk : k < l.length) : ∃ s, fX3_placesSaved (nI k) r.1 r.2.2.2.2.1 r.2.2.2.2.2.1 sz w r.2.1 r.2.2.2.2.2.2 = some s ∧ nI (allP l) - s = nI (allP (kdel l k 1)) := by
  have hl := h.2.2.2
  have h48 := hg.1
  have hkl := hg.lt hk
  obtain ⟨x, h1, h2⟩ := n_lowest hg h hk
  unfold fX3_placesSaved
  rw [h1, Option.bind_some]
  rcases h2 with ⟨rfl, h3⟩ | ⟨d, hd, rfl, hw, hlow⟩
  · rw [if_pos rfl]
    refine ⟨_, rfl, ?_⟩
    rw [allP_none hg hk h3, Int32.sub_zero]
  · have hP := nC_isN h hd
    have hPl := wok_lt hP.1
    obtain ⟨d1, d2⟩ := del_low hg hk hP hw hlow
    obtain ⟨s1, s2, s3⟩ := allP_low hg hk hP hw hlow
    have hnk := nk_le l (ns.getD d 0)
    have hnk' := nk_le (kdel l k 1) (ns.getD d 0)
    have hpl := (plc_lt (nk l (ns.getD d 0))).2
    have hal := allP_le hg
    rw [if_neg (nI_nm1 (by omega)), n_wordAt6 hC hg hk, Option.bind_some, gx_n (by omega) (by omega), nI_clamp (show d < 2 ^ 31 by omega), (nC_at h hd).1]
    have e32 : (if nI (kW l k) = nI (ns.getD d 0) then (some (1 : Int32)) else (some (0 : Int32))) = some (if kW l k = ns.getD d 0 then 1 else 0) := by
      by_cases c : kW l k = ns.getD d 0
      · rw [if_pos (by rw [c]), if_pos c]
      · rw [if_neg (fun z => c ((nI_eq (by omega) (by omega)).mp z)), if_neg c]
    rw [e32, Option.bind_some, gx_n (by omega) (by omega), (nC_at h hd).2.2.2.2.2, n_bitc (msk_lt _ 16), Option.bind_some, nk_pc]
    have e53 : (if (if kW l k = ns.getD d 0 then (1 : Int32) else 0) = 0 then (some (1 : Int32)) else (some (0 : Int32))) = some (nI (if kW l k = ns.getD d 0 then 0 else 1)) := by
      by_cases c : kW l k = ns.getD d 0
      · rw [if_pos c, if_neg (show ¬ (1 : Int32) = 0 by decide), if_pos c]; rfl
      · rw [if_neg c, if_pos (show (0 : Int32) = 0 from rfl), if_neg c]; rfl
    rw [e53, Option.bind_some, gl_eq, pk_sub (by omega), show nk l (ns.getD d 0) - (if kW l k = ns.getD d 0 then 0 else 1) = nk (kdel l k 1) (ns.getD d 0) by omega, n_hasEnd6 hC hg h hd, Option.bind_some]
    have e75 : (if (if kH l (ns.getD d 0) then (1 : Int32) else 0) = 0 then (some (0 : Int32)) else (some (nI (if kW l k = ns.getD d 0 then 0 else 1)))) = some (if kH (kdel l k 1) (ns.getD d 0) then 1 else 0) := by
      by_cases c1 : kH l (ns.getD d 0)
      · rw [if_pos c1, if_neg (show ¬ (1 : Int32) = 0 by decide)]
        by_cases c2 : kW l k = ns.getD d 0
        · rw [if_pos c2, if_neg (fun z => (d2.mp z).2 c2)]; rfl
        · rw [if_neg c2, if_pos (d2.mpr ⟨c1, c2⟩)]; rfl
      · rw [if_neg c1, if_pos (show (0 : Int32) = 0 from rfl), if_neg (fun z => c1 (d2.mp z).1)]
    rw [e75, Option.bind_some]
    have e99 : (if (2 : Int32) ≤ nI (nk (kdel l k 1) (ns.getD d 0)) then (some (1 : Int32)) else (if nI (nk (kdel l k 1) (ns.getD d 0)) = (1 : Int32) then (if (if kH (kdel l k 1) (ns.getD d 0) then (1 : Int32) else 0) = 0 then (some (0 : Int32)) else (some (1 : Int32))) else (some (0 : Int32)))) = some (if nb (kdel l k 1) (ns.getD d 0) = true then 1 else 0) := by
      unfold nb bn
      generalize nk (kdel l k 1) (ns.getD d 0) = m at hnk'
      by_cases c1 : 2 ≤ m
      · rw [if_pos (show (2 : Int32) ≤ nI m from nI_le (a := 2) c1 (by omega)), decide_eq_true (by omega), if_pos rfl]
      · rw [if_neg (show ¬ (2 : Int32) ≤ nI m from nI_ge (b := 2) (by omega) (by omega))]
        by_cases c2 : m = 1
        · rw [if_pos (show nI m = (1 : Int32) by rw [c2]; rfl)]
          by_cases c3 : kH (kdel l k 1) (ns.getD d 0)
          · rw [if_pos c3, if_neg (show ¬ (1 : Int32) = 0 by decide), if_pos c3, decide_eq_true (by omega), if_pos rfl]
          · rw [if_neg c3, if_pos (show (0 : Int32) = 0 from rfl), if_neg c3, decide_eq_false (by omega), if_neg (by decide)]
        · rw [if_neg (show ¬ nI m = (1 : Int32) from fun z => c2 ((nI_eq (b := 1) (by omega) (by omega)).mp z)), decide_eq_false (by split <;> omega), if_neg (by decide)]
    rw [e99, Option.bind_some, n_places6 h hd, Option.bind_some]
    by_cases c : nb (kdel l k 1) (ns.getD d 0) = true
    · rw [if_pos c] at s1 s2
      rw [if_pos c, if_neg (show ¬ (1 : Int32) = 0 by decide), n_pfor hnk', Option.bind_some, pk_sub s2]
      refine ⟨_, rfl, ?_⟩
      rw [pk_sub (by omega)]
      exact congrArg nI (by omega)
    · rw [if_neg c] at s1 s2
      rw [if_neg c, if_pos (show (0 : Int32) = 0 from rfl), Int32.sub_zero]
      refine ⟨_, rfl, ?_⟩
      rw [pk_sub (by omega)]
      exact congrArg nI (by omega)
/-! the best -/
def isB (f : Nat → Nat) (n b : Nat) : Prop := b < n ∧ (∀ j, j < n → f b ≤ f j) ∧ ∀ j, j < b → f b < f j
theorem isB_one {f : Nat → Nat} {n b b' : Nat} (h : isB f n b) (h' : isB f n b') : b = b' := by
  rcases Nat.lt_trichotomy b b' with z | z | z
  · have := h'.2.2 b z; have := h.2.1 b' h'.1; omega
  · exact z
  · have := h.2.2 b' z; have := h'.2.1 b h.1; omega
theorem isB_step_no {f : Nat → Nat} {n b : Nat} (h : isB f n b) (hf : f b ≤ f n) : isB f (n + 1) b := by
  refine ⟨by have := h.1; omega, fun j hj => ?_, h.2.2⟩
  rcases Nat.lt_or_ge j n with z | z
  · exact h.2.1 j z
  · rw [show j = n by omega]; exact hf
theorem isB_step_yes {f : Nat → Nat} {n b : Nat} (h : isB f n b) (hf : f n < f b) : isB f (n + 1) n := by
  refine ⟨by omega, fun j hj => ?_, fun j hj => ?_⟩
  · rcases Nat.lt_or_ge j n with z | z
    · have := h.2.1 j z; omega
    · rw [show j = n by omega]; exact Nat.le_refl _
  · have := h.2.1 j hj; omega
theorem allP_le' {l : KL} (hg : kgood l) {k : Nat} (hk : k < l.length) : allP (kdel l k 1) ≤ 752 := allP_le (kdel_good hg (by omega))
theorem n_best6_L {l : KL} {sz : Int32} {w v : Nat → Int32} (hC : keyC l sz w v) (hg : kgood l) {ns : List Nat} {r : NT} (h : nodesC l ns r) : ∀ (m F i b : Nat), l.length - i = m → m < F → i ≤ l.length → isB (fun j => allP (kdel l j 1)) i b → ∃ b', isB (fun j => allP (kdel l j 1)) l.length b' ∧ fX7_best_L41 sz r.1 r.2.2.2.2.1 r.2.2.2.2.2.1 w r.2.1 r.2.2.2.2.2.2 (nI (allP l)) F (nI b) (nI (allP (kdel l b 1))) (nI i) = some (nI b', nI (allP (kdel l b' 1)))
  | m, 0, i, b, _, hF, _, _ => absurd hF (Nat.not_lt_zero m)
  | m, F + 1, i, b, hm, hF, hi, hb => by
    have h48 := hg.1
    rw [fX7_best_L41]
    by_cases c : i < l.length
    · obtain ⟨s, s1, s2⟩ := n_saved hC hg h c
      have v1 := allP_le' hg c
      have v2 := allP_le' hg (show b < l.length by have := hb.1; omega)
      rw [if_neg (by rw [hC.1]; exact nI_ge c (by omega)), s1, Option.bind_some, gl_eq, s2]
      by_cases c2 : allP (kdel l b 1) ≤ allP (kdel l i 1)
      · rw [if_pos (nI_le c2 (by omega)), Option.bind_some, gl_eq, nI_1]
        exact n_best6_L hC hg h (m - 1) F (i + 1) b (by omega) (by omega) c (isB_step_no hb c2)
      · rw [if_neg (nI_ge (by omega) (by omega)), Option.bind_some, gl_eq, nI_1]
        exact n_best6_L hC hg h (m - 1) F (i + 1) i (by omega) (by omega) c (isB_step_yes hb (by show allP (kdel l i 1) < allP (kdel l b 1); omega))
    · rw [if_pos (by rw [hC.1]; exact nI_le (by omega) (by omega))]
      have e : i = l.length := by omega
      subst e
      exact ⟨b, hb, rfl⟩
theorem n_best8_L {l : KL} {t : Nat → Int32} (hM : keyM l t) (hg : kgood l) : ∀ (m F i b : Nat) (mn : Int32) (as mp : Nat → Int32), l.length - i = m → m < F → i ≤ l.length → isB (fun j => allP (kdel l j 1)) i b → ∃ b' rm, isB (fun j => allP (kdel l j 1)) l.length b' ∧ fX8_best_L19 t F (nI b) (nI (allP (kdel l b 1))) (nI i) mn as mp = some rm ∧ rm.1 = nI b' ∧ rm.2.1 = nI (allP (kdel l b' 1))
  | m, 0, i, b, mn, as, mp, _, hF, _, _ => absurd hF (Nat.not_lt_zero m)
  | m, F + 1, i, b, mn, as, mp, hm, hF, hi, hb => by
    have h48 := hg.1
    rw [fX8_best_L19, gx_0 (by omega) (by omega), cl_0, hM.1]
    by_cases c : i < l.length
    · have ec := n_copies (x1 := 0) (x3 := 0) (n := 97) (n0 := 97) (n2 := 97) t as (by omega) (by omega) (by omega) (by omega) (by omega)
      have ec' : fX8_copies (0 : Int32) (0 : Int32) (97 : Int32) 97 t 97 as = _ := ec
      have hMa : keyM l (fun j => if 0 ≤ j ∧ j < 0 + 97 then t (0 + (j - 0)) else as j) := keyM_shift hg hM (fun j hj => by
        rw [if_pos ⟨Nat.zero_le _, by omega⟩, Nat.zero_add, Nat.sub_zero])
      obtain ⟨t', d1, d2⟩ := n_del8 hMa hg c
      obtain ⟨ra, a1, a2⟩ := n_allpl8 d2 (kdel_good hg (by omega)) mp
      have v1 := allP_le' hg c
      have v2 := allP_le' hg (show b < l.length by have := hb.1; omega)
      rw [if_neg (nI_ge c (by omega)), ec', Option.bind_some, d1, Option.bind_some, a1, Option.bind_some, a2]
      by_cases c2 : allP (kdel l b 1) ≤ allP (kdel l i 1)
      · rw [if_pos (nI_le c2 (by omega)), Option.bind_some, if_pos (nI_le c2 (by omega)), Option.bind_some, gl_eq, nI_1]
        exact n_best8_L hM hg (m - 1) F (i + 1) b _ _ _ (by omega) (by omega) c (isB_step_no hb c2)
      · rw [if_neg (nI_ge (by omega) (by omega)), Option.bind_some, if_neg (nI_ge (by omega) (by omega)), Option.bind_some, gl_eq, nI_1]
        exact n_best8_L hM hg (m - 1) F (i + 1) i _ _ _ (by omega) (by omega) c (isB_step_yes hb (by show allP (kdel l i 1) < allP (kdel l b 1); omega))
    · rw [if_pos (nI_le (by omega) (by omega))]
      have e : i = l.length := by omega
      subst e
      exact ⟨b, _, hb, rfl, rfl, rfl⟩
theorem n_best8 {l : KL} {t : Nat → Int32} (hM : keyM l t) (hg : kgood l) (h0 : 0 < l.length) (mn : Int32) (as mp : Nat → Int32) : ∃ b' rm, isB (fun j => allP (kdel l j 1)) l.length b' ∧ fX8_best_L19 t gF (0 : Int32) (999999 : Int32) (0 : Int32) mn as mp = some rm ∧ rm.1 = nI b' ∧ rm.2.1 = nI (allP (kdel l b' 1)) := by
  have h48 := hg.1
  have ec := n_copies (x1 := 0) (x3 := 0) (n := 97) (n0 := 97) (n2 := 97) t as (by omega) (by omega) (by omega) (by omega) (by omega)
  have ec' : fX8_copies (0 : Int32) (0 : Int32) (97 : Int32) 97 t 97 as = _ := ec
  have hMa : keyM l (fun j => if 0 ≤ j ∧ j < 0 + 97 then t (0 + (j - 0)) else as j) := keyM_shift hg hM (fun j hj => by
    rw [if_pos ⟨Nat.zero_le _, by omega⟩, Nat.zero_add, Nat.sub_zero])
  obtain ⟨t', d1, d2⟩ := n_del8 hMa hg h0
  rw [nI_0] at d1
  obtain ⟨ra, a1, a2⟩ := n_allpl8 d2 (kdel_good hg (by omega)) mp
  have v1 := allP_le' hg h0
  have hc : ¬ (999999 : Int32) ≤ nI (allP (kdel l 0 1)) := nI_ge (b := 999999) (by omega) (by omega)
  rw [show gF = 19999 + 1 from rfl, fX8_best_L19, gx_0 (by omega) (by omega), cl_0, hM.1, if_neg (nI_nle h0 (by omega)), ec', Option.bind_some, d1, Option.bind_some, a1, Option.bind_some, a2, if_neg hc, Option.bind_some, if_neg hc, Option.bind_some, gl_eq]
  have := n_best8_L hM hg (l.length - 1) 19999 1 0 ra.2.1 t' ra.2.2 rfl (by omega) h0 ⟨by omega, fun j hj => by rw [show j = 0 by omega]; exact Nat.le_refl _, fun j hj => absurd hj (Nat.not_lt_zero j)⟩
  exact this
theorem e_best {l : KL} {sz : Int32} {w v t : Nat → Int32} (hC : keyC l sz w v) (hM : keyM l t) (hg : kgood l) {ns : List Nat} {r : NT} (hN : nodesC l ns r) (told mn : Int32) (as mp : Nat → Int32) : ∃ rn rm, fX7_best told sz r.1 r.2.2.2.2.2.2 r.2.2.2.2.1 r.2.2.2.2.2.1 w r.2.1 = some rn ∧ fX8_best told mn t as mp = some rm ∧ rn.1 = rm.1 ∧ rn.2 = rm.2.1 := by
  have h48 := hg.1
  unfold fX7_best fX8_best
  rw [gx_0 (by omega) (by omega), cl_0, hM.1, hC.1]
  by_cases c : l.length = 0
  · rw [c, if_pos nI_0, if_pos nI_0]
    exact ⟨_, _, rfl, rfl, rfl, rfl⟩
  · have h0 : 0 < l.length := by omega
    obtain ⟨s, s1, s2⟩ := n_saved hC hg hN h0
    rw [nI_0] at s1
    have hall : fX3_allPlaces r.1 r.2.2.2.2.2.2 = some (nI (allP l)) := by
      rw [n_allpl6 hN]
      unfold allP
      rw [sm_perm (nodes_perm hg hN) (fun q => plc (nk l q))]
    obtain ⟨b, b1, b2⟩ := n_best6_L hC hg hN (l.length - 1) gF 1 0 rfl (by unfold gF; omega) h0 ⟨by omega, fun j hj => by rw [show j = 0 by omega]; exact Nat.le_refl _, fun j hj => absurd hj (Nat.not_lt_zero j)⟩
    obtain ⟨b', rm, c1, c2, c3, c4⟩ := n_best8 hM hg h0 mn as mp
    have eb : b' = b := isB_one c1 b1
    subst eb
    have hbl : b' < l.length := b1.1
    rw [nI_0] at b2
    have b2' : fX7_best_L41 sz r.1 r.2.2.2.2.1 r.2.2.2.2.2.1 w r.2.1 r.2.2.2.2.2.2 (nI (allP l)) gF (0 : Int32) (nI (allP (kdel l 0 1))) (1 : Int32) = _ := b2
    rw [if_neg (nI_ne0 h0 (by omega)), if_neg (nI_ne0 h0 (by omega)), ← hC.1, hall, Option.bind_some, s1, Option.bind_some, gl_eq, s2, b2', Option.bind_some]
    dsimp only
    rw [n_wordAt6 hC hg hbl, Option.bind_some, n_figs6 (hg.ok hbl), Option.bind_some, c2, Option.bind_some, c3, c4, n_1p, gx_n (by omega) (by omega), nI_clamp (by omega), hM.2.1 b' hbl, n_num8 (hg.ok hbl), Option.bind_some]
    unfold fX8_answer
    rw [Option.bind_some]
    exact ⟨_, _, rfl, rfl, rfl, rfl⟩
