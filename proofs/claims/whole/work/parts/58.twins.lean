/-! twins: what keys have behind a path, with their values -/
theorem kun_in {l : KL} (hg : kgood l) {P : Nat} (hP : wok P) {k : Nat} (hk : k < l.length) : whead P (kW l k) ↔ ah P l ≤ k ∧ k < ah P l + kun l P := by
  have key : ∀ (m i : Nat), l.length - i = m → ah P l ≤ i → i ≤ l.length → (∀ k, ah P l ≤ k → k < i → whead P (kW l k)) → ∃ r, isEn l P r := by
    intro m
    induction m with
    | zero => intro i h1 h2 h3 h4; exact ⟨i, h2, h3, h4, fun q => by omega⟩
    | succ m ih =>
      intro i h1 h2 h3 h4
      by_cases c : whead P (kW l i)
      · refine ih (i + 1) (by omega) (by omega) (by omega) (fun k q1 q2 => ?_)
        rcases Nat.lt_or_ge k i with q | q
        · exact h4 k q1 q
        · rw [show k = i by omega]; exact c
      · exact ⟨i, h2, h3, h4, fun _ => c⟩
  obtain ⟨r, hr⟩ := key (l.length - ah P l) (ah P l) rfl (Nat.le_refl _) (ah_le P l) (fun k q1 q2 => by omega)
  have e := isEn_kun hg hP hr
  rw [← e]
  exact isEn_iff hg hP hr hk
theorem wtl_ok {W k : Nat} (hW : wok W) : wok (wtl W k) := by
  have := wok_len hW
  exact wmk_ok (by omega) (Nat.mod_lt _ (Nat.pow_pos (by decide)))
theorem wtl_len {W k : Nat} (hW : wok W) : wtl W k % 8 = W % 8 - k := by
  have := wok_len hW
  exact wmk_len (by omega)
theorem wtl_fig {W k : Nat} (hW : wok W) (hk : k < W % 8) : wfg (wtl W k) 0 = wfg W k := by
  have hl := wok_len hW
  unfold wfg
  have e1 : wpre (wtl W k) (0 + 1) = wpre W (W % 8) % 16 ^ (W % 8 - k) / 16 ^ (W % 8 - k - 1) := by
    rw [wpre_le (show W % 8 - k ≤ 6 by omega) (show 0 + 1 ≤ W % 8 - k by omega)]
    unfold wtl
    rw [wmk_pre (by omega)]
  have e2 : wpre W (k + 1) = wpre W (W % 8) / 16 ^ (W % 8 - k - 1) := by
    rw [wpre_le hl (show k + 1 ≤ W % 8 by omega), show W % 8 - (k + 1) = W % 8 - k - 1 by omega]
  have e3 : (16 : Nat) ^ (W % 8 - k) = 16 ^ (W % 8 - k - 1) * 16 := by
    rw [← Nat.pow_succ]
    exact congrArg (fun z => 16 ^ z) (by omega)
  rw [e1, e2, e3, Nat.mod_mul_right_div_self, Nat.mod_mod]
def twL (l : KL) (q : Nat) : List (Nat × Nat) := (List.range (kun l q)).map (fun i => (wtl (kW l (ah q l + i)) (q % 8), kV l (ah q l + i)))
theorem twL_len (l : KL) (q : Nat) : (twL l q).length = kun l q := by
  unfold twL; rw [List.length_map, List.length_range]
theorem twL_at {l : KL} {q i : Nat} (h : i < kun l q) : (twL l q)[i]? = some (wtl (kW l (ah q l + i)) (q % 8), kV l (ah q l + i)) := by
  unfold twL
  rw [List.getElem?_map, List.getElem?_range h]
  rfl
theorem twL_iff {l : KL} {q q' : Nat} : twL l q = twL l q' ↔ kun l q = kun l q' ∧ ∀ i, i < kun l q → wtl (kW l (ah q l + i)) (q % 8) = wtl (kW l (ah q' l + i)) (q' % 8) ∧ kV l (ah q l + i) = kV l (ah q' l + i) := by
  constructor
  · intro h
    have h1 : kun l q = kun l q' := by rw [← twL_len, ← twL_len, h]
    refine ⟨h1, fun i hi => ?_⟩
    have h2 := twL_at hi
    rw [h, twL_at (by omega)] at h2
    have h3 := Option.some.inj h2
    exact ⟨(congrArg Prod.fst h3).symm, (congrArg Prod.snd h3).symm⟩
  · intro ⟨h1, h2⟩
    apply List.ext_getElem?
    intro i
    by_cases c : i < kun l q
    · rw [twL_at c, twL_at (by omega), (h2 i c).1, (h2 i c).2]
    · rw [List.getElem?_eq_none (by rw [twL_len]; omega), List.getElem?_eq_none (by rw [twL_len]; omega)]
/-- alike ones have the same children -/
theorem twL_kid {l : KL} (hg : kgood l) {q q' : Nat} (hq : wok q) (hq' : wok q') (h : twL l q = twL l q') : msk (kid l q) 16 = msk (kid l q') 16 := by
  have half : ∀ q q', wok q → wok q' → twL l q = twL l q' → ∀ f, kid l q f = true → kid l q' f = true := fun q q' hq hq' h f hf => by
    obtain ⟨h1, h2⟩ := twL_iff.mp h
    obtain ⟨k, hk, g1, g2, g3⟩ := kid_iff.mp hf
    have hin := (kun_in hg hq hk).mp g1
    have e := h2 (k - ah q l) (by omega)
    rw [show ah q l + (k - ah q l) = k by omega] at e
    have hle := kun_le hg hq'
    have hk' : ah q' l + (k - ah q l) < l.length := by omega
    have hw' := (kun_in hg hq' hk').mpr ⟨by omega, by omega⟩
    have hkk := hg.ok hk
    have hkk' := hg.ok hk'
    have l1 := wtl_len (k := q % 8) hkk
    have l2 := wtl_len (k := q' % 8) hkk'
    rw [e.1] at l1
    have g2' : q' % 8 < kW l (ah q' l + (k - ah q l)) % 8 := by omega
    refine kid_iff.mpr ⟨_, hk', hw', g2', ?_⟩
    rw [← wtl_fig hkk' g2', ← e.1, wtl_fig hkk g2]
    exact g3
  refine bits_ext (msk_lt _ 16) (msk_lt _ 16) (fun f hf => ?_)
  rw [msk_bit, msk_bit]
  congr 1
  apply Bool.eq_iff_iff.mpr
  exact ⟨half q q' hq hq' h f, half q' q hq' hq h.symm f⟩
theorem kun_pos {l : KL} (hg : kgood l) {q : Nat} (h : isN l q) : 0 < kun l q := by
  obtain ⟨i, hi, hw, -⟩ := isN_adj hg h
  have := (kun_in hg h.1 (show i < l.length by omega)).mp hw
  omega
/-! the class's test -/
theorem n_tw_L {l : KL} {sz : Int32} {w v : Nat → Int32} (hC : keyC l sz w v) (hg : kgood l) {q q' d e : Nat} {Fr : Nat → Int32} (hq : wok q) (hq' : wok q') (hd : d < 48) (he : e < 48) (hFd : Fr d = nI (ah q l)) (hFe : Fr e = nI (ah q' l)) (hn : kun l q = kun l q') : ∀ (m F i : Nat), kun l q - i = m → m < F → i ≤ kun l q → (∀ j, j < i → wtl (kW l (ah q l + j)) (q % 8) = wtl (kW l (ah q' l + j)) (q' % 8) ∧ kV l (ah q l + j) = kV l (ah q' l + j)) → fX3_areTwins_L75 (nI (kun l q)) (nI d) Fr (nI e) sz v w (nI (q % 8)) (nI (q' % 8)) F (nI i) = some (if twL l q = twL l q' then 1 else 0)
  | m, 0, i, _, hF, _, _ => absurd hF (Nat.not_lt_zero m)
  | m, F + 1, i, hm, hF, hi, hk => by
    have h48 := hg.1
    have k1 := kun_le hg hq
    have k2 := kun_le hg hq'
    rw [fX3_areTwins_L75]
    by_cases c : i < kun l q
    · have b1 : ah q l + i < l.length := by omega
      have b2 : ah q' l + i < l.length := by omega
      have w1 := (kun_in hg hq b1).mpr ⟨by omega, by omega⟩
      have w2 := (kun_in hg hq' b2).mpr ⟨by omega, by omega⟩
      have v1 := (hg.2.1 _ b1).2.2
      have v2 := (hg.2.1 _ b2).2.2
      have t1 := wok_lt (wtl_ok (k := q % 8) (hg.ok b1))
      have t2 := wok_lt (wtl_ok (k := q' % 8) (hg.ok b2))
      rw [if_neg (nI_ge c (by omega)), gx_n hd (by omega), gl_eq, gx_n he (by omega), gl_eq, nI_clamp (show d < 2 ^ 31 by omega), nI_clamp (show e < 2 ^ 31 by omega), hFd, hFe, nI_add, nI_add, n_value6 hC hg b1, Option.bind_some, n_value6 hC hg b2, Option.bind_some]
      by_cases c1 : kV l (ah q l + i) = kV l (ah q' l + i)
      · rw [if_pos (by rw [c1]), n_wordAt6 hC hg b1, Option.bind_some, n_tail (hg.ok b1) w1.1, Option.bind_some, n_wordAt6 hC hg b2, Option.bind_some, n_tail (hg.ok b2) w2.1, Option.bind_some]
        by_cases c2 : wtl (kW l (ah q l + i)) (q % 8) = wtl (kW l (ah q' l + i)) (q' % 8)
        · rw [if_pos (by rw [c2]), gl_eq, nI_1]
          refine n_tw_L hC hg hq hq' hd he hFd hFe hn (m - 1) F (i + 1) (by omega) (by omega) c (fun j hj => ?_)
          rcases Nat.lt_or_ge j i with z | z
          · exact hk j z
          · rw [show j = i by omega]; exact ⟨c2, c1⟩
        · rw [if_neg (fun z => c2 ((nI_eq (by omega) (by omega)).mp z)), if_neg (fun z => c2 ((twL_iff.mp z).2 i c).1)]
      · rw [if_neg (fun z => c1 ((nI_eq (by omega) (by omega)).mp z)), if_neg (fun z => c1 ((twL_iff.mp z).2 i c).2)]
    · rw [if_pos (nI_le (by omega) (by omega)), if_pos (twL_iff.mpr ⟨hn, fun j hj => hk j (by omega)⟩)]
theorem n_tw {l : KL} {sz : Int32} {w v : Nat → Int32} (hC : keyC l sz w v) (hg : kgood l) {ns : List Nat} {r : NT} (h : nodesC l ns r) {d e : Nat} (hd : d < ns.length) (he : e < ns.length) : fX3_areTwins (nI d) (nI e) r.1 r.2.2.2.2.2.1 r.2.2.2.2.1 r.2.2.2.2.2.2 r.2.1 sz v w = some (if twL l (ns.getD d 0) = twL l (ns.getD e 0) then 1 else 0) := by
  have hl := h.2.2.2
  have h48 := hg.1
  have hq := (nC_isN h hd).1
  have hq' := (nC_isN h he).1
  have k1 := kun_le hg hq
  have k2 := kun_le hg hq'
  unfold fX3_areTwins
  rw [n_below6 h hd, Option.bind_some, n_isSeat (nC_size h) hl hd, Option.bind_some, if_neg (show ¬ (1 : Int32) = 0 by decide), n_isSeat (nC_size h) hl he, Option.bind_some, if_neg (show ¬ (1 : Int32) = 0 by decide), n_below6 h he, Option.bind_some]
  by_cases c : kun l (ns.getD d 0) = kun l (ns.getD e 0)
  · have m1 := msk_lt (kid l (ns.getD d 0)) 16
    have m2 := msk_lt (kid l (ns.getD e 0)) 16
    rw [if_pos (by rw [c]), gx_n (by omega) (by omega), gx_n (by omega) (by omega), nI_clamp (show d < 2 ^ 31 by omega), nI_clamp (show e < 2 ^ 31 by omega), (nC_at h hd).2.2.2.2.2, (nC_at h he).2.2.2.2.2]
    by_cases c2 : msk (kid l (ns.getD d 0)) 16 = msk (kid l (ns.getD e 0)) 16
    · rw [if_pos (by rw [c2]), gx_n (by omega) (by omega), (nC_at h hd).1, n_len6 (wok_lt hq), Option.bind_some, gx_n (by omega) (by omega), (nC_at h he).1, n_len6 (wok_lt hq'), Option.bind_some]
      have e0 := n_tw_L hC hg hq hq' (Fr := r.2.2.2.2.1) (show d < 48 by omega) (show e < 48 by omega) (nC_at h hd).2.2.2.1 (nC_at h he).2.2.2.1 c (kun l (ns.getD d 0)) gF 0 (Nat.sub_zero _) (by unfold gF; omega) (Nat.zero_le _) (fun j hj => absurd hj (Nat.not_lt_zero j))
      rw [nI_0] at e0
      exact e0
    · rw [if_neg (fun z => c2 ((nI_eq (by omega) (by omega)).mp z)), if_neg (fun z => c2 (twL_kid hg hq hq' z))]
  · rw [if_neg (fun z => c ((nI_eq (by omega) (by omega)).mp z)), if_neg (fun z => c (twL_iff.mp z).1)]
/-! the reference's test -/
theorem n_fu_L {l : KL} {t : Nat → Int32} (hM : keyM l t) (hg : kgood l) {q : Nat} (hq : wok q) (hp : 0 < kun l q) : ∀ (m F i : Nat), ah q l - i = m → m < F → i ≤ ah q l → fX8_firstUnder_L2 t (nI q) F (nI i) = some (nI (ah q l))
  | m, 0, i, _, hF, _ => absurd hF (Nat.not_lt_zero m)
  | m, F + 1, i, hm, hF, hi => by
    have h48 := hg.1
    have k1 := kun_le hg hq
    have hil : i < l.length := by omega
    rw [fX8_firstUnder_L2, n_1p, gx_n (by omega) (by omega), nI_clamp (by omega), hM.2.1 i hil, n_begins hq (hg.ok hil), Option.bind_some]
    by_cases c : i = ah q l
    · have hw := (kun_in hg hq hil).mpr ⟨by omega, by omega⟩
      rw [if_pos hw, if_neg (show ¬ (1 : Int32) = 0 by decide), c]
    · have hw : ¬ whead q (kW l i) := fun z => by have := (kun_in hg hq hil).mp z; omega
      rw [if_neg hw, if_pos (show (0 : Int32) = 0 from rfl), gl_eq, nI_1]
      exact n_fu_L hM hg hq hp (m - 1) F (i + 1) (by omega) (by omega) (by omega)
theorem n_fu {l : KL} {t : Nat → Int32} (hM : keyM l t) (hg : kgood l) {q : Nat} (hq : wok q) (hp : 0 < kun l q) : fX8_firstUnder (nI q) t = some (nI (ah q l)) := by
  have h48 := hg.1
  have k1 := ah_le q l
  have e := n_fu_L hM hg hq hp (ah q l) gF 0 (Nat.sub_zero _) (by unfold gF; omega) (Nat.zero_le _)
  rw [nI_0] at e
  unfold fX8_firstUnder
  rw [e]
  rfl
theorem n_al_L {l : KL} {t : Nat → Int32} (hM : keyM l t) (hg : kgood l) {q q' : Nat} (hq : wok q) (hq' : wok q') (hn : kun l q = kun l q') : ∀ (m F i : Nat), kun l q - i = m → m < F → i ≤ kun l q → (∀ j, j < i → wtl (kW l (ah q l + j)) (q % 8) = wtl (kW l (ah q' l + j)) (q' % 8) ∧ kV l (ah q l + j) = kV l (ah q' l + j)) → fX8_areAlike_L45 (nI (kun l q)) (nI (ah q l)) (nI q) t (nI (ah q' l)) (nI q') F (1 : Int32) (nI i) = some (if twL l q = twL l q' then 1 else 0)
  | m, 0, i, _, hF, _, _ => absurd hF (Nat.not_lt_zero m)
  | m, F + 1, i, hm, hF, hi, hk => by
    have h48 := hg.1
    have k1 := kun_le hg hq
    have k2 := kun_le hg hq'
    rw [fX8_areAlike_L45]
    by_cases c : i < kun l q
    · have b1 : ah q l + i < l.length := by omega
      have b2 : ah q' l + i < l.length := by omega
      have w1 := (kun_in hg hq b1).mpr ⟨by omega, by omega⟩
      have w2 := (kun_in hg hq' b2).mpr ⟨by omega, by omega⟩
      have v1 := (hg.2.1 _ b1).2.2
      have v2 := (hg.2.1 _ b2).2.2
      have t1 := wok_lt (wtl_ok (k := q % 8) (hg.ok b1))
      have t2 := wok_lt (wtl_ok (k := q' % 8) (hg.ok b2))
      have g1 : (1 : Int32) + nI (ah q l) + nI i = nI (1 + (ah q l + i)) := by rw [n_1p, nI_add]; exact congrArg nI (by omega)
      have g2 : (1 : Int32) + nI (ah q' l) + nI i = nI (1 + (ah q' l + i)) := by rw [n_1p, nI_add]; exact congrArg nI (by omega)
      have g3 : (49 : Int32) + nI (ah q l) + nI i = nI (49 + (ah q l + i)) := by rw [n_49p, nI_add]; exact congrArg nI (by omega)
      have g4 : (49 : Int32) + nI (ah q' l) + nI i = nI (49 + (ah q' l + i)) := by rw [n_49p, nI_add]; exact congrArg nI (by omega)
      rw [if_neg (nI_ge c (by omega)), if_neg (show ¬ (1 : Int32) = 0 by decide), g1, g2, g3, g4, gx_n (by omega) (by omega), n_len8 (wok_lt hq), Option.bind_some, nI_clamp (show 1 + (ah q l + i) < 2 ^ 31 by omega), hM.2.1 _ b1, n_behind (hg.ok b1) w1.1, Option.bind_some, gx_n (by omega) (by omega), n_len8 (wok_lt hq'), Option.bind_some, nI_clamp (show 1 + (ah q' l + i) < 2 ^ 31 by omega), hM.2.1 _ b2, n_behind (hg.ok b2) w2.1, Option.bind_some]
      by_cases c2 : wtl (kW l (ah q l + i)) (q % 8) = wtl (kW l (ah q' l + i)) (q' % 8)
      · rw [if_pos (by rw [c2]), gx_n (by omega) (by omega), gx_n (by omega) (by omega), nI_clamp (show 49 + (ah q l + i) < 2 ^ 31 by omega), nI_clamp (show 49 + (ah q' l + i) < 2 ^ 31 by omega), hM.2.2 _ b1, hM.2.2 _ b2]
        by_cases c1 : kV l (ah q l + i) = kV l (ah q' l + i)
        · rw [if_pos (show nI (kV l (ah q l + i)) = nI (kV l (ah q' l + i)) by rw [c1]), Option.bind_some, gl_eq, nI_1]
          refine n_al_L hM hg hq hq' hn (m - 1) F (i + 1) (by omega) (by omega) c (fun j hj => ?_)
          rcases Nat.lt_or_ge j i with z | z
          · exact hk j z
          · rw [show j = i by omega]; exact ⟨c2, c1⟩
        · rw [if_neg (show ¬ nI (kV l (ah q l + i)) = nI (kV l (ah q' l + i)) from fun z => c1 ((nI_eq (by omega) (by omega)).mp z)), Option.bind_some, gl_eq, nI_1, if_neg (show ¬ twL l q = twL l q' from fun z => c1 ((twL_iff.mp z).2 i c).2)]
          obtain ⟨F2, rfl⟩ : ∃ F2, F = F2 + 1 := ⟨F - 1, by omega⟩
          rw [fX8_areAlike_L45]
          by_cases z : nI (kun l q) ≤ nI (i + 1)
          · rw [if_pos z]
          · rw [if_neg z, if_pos rfl]
      · rw [if_neg (show ¬ nI (wtl (kW l (ah q l + i)) (q % 8)) = nI (wtl (kW l (ah q' l + i)) (q' % 8)) from fun z => c2 ((nI_eq (by omega) (by omega)).mp z)), Option.bind_some, gl_eq, nI_1, if_neg (show ¬ twL l q = twL l q' from fun z => c2 ((twL_iff.mp z).2 i c).1)]
        obtain ⟨F2, rfl⟩ : ∃ F2, F = F2 + 1 := ⟨F - 1, by omega⟩
        rw [fX8_areAlike_L45]
        by_cases z : nI (kun l q) ≤ nI (i + 1)
        · rw [if_pos z]
        · rw [if_neg z, if_pos rfl]
    · rw [if_pos (nI_le (by omega) (by omega)), if_pos (twL_iff.mpr ⟨hn, fun j hj => hk j (by omega)⟩)]
theorem n_al {l : KL} {t : Nat → Int32} (hM : keyM l t) (hg : kgood l) {q q' : Nat} (hq : isN l q) (hq' : isN l q') : fX8_areAlike (nI q) (nI q') t = some (if twL l q = twL l q' then 1 else 0) := by
  have h48 := hg.1
  have k1 := kun_le hg hq.1
  have k2 := kun_le hg hq'.1
  have gzz : ∀ b : Prop, ∀ [Decidable b], gz (if b then (1 : Int32) else 0) (some (if b then (1 : Int32) else 0)) = some (if b then 1 else 0) := fun b _ => by
    unfold gz
    by_cases c : b
    · rw [if_pos c, if_pos (Or.inr rfl)]
    · rw [if_neg c, if_pos (Or.inl rfl)]
  unfold fX8_areAlike
  rw [n_und8 hM hg hq.1, Option.bind_some, n_und8 hM hg hq'.1, Option.bind_some, n_fu hM hg hq.1 (kun_pos hg hq), n_fu hM hg hq'.1 (kun_pos hg hq')]
  by_cases c : kun l q = kun l q'
  · have e := n_al_L hM hg hq.1 hq'.1 c (kun l q) gF 0 (Nat.sub_zero _) (by unfold gF; omega) (Nat.zero_le _) (fun j hj => absurd hj (Nat.not_lt_zero j))
    rw [nI_0] at e
    rw [if_pos (show nI (kun l q) = nI (kun l q') by rw [c]), Option.bind_some, Option.bind_some, Option.bind_some, e, Option.bind_some, gzz]
  · have e : ∀ a1 a2 : Int32, fX8_areAlike_L45 (nI (kun l q)) a1 (nI q) t a2 (nI q') gF (0 : Int32) (0 : Int32) = some 0 := fun a1 a2 => by
      rw [show gF = 19999 + 1 from rfl, fX8_areAlike_L45]
      by_cases z : nI (kun l q) ≤ 0
      · rw [if_pos z]
      · rw [if_neg z, if_pos rfl]
    rw [if_neg (show ¬ nI (kun l q) = nI (kun l q') from fun z => c ((nI_eq (by omega) (by omega)).mp z)), Option.bind_some, Option.bind_some, Option.bind_some, e, Option.bind_some, if_neg (show ¬ twL l q = twL l q' from fun z => c (twL_iff.mp z).1)]
    unfold gz
    rw [if_pos (Or.inl rfl)]
