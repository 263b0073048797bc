/-! a key taken out: what it does to the nodes -/
/-- a word goes on behind q with figure f -/
abbrev goW (q f W : Nat) : Prop := whead q W ∧ q % 8 < W % 8 ∧ wfg W (q % 8) = f
theorem del_ex {l : KL} {k : Nat} (hk : k < l.length) (φ : Nat → Prop) : (∃ i, i < (kdel l k 1).length ∧ φ (kW (kdel l k 1) i)) ↔ ∃ i, i < l.length ∧ i ≠ k ∧ φ (kW l i) := by
  have hl := kdel_len (l := l) (p := k) (m := 1) (by omega)
  rw [hl]
  constructor
  · rintro ⟨i, h1, h2⟩
    rw [kW_del 1 (by omega)] at h2
    by_cases c : i < k
    · rw [if_pos c] at h2; exact ⟨i, by omega, by omega, h2⟩
    · rw [if_neg c] at h2; exact ⟨i + 1, by omega, by omega, h2⟩
  · rintro ⟨i, h1, h2, h3⟩
    by_cases c : i < k
    · refine ⟨i, by omega, ?_⟩
      rw [kW_del 1 (by omega), if_pos c]; exact h3
    · refine ⟨i - 1, by omega, ?_⟩
      rw [kW_del 1 (by omega), if_neg (by omega), show i - 1 + 1 = i by omega]; exact h3
theorem del_kid {l : KL} {k : Nat} (hk : k < l.length) {q f : Nat} : kid (kdel l k 1) q f = true ↔ ∃ i, i < l.length ∧ i ≠ k ∧ goW q f (kW l i) := by
  rw [kid_iff]; exact del_ex hk (goW q f)
theorem del_kH {l : KL} (hg : kgood l) {k : Nat} (hk : k < l.length) {q : Nat} : kH (kdel l k 1) q ↔ ∃ i, i < l.length ∧ i ≠ k ∧ kW l i = q := by
  rw [kH_iff (kdel_good hg (by omega))]; exact del_ex hk (fun x => x = q)
theorem del_nk_le {l : KL} {k : Nat} (hk : k < l.length) (q : Nat) : nk (kdel l k 1) q ≤ nk l q :=
  fb_ct_sub (fun f _ hf => by
    obtain ⟨i, h1, -, h3⟩ := (del_kid hk).mp hf
    exact kid_iff.mpr ⟨i, h1, h3⟩)
theorem del_bn_le {l : KL} (hg : kgood l) {k : Nat} (hk : k < l.length) (q : Nat) : bn (kdel l k 1) q ≤ bn l q := by
  have h1 := del_nk_le hk q
  unfold bn
  by_cases c : kH (kdel l k 1) q
  · obtain ⟨i, z1, -, z3⟩ := (del_kH hg hk).mp c
    rw [if_pos c, if_pos ((kH_iff hg).mpr ⟨i, z1, z3⟩)]; omega
  · rw [if_neg c]; omega
/-- two keys part at a node -/
theorem two_isN {l : KL} (hg : kgood l) {i j : Nat} (hi : i < l.length) (hj : j < l.length) (hij : i ≠ j) : isN l (whd (kW l i) (wlcp (kW l i) (kW l j))) := by
  have hA := hg.ok hi
  have hB := hg.ok hj
  obtain ⟨q1, q2, q3, q4⟩ := wlcp_spec hA hB
  have hl := wok_len hA
  have hfig := fun a b => wlcp_fig hA hB a b
  generalize wlcp (kW l i) (kW l j) = L at q1 q2 q3 q4 hfig
  have hq : whd (kW l i) L % 8 = L := whd_len (by omega)
  have hqA : whead (whd (kW l i) L) (kW l i) := whd_head hA q1
  have hqB : whead (whd (kW l i) L) (kW l j) := ⟨by rw [hq]; exact q2, by rw [hq, whd_pre (by omega) (Nat.le_refl _)]; exact q3⟩
  have hne : kW l i ≠ kW l j := fun e => hij (hg.inj hi hj e)
  refine ⟨whd_ok (wok_lt hA) (by omega), ?_⟩
  have fi : wfg (kW l i) L < 16 := wfg_lt _ _
  have fj : wfg (kW l j) L < 16 := wfg_lt _ _
  unfold bn nk
  rcases Nat.lt_or_ge L (kW l i % 8) with ci | ci
  · have ki : kid l (whd (kW l i) L) (wfg (kW l i) L) = true := kid_iff.mpr ⟨i, hi, hqA, by rw [hq]; exact ci, by rw [hq]⟩
    rcases Nat.lt_or_ge L (kW l j % 8) with cj | cj
    · have kj : kid l (whd (kW l i) L) (wfg (kW l j) L) = true := kid_iff.mpr ⟨j, hj, hqB, by rw [hq]; exact cj, by rw [hq]⟩
      have hf := hfig ci cj
      rcases Nat.lt_or_ge (wfg (kW l i) L) (wfg (kW l j) L) with z | z
      · have := ct_two z fj ki kj; omega
      · have := ct_two (show wfg (kW l j) L < wfg (kW l i) L by omega) fi kj ki; omega
    · have e : whd (kW l i) L = kW l j := wok_inj (whd_ok (wok_lt hA) (by omega)) hB (by omega) (by rw [hq, whd_pre (by omega) (Nat.le_refl _)]; exact q3)
      have hk : kH l (whd (kW l i) L) := (kH_iff hg).mpr ⟨j, hj, e.symm⟩
      rw [if_pos hk]
      have := ct_one fi ki
      omega
  · have eL : L = kW l i % 8 := by omega
    have e : whd (kW l i) L = kW l i := by rw [eL]; exact whd_self hA
    have hk : kH l (whd (kW l i) L) := (kH_iff hg).mpr ⟨i, hi, e.symm⟩
    rcases Nat.lt_or_ge L (kW l j % 8) with cj | cj
    · have kj : kid l (whd (kW l i) L) (wfg (kW l j) L) = true := kid_iff.mpr ⟨j, hj, hqB, by rw [hq]; exact cj, by rw [hq]⟩
      rw [if_pos hk]
      have := ct_one fj kj
      omega
    · exact absurd (wok_inj hA hB (by omega) (by rw [← eL]; exact q3)) hne
/-- two heads of a word: the shorter is a head of the other -/
theorem head_head {P Q W : Nat} (hP : wok P) (hQ : wok Q) (h1 : whead P W) (h2 : whead Q W) (hl : P % 8 ≤ Q % 8) : whead P Q := by
  refine ⟨hl, ?_⟩
  rw [h1.2]
  exact (wpre_down (wok_len hQ) hl h2.2).symm
theorem heads_eq {P Q W : Nat} (hP : wok P) (hQ : wok Q) (h1 : whead P W) (h2 : whead Q W) (hl : P % 8 = Q % 8) : P = Q := by
  rw [← head_whd hP h1, ← head_whd hQ h2, hl]
/-- a node that is not the lowest over the key stays as it is -/
theorem del_other {l : KL} (hg : kgood l) {k : Nat} (hk : k < l.length) {q : Nat} (hq : isN l q) (hlow : whead q (kW l k) → ∃ P, isN l P ∧ whead P (kW l k) ∧ q % 8 < P % 8) : nk (kdel l k 1) q = nk l q ∧ bn (kdel l k 1) q = bn l q := by
  have e1 : nk (kdel l k 1) q = nk l q := by
    unfold nk
    refine fb_ct_cong (fun f hf => Bool.eq_iff_iff.mpr ⟨fun z => ?_, fun z => ?_⟩)
    · obtain ⟨i, h1, -, h3⟩ := (del_kid hk).mp z
      exact kid_iff.mpr ⟨i, h1, h3⟩
    · obtain ⟨i, h1, h3⟩ := kid_iff.mp z
      by_cases c : i = k
      · subst c
        obtain ⟨P, p1, p2, p3⟩ := hlow h3.1
        have hqP := head_head hq.1 p1.1 h3.1 p2 (by omega)
        -- another key below P
        have hj : ∃ j, j < l.length ∧ j ≠ i ∧ whead P (kW l j) := by
          obtain ⟨a, ha, w1, w2, -⟩ := isN_adj hg p1
          by_cases ca : a = i
          · exact ⟨a + 1, ha, by omega, w2⟩
          · exact ⟨a, by omega, ca, w1⟩
        obtain ⟨j, j1, j2, j3⟩ := hj
        have fg : ∀ W, whead P W → wfg W (q % 8) = wfg P (q % 8) := fun W hw => by
          unfold wfg
          rw [wpre_down (wok_len p1.1) (show q % 8 + 1 ≤ P % 8 by omega) hw.2]
        refine (del_kid hk).mpr ⟨j, j1, j2, whead_trans p1.1 hqP j3, by have := j3.1; omega, ?_⟩
        rw [fg _ j3, ← fg _ p2]
        exact h3.2.2
      · exact (del_kid hk).mpr ⟨i, h1, c, h3⟩
  refine ⟨e1, ?_⟩
  unfold bn
  rw [e1]
  congr 1
  have e2 : kH (kdel l k 1) q ↔ kH l q := by
    rw [del_kH hg hk, kH_iff hg]
    constructor
    · rintro ⟨i, h1, -, h3⟩; exact ⟨i, h1, h3⟩
    · rintro ⟨i, h1, h3⟩
      refine ⟨i, h1, fun c => ?_, h3⟩
      subst c
      obtain ⟨P, p1, p2, p3⟩ := hlow (by rw [h3]; exact whead_rfl q)
      have := p2.1
      rw [h3] at this
      omega
  by_cases c : kH l q
  · rw [if_pos (e2.mpr c), if_pos c]
  · rw [if_neg (fun z => c (e2.mp z)), if_neg c]
/-- the lowest node over the key -/
theorem del_low {l : KL} (hg : kgood l) {k : Nat} (hk : k < l.length) {P : Nat} (hP : isN l P) (hw : whead P (kW l k)) (hlow : ∀ Q, isN l Q → whead Q (kW l k) → Q % 8 ≤ P % 8) : nk (kdel l k 1) P + (if kW l k = P then 0 else 1) = nk l P ∧ (kH (kdel l k 1) P ↔ kH l P ∧ kW l k ≠ P) := by
  have hK := hg.ok hk
  constructor
  · by_cases c : kW l k = P
    · rw [if_pos c, Nat.add_zero]
      unfold nk
      refine fb_ct_cong (fun f hf => Bool.eq_iff_iff.mpr ⟨fun z => ?_, fun z => ?_⟩)
      · obtain ⟨i, h1, -, h3⟩ := (del_kid hk).mp z
        exact kid_iff.mpr ⟨i, h1, h3⟩
      · obtain ⟨i, h1, h3⟩ := kid_iff.mp z
        refine (del_kid hk).mpr ⟨i, h1, fun ce => ?_, h3⟩
        subst ce
        have := h3.2.1
        rw [c] at this
        omega
    · rw [if_neg c]
      have hlt := head_lt hP.1 hK hw (fun e => c e.symm)
      have hf : wfg (kW l k) (P % 8) < 16 := wfg_lt _ _
      have kt : kid l P (wfg (kW l k) (P % 8)) = true := kid_iff.mpr ⟨k, hk, hw, hlt, rfl⟩
      have e : nk (kdel l k 1) P = fb_ct (fun f => if f = wfg (kW l k) (P % 8) then false else kid l P f) 16 := by
        unfold nk
        refine fb_ct_cong (fun f hf16 => Bool.eq_iff_iff.mpr ⟨fun z => ?_, fun z => ?_⟩)
        · obtain ⟨i, h1, h2, h3⟩ := (del_kid hk).mp z
          rw [if_neg]
          · exact kid_iff.mpr ⟨i, h1, h3⟩
          · intro ef
            -- then the two keys part at a longer node
            have hN := two_isN hg hk h1 (fun z2 => h2 z2.symm)
            have hI := hg.ok h1
            obtain ⟨q1, q2, q3, q4⟩ := wlcp_spec hK hI
            have hl6 := wok_len hK
            have hle := q4 (P % 8 + 1) hlt h3.2.1 (by
              rw [wpre_succ (by omega), wpre_succ (by omega), ← hw.2, ← h3.1.2, h3.2.2, ef])
            have hhd := whd_head hK q1
            have := hlow _ hN hhd
            rw [whd_len (by omega)] at this
            omega
        · by_cases ef : f = wfg (kW l k) (P % 8)
          · rw [if_pos ef] at z; cases z
          · rw [if_neg ef] at z
            obtain ⟨i, h1, h3⟩ := kid_iff.mp z
            refine (del_kid hk).mpr ⟨i, h1, fun ce => ?_, h3⟩
            subst ce
            exact ef h3.2.2.symm
      have u := fb_ct_upd (kid l P) false hf
      rw [kt] at u
      simp only [if_true, Bool.false_eq_true, if_false, Nat.add_zero] at u
      rw [e]
      exact u
  · rw [del_kH hg hk, kH_iff hg]
    constructor
    · rintro ⟨i, h1, h2, h3⟩
      refine ⟨⟨i, h1, h3⟩, fun e => h2 (hg.inj h1 hk (h3.trans e.symm))⟩
    · rintro ⟨⟨i, h1, h3⟩, h4⟩
      exact ⟨i, h1, fun ce => h4 (by rw [← ce]; exact h3), h3⟩
/-! sums over the nodes -/
theorem sum_filter (p : Nat → Bool) (f : Nat → Nat) : ∀ xs : List Nat, ((xs.filter p).map f).sum = (xs.map (fun q => if p q = true then f q else 0)).sum
  | [] => rfl
  | x :: t => by
    have ih := sum_filter p f t
    cases hp : p x with
    | true => rw [List.filter_cons_of_pos (by rw [hp]), List.map_cons, List.map_cons, List.sum_cons, List.sum_cons, ih, if_pos hp]
    | false => rw [List.filter_cons_of_neg (by rw [hp]; decide), List.map_cons, List.sum_cons, ih, if_neg (by rw [hp]; decide), Nat.zero_add]
theorem sum_cong {a b : Nat → Nat} : ∀ {xs : List Nat}, (∀ q, q ∈ xs → a q = b q) → (xs.map a).sum = (xs.map b).sum
  | [], _ => rfl
  | x :: t, h => by
    rw [List.map_cons, List.map_cons, List.sum_cons, List.sum_cons, h x List.mem_cons_self, sum_cong (fun q hq => h q (List.mem_cons_of_mem x hq))]
theorem sum_one {a b : Nat → Nat} {P : Nat} : ∀ {xs : List Nat}, xs.Nodup → P ∈ xs → (∀ q, q ∈ xs → q ≠ P → a q = b q) → (xs.map a).sum + b P = (xs.map b).sum + a P
  | [], _, hm, _ => absurd hm List.not_mem_nil
  | x :: t, hn, hm, h => by
    rw [List.nodup_cons] at hn
    rw [List.map_cons, List.map_cons, List.sum_cons, List.sum_cons]
    by_cases c : x = P
    · subst c
      have := sum_cong (a := a) (b := b) (xs := t) (fun q hq => h q (List.mem_cons_of_mem x hq) (fun e => hn.1 (by rw [← e]; exact hq)))
      omega
    · have hm2 : P ∈ t := (List.mem_cons.mp hm).resolve_left (fun e => c e.symm)
      have := sum_one hn.2 hm2 (fun q hq hne => h q (List.mem_cons_of_mem x hq) hne)
      have := h x List.mem_cons_self c
      omega
theorem sum_ge {a : Nat → Nat} {P : Nat} : ∀ {xs : List Nat}, P ∈ xs → a P ≤ (xs.map a).sum
  | [], hm => absurd hm List.not_mem_nil
  | x :: t, hm => by
    rw [List.map_cons, List.sum_cons]
    rcases List.mem_cons.mp hm with e | e
    · rw [e]; omega
    · have := sum_ge (a := a) e; omega
theorem allP_sum (l : KL) : allP l = ((pN l).map (fun q => plc (nk l q))).sum := sm_list (fun q => plc (nk l q)) (pN l)
theorem allP_del {l : KL} (hg : kgood l) {k : Nat} (hk : k < l.length) : allP (kdel l k 1) = ((pN l).map (fun q => if nb (kdel l k 1) q = true then plc (nk (kdel l k 1) q) else 0)).sum := by
  have hg' : kgood (kdel l k 1) := kdel_good hg (by omega)
  rw [allP_sum, ← sum_filter]
  have hp : (pN (kdel l k 1)).Perm ((pN l).filter (nb (kdel l k 1))) := (List.perm_ext_iff_of_nodup (pN_nodup _) ((pN_nodup l).filter _)).mpr (fun q => by
    rw [List.mem_filter, pN_mem hg', pN_mem hg]
    constructor
    · intro z
      exact ⟨⟨z.1, Nat.le_trans z.2 (del_bn_le hg hk q)⟩, (nb_iff z.1).mpr z⟩
    · rintro ⟨z1, z2⟩
      exact (nb_iff z1.1).mp z2)
  exact (hp.map _).sum_nat
theorem del_same {l : KL} (hg : kgood l) {k : Nat} (hk : k < l.length) {q : Nat} (hq : isN l q) (hlow : whead q (kW l k) → ∃ P, isN l P ∧ whead P (kW l k) ∧ q % 8 < P % 8) : (if nb (kdel l k 1) q = true then plc (nk (kdel l k 1) q) else 0) = plc (nk l q) := by
  obtain ⟨h1, h2⟩ := del_other hg hk hq hlow
  have h3 : nb (kdel l k 1) q = true := by
    unfold nb
    rw [decide_eq_true_iff, h2]
    exact hq.2
  rw [if_pos h3, h1]
theorem allP_none {l : KL} (hg : kgood l) {k : Nat} (hk : k < l.length) (h : ∀ q, isN l q → ¬ whead q (kW l k)) : allP (kdel l k 1) = allP l := by
  rw [allP_del hg hk, allP_sum]
  exact sum_cong (fun q hq => by
    have hN := (pN_mem hg q).mp hq
    exact del_same hg hk hN (fun z => absurd z (h q hN)))
theorem plc_mono {a b : Nat} (h : a ≤ b) : plc a ≤ plc b := by
  have : szN a ≤ szN b := by unfold szN; (repeat' split) <;> omega
  exact Nat.pow_le_pow_right (by decide) this
theorem allP_low {l : KL} (hg : kgood l) {k : Nat} (hk : k < l.length) {P : Nat} (hP : isN l P) (hw : whead P (kW l k)) (hlow : ∀ Q, isN l Q → whead Q (kW l k) → Q % 8 ≤ P % 8) : allP (kdel l k 1) + plc (nk l P) = allP l + (if nb (kdel l k 1) P = true then plc (nk (kdel l k 1) P) else 0) ∧ (if nb (kdel l k 1) P = true then plc (nk (kdel l k 1) P) else 0) ≤ plc (nk l P) ∧ plc (nk l P) ≤ allP l := by
  have hm := (pN_mem hg P).mpr hP
  refine ⟨?_, ?_, ?_⟩
  · rw [allP_del hg hk, allP_sum]
    refine sum_one (a := fun q => if nb (kdel l k 1) q = true then plc (nk (kdel l k 1) q) else 0) (b := fun q => plc (nk l q)) (pN_nodup l) hm (fun q hq hne => ?_)
    have hN := (pN_mem hg q).mp hq
    refine del_same hg hk hN (fun z => ⟨P, hP, hw, ?_⟩)
    have h1 := hlow q hN z
    rcases Nat.lt_or_ge (q % 8) (P % 8) with y | y
    · exact y
    · exact absurd (heads_eq hN.1 hP.1 z hw (by omega)) hne
  · have := plc_mono (del_nk_le hk P)
    by_cases c : nb (kdel l k 1) P = true
    · rw [if_pos c]; exact this
    · rw [if_neg c]; exact Nat.zero_le _
  · rw [allP_sum]
    exact sum_ge (a := fun q => plc (nk l q)) hm
theorem allP_le {l : KL} (hg : kgood l) : allP l ≤ 752 := by
  have h := fb_sm_bound (f := fun k => plc (nk l ((pN l).getD k 0))) (c := 16) (n := (pN l).length) (fun k _ => (plc_lt _).2)
  have := pN_len hg
  unfold allP
  omega
