/-! counts over lists that hold the same -/
theorem ct_list (p : Nat → Bool) : ∀ xs : List Nat, fb_ct (fun k => p (xs.getD k 0)) xs.length = xs.countP p
  | [] => rfl
  | x :: t => by
    have h := fb_ct_split (fun k => p ((x :: t).getD k 0)) 1 t.length
    have e : fb_ct (fun k => p ((x :: t).getD (1 + k) 0)) t.length = fb_ct (fun k => p (t.getD k 0)) t.length := fb_ct_cong (fun k _ => by rw [Nat.add_comm 1 k]; rfl)
    rw [List.length_cons, Nat.add_comm t.length 1, h, List.countP_cons, e, ct_list p t, Nat.add_comm]
    have e0 : fb_ct (fun k => p ((x :: t).getD k 0)) 1 = (if p x = true then 1 else 0) := by
      rw [fb_ct_succ]; exact Nat.zero_add _
    rw [e0]
theorem sm_list (f : Nat → Nat) : ∀ xs : List Nat, fb_sm (fun k => f (xs.getD k 0)) xs.length = (xs.map f).sum
  | [] => rfl
  | x :: t => by
    have h := fb_sm_split (fun k => f ((x :: t).getD k 0)) 1 t.length
    have e : fb_sm (fun k => f ((x :: t).getD (1 + k) 0)) t.length = fb_sm (fun k => f (t.getD k 0)) t.length := fb_sm_cong (fun k _ => by rw [Nat.add_comm 1 k]; rfl)
    rw [List.length_cons, Nat.add_comm t.length 1, h, e, sm_list f t, List.map_cons, List.sum_cons]
    have e0 : fb_sm (fun k => f ((x :: t).getD k 0)) 1 = f x := by
      rw [fb_sm_succ]; exact Nat.zero_add _
    rw [e0]
theorem ct_perm {xs ys : List Nat} (h : xs.Perm ys) (p : Nat → Bool) : fb_ct (fun k => p (xs.getD k 0)) xs.length = fb_ct (fun k => p (ys.getD k 0)) ys.length := by
  rw [ct_list, ct_list, h.countP_eq]
theorem sm_perm {xs ys : List Nat} (h : xs.Perm ys) (f : Nat → Nat) : fb_sm (fun k => f (xs.getD k 0)) xs.length = fb_sm (fun k => f (ys.getD k 0)) ys.length := by
  rw [sm_list, sm_list]
  exact (h.map f).sum_nat
theorem lt_nodup {ns : List Nat} (h : ns.Pairwise (· < ·)) : ns.Nodup := List.Pairwise.imp (fun z => Nat.ne_of_lt z) h
theorem nodes_perm {l : KL} (hg : kgood l) {ns : List Nat} {r : NT} (h : nodesC l ns r) : ns.Perm (pN l) :=
  (List.perm_ext_iff_of_nodup (lt_nodup h.2.1) (pN_nodup l)).mpr (fun q => by rw [h.2.2.1, pN_mem hg])
theorem nC_size {l : KL} {ns : List Nat} {r : NT} (h : nodesC l ns r) : r.1 = nI ns.length := by
  have := h.1.1
  rw [Nat.zero_add] at this
  exact this
theorem nC_at {l : KL} {ns : List Nat} {r : NT} (h : nodesC l ns r) {d : Nat} (hd : d < ns.length) : nF l (ns.getD d 0) d r := by
  have := h.1.2 d hd
  rw [Nat.zero_add] at this
  exact this
theorem nC_isN {l : KL} {ns : List Nat} {r : NT} (h : nodesC l ns r) {d : Nat} (hd : d < ns.length) : isN l (ns.getD d 0) := (h.2.2.1 _).mp (getD_mem hd)
/-! the class's nodes, one by one -/
theorem n_seat6_L {ns : List Nat} {z : Int32} {P : Nat → Int32} (hz : z = nI ns.length) (hP : ∀ j, j < ns.length → P j = nI (ns.getD j 0)) (hl : ns.length ≤ 47) (hb : ∀ q ∈ ns, q < 2 ^ 27) {x : Nat} (hx : x < 2 ^ 27) : ∀ (m F i : Nat), ns.length - i = m → m < F → i ≤ ns.length → (∀ j, j < i → ns.getD j 0 ≠ x) → ∃ r, fX3_seatOf_L2 z P (nI x) F (nI i) = some r ∧ ((x ∉ ns ∧ r = -1) ∨ ∃ j, j < ns.length ∧ ns.getD j 0 = x ∧ r = nI j)
  | m, 0, i, _, hF, _, _ => absurd hF (Nat.not_lt_zero m)
  | m, F + 1, i, hm, hF, hi, hk => by
    rw [fX3_seatOf_L2, hz]
    by_cases c : i < ns.length
    · have hq := hb _ (getD_mem c)
      rw [if_neg (nI_ge c (by omega)), gx_n (by omega) (by omega), nI_clamp (by omega), hP i c]
      by_cases c2 : ns.getD i 0 = x
      · rw [if_pos (by rw [c2])]
        exact ⟨_, rfl, Or.inr ⟨i, c, c2, rfl⟩⟩
      · rw [if_neg (fun e => c2 ((nI_eq (by omega) (by omega)).mp e)), gl_eq, nI_1, ← hz]
        refine n_seat6_L hz hP hl hb hx (m - 1) F (i + 1) (by omega) (by omega) c (fun j hj => ?_)
        rcases Nat.lt_or_ge j i with q | q
        · exact hk j q
        · rw [show j = i by omega]; exact c2
    · rw [if_pos (nI_le (by omega) (by omega))]
      refine ⟨_, rfl, Or.inl ⟨fun hm => ?_, rfl⟩⟩
      obtain ⟨j, hj, e⟩ := mem_getD hm
      exact hk j (by omega) e
theorem n_seat6 {l : KL} {ns : List Nat} {r : NT} (h : nodesC l ns r) {x : Nat} (hx : x < 2 ^ 27) : ∃ d, fX3_seatOf (nI x) r.1 r.2.1 = some d ∧ ((x ∉ ns ∧ d = -1) ∨ ∃ j, j < ns.length ∧ ns.getD j 0 = x ∧ d = nI j) := by
  unfold fX3_seatOf
  have := n_seat6_L (nC_size h) (fun j hj => (nC_at h hj).1) h.2.2.2 (fun q hq => wok_lt ((h.2.2.1 q).mp hq).1) hx ns.length gF 0 (Nat.sub_zero _) (by unfold gF; have := h.2.2.2; omega) (Nat.zero_le _) (fun j hj => absurd hj (Nat.not_lt_zero j))
  rw [nI_0] at this
  exact this
theorem n_isSeat {ns : List Nat} {z : Int32} (hz : z = nI ns.length) (hl : ns.length ≤ 47) {d : Nat} (hd : d < ns.length) : fX3_isSeat (nI d) z = some 1 := by
  unfold fX3_isSeat
  rw [if_neg (nI_pos (by omega)), hz, if_neg (nI_ge hd (by omega))]
theorem n_childs6 {l : KL} {ns : List Nat} {r : NT} (h : nodesC l ns r) {d : Nat} (hd : d < ns.length) : fX3_childrenOf (nI d) r.1 r.2.2.2.2.2.2 = some (nI (msk (kid l (ns.getD d 0)) 16)) := by
  have hl := h.2.2.2
  unfold fX3_childrenOf
  rw [n_isSeat (nC_size h) hl hd, Option.bind_some, if_neg (by decide), gx_n (by omega) (by omega), nI_clamp (by omega), (nC_at h hd).2.2.2.2.2]
theorem n_prefix6 {l : KL} {ns : List Nat} {r : NT} (h : nodesC l ns r) {d : Nat} (hd : d < ns.length) : fX3_prefixOf (nI d) r.1 r.2.2.1 = some (nI (pfx l (ns.getD d 0))) := by
  have hl := h.2.2.2
  unfold fX3_prefixOf
  rw [n_isSeat (nC_size h) hl hd, Option.bind_some, if_neg (by decide), gx_n (by omega) (by omega), nI_clamp (by omega), (nC_at h hd).2.1]
theorem n_below6 {l : KL} {ns : List Nat} {r : NT} (h : nodesC l ns r) {d : Nat} (hd : d < ns.length) : fX3_keysBelow (nI d) r.1 r.2.2.2.2.2.1 r.2.2.2.2.1 = some (nI (kun l (ns.getD d 0))) := by
  have hl := h.2.2.2
  unfold fX3_keysBelow
  rw [n_isSeat (nC_size h) hl hd, Option.bind_some, if_neg (by decide), gx_n (by omega) (by omega), gx_n (by omega) (by omega), nI_clamp (by omega), (nC_at h hd).2.2.2.1, (nC_at h hd).2.2.2.2.1, pk_sub (by omega), Nat.add_sub_cancel_left]
theorem n_pfor {n : Nat} (h : n ≤ 16) : fX3_placesFor (nI n) = some (nI (plc n)) := by
  unfold fX3_placesFor plc szN
  rw [show (2 : Int32) = nI 2 from rfl, show (4 : Int32) = nI 4 from rfl, show (8 : Int32) = nI 8 from rfl]
  by_cases c1 : 2 < n
  · rw [if_pos (nI_lt c1 (by omega)), if_pos c1]
    by_cases c2 : 4 < n
    · rw [if_pos (nI_lt c2 (by omega)), if_pos c2]
      by_cases c3 : 8 < n
      · rw [if_pos (nI_lt c3 (by omega)), if_pos c3]; rfl
      · rw [if_neg (nI_nlt (by omega) (by omega)), if_neg c3]
    · rw [if_neg (nI_nlt (by omega) (by omega)), if_neg c2]
  · rw [if_neg (nI_nlt (by omega) (by omega)), if_neg c1]
theorem nk_le (l : KL) (q : Nat) : nk l q ≤ 16 := fb_ct_le _ 16
theorem n_places6 {l : KL} {ns : List Nat} {r : NT} (h : nodesC l ns r) {d : Nat} (hd : d < ns.length) : fX3_placesOf (nI d) r.1 r.2.2.2.2.2.2 = some (nI (plc (nk l (ns.getD d 0)))) := by
  have hl := h.2.2.2
  unfold fX3_placesOf
  rw [n_isSeat (nC_size h) hl hd, Option.bind_some, if_neg (by decide), gx_n (by omega) (by omega), nI_clamp (by omega), (nC_at h hd).2.2.2.2.2, n_bitc (msk_lt _ 16), Option.bind_some, nk_pc, n_pfor (nk_le _ _), Option.bind_some]
theorem plc_cases (n : Nat) : (szN n = 1 ∧ plc n = 2) ∨ (szN n = 2 ∧ plc n = 4) ∨ (szN n = 3 ∧ plc n = 8) ∨ (szN n = 4 ∧ plc n = 16) := by
  have h := szN_le n
  unfold plc
  rcases (show szN n = 1 ∨ szN n = 2 ∨ szN n = 3 ∨ szN n = 4 by omega) with e | e | e | e <;> rw [e] <;> decide
theorem n_sizeOf6 {l : KL} {ns : List Nat} {r : NT} (h : nodesC l ns r) {d : Nat} (hd : d < ns.length) : fX3_sizeOf (nI d) r.1 r.2.2.2.2.2.2 = some (nI (szN (nk l (ns.getD d 0)))) := by
  unfold fX3_sizeOf
  rw [n_places6 h hd, Option.bind_some]
  rcases plc_cases (nk l (ns.getD d 0)) with ⟨e1, e2⟩ | ⟨e1, e2⟩ | ⟨e1, e2⟩ | ⟨e1, e2⟩ <;> rw [e1, e2] <;> decide
theorem n_hasEnd6 {l : KL} {sz : Int32} {w v : Nat → Int32} (hC : keyC l sz w v) (hg : kgood l) {ns : List Nat} {r : NT} (h : nodesC l ns r) {d : Nat} (hd : d < ns.length) : fX3_hasEnd (nI d) r.1 r.2.2.2.2.1 sz w r.2.1 = some (if kH l (ns.getD d 0) then 1 else 0) := by
  have hl := h.2.2.2
  have hN := nC_isN h hd
  obtain ⟨i, hi, hw, -⟩ := isN_adj hg hN
  -- the first key below is there
  have hah : ah (ns.getD d 0) l < l.length := by
    rcases Nat.lt_or_ge (ah (ns.getD d 0) l) l.length with q | q
    · exact q
    · have := (ah_is (ns.getD d 0) l).2.1 i (by omega)
      have := ((whead_iff hN.1 (hg.ok (show i < l.length by omega))).mp hw).1
      omega
  have hb := hg.lt hah
  have hq := wok_lt hN.1
  unfold fX3_hasEnd
  rw [n_isSeat (nC_size h) hl hd, Option.bind_some, if_neg (by decide), gx_n (by omega) (by omega), nI_clamp (by omega), (nC_at h hd).2.2.2.1, n_wordAt6 hC hg hah, Option.bind_some, gx_n (by omega) (by omega), (nC_at h hd).1]
  by_cases c : kW l (ah (ns.getD d 0) l) = ns.getD d 0
  · rw [if_pos (by rw [c]), if_pos ⟨hah, c⟩]
  · rw [if_neg (fun e => c ((nI_eq (by omega) (by omega)).mp e)), if_neg (fun e : kH l _ => c e.2)]
/-! heads of a word among the nodes -/
theorem n_way6_L {l : KL} {ns : List Nat} {r : NT} (h : nodesC l ns r) {W : Nat} (hW : wok W) : ∀ (m F i : Nat), ns.length - i = m → m < F → i ≤ ns.length → fX3_countOnWayTo_L4 r.1 r.2.1 (nI W) F (nI (fb_ct (fun k => decide (whead (ns.getD k 0) W)) i)) (nI i) = some (nI (fb_ct (fun k => decide (whead (ns.getD k 0) W)) ns.length))
  | m, 0, i, _, hF, _ => absurd hF (Nat.not_lt_zero m)
  | m, F + 1, i, hm, hF, hi => by
    have hl := h.2.2.2
    rw [fX3_countOnWayTo_L4, nC_size h]
    by_cases c : i < ns.length
    · have ih := n_way6_L h hW (m - 1) F (i + 1) (by omega) (by omega) c
      rw [fb_ct_succ, nC_size h] at ih
      rw [if_neg (nI_ge c (by omega)), gx_n (by omega) (by omega), nI_clamp (by omega), (nC_at h c).1, n_isHead (nC_isN h c).1 hW, Option.bind_some]
      by_cases c2 : whead (ns.getD i 0) W
      · rw [decide_eq_true c2, if_pos rfl] at ih
        rw [if_pos c2, if_neg (by decide), gl_eq, Option.bind_some, gl_eq, nI_1, nI_1]
        exact ih
      · rw [decide_eq_false c2, if_neg (by decide)] at ih
        rw [if_neg c2, if_pos rfl, Option.bind_some, gl_eq, nI_1]
        exact ih
    · rw [if_pos (nI_le (by omega) (by omega)), show i = ns.length by omega]
theorem n_way6 {l : KL} {ns : List Nat} {r : NT} (h : nodesC l ns r) {W : Nat} (hW : wok W) : fX3_countOnWayTo (nI W) r.1 r.2.1 = some (nI (fb_ct (fun k => decide (whead (ns.getD k 0) W)) ns.length)) := by
  have hl := h.2.2.2
  unfold fX3_countOnWayTo
  have e : fX3_countOnWayTo_L4 r.1 r.2.1 (nI W) gF (0 : Int32) (0 : Int32) = _ := n_way6_L h hW ns.length gF 0 (Nat.sub_zero _) (by unfold gF; omega) (Nat.zero_le _)
  rw [e]
  rfl
theorem n_heads8_L {ps : List Nat} {z : Int32} {f : Nat → Int32} (h : pR ps z f) (hl : ps.length ≤ 47) (hb : ∀ q ∈ ps, wok q) {W : Nat} (hW : wok W) : ∀ (m F i : Nat), ps.length - i = m → m < F → i ≤ ps.length → fX8_headsOf_L4 z (nI W) f F (nI (fb_ct (fun k => decide (whead (ps.getD k 0) W)) i)) (nI i) = some (nI (fb_ct (fun k => decide (whead (ps.getD k 0) W)) ps.length))
  | m, 0, i, _, hF, _ => absurd hF (Nat.not_lt_zero m)
  | m, F + 1, i, hm, hF, hi => by
    rw [fX8_headsOf_L4, h.1]
    by_cases c : i < ps.length
    · have ih := n_heads8_L h hl hb hW (m - 1) F (i + 1) (by omega) (by omega) c
      rw [fb_ct_succ, h.1] at ih
      rw [if_neg (nI_ge c (by omega)), gx_n (by omega) (by omega), nI_clamp (by omega), h.2 i c, n_begins (hb _ (getD_mem c)) hW, Option.bind_some]
      by_cases c2 : whead (ps.getD i 0) W
      · rw [decide_eq_true c2, if_pos rfl] at ih
        rw [if_pos c2, if_neg (by decide), Option.bind_some, gl_eq, gl_eq, nI_1, nI_1]
        exact ih
      · rw [decide_eq_false c2, if_neg (by decide), Nat.add_zero] at ih
        rw [if_neg c2, if_pos rfl, Option.bind_some, gl_eq, gl_eq, nI_1, Int32.add_zero]
        exact ih
    · rw [if_pos (nI_le (by omega) (by omega)), show i = ps.length by omega]
theorem pN_ok {l : KL} (hg : kgood l) : ∀ q ∈ pN l, wok q := fun q hq => ((pN_mem hg q).mp hq).1
theorem n_heads8 {l : KL} (hg : kgood l) {z : Int32} {f : Nat → Int32} (h : pR (pN l) z f) {W : Nat} (hW : wok W) : fX8_headsOf (nI W) z f = some (nI (fb_ct (fun k => decide (whead ((pN l).getD k 0) W)) (pN l).length)) := by
  have hl := pN_len hg
  unfold fX8_headsOf
  have e : fX8_headsOf_L4 z (nI W) f gF (0 : Int32) (0 : Int32) = _ := n_heads8_L h hl (pN_ok hg) hW (pN l).length gF 0 (Nat.sub_zero _) (by unfold gF; omega) (Nat.zero_le _)
  rw [e]
  rfl
theorem e_find {l : KL} {sz : Int32} {w v t : Nat → Int32} (hC : keyC l sz w v) (hM : keyM l t) (hg : kgood l) {ns : List Nat} {z : Int32} {P Pf D Fr Ti C : Nat → Int32} (hN : nodesC l ns (z, P, Pf, D, Fr, Ti, C)) {k : Nat} {lw : Nat → Int32} (hL : laR k lw) (a b told mn : Int32) (mp : Nat → Int32) : ∃ rn rm, fX7_find a b told (nI k) lw z P sz w v = some rn ∧ fX8_find a b (nI k) told mn lw t mp = some rm ∧ rn.1 = rm.1 ∧ rn.2.1 = rm.2.2.1 ∧ rn.2.2.1 = rm.2.1 ∧ rn.2.2.2 = rm.2.2.2.2.1 ∧ ∃ k', rn.2.2.1 = nI k' ∧ laR k' rn.2.2.2 := by
  have h48 := hg.1
  unfold fX7_find fX8_find
  rcases n_word a b with ⟨v', n', ⟨h1, h2, h3, rfl, rfl⟩, e1, e2⟩ | ⟨e1, e2⟩
  · have hok := wmk_ok h2 h3
    have hx := wok_lt hok
    obtain ⟨k', w', q1, q2, q3, q4⟩ := n_late hL.1 lw (nI (wmk v' n'))
    obtain ⟨rf, hf1, hf2⟩ := n_finds hM hg mp
    have hway := n_way6 hN hok
    have hhd := n_heads8 hg hf2 hok
    rw [← ct_perm (nodes_perm hg hN) (fun q => decide (whead q (wmk v' n')))] at hhd
    have hway' : fX3_countOnWayTo (nI (wmk v' n')) z P = _ := hway
    have hLa : laR k' w' := ⟨q1, fun j hj => by
      rcases q4 j hj with e | ⟨i, hi, e⟩
      · exact ⟨wmk v' n', hok, e⟩
      · obtain ⟨W, hW, e3⟩ := hL.2 i hi
        exact ⟨W, hW, e.trans e3⟩⟩
    rw [e1, e2, Option.bind_some, Option.bind_some, if_neg (by decide), if_neg (by decide), n_pack6 h2 h3, n_word8 h2 h3, Option.bind_some, Option.bind_some, q2, q3, Option.bind_some, Option.bind_some, hway', Option.bind_some, n_valueOf6 hC hg (by omega), Option.bind_some, hf1, Option.bind_some, n_place8 hM hg (by omega), Option.bind_some, hhd]
    by_cases c : kH l (wmk v' n')
    · have hlt := c.1
      rw [if_pos c, if_pos c, if_neg (nI_ne9 (by omega)), n_49p, gx_n (by omega) (by omega), nI_clamp (show 49 + ah (wmk v' n') l < 2 ^ 31 by omega), hM.2.2 _ hlt]
      unfold fX8_answer
      rw [Option.bind_some, Option.bind_some, Option.bind_some]
      exact ⟨_, _, rfl, rfl, rfl, rfl, rfl, rfl, k', rfl, hLa⟩
    · rw [if_neg c, if_neg c, if_pos rfl]
      unfold fX8_answer
      rw [Option.bind_some, Option.bind_some, Option.bind_some]
      exact ⟨_, _, rfl, rfl, rfl, rfl, rfl, rfl, k', rfl, hLa⟩
  · rw [e1, e2, Option.bind_some, Option.bind_some, if_pos rfl, if_pos rfl]
    exact ⟨_, _, rfl, rfl, rfl, rfl, rfl, rfl, k, rfl, hL⟩
