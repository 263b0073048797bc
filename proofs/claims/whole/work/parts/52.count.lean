/-! the greatest of some numbers -/
def fmx (f : Nat → Nat) : Nat → Nat
  | 0 => 0
  | n + 1 => if fmx f n < f n then f n else fmx f n
theorem fmx_ge (f : Nat → Nat) : ∀ n k, k < n → f k ≤ fmx f n
  | 0, k, h => absurd h (Nat.not_lt_zero k)
  | n + 1, k, h => by
    show f k ≤ if fmx f n < f n then f n else fmx f n
    rcases Nat.lt_or_ge k n with q | q
    · have := fmx_ge f n k q
      split <;> omega
    · rw [show k = n by omega]
      split <;> omega
theorem fmx_le (f : Nat → Nat) {c : Nat} : ∀ n, (∀ k, k < n → f k ≤ c) → fmx f n ≤ c
  | 0, _ => Nat.zero_le _
  | n + 1, h => by
    show (if fmx f n < f n then f n else fmx f n) ≤ c
    have := fmx_le f n (fun k hk => h k (by omega))
    have := h n (by omega)
    split <;> omega
theorem fmx_eq {f g : Nat → Nat} {n m : Nat} (h1 : ∀ k, k < n → f k = 0 ∨ ∃ j, j < m ∧ f k ≤ g j) (h2 : ∀ k, k < m → g k = 0 ∨ ∃ j, j < n ∧ g k ≤ f j) : fmx f n = fmx g m := by
  apply Nat.le_antisymm
  · refine fmx_le f n (fun k hk => ?_)
    rcases h1 k hk with e | ⟨j, hj, e⟩
    · omega
    · exact Nat.le_trans e (fmx_ge g m j hj)
  · refine fmx_le g m (fun k hk => ?_)
    rcases h2 k hk with e | ⟨j, hj, e⟩
    · omega
    · exact Nat.le_trans e (fmx_ge f n j hj)
/-! counts over the class's nodes -/
theorem n_max6_L {z : Int32} {D : Nat → Int32} {n : Nat} {g : Nat → Nat} (hz : z = nI n) (hn : n ≤ 47) (hD : ∀ j, j < n → D j = nI (g j)) (hg : ∀ j, j < n → g j ≤ 100) : ∀ (m F i : Nat), n - i = m → m < F → i ≤ n → fX3_deepest_L4 z D F (nI (fmx g i)) (nI i) = some (nI (fmx g n)) ∧ fX3_longestPrefix_L4 z D F (nI (fmx g i)) (nI i) = some (nI (fmx g n))
  | m, 0, i, _, hF, _ => absurd hF (Nat.not_lt_zero m)
  | m, F + 1, i, hm, hF, hi => by
    rw [fX3_deepest_L4, fX3_longestPrefix_L4, hz]
    by_cases c : i < n
    · have hb := fmx_le g i (fun k hk => hg k (by omega))
      have hb2 := hg i c
      have ih := n_max6_L hz hn hD hg (m - 1) F (i + 1) (by omega) (by omega) c
      rw [hz] at ih
      have e : (if nI (fmx g i) < nI (g i) then nI (g i) else nI (fmx g i)) = nI (fmx g (i + 1)) := by
        show _ = nI (if fmx g i < g i then g i else fmx g i)
        by_cases c2 : fmx g i < g i
        · rw [if_pos (nI_lt c2 (by omega)), if_pos c2]
        · rw [if_neg (nI_nlt (by omega) (by omega)), if_neg c2]
      rw [if_neg (nI_ge c (by omega)), if_neg (nI_ge c (by omega)), gx_n (by omega) (by omega), gx_n (by omega) (by omega), nI_clamp (by omega), hD i c, gl_eq, gl_eq, gl_eq, gl_eq, nI_1, e]
      exact ih
    · rw [if_pos (nI_le (by omega) (by omega)), if_pos (nI_le (by omega) (by omega)), show i = n by omega]
      exact ⟨rfl, rfl⟩
theorem dep_le (l : KL) {q : Nat} (hq : wok q) : dep l q ≤ 7 := by
  have := fb_ct_le (nodeAt l q) (q % 8 + 1)
  have := wok_len hq
  unfold dep
  omega
theorem pfx_le (l : KL) {q : Nat} (hq : wok q) : pfx l q ≤ 6 := by
  have := wok_len hq
  unfold pfx
  omega
theorem n_deepest {l : KL} {ns : List Nat} {r : NT} (h : nodesC l ns r) : fX3_deepest r.1 r.2.2.2.1 = some (nI (fmx (fun j => dep l (ns.getD j 0)) ns.length)) := by
  have hl := h.2.2.2
  have e := (n_max6_L (D := r.2.2.2.1) (g := fun j => dep l (ns.getD j 0)) (nC_size h) hl (fun j hj => (nC_at h hj).2.2.1) (fun j hj => by have := dep_le l (nC_isN h hj).1; omega) ns.length gF 0 (Nat.sub_zero _) (by unfold gF; omega) (Nat.zero_le _)).1
  have e' : fX3_deepest_L4 r.1 r.2.2.2.1 gF (0 : Int32) (0 : Int32) = _ := e
  unfold fX3_deepest
  rw [e']
  rfl
theorem n_longpre {l : KL} {ns : List Nat} {r : NT} (h : nodesC l ns r) : fX3_longestPrefix r.1 r.2.2.1 = some (nI (fmx (fun j => pfx l (ns.getD j 0)) ns.length)) := by
  have hl := h.2.2.2
  have e := (n_max6_L (D := r.2.2.1) (g := fun j => pfx l (ns.getD j 0)) (nC_size h) hl (fun j hj => (nC_at h hj).2.1) (fun j hj => by have := pfx_le l (nC_isN h hj).1; omega) ns.length gF 0 (Nat.sub_zero _) (by unfold gF; omega) (Nat.zero_le _)).2
  have e' : fX3_longestPrefix_L4 r.1 r.2.2.1 gF (0 : Int32) (0 : Int32) = _ := e
  unfold fX3_longestPrefix
  rw [e']
  rfl
theorem n_places6_L {l : KL} {ns : List Nat} {r : NT} (h : nodesC l ns r) : ∀ (m F i : Nat), ns.length - i = m → m < F → i ≤ ns.length → fX3_allPlaces_L4 r.1 r.2.2.2.2.2.2 F (nI (fb_sm (fun k => plc (nk l (ns.getD k 0))) i)) (nI i) = some (nI (fb_sm (fun k => plc (nk l (ns.getD k 0))) ns.length))
  | m, 0, i, _, hF, _ => absurd hF (Nat.not_lt_zero m)
  | m, F + 1, i, hm, hF, hi => by
    have hl := h.2.2.2
    have hs := nC_size h
    rw [fX3_allPlaces_L4]
    by_cases c : i < ns.length
    · have ih := n_places6_L h (m - 1) F (i + 1) (by omega) (by omega) c
      rw [fb_sm_succ] at ih
      rw [if_neg (by rw [hs]; exact nI_ge c (by omega)), n_places6 h c, Option.bind_some, gl_eq, gl_eq, nI_add, nI_1]
      exact ih
    · rw [if_pos (by rw [hs]; exact nI_le (by omega) (by omega)), show i = ns.length by omega]
theorem n_allpl6 {l : KL} {ns : List Nat} {r : NT} (h : nodesC l ns r) : fX3_allPlaces r.1 r.2.2.2.2.2.2 = some (nI (fb_sm (fun k => plc (nk l (ns.getD k 0))) ns.length)) := by
  have hl := h.2.2.2
  have e : fX3_allPlaces_L4 r.1 r.2.2.2.2.2.2 gF (0 : Int32) (0 : Int32) = _ := n_places6_L h ns.length gF 0 (Nat.sub_zero _) (by unfold gF; omega) (Nat.zero_le _)
  unfold fX3_allPlaces
  rw [e]
  rfl
theorem n_cos6_L {l : KL} {ns : List Nat} {r : NT} (h : nodesC l ns r) {s : Nat} (hs4 : s ≤ 4) : ∀ (m F i : Nat), ns.length - i = m → m < F → i ≤ ns.length → fX3_countOfSize_L4 r.1 r.2.2.2.2.2.2 (nI s) F (nI (fb_ct (fun k => decide (szN (nk l (ns.getD k 0)) = s)) i)) (nI i) = some (nI (fb_ct (fun k => decide (szN (nk l (ns.getD k 0)) = s)) ns.length))
  | m, 0, i, _, hF, _ => absurd hF (Nat.not_lt_zero m)
  | m, F + 1, i, hm, hF, hi => by
    have hl := h.2.2.2
    have hs := nC_size h
    rw [fX3_countOfSize_L4]
    by_cases c : i < ns.length
    · have ih := n_cos6_L h hs4 (m - 1) F (i + 1) (by omega) (by omega) c
      rw [fb_ct_succ] at ih
      have hz := szN_le (nk l (ns.getD i 0))
      rw [if_neg (by rw [hs]; exact nI_ge c (by omega)), n_sizeOf6 h c, Option.bind_some]
      by_cases c2 : szN (nk l (ns.getD i 0)) = s
      · rw [decide_eq_true c2, if_pos rfl] at ih
        rw [if_pos (by rw [c2]), gl_eq, Option.bind_some, gl_eq, nI_1, nI_1]
        exact ih
      · rw [decide_eq_false c2, if_neg (by decide)] at ih
        rw [if_neg (fun e => c2 ((nI_eq (by omega) (by omega)).mp e)), Option.bind_some, gl_eq, nI_1]
        exact ih
    · rw [if_pos (by rw [hs]; exact nI_le (by omega) (by omega)), show i = ns.length by omega]
theorem n_cos6 {l : KL} {ns : List Nat} {r : NT} (h : nodesC l ns r) {s : Nat} (hs4 : s ≤ 4) : fX3_countOfSize (nI s) r.1 r.2.2.2.2.2.2 = some (nI (fb_ct (fun k => decide (szN (nk l (ns.getD k 0)) = s)) ns.length)) := by
  have hl := h.2.2.2
  have e : fX3_countOfSize_L4 r.1 r.2.2.2.2.2.2 (nI s) gF (0 : Int32) (0 : Int32) = _ := n_cos6_L h hs4 ns.length gF 0 (Nat.sub_zero _) (by unfold gF; omega) (Nat.zero_le _)
  unfold fX3_countOfSize
  rw [e]
  rfl
/-! the reference's counts -/
theorem n_places8_L {l : KL} {t : Nat → Int32} (hM : keyM l t) (hg : kgood l) {q2 : Int32 × (Nat → Int32)} {ps : List Nat} (hps : pR ps q2.1 q2.2) (hpl : ps.length ≤ 47) (hok : ∀ q ∈ ps, wok q) : ∀ (m F i : Nat), ps.length - i = m → m < F → i ≤ ps.length → fX8_allPlaces_L9 q2 97 t F (nI (fb_sm (fun k => plc (nk l (ps.getD k 0))) i)) (nI i) = some (nI (fb_sm (fun k => plc (nk l (ps.getD k 0))) ps.length))
  | m, 0, i, _, hF, _ => absurd hF (Nat.not_lt_zero m)
  | m, F + 1, i, hm, hF, hi => by
    rw [fX8_allPlaces_L9, hps.1]
    by_cases c : i < ps.length
    · have ih := n_places8_L hM hg hps hpl hok (m - 1) F (i + 1) (by omega) (by omega) c
      rw [fb_sm_succ] at ih
      rw [if_neg (nI_ge c (by omega)), gx_n (by omega) (by omega), nI_clamp (by omega), hps.2 i c, n_places8 hM hg (hok _ (getD_mem c)), Option.bind_some, gl_eq, gl_eq, nI_add, nI_1]
      exact ih
    · rw [if_pos (nI_le (by omega) (by omega)), show i = ps.length by omega]
/-- the places of all nodes together -/
def allP (l : KL) : Nat := fb_sm (fun k => plc (nk l ((pN l).getD k 0))) (pN l).length
theorem n_allpl8 {l : KL} {t : Nat → Int32} (hM : keyM l t) (hg : kgood l) (f : Nat → Int32) : ∃ r, fX8_allPlaces 97 t f = some r ∧ r.1 = nI (allP l) := by
  obtain ⟨rf, hf1, hf2⟩ := n_finds hM hg f
  have hl := pN_len hg
  have e : fX8_allPlaces_L9 rf 97 t gF (0 : Int32) (0 : Int32) = _ := n_places8_L hM hg hf2 hl (pN_ok hg) (pN l).length gF 0 (Nat.sub_zero _) (by unfold gF; omega) (Nat.zero_le _)
  unfold fX8_allPlaces
  rw [hf1, Option.bind_some, e, Option.bind_some]
  exact ⟨_, rfl, rfl⟩
theorem n_ofs8_L {l : KL} {t : Nat → Int32} (hM : keyM l t) (hg : kgood l) {z : Int32} {f : Nat → Int32} {ps : List Nat} (hps : pR ps z f) (hpl : ps.length ≤ 47) (hok : ∀ q ∈ ps, wok q) {s : Nat} (hs4 : s ≤ 4) : ∀ (m F i : Nat), ps.length - i = m → m < F → i ≤ ps.length → fX8_ofSize_L4 z f t (nI s) F (nI (fb_ct (fun k => decide (szN (nk l (ps.getD k 0)) = s)) i)) (nI i) = some (nI (fb_ct (fun k => decide (szN (nk l (ps.getD k 0)) = s)) ps.length))
  | m, 0, i, _, hF, _ => absurd hF (Nat.not_lt_zero m)
  | m, F + 1, i, hm, hF, hi => by
    rw [fX8_ofSize_L4]
    by_cases c : i < ps.length
    · have ih := n_ofs8_L hM hg hps hpl hok hs4 (m - 1) F (i + 1) (by omega) (by omega) c
      rw [fb_ct_succ] at ih
      have hz := szN_le (nk l (ps.getD i 0))
      rw [if_neg (by rw [hps.1]; exact nI_ge c (by omega)), gx_n (by omega) (by omega), nI_clamp (by omega), hps.2 i c, n_child hM hg (hok _ (getD_mem c)), Option.bind_some, n_size8 (msk_lt _ 16), Option.bind_some, nk_pc]
      by_cases c2 : szN (nk l (ps.getD i 0)) = s
      · rw [decide_eq_true c2, if_pos rfl] at ih
        rw [if_pos (by rw [c2]), Option.bind_some, gl_eq, gl_eq, nI_1, nI_1]
        exact ih
      · rw [decide_eq_false c2, if_neg (by decide), Nat.add_zero] at ih
        rw [if_neg (fun e => c2 ((nI_eq (by omega) (by omega)).mp e)), Option.bind_some, gl_eq, gl_eq, nI_1, Int32.add_zero]
        exact ih
    · rw [if_pos (by rw [hps.1]; exact nI_le (by omega) (by omega)), show i = ps.length by omega]
theorem n_ofs8 {l : KL} {t : Nat → Int32} (hM : keyM l t) (hg : kgood l) {z : Int32} {f : Nat → Int32} (hps : pR (pN l) z f) {s : Nat} (hs4 : s ≤ 4) : fX8_ofSize (nI s) z f t = some (nI (fb_ct (fun k => decide (szN (nk l ((pN l).getD k 0)) = s)) (pN l).length)) := by
  have hl := pN_len hg
  have e : fX8_ofSize_L4 z f t (nI s) gF (0 : Int32) (0 : Int32) = _ := n_ofs8_L hM hg hps hl (pN_ok hg) hs4 (pN l).length gF 0 (Nat.sub_zero _) (by unfold gF; omega) (Nat.zero_le _)
  unfold fX8_ofSize
  rw [e]
  rfl
theorem n_more {a b : Nat} (ha : a < 2 ^ 31) (hb : b < 2 ^ 31) : fX8_more (nI a) (nI b) = some (nI (if a < b then b else a)) := by
  unfold fX8_more
  rcases Nat.lt_trichotomy a b with q | q | q
  · rw [if_pos (nI_le (by omega) hb), if_pos q]
  · rw [q, if_pos (nI_le (Nat.le_refl _) hb), if_neg (Nat.lt_irrefl _)]
  · rw [if_neg (nI_ge q ha), if_neg (by omega)]
theorem n_mosth_L {l : KL} {t : Nat → Int32} (hM : keyM l t) (hg : kgood l) {z : Int32} {f : Nat → Int32} (hps : pR (pN l) z f) : ∀ (m F i : Nat), l.length - i = m → m < F → i ≤ l.length → fX8_mostHeads_L4 t z f F (nI (fmx (fun k => fb_ct (fun j => decide (whead ((pN l).getD j 0) (kW l k))) (pN l).length) i)) (nI i) = some (nI (fmx (fun k => fb_ct (fun j => decide (whead ((pN l).getD j 0) (kW l k))) (pN l).length) l.length))
  | m, 0, i, _, hF, _ => absurd hF (Nat.not_lt_zero m)
  | m, F + 1, i, hm, hF, hi => by
    have h48 := hg.1
    have hpl := pN_len hg
    rw [fX8_mostHeads_L4, gx_0 (by omega) (by omega), cl_0, hM.1]
    by_cases c : i < l.length
    · have ih := n_mosth_L hM hg hps (m - 1) F (i + 1) (by omega) (by omega) c
      have hb1 : fmx (fun k => fb_ct (fun j => decide (whead ((pN l).getD j 0) (kW l k))) (pN l).length) i ≤ 47 := fmx_le _ i (fun k _ => Nat.le_trans (fb_ct_le _ _) hpl)
      have hb2 : fb_ct (fun j => decide (whead ((pN l).getD j 0) (kW l i))) (pN l).length ≤ 47 := Nat.le_trans (fb_ct_le _ _) hpl
      rw [if_neg (nI_ge c (by omega)), n_1p, gx_n (by omega) (by omega), nI_clamp (by omega), hM.2.1 i c, n_heads8 hg hps (hg.ok c), Option.bind_some, n_more (by omega) (by omega), Option.bind_some, gl_eq, nI_1]
      exact ih
    · rw [if_pos (nI_le (by omega) (by omega)), show i = l.length by omega]
theorem n_mosth {l : KL} {t : Nat → Int32} (hM : keyM l t) (hg : kgood l) {z : Int32} {f : Nat → Int32} (hps : pR (pN l) z f) : fX8_mostHeads z t f = some (nI (fmx (fun k => fb_ct (fun j => decide (whead ((pN l).getD j 0) (kW l k))) (pN l).length) l.length)) := by
  have h48 := hg.1
  have e : fX8_mostHeads_L4 t z f gF (0 : Int32) (0 : Int32) = _ := n_mosth_L hM hg hps l.length gF 0 (Nat.sub_zero _) (by unfold gF; omega) (Nat.zero_le _)
  unfold fX8_mostHeads
  rw [e]
  rfl
theorem n_lpre8_L {l : KL} (hg : kgood l) {z : Int32} {f : Nat → Int32} (hps : pR (pN l) z f) : ∀ (m F i : Nat), (pN l).length - i = m → m < F → i ≤ (pN l).length → fX8_longestPrefix_L4 z f F (nI (fmx (fun k => pfx l ((pN l).getD k 0)) i)) (nI i) = some (nI (fmx (fun k => pfx l ((pN l).getD k 0)) (pN l).length))
  | m, 0, i, _, hF, _ => absurd hF (Nat.not_lt_zero m)
  | m, F + 1, i, hm, hF, hi => by
    have hpl := pN_len hg
    rw [fX8_longestPrefix_L4]
    by_cases c : i < (pN l).length
    · have ih := n_lpre8_L hg hps (m - 1) F (i + 1) (by omega) (by omega) c
      have hb1 : fmx (fun k => pfx l ((pN l).getD k 0)) i ≤ 6 := fmx_le _ i (fun k hk => pfx_le l (pN_ok hg _ (getD_mem (by omega))))
      have hb2 : pfx l ((pN l).getD i 0) ≤ 6 := pfx_le l (pN_ok hg _ (getD_mem c))
      rw [if_neg (by rw [hps.1]; exact nI_ge c (by omega)), gx_n (by omega) (by omega), nI_clamp (by omega), hps.2 i c, n_prefix8 hg hps (pN_ok hg _ (getD_mem c)), Option.bind_some, n_more (by omega) (by omega), Option.bind_some, gl_eq, nI_1]
      exact ih
    · rw [if_pos (by rw [hps.1]; exact nI_le (by omega) (by omega)), show i = (pN l).length by omega]
theorem n_lpre8 {l : KL} (hg : kgood l) {z : Int32} {f : Nat → Int32} (hps : pR (pN l) z f) : fX8_longestPrefix z f = some (nI (fmx (fun k => pfx l ((pN l).getD k 0)) (pN l).length)) := by
  have hpl := pN_len hg
  have e : fX8_longestPrefix_L4 z f gF (0 : Int32) (0 : Int32) = _ := n_lpre8_L hg hps (pN l).length gF 0 (Nat.sub_zero _) (by unfold gF; omega) (Nat.zero_le _)
  unfold fX8_longestPrefix
  rw [e]
  rfl
/-! how many nodes are heads of a word, by lengths -/
theorem ct_range (p : Nat → Bool) : ∀ n, fb_ct p n = ((List.range n).filter p).length
  | 0 => rfl
  | n + 1 => by
    rw [fb_ct_succ, ct_range p n, List.range_succ, List.filter_append, List.length_append]
    cases hp : p n <;> simp [hp]
theorem heads_ct {l : KL} (hg : kgood l) {W : Nat} (hW : wok W) : fb_ct (fun j => decide (whead ((pN l).getD j 0) W)) (pN l).length = fb_ct (nodeAt l W) (W % 8 + 1) := by
  have hl := wok_len hW
  have e1 := ct_list (fun q => decide (whead q W)) (pN l)
  rw [show fb_ct (fun j => decide (whead ((pN l).getD j 0) W)) (pN l).length = (pN l).countP (fun q => decide (whead q W)) from e1, List.countP_eq_length_filter, ct_range]
  have e2 : ((List.range (W % 8 + 1)).filter (nodeAt l W)).length = (((List.range (W % 8 + 1)).filter (nodeAt l W)).map (whd W)).length := by rw [List.length_map]
  rw [e2]
  have n1 : ((pN l).filter (fun q => decide (whead q W))).Nodup := (pN_nodup l).filter _
  have n2 : (((List.range (W % 8 + 1)).filter (nodeAt l W)).map (whd W)).Nodup := by
    unfold List.Nodup
    rw [List.pairwise_map]
    have hr : ((List.range (W % 8 + 1)).filter (nodeAt l W)).Nodup := List.nodup_range.filter _
    refine List.Pairwise.imp_of_mem (fun {a b} ha hb hne e => ?_) hr
    have ha2 := (List.mem_filter.mp ha).1
    have hb2 := (List.mem_filter.mp hb).1
    rw [List.mem_range] at ha2 hb2
    have h1 : whd W a % 8 = a := whd_len (by omega)
    have h2 : whd W b % 8 = b := whd_len (by omega)
    rw [e] at h1
    omega
  refine List.Perm.length_eq ((List.perm_ext_iff_of_nodup n1 n2).mpr (fun q => ?_))
  rw [List.mem_filter, List.mem_map, pN_mem hg, decide_eq_true_iff]
  constructor
  · rintro ⟨h1, h2⟩
    exact ⟨q % 8, List.mem_filter.mpr ⟨List.mem_range.mpr (by have := h2.1; omega), head_at hW h1 h2⟩, head_whd h1.1 h2⟩
  · rintro ⟨j, h1, rfl⟩
    obtain ⟨h2, h3⟩ := List.mem_filter.mp h1
    rw [List.mem_range] at h2
    exact ⟨(nodeAt_iff hW (by omega)).mp h3, whd_head hW (by omega)⟩
theorem deep_eq {l : KL} (hg : kgood l) {ns : List Nat} (hns : ∀ q, q ∈ ns ↔ isN l q) : fmx (fun j => dep l (ns.getD j 0)) ns.length = fmx (fun k => fb_ct (fun j => decide (whead ((pN l).getD j 0) (kW l k))) (pN l).length) l.length := by
  refine fmx_eq (fun k hk => Or.inr ?_) (fun k hk => ?_)
  · have hN := (hns _).mp (getD_mem hk)
    obtain ⟨i, hi, hw, -⟩ := isN_adj hg hN
    have hki := hg.ok (show i < l.length by omega)
    refine ⟨i, by omega, ?_⟩
    rw [heads_ct hg hki]
    unfold dep
    have e : fb_ct (nodeAt l (ns.getD k 0)) (ns.getD k 0 % 8 + 1) = fb_ct (nodeAt l (kW l i)) (ns.getD k 0 % 8 + 1) := fb_ct_cong (fun j hj => (nodeAt_same rfl (wok_len hN.1) (by omega) hw).symm)
    rw [e]
    exact fb_ct_mono _ (by have := hw.1; omega)
  · have hki := hg.ok hk
    have hl6 := wok_len hki
    rw [heads_ct hg hki]
    by_cases c : ∃ j, j < kW l k % 8 + 1 ∧ nodeAt l (kW l k) j = true
    · obtain ⟨m, hm1, hm2, hm3⟩ := fb_last (p := fun j => nodeAt l (kW l k) j = true) c
      have hN := (nodeAt_iff hki (by omega)).mp hm2
      have hlen : whd (kW l k) m % 8 = m := whd_len (by omega)
      obtain ⟨d, hd, e⟩ := mem_getD ((hns _).mpr hN)
      refine Or.inr ⟨d, hd, ?_⟩
      rw [e]
      unfold dep
      rw [hlen]
      have e1 : fb_ct (nodeAt l (whd (kW l k) m)) (m + 1) = fb_ct (nodeAt l (kW l k)) (m + 1) := fb_ct_cong (fun j hj => (nodeAt_same hlen (by omega) (by omega) (whd_head hki (by omega))).symm)
      have e2 := fb_ct_split (nodeAt l (kW l k)) (m + 1) (kW l k % 8 + 1 - (m + 1))
      have z0 : fb_ct (fun j => nodeAt l (kW l k) (m + 1 + j)) (kW l k % 8 + 1 - (m + 1)) = 0 := fb_ct_zero.mpr (fun j hj => by
        cases hb : nodeAt l (kW l k) (m + 1 + j) with
        | false => rfl
        | true => exact absurd hb (hm3 _ (by omega) (by omega)))
      rw [show m + 1 + (kW l k % 8 + 1 - (m + 1)) = kW l k % 8 + 1 by omega, z0] at e2
      rw [e1, e2]
      exact Nat.le_refl _
    · left
      refine fb_ct_zero.mpr (fun j hj => ?_)
      cases hb : nodeAt l (kW l k) j with
      | false => rfl
      | true => exact absurd ⟨j, hj, hb⟩ c
theorem mx_perm {xs ys : List Nat} (h : ∀ q, q ∈ xs ↔ q ∈ ys) (f : Nat → Nat) : fmx (fun k => f (xs.getD k 0)) xs.length = fmx (fun k => f (ys.getD k 0)) ys.length := by
  refine fmx_eq (fun k hk => Or.inr ?_) (fun k hk => Or.inr ?_)
  · obtain ⟨j, hj, e⟩ := mem_getD ((h _).mp (getD_mem hk))
    exact ⟨j, hj, by rw [e]; exact Nat.le_refl _⟩
  · obtain ⟨j, hj, e⟩ := mem_getD ((h _).mpr (getD_mem hk))
    exact ⟨j, hj, by rw [e]; exact Nat.le_refl _⟩
