/-! deeds: kind (1 put in, 2 taken out, 3 all gone that begin so, else nothing), word, value -/
abbrev DD : Type := Nat × Nat × Nat
def kap (d : DD) (l : KL) : KL := if d.1 = 1 then kput l d.2.1 d.2.2 else if d.1 = 2 then kdel l (ah d.2.1 l) (if kH l d.2.1 then 1 else 0) else if d.1 = 3 then kdel l (ah d.2.1 l) (kun l d.2.1) else l
/-- a deed that can be done to these keys -/
def dok (d : DD) (l : KL) : Prop := d.1 ≤ 3 ∧ wok d.2.1 ∧ 1 ≤ d.2.1 % 8 ∧ d.2.2 ≤ 999 ∧ (d.1 = 1 → l.length < 48 ∨ kH l d.2.1)
theorem kun_le {l : KL} (hg : kgood l) {P : Nat} (hP : wok P) : ah P l + kun l P ≤ l.length := by
  -- the end of the run is where the loop ends
  have key : ∀ (m i : Nat), l.length - i = m → ah P l ≤ i → i ≤ l.length → (∀ k, ah P l ≤ k → k < i → whead P (kW l k)) → ∃ r, isEn l P r := by
    intro m
    induction m with
    | zero => intro i h1 h2 h3 h4; exact ⟨i, h2, h3, h4, fun q => by omega⟩
    | succ m ih =>
      intro i h1 h2 h3 h4
      by_cases c : whead P (kW l i)
      · refine ih (i + 1) (by omega) (by omega) (by omega) (fun k q1 q2 => ?_)
        rcases Nat.lt_or_ge k i with q | q
        · exact h4 k q1 q
        · rw [show k = i by omega]; exact c
      · exact ⟨i, h2, h3, h4, fun _ => c⟩
  obtain ⟨r, hr⟩ := key (l.length - ah P l) (ah P l) rfl (Nat.le_refl _) (ah_le P l) (fun k q1 q2 => by omega)
  have := isEn_kun hg hP hr
  rw [← this]
  exact hr.2.1
theorem kap_good {d : DD} {l : KL} (hg : kgood l) (hd : dok d l) : kgood (kap d l) := by
  obtain ⟨h1, h2, h3, h4, h5⟩ := hd
  have ha := ah_le d.2.1 l
  unfold kap
  by_cases c1 : d.1 = 1
  · rw [if_pos c1]; exact kput_good hg h2 h3 h4 (h5 c1)
  · rw [if_neg c1]
    by_cases c2 : d.1 = 2
    · rw [if_pos c2]
      refine kdel_good hg ?_
      by_cases c : kH l d.2.1
      · rw [if_pos c]; have := c.1; omega
      · rw [if_neg c]; omega
    · rw [if_neg c2]
      by_cases c3 : d.1 = 3
      · rw [if_pos c3]; exact kdel_good hg (kun_le hg h2)
      · rw [if_neg c3]; exact hg
theorem n_apply6 {l : KL} {sz : Int32} {w v : Nat → Int32} (hC : keyC l sz w v) (hg : kgood l) {d : DD} (hd : dok d l) : ∃ r, fX1_apply (nI d.1) (nI d.2.1) (nI d.2.2) sz w v = some r ∧ keyC (kap d l) r.1 r.2.1 r.2.2 := by
  obtain ⟨h1, h2, h3, h4, h5⟩ := hd
  have h48 := hg.1
  have hx := wok_lt h2
  have ha := ah_le d.2.1 l
  have e1 : (1 : Int32) = nI 1 := rfl
  have e2 : (2 : Int32) = nI 2 := rfl
  have e3 : (3 : Int32) = nI 3 := rfl
  unfold fX1_apply kap
  by_cases c1 : d.1 = 1
  · obtain ⟨r, hr1, hr2⟩ := n_ins6 (y := d.2.2) hC hg hx (h5 c1)
    rw [if_pos (by rw [c1]; rfl), hr1, if_pos c1]
    exact ⟨_, rfl, hr2⟩
  · rw [if_neg (show ¬ nI d.1 = (1 : Int32) from fun e => c1 ((nI_eq (b := 1) (by omega) (by omega)).mp e)), if_neg c1]
    by_cases c2 : d.1 = 2
    · rw [if_pos (by rw [c2]; rfl), if_pos c2, n_ah6 hC hg (by omega), Option.bind_some, n_has6 hC hg (by omega), Option.bind_some]
      have e : (if (if kH l d.2.1 then (1 : Int32) else 0) = 0 then some (0 : Int32) else some 1) = some (nI (if kH l d.2.1 then 1 else 0)) := by
        by_cases c : kH l d.2.1
        · rw [if_pos c, if_neg (by decide), if_pos c]; rfl
        · rw [if_neg c, if_pos rfl, if_neg c]; rfl
      rw [e, Option.bind_some]
      obtain ⟨r, hr1, hr2⟩ := n_del6 (p := ah d.2.1 l) (m := if kH l d.2.1 then 1 else 0) hC hg (by
        by_cases c : kH l d.2.1
        · rw [if_pos c]; have := c.1; omega
        · rw [if_neg c]; omega)
      rw [hr1]
      exact ⟨_, rfl, hr2⟩
    · rw [if_neg (show ¬ nI d.1 = (2 : Int32) from fun e => c2 ((nI_eq (b := 2) (by omega) (by omega)).mp e)), if_neg c2]
      by_cases c3 : d.1 = 3
      · rw [if_pos (by rw [c3]; rfl), if_pos c3, n_ah6 hC hg (by omega), Option.bind_some, n_beg6 hC hg h2, Option.bind_some]
        obtain ⟨r, hr1, hr2⟩ := n_del6 (p := ah d.2.1 l) (m := kun l d.2.1) hC hg (kun_le hg h2)
        rw [hr1]
        exact ⟨_, rfl, hr2⟩
      · rw [if_neg (show ¬ nI d.1 = (3 : Int32) from fun e => c3 ((nI_eq (b := 3) (by omega) (by omega)).mp e)), if_neg c3]
        exact ⟨_, rfl, hC⟩
/-- deeds one behind the other -/
def krep (b : KL) : List DD → KL
  | [] => b
  | d :: t => krep (kap d b) t
theorem krep_app (b : KL) (s t : List DD) : krep b (s ++ t) = krep (krep b s) t := by
  induction s generalizing b with
  | nil => rfl
  | cons d s ih => exact ih (kap d b)
theorem krep_snoc (b : KL) (s : List DD) (d : DD) : krep b (s ++ [d]) = kap d (krep b s) := by rw [krep_app]; rfl
/-- a history: each deed could be done -/
def hok (b : KL) (ds : List DD) : Prop := kgood b ∧ ds.length ≤ 40 ∧ ∀ i, i < ds.length → dok (ds.getD i (0, 0, 0)) (krep b (ds.take i))
theorem hok_take {b : KL} {ds : List DD} (h : hok b ds) (n : Nat) : hok b (ds.take n) := by
  refine ⟨h.1, by rw [List.length_take]; have := h.2.1; omega, fun i hi => ?_⟩
  rw [List.length_take] at hi
  have := h.2.2 i (by omega)
  rw [List.take_take, Nat.min_eq_left (by omega)]
  rw [show (ds.take n).getD i (0, 0, 0) = ds.getD i (0, 0, 0) by
    rw [List.getD_eq_getElem?_getD, List.getD_eq_getElem?_getD, List.getElem?_take_of_lt (by omega)]]
  exact this
theorem take_succ_getD (ds : List DD) {i : Nat} (hi : i < ds.length) : ds.take (i + 1) = ds.take i ++ [ds.getD i (0, 0, 0)] := by
  rw [List.take_succ, List.getD_eq_getElem?_getD, List.getElem?_eq_getElem hi]
  rfl
theorem hok_good {b : KL} {ds : List DD} (h : hok b ds) : ∀ i, i ≤ ds.length → kgood (krep b (ds.take i))
  | 0, _ => h.1
  | i + 1, hi => by
    rw [take_succ_getD ds hi, krep_snoc]
    exact kap_good (hok_good h i (by omega)) (h.2.2 i hi)
theorem hok_all {b : KL} {ds : List DD} (h : hok b ds) : kgood (krep b ds) := by
  have := hok_good h ds.length (Nat.le_refl _)
  rw [List.take_length] at this
  exact this
theorem hok_snoc {b : KL} {ds : List DD} (h : hok b ds) (hl : ds.length < 40) {d : DD} (hd : dok d (krep b ds)) : hok b (ds ++ [d]) := by
  refine ⟨h.1, by rw [List.length_append]; simp; omega, fun i hi => ?_⟩
  rw [List.length_append] at hi
  simp at hi
  rcases Nat.lt_or_ge i ds.length with q | q
  · rw [List.take_append_of_le_length (by omega), show (ds ++ [d]).getD i (0, 0, 0) = ds.getD i (0, 0, 0) by
      rw [List.getD_eq_getElem?_getD, List.getD_eq_getElem?_getD, List.getElem?_append_left q]]
    exact h.2.2 i q
  · have e : i = ds.length := by omega
    subst e
    rw [List.take_append_of_le_length (Nat.le_refl _), List.take_length, show (ds ++ [d]).getD ds.length (0, 0, 0) = d by
      rw [List.getD_eq_getElem?_getD, List.getElem?_append_right (Nat.le_refl _), Nat.sub_self]; rfl]
    exact hd
/-- how the class holds deeds -/
def dC (ds : List DD) (sz : Int32) (k w v : Nat → Int32) : Prop := sz = nI ds.length ∧ ∀ i, i < ds.length → k i = nI (ds.getD i (0, 0, 0)).1 ∧ w i = nI (ds.getD i (0, 0, 0)).2.1 ∧ v i = nI (ds.getD i (0, 0, 0)).2.2
theorem dC_take {ds : List DD} {sz : Int32} {k w v : Nat → Int32} (h : dC ds sz k w v) {n : Nat} (hn : n ≤ ds.length) : dC (ds.take n) (nI n) k w v := by
  refine ⟨by rw [List.length_take, Nat.min_eq_left hn], fun i hi => ?_⟩
  rw [List.length_take] at hi
  rw [show (ds.take n).getD i (0, 0, 0) = ds.getD i (0, 0, 0) by
    rw [List.getD_eq_getElem?_getD, List.getD_eq_getElem?_getD, List.getElem?_take_of_lt (by omega)]]
  exact h.2 i (by omega)
theorem n_add {ds : List DD} {sz : Int32} {k w v : Nat → Int32} (h : dC ds sz k w v) (hl : ds.length < 40) (d : DD) : ∃ r, fX0_add (nI d.1) (nI d.2.1) (nI d.2.2) sz k w v = some r ∧ dC (ds ++ [d]) r.1 r.2.1 r.2.2.1 r.2.2.2 := by
  unfold fX0_add
  rw [h.1, if_neg (nI_pos (by omega)), show (40 : Int32) = nI 40 from rfl, if_pos (nI_lt hl (by omega)), gx_n hl (by omega), gx_n hl (by omega), gx_n hl (by omega), gl_eq, nI_1, nI_clamp (by omega)]
  refine ⟨_, rfl, by rw [List.length_append]; rfl, fun i hi => ?_⟩
  rw [List.length_append] at hi
  simp at hi
  rcases Nat.lt_or_ge i ds.length with q | q
  · rw [show (ds ++ [d]).getD i (0, 0, 0) = ds.getD i (0, 0, 0) by
      rw [List.getD_eq_getElem?_getD, List.getD_eq_getElem?_getD, List.getElem?_append_left q]]
    show upd k ds.length _ i = _ ∧ upd w ds.length _ i = _ ∧ upd v ds.length _ i = _
    rw [pk_un (by omega), pk_un (by omega), pk_un (by omega)]
    exact h.2 i q
  · have e : i = ds.length := by omega
    subst e
    rw [show (ds ++ [d]).getD ds.length (0, 0, 0) = d by
      rw [List.getD_eq_getElem?_getD, List.getElem?_append_right (Nat.le_refl _), Nat.sub_self]; rfl]
    show upd k ds.length _ ds.length = _ ∧ upd w ds.length _ ds.length = _ ∧ upd v ds.length _ ds.length = _
    rw [pk_us, pk_us, pk_us]
    exact ⟨rfl, rfl, rfl⟩
theorem n_replay_L {b : KL} {ds : List DD} {dz : Int32} {k w v : Nat → Int32} (hd : dC ds dz k w v) (hh : hok b ds) : ∀ (m F i : Nat) (sz : Int32) (kw kv : Nat → Int32), ds.length - i = m → m < F → i ≤ ds.length → keyC (krep b (ds.take i)) sz kw kv → ∃ r, fX0_replayOn_L2 dz k w v F (nI i) sz kw kv = some r ∧ keyC (krep b ds) r.1 r.2.1 r.2.2
  | m, 0, i, _, _, _, _, hF, _, _ => absurd hF (Nat.not_lt_zero m)
  | m, F + 1, i, sz, kw, kv, hm, hF, hi, hC => by
    have h40 := hh.2.1
    rw [fX0_replayOn_L2, hd.1]
    by_cases c : i < ds.length
    · obtain ⟨q1, q2, q3⟩ := hd.2 i c
      obtain ⟨r, hr1, hr2⟩ := n_apply6 hC (hok_good hh i hi) (hh.2.2 i c)
      rw [if_neg (nI_ge c (by omega)), gx_n (by omega) (by omega), gx_n (by omega) (by omega), gx_n (by omega) (by omega), nI_clamp (by omega), q1, q2, q3, hr1, Option.bind_some, gl_eq, nI_1, ← hd.1]
      refine n_replay_L hd hh (m - 1) F (i + 1) _ _ _ (by omega) (by omega) c ?_
      rw [take_succ_getD ds c, krep_snoc]
      exact hr2
    · rw [if_pos (nI_le (by omega) (by omega))]
      rw [show i = ds.length by omega, List.take_length] at hC
      exact ⟨_, rfl, hC⟩
theorem n_replay {b : KL} {ds : List DD} {dz : Int32} {k w v : Nat → Int32} (hd : dC ds dz k w v) (hh : hok b ds) {sz : Int32} {kw kv : Nat → Int32} (hC : keyC b sz kw kv) : ∃ r, fX0_replayOn dz k w v sz kw kv = some r ∧ keyC (krep b ds) r.1 r.2.1 r.2.2 := by
  have h40 := hh.2.1
  obtain ⟨r, hr1, hr2⟩ := n_replay_L hd hh ds.length gF 0 sz kw kv (Nat.sub_zero _) (by unfold gF; omega) (Nat.zero_le _) hC
  rw [nI_0] at hr1
  unfold fX0_replayOn
  rw [hr1]
  exact ⟨_, rfl, hr2⟩
theorem cl_48 : ((48 : Int32)).toNatClampNeg = 48 := by decide
theorem cl_40 : ((40 : Int32)).toNatClampNeg = 40 := by decide
theorem gcp_48 {β : Type} {K : Option β} : gcp (0 : Int32) (0 : Int32) (48 : Int32) 48 48 K = K := if_neg (by decide)
theorem gcp_40 {β : Type} {K : Option β} : gcp (0 : Int32) (0 : Int32) (40 : Int32) 40 40 K = K := if_neg (by decide)
theorem n_become6 {l : KL} (hg : kgood l) {sz : Int32} {w v : Nat → Int32} (hC : keyC l sz w v) (w' v' : Nat → Int32) : ∃ r, fX1_become sz w w' v v' = some r ∧ keyC l r.1 r.2.1 r.2.2 := by
  have h48 := hg.1
  unfold fX1_become
  rw [gcp_48, gcp_48, cl_0, cl_48]
  refine ⟨_, rfl, hC.1, fun k hk => ?_, fun k hk => ?_⟩
  · show va_cpy w w' 0 0 48 k = _
    rw [sb_cpy0 (by omega)]; exact hC.2.1 k hk
  · show va_cpy v v' 0 0 48 k = _
    rw [sb_cpy0 (by omega)]; exact hC.2.2 k hk
theorem n_become0 {ds : List DD} (hl : ds.length ≤ 40) {sz : Int32} {k w v : Nat → Int32} (h : dC ds sz k w v) (k' w' v' : Nat → Int32) : ∃ r, fX0_become sz k k' w w' v v' = some r ∧ dC ds r.1 r.2.1 r.2.2.1 r.2.2.2 := by
  unfold fX0_become
  rw [gcp_40, gcp_40, gcp_40, cl_0, cl_40]
  refine ⟨_, rfl, h.1, fun i hi => ?_⟩
  show va_cpy k k' 0 0 40 i = _ ∧ va_cpy w w' 0 0 40 i = _ ∧ va_cpy v v' 0 0 40 i = _
  rw [sb_cpy0 (by omega), sb_cpy0 (by omega), sb_cpy0 (by omega)]
  exact h.2 i hi
/-! the reference's copies -/
theorem n_copies_L {x1 x3 n n0 n2 : Nat} (f : Nat → Int32) (h1 : x1 + n ≤ n0) (h2 : x3 + n ≤ n2) (h3 : n0 < 2 ^ 31) (h4 : n2 < 2 ^ 31) : ∀ (m F i : Nat) (t : Nat → Int32), n - i = m → m < F → i ≤ n → fX8_copies_L3 (nI n) (nI x1) n0 (nI x3) n2 f F (nI i) t = some (fun j => if x3 + i ≤ j ∧ j < x3 + n then f (x1 + (j - x3)) else t j)
  | m, 0, i, t, _, hF, _ => absurd hF (Nat.not_lt_zero m)
  | m, F + 1, i, t, hm, hF, hi => by
    rw [fX8_copies_L3]
    by_cases c : i < n
    · rw [if_neg (nI_ge c (by omega)), nI_add, nI_add, gx_n (by omega) h3, gx_n (by omega) h4, gl_eq, nI_1, nI_clamp (by omega), nI_clamp (by omega), n_copies_L f h1 h2 h3 h4 (m - 1) F (i + 1) _ (by omega) (by omega) c]
      refine congrArg some (funext fun j => ?_)
      by_cases c1 : x3 + (i + 1) ≤ j ∧ j < x3 + n
      · rw [if_pos c1, if_pos ⟨by omega, c1.2⟩]
      · rw [if_neg c1]
        by_cases c2 : j = x3 + i
        · rw [c2, if_pos ⟨Nat.le_refl _, by omega⟩, pk_us, show x3 + i - x3 = i by omega]
        · rw [if_neg (by omega), pk_un c2]
    · rw [if_pos (nI_le (by omega) (by omega))]
      refine congrArg some (funext fun j => ?_)
      rw [if_neg (by omega)]
theorem n_copies {x1 x3 n n0 n2 : Nat} (f t : Nat → Int32) (h1 : x1 + n ≤ n0) (h2 : x3 + n ≤ n2) (h3 : n0 < 2 ^ 31) (h4 : n2 < 2 ^ 31) (hn : n < 20000) : fX8_copies (nI x1) (nI x3) (nI n) n0 f n2 t = some (fun j => if x3 ≤ j ∧ j < x3 + n then f (x1 + (j - x3)) else t j) := by
  unfold fX8_copies
  have e := n_copies_L f h1 h2 h3 h4 n gF 0 t (Nat.sub_zero _) (by unfold gF; omega) (Nat.zero_le _)
  rw [nI_0] at e
  rw [e]
  rfl
