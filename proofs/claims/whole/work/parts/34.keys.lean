/-! a key put in, keys taken out -/
theorem kW_ins {l : KL} {p : Nat} (q : Nat × Nat) (hp : p ≤ l.length) (k : Nat) : kW (l.take p ++ q :: l.drop p) k = if k < p then kW l k else if k = p then q.1 else kW l (k - 1) := by
  unfold kW
  simp only [List.getD_eq_getElem?_getD]
  by_cases c : k < p
  · rw [if_pos c, List.getElem?_append_left (by rw [List.length_take]; omega), List.getElem?_take_of_lt c]
  · rw [if_neg c, List.getElem?_append_right (by rw [List.length_take]; omega), List.length_take, Nat.min_eq_left hp]
    by_cases c2 : k = p
    · subst c2; rw [if_pos rfl, Nat.sub_self]; rfl
    · rw [if_neg c2, show k - p = (k - p - 1) + 1 by omega, List.getElem?_cons_succ, List.getElem?_drop, show p + (k - p - 1) = k - 1 by omega]
theorem kV_ins {l : KL} {p : Nat} (q : Nat × Nat) (hp : p ≤ l.length) (k : Nat) : kV (l.take p ++ q :: l.drop p) k = if k < p then kV l k else if k = p then q.2 else kV l (k - 1) := by
  unfold kV
  simp only [List.getD_eq_getElem?_getD]
  by_cases c : k < p
  · rw [if_pos c, List.getElem?_append_left (by rw [List.length_take]; omega), List.getElem?_take_of_lt c]
  · rw [if_neg c, List.getElem?_append_right (by rw [List.length_take]; omega), List.length_take, Nat.min_eq_left hp]
    by_cases c2 : k = p
    · subst c2; rw [if_pos rfl, Nat.sub_self]; rfl
    · rw [if_neg c2, show k - p = (k - p - 1) + 1 by omega, List.getElem?_cons_succ, List.getElem?_drop, show p + (k - p - 1) = k - 1 by omega]
theorem kW_set {l : KL} {p : Nat} (q : Nat × Nat) (hp : p < l.length) (k : Nat) : kW (l.set p q) k = if k = p then q.1 else kW l k := by
  unfold kW
  simp only [List.getD_eq_getElem?_getD]
  by_cases c : k = p
  · subst c; rw [if_pos rfl, List.getElem?_set_self hp]; rfl
  · rw [if_neg c, List.getElem?_set_ne (fun e => c e.symm)]
theorem kV_set {l : KL} {p : Nat} (q : Nat × Nat) (hp : p < l.length) (k : Nat) : kV (l.set p q) k = if k = p then q.2 else kV l k := by
  unfold kV
  simp only [List.getD_eq_getElem?_getD]
  by_cases c : k = p
  · subst c; rw [if_pos rfl, List.getElem?_set_self hp]; rfl
  · rw [if_neg c, List.getElem?_set_ne (fun e => c e.symm)]
def kdel (l : KL) (p m : Nat) : KL := l.take p ++ l.drop (p + m)
theorem kW_del {l : KL} {p : Nat} (m : Nat) (hp : p ≤ l.length) (k : Nat) : kW (kdel l p m) k = if k < p then kW l k else kW l (k + m) := by
  unfold kW kdel
  simp only [List.getD_eq_getElem?_getD]
  by_cases c : k < p
  · rw [if_pos c, List.getElem?_append_left (by rw [List.length_take]; omega), List.getElem?_take_of_lt c]
  · rw [if_neg c, List.getElem?_append_right (by rw [List.length_take]; omega), List.length_take, Nat.min_eq_left hp, List.getElem?_drop, show p + m + (k - p) = k + m by omega]
theorem kV_del {l : KL} {p : Nat} (m : Nat) (hp : p ≤ l.length) (k : Nat) : kV (kdel l p m) k = if k < p then kV l k else kV l (k + m) := by
  unfold kV kdel
  simp only [List.getD_eq_getElem?_getD]
  by_cases c : k < p
  · rw [if_pos c, List.getElem?_append_left (by rw [List.length_take]; omega), List.getElem?_take_of_lt c]
  · rw [if_neg c, List.getElem?_append_right (by rw [List.length_take]; omega), List.length_take, Nat.min_eq_left hp, List.getElem?_drop, show p + m + (k - p) = k + m by omega]
theorem kdel_len {l : KL} {p m : Nat} (h : p + m ≤ l.length) : (kdel l p m).length = l.length - m := by
  unfold kdel; rw [List.length_append, List.length_take, List.length_drop]; omega
/-- the keys with a word put in -/
def kput (l : KL) (x y : Nat) : KL := if kH l x then l.set (ah x l) (x, y) else l.take (ah x l) ++ (x, y) :: l.drop (ah x l)
theorem kput_len {l : KL} {x y : Nat} : (kput l x y).length = if kH l x then l.length else l.length + 1 := by
  unfold kput
  by_cases c : kH l x
  · rw [if_pos c, if_pos c, List.length_set]
  · rw [if_neg c, if_neg c, List.length_append, List.length_take, List.length_cons, List.length_drop]
    have := ah_le x l
    omega
theorem kput_good {l : KL} {x y : Nat} (hg : kgood l) (hx : wok x) (hx1 : 1 ≤ x % 8) (hy : y ≤ 999) (hr : l.length < 48 ∨ kH l x) : kgood (kput l x y) := by
  obtain ⟨a1, a2, a3⟩ := ah_is x l
  by_cases c : kH l x
  · have e : kput l x y = l.set (ah x l) (x, y) := if_pos c
    rw [e]
    refine ⟨by rw [List.length_set]; exact hg.1, fun k hk => ?_, fun i j hij hj => ?_⟩
    · rw [List.length_set] at hk
      rw [kW_set _ c.1, kV_set _ c.1]
      by_cases c2 : k = ah x l
      · rw [if_pos c2, if_pos c2]; exact ⟨hx, hx1, hy⟩
      · rw [if_neg c2, if_neg c2]; exact hg.2.1 k hk
    · rw [List.length_set] at hj
      rw [kW_set _ c.1, kW_set _ c.1]
      have h2 := hg.2.2 i j hij hj
      have h3 := c.2
      by_cases c2 : i = ah x l
      · rw [if_pos c2, if_neg (by omega)]; rw [c2, h3] at h2; exact h2
      · rw [if_neg c2]
        by_cases c4 : j = ah x l
        · rw [if_pos c4]; rw [c4, h3] at h2; exact h2
        · rw [if_neg c4]; exact h2
  · have e : kput l x y = l.take (ah x l) ++ (x, y) :: l.drop (ah x l) := if_neg c
    have hlen : (kput l x y).length = l.length + 1 := by rw [kput_len, if_neg c]
    have hne : ah x l < l.length → x < kW l (ah x l) := fun q => by
      have := a3 q
      rcases Nat.lt_or_ge x (kW l (ah x l)) with r | r
      · exact r
      · exact absurd ⟨q, by omega⟩ c
    have hup : ∀ k, ah x l ≤ k → k < l.length → x < kW l k := fun k q1 q2 => by
      have h1 := hne (by omega)
      rcases Nat.lt_or_ge (ah x l) k with r | r
      · have := hg.2.2 _ k r q2; omega
      · rw [show k = ah x l by omega]; exact h1
    refine ⟨?_, fun k hk => ?_, fun i j hij hj => ?_⟩
    · rw [hlen]; rcases hr with q | q
      · omega
      · exact absurd q c
    · rw [hlen] at hk
      rw [e, kW_ins _ a1, kV_ins _ a1]
      by_cases c2 : k < ah x l
      · rw [if_pos c2, if_pos c2]; exact hg.2.1 k (by omega)
      · rw [if_neg c2, if_neg c2]
        by_cases c3 : k = ah x l
        · rw [if_pos c3, if_pos c3]; exact ⟨hx, hx1, hy⟩
        · rw [if_neg c3, if_neg c3]; exact hg.2.1 (k - 1) (by omega)
    · rw [hlen] at hj
      rw [e, kW_ins _ a1, kW_ins _ a1]
      by_cases c2 : i < ah x l
      · rw [if_pos c2]
        have h1 := a2 i c2
        by_cases c3 : j < ah x l
        · rw [if_pos c3]; exact hg.2.2 i j hij (by omega)
        · rw [if_neg c3]
          by_cases c4 : j = ah x l
          · rw [if_pos c4]; exact h1
          · rw [if_neg c4]; have := hup (j - 1) (by omega) (by omega); omega
      · rw [if_neg c2, if_neg (show ¬ j < ah x l by omega), if_neg (show ¬ j = ah x l by omega)]
        by_cases c3 : i = ah x l
        · rw [if_pos c3]; exact hup (j - 1) (by omega) (by omega)
        · rw [if_neg c3]; exact hg.2.2 (i - 1) (j - 1) (by omega) (by omega)
theorem kdel_good {l : KL} {p m : Nat} (hg : kgood l) (h : p + m ≤ l.length) : kgood (kdel l p m) := by
  have hl := kdel_len h
  refine ⟨by rw [hl]; have := hg.1; omega, fun k hk => ?_, fun i j hij hj => ?_⟩
  · rw [hl] at hk
    rw [kW_del m (by omega), kV_del m (by omega)]
    by_cases c : k < p
    · rw [if_pos c, if_pos c]; exact hg.2.1 k (by omega)
    · rw [if_neg c, if_neg c]; exact hg.2.1 (k + m) (by omega)
  · rw [hl] at hj
    rw [kW_del m (by omega), kW_del m (by omega)]
    by_cases c : i < p
    · rw [if_pos c]
      by_cases c2 : j < p
      · rw [if_pos c2]; exact hg.2.2 i j hij (by omega)
      · rw [if_neg c2]; exact hg.2.2 i (j + m) (by omega) (by omega)
    · rw [if_neg c, if_neg (by omega)]; exact hg.2.2 (i + m) (j + m) (by omega) (by omega)
/-! the loops that move -/
theorem n_ins6_L {p : Nat} : ∀ (m F i : Nat) (w v : Nat → Int32), i - p = m → m < F → i ≤ 47 → p ≤ i → fX1_insert_L57 (nI p) F (nI i) w v = some (fun j => if p < j ∧ j ≤ i then w (j - 1) else w j, fun j => if p < j ∧ j ≤ i then v (j - 1) else v j)
  | m, 0, i, w, v, _, hF, _, _ => absurd hF (Nat.not_lt_zero m)
  | m, F + 1, i, w, v, hm, hF, hi, hp => by
    rw [fX1_insert_L57]
    by_cases c : i ≤ p
    · have e : ∀ f : Nat → Int32, f = fun j => if p < j ∧ j ≤ i then f (j - 1) else f j := fun f => by
        funext j; rw [if_neg (by omega)]
      rw [if_pos (nI_le c (by omega))]
      exact congrArg some (Prod.ext (e w) (e v))
    · have h1 : nI i - (1 : Int32) = nI (i - 1) := pk_sub (a := i) (b := 1) (by omega)
      have h2 : nI i + (-1) = nI (i - 1) := sb_m1 (by omega)
      rw [if_neg (nI_ge (by omega) (by omega)), h1, h2, gx_n (by omega) (by omega), gx_n (by omega) (by omega), gx_n (by omega) (by omega), gx_n (by omega) (by omega), gl_eq, nI_clamp (by omega), nI_clamp (by omega), n_ins6_L (m - 1) F (i - 1) _ _ (by omega) (by omega) (by omega) (by omega)]
      have e : ∀ f : Nat → Int32, (fun j => if p < j ∧ j ≤ i - 1 then upd f i (f (i - 1)) (j - 1) else upd f i (f (i - 1)) j) = fun j => if p < j ∧ j ≤ i then f (j - 1) else f j := fun f => by
        funext j
        by_cases c1 : p < j ∧ j ≤ i - 1
        · rw [if_pos c1, if_pos ⟨c1.1, by omega⟩, pk_un (by omega)]
        · rw [if_neg c1]
          by_cases c2 : j = i
          · rw [c2, if_pos ⟨by omega, Nat.le_refl _⟩, pk_us]
          · rw [if_neg (by omega), pk_un c2]
      exact congrArg some (Prod.ext (e w) (e v))
theorem n_del6_L {n m : Nat} (hn : n ≤ 48) : ∀ (r F i : Nat) (w v : Nat → Int32), n - (i + m) = r → r < F → i + m ≤ 96 → fX1_remove_L2 (nI n) (nI m) F (nI i) w v = some (fun j => if i ≤ j ∧ j + m < n then w (j + m) else w j, fun j => if i ≤ j ∧ j + m < n then v (j + m) else v j)
  | r, 0, i, w, v, _, hF, _ => absurd hF (Nat.not_lt_zero r)
  | r, F + 1, i, w, v, hr, hF, hi => by
    rw [fX1_remove_L2, nI_add]
    by_cases c : n ≤ i + m
    · have e : ∀ f : Nat → Int32, f = fun j => if i ≤ j ∧ j + m < n then f (j + m) else f j := fun f => by
        funext j; rw [if_neg (by omega)]
      rw [if_pos (nI_le c (by omega))]
      exact congrArg some (Prod.ext (e w) (e v))
    · rw [if_neg (nI_ge (by omega) (by omega)), gx_n (by omega) (by omega), gx_n (by omega) (by omega), gx_n (by omega) (by omega), gx_n (by omega) (by omega), gl_eq, nI_1, nI_clamp (by omega), nI_clamp (by omega), n_del6_L hn (r - 1) F (i + 1) _ _ (by omega) (by omega) (by omega)]
      have e : ∀ f : Nat → Int32, (fun j => if i + 1 ≤ j ∧ j + m < n then upd f i (f (i + m)) (j + m) else upd f i (f (i + m)) j) = fun j => if i ≤ j ∧ j + m < n then f (j + m) else f j := fun f => by
        funext j
        by_cases c1 : i + 1 ≤ j ∧ j + m < n
        · rw [if_pos c1, if_pos ⟨by omega, c1.2⟩, pk_un (by omega)]
        · rw [if_neg c1]
          by_cases c2 : j = i
          · rw [c2, if_pos ⟨Nat.le_refl _, by omega⟩, pk_us]
          · rw [if_neg (by omega), pk_un c2]
      exact congrArg some (Prod.ext (e w) (e v))
theorem n_ins8_L {p : Nat} : ∀ (m F i : Nat) (t : Nat → Int32), i - p = m → m < F → i ≤ 47 → p ≤ i → fX8_enters_L23 (nI p) 97 F (nI i) t = some (fun j => if p + 1 < j ∧ j ≤ i + 1 then t (j - 1) else if p + 49 < j ∧ j ≤ i + 49 then t (j - 1) else t j)
  | m, 0, i, t, _, hF, _, _ => absurd hF (Nat.not_lt_zero m)
  | m, F + 1, i, t, hm, hF, hi, hp => by
    rw [fX8_enters_L23]
    by_cases c : i ≤ p
    · rw [if_pos (nI_le c (by omega))]
      refine congrArg some (funext fun j => ?_)
      rw [if_neg (by omega), if_neg (by omega)]
    · have h1 : (1 : Int32) + nI i - (1 : Int32) = nI i := by rw [n_1p]; exact (pk_sub (a := 1 + i) (b := 1) (by omega)).trans (congrArg nI (by omega))
      have h2 : (49 : Int32) + nI i - (1 : Int32) = nI (48 + i) := by rw [n_49p]; exact (pk_sub (a := 49 + i) (b := 1) (by omega)).trans (congrArg nI (by omega))
      have h3 : nI i + (-1) = nI (i - 1) := sb_m1 (by omega)
      rw [if_neg (nI_ge (by omega) (by omega)), h1, h2, h3, n_1p, n_49p, gx_n (by omega) (by omega), gx_n (by omega) (by omega), gx_n (by omega) (by omega), gx_n (by omega) (by omega), gl_eq, nI_clamp (by omega), nI_clamp (by omega), nI_clamp (by omega), nI_clamp (by omega), n_ins8_L (m - 1) F (i - 1) _ (by omega) (by omega) (by omega) (by omega)]
      refine congrArg some (funext fun j => ?_)
      have a1 : upd t (1 + i) (t i) (48 + i) = t (48 + i) := pk_un (by omega)
      rw [a1]
      by_cases c1 : p + 1 < j ∧ j ≤ i - 1 + 1
      · rw [if_pos c1, if_pos ⟨c1.1, by omega⟩, pk_un (by omega), pk_un (by omega)]
      · rw [if_neg c1]
        by_cases c2 : p + 49 < j ∧ j ≤ i - 1 + 49
        · rw [if_pos c2, if_neg (by omega), if_pos ⟨c2.1, by omega⟩, pk_un (by omega), pk_un (by omega)]
        · rw [if_neg c2]
          by_cases c3 : j = 1 + i
          · rw [c3, if_pos ⟨by omega, by omega⟩, pk_un (by omega), pk_us, show 1 + i - 1 = i by omega]
          · by_cases c4 : j = 49 + i
            · rw [c4, if_neg (by omega), if_pos ⟨by omega, by omega⟩, pk_us, show 49 + i - 1 = 48 + i by omega]
            · rw [pk_un c4, pk_un c3, if_neg (by omega), if_neg (by omega)]
theorem n_del8_L {n : Nat} (hn : n ≤ 48) : ∀ (r F i : Nat) (t : Nat → Int32), n - (i + 1) = r → r < F → i ≤ 48 → t 0 = nI n → fX8_leaves_L2 97 F (nI i) t = some (fun j => if i + 1 ≤ j ∧ j < n then t (j + 1) else if i + 49 ≤ j ∧ j < n + 48 then t (j + 1) else t j)
  | r, 0, i, t, _, hF, _, _ => absurd hF (Nat.not_lt_zero r)
  | r, F + 1, i, t, hr, hF, hi, h0 => by
    rw [fX8_leaves_L2, gx_0 (by omega) (by omega), cl_0, h0, nI_1]
    by_cases c : n ≤ i + 1
    · rw [if_pos (nI_le c (by omega))]
      refine congrArg some (funext fun j => ?_)
      rw [if_neg (by omega), if_neg (by omega)]
    · have h1 : (1 : Int32) + nI i + (1 : Int32) = nI (2 + i) := by rw [n_1p, nI_1]; exact congrArg nI (by omega)
      have h2 : (49 : Int32) + nI i + (1 : Int32) = nI (50 + i) := by rw [n_49p, nI_1]; exact congrArg nI (by omega)
      rw [if_neg (nI_ge (by omega) (by omega)), h1, h2, n_1p, n_49p, gx_n (by omega) (by omega), gx_n (by omega) (by omega), gx_n (by omega) (by omega), gx_n (by omega) (by omega), gl_eq, nI_clamp (by omega), nI_clamp (by omega), nI_clamp (by omega), nI_clamp (by omega)]
      have a1 : upd t (1 + i) (t (2 + i)) (50 + i) = t (50 + i) := pk_un (by omega)
      rw [a1, n_del8_L hn (r - 1) F (i + 1) _ (by omega) (by omega) (by omega) (by rw [pk_un (by omega), pk_un (by omega)]; exact h0)]
      refine congrArg some (funext fun j => ?_)
      by_cases c1 : i + 1 + 1 ≤ j ∧ j < n
      · rw [if_pos c1, if_pos ⟨by omega, c1.2⟩, pk_un (by omega), pk_un (by omega)]
      · rw [if_neg c1]
        by_cases c2 : i + 1 + 49 ≤ j ∧ j < n + 48
        · rw [if_pos c2, if_neg (by omega), if_pos ⟨by omega, c2.2⟩, pk_un (by omega), pk_un (by omega)]
        · rw [if_neg c2]
          by_cases c3 : j = 1 + i
          · rw [c3, if_pos ⟨by omega, by omega⟩, pk_un (by omega), pk_us, show 1 + i + 1 = 2 + i by omega]
          · by_cases c4 : j = 49 + i
            · rw [c4, if_neg (by omega), if_pos ⟨by omega, by omega⟩, pk_us, show 49 + i + 1 = 50 + i by omega]
            · rw [pk_un c4, pk_un c3, if_neg (by omega), if_neg (by omega)]
