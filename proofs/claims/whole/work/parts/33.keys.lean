/-! lists of keys: a word's number and its value, each; how both sides hold them -/
abbrev KL : Type := List (Nat × Nat)
def kW (l : KL) (k : Nat) : Nat := (l.getD k (0, 0)).1
def kV (l : KL) (k : Nat) : Nat := (l.getD k (0, 0)).2
def kgood (l : KL) : Prop := l.length ≤ 48 ∧ (∀ k, k < l.length → wok (kW l k) ∧ 1 ≤ kW l k % 8 ∧ kV l k ≤ 999) ∧ ∀ i j, i < j → j < l.length → kW l i < kW l j
def keyC (l : KL) (sz : Int32) (w v : Nat → Int32) : Prop := sz = nI l.length ∧ (∀ k, k < l.length → w k = nI (kW l k)) ∧ ∀ k, k < l.length → v k = nI (kV l k)
def keyM (l : KL) (t : Nat → Int32) : Prop := t 0 = nI l.length ∧ (∀ k, k < l.length → t (1 + k) = nI (kW l k)) ∧ ∀ k, k < l.length → t (49 + k) = nI (kV l k)
theorem kgood.lt {l : KL} (h : kgood l) {k : Nat} (hk : k < l.length) : kW l k < 2 ^ 27 := wok_lt (h.2.1 k hk).1
theorem kgood.ok {l : KL} (h : kgood l) {k : Nat} (hk : k < l.length) : wok (kW l k) := (h.2.1 k hk).1
theorem kgood.inj {l : KL} (h : kgood l) {i j : Nat} (hi : i < l.length) (hj : j < l.length) (e : kW l i = kW l j) : i = j := by
  rcases Nat.lt_trichotomy i j with q | q | q
  · have := h.2.2 i j q hj; omega
  · exact q
  · have := h.2.2 j i q hi; omega
theorem kW_cons (q : Nat × Nat) (l : KL) (k : Nat) : kW (q :: l) (k + 1) = kW l k := rfl
theorem kV_cons (q : Nat × Nat) (l : KL) (k : Nat) : kV (q :: l) (k + 1) = kV l k := rfl
theorem kW_get {l : KL} {k : Nat} (h : k < l.length) : kW l k = l[k].1 := by
  unfold kW; rw [List.getD_eq_getElem?_getD, List.getElem?_eq_getElem h]; rfl
theorem kV_get {l : KL} {k : Nat} (h : k < l.length) : kV l k = l[k].2 := by
  unfold kV; rw [List.getD_eq_getElem?_getD, List.getElem?_eq_getElem h]; rfl
theorem kl_ext {l m : KL} (h : l.length = m.length) (h1 : ∀ k, k < l.length → kW l k = kW m k) (h2 : ∀ k, k < l.length → kV l k = kV m k) : l = m := by
  apply List.ext_getElem h
  intro k q1 q2
  have e1 := h1 k q1
  have e2 := h2 k q1
  rw [kW_get q1, kW_get q2] at e1
  rw [kV_get q1, kV_get q2] at e2
  exact Prod.ext e1 e2
/-- how many keys are ahead of a number -/
def isAh (l : KL) (x r : Nat) : Prop := r ≤ l.length ∧ (∀ k, k < r → kW l k < x) ∧ (r < l.length → x ≤ kW l r)
theorem isAh_one {l : KL} {x r r' : Nat} (h : isAh l x r) (h' : isAh l x r') : r = r' := by
  rcases Nat.lt_trichotomy r r' with q | q | q
  · have h1 := h'.2.1 r q
    have h2 := h.2.2 (Nat.lt_of_lt_of_le q h'.1)
    omega
  · exact q
  · have h1 := h.2.1 r' q
    have h2 := h'.2.2 (Nat.lt_of_lt_of_le q h.1)
    omega
def ah (x : Nat) : KL → Nat
  | [] => 0
  | q :: t => if q.1 < x then ah x t + 1 else 0
theorem ah_is (x : Nat) : ∀ l : KL, isAh l x (ah x l)
  | [] => ⟨Nat.le_refl _, fun k h => absurd h (Nat.not_lt_zero k), fun h => absurd h (Nat.lt_irrefl 0)⟩
  | q :: t => by
    obtain ⟨h1, h2, h3⟩ := ah_is x t
    unfold ah
    by_cases c : q.1 < x
    · rw [if_pos c]
      refine ⟨Nat.succ_le_succ h1, fun k hk => ?_, fun hk => h3 (Nat.lt_of_succ_lt_succ hk)⟩
      cases k with
      | zero => exact c
      | succ k => exact h2 k (Nat.lt_of_succ_lt_succ hk)
    · rw [if_neg c]
      exact ⟨Nat.zero_le _, fun k h => absurd h (Nat.not_lt_zero k), fun _ => Nat.not_lt.mp c⟩
theorem ah_le (x : Nat) (l : KL) : ah x l ≤ l.length := (ah_is x l).1
theorem gx_n {β : Type} {k n : Nat} {K : Option β} (h : k < n) (hn : n < 2 ^ 31) : gx (nI k) n K = K := gx_ok (vp_in_nI h hn)
theorem n_ah6_L {l : KL} {sz : Int32} {w v : Nat → Int32} (hC : keyC l sz w v) (hg : kgood l) {x : Nat} (hx : x < 2 ^ 31) : ∀ (m F i : Nat), l.length - i = m → m < F → i ≤ l.length → (∀ k, k < i → kW l k < x) → fX1_aheadOf_L2 sz (nI x) w F (nI i) = some (nI (ah x l))
  | m, 0, i, _, hF, _, _ => absurd hF (Nat.not_lt_zero m)
  | m, F + 1, i, hm, hF, hi, hk => by
    have h48 := hg.1
    rw [fX1_aheadOf_L2, hC.1]
    by_cases c : i < l.length
    · have hb := hg.lt c
      rw [if_neg (nI_ge c (by omega)), gx_n (by omega) (by omega), nI_clamp (by omega), hC.2.1 i c]
      by_cases c2 : kW l i < x
      · rw [if_neg (nI_ge c2 hx), gl_eq, nI_1, ← hC.1]
        refine n_ah6_L hC hg hx (m - 1) F (i + 1) (by omega) (by omega) c (fun k q => ?_)
        rcases Nat.lt_or_ge k i with q1 | q1
        · exact hk k q1
        · rw [show k = i by omega]; exact c2
      · rw [if_pos (nI_le (Nat.not_lt.mp c2) (by omega))]
        rw [isAh_one (ah_is x l) ⟨hi, hk, fun _ => Nat.not_lt.mp c2⟩]
    · rw [if_pos (nI_le (by omega) (by omega))]
      rw [isAh_one (ah_is x l) ⟨hi, hk, fun q => absurd q c⟩]
theorem n_ah6 {l : KL} {sz : Int32} {w v : Nat → Int32} (hC : keyC l sz w v) (hg : kgood l) {x : Nat} (hx : x < 2 ^ 31) : fX1_aheadOf (nI x) sz w = some (nI (ah x l)) := by
  unfold fX1_aheadOf
  have := hg.1
  have e : fX1_aheadOf_L2 sz (nI x) w gF (0 : Int32) = some (nI (ah x l)) := n_ah6_L hC hg hx l.length gF 0 (Nat.sub_zero _) (by unfold gF; omega) (Nat.zero_le _) (fun k h => absurd h (Nat.not_lt_zero k))
  rw [e]
  rfl
theorem cl_0 : ((0 : Int32)).toNatClampNeg = 0 := by decide
theorem gx_0 {β : Type} {n : Nat} {K : Option β} (h : 0 < n) (hn : n < 2 ^ 31) : gx (0 : Int32) n K = K := by
  rw [← nI_0]; exact gx_n h hn
theorem n_1p (k : Nat) : (1 : Int32) + nI k = nI (1 + k) := nI_add 1 k
theorem n_49p (k : Nat) : (49 : Int32) + nI k = nI (49 + k) := nI_add 49 k
theorem n_ah8_L {l : KL} {t : Nat → Int32} (hM : keyM l t) (hg : kgood l) {x : Nat} (hx : x < 2 ^ 31) : ∀ (m F i : Nat), l.length - i = m → m < F → i ≤ l.length → (∀ k, k < i → kW l k < x) → fX8_aheadOf_L2 97 t (nI x) F (nI i) = some (nI (ah x l))
  | m, 0, i, _, hF, _, _ => absurd hF (Nat.not_lt_zero m)
  | m, F + 1, i, hm, hF, hi, hk => by
    have h48 := hg.1
    rw [fX8_aheadOf_L2, gx_0 (by omega) (by omega), cl_0, hM.1]
    by_cases c : i < l.length
    · have hb := hg.lt c
      rw [if_neg (nI_ge c (by omega)), n_1p, gx_n (by omega) (by omega), nI_clamp (by omega), hM.2.1 i c]
      by_cases c2 : kW l i < x
      · rw [if_neg (nI_ge c2 hx), gl_eq, nI_1]
        refine n_ah8_L hM hg hx (m - 1) F (i + 1) (by omega) (by omega) c (fun k q => ?_)
        rcases Nat.lt_or_ge k i with q1 | q1
        · exact hk k q1
        · rw [show k = i by omega]; exact c2
      · rw [if_pos (nI_le (Nat.not_lt.mp c2) (by omega))]
        rw [isAh_one (ah_is x l) ⟨hi, hk, fun _ => Nat.not_lt.mp c2⟩]
    · rw [if_pos (nI_le (by omega) (by omega))]
      rw [isAh_one (ah_is x l) ⟨hi, hk, fun q => absurd q c⟩]
theorem n_ah8 {l : KL} {t : Nat → Int32} (hM : keyM l t) (hg : kgood l) {x : Nat} (hx : x < 2 ^ 31) : fX8_aheadOf (nI x) 97 t = some (nI (ah x l)) := by
  unfold fX8_aheadOf
  have := hg.1
  have e : fX8_aheadOf_L2 97 t (nI x) gF (0 : Int32) = some (nI (ah x l)) := n_ah8_L hM hg hx l.length gF 0 (Nat.sub_zero _) (by unfold gF; omega) (Nat.zero_le _) (fun k h => absurd h (Nat.not_lt_zero k))
  rw [e]
  rfl
/-- is a word among the keys -/
abbrev kH (l : KL) (x : Nat) : Prop := ah x l < l.length ∧ kW l (ah x l) = x
theorem n_has6 {l : KL} {sz : Int32} {w v : Nat → Int32} (hC : keyC l sz w v) (hg : kgood l) {x : Nat} (hx : x < 2 ^ 31) [Decidable (kH l x)] : fX1_has (nI x) sz w = some (if kH l x then 1 else 0) := by
  have h48 := hg.1
  unfold fX1_has
  rw [n_ah6 hC hg hx, Option.bind_some, hC.1]
  by_cases c : ah x l < l.length
  · have hb := hg.lt c
    rw [if_neg (nI_ge c (by omega)), gx_n (by omega) (by omega), nI_clamp (by omega), hC.2.1 _ c]
    by_cases c2 : kW l (ah x l) = x
    · rw [if_pos (by rw [c2]), if_pos ⟨c, c2⟩]
    · rw [if_neg (fun e => c2 ((nI_eq (by omega) hx).mp e)), if_neg (fun e : kH l x => c2 e.2)]
  · rw [if_pos (nI_le (by omega) (by have := ah_le x l; omega)), if_neg (fun e : kH l x => c e.1)]
theorem n_place8 {l : KL} {t : Nat → Int32} (hM : keyM l t) (hg : kgood l) {x : Nat} (hx : x < 2 ^ 31) [Decidable (kH l x)] : fX8_placeOf (nI x) 97 t = some (if kH l x then nI (ah x l) else -9) := by
  have h48 := hg.1
  unfold fX8_placeOf
  rw [n_ah8 hM hg hx, Option.bind_some, gx_0 (by omega) (by omega), cl_0, hM.1]
  by_cases c : ah x l < l.length
  · have hb := hg.lt c
    rw [if_neg (nI_ge c (by omega)), n_1p, gx_n (by omega) (by omega), nI_clamp (by omega), hM.2.1 _ c]
    by_cases c2 : kW l (ah x l) = x
    · rw [if_pos (by rw [c2]), if_pos ⟨c, c2⟩]
    · rw [if_neg (fun e => c2 ((nI_eq (by omega) hx).mp e)), if_neg (fun e : kH l x => c2 e.2)]
  · rw [if_pos (nI_le (by omega) (by have := ah_le x l; omega)), if_neg (fun e : kH l x => c e.1)]
theorem n_value6 {l : KL} {sz : Int32} {w v : Nat → Int32} (hC : keyC l sz w v) (hg : kgood l) {k : Nat} (hk : k < l.length) : fX1_value (nI k) sz v = some (nI (kV l k)) := by
  have h48 := hg.1
  unfold fX1_value
  rw [if_neg (nI_pos (by omega)), hC.1, if_neg (nI_ge hk (by omega)), gx_n (by omega) (by omega), nI_clamp (by omega), hC.2.2 k hk]
theorem n_wordAt6 {l : KL} {sz : Int32} {w v : Nat → Int32} (hC : keyC l sz w v) (hg : kgood l) {k : Nat} (hk : k < l.length) : fX1_word (nI k) sz w = some (nI (kW l k)) := by
  have h48 := hg.1
  unfold fX1_word
  rw [if_neg (nI_pos (by omega)), hC.1, if_neg (nI_ge hk (by omega)), gx_n (by omega) (by omega), nI_clamp (by omega), hC.2.1 k hk]
theorem n_valueOf6 {l : KL} {sz : Int32} {w v : Nat → Int32} (hC : keyC l sz w v) (hg : kgood l) {x : Nat} (hx : x < 2 ^ 31) [Decidable (kH l x)] : fX1_valueOf (nI x) sz w v = some (if kH l x then nI (kV l (ah x l)) else -9) := by
  unfold fX1_valueOf
  rw [n_has6 hC hg hx, Option.bind_some]
  by_cases c : kH l x
  · rw [if_pos c, if_pos c, if_neg (by decide), n_ah6 hC hg hx, Option.bind_some, n_value6 hC hg c.1]
    rfl
  · rw [if_neg c, if_neg c, if_pos rfl]
theorem n_room6 {l : KL} {sz : Int32} {w v : Nat → Int32} (hC : keyC l sz w v) (hg : kgood l) {x : Nat} (hx : x < 2 ^ 31) [Decidable (kH l x)] : fX1_hasRoomFor (nI x) sz w = some (if l.length < 48 ∨ kH l x then 1 else 0) := by
  have h48 := hg.1
  unfold fX1_hasRoomFor
  rw [show (48 : Int32) = nI 48 from rfl]
  by_cases c : l.length < 48
  · rw [hC.1, if_pos (nI_lt c (by omega)), if_pos (Or.inl c)]
  · rw [if_neg (by rw [hC.1]; exact nI_nlt (by omega) (by omega)), n_has6 hC hg hx, Option.bind_some]
    by_cases c2 : kH l x
    · rw [if_pos c2, if_neg (by decide), if_pos (Or.inr c2)]
    · rw [if_neg c2, if_pos rfl, if_neg (fun e => e.elim c c2)]
