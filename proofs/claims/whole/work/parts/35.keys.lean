/-! what the deeds do to the keys, on both sides -/
theorem n_ins6 {l : KL} {sz : Int32} {w v : Nat → Int32} (hC : keyC l sz w v) (hg : kgood l) {x y : Nat} (hx : x < 2 ^ 27) (hr : l.length < 48 ∨ kH l x) : ∃ r, fX1_insert (nI x) (nI y) sz w v = some r ∧ keyC (kput l x y) r.1 r.2.1 r.2.2 := by
  have h48 := hg.1
  have hp := ah_le x l
  unfold fX1_insert
  rw [n_ah6 hC hg (by omega), Option.bind_some]
  have e1 : (if sz ≤ nI (ah x l) then (some (1 : Int32)) else (gx (nI (ah x l)) 48 (if (w (nI (ah x l)).toNatClampNeg) = nI x then (some (0 : Int32)) else (some (1 : Int32))))) = some (if kH l x then 0 else 1) := by
    rw [hC.1]
    by_cases c : ah x l < l.length
    · have hb := hg.lt c
      rw [if_neg (nI_ge c (by omega)), gx_n (by omega) (by omega), nI_clamp (by omega), hC.2.1 _ c]
      by_cases c2 : kW l (ah x l) = x
      · rw [if_pos (by rw [c2]), if_pos ⟨c, c2⟩]
      · rw [if_neg (fun e => c2 ((nI_eq (by omega) (by omega)).mp e)), if_neg (fun e : kH l x => c2 e.2)]
    · rw [if_pos (nI_le (by omega) (by omega)), if_neg (fun e : kH l x => c e.1)]
  rw [e1, Option.bind_some]
  by_cases c : kH l x
  · rw [if_pos c, if_pos rfl]
    unfold fX1_insert_J46
    rw [if_pos rfl, Option.bind_some, gx_n (by have := c.1; omega) (by omega), gx_n (by have := c.1; omega) (by omega), nI_clamp (by omega)]
    refine ⟨_, rfl, ?_⟩
    have e : kput l x y = l.set (ah x l) (x, y) := if_pos c
    rw [e]
    refine ⟨by rw [List.length_set]; exact hC.1, fun k hk => ?_, fun k hk => ?_⟩
    · rw [List.length_set] at hk
      show upd w (ah x l) (nI x) k = _
      rw [kW_set _ c.1]
      by_cases c2 : k = ah x l
      · rw [if_pos c2, c2, pk_us]
      · rw [if_neg c2, pk_un c2, hC.2.1 k hk]
    · rw [List.length_set] at hk
      show upd v (ah x l) (nI y) k = _
      rw [kV_set _ c.1]
      by_cases c2 : k = ah x l
      · rw [if_pos c2, c2, pk_us]
      · rw [if_neg c2, pk_un c2, hC.2.2 k hk]
  · have h47 : l.length < 48 := hr.elim id (fun q => absurd q c)
    rw [if_neg c, if_neg (by decide), hC.1, show (48 : Int32) = nI 48 from rfl, if_pos (nI_lt h47 (by omega))]
    unfold fX1_insert_J46
    rw [if_neg (by decide), n_ins6_L (l.length - ah x l) gF l.length w v rfl (by unfold gF; omega) (by omega) hp, Option.bind_some, gl_eq, nI_1, Option.bind_some, gx_n (by omega) (by omega), gx_n (by omega) (by omega), nI_clamp (by omega)]
    refine ⟨_, rfl, ?_⟩
    have e : kput l x y = l.take (ah x l) ++ (x, y) :: l.drop (ah x l) := if_neg c
    have hlen : (kput l x y).length = l.length + 1 := by rw [kput_len, if_neg c]
    refine ⟨by rw [hlen], fun k hk => ?_, fun k hk => ?_⟩
    · rw [hlen] at hk
      rw [e, kW_ins _ hp]
      show upd (fun j => if ah x l < j ∧ j ≤ l.length then w (j - 1) else w j) (ah x l) (nI x) k = _
      by_cases c2 : k = ah x l
      · rw [c2, pk_us, if_neg (Nat.lt_irrefl _), if_pos rfl]
      · rw [pk_un c2]
        by_cases c3 : k < ah x l
        · rw [if_neg (by omega), if_pos c3, hC.2.1 k (by omega)]
        · rw [if_pos ⟨by omega, by omega⟩, if_neg c3, if_neg c2, hC.2.1 (k - 1) (by omega)]
    · rw [hlen] at hk
      rw [e, kV_ins _ hp]
      show upd (fun j => if ah x l < j ∧ j ≤ l.length then v (j - 1) else v j) (ah x l) (nI y) k = _
      by_cases c2 : k = ah x l
      · rw [c2, pk_us, if_neg (Nat.lt_irrefl _), if_pos rfl]
      · rw [pk_un c2]
        by_cases c3 : k < ah x l
        · rw [if_neg (by omega), if_pos c3, hC.2.2 k (by omega)]
        · rw [if_pos ⟨by omega, by omega⟩, if_neg c3, if_neg c2, hC.2.2 (k - 1) (by omega)]
theorem n_del6 {l : KL} {sz : Int32} {w v : Nat → Int32} (hC : keyC l sz w v) (hg : kgood l) {p m : Nat} (h : p + m ≤ l.length) : ∃ r, fX1_remove (nI p) (nI m) sz w v = some r ∧ keyC (kdel l p m) r.1 r.2.1 r.2.2 := by
  have h48 := hg.1
  unfold fX1_remove
  rw [hC.1, n_del6_L h48 (l.length - (p + m)) gF p w v rfl (by unfold gF; omega) (by omega), Option.bind_some, gl_eq, pk_sub (by omega)]
  refine ⟨_, rfl, by rw [kdel_len h], fun k hk => ?_, fun k hk => ?_⟩
  · rw [kdel_len h] at hk
    rw [kW_del m (by omega)]
    show (if p ≤ k ∧ k + m < l.length then w (k + m) else w k) = _
    by_cases c : k < p
    · rw [if_neg (by omega), if_pos c, hC.2.1 k (by omega)]
    · rw [if_pos ⟨by omega, by omega⟩, if_neg c, hC.2.1 (k + m) (by omega)]
  · rw [kdel_len h] at hk
    rw [kV_del m (by omega)]
    show (if p ≤ k ∧ k + m < l.length then v (k + m) else v k) = _
    by_cases c : k < p
    · rw [if_neg (by omega), if_pos c, hC.2.2 k (by omega)]
    · rw [if_pos ⟨by omega, by omega⟩, if_neg c, hC.2.2 (k + m) (by omega)]
theorem n_ins8 {l : KL} {t : Nat → Int32} (hM : keyM l t) (hg : kgood l) {x y : Nat} (hx : x < 2 ^ 27) (hr : l.length < 48 ∨ kH l x) : ∃ t', fX8_enters (nI x) (nI y) 97 t = some t' ∧ keyM (kput l x y) t' := by
  have h48 := hg.1
  have hp := ah_le x l
  have m9 : ∀ k, k < 2 ^ 31 → ¬ nI k = (-9 : Int32) := fun k hk e => by
    have h1 : (nI k).toInt = (k : Int) := nI_toInt hk
    rw [e] at h1
    have h2 : (-9 : Int32).toInt = -9 := by decide
    omega
  unfold fX8_enters
  rw [n_place8 hM hg (by omega), Option.bind_some]
  by_cases c : kH l x
  · have hlt := c.1
    rw [if_pos c, if_neg (m9 _ (by omega)), Option.bind_some, n_49p, gx_n (by omega) (by omega), nI_clamp (by omega)]
    refine ⟨_, rfl, ?_⟩
    dsimp only
    have e : kput l x y = l.set (ah x l) (x, y) := if_pos c
    rw [e]
    refine ⟨by rw [List.length_set, pk_un (by omega)]; exact hM.1, fun k hk => ?_, fun k hk => ?_⟩
    · rw [List.length_set] at hk
      rw [kW_set _ c.1, pk_un (by omega), hM.2.1 k hk]
      by_cases c2 : k = ah x l
      · rw [if_pos c2, c2, c.2]
      · rw [if_neg c2]
    · rw [List.length_set] at hk
      rw [kV_set _ c.1]
      by_cases c2 : k = ah x l
      · rw [if_pos c2, c2, pk_us]
      · rw [if_neg c2, pk_un (by omega), hM.2.2 k hk]
  · have h47 : l.length < 48 := hr.elim id (fun q => absurd q c)
    rw [if_neg c, if_pos rfl, n_ah8 hM hg (by omega), Option.bind_some, gx_0 (by omega) (by omega), cl_0, gl_eq, hM.1, n_ins8_L (l.length - ah x l) gF l.length t rfl (by unfold gF; omega) (by omega) hp, Option.bind_some, gx_0 (by omega) (by omega), gx_0 (by omega) (by omega), n_1p, gx_n (by omega) (by omega), nI_clamp (by omega), Option.bind_some]
    rw [n_49p, gx_n (by omega) (by omega), nI_clamp (by omega)]
    refine ⟨_, rfl, ?_⟩
    dsimp only
    have e : kput l x y = l.take (ah x l) ++ (x, y) :: l.drop (ah x l) := if_neg c
    have hlen : (kput l x y).length = l.length + 1 := by rw [kput_len, if_neg c]
    refine ⟨?_, fun k hk => ?_, fun k hk => ?_⟩
    · rw [hlen, pk_un (by omega), pk_un (by omega), pk_us, if_neg (by omega), if_neg (by omega), hM.1, nI_1]
    · rw [hlen] at hk
      rw [e, kW_ins _ hp, pk_un (by omega)]
      by_cases c2 : k = ah x l
      · rw [c2, pk_us, if_neg (Nat.lt_irrefl _), if_pos rfl]
      · rw [pk_un (by omega), pk_un (by omega)]
        by_cases c3 : k < ah x l
        · rw [if_neg (by omega), if_neg (by omega), if_pos c3, hM.2.1 k (by omega)]
        · rw [if_pos ⟨by omega, by omega⟩, if_neg c3, if_neg c2, show 1 + k - 1 = 1 + (k - 1) by omega, hM.2.1 (k - 1) (by omega)]
    · rw [hlen] at hk
      rw [e, kV_ins _ hp]
      by_cases c2 : k = ah x l
      · rw [c2, pk_us, if_neg (Nat.lt_irrefl _), if_pos rfl]
      · rw [pk_un (by omega), pk_un (by omega), pk_un (by omega)]
        by_cases c3 : k < ah x l
        · rw [if_neg (by omega), if_neg (by omega), if_pos c3, hM.2.2 k (by omega)]
        · rw [if_neg (by omega), if_pos ⟨by omega, by omega⟩, if_neg c3, if_neg c2, show 49 + k - 1 = 49 + (k - 1) by omega, hM.2.2 (k - 1) (by omega)]
theorem n_del8 {l : KL} {t : Nat → Int32} (hM : keyM l t) (hg : kgood l) {p : Nat} (h : p < l.length) : ∃ t', fX8_leaves (nI p) 97 t = some t' ∧ keyM (kdel l p 1) t' := by
  have h48 := hg.1
  unfold fX8_leaves
  rw [n_del8_L h48 (l.length - (p + 1)) gF p t rfl (by unfold gF; omega) (by omega) hM.1, Option.bind_some, gx_0 (by omega) (by omega), gx_0 (by omega) (by omega), cl_0]
  have hl := kdel_len (l := l) (p := p) (m := 1) (by omega)
  refine ⟨_, rfl, ?_, fun k hk => ?_, fun k hk => ?_⟩
  · rw [pk_us]
    dsimp only
    rw [if_neg (by omega), if_neg (by omega), hM.1, hl]
    exact pk_sub (a := l.length) (b := 1) (by omega)
  · rw [hl] at hk
    rw [kW_del 1 (by omega), pk_un (by omega)]
    by_cases c : k < p
    · rw [if_neg (by omega), if_neg (by omega), if_pos c, hM.2.1 k (by omega)]
    · rw [if_pos ⟨by omega, by omega⟩, if_neg c, show 1 + k + 1 = 1 + (k + 1) by omega, hM.2.1 (k + 1) (by omega)]
  · rw [hl] at hk
    rw [kV_del 1 (by omega), pk_un (by omega)]
    by_cases c : k < p
    · rw [if_neg (by omega), if_neg (by omega), if_pos c, hM.2.2 k (by omega)]
    · rw [if_neg (by omega), if_pos ⟨by omega, by omega⟩, if_neg c, show 49 + k + 1 = 49 + (k + 1) by omega, hM.2.2 (k + 1) (by omega)]
/-! keys that begin with a path -/
theorem k_sand {l : KL} (hg : kgood l) {P i j : Nat} (hP : wok P) (hi : i < l.length) (hj : j < l.length) (hij : i ≤ j) (h1 : P ≤ kW l i) (h2 : whead P (kW l j)) : whead P (kW l i) := by
  have hle : kW l i ≤ kW l j := by
    rcases Nat.lt_or_ge i j with q | q
    · exact Nat.le_of_lt (hg.2.2 i j q hj)
    · rw [show i = j by omega]; exact Nat.le_refl _
  have h3 := (whead_iff hP (hg.ok hj)).mp h2
  refine (whead_iff hP (hg.ok hi)).mpr ⟨h1, ?_⟩
  have a1 := wpre_mono (k := P % 8) h1
  have a2 := wpre_mono (k := P % 8) hle
  omega
/-- how many keys begin with a path -/
def kun (l : KL) (P : Nat) : Nat := fb_ct (fun k => decide (whead P (kW l k))) l.length
def isEn (l : KL) (P r : Nat) : Prop := ah P l ≤ r ∧ r ≤ l.length ∧ (∀ k, ah P l ≤ k → k < r → whead P (kW l k)) ∧ (r < l.length → ¬ whead P (kW l r))
theorem isEn_iff {l : KL} (hg : kgood l) {P r : Nat} (hP : wok P) (h : isEn l P r) {k : Nat} (hk : k < l.length) : whead P (kW l k) ↔ ah P l ≤ k ∧ k < r := by
  obtain ⟨a1, a2, a3⟩ := ah_is P l
  constructor
  · intro q
    have q1 := ((whead_iff hP (hg.ok hk)).mp q).1
    refine ⟨?_, ?_⟩
    · rcases Nat.lt_or_ge k (ah P l) with z | z
      · have := a2 k z; omega
      · exact z
    · rcases Nat.lt_or_ge k r with z | z
      · exact z
      · have hr : r < l.length := by omega
        refine absurd (k_sand hg hP hr hk z ?_ q) (h.2.2.2 hr)
        rcases Nat.lt_or_ge (ah P l) r with y | y
        · have h1 := a3 (by omega)
          have h2 := hg.2.2 _ r y hr
          omega
        · have e : r = ah P l := by have := h.1; omega
          rw [e]; exact a3 (by omega)
  · intro q; exact h.2.2.1 k q.1 q.2
theorem fb_ct_iv (p : Nat → Bool) {a r : Nat} : ∀ n, a ≤ r → r ≤ n → (∀ k, k < n → (p k = true ↔ a ≤ k ∧ k < r)) → fb_ct p n = r - a := by
  intro n h1 h2 h
  have z1 : fb_ct p a = 0 := fb_ct_zero.mpr (fun k hk => by
    cases hp : p k with
    | false => rfl
    | true => have := (h k (by omega)).mp hp; omega)
  have e1 : fb_ct p r = r - a := by
    have := fb_ct_split p a (r - a)
    rw [show a + (r - a) = r by omega, z1] at this
    rw [this, Nat.zero_add]
    exact fb_ct_all.mpr (fun k hk => (h (a + k) (by omega)).mpr ⟨by omega, by omega⟩)
  have e2 := fb_ct_split p r (n - r)
  rw [show r + (n - r) = n by omega, e1] at e2
  rw [e2, fb_ct_zero.mpr (fun k hk => by
    cases hp : p (r + k) with
    | false => rfl
    | true => have := (h (r + k) (by omega)).mp hp; omega)]
  rfl
theorem isEn_kun {l : KL} (hg : kgood l) {P r : Nat} (hP : wok P) (h : isEn l P r) : r = ah P l + kun l P := by
  have := fb_ct_iv (fun k => decide (whead P (kW l k))) l.length h.1 h.2.1 (fun k hk => by
    rw [decide_eq_true_iff]; exact isEn_iff hg hP h hk)
  unfold kun
  rw [this]
  have := h.1
  omega
theorem n_beg6_L {l : KL} {sz : Int32} {w v : Nat → Int32} (hC : keyC l sz w v) (hg : kgood l) {P : Nat} (hP : wok P) : ∀ (m F i : Nat), l.length - i = m → m < F → i ≤ l.length → ah P l ≤ i → (∀ k, ah P l ≤ k → k < i → whead P (kW l k)) → fX1_beginningWith_L8 sz (nI P) w F (nI i) = some (nI (ah P l + kun l P))
  | m, 0, i, _, hF, _, _, _ => absurd hF (Nat.not_lt_zero m)
  | m, F + 1, i, hm, hF, hi, hai, hk => by
    have h48 := hg.1
    rw [fX1_beginningWith_L8, hC.1]
    by_cases c : i < l.length
    · rw [if_neg (nI_ge c (by omega)), gx_n (by omega) (by omega), nI_clamp (by omega), hC.2.1 i c, n_isHead hP (hg.ok c), Option.bind_some]
      by_cases c2 : whead P (kW l i)
      · rw [if_pos c2, if_neg (by decide), gl_eq, nI_1, ← hC.1]
        refine n_beg6_L hC hg hP (m - 1) F (i + 1) (by omega) (by omega) c (by omega) (fun k q1 q2 => ?_)
        rcases Nat.lt_or_ge k i with q | q
        · exact hk k q1 q
        · rw [show k = i by omega]; exact c2
      · rw [if_neg c2, if_pos rfl, isEn_kun hg hP ⟨hai, hi, hk, fun _ => c2⟩]
    · rw [if_pos (nI_le (by omega) (by omega)), isEn_kun hg hP ⟨hai, hi, hk, fun q => absurd q c⟩]
theorem n_beg6 {l : KL} {sz : Int32} {w v : Nat → Int32} (hC : keyC l sz w v) (hg : kgood l) {P : Nat} (hP : wok P) : fX1_beginningWith (nI P) sz w = some (nI (kun l P)) := by
  have h48 := hg.1
  have hp := ah_le P l
  have hlt := wok_lt hP
  unfold fX1_beginningWith
  rw [n_ah6 hC hg (by omega), Option.bind_some, n_beg6_L hC hg hP (l.length - ah P l) gF (ah P l) rfl (by unfold gF; omega) hp (Nat.le_refl _) (fun k q1 q2 => by omega), Option.bind_some, pk_sub (by omega), Nat.add_sub_cancel_left]
theorem n_und8_L {l : KL} {t : Nat → Int32} (hM : keyM l t) (hg : kgood l) {P : Nat} (hP : wok P) : ∀ (m F i : Nat), l.length - i = m → m < F → i ≤ l.length → fX8_under_L4 97 t (nI P) F (nI (fb_ct (fun k => decide (whead P (kW l k))) i)) (nI i) = some (nI (kun l P))
  | m, 0, i, _, hF, _ => absurd hF (Nat.not_lt_zero m)
  | m, F + 1, i, hm, hF, hi => by
    have h48 := hg.1
    rw [fX8_under_L4, gx_0 (by omega) (by omega), cl_0, hM.1]
    by_cases c : i < l.length
    · rw [if_neg (nI_ge c (by omega)), n_1p, gx_n (by omega) (by omega), nI_clamp (by omega), hM.2.1 i c, n_begins hP (hg.ok c), Option.bind_some]
      have e : (if (if whead P (kW l i) then (1 : Int32) else 0) = 0 then some (0 : Int32) else some 1) = some (nI (if (decide (whead P (kW l i))) then 1 else 0)) := by
        by_cases c2 : whead P (kW l i)
        · rw [if_pos c2, if_neg (by decide), decide_eq_true c2]; rfl
        · rw [if_neg c2, if_pos rfl, decide_eq_false c2]; rfl
      rw [e, Option.bind_some, gl_eq, nI_add, gl_eq, nI_1]
      exact n_und8_L hM hg hP (m - 1) F (i + 1) (by omega) (by omega) c
    · rw [if_pos (nI_le (by omega) (by omega)), show i = l.length by omega]
      rfl
theorem n_und8 {l : KL} {t : Nat → Int32} (hM : keyM l t) (hg : kgood l) {P : Nat} (hP : wok P) : fX8_under (nI P) 97 t = some (nI (kun l P)) := by
  have h48 := hg.1
  unfold fX8_under
  have e : fX8_under_L4 97 t (nI P) gF (0 : Int32) (0 : Int32) = some (nI (kun l P)) := n_und8_L hM hg hP l.length gF 0 (Nat.sub_zero _) (by unfold gF; omega) (Nat.zero_le _)
  rw [e]
  rfl
