/-! rows and texts -/
def shR (cnt lim : Nat) (sz : Nat → Int32) (M : Nat → Nat → Int32) (msz mr : Nat → Int32) : Prop := ∀ r, r < cnt → sz r = msz r ∧ (sz r = -1 ∨ ∃ n, n ≤ lim ∧ sz r = nI n ∧ ∀ i, i < n → M r i = mr (lim * r + i))
theorem n_names {cnt : Nat} (hc : cnt < 2 ^ 31) (x : Int32) : (∃ r, r < cnt ∧ x = nI r ∧ fX5_names x cnt = some 1) ∨ ((x < 0 ∨ nI cnt ≤ x) ∧ fX5_names x cnt = some 0) := by
  unfold fX5_names
  rw [show Int32.ofNat cnt = nI cnt from rfl]
  rcases pk_ix x hc with h | h | ⟨r, h1, rfl⟩
  · right; exact ⟨Or.inl h, by rw [if_pos h]⟩
  · right
    refine ⟨Or.inr h, ?_⟩
    by_cases c : x < 0
    · rw [if_pos c]
    · rw [if_neg c, if_pos h]
  · left; exact ⟨r, h1, rfl, by rw [if_neg (nI_pos (by omega)), if_neg (nI_ge h1 hc)]⟩
theorem n_inrow {cnt : Nat} {m : Int32} (hc : cnt < 2 ^ 31) (h0 : 0 < cnt) (hm : m = nI (cnt - 1)) (x : Int32) : fX8_in (x.toInt64) (0 : Int64) (m.toInt64) = some (if x < 0 ∨ nI cnt ≤ x then 0 else 1) := by
  rw [n_inL x (0 : Int64) _ ⟨0, by decide⟩ ⟨m, rfl⟩, show (0 : Int64) = (0 : Int32).toInt64 by decide]
  simp only [fa_wide_le]
  congr 1
  rcases pk_ix x hc with h | h | ⟨r, h1, rfl⟩
  · rw [if_neg (fun e => (fa_of_lt h).2.1 e.1), if_pos (Or.inl h)]
  · rw [if_neg, if_pos (Or.inr h)]
    intro e
    have e2 := e.2
    rw [hm, fa_le, nI_toInt (by omega)] at e2
    rw [fa_le, nI_toInt hc] at h
    omega
  · rw [if_pos ⟨nI_pos' (by omega), by rw [hm]; exact nI_le (by omega) (by omega)⟩, if_neg (fun e => e.elim (nI_pos (by omega)) (nI_ge h1 hc))]
theorem n_row (x : Int32) : (∃ r, r < 6 ∧ x = nI r ∧ fX5_names x 6 = some 1 ∧ fX8_isRow x = some 1) ∨ (fX5_names x 6 = some 0 ∧ fX8_isRow x = some 0) := by
  have e : fX8_isRow x = some (if x < 0 ∨ nI 6 ≤ x then 0 else 1) := by
    unfold fX8_isRow
    rw [show (5 : Int64) = (5 : Int32).toInt64 by decide, n_inrow (cnt := 6) (m := 5) (by omega) (by omega) rfl x]
    rfl
  rcases n_names (cnt := 6) (by omega) x with ⟨r, h1, rfl, h3⟩ | ⟨h1, h2⟩
  · left
    exact ⟨r, h1, rfl, h3, by rw [e, if_neg (fun q => q.elim (nI_pos (by omega)) (nI_ge h1 (by omega)))]⟩
  · right; exact ⟨h2, by rw [e, if_pos h1]⟩
theorem n_textn (x : Int32) : (∃ r, r < 4 ∧ x = nI r ∧ fX5_names x 4 = some 1 ∧ fX8_isText x = some 1) ∨ (fX5_names x 4 = some 0 ∧ fX8_isText x = some 0) := by
  have e : fX8_isText x = some (if x < 0 ∨ nI 4 ≤ x then 0 else 1) := by
    unfold fX8_isText
    rw [show (3 : Int64) = (3 : Int32).toInt64 by decide, n_inrow (cnt := 4) (m := 3) (by omega) (by omega) rfl x]
    rfl
  rcases n_names (cnt := 4) (by omega) x with ⟨r, h1, rfl, h3⟩ | ⟨h1, h2⟩
  · left
    exact ⟨r, h1, rfl, h3, by rw [e, if_neg (fun q => q.elim (nI_pos (by omega)) (nI_ge h1 (by omega)))]⟩
  · right; exact ⟨h2, by rw [e, if_pos h1]⟩
theorem n_refuse {k : Nat} (h1 : 1 ≤ k) (h5 : k ≤ 5) (c : Nat → Int32) : fX7_refuse (nI k) c = some (-3, nI k, upd c k (c k + 1)) ∧ fX8_found (nI k) c = some (-3, nI k, upd c k (c k + 1)) := by
  unfold fX7_refuse fX8_found
  rw [show (1 : Int32) = nI 1 from rfl, show (5 : Int32) = nI 5 from rfl, if_neg (nI_nlt h1 (by omega)), if_neg (nI_nlt h5 (by omega)), gx_n (by omega) (by omega), gx_n (by omega) (by omega), nI_clamp (by omega)]
  exact ⟨rfl, rfl⟩
theorem n_size5 {cnt r : Nat} (hr : r < cnt) (hc : cnt < 2 ^ 31) (sz : Nat → Int32) : fX5_size (nI r) cnt sz = some (sz r) := by
  have hn : fX5_names (nI r) cnt = some 1 := by
    unfold fX5_names
    rw [if_neg (nI_pos (by omega)), show Int32.ofNat cnt = nI cnt from rfl, if_neg (nI_ge hr hc)]
  unfold fX5_size
  rw [hn, Option.bind_some, if_neg (by decide), gx_n hr hc, nI_clamp (by omega)]
theorem n_holds {cnt r : Nat} (hr : r < cnt) (hc : cnt < 2 ^ 31) (sz : Nat → Int32) : fX5_holds (nI r) cnt sz = some (if sz r = -1 then 0 else 1) := by
  unfold fX5_holds
  rw [n_size5 hr hc, Option.bind_some]
  by_cases c : sz r = -1
  · rw [if_pos c, if_pos c]
  · rw [if_neg c, if_neg c]
theorem n_reaches {cnt r : Nat} (hr : r < cnt) (hc : cnt < 2 ^ 31) (sz : Nat → Int32) (x : Int32) : fX5_reaches (nI r) x cnt sz = some (if x < 0 ∨ sz r ≤ x then 0 else 1) := by
  unfold fX5_reaches
  by_cases c : x < 0
  · rw [if_pos c, if_pos (Or.inl c)]
  · rw [if_neg c, n_size5 hr hc, Option.bind_some]
    by_cases c2 : sz r ≤ x
    · rw [if_pos c2, if_pos (Or.inr c2)]
    · rw [if_neg c2, if_neg (fun e => e.elim c c2)]
theorem m1_neg : (-1 : Int32) < 0 := by decide
theorem nI_nm1 {n : Nat} (h : n < 2 ^ 31) : ¬ nI n = (-1 : Int32) := fun e => by
  have h1 : (nI n).toInt = (n : Int) := nI_toInt h
  rw [e] at h1
  have h2 : (-1 : Int32).toInt = -1 := by decide
  omega
/-- the class's tests of a row and of a place -/
theorem n_refM {cnt r : Nat} (hr : r < cnt) (hc : cnt < 2 ^ 31) {x : Int32} (hx : x = nI r) (sz : Nat → Int32) (v : Int32) (c : Nat → Int32) : fX7_refuseMissing x cnt sz v c = some (if sz r = -1 then (-3, 1, upd c 1 (c 1 + 1)) else (0, v, c)) := by
  subst hx
  have hn : fX5_names (nI r) cnt = some 1 := by
    unfold fX5_names
    rw [if_neg (nI_pos (by omega)), show Int32.ofNat cnt = nI cnt from rfl, if_neg (nI_ge hr hc)]
  have h1 := (n_refuse (k := 1) (by omega) (by omega) c).1
  have h1' : fX7_refuse (1 : Int32) c = some (-3, nI 1, upd c 1 (c 1 + 1)) := h1
  unfold fX7_refuseMissing
  rw [hn, Option.bind_some, if_neg (by decide), n_holds hr hc, Option.bind_some]
  by_cases q : sz r = -1
  · rw [if_pos q, if_pos rfl, h1', if_pos q]; rfl
  · rw [if_neg q, if_neg (by decide), if_neg q]
theorem n_refP {cnt r : Nat} (hr : r < cnt) (hc : cnt < 2 ^ 31) {x : Int32} (hx : x = nI r) (sz : Nat → Int32) (v : Int32) (c : Nat → Int32) (y : Int32) : fX7_refusePlace x y cnt sz v c = some (if sz r = -1 then (-3, 1, upd c 1 (c 1 + 1)) else if y < 0 ∨ sz r ≤ y then (-3, 2, upd c 2 (c 2 + 1)) else (0, v, c)) := by
  unfold fX7_refusePlace
  rw [n_refM hr hc hx, Option.bind_some]
  subst hx
  by_cases q : sz r = -1
  · rw [if_pos q, if_pos q, if_neg (show ¬ (-3 : Int32) = 0 by decide)]
  · rw [if_neg q, if_neg q, if_pos rfl, n_reaches hr hc, Option.bind_some]
    by_cases q2 : y < 0 ∨ sz r ≤ y
    · have h2 : fX7_refuse (2 : Int32) c = some (-3, nI 2, upd c 2 (c 2 + 1)) := (n_refuse (k := 2) (by omega) (by omega) c).1
      rw [if_pos q2, if_pos q2, if_pos rfl, h2]; rfl
    · rw [if_neg q2, if_neg q2, if_neg (by decide)]
/-- the reference's test of a place, of a row that is there -/
theorem n_inM {n : Nat} (hn : n < 2 ^ 30) (y : Int32) : fX8_in (y.toInt64) (0 : Int64) (((nI n - (1 : Int32))).toInt64) = some (if y < 0 ∨ nI n ≤ y then 0 else 1) := by
  by_cases h0 : n = 0
  · subst h0
    rw [n_inL y (0 : Int64) _ ⟨0, by decide⟩ ⟨_, rfl⟩, show (0 : Int64) = (0 : Int32).toInt64 by decide]
    simp only [fa_wide_le]
    congr 1
    rw [if_neg, if_pos]
    · rw [nI_0]
      by_cases c : y < 0
      · exact Or.inl c
      · exact Or.inr (fa_of_nlt c)
    · intro e
      have e1 := e.1
      have e2 := e.2
      rw [fa_le] at e1 e2
      have q1 : (0 : Int32).toInt = 0 := rfl
      have q2 : (nI 0 - (1 : Int32)).toInt = -1 := by decide
      omega
  · exact n_inrow (by omega) (by omega) (pk_sub (a := n) (b := 1) (by omega)) y
