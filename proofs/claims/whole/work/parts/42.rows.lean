/-! what rows answer -/
theorem shR_up {cnt lim : Nat} {sz : Nat → Int32} {M : Nat → Nat → Int32} {msz mr : Nat → Int32} (h : shR cnt lim sz M msz mr) {r n i : Nat} (hr : r < cnt) (hn : sz r = nI n) (hnl : n ≤ lim) (hlb : lim < 2 ^ 31) (hi : i < n) (v : Int32) : shR cnt lim sz (gmu M r (upd (M r) i v)) msz (upd mr (lim * r + i) v) := by
  intro r' hr'
  obtain ⟨h1, h2⟩ := h r' hr'
  refine ⟨h1, h2.elim Or.inl (fun ⟨n', a1, a2, a3⟩ => Or.inr ⟨n', a1, a2, fun j hj => ?_⟩)⟩
  unfold gmu
  by_cases c : r' = r
  · subst c
    rw [if_pos rfl]
    by_cases c2 : j = i
    · subst c2; rw [pk_us, pk_us]
    · rw [pk_un c2, pk_un (by omega)]; exact a3 j hj
  · rw [if_neg c, pk_un, a3 j hj]
    intro e
    have hj2 : j < lim := by omega
    have hi2 : i < lim := by omega
    rcases Nat.lt_or_ge r' r with q | q
    · have : lim * (r' + 1) ≤ lim * r := Nat.mul_le_mul_left lim q
      rw [Nat.mul_add, Nat.mul_one] at this
      omega
    · have : lim * (r + 1) ≤ lim * r' := Nat.mul_le_mul_left lim (by omega)
      rw [Nat.mul_add, Nat.mul_one] at this
      omega
theorem e_lay {sz : Nat → Int32} {M : Nat → Nat → Int32} {msz mr : Nat → Int32} (h : shR 6 40 sz M msz mr) (a b v told fnd : Int32) (cn : Nat → Int32) : ∃ rn rm, fX7_lay a b v told fnd sz cn M = some rn ∧ fX8_lay a b v told fnd msz mr cn = some rm ∧ rn.1 = rm.1 ∧ rn.2.1 = rm.2.1 ∧ rn.2.2.1 = rm.2.2.1 ∧ rn.2.2.2.1 = rm.2.2.2.2 ∧ shR 6 40 sz rn.2.2.2.2 msz rm.2.2.2.1 := by
  unfold fX7_lay fX8_lay
  rcases n_row a with ⟨r, hr, rfl, hn1, hn2⟩ | ⟨hn1, hn2⟩
  · obtain ⟨e1, e2⟩ := h r hr
    rw [n_refP hr (by omega) rfl, Option.bind_some, hn2, Option.bind_some, if_neg (show ¬ (1 : Int32) = 0 by decide), gx_n hr (by omega), nI_clamp (by omega), ← e1]
    have f1 : fX8_found (1 : Int32) cn = some (-3, nI 1, upd cn 1 (cn 1 + 1)) := (n_refuse (k := 1) (by omega) (by omega) cn).2
    have f2 : fX8_found (2 : Int32) cn = some (-3, nI 2, upd cn 2 (cn 2 + 1)) := (n_refuse (k := 2) (by omega) (by omega) cn).2
    rcases e2 with q | ⟨n, q1, q2, q3⟩
    · rw [if_pos q, if_neg (show ¬ (-3 : Int32) = 0 by decide), q, if_neg (by decide), f1]
      exact ⟨_, _, rfl, rfl, rfl, rfl, rfl, rfl, h⟩
    · have hne : ¬ sz r = -1 := by rw [q2]; exact nI_nm1 (by omega)
      rw [if_neg hne, q2, if_pos (nI_pos' (by omega)), n_inM (by omega), gx_n hr (by omega), Option.bind_some]
      by_cases c : b < 0 ∨ nI n ≤ b
      · rw [if_pos c, if_pos c, if_neg (show ¬ (-3 : Int32) = 0 by decide), if_pos rfl, f2]
        exact ⟨_, _, rfl, rfl, rfl, rfl, rfl, rfl, h⟩
      · rw [if_neg c, if_neg c, if_pos rfl, if_neg (by decide)]
        rcases pk_ix b (n := n) (by omega) with z | z | ⟨i, hi, rfl⟩
        · exact absurd (Or.inl z) c
        · exact absurd (Or.inr z) c
        · have ei : (40 : Int32) * nI r + nI i = nI (40 * r + i) := by rw [show (40 : Int32) = nI 40 from rfl, pk_mul, nI_add]
          have e5 : fX5_reaches (nI r) (nI i) 6 sz = some 1 := by
            rw [n_reaches hr (by omega), q2, if_neg c]
          unfold fX5_replace
          rw [e5, Option.bind_some, if_neg (show ¬ (1 : Int32) = 0 by decide), gx_n hr (by omega), gx_n (by omega) (by omega), gl_eq, gx_n hr (by omega), gx_n (by omega) (by omega), Option.bind_some, ei, gx_n (by omega) (by omega), gl_eq, gx_n (by omega) (by omega), nI_clamp (by omega), nI_clamp (by omega), nI_clamp (by omega)]
          unfold fX8_tell
          rw [Option.bind_some]
          exact ⟨_, _, rfl, rfl, rfl, q3 i hi, rfl, rfl, shR_up h hr q2 q1 (by omega) hi v⟩
  · have e : fX7_refusePlace a b 6 sz fnd cn = some (-1, fnd, cn) := by
      unfold fX7_refusePlace fX7_refuseMissing
      rw [hn1, Option.bind_some, if_pos rfl, Option.bind_some, if_neg (show ¬ (-1 : Int32) = 0 by decide)]
    rw [e, Option.bind_some, if_neg (show ¬ (-1 : Int32) = 0 by decide), hn2, Option.bind_some, if_pos rfl]
    exact ⟨_, _, rfl, rfl, rfl, rfl, rfl, rfl, h⟩
theorem e_at {sz : Nat → Int32} {M : Nat → Nat → Int32} {msz mr : Nat → Int32} (h : shR 6 40 sz M msz mr) (a b told fnd : Int32) (cn : Nat → Int32) : ∃ rn rm, fX7_at a b told fnd sz cn M = some rn ∧ fX8_at a b told fnd msz cn mr = some rm ∧ rn.1 = rm.1 ∧ rn.2.1 = rm.2.1 ∧ rn.2.2.1 = rm.2.2.1 ∧ rn.2.2.2 = rm.2.2.2 := by
  unfold fX7_at fX8_at
  rcases n_row a with ⟨r, hr, rfl, hn1, hn2⟩ | ⟨hn1, hn2⟩
  · obtain ⟨e1, e2⟩ := h r hr
    rw [n_refP hr (by omega) rfl, Option.bind_some, hn2, Option.bind_some, if_neg (show ¬ (1 : Int32) = 0 by decide), gx_n hr (by omega), nI_clamp (by omega), ← e1]
    have f1 : fX8_found (1 : Int32) cn = some (-3, nI 1, upd cn 1 (cn 1 + 1)) := (n_refuse (k := 1) (by omega) (by omega) cn).2
    have f2 : fX8_found (2 : Int32) cn = some (-3, nI 2, upd cn 2 (cn 2 + 1)) := (n_refuse (k := 2) (by omega) (by omega) cn).2
    rcases e2 with q | ⟨n, q1, q2, q3⟩
    · rw [if_pos q, if_neg (show ¬ (-3 : Int32) = 0 by decide), q, if_neg (by decide), f1]
      exact ⟨_, _, rfl, rfl, rfl, rfl, rfl, rfl⟩
    · have hne : ¬ sz r = -1 := by rw [q2]; exact nI_nm1 (by omega)
      rw [if_neg hne, q2, if_pos (nI_pos' (by omega)), n_inM (by omega), gx_n hr (by omega), Option.bind_some]
      by_cases c : b < 0 ∨ nI n ≤ b
      · rw [if_pos c, if_pos c, if_neg (show ¬ (-3 : Int32) = 0 by decide), if_pos rfl, f2]
        exact ⟨_, _, rfl, rfl, rfl, rfl, rfl, rfl⟩
      · rw [if_neg c, if_neg c, if_pos rfl, if_neg (by decide)]
        rcases pk_ix b (n := n) (by omega) with z | z | ⟨i, hi, rfl⟩
        · exact absurd (Or.inl z) c
        · exact absurd (Or.inr z) c
        · have ei : (40 : Int32) * nI r + nI i = nI (40 * r + i) := by rw [show (40 : Int32) = nI 40 from rfl, pk_mul, nI_add]
          have e5 : fX5_reaches (nI r) (nI i) 6 sz = some 1 := by
            rw [n_reaches hr (by omega), q2, if_neg c]
          unfold fX5_cell
          rw [e5, Option.bind_some, if_neg (show ¬ (1 : Int32) = 0 by decide), gx_n hr (by omega), gx_n (by omega) (by omega), Option.bind_some, ei, gx_n (by omega) (by omega), nI_clamp (by omega), nI_clamp (by omega), nI_clamp (by omega)]
          unfold fX8_tell
          rw [Option.bind_some]
          exact ⟨_, _, rfl, rfl, rfl, q3 i hi, rfl, rfl⟩
  · have e : fX7_refusePlace a b 6 sz fnd cn = some (-1, fnd, cn) := by
      unfold fX7_refusePlace fX7_refuseMissing
      rw [hn1, Option.bind_some, if_pos rfl, Option.bind_some, if_neg (show ¬ (-1 : Int32) = 0 by decide)]
    rw [e, Option.bind_some, if_neg (show ¬ (-1 : Int32) = 0 by decide), hn2, Option.bind_some, if_pos rfl]
    exact ⟨_, _, rfl, rfl, rfl, rfl, rfl, rfl⟩
theorem e_tear {sz : Nat → Int32} {M : Nat → Nat → Int32} {msz mr : Nat → Int32} (h : shR 6 40 sz M msz mr) (a fnd : Int32) (cn : Nat → Int32) : ∃ rn rm, fX7_tear a fnd sz cn = some rn ∧ fX8_tear a fnd msz cn = some rm ∧ rn.1 = rm.1 ∧ rn.2.1 = rm.2.1 ∧ rn.2.2.2 = rm.2.2.2 ∧ shR 6 40 rn.2.2.1 M rm.2.2.1 mr := by
  unfold fX7_tear fX8_tear
  rcases n_row a with ⟨r, hr, rfl, hn1, hn2⟩ | ⟨hn1, hn2⟩
  · obtain ⟨e1, e2⟩ := h r hr
    rw [n_refM hr (by omega) rfl, Option.bind_some, hn2, Option.bind_some, if_neg (show ¬ (1 : Int32) = 0 by decide), gx_n hr (by omega), nI_clamp (by omega), ← e1]
    have f1 : fX8_found (1 : Int32) cn = some (-3, nI 1, upd cn 1 (cn 1 + 1)) := (n_refuse (k := 1) (by omega) (by omega) cn).2
    rcases e2 with q | ⟨n, q1, q2, q3⟩
    · rw [if_pos q, if_neg (show ¬ (-3 : Int32) = 0 by decide), q, if_neg (by decide), f1]
      exact ⟨_, _, rfl, rfl, rfl, rfl, rfl, h⟩
    · have hne : ¬ sz r = -1 := by rw [q2]; exact nI_nm1 (by omega)
      rw [if_neg hne, q2, if_pos (nI_pos' (by omega)), if_pos rfl, gx_n hr (by omega)]
      unfold fX5_drop
      rw [hn1, Option.bind_some, if_neg (by decide), gx_n hr (by omega), Option.bind_some, nI_clamp (by omega)]
      refine ⟨_, _, rfl, rfl, rfl, rfl, rfl, fun r' hr' => ?_⟩
      dsimp only
      by_cases c : r' = r
      · subst c; rw [pk_us, pk_us]; exact ⟨rfl, Or.inl rfl⟩
      · rw [pk_un c, pk_un c]; exact h r' hr'
  · have e : fX7_refuseMissing a 6 sz fnd cn = some (-1, fnd, cn) := by
      unfold fX7_refuseMissing
      rw [hn1, Option.bind_some, if_pos rfl]
    rw [e, Option.bind_some, if_neg (show ¬ (-1 : Int32) = 0 by decide), hn2, Option.bind_some, if_pos rfl]
    exact ⟨_, _, rfl, rfl, rfl, rfl, rfl, h⟩
