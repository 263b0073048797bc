/-! the mean of a row; a row copied -/
theorem n_sum_L {sz : Nat → Int32} {M : Nat → Nat → Int32} {mr msz : Nat → Int32} {r n : Nat} (hr : r < 6) (hs : sz r = nI n) (hms : msz r = nI n) (hn : n ≤ 40) (hM : ∀ i, i < n → M r i = mr (40 * r + i)) : ∀ (m F i : Nat) (a : Int64), n - i = m → m < F → i ≤ n → ∃ s, fX5_sum_L5 (nI r) 6 sz 6 40 M F a (nI i) = some s ∧ fX8_mean_L44 (nI r) msz mr F a (nI i) = some s
  | m, 0, i, a, _, hF, _ => absurd hF (Nat.not_lt_zero m)
  | m, F + 1, i, a, hm, hF, hi => by
    rw [fX5_sum_L5, fX8_mean_L44, n_size5 hr (by omega), Option.bind_some, gx_n hr (by omega), hs, nI_clamp (show r < 2 ^ 31 by omega), hms]
    by_cases c : i < n
    · have ei : (40 : Int32) * nI r + nI i = nI (40 * r + i) := by rw [show (40 : Int32) = nI 40 from rfl, pk_mul, nI_add]
      rw [if_neg (nI_ge c (by omega)), if_neg (nI_ge c (by omega)), gx_n hr (by omega), gx_n (by omega) (by omega), ei, gx_n (by omega) (by omega), gl_eq, gl_eq, gl_eq, gl_eq, nI_1, nI_clamp (show i < 2 ^ 31 by omega), nI_clamp (show 40 * r + i < 2 ^ 31 by omega), hM i c]
      exact n_sum_L hr hs hms hn hM (m - 1) F (i + 1) _ (by omega) (by omega) c
    · rw [if_pos (nI_le (by omega) (by omega)), if_pos (nI_le (by omega) (by omega)), gx_n hr (by omega)]
      exact ⟨_, rfl, rfl⟩
theorem e_mean {sz : Nat → Int32} {M : Nat → Nat → Int32} {msz mr : Nat → Int32} (h : shR 6 40 sz M msz mr) (a told fnd : Int32) (cn : Nat → Int32) : ∃ rn rm, fX7_mean a told fnd sz cn M = some rn ∧ fX8_mean a told fnd msz mr cn = some rm ∧ rn.1 = rm.1 ∧ rn.2.1 = rm.2.1 ∧ rn.2.2.1 = rm.2.2.1 ∧ rn.2.2.2 = rm.2.2.2 := by
  unfold fX7_mean fX8_mean
  rcases n_row a with ⟨r, hr, rfl, hn1, hn2⟩ | ⟨hn1, hn2⟩
  · obtain ⟨e1, e2⟩ := h r hr
    rw [n_refM hr (by omega) rfl, Option.bind_some, hn2, Option.bind_some, if_neg (show ¬ (1 : Int32) = 0 by decide), gx_n hr (by omega), nI_clamp (show r < 2 ^ 31 by omega), ← e1]
    have f1 : fX8_found (1 : Int32) cn = some (-3, nI 1, upd cn 1 (cn 1 + 1)) := (n_refuse (k := 1) (by omega) (by omega) cn).2
    have f4 : fX8_found (4 : Int32) cn = some (-3, nI 4, upd cn 4 (cn 4 + 1)) := (n_refuse (k := 4) (by omega) (by omega) cn).2
    have g4 : fX7_refuse (4 : Int32) cn = some (-3, nI 4, upd cn 4 (cn 4 + 1)) := (n_refuse (k := 4) (by omega) (by omega) cn).1
    rcases e2 with q | ⟨n, q1, q2, q3⟩
    · rw [if_pos q, if_neg (show ¬ (-3 : Int32) = 0 by decide), q, if_neg (by decide), f1]
      exact ⟨_, _, rfl, rfl, rfl, rfl, rfl, rfl⟩
    · have hne : ¬ sz r = -1 := by rw [q2]; exact nI_nm1 (by omega)
      rw [if_neg hne, if_pos rfl, n_size5 hr (by omega), Option.bind_some, q2, if_pos (nI_pos' (by omega)), gx_n hr (by omega)]
      by_cases c : n = 0
      · subst c
        rw [if_neg (show ¬ (1 : Int32) ≤ nI 0 by decide), if_pos nI_0, g4, f4]
        exact ⟨_, _, rfl, rfl, rfl, rfl, rfl, rfl⟩
      · obtain ⟨s, s1, s2⟩ := n_sum_L (sz := sz) (M := M) (mr := mr) (msz := msz) hr q2 (e1.symm.trans q2) q1 q3 n gF 0 0 (Nat.sub_zero _) (by unfold gF; omega) (Nat.zero_le _)
        rw [nI_0] at s1 s2
        have hz : ¬ (nI n).toInt64 = 0 := by
          rw [nI_l (by omega), show (0 : Int64) = lN 0 from rfl]
          intro e
          have := (lN_eq (by omega) (by omega)).mp e
          omega
        unfold fX5_sum fX8_tell
        rw [if_pos (show (1 : Int32) ≤ nI n from nI_le (a := 1) (by omega) (by omega)), if_neg (nI_ne0 (by omega) (by omega)), s1, s2, Option.bind_some, Option.bind_some, Option.bind_some, gdL_ok hz, gx_n hr (by omega), gdL_ok hz, gl_eq, Option.bind_some]
        exact ⟨_, _, rfl, rfl, rfl, rfl, rfl, rfl⟩
  · have e : fX7_refuseMissing a 6 sz fnd cn = some (-1, fnd, cn) := by
      unfold fX7_refuseMissing
      rw [hn1, Option.bind_some, if_pos rfl]
    rw [e, Option.bind_some, if_neg (show ¬ (-1 : Int32) = 0 by decide), hn2, Option.bind_some, if_pos rfl]
    exact ⟨_, _, rfl, rfl, rfl, rfl, rfl, rfl⟩
theorem n_cp_f {r i to j n : Nat} (hr : r < 6) (ht : to < 6) (hi : i + n ≤ 40) (hj : j + n ≤ 40) (hji : j ≤ i) : ∀ (m F k : Nat) (t : Nat → Int32), n - k = m → m < F → k ≤ n → fX8_copy_L104 (nI n) (nI j) (nI i) (nI r) (nI to) F (nI k) t = some (fun x => if 40 * to + j + k ≤ x ∧ x < 40 * to + j + n then t (40 * r + i + (x - (40 * to + j))) else t x)
  | m, 0, k, t, _, hF, _ => absurd hF (Nat.not_lt_zero m)
  | m, F + 1, k, t, hm, hF, hk => by
    rw [fX8_copy_L104]
    by_cases c : k < n
    · rw [if_neg (nI_ge c (by omega)), if_pos (nI_le hji (by omega)), Option.bind_some, show (40 : Int32) = nI 40 from rfl, pk_mul, pk_mul, nI_add, nI_add, nI_add, nI_add, gx_n (by omega) (by omega), gx_n (by omega) (by omega), gl_eq, nI_1, nI_clamp (by omega), nI_clamp (by omega), n_cp_f hr ht hi hj hji (m - 1) F (k + 1) _ (by omega) (by omega) c]
      refine congrArg some (funext fun x => ?_)
      by_cases c1 : 40 * to + j + (k + 1) ≤ x ∧ x < 40 * to + j + n
      · rw [if_pos c1, if_pos ⟨by omega, c1.2⟩, pk_un (by omega)]
      · rw [if_neg c1]
        by_cases c2 : x = 40 * to + j + k
        · rw [c2, pk_us, if_pos ⟨Nat.le_refl _, by omega⟩, show 40 * to + j + k - (40 * to + j) = k by omega]
        · rw [pk_un c2, if_neg (by omega)]
    · rw [if_pos (nI_le (by omega) (by omega))]
      refine congrArg some (funext fun x => ?_)
      rw [if_neg (by omega)]
theorem n_cp_b {r i to j n : Nat} (hr : r < 6) (ht : to < 6) (hi : i + n ≤ 40) (hj : j + n ≤ 40) (hji : i < j) : ∀ (m F k : Nat) (t : Nat → Int32), n - k = m → m < F → k ≤ n → fX8_copy_L104 (nI n) (nI j) (nI i) (nI r) (nI to) F (nI k) t = some (fun x => if 40 * to + j ≤ x ∧ x < 40 * to + j + (n - k) then t (40 * r + i + (x - (40 * to + j))) else t x)
  | m, 0, k, t, _, hF, _ => absurd hF (Nat.not_lt_zero m)
  | m, F + 1, k, t, hm, hF, hk => by
    rw [fX8_copy_L104]
    by_cases c : k < n
    · have e1 : nI n - (1 : Int32) - nI k = nI (n - 1 - k) := by
        have : nI n - (1 : Int32) = nI (n - 1) := pk_sub (a := n) (b := 1) (by omega)
        rw [this, pk_sub (by omega)]
      rw [if_neg (nI_ge c (by omega)), if_neg (nI_ge hji (by omega)), Option.bind_some, e1, show (40 : Int32) = nI 40 from rfl, pk_mul, pk_mul, nI_add, nI_add, nI_add, nI_add, gx_n (by omega) (by omega), gx_n (by omega) (by omega), gl_eq, nI_1, nI_clamp (by omega), nI_clamp (by omega), n_cp_b hr ht hi hj hji (m - 1) F (k + 1) _ (by omega) (by omega) c]
      refine congrArg some (funext fun x => ?_)
      by_cases c1 : 40 * to + j ≤ x ∧ x < 40 * to + j + (n - (k + 1))
      · rw [if_pos c1, if_pos ⟨c1.1, by omega⟩, pk_un (by omega)]
      · rw [if_neg c1]
        by_cases c2 : x = 40 * to + j + (n - 1 - k)
        · rw [c2, pk_us, if_pos ⟨by omega, by omega⟩, show 40 * to + j + (n - 1 - k) - (40 * to + j) = n - 1 - k by omega]
        · rw [pk_un c2, if_neg (by omega)]
    · rw [if_pos (nI_le (by omega) (by omega))]
      refine congrArg some (funext fun x => ?_)
      rw [if_neg (by omega)]
