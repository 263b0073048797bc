/-! words asked for lately: both sides hold the same row -/
theorem late_L59 : ∀ (F : Nat) (i : Int32) (w : Nat → Int32), fX2_remember_L59 F i w = fX8_isAsked_L69 F i w
  | 0, i, w => by rw [fX2_remember_L59, fX8_isAsked_L69]
  | F + 1, i, w => by
    rw [fX2_remember_L59, fX8_isAsked_L69, gl_eq, gl_eq, late_L59 F]
theorem late_L2 (z : Int32) (w : Nat → Int32) (x : Int32) : ∀ (F : Nat) (i : Int32), fX2_remember_L2 z w x F i = fX8_isAsked_L2 z w x F i
  | 0, i => by rw [fX2_remember_L2, fX8_isAsked_L2]
  | F + 1, i => by
    rw [fX2_remember_L2, fX8_isAsked_L2, gl_eq, gl_eq, late_L2 z w x F]
theorem late_shift : ∀ (m F i : Nat) (w : Nat → Int32), i = m → m < F → i ≤ 5 → fX8_isAsked_L69 F (nI i) w = some (fun j => if 0 < j ∧ j ≤ i then w (j - 1) else w j)
  | m, 0, i, w, _, hF, _ => absurd hF (Nat.not_lt_zero m)
  | m, F + 1, i, w, hm, hF, hi => by
    rw [fX8_isAsked_L69]
    by_cases c : i = 0
    · subst c
      rw [if_pos (by decide)]
      refine congrArg some (funext fun j => ?_)
      rw [if_neg (by omega)]
    · have h1 : nI i - (1 : Int32) = nI (i - 1) := pk_sub (a := i) (b := 1) (by omega)
      have h2 : nI i + (-1) = nI (i - 1) := sb_m1 (by omega)
      rw [if_neg (nI_nle (by omega) (by omega)), h1, h2, gx_n (by omega) (by omega), gx_n (by omega) (by omega), gl_eq, nI_clamp (by omega), nI_clamp (by omega), late_shift (m - 1) F (i - 1) _ (by omega) (by omega) (by omega)]
      refine congrArg some (funext fun j => ?_)
      by_cases c1 : 0 < j ∧ j ≤ i - 1
      · rw [if_pos c1, if_pos ⟨c1.1, by omega⟩, pk_un (by omega)]
      · rw [if_neg c1]
        by_cases c2 : j = i
        · rw [c2, if_pos ⟨by omega, Nat.le_refl _⟩, pk_us]
        · rw [if_neg (by omega), pk_un c2]
theorem late_find {k : Nat} (hk : k ≤ 6) (w : Nat → Int32) (x : Int32) : ∀ (m F i : Nat), k - i = m → m < F → i ≤ k → ∃ r, r ≤ k ∧ fX8_isAsked_L2 (nI k) w x F (nI i) = some (nI r)
  | m, 0, i, _, hF, _ => absurd hF (Nat.not_lt_zero m)
  | m, F + 1, i, hm, hF, hi => by
    rw [fX8_isAsked_L2]
    by_cases c : i < k
    · rw [if_neg (nI_ge c (by omega)), gx_n (by omega) (by omega), nI_clamp (by omega)]
      by_cases c2 : w i = x
      · rw [if_pos c2]; exact ⟨i, hi, rfl⟩
      · rw [if_neg c2, gl_eq, nI_1]
        exact late_find hk w x (m - 1) F (i + 1) (by omega) (by omega) c
    · rw [if_pos (nI_le (by omega) (by omega))]; exact ⟨i, hi, rfl⟩
theorem n_late {k : Nat} (hk : k ≤ 6) (w : Nat → Int32) (x : Int32) : ∃ k' w', k' ≤ 6 ∧ fX2_remember x (nI k) w = some (nI k', w') ∧ fX8_isAsked x (nI k) w = some (nI k', w') ∧ ∀ j, j < k' → w' j = x ∨ ∃ i, i < k ∧ w' j = w i := by
  obtain ⟨r, hr, er⟩ := late_find hk w x k gF 0 (Nat.sub_zero _) (by unfold gF; omega) (Nat.zero_le _)
  rw [nI_0] at er
  obtain ⟨k', e1, e2, e3⟩ : ∃ k', k' ≤ 6 ∧ (k' = if r = k then (if 6 ≤ k then k else k + 1) else k) ∧ True := ⟨_, by (repeat' split) <;> omega, rfl, trivial⟩
  have es : (if (5 : Int32) < nI r then (5 : Int32) else nI r) = nI (if 5 < r then 5 else r) := by
    rw [show (5 : Int32) = nI 5 from rfl]
    by_cases c : 5 < r
    · rw [if_pos (nI_lt c (by omega)), if_pos c]
    · rw [if_neg (nI_nlt (by omega) (by omega)), if_neg c]
  have es8 : (if (6 : Int32) ≤ nI r then some (5 : Int32) else some (nI r)) = some (nI (if 5 < r then 5 else r)) := by
    rw [show (6 : Int32) = nI 6 from rfl]
    by_cases c : 5 < r
    · rw [if_pos (nI_le (by omega) (by omega)), if_pos c]; rfl
    · rw [if_neg (nI_ge (by omega) (by omega)), if_neg c]
  have hm : (if 5 < r then 5 else r) ≤ 5 := by split <;> omega
  have hm2 : (if 5 < r then 5 else r) ≤ r := by split <;> omega
  have hm3 : r ≤ 5 → (if 5 < r then 5 else r) = r := fun q => if_neg (by omega)
  have hsh := late_shift _ gF (if 5 < r then 5 else r) w rfl (by unfold gF; omega) hm
  refine ⟨k', upd (fun j => if 0 < j ∧ j ≤ (if 5 < r then 5 else r) then w (j - 1) else w j) 0 x, e1, ?_, ?_, ?_⟩
  · unfold fX2_remember
    rw [late_L2, er, Option.bind_some]
    have ez : (if nI r = nI k then (if (6 : Int32) ≤ nI k then some (nI k) else (gl (nI k + (1 : Int32)) (fun f_50 => some f_50))) else some (nI k)) = some (nI k') := by
      rw [e2, show (6 : Int32) = nI 6 from rfl, gl_eq, nI_1]
      by_cases c : r = k
      · rw [if_pos (by rw [c]), if_pos c]
        by_cases c2 : 6 ≤ k
        · rw [if_pos (nI_le c2 (by omega)), if_pos c2]
        · rw [if_neg (nI_ge (by omega) (by omega)), if_neg c2]
      · rw [if_neg (fun e => c ((nI_eq (by omega) (by omega)).mp e)), if_neg c]
    rw [ez, Option.bind_some, gl_eq, es, late_L59, hsh, Option.bind_some, gx_0 (by omega) (by omega), cl_0]
  · unfold fX8_isAsked
    rw [er, Option.bind_some]
    have ez : (if nI r = nI k then (if (6 : Int32) ≤ nI k then some (0 : Int32) else some 1) else some (0 : Int32)) = some (nI (k' - k)) := by
      rw [e2, show (6 : Int32) = nI 6 from rfl]
      by_cases c : r = k
      · rw [if_pos (by rw [c]), if_pos c]
        by_cases c2 : 6 ≤ k
        · rw [if_pos (nI_le c2 (by omega)), if_pos c2, Nat.sub_self]; rfl
        · rw [if_neg (nI_ge (by omega) (by omega)), if_neg c2, Nat.add_sub_cancel_left]; rfl
      · rw [if_neg (fun e => c ((nI_eq (by omega) (by omega)).mp e)), if_neg c, Nat.sub_self]; rfl
    have hkk : k ≤ k' := by rw [e2]; (repeat' split) <;> omega
    rw [ez, Option.bind_some, gl_eq, nI_add, show k + (k' - k) = k' by omega, es8, Option.bind_some, hsh, Option.bind_some, gx_0 (by omega) (by omega), cl_0]
  · intro j hj
    by_cases c : j = 0
    · left; rw [c, pk_us]
    · right
      rw [pk_un c]
      by_cases c2 : 0 < j ∧ j ≤ (if 5 < r then 5 else r)
      · rw [if_pos c2]; exact ⟨j - 1, by omega, rfl⟩
      · rw [if_neg c2]
        refine ⟨j, ?_, rfl⟩
        rcases Nat.lt_or_ge j k with q | q
        · exact q
        · exfalso
          have hrk : r = k ∧ k < 6 := by
            by_cases z : r = k
            · refine ⟨z, ?_⟩
              rw [e2, if_pos z] at hj
              by_cases z2 : 6 ≤ k
              · rw [if_pos z2] at hj; omega
              · omega
            · rw [e2, if_neg z] at hj; omega
          have := hm3 (by omega)
          rw [this] at c2
          rw [e2, if_pos hrk.1, if_neg (by omega)] at hj
          omega
