/-! rows and texts made; a sign put -/
theorem n_make_L {cnt lim r n : Nat} (hr : r < cnt) (hc : cnt < 2 ^ 31) (hn : n ≤ lim) (hl : lim < 2 ^ 30) (v : Int32) : ∀ (m F i : Nat) (M : Nat → Nat → Int32), n - i = m → m < F → i ≤ n → fX5_make_L31 (nI n) (nI r) cnt lim v F (nI i) M = some (gmu M r (fun j => if i ≤ j ∧ j < n then v else M r j))
  | m, 0, i, M, _, hF, _ => absurd hF (Nat.not_lt_zero m)
  | m, F + 1, i, M, hm, hF, hi => by
    rw [fX5_make_L31]
    by_cases c : i < n
    · rw [if_neg (nI_ge c (by omega)), gx_n hr hc, gx_n (by omega) (by omega), gl_eq, nI_1, nI_clamp (by omega), nI_clamp (by omega), n_make_L hr hc hn hl v (m - 1) F (i + 1) _ (by omega) (by omega) c]
      refine congrArg some (funext fun k => ?_)
      unfold gmu
      by_cases c1 : k = r
      · rw [if_pos c1, if_pos c1, if_pos rfl]
        funext j
        by_cases c2 : i + 1 ≤ j ∧ j < n
        · rw [if_pos c2, if_pos ⟨by omega, c2.2⟩]
        · rw [if_neg c2]
          by_cases c3 : j = i
          · rw [c3, pk_us, if_pos ⟨Nat.le_refl _, c⟩]
          · rw [pk_un c3, if_neg (by omega)]
      · rw [if_neg c1, if_neg c1, if_neg c1]
    · rw [if_pos (nI_le (by omega) (by omega))]
      refine congrArg some (funext fun k => ?_)
      unfold gmu
      by_cases c1 : k = r
      · rw [if_pos c1, c1]
        funext j
        rw [if_neg (by omega)]
      · rw [if_neg c1]
theorem n_make {cnt lim r n : Nat} (hr : r < cnt) (hc : cnt < 2 ^ 31) (hn : n ≤ lim) (hl : lim ≤ 90) (v : Int32) (sz : Nat → Int32) (M : Nat → Nat → Int32) : fX5_make (nI r) (nI n) v (nI lim) cnt sz cnt lim M = some (upd sz r (nI n), gmu M r (fun j => if 0 ≤ j ∧ j < n then v else M r j)) := by
  have hn1 : fX5_names (nI r) cnt = some 1 := by
    unfold fX5_names
    rw [if_neg (nI_pos (by omega)), show Int32.ofNat cnt = nI cnt from rfl, if_neg (nI_ge hr hc)]
  have e := n_make_L hr hc hn (by omega) v n gF 0 M (Nat.sub_zero _) (by unfold gF; omega) (Nat.zero_le _)
  rw [nI_0] at e
  unfold fX5_make
  rw [hn1, Option.bind_some, if_neg (by decide), if_neg (nI_pos (by omega)), if_pos (nI_le hn (by omega)), gx_n hr hc, e, Option.bind_some, nI_clamp (by omega)]
theorem n_row_L {r : Nat} (hr : r < 6) : ∀ (m F i : Nat) (t : Nat → Int32), 40 - i = m → m < F → i ≤ 40 → fX8_row_L34 (nI r) F (nI i) t = some (fun j => if 40 * r + i ≤ j ∧ j < 40 * r + 40 then 0 else t j)
  | m, 0, i, t, _, hF, _ => absurd hF (Nat.not_lt_zero m)
  | m, F + 1, i, t, hm, hF, hi => by
    rw [fX8_row_L34, show (40 : Int32) = nI 40 from rfl]
    by_cases c : i < 40
    · rw [if_neg (nI_ge c (by omega)), pk_mul, nI_add, gx_n (by omega) (by omega), gl_eq, nI_1, nI_clamp (by omega), n_row_L hr (m - 1) F (i + 1) _ (by omega) (by omega) c]
      refine congrArg some (funext fun j => ?_)
      by_cases c2 : 40 * r + (i + 1) ≤ j ∧ j < 40 * r + 40
      · rw [if_pos c2, if_pos ⟨by omega, c2.2⟩]
      · rw [if_neg c2]
        by_cases c3 : j = 40 * r + i
        · rw [c3, pk_us, if_pos ⟨Nat.le_refl _, by omega⟩]
        · rw [pk_un c3, if_neg (by omega)]
    · rw [if_pos (nI_le (by omega) (by omega))]
      refine congrArg some (funext fun j => ?_)
      rw [if_neg (by omega)]
theorem e_row {sz : Nat → Int32} {M : Nat → Nat → Int32} {msz mr : Nat → Int32} (h : shR 6 40 sz M msz mr) (a b fnd : Int32) (cn : Nat → Int32) : ∃ rn rm, fX7_row a b fnd 40 sz M cn = some rn ∧ fX8_row a b fnd msz mr cn = some rm ∧ rn.1 = rm.1 ∧ rn.2.1 = rm.2.1 ∧ rn.2.2.2.2 = rm.2.2.2.2 ∧ shR 6 40 rn.2.2.1 rn.2.2.2.1 rm.2.2.1 rm.2.2.2.1 := by
  unfold fX7_row fX8_row fX7_makeOn
  rw [show (40 : Int32) = nI 40 from rfl]
  rcases n_row a with ⟨r, hr, rfl, hn1, hn2⟩ | ⟨hn1, hn2⟩
  · rw [hn1, hn2, Option.bind_some, Option.bind_some, if_neg (show ¬ (1 : Int32) = 0 by decide), if_neg (show ¬ (1 : Int32) = 0 by decide)]
    by_cases c1 : b ≤ nI 40
    · rw [if_pos c1, if_pos c1]
      by_cases c2 : 0 ≤ b
      · obtain ⟨n, hn, rfl⟩ := nI_of2 (M := nI 40) (n := 40) (nI_toInt (by omega)) (fun q => (fa_of_lt q).2.1 c2) c1
        have eL := n_row_L hr 40 gF 0 mr (Nat.sub_zero _) (by unfold gF; omega) (Nat.zero_le _)
        rw [nI_0] at eL
        rw [if_pos c2, if_pos c2, n_make hr (by omega) hn (by omega), Option.bind_some, Option.bind_some, gx_n hr (by omega), eL, Option.bind_some, nI_clamp (by omega)]
        refine ⟨_, _, rfl, rfl, rfl, rfl, rfl, fun r' hr' => ?_⟩
        dsimp only
        by_cases c : r' = r
        · subst c
          rw [pk_us, pk_us]
          refine ⟨rfl, Or.inr ⟨n, hn, rfl, fun i hi => ?_⟩⟩
          unfold gmu
          rw [if_pos rfl, if_pos ⟨Nat.zero_le _, hi⟩, if_pos ⟨by omega, by omega⟩]
        · rw [pk_un c, pk_un c]
          obtain ⟨q1, q2⟩ := h r' hr'
          refine ⟨q1, q2.elim Or.inl (fun ⟨n', a1, a2, a3⟩ => Or.inr ⟨n', a1, a2, fun i hi => ?_⟩)⟩
          unfold gmu
          rw [if_neg c, if_neg (by omega)]
          exact a3 i hi
      · have f5 := n_refuse (k := 5) (by omega) (by omega) cn
        have g1 : fX7_refuse (5 : Int32) cn = some (-3, nI 5, upd cn 5 (cn 5 + 1)) := f5.1
        have g2 : fX8_found (5 : Int32) cn = some (-3, nI 5, upd cn 5 (cn 5 + 1)) := f5.2
        rw [if_neg c2, if_neg c2, g1, g2]
        exact ⟨_, _, rfl, rfl, rfl, rfl, rfl, h⟩
    · rw [if_neg c1, if_neg c1]
      exact ⟨_, _, rfl, rfl, rfl, rfl, rfl, h⟩
  · rw [hn1, hn2, Option.bind_some, Option.bind_some, if_pos rfl, if_pos rfl]
    exact ⟨_, _, rfl, rfl, rfl, rfl, rfl, h⟩
theorem n_text_L {r : Nat} (hr : r < 4) : ∀ (m F i : Nat) (t : Nat → Int32), 90 - i = m → m < F → i ≤ 90 → fX8_text_L34 (nI r) F (nI i) t = some (fun j => if 90 * r + i ≤ j ∧ j < 90 * r + 90 then 32 else t j)
  | m, 0, i, t, _, hF, _ => absurd hF (Nat.not_lt_zero m)
  | m, F + 1, i, t, hm, hF, hi => by
    rw [fX8_text_L34, show (90 : Int32) = nI 90 from rfl]
    by_cases c : i < 90
    · rw [if_neg (nI_ge c (by omega)), pk_mul, nI_add, gx_n (by omega) (by omega), gl_eq, nI_1, nI_clamp (by omega), n_text_L hr (m - 1) F (i + 1) _ (by omega) (by omega) c]
      refine congrArg some (funext fun j => ?_)
      by_cases c2 : 90 * r + (i + 1) ≤ j ∧ j < 90 * r + 90
      · rw [if_pos c2, if_pos ⟨by omega, c2.2⟩]
      · rw [if_neg c2]
        by_cases c3 : j = 90 * r + i
        · rw [c3, pk_us, if_pos ⟨Nat.le_refl _, by omega⟩]
        · rw [pk_un c3, if_neg (by omega)]
    · rw [if_pos (nI_le (by omega) (by omega))]
      refine congrArg some (funext fun j => ?_)
      rw [if_neg (by omega)]
theorem e_text {sz : Nat → Int32} {M : Nat → Nat → Int32} {msz mr : Nat → Int32} (h : shR 4 90 sz M msz mr) (a b fnd : Int32) (cn : Nat → Int32) : ∃ rn rm, fX7_text a b fnd 90 sz M cn = some rn ∧ fX8_text a b fnd msz mr cn = some rm ∧ rn.1 = rm.1 ∧ rn.2.1 = rm.2.1 ∧ rn.2.2.2.2 = rm.2.2.2.2 ∧ shR 4 90 rn.2.2.1 rn.2.2.2.1 rm.2.2.1 rm.2.2.2.1 := by
  unfold fX7_text fX8_text fX7_makeOn
  rw [show (90 : Int32) = nI 90 from rfl]
  rcases n_textn a with ⟨r, hr, rfl, hn1, hn2⟩ | ⟨hn1, hn2⟩
  · rw [hn1, hn2, Option.bind_some, Option.bind_some, if_neg (show ¬ (1 : Int32) = 0 by decide), if_neg (show ¬ (1 : Int32) = 0 by decide)]
    by_cases c1 : b ≤ nI 90
    · rw [if_pos c1, if_pos c1]
      by_cases c2 : 0 ≤ b
      · obtain ⟨n, hn, rfl⟩ := nI_of2 (M := nI 90) (n := 90) (nI_toInt (by omega)) (fun q => (fa_of_lt q).2.1 c2) c1
        have eL := n_text_L hr 90 gF 0 mr (Nat.sub_zero _) (by unfold gF; omega) (Nat.zero_le _)
        rw [nI_0] at eL
        rw [if_pos c2, if_pos c2, n_make hr (by omega) hn (by omega), Option.bind_some, Option.bind_some, gx_n hr (by omega), eL, Option.bind_some, nI_clamp (by omega)]
        refine ⟨_, _, rfl, rfl, rfl, rfl, rfl, fun r' hr' => ?_⟩
        dsimp only
        by_cases c : r' = r
        · subst c
          rw [pk_us, pk_us]
          refine ⟨rfl, Or.inr ⟨n, hn, rfl, fun i hi => ?_⟩⟩
          unfold gmu
          rw [if_pos rfl, if_pos ⟨Nat.zero_le _, hi⟩, if_pos ⟨by omega, by omega⟩]
        · rw [pk_un c, pk_un c]
          obtain ⟨q1, q2⟩ := h r' hr'
          refine ⟨q1, q2.elim Or.inl (fun ⟨n', a1, a2, a3⟩ => Or.inr ⟨n', a1, a2, fun i hi => ?_⟩)⟩
          unfold gmu
          rw [if_neg c, if_neg (by omega)]
          exact a3 i hi
      · have f5 := n_refuse (k := 5) (by omega) (by omega) cn
        have g1 : fX7_refuse (5 : Int32) cn = some (-3, nI 5, upd cn 5 (cn 5 + 1)) := f5.1
        have g2 : fX8_found (5 : Int32) cn = some (-3, nI 5, upd cn 5 (cn 5 + 1)) := f5.2
        rw [if_neg c2, if_neg c2, g1, g2]
        exact ⟨_, _, rfl, rfl, rfl, rfl, rfl, h⟩
    · rw [if_neg c1, if_neg c1]
      exact ⟨_, _, rfl, rfl, rfl, rfl, rfl, h⟩
  · rw [hn1, hn2, Option.bind_some, Option.bind_some, if_pos rfl, if_pos rfl]
    exact ⟨_, _, rfl, rfl, rfl, rfl, rfl, h⟩
theorem e_put {sz : Nat → Int32} {M : Nat → Nat → Int32} {msz mr : Nat → Int32} (h : shR 4 90 sz M msz mr) (a b v fnd : Int32) (cn : Nat → Int32) : ∃ rn rm, fX7_put a b v fnd sz cn M = some rn ∧ fX8_put a b v fnd msz mr cn = some rm ∧ rn.1 = rm.1 ∧ rn.2.1 = rm.2.1 ∧ rn.2.2.1 = rm.2.2.2 ∧ shR 4 90 sz rn.2.2.2 msz rm.2.2.1 := by
  unfold fX7_put fX8_put
  rcases n_textn a with ⟨r, hr, rfl, hn1, hn2⟩ | ⟨hn1, hn2⟩
  · obtain ⟨e1, e2⟩ := h r hr
    rw [n_refP hr (by omega) rfl, Option.bind_some, hn2, Option.bind_some, if_neg (show ¬ (1 : Int32) = 0 by decide), gx_n hr (by omega), nI_clamp (by omega), ← e1]
    have f1 : fX8_found (1 : Int32) cn = some (-3, nI 1, upd cn 1 (cn 1 + 1)) := (n_refuse (k := 1) (by omega) (by omega) cn).2
    have f2 : fX8_found (2 : Int32) cn = some (-3, nI 2, upd cn 2 (cn 2 + 1)) := (n_refuse (k := 2) (by omega) (by omega) cn).2
    rcases e2 with q | ⟨n, q1, q2, q3⟩
    · rw [if_pos q, if_neg (show ¬ (-3 : Int32) = 0 by decide), q, if_neg (by decide), f1]
      exact ⟨_, _, rfl, rfl, rfl, rfl, rfl, h⟩
    · have hne : ¬ sz r = -1 := by rw [q2]; exact nI_nm1 (by omega)
      rw [if_neg hne, q2, if_pos (nI_pos' (by omega)), n_inM (by omega), gx_n hr (by omega), Option.bind_some]
      by_cases c : b < 0 ∨ nI n ≤ b
      · rw [if_pos c, if_pos c, if_neg (show ¬ (-3 : Int32) = 0 by decide), if_pos rfl, f2]
        exact ⟨_, _, rfl, rfl, rfl, rfl, rfl, h⟩
      · rw [if_neg c, if_neg c, if_pos rfl, if_neg (by decide)]
        rcases pk_ix b (n := n) (by omega) with z | z | ⟨i, hi, rfl⟩
        · exact absurd (Or.inl z) c
        · exact absurd (Or.inr z) c
        · have ei : (90 : Int32) * nI r + nI i = nI (90 * r + i) := by rw [show (90 : Int32) = nI 90 from rfl, pk_mul, nI_add]
          have e5 : fX5_reaches (nI r) (nI i) 4 sz = some 1 := by
            rw [n_reaches hr (by omega), q2, if_neg c]
          unfold fX5_replace
          rw [e5, Option.bind_some, if_neg (show ¬ (1 : Int32) = 0 by decide), gx_n hr (by omega), gx_n (by omega) (by omega), gl_eq, gx_n hr (by omega), gx_n (by omega) (by omega), Option.bind_some, ei, gx_n (by omega) (by omega), gl_eq, gx_n (by omega) (by omega), nI_clamp (by omega), nI_clamp (by omega), nI_clamp (by omega)]
          exact ⟨_, _, rfl, rfl, by rw [q3 i hi], rfl, rfl, shR_up h hr q2 q1 (by omega) hi _⟩
  · have e : fX7_refusePlace a b 4 sz fnd cn = some (-1, fnd, cn) := by
      unfold fX7_refusePlace fX7_refuseMissing
      rw [hn1, Option.bind_some, if_pos rfl, Option.bind_some, if_neg (show ¬ (-1 : Int32) = 0 by decide)]
    rw [e, Option.bind_some, if_neg (show ¬ (-1 : Int32) = 0 by decide), hn2, Option.bind_some, if_pos rfl]
    exact ⟨_, _, rfl, rfl, rfl, rfl, rfl, h⟩
