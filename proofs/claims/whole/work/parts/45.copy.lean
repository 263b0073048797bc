/-! a row copied -/
theorem n_spans {sz : Nat → Int32} {r N : Nat} (hr : r < 6) (hs : sz r = nI N) (hN : N ≤ 40) (x2 x5 : Int32) (h5 : 0 ≤ x5) : (∃ i n, x2 = nI i ∧ x5 = nI n ∧ i + n ≤ N ∧ fX5_spans (nI r) x2 x5 6 sz = some 1 ∧ ¬ x2 < 0 ∧ (lg_cmp ((x2.toInt64) + (x5.toInt64)) ((nI N).toInt64)) ≤ 0) ∨ (fX5_spans (nI r) x2 x5 6 sz = some 0 ∧ (x2 < 0 ∨ ¬ (lg_cmp ((x2.toInt64) + (x5.toInt64)) ((nI N).toInt64)) ≤ 0)) := by
  have h50 : ¬ x5 < 0 := fun q => (fa_of_lt q).2.1 h5
  unfold fX5_spans
  rw [n_size5 hr (by omega), Option.bind_some, hs]
  by_cases c : x2 < 0
  · right; rw [if_pos c]; exact ⟨rfl, Or.inl c⟩
  · obtain ⟨i, hi, rfl⟩ := nI_of c
    obtain ⟨n, hn, rfl⟩ := nI_of h50
    have e : (nI i).toInt64 + (nI n).toInt64 = lN (i + n) := by rw [nI_l hi, nI_l hn, lN_add]
    have e2 : (nI N).toInt64 = lN N := nI_l (by omega)
    rw [if_neg c, e, e2, lg_cmp_le, pk_lLE (by omega) (by omega)]
    by_cases c2 : N < i
    · right; rw [if_pos (nI_lt c2 hi)]; exact ⟨rfl, Or.inr (by omega)⟩
    · rw [if_neg (nI_nlt (by omega) (by omega)), if_neg h50, pk_sub (by omega)]
      by_cases c3 : N - i < n
      · right; rw [if_pos (nI_lt c3 hn)]; exact ⟨rfl, Or.inr (by omega)⟩
      · left; rw [if_neg (nI_nlt (by omega) (by omega))]; exact ⟨i, n, rfl, rfl, by omega, rfl, c, by omega⟩
theorem lg_nle {x y : Int64} : (0 < lg_cmp x y) ↔ ¬ lg_cmp x y ≤ 0 := by
  rw [lg_cmp_gt, lg_cmp_le, Int64.not_le]
theorem n_cp_8 {r i to j n : Nat} (hr : r < 6) (ht : to < 6) (hi : i + n ≤ 40) (hj : j + n ≤ 40) (t : Nat → Int32) : fX8_copy_L104 (nI n) (nI j) (nI i) (nI r) (nI to) gF (0 : Int32) t = some (fun x => if 40 * to + j ≤ x ∧ x < 40 * to + j + n then t (40 * r + i + (x - (40 * to + j))) else t x) := by
  rcases Nat.lt_or_ge i j with q | q
  · have := n_cp_b hr ht hi hj q n gF 0 t (Nat.sub_zero _) (by unfold gF; omega) (Nat.zero_le _)
    rw [nI_0, Nat.sub_zero] at this
    exact this
  · have := n_cp_f hr ht hi hj q n gF 0 t (Nat.sub_zero _) (by unfold gF; omega) (Nat.zero_le _)
    rw [nI_0, Nat.add_zero] at this
    exact this
theorem e_copy {sz : Nat → Int32} {M : Nat → Nat → Int32} {msz mr : Nat → Int32} (h : shR 6 40 sz M msz mr) (a i to j n fnd : Int32) (cn : Nat → Int32) : ∃ rn rm, fX7_copy a i to j n fnd sz M cn = some rn ∧ fX8_copy a i to j n fnd msz mr cn = some rm ∧ rn.1 = rm.1 ∧ rn.2.1 = rm.2.1 ∧ rn.2.2.2 = rm.2.2.2 ∧ shR 6 40 sz rn.2.2.1 msz rm.2.2.1 := by
  have f1 : fX8_found (1 : Int32) cn = some (-3, nI 1, upd cn 1 (cn 1 + 1)) := (n_refuse (k := 1) (by omega) (by omega) cn).2
  have g1 : fX7_refuse (1 : Int32) cn = some (-3, nI 1, upd cn 1 (cn 1 + 1)) := (n_refuse (k := 1) (by omega) (by omega) cn).1
  have f2 : fX8_found (2 : Int32) cn = some (-3, nI 2, upd cn 2 (cn 2 + 1)) := (n_refuse (k := 2) (by omega) (by omega) cn).2
  have g2 : fX7_refuse (2 : Int32) cn = some (-3, nI 2, upd cn 2 (cn 2 + 1)) := (n_refuse (k := 2) (by omega) (by omega) cn).1
  have f5 : fX8_found (5 : Int32) cn = some (-3, nI 5, upd cn 5 (cn 5 + 1)) := (n_refuse (k := 5) (by omega) (by omega) cn).2
  have g5 : fX7_refuse (5 : Int32) cn = some (-3, nI 5, upd cn 5 (cn 5 + 1)) := (n_refuse (k := 5) (by omega) (by omega) cn).1
  have J57 : fX7_copy_J57 cn M = some (-3, nI 1, M, upd cn 1 (cn 1 + 1)) := by unfold fX7_copy_J57; rw [g1]; rfl
  have J92 : fX7_copy_J92 cn M = some (-3, nI 2, M, upd cn 2 (cn 2 + 1)) := by unfold fX7_copy_J92; rw [g2]; rfl
  have J45 : fX8_copy_J45 cn mr = some (-3, nI 1, mr, upd cn 1 (cn 1 + 1)) := by unfold fX8_copy_J45; rw [f1]; rfl
  have J95 : fX8_copy_J95 cn mr = some (-3, nI 2, mr, upd cn 2 (cn 2 + 1)) := by unfold fX8_copy_J95; rw [f2]; rfl
  unfold fX7_copy fX8_copy
  rcases n_row a with ⟨r, hr, rfl, hn1, hn2⟩ | ⟨hn1, hn2⟩
  · rw [hn1, hn2, Option.bind_some, Option.bind_some, if_neg (show ¬ (1 : Int32) = 0 by decide), if_neg (show ¬ (1 : Int32) = 0 by decide)]
    rcases n_row to with ⟨t, ht, rfl, hm1, hm2⟩ | ⟨hm1, hm2⟩
    · rw [hm1, hm2, Option.bind_some, Option.bind_some, if_neg (show ¬ (1 : Int32) = 0 by decide), if_neg (show ¬ (1 : Int32) = 0 by decide)]
      by_cases c5 : 0 ≤ n
      · rw [if_pos c5, if_pos c5, n_holds hr (by omega), Option.bind_some, gx_n hr (by omega), nI_clamp (show r < 2 ^ 31 by omega), nI_clamp (show t < 2 ^ 31 by omega)]
        obtain ⟨a1, a2⟩ := h r hr
        obtain ⟨b1, b2⟩ := h t ht
        rcases a2 with q | ⟨N, q1, q2, q3⟩
        · rw [if_pos q, if_pos rfl, ← a1, q, if_pos m1_neg, J57, J45]
          exact ⟨_, _, rfl, rfl, rfl, rfl, rfl, h⟩
        · have hne : ¬ sz r = -1 := by rw [q2]; exact nI_nm1 (by omega)
          rw [if_neg hne, if_neg (show ¬ (1 : Int32) = 0 by decide), n_holds ht (by omega), Option.bind_some, ← a1, q2, if_neg (show ¬ nI N < 0 from nI_pos (by omega)), gx_n ht (by omega)]
          rcases b2 with z | ⟨N2, z1, z2, z3⟩
          · rw [if_pos z, if_pos rfl, ← b1, z, if_neg (by decide), J57, J45]
            exact ⟨_, _, rfl, rfl, rfl, rfl, rfl, h⟩
          · have hne2 : ¬ sz t = -1 := by rw [z2]; exact nI_nm1 (by omega)
            rw [if_neg hne2, if_neg (show ¬ (1 : Int32) = 0 by decide), ← b1, z2, if_pos (show 0 ≤ nI N2 from nI_pos' (by omega))]
            rcases n_spans hr q2 q1 i n c5 with ⟨i', n', rfl, rfl, u1, u2, u3, u4⟩ | ⟨u1, u2⟩
            · rw [u2, Option.bind_some, if_neg (by decide), if_neg u3]
              rcases n_spans ht z2 z1 j (nI n') c5 with ⟨j', n'', rfl, e, v1, v2, v3, v4⟩ | ⟨v1, v2⟩
              · have en : n' = n'' := (nI_eq (by omega) (by omega)).mp e
                subst en
                rw [v2, Option.bind_some, if_neg (by decide), if_neg v3, gx_n hr (by omega), if_neg (fun z => lg_nle.mp z u4), gx_n ht (by omega), if_pos v4, n_cp_8 hr ht (by omega) (by omega), Option.bind_some]
                unfold fX5_move
                rw [u2, Option.bind_some, if_neg (by decide), v2, Option.bind_some, if_neg (by decide), gx_n hr (by omega), gx_n ht (by omega)]
                have gc : ∀ (K : Option (Nat → Nat → Int32)), gcp (nI i') (nI j') (nI n') 40 40 K = K := fun K => by
                  unfold gcp
                  rw [nI_clamp (show i' < 2 ^ 31 by omega), nI_clamp (show j' < 2 ^ 31 by omega), nI_clamp (show n' < 2 ^ 31 by omega), if_neg]
                  rintro (y | y | y | y | y)
                  · exact nI_pos (by omega) y
                  · exact nI_pos (by omega) y
                  · exact nI_pos (by omega) y
                  · omega
                  · omega
                rw [gc, Option.bind_some, nI_clamp (show i' < 2 ^ 31 by omega), nI_clamp (show j' < 2 ^ 31 by omega), nI_clamp (show n' < 2 ^ 31 by omega), nI_clamp (show r < 2 ^ 31 by omega), nI_clamp (show t < 2 ^ 31 by omega)]
                refine ⟨_, _, rfl, rfl, rfl, rfl, rfl, fun r' hr' => ?_⟩
                obtain ⟨w1, w2⟩ := h r' hr'
                refine ⟨w1, w2.elim Or.inl (fun ⟨m, m1, m2, m3⟩ => Or.inr ⟨m, m1, m2, fun k hk => ?_⟩)⟩
                dsimp only
                unfold gmu
                by_cases cr : r' = t
                · subst cr
                  rw [if_pos rfl]
                  by_cases ck : j' ≤ k ∧ k < j' + n'
                  · rw [pk_cpy_in ck.1 ck.2, if_pos ⟨by omega, by omega⟩, q3 (i' + (k - j')) (by omega)]
                    exact congrArg mr (by omega)
                  · rw [pk_cpy_out (by omega), if_neg (by omega)]
                    exact m3 k hk
                · rw [if_neg cr, if_neg (by omega)]
                  exact m3 k hk
              · rw [v1, Option.bind_some, if_pos rfl, J92]
                by_cases y : j < 0
                · rw [if_pos y, J95]
                  exact ⟨_, _, rfl, rfl, rfl, rfl, rfl, h⟩
                · rw [if_neg y, gx_n hr (by omega), if_neg (fun z => lg_nle.mp z u4), gx_n ht (by omega), if_neg (v2.resolve_left y), J95]
                  exact ⟨_, _, rfl, rfl, rfl, rfl, rfl, h⟩
            · rw [u1, Option.bind_some, if_pos rfl, J92]
              by_cases y : i < 0
              · rw [if_pos y, J95]
                exact ⟨_, _, rfl, rfl, rfl, rfl, rfl, h⟩
              · rw [if_neg y]
                by_cases y2 : j < 0
                · rw [if_pos y2, J95]
                  exact ⟨_, _, rfl, rfl, rfl, rfl, rfl, h⟩
                · rw [if_neg y2, gx_n hr (by omega), if_pos (lg_nle.mpr (u2.resolve_left y)), J95]
                  exact ⟨_, _, rfl, rfl, rfl, rfl, rfl, h⟩
      · rw [if_neg c5, if_neg c5, g5, f5]
        exact ⟨_, _, rfl, rfl, rfl, rfl, rfl, h⟩
    · rw [hm1, hm2, Option.bind_some, Option.bind_some, if_pos rfl, if_pos rfl]
      exact ⟨_, _, rfl, rfl, rfl, rfl, rfl, h⟩
  · rw [hn1, hn2, Option.bind_some, Option.bind_some, if_pos rfl, if_pos rfl]
    exact ⟨_, _, rfl, rfl, rfl, rfl, rfl, h⟩
