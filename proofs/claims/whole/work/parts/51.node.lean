/-! prefixes -/
theorem upG_spec (l : KL) (q : Nat) : ∀ n, (upG l q n = 0 ∧ ∀ i, i < n → nodeAt l q i = false) ∨ ∃ u, upG l q n = u + 1 ∧ u < n ∧ nodeAt l q u = true ∧ ∀ i, u < i → i < n → nodeAt l q i = false
  | 0 => Or.inl ⟨rfl, fun i hi => absurd hi (Nat.not_lt_zero i)⟩
  | n + 1 => by
    have e : upG l q (n + 1) = if nodeAt l q n = true then n + 1 else upG l q n := rfl
    cases hn : nodeAt l q n with
    | true =>
      right
      exact ⟨n, by rw [e, if_pos hn], by omega, hn, fun i h1 h2 => by omega⟩
    | false =>
      rw [e, hn, if_neg (by decide)]
      rcases upG_spec l q n with ⟨h1, h2⟩ | ⟨u, h1, h2, h3, h4⟩
      · left
        refine ⟨h1, fun i hi => ?_⟩
        rcases Nat.lt_or_ge i n with z | z
        · exact h2 i z
        · rw [show i = n by omega]; exact hn
      · right
        refine ⟨u, h1, by omega, h3, fun i z1 z2 => ?_⟩
        rcases Nat.lt_or_ge i n with z | z
        · exact h4 i z1 z
        · rw [show i = n by omega]; exact hn
/-- nodes at heads of a word, by their lengths -/
theorem nodeAt_iff {l : KL} {W j : Nat} (hW : wok W) (hj : j ≤ W % 8) : nodeAt l W j = true ↔ isN l (whd W j) := by
  have := wok_len hW
  unfold nodeAt
  rw [decide_eq_true_iff]
  exact ⟨fun h => ⟨whd_ok (wok_lt hW) (by omega), h⟩, fun h => h.2⟩
theorem head_at {l : KL} {P W : Nat} (hW : wok W) (hP : isN l P) (h : whead P W) : nodeAt l W (P % 8) = true := by
  rw [nodeAt_iff hW h.1, head_whd hP.1 h]
  exact hP
theorem head_lt {P W : Nat} (hP : wok P) (hW : wok W) (h : whead P W) (hne : P ≠ W) : P % 8 < W % 8 := by
  rcases Nat.lt_or_ge (P % 8) (W % 8) with q | q
  · exact q
  · exact absurd (wok_inj hP hW (by have := h.1; omega) h.2) hne
theorem n_pre8_L {ps : List Nat} {z : Int32} {f : Nat → Int32} (h : pR ps z f) (hl : ps.length ≤ 47) (hb : ∀ q ∈ ps, wok q) {q : Nat} (hq : wok q) : ∀ (m F i : Nat) (x : Int32), ps.length - i = m → m < F → i ≤ ps.length → ((x = -9 ∧ ∀ j, j < i → ps.getD j 0 ≠ q → ¬ whead (ps.getD j 0) q) ∨ ∃ u, x = nI u ∧ (∃ j, j < i ∧ ps.getD j 0 ≠ q ∧ whead (ps.getD j 0) q ∧ ps.getD j 0 % 8 = u) ∧ ∀ j, j < i → ps.getD j 0 ≠ q → whead (ps.getD j 0) q → ps.getD j 0 % 8 ≤ u) → ∃ r, fX8_prefixOf_L5 z f (nI q) F x (nI i) = some r ∧ ((r = -9 ∧ ∀ j, j < ps.length → ps.getD j 0 ≠ q → ¬ whead (ps.getD j 0) q) ∨ ∃ u, r = nI u ∧ (∃ j, j < ps.length ∧ ps.getD j 0 ≠ q ∧ whead (ps.getD j 0) q ∧ ps.getD j 0 % 8 = u) ∧ ∀ j, j < ps.length → ps.getD j 0 ≠ q → whead (ps.getD j 0) q → ps.getD j 0 % 8 ≤ u)
  | m, 0, i, x, _, hF, _, _ => absurd hF (Nat.not_lt_zero m)
  | m, F + 1, i, x, hm, hF, hi, hx => by
    rw [fX8_prefixOf_L5, h.1]
    by_cases c : i < ps.length
    · have hpi := hb _ (getD_mem c)
      have hpl := wok_lt hpi
      have hp6 := wok_len hpi
      have hql := wok_lt hq
      rw [if_neg (nI_ge c (by omega)), gx_n (by omega) (by omega), nI_clamp (by omega), h.2 i c]
      -- nothing new at this place
      have skip : (ps.getD i 0 = q ∨ ¬ whead (ps.getD i 0) q) → ((x = -9 ∧ ∀ j, j < i + 1 → ps.getD j 0 ≠ q → ¬ whead (ps.getD j 0) q) ∨ ∃ u, x = nI u ∧ (∃ j, j < i + 1 ∧ ps.getD j 0 ≠ q ∧ whead (ps.getD j 0) q ∧ ps.getD j 0 % 8 = u) ∧ ∀ j, j < i + 1 → ps.getD j 0 ≠ q → whead (ps.getD j 0) q → ps.getD j 0 % 8 ≤ u) := fun hs => by
        rcases hx with ⟨x1, x2⟩ | ⟨u, x1, ⟨j, y1, y2, y3, y4⟩, x3⟩
        · refine Or.inl ⟨x1, fun j hj hne hw => ?_⟩
          rcases Nat.lt_or_ge j i with z1 | z1
          · exact x2 j z1 hne hw
          · rw [show j = i by omega] at hne hw
            exact hs.elim hne (fun z2 => z2 hw)
        · refine Or.inr ⟨u, x1, ⟨j, by omega, y2, y3, y4⟩, fun k hk hne hw => ?_⟩
          rcases Nat.lt_or_ge k i with z1 | z1
          · exact x3 k z1 hne hw
          · rw [show k = i by omega] at hne hw
            exact absurd (hs.resolve_left hne) (fun z2 => z2 hw)
      by_cases c2 : ps.getD i 0 = q
      · rw [if_pos (by rw [c2]), Option.bind_some, gl_eq, nI_1, ← h.1]
        exact n_pre8_L h hl hb hq (m - 1) F (i + 1) x (by omega) (by omega) c (skip (Or.inl c2))
      · rw [if_neg (fun e => c2 ((nI_eq (by omega) (by omega)).mp e)), gx_n (by omega) (by omega), n_begins hpi hq, Option.bind_some]
        by_cases c3 : whead (ps.getD i 0) q
        · rw [if_pos c3, if_neg (by decide), gx_n (by omega) (by omega), n_len8 hpl, Option.bind_some]
          unfold fX8_more
          rcases hx with ⟨rfl, x2⟩ | ⟨u, rfl, ⟨j, y1, y2, y3, y4⟩, x3⟩
          · have e9 : (-9 : Int32) ≤ nI (ps.getD i 0 % 8) := by
              rw [fa_le, nI_toInt (by omega)]
              have : (-9 : Int32).toInt = -9 := by decide
              omega
            rw [if_pos e9, Option.bind_some, Option.bind_some, gl_eq, nI_1, ← h.1]
            refine n_pre8_L h hl hb hq (m - 1) F (i + 1) _ (by omega) (by omega) c (Or.inr ⟨_, rfl, ⟨i, by omega, c2, c3, rfl⟩, fun j hj hne hw => ?_⟩)
            rcases Nat.lt_or_ge j i with z1 | z1
            · exact absurd hw (x2 j z1 hne)
            · rw [show j = i by omega]; exact Nat.le_refl _
          · have hu : u ≤ 6 := by rw [← y4]; exact wok_len (hb _ (getD_mem (by omega)))
            by_cases c4 : u ≤ ps.getD i 0 % 8
            · rw [if_pos (nI_le c4 (by omega)), Option.bind_some, Option.bind_some, gl_eq, nI_1, ← h.1]
              refine n_pre8_L h hl hb hq (m - 1) F (i + 1) _ (by omega) (by omega) c (Or.inr ⟨_, rfl, ⟨i, by omega, c2, c3, rfl⟩, fun k hk hne hw => ?_⟩)
              rcases Nat.lt_or_ge k i with z1 | z1
              · have := x3 k z1 hne hw; omega
              · rw [show k = i by omega]; exact Nat.le_refl _
            · rw [if_neg (nI_ge (by omega) (by omega)), Option.bind_some, Option.bind_some, gl_eq, nI_1, ← h.1]
              refine n_pre8_L h hl hb hq (m - 1) F (i + 1) _ (by omega) (by omega) c (Or.inr ⟨u, rfl, ⟨j, by omega, y2, y3, y4⟩, fun k hk hne hw => ?_⟩)
              rcases Nat.lt_or_ge k i with z1 | z1
              · exact x3 k z1 hne hw
              · rw [show k = i by omega]; omega
        · rw [if_neg c3, if_pos rfl, Option.bind_some, gl_eq, nI_1, ← h.1]
          exact n_pre8_L h hl hb hq (m - 1) F (i + 1) x (by omega) (by omega) c (skip (Or.inr c3))
    · rw [if_pos (nI_le (by omega) (by omega))]
      have : i = ps.length := by omega
      subst this
      exact ⟨_, rfl, hx⟩
theorem n_prefix8 {l : KL} (hg : kgood l) {z : Int32} {f : Nat → Int32} (h : pR (pN l) z f) {q : Nat} (hq : wok q) : fX8_prefixOf (nI q) z f = some (nI (pfx l q)) := by
  have hl := pN_len hg
  have hq6 := wok_len hq
  obtain ⟨r, hr1, hr2⟩ := n_pre8_L h hl (pN_ok hg) hq (pN l).length gF 0 (-9) (Nat.sub_zero _) (by unfold gF; omega) (Nat.zero_le _) (Or.inl ⟨rfl, fun j hj => absurd hj (Nat.not_lt_zero j)⟩)
  rw [nI_0] at hr1
  unfold fX8_prefixOf pfx
  rw [hr1, Option.bind_some, n_len8 (wok_lt hq), Option.bind_some, Option.bind_some]
  have hmem : ∀ j, j < q % 8 → nodeAt l q j = true → ∃ k, k < (pN l).length ∧ (pN l).getD k 0 = whd q j := fun j hj hn => mem_getD ((pN_mem hg _).mpr ((nodeAt_iff hq (by omega)).mp hn))
  rcases hr2 with ⟨rfl, h1⟩ | ⟨u, rfl, ⟨j, y1, y2, y3, y4⟩, h3⟩
  · rw [if_pos rfl]
    rcases upG_spec l q (q % 8) with ⟨g1, -⟩ | ⟨u, g1, g2, g3, g4⟩
    · rw [g1, Nat.sub_zero]
    · exfalso
      obtain ⟨k, hk, e⟩ := hmem u g2 g3
      have hlen : whd q u % 8 = u := whd_len (by omega)
      refine h1 k hk (by rw [e]; intro e2; rw [e2] at hlen; omega) (by rw [e]; exact whd_head hq (by omega))
  · have hPj : isN l ((pN l).getD j 0) := (pN_mem hg _).mp (getD_mem y1)
    have hlt := head_lt hPj.1 hq y3 y2
    have hn := head_at hq hPj y3
    rw [y4] at hlt hn
    rw [if_neg (nI_ne9 (by omega))]
    rcases upG_spec l q (q % 8) with ⟨g1, g2⟩ | ⟨u', g1, g2, g3, g4⟩
    · rw [g2 u hlt] at hn; cases hn
    · have e : u' = u := by
        rcases Nat.lt_trichotomy u' u with z1 | z1 | z1
        · rw [g4 u z1 hlt] at hn; cases hn
        · exact z1
        · exfalso
          obtain ⟨k, hk, e⟩ := hmem u' g2 g3
          have hlen : whd q u' % 8 = u' := whd_len (by omega)
          have := h3 k hk (by rw [e]; intro e2; rw [e2] at hlen; omega) (by rw [e]; exact whd_head hq (by omega))
          rw [e, hlen] at this
          omega
      subst e
      have e2 : nI (q % 8 - u') - (1 : Int32) = nI (q % 8 - u' - 1) := pk_sub (a := q % 8 - u') (b := 1) (by omega)
      rw [g1, pk_sub (by omega), e2, Nat.sub_sub]
theorem e_node {l : KL} {sz : Int32} {w v t : Nat → Int32} (hC : keyC l sz w v) (hM : keyM l t) (hg : kgood l) {ns : List Nat} {r : NT} (hN : nodesC l ns r) (a b c told mn : Int32) (mp : Nat → Int32) : ∃ rn rm, fX7_node a b c told r.1 r.2.1 r.2.2.2.2.2.2 r.2.2.1 r.2.2.2.2.1 sz w r.2.2.2.2.2.1 = some rn ∧ fX8_node a b c told mn t mp = some rm ∧ rn.1 = rm.1 ∧ rn.2 = rm.2.1 := by
  unfold fX7_node fX8_node
  rcases n_path a b with ⟨v', n', ⟨-, h2, h3, rfl, rfl⟩, e1, e2⟩ | ⟨e1, e2⟩
  · rw [e1, e2, Option.bind_some, Option.bind_some, if_neg (show ¬ (1 : Int32) = 0 by decide), if_neg (show ¬ (1 : Int32) = 0 by decide), show (4 : Int64) = (4 : Int32).toInt64 by decide, show (5 : Int32) = nI 5 from rfl]
    rcases pk_ix c (n := 5) (by omega) with q | q | ⟨j, hj, rfl⟩
    · rw [if_pos q, inr_f (cnt := 5) (m := 4) (by omega) (by omega) rfl (Or.inl q), Option.bind_some, if_pos rfl]
      exact ⟨_, _, rfl, rfl, rfl, rfl⟩
    · have q2 : ¬ c < nI 5 := fun z => (fa_of_lt z).2.1 q
      rw [if_neg q2, inr_f (cnt := 5) (m := 4) (by omega) (by omega) rfl (Or.inr q), Option.bind_some, if_pos (show (0 : Int32) = 0 from rfl)]
      by_cases c0 : c < 0
      · rw [if_pos c0]; exact ⟨_, _, rfl, rfl, rfl, rfl⟩
      · rw [if_neg c0]; exact ⟨_, _, rfl, rfl, rfl, rfl⟩
    · have hx := wmk_ok h2 h3
      have hxl := wok_lt hx
      obtain ⟨rf, hf1, hf2⟩ := n_finds hM hg mp
      rw [if_neg (nI_pos (by omega)), if_pos (nI_lt hj (by omega)), inr_t (cnt := 5) (m := 4) (by omega) rfl hj, Option.bind_some, if_neg (show ¬ (1 : Int32) = 0 by decide), n_pack6 h2 h3, Option.bind_some, n_word8 h2 h3, Option.bind_some, hf1, Option.bind_some]
      rcases n_seat_node hN hxl with ⟨s1, d, s2, s3, s4, s5⟩ | ⟨s1, s2⟩
      · rcases n_finds_node hg hf2 hxl with ⟨u1, rr, u2, u3⟩ | ⟨u1, u2⟩
        · rw [s4, Option.bind_some, if_neg s5, u2, Option.bind_some, if_neg u3, n_child hM hg hx, Option.bind_some]
          unfold fX7_nodeFact fX8_tell
          rcases (show j = 0 ∨ j = 1 ∨ j = 2 ∨ j = 3 ∨ j = 4 by omega) with rfl | rfl | rfl | rfl | rfl
          · rw [if_pos (by decide), if_pos (by decide), n_sizeOf6 hN s2, s3, n_size8 (msk_lt _ 16), nk_pc, Option.bind_some, Option.bind_some, Option.bind_some, Option.bind_some]
            exact ⟨_, _, rfl, rfl, rfl, rfl⟩
          · rw [if_neg (by decide), if_pos (by decide), if_neg (by decide), if_pos (by decide), n_childs6 hN s2, s3, Option.bind_some, Option.bind_some, Option.bind_some]
            exact ⟨_, _, rfl, rfl, rfl, rfl⟩
          · rw [if_neg (by decide), if_neg (by decide), if_pos (by decide), if_neg (by decide), if_neg (by decide), if_pos (by decide), n_prefix6 hN s2, s3, n_prefix8 hg hf2 hx, Option.bind_some, Option.bind_some, Option.bind_some, Option.bind_some]
            exact ⟨_, _, rfl, rfl, rfl, rfl⟩
          · rw [if_neg (by decide), if_neg (by decide), if_neg (by decide), if_pos (by decide), if_neg (by decide), if_neg (by decide), if_neg (by decide), if_pos (by decide), n_hasEnd6 hC hg hN s2, s3, n_place8 hM hg (by omega), Option.bind_some, Option.bind_some]
            by_cases ck : kH l (wmk v' n')
            · have hlt := ck.1
              have h48 := hg.1
              rw [if_pos ck, if_pos ck, if_neg (show ¬ (1 : Int32) = 0 by decide), if_neg (nI_ne9 (by omega)), Option.bind_some, Option.bind_some, Option.bind_some]
              exact ⟨_, _, rfl, rfl, rfl, rfl⟩
            · rw [if_neg ck, if_neg ck, if_pos rfl, if_pos rfl, Option.bind_some, Option.bind_some, Option.bind_some]
              exact ⟨_, _, rfl, rfl, rfl, rfl⟩
          · rw [if_neg (by decide), if_neg (by decide), if_neg (by decide), if_neg (by decide), if_neg (by decide), if_neg (by decide), if_neg (by decide), if_neg (by decide), n_below6 hN s2, s3, n_und8 hM hg hx, Option.bind_some, Option.bind_some, Option.bind_some, Option.bind_some]
            exact ⟨_, _, rfl, rfl, rfl, rfl⟩
        · exact absurd s1 u1
      · rcases n_finds_node hg hf2 hxl with ⟨u1, -⟩ | ⟨u1, u2⟩
        · exact absurd u1 s1
        · rw [s2, Option.bind_some, if_pos rfl, u2, Option.bind_some, if_pos rfl]
          exact ⟨_, _, rfl, rfl, rfl, rfl⟩
  · rw [e1, e2, Option.bind_some, Option.bind_some, if_pos rfl, if_pos rfl]
    exact ⟨_, _, rfl, rfl, rfl, rfl⟩
