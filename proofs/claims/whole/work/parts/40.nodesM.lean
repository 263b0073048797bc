/-! the reference's nodes -/
def adjP (l : KL) (i : Nat) : Nat := whd (kW l i) (wlcp (kW l i) (kW l (i + 1)))
def pNg (l : KL) : Nat → List Nat
  | 0 => []
  | i + 1 => if adjP l i ∈ pNg l i then pNg l i else pNg l i ++ [adjP l i]
def pN (l : KL) : List Nat := pNg l (l.length - 1)
theorem pNg_mem (l : KL) (q : Nat) : ∀ n, q ∈ pNg l n ↔ ∃ i, i < n ∧ q = adjP l i
  | 0 => ⟨fun h => absurd h List.not_mem_nil, fun ⟨i, h, _⟩ => absurd h (Nat.not_lt_zero i)⟩
  | n + 1 => by
    have ih := pNg_mem l q n
    show q ∈ (if adjP l n ∈ pNg l n then pNg l n else pNg l n ++ [adjP l n]) ↔ _
    have main : (q ∈ pNg l n ∨ q = adjP l n) ↔ ∃ i, i < n + 1 ∧ q = adjP l i := by
      rw [ih]
      constructor
      · rintro (⟨i, h1, h2⟩ | h)
        · exact ⟨i, by omega, h2⟩
        · exact ⟨n, by omega, h⟩
      · rintro ⟨i, h1, h2⟩
        rcases Nat.lt_or_ge i n with z | z
        · exact Or.inl ⟨i, z, h2⟩
        · right; rw [show i = n by omega] at h2; exact h2
    rw [← main]
    by_cases c : adjP l n ∈ pNg l n
    · rw [if_pos c]
      exact ⟨Or.inl, fun h => h.elim id (fun e => by rw [e]; exact c)⟩
    · rw [if_neg c, List.mem_append, List.mem_singleton]
theorem pNg_nodup (l : KL) : ∀ n, (pNg l n).Nodup
  | 0 => List.nodup_nil
  | n + 1 => by
    show (if adjP l n ∈ pNg l n then pNg l n else pNg l n ++ [adjP l n]).Nodup
    by_cases c : adjP l n ∈ pNg l n
    · rw [if_pos c]; exact pNg_nodup l n
    · rw [if_neg c, List.nodup_append]
      refine ⟨pNg_nodup l n, by simp, fun a ha b hb => ?_⟩
      rw [List.mem_singleton] at hb
      intro e
      rw [e, hb] at ha
      exact c ha
theorem pNg_len (l : KL) : ∀ n, (pNg l n).length ≤ n
  | 0 => Nat.le_refl _
  | n + 1 => by
    have := pNg_len l n
    show (if adjP l n ∈ pNg l n then pNg l n else pNg l n ++ [adjP l n]).length ≤ _
    by_cases c : adjP l n ∈ pNg l n
    · rw [if_pos c]; omega
    · rw [if_neg c, List.length_append]; simp; omega
theorem pN_mem {l : KL} (hg : kgood l) (q : Nat) : q ∈ pN l ↔ isN l q := by
  unfold pN
  rw [pNg_mem]
  constructor
  · rintro ⟨i, h1, rfl⟩
    exact adj_isN hg (by omega)
  · intro h
    obtain ⟨i, h1, -, -, h4, h5⟩ := isN_adj hg h
    exact ⟨i, by omega, by unfold adjP; rw [h4]; exact h5⟩
theorem pN_nodup (l : KL) : (pN l).Nodup := pNg_nodup l _
theorem pN_len {l : KL} (hg : kgood l) : (pN l).length ≤ 47 := by
  have h1 := pNg_len l (l.length - 1)
  have h2 := hg.1
  unfold pN
  omega
/-- a row of paths -/
def pR (ps : List Nat) (z : Int32) (f : Nat → Int32) : Prop := z = nI ps.length ∧ ∀ j, j < ps.length → f j = nI (ps.getD j 0)
theorem getD_mem {ps : List Nat} {j : Nat} (h : j < ps.length) : ps.getD j 0 ∈ ps := by
  rw [List.getD_eq_getElem?_getD, List.getElem?_eq_getElem h]
  exact List.getElem_mem h
theorem mem_getD {ps : List Nat} {q : Nat} (h : q ∈ ps) : ∃ j, j < ps.length ∧ ps.getD j 0 = q := by
  obtain ⟨j, hj, e⟩ := List.getElem_of_mem h
  exact ⟨j, hj, by rw [List.getD_eq_getElem?_getD, List.getElem?_eq_getElem hj]; exact e⟩
theorem n_nodeOf_L {ps : List Nat} {z : Int32} {f : Nat → Int32} (h : pR ps z f) (hl : ps.length ≤ 47) (hb : ∀ q ∈ ps, q < 2 ^ 27) {x : Nat} (hx : x < 2 ^ 27) : ∀ (m F i : Nat), ps.length - i = m → m < F → i ≤ ps.length → (∀ j, j < i → ps.getD j 0 ≠ x) → ∃ r, fX8_nodeOf_L2 z f (nI x) F (nI i) = some r ∧ ((x ∉ ps ∧ r = -9) ∨ ∃ j, j < ps.length ∧ ps.getD j 0 = x ∧ r = nI j)
  | m, 0, i, _, hF, _, _ => absurd hF (Nat.not_lt_zero m)
  | m, F + 1, i, hm, hF, hi, hk => by
    rw [fX8_nodeOf_L2, h.1]
    by_cases c : i < ps.length
    · have hq := hb _ (getD_mem c)
      rw [if_neg (nI_ge c (by omega)), gx_n (by omega) (by omega), nI_clamp (by omega), h.2 i c]
      by_cases c2 : ps.getD i 0 = x
      · rw [if_pos (by rw [c2])]
        exact ⟨_, rfl, Or.inr ⟨i, c, c2, rfl⟩⟩
      · rw [if_neg (fun e => c2 ((nI_eq (by omega) (by omega)).mp e)), gl_eq, nI_1, ← h.1]
        refine n_nodeOf_L h hl hb hx (m - 1) F (i + 1) (by omega) (by omega) c (fun j hj => ?_)
        rcases Nat.lt_or_ge j i with q | q
        · exact hk j q
        · rw [show j = i by omega]; exact c2
    · rw [if_pos (nI_le (by omega) (by omega))]
      refine ⟨_, rfl, Or.inl ⟨fun hm => ?_, rfl⟩⟩
      obtain ⟨j, hj, e⟩ := mem_getD hm
      exact hk j (by omega) e
theorem n_nodeOf {ps : List Nat} {z : Int32} {f : Nat → Int32} (h : pR ps z f) (hl : ps.length ≤ 47) (hb : ∀ q ∈ ps, q < 2 ^ 27) {x : Nat} (hx : x < 2 ^ 27) : ∃ r, fX8_nodeOf (nI x) z f = some r ∧ ((x ∉ ps ∧ r = -9) ∨ ∃ j, j < ps.length ∧ ps.getD j 0 = x ∧ r = nI j) := by
  unfold fX8_nodeOf
  have := n_nodeOf_L h hl hb hx ps.length gF 0 (Nat.sub_zero _) (by unfold gF; omega) (Nat.zero_le _) (fun j hj => absurd hj (Nat.not_lt_zero j))
  rw [nI_0] at this
  exact this
theorem nI_ne9 {k : Nat} (h : k < 2 ^ 31) : ¬ nI k = (-9 : Int32) := fun e => by
  have h1 : (nI k).toInt = (k : Int) := nI_toInt h
  rw [e] at h1
  have h2 : (-9 : Int32).toInt = -9 := by decide
  omega
theorem adjP_lt {l : KL} (hg : kgood l) {i : Nat} (hi : i + 1 < l.length) : adjP l i < 2 ^ 27 := wok_lt (adj_isN hg hi).1
theorem n_finds_L {l : KL} {t : Nat → Int32} (hM : keyM l t) (hg : kgood l) : ∀ (m F i : Nat) (z : Int32) (f : Nat → Int32), (l.length - 1) - i = m → m < F → i ≤ l.length - 1 → pR (pNg l i) z f → ∃ r, fX8_findsNodes_L7 97 t F (nI i) z f = some r ∧ pR (pN l) r.1 r.2
  | m, 0, i, z, f, _, hF, _, _ => absurd hF (Nat.not_lt_zero m)
  | m, F + 1, i, z, f, hm, hF, hi, hp => by
    have h48 := hg.1
    rw [fX8_findsNodes_L7, gx_0 (by omega) (by omega), cl_0, hM.1, nI_1]
    by_cases c : i + 1 < l.length
    · have hA := hg.ok (show i < l.length by omega)
      have hB := hg.ok c
      have hlc := (wlcp_spec hA hB).1
      have hl6 := wok_len hA
      have h1 : (1 : Int32) + nI i + (1 : Int32) = nI (1 + (i + 1)) := by rw [n_1p, nI_1]; exact congrArg nI (by omega)
      rw [if_neg (nI_ge c (by omega)), h1, n_1p, gx_n (by omega) (by omega), gx_n (by omega) (by omega), gx_n (by omega) (by omega), nI_clamp (by omega), nI_clamp (by omega), hM.2.1 i (by omega), hM.2.1 (i + 1) c, n_alike hA hB, Option.bind_some, n_head8 (wok_lt hA) (by omega), Option.bind_some]
      have hpl := pNg_len l i
      have hbd : ∀ q ∈ pNg l i, q < 2 ^ 27 := fun q hq => by
        obtain ⟨j, hj, rfl⟩ := (pNg_mem l q i).mp hq
        exact adjP_lt hg (by omega)
      obtain ⟨r, hr1, hr2⟩ := n_nodeOf hp (by omega) hbd (adjP_lt hg c)
      have hr1' : fX8_nodeOf (nI (whd (kW l i) (wlcp (kW l i) (kW l (i + 1))))) z f = some r := hr1
      rw [hr1', Option.bind_some]
      rcases hr2 with ⟨hn, rfl⟩ | ⟨j, hj, hj2, rfl⟩
      · rw [if_pos rfl, hp.1, gx_n (by omega) (by omega), gl_eq, nI_1, Option.bind_some, gl_eq, nI_clamp (by omega)]
        refine n_finds_L hM hg (m - 1) F (i + 1) _ _ (by omega) (by omega) (by omega) ?_
        have e : pNg l (i + 1) = pNg l i ++ [adjP l i] := if_neg hn
        rw [e]
        refine ⟨by rw [List.length_append]; rfl, fun j hj => ?_⟩
        rw [List.length_append] at hj
        simp at hj
        rcases Nat.lt_or_ge j (pNg l i).length with q | q
        · dsimp only
          rw [pk_un (by omega), hp.2 j q, show (pNg l i ++ [adjP l i]).getD j 0 = (pNg l i).getD j 0 by
            rw [List.getD_eq_getElem?_getD, List.getD_eq_getElem?_getD, List.getElem?_append_left q]]
        · have ej : j = (pNg l i).length := by omega
          subst ej
          dsimp only
          rw [pk_us, show (pNg l i ++ [adjP l i]).getD (pNg l i).length 0 = adjP l i by
            rw [List.getD_eq_getElem?_getD, List.getElem?_append_right (Nat.le_refl _), Nat.sub_self]; rfl]
          rfl
      · have hlj : j < 2 ^ 31 := by omega
        rw [if_neg (nI_ne9 hlj), Option.bind_some, gl_eq]
        refine n_finds_L hM hg (m - 1) F (i + 1) _ _ (by omega) (by omega) (by omega) ?_
        have e : pNg l (i + 1) = pNg l i := if_pos (by rw [show adjP l i = (pNg l i).getD j 0 from hj2.symm]; exact getD_mem hj)
        rw [e]
        exact hp
    · rw [if_pos (nI_le (by omega) (by omega))]
      refine ⟨_, rfl, ?_⟩
      have e : i = l.length - 1 := by omega
      rw [e] at hp
      exact hp
theorem n_finds {l : KL} {t : Nat → Int32} (hM : keyM l t) (hg : kgood l) (f : Nat → Int32) : ∃ r, fX8_findsNodes 97 t f = some r ∧ pR (pN l) r.1 r.2 := by
  have h48 := hg.1
  obtain ⟨r, h1, h2⟩ := n_finds_L hM hg (l.length - 1) gF 0 0 f (Nat.sub_zero _) (by unfold gF; omega) (Nat.zero_le _) ⟨rfl, fun j hj => absurd hj (Nat.not_lt_zero j)⟩
  rw [nI_0] at h1
  unfold fX8_findsNodes
  rw [h1]
  exact ⟨_, rfl, h2⟩
/-! children, sizes, places -/
theorem kid_up (l : KL) (q : Nat) (n : Nat) (f : Nat) : decide (0 < fb_ct (fun k => decide (kgo l q f k)) (n + 1)) = (decide (0 < fb_ct (fun k => decide (kgo l q f k)) n) || decide (kgo l q f n)) := by
  rw [fb_ct_succ]
  by_cases c : kgo l q f n
  · rw [decide_eq_true c]; simp
  · rw [decide_eq_false c]; simp
theorem n_1shl {f : Nat} (hf : f < 16) : (1 : Int32) <<< (nI f &&& 31) = nI (2 ^ f) := by
  have := n_shl (W := 1) (k := f) (by have := Nat.pow_lt_pow_right (show 1 < 2 by decide) (show f < 32 by omega); omega) (by omega)
  rw [Nat.one_mul] at this
  exact this
theorem n_child_L {l : KL} {t : Nat → Int32} (hM : keyM l t) (hg : kgood l) {q : Nat} (hq : wok q) : ∀ (m F i : Nat), l.length - i = m → m < F → i ≤ l.length → fX8_childrenOf_L4 97 t (nI q) F (nI (msk (fun f => decide (0 < fb_ct (fun k => decide (kgo l q f k)) i)) 16)) (nI i) = some (nI (msk (kid l q) 16))
  | m, 0, i, _, hF, _ => absurd hF (Nat.not_lt_zero m)
  | m, F + 1, i, hm, hF, hi => by
    have h48 := hg.1
    have hql := wok_len hq
    rw [fX8_childrenOf_L4, gx_0 (by omega) (by omega), cl_0, hM.1]
    by_cases c : i < l.length
    · have hA := hg.ok c
      have hal := wok_len hA
      rw [if_neg (nI_ge c (by omega)), n_1p, gx_n (by omega) (by omega), nI_clamp (by omega), hM.2.1 i c, gl_eq, n_begins hq hA, Option.bind_some]
      -- what the key gives
      have e : (if (if whead q (kW l i) then (1 : Int32) else 0) = 0 then (some (0 : Int32)) else (Option.bind (fX8_sizeOf (nI (kW l i))) (fun q_30 => (Option.bind (fX8_sizeOf (nI q)) (fun q_34 => (if q_30 ≤ q_34 then (some (0 : Int32)) else (Option.bind (fX8_sizeOf (nI q)) (fun q_44 => (Option.bind (fX8_figure (nI (kW l i)) q_44) (fun q_47 => (some ((1 : Int32) <<< (q_47 &&& 31))))))))))))) = some (nI (if whead q (kW l i) ∧ q % 8 < kW l i % 8 then 2 ^ wfg (kW l i) (q % 8) else 0)) := by
        by_cases c1 : whead q (kW l i)
        · rw [if_pos c1, if_neg (by decide), n_len8 (wok_lt hA), Option.bind_some, n_len8 (wok_lt hq), Option.bind_some]
          by_cases c2 : q % 8 < kW l i % 8
          · rw [if_neg (nI_ge c2 (by omega)), Option.bind_some, n_fig8 (wok_lt hA) (by omega), Option.bind_some, n_1shl (wfg_lt _ _), if_pos ⟨c1, c2⟩]
          · rw [if_pos (nI_le (by omega) (by omega)), if_neg (fun z => c2 z.2)]; rfl
        · rw [if_neg c1, if_pos rfl, if_neg (fun z => c1 z.1)]; rfl
      rw [e, Option.bind_some, gl_eq, fa_or, gl_eq, nI_1]
      have e2 : (msk (fun f => decide (0 < fb_ct (fun k => decide (kgo l q f k)) i)) 16 ||| (if whead q (kW l i) ∧ q % 8 < kW l i % 8 then 2 ^ wfg (kW l i) (q % 8) else 0)) = msk (fun f => decide (0 < fb_ct (fun k => decide (kgo l q f k)) (i + 1))) 16 := by
        have hb1 := msk_lt (fun f => decide (0 < fb_ct (fun k => decide (kgo l q f k)) i)) 16
        have hf := wfg_lt (kW l i) (q % 8)
        have hb2 : (if whead q (kW l i) ∧ q % 8 < kW l i % 8 then 2 ^ wfg (kW l i) (q % 8) else 0) < 2 ^ 16 := by
          split
          · exact Nat.pow_lt_pow_right (by decide) hf
          · decide
        refine bits_ext (n := 16) (Nat.or_lt_two_pow hb1 hb2) (msk_lt _ 16) (fun f hf16 => ?_)
        rw [Nat.testBit_or, msk_bit, msk_bit, kid_up]
        by_cases c1 : whead q (kW l i) ∧ q % 8 < kW l i % 8
        · rw [if_pos c1, Nat.testBit_two_pow]
          by_cases c2 : wfg (kW l i) (q % 8) = f
          · have hk : kgo l q f i := ⟨c1.1, c1.2, c2⟩
            rw [decide_eq_true hk, decide_eq_true c2]; simp [hf16]
          · have hk : ¬ kgo l q f i := fun z => c2 z.2.2
            rw [decide_eq_false hk, decide_eq_false c2]; simp [hf16]
        · have hk : ¬ kgo l q f i := fun z => c1 ⟨z.1, z.2.1⟩
          rw [if_neg c1, decide_eq_false hk, Nat.zero_testBit]; simp [hf16]
      rw [e2]
      exact n_child_L hM hg hq (m - 1) F (i + 1) (by omega) (by omega) c
    · rw [if_pos (nI_le (by omega) (by omega)), show i = l.length by omega]
      rfl
theorem msk_none : ∀ n, msk (fun _ => false) n = 0
  | 0 => rfl
  | n + 1 => by show msk (fun _ => false) n + _ = 0; rw [msk_none n]; rfl
theorem n_child {l : KL} {t : Nat → Int32} (hM : keyM l t) (hg : kgood l) {q : Nat} (hq : wok q) : fX8_childrenOf (nI q) 97 t = some (nI (msk (kid l q) 16)) := by
  have h48 := hg.1
  unfold fX8_childrenOf
  have e := n_child_L hM hg hq l.length gF 0 (Nat.sub_zero _) (by unfold gF; omega) (Nat.zero_le _)
  have e0 : msk (fun f => decide (0 < fb_ct (fun k => decide (kgo l q f k)) 0)) 16 = 0 := msk_none 16
  rw [e0, nI_0] at e
  rw [e]
  rfl
def szN (n : Nat) : Nat := if 2 < n then (if 4 < n then (if 8 < n then 4 else 3) else 2) else 1
def plc (n : Nat) : Nat := 2 ^ szN n
theorem szN_le (n : Nat) : 1 ≤ szN n ∧ szN n ≤ 4 := by unfold szN; (repeat' split) <;> omega
theorem n_size8 {x : Nat} (hx : x < 2 ^ 16) : fX8_sizeNumber (nI x) = some (nI (szN (pc x))) := by
  have hp := pc_le x
  unfold fX8_sizeNumber szN
  rw [n_bits8 hx, Option.bind_some, show (2 : Int32) = nI 2 from rfl, show (4 : Int32) = nI 4 from rfl, show (8 : Int32) = nI 8 from rfl]
  by_cases c1 : 2 < pc x
  · rw [if_pos (nI_lt c1 (by omega)), if_pos c1]
    by_cases c2 : 4 < pc x
    · rw [if_pos (nI_lt c2 (by omega)), if_pos c2]
      by_cases c3 : 8 < pc x
      · rw [if_pos (nI_lt c3 (by omega)), if_pos c3]
      · rw [if_neg (nI_nlt (by omega) (by omega)), if_neg c3]; rfl
    · rw [if_neg (nI_nlt (by omega) (by omega)), if_neg c2]
  · rw [if_neg (nI_nlt (by omega) (by omega)), if_neg c1]; rfl
theorem nk_pc (l : KL) (q : Nat) : pc (msk (kid l q) 16) = nk l q := pc_msk _
theorem n_places8 {l : KL} {t : Nat → Int32} (hM : keyM l t) (hg : kgood l) {q : Nat} (hq : wok q) : fX8_placesOf (nI q) 97 t = some (nI (plc (nk l q))) := by
  unfold fX8_placesOf
  have := szN_le (nk l q)
  rw [n_child hM hg hq, Option.bind_some, n_size8 (msk_lt _ 16), Option.bind_some, nk_pc, n_1shl (by omega)]
  rfl
