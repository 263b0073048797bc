/-! what words answer -/
theorem in_t {a b c : Int32} (h : b ≤ a ∧ a ≤ c) : fX8_in (a.toInt64) (b.toInt64) (c.toInt64) = some 1 := by rw [n_in8, if_pos h]
theorem in_f {a b c : Int32} (h : ¬ (b ≤ a ∧ a ≤ c)) : fX8_in (a.toInt64) (b.toInt64) (c.toInt64) = some 0 := by rw [n_in8, if_neg h]
theorem inr_t {cnt j : Nat} {m : Int32} (hc : cnt < 2 ^ 31) (hm : m = nI (cnt - 1)) (hj : j < cnt) : fX8_in ((nI j).toInt64) (0 : Int64) (m.toInt64) = some 1 := by
  rw [n_inrow hc (by omega) hm, if_neg (fun q => q.elim (nI_pos (by omega)) (nI_ge hj hc))]
theorem inr_f {cnt : Nat} {m x : Int32} (hc : cnt < 2 ^ 31) (h0 : 0 < cnt) (hm : m = nI (cnt - 1)) (h : x < 0 ∨ nI cnt ≤ x) : fX8_in (x.toInt64) (0 : Int64) (m.toInt64) = some 0 := by
  rw [n_inrow hc h0 hm, if_pos h]
theorem inM_t {n j : Nat} (hn : n < 2 ^ 30) (hj : j < n) : fX8_in ((nI j).toInt64) (0 : Int64) (((nI n - (1 : Int32))).toInt64) = some 1 := by
  rw [n_inM hn, if_neg (fun q => q.elim (nI_pos (by omega)) (nI_ge hj (by omega)))]
theorem inM_f {n : Nat} (hn : n < 2 ^ 30) {x : Int32} (h : x < 0 ∨ nI n ≤ x) : fX8_in (x.toInt64) (0 : Int64) (((nI n - (1 : Int32))).toInt64) = some 0 := by
  rw [n_inM hn, if_pos h]
theorem e_change {c m : Nat → Int32} (h : ∀ k, k < 4 → c k = m k) (a : Int32) : ∃ rn rm, fX7_change a c = some rn ∧ fX8_change a m = some rm ∧ rn = rm := by
  unfold fX7_change fX8_change
  rw [show (3 : Int64) = (3 : Int32).toInt64 by decide, show (4 : Int32) = nI 4 from rfl]
  rcases pk_ix a (n := 4) (by omega) with q | q | ⟨j, hj, rfl⟩
  · rw [if_pos q, inr_f (cnt := 4) (m := 3) (by omega) (by omega) rfl (Or.inl q), Option.bind_some, if_pos rfl]
    exact ⟨_, _, rfl, rfl, rfl⟩
  · have q2 : ¬ a < nI 4 := fun z => (fa_of_lt z).2.1 q
    rw [if_neg q2, inr_f (cnt := 4) (m := 3) (by omega) (by omega) rfl (Or.inr q), Option.bind_some, if_pos (show (0 : Int32) = 0 from rfl)]
    by_cases c0 : a < 0
    · rw [if_pos c0]; exact ⟨_, _, rfl, rfl, rfl⟩
    · rw [if_neg c0]; exact ⟨_, _, rfl, rfl, rfl⟩
  · rw [if_neg (nI_pos (by omega)), if_pos (nI_lt hj (by omega)), gx_n hj (by omega), inr_t (cnt := 4) (m := 3) (by omega) rfl hj, Option.bind_some, if_neg (show ¬ (1 : Int32) = 0 by decide), gx_n hj (by omega), nI_clamp (by omega)]
    exact ⟨_, _, rfl, rfl, h j hj⟩
theorem e_findings (c : Nat → Int32) (a : Int32) : ∃ rn rm, fX7_findings a c = some rn ∧ fX8_findings a c = some rm ∧ rn = rm := by
  unfold fX7_findings fX8_findings
  rw [show (5 : Int64) = (5 : Int32).toInt64 by decide, show (1 : Int64) = (1 : Int32).toInt64 by decide]
  by_cases c1 : a < 1
  · rw [if_pos c1, in_f (fun e => (fa_of_lt c1).2.1 e.1), Option.bind_some, if_pos rfl]
    exact ⟨_, _, rfl, rfl, rfl⟩
  · rw [if_neg c1]
    by_cases c2 : a ≤ 5
    · rw [if_pos c2, in_t ⟨fa_of_nlt c1, c2⟩, Option.bind_some, if_neg (show ¬ (1 : Int32) = 0 by decide)]
      obtain ⟨j, hj, rfl⟩ := nI_of2 (M := 5) (n := 5) rfl (by
        have n1 := fa_of_nlt c1
        rw [fa_lt]; rw [fa_le] at n1
        have e0 : (0 : Int32).toInt = 0 := rfl
        have e9 : (1 : Int32).toInt = 1 := rfl
        omega) c2
      rw [gx_n (by omega) (by omega)]
      exact ⟨_, _, rfl, rfl, rfl⟩
    · rw [if_neg c2, in_f (fun e => c2 e.2), Option.bind_some, if_pos rfl]
      exact ⟨_, _, rfl, rfl, rfl⟩
theorem n_tellW {W : Nat} (hW : wok W) : fX7_tellWord (nI W) = some (nI (wpre W (W % 8)), nI (W % 8)) := by
  unfold fX7_tellWord
  rw [n_len6 (wok_lt hW), Option.bind_some, n_figs6 hW]
  rfl
theorem n_tellK {l : KL} {t : Nat → Int32} (hM : keyM l t) (hg : kgood l) {k : Nat} (hk : k < l.length) : fX8_tellsKey (nI k) t = some (nI (wpre (kW l k) (kW l k % 8)), nI (kW l k % 8)) := by
  have h48 := hg.1
  unfold fX8_tellsKey
  rw [n_1p, gx_n (by omega) (by omega), nI_clamp (by omega), hM.2.1 k hk, n_num8 (hg.ok hk), Option.bind_some, gx_n (by omega) (by omega), n_len8 (hg.lt hk), Option.bind_some]
  rfl
theorem e_nth {l : KL} {sz : Int32} {w v t : Nat → Int32} (hC : keyC l sz w v) (hM : keyM l t) (hg : kgood l) (a told : Int32) : ∃ rn rm, fX7_nth a told sz w = some rn ∧ fX8_nth a told t = some rm ∧ rn.1 = rm.1 ∧ rn.2 = rm.2 := by
  have h48 := hg.1
  unfold fX7_nth fX8_nth
  rw [gx_0 (by omega) (by omega), cl_0, hM.1]
  rcases pk_ix a (n := l.length) (by omega) with q | q | ⟨j, hj, rfl⟩
  · rw [if_pos q, inM_f (by omega) (Or.inl q), Option.bind_some, if_pos rfl]
    exact ⟨_, _, rfl, rfl, rfl, rfl⟩
  · have q2 : ¬ a < sz := fun z => by rw [hC.1] at z; exact (fa_of_lt z).2.1 q
    rw [if_neg q2, inM_f (by omega) (Or.inr q), Option.bind_some, if_pos (show (0 : Int32) = 0 from rfl)]
    by_cases c0 : a < 0
    · rw [if_pos c0]; exact ⟨_, _, rfl, rfl, rfl, rfl⟩
    · rw [if_neg c0]; exact ⟨_, _, rfl, rfl, rfl, rfl⟩
  · rw [if_neg (nI_pos (by omega)), if_pos (show nI j < sz by rw [hC.1]; exact nI_lt hj (by omega)), inM_t (by omega) hj, Option.bind_some, if_neg (show ¬ (1 : Int32) = 0 by decide), n_wordAt6 hC hg hj, Option.bind_some, n_tellW (hg.ok hj), Option.bind_some, n_tellK hM hg hj, Option.bind_some]
    exact ⟨_, _, rfl, rfl, rfl, rfl⟩
theorem e_next {l : KL} {sz : Int32} {w v t : Nat → Int32} (hC : keyC l sz w v) (hM : keyM l t) (hg : kgood l) (a b told : Int32) : ∃ rn rm, fX7_next a b told sz w = some rn ∧ fX8_next a b told t = some rm ∧ rn.1 = rm.1 ∧ rn.2 = rm.2 := by
  have h48 := hg.1
  unfold fX7_next fX8_next
  rcases n_word a b with ⟨v', n', ⟨h1, h2, h3, rfl, rfl⟩, e1, e2⟩ | ⟨e1, e2⟩
  · have hx := wok_lt (wmk_ok h2 h3)
    have hp := ah_le (wmk v' n' + 1) l
    rw [e1, e2, Option.bind_some, Option.bind_some, if_neg (by decide), if_neg (by decide), n_pack6 h2 h3, n_word8 h2 h3, Option.bind_some, Option.bind_some, nI_1, n_ah6 hC hg (by omega), n_ah8 hM hg (by omega), Option.bind_some, Option.bind_some, gx_0 (by omega) (by omega), cl_0, hM.1]
    by_cases c : ah (wmk v' n' + 1) l < l.length
    · rw [if_neg (by rw [hC.1]; exact nI_ge c (by omega)), if_neg (fun e => by have := (nI_eq (by omega) (by omega)).mp e; omega), n_wordAt6 hC hg c, Option.bind_some, n_tellW (hg.ok c), Option.bind_some, n_tellK hM hg c, Option.bind_some]
      exact ⟨_, _, rfl, rfl, rfl, rfl⟩
    · rw [if_pos (by rw [hC.1]; exact nI_le (by omega) (by omega)), if_pos (by rw [show ah (wmk v' n' + 1) l = l.length by omega])]
      exact ⟨_, _, rfl, rfl, rfl, rfl⟩
  · rw [e1, e2, Option.bind_some, Option.bind_some, if_pos rfl, if_pos rfl]
    exact ⟨_, _, rfl, rfl, rfl, rfl⟩
theorem e_rank {l : KL} {sz : Int32} {w v t : Nat → Int32} (hC : keyC l sz w v) (hM : keyM l t) (hg : kgood l) (a b told : Int32) : ∃ rn rm, fX7_rank a b told sz w = some rn ∧ fX8_rank a b told t = some rm ∧ rn.1 = rm.1 ∧ rn.2 = rm.2 := by
  unfold fX7_rank fX8_rank
  rcases n_word a b with ⟨v', n', ⟨h1, h2, h3, rfl, rfl⟩, e1, e2⟩ | ⟨e1, e2⟩
  · have hx := wok_lt (wmk_ok h2 h3)
    rw [e1, e2, Option.bind_some, Option.bind_some, if_neg (by decide), if_neg (by decide), n_pack6 h2 h3, n_word8 h2 h3, Option.bind_some, Option.bind_some, n_beg6 hC hg (wmk_ok h2 h3), Option.bind_some, n_ah6 hC hg (by omega), n_ah8 hM hg (by omega), Option.bind_some, Option.bind_some, Option.bind_some, n_und8 hM hg (wmk_ok h2 h3), Option.bind_some]
    exact ⟨_, _, rfl, rfl, rfl, rfl⟩
  · rw [e1, e2, Option.bind_some, Option.bind_some, if_pos rfl, if_pos rfl]
    exact ⟨_, _, rfl, rfl, rfl, rfl⟩
/-! between -/
theorem ah_iff {l : KL} (hg : kgood l) {x k : Nat} (hk : k < l.length) : k < ah x l ↔ kW l k < x := by
  obtain ⟨a1, a2, a3⟩ := ah_is x l
  constructor
  · exact a2 k
  · intro h
    rcases Nat.lt_or_ge k (ah x l) with q | q
    · exact q
    · have := a3 (by omega)
      have := kmono hg q hk
      omega
theorem n_vsum_L {l : KL} {sz : Int32} {w v : Nat → Int32} (hC : keyC l sz w v) (hg : kgood l) {a b : Nat} (hab : a ≤ b) (hb : b ≤ l.length) : ∀ (m F j : Nat), b - (a + j) = m → m < F → a + j ≤ b → fX1_valueSum_L5 (nI b) sz v F (nI (fb_sm (fun k => kV l (a + k)) j)) (nI (a + j)) = some (nI (fb_sm (fun k => kV l (a + k)) (b - a)))
  | m, 0, j, _, hF, _ => absurd hF (Nat.not_lt_zero m)
  | m, F + 1, j, hm, hF, hj => by
    have h48 := hg.1
    rw [fX1_valueSum_L5]
    by_cases c : a + j < b
    · rw [if_neg (nI_ge c (by omega)), n_value6 hC hg (by omega), Option.bind_some, gl_eq, nI_add, gl_eq, nI_1]
      exact n_vsum_L hC hg hab hb (m - 1) F (j + 1) (by omega) (by omega) (by omega)
    · rw [if_pos (nI_le (by omega) (by omega)), show j = b - a by omega]
theorem n_btw_L {l : KL} {t : Nat → Int32} (hM : keyM l t) (hg : kgood l) {v1 n1 v2 n2 : Nat} (h1 : n1 ≤ 6) (g1 : v1 < 16 ^ n1) (h2 : n2 ≤ 6) (g2 : v2 < 16 ^ n2) : ∀ (m F i : Nat), l.length - i = m → m < F → i ≤ l.length → fX8_between_L30 t (nI v1) (nI n1) (nI v2) (nI n2) F (nI (fb_ct (fun k => decide (wmk v1 n1 ≤ kW l k ∧ kW l k ≤ wmk v2 n2)) i)) (nI (fb_sm (fun k => if wmk v1 n1 ≤ kW l k ∧ kW l k ≤ wmk v2 n2 then kV l k else 0) i)) (nI i) = some (nI (fb_ct (fun k => decide (wmk v1 n1 ≤ kW l k ∧ kW l k ≤ wmk v2 n2)) l.length), nI (fb_sm (fun k => if wmk v1 n1 ≤ kW l k ∧ kW l k ≤ wmk v2 n2 then kV l k else 0) l.length))
  | m, 0, i, _, hF, _ => absurd hF (Nat.not_lt_zero m)
  | m, F + 1, i, hm, hF, hi => by
    have h48 := hg.1
    rw [fX8_between_L30, gx_0 (by omega) (by omega), cl_0, hM.1]
    by_cases c : i < l.length
    · have hx := wok_lt (wmk_ok h1 g1)
      have hy := wok_lt (wmk_ok h2 g2)
      have hz := hg.lt c
      rw [if_neg (nI_ge c (by omega)), n_1p, n_49p, gx_n (by omega) (by omega), n_word8 h1 g1, Option.bind_some, n_word8 h2 g2, Option.bind_some, n_in8, Option.bind_some, nI_clamp (show 1 + i < 2 ^ 31 by omega), nI_clamp (show 49 + i < 2 ^ 31 by omega), hM.2.1 i c, hM.2.2 i c]
      have e : (nI (wmk v1 n1) ≤ nI (kW l i) ∧ nI (kW l i) ≤ nI (wmk v2 n2)) ↔ (wmk v1 n1 ≤ kW l i ∧ kW l i ≤ wmk v2 n2) := by
        rw [nI_leI (by omega) (by omega), nI_leI (by omega) (by omega)]
      have ih := n_btw_L hM hg h1 g1 h2 g2 (m - 1) F (i + 1) (by omega) (by omega) c
      rw [fb_ct_succ, fb_sm_succ] at ih
      by_cases c2 : wmk v1 n1 ≤ kW l i ∧ kW l i ≤ wmk v2 n2
      · rw [decide_eq_true c2, if_pos rfl, if_pos c2] at ih
        rw [if_pos (e.mpr c2), if_neg (by decide), gl_eq, gx_n (by omega) (by omega), gl_eq, Option.bind_some, gl_eq, nI_1, nI_1, nI_add]
        exact ih
      · rw [decide_eq_false c2, if_neg (by decide), if_neg c2] at ih
        rw [if_neg (fun z => c2 (e.mp z)), if_pos rfl, Option.bind_some, gl_eq, nI_1]
        exact ih
    · rw [if_pos (nI_le (by omega) (by omega)), show i = l.length by omega]
theorem btw_ct {l : KL} (hg : kgood l) (x y : Nat) : fb_ct (fun k => decide (x ≤ kW l k ∧ kW l k ≤ y)) l.length = ah (y + 1) l - ah x l ∧ fb_sm (fun k => if x ≤ kW l k ∧ kW l k ≤ y then kV l k else 0) l.length = fb_sm (fun k => kV l (ah x l + k)) (ah (y + 1) l - ah x l) := by
  have p1 := ah_le x l
  have p2 := ah_le (y + 1) l
  have key : ∀ k, k < l.length → ((x ≤ kW l k ∧ kW l k ≤ y) ↔ (ah x l ≤ k ∧ k < ah (y + 1) l)) := fun k hk => by
    have h1 := ah_iff hg (x := x) hk
    have h2 := ah_iff hg (x := y + 1) hk
    omega
  rcases Nat.le_total (ah x l) (ah (y + 1) l) with q | q
  · refine ⟨fb_ct_iv _ l.length q p2 (fun k hk => by rw [decide_eq_true_iff]; exact key k hk), ?_⟩
    have s1 := fb_sm_split (fun k => if x ≤ kW l k ∧ kW l k ≤ y then kV l k else 0) (ah (y + 1) l) (l.length - ah (y + 1) l)
    rw [show ah (y + 1) l + (l.length - ah (y + 1) l) = l.length by omega] at s1
    have s2 := fb_sm_split (fun k => if x ≤ kW l k ∧ kW l k ≤ y then kV l k else 0) (ah x l) (ah (y + 1) l - ah x l)
    rw [show ah x l + (ah (y + 1) l - ah x l) = ah (y + 1) l by omega] at s2
    have z1 : fb_sm (fun k => if x ≤ kW l (ah (y + 1) l + k) ∧ kW l (ah (y + 1) l + k) ≤ y then kV l (ah (y + 1) l + k) else 0) (l.length - ah (y + 1) l) = 0 := by
      have := fb_sm_bound (f := fun k => if x ≤ kW l (ah (y + 1) l + k) ∧ kW l (ah (y + 1) l + k) ≤ y then kV l (ah (y + 1) l + k) else 0) (c := 0) (n := l.length - ah (y + 1) l) (fun k hk => by
        rw [if_neg (fun z => by have := (key _ (by omega)).mp z; omega)]
        exact Nat.le_refl _)
      omega
    have z2 : fb_sm (fun k => if x ≤ kW l k ∧ kW l k ≤ y then kV l k else 0) (ah x l) = 0 := by
      have := fb_sm_bound (f := fun k => if x ≤ kW l k ∧ kW l k ≤ y then kV l k else 0) (c := 0) (n := ah x l) (fun k hk => by
        rw [if_neg (fun z => by have := (key _ (by omega)).mp z; omega)]
        exact Nat.le_refl _)
      omega
    rw [s1, z1, s2, z2, Nat.zero_add, Nat.add_zero]
    refine fb_sm_cong (fun k hk => ?_)
    rw [if_pos ((key _ (by omega)).mpr ⟨by omega, by omega⟩)]
  · rw [show ah (y + 1) l - ah x l = 0 by omega]
    refine ⟨fb_ct_zero.mpr (fun k hk => decide_eq_false (fun z => by have := (key k hk).mp z; omega)), ?_⟩
    have := fb_sm_bound (f := fun k => if x ≤ kW l k ∧ kW l k ≤ y then kV l k else 0) (c := 0) (n := l.length) (fun k hk => by
        rw [if_neg (fun z => by have := (key _ (by omega)).mp z; omega)]
        exact Nat.le_refl _)
    have e0 : fb_sm (fun k => kV l (ah x l + k)) 0 = 0 := rfl
    omega
theorem e_between {l : KL} {sz : Int32} {w v t : Nat → Int32} (hC : keyC l sz w v) (hM : keyM l t) (hg : kgood l) (a b c d told : Int32) : ∃ rn rm, fX7_between a b c d told sz w v = some rn ∧ fX8_between a b c d told t = some rm ∧ rn.1 = rm.1 ∧ rn.2 = rm.2 := by
  have h48 := hg.1
  unfold fX7_between fX8_between
  rcases n_word a b with ⟨v1, n1, ⟨-, h2, h3, rfl, rfl⟩, e1, e2⟩ | ⟨e1, e2⟩
  · rw [e1, e2, Option.bind_some, Option.bind_some, if_neg (by decide), if_neg (by decide)]
    rcases n_word c d with ⟨v2, n2, ⟨-, g2, g3, rfl, rfl⟩, f1, f2⟩ | ⟨f1, f2⟩
    · have hx := wok_lt (wmk_ok h2 h3)
      have hy := wok_lt (wmk_ok g2 g3)
      have p1 := ah_le (wmk v1 n1) l
      have p2 := ah_le (wmk v2 n2 + 1) l
      obtain ⟨c1, c2⟩ := btw_ct hg (wmk v1 n1) (wmk v2 n2)
      have hL := n_btw_L hM hg h2 h3 g2 g3 l.length gF 0 (Nat.sub_zero _) (by unfold gF; omega) (Nat.zero_le _)
      rw [c1, c2] at hL
      have hL' : fX8_between_L30 t (nI v1) (nI n1) (nI v2) (nI n2) gF (0 : Int32) (0 : Int32) (0 : Int32) = _ := hL
      rw [f1, f2, Option.bind_some, Option.bind_some, if_neg (by decide), if_neg (by decide), n_pack6 h2 h3, Option.bind_some, n_ah6 hC hg (by omega), Option.bind_some, n_pack6 g2 g3, Option.bind_some, nI_1, n_ah6 hC hg (by omega), Option.bind_some, hL', Option.bind_some]
      unfold fX1_valueSum
      rcases Nat.le_total (ah (wmk v1 n1) l) (ah (wmk v2 n2 + 1) l) with q | q
      · have hS := n_vsum_L hC hg q p2 (ah (wmk v2 n2 + 1) l - ah (wmk v1 n1) l) gF 0 rfl (by unfold gF; omega) q
        have hS' : fX1_valueSum_L5 (nI (ah (wmk v2 n2 + 1) l)) sz v gF (0 : Int32) (nI (ah (wmk v1 n1) l)) = _ := hS
        rw [hS', Option.bind_some, Option.bind_some, pk_sub q]
        refine ⟨_, _, rfl, rfl, ?_, rfl⟩
        dsimp only
        by_cases z : ah (wmk v2 n2 + 1) l - ah (wmk v1 n1) l = 0
        · rw [z]; rfl
        · rw [if_pos (show (0 : Int32) < nI (ah (wmk v2 n2 + 1) l - ah (wmk v1 n1) l) from nI_lt (a := 0) (by omega) (by omega))]
      · have e0 : fX1_valueSum_L5 (nI (ah (wmk v2 n2 + 1) l)) sz v gF (0 : Int32) (nI (ah (wmk v1 n1) l)) = some 0 := by
          rw [show gF = 19999 + 1 from rfl, fX1_valueSum_L5, if_pos (nI_le q (by omega))]
        rw [e0, Option.bind_some, Option.bind_some, show ah (wmk v2 n2 + 1) l - ah (wmk v1 n1) l = 0 by omega]
        refine ⟨_, _, rfl, rfl, ?_, rfl⟩
        dsimp only
        rw [if_neg]
        · rfl
        · intro z
          rcases Nat.lt_or_ge (ah (wmk v2 n2 + 1) l) (ah (wmk v1 n1) l) with y | y
          · exact (fa_of_lt z).2.1 (fa_of_lt (pk_sneg (by omega) y)).1
          · rw [pk_sub y, show ah (wmk v2 n2 + 1) l - ah (wmk v1 n1) l = 0 by omega] at z
            exact absurd z (by decide)
    · rw [f1, f2, Option.bind_some, Option.bind_some, if_pos rfl, if_pos rfl]
      exact ⟨_, _, rfl, rfl, rfl, rfl⟩
  · rw [e1, e2, Option.bind_some, Option.bind_some, if_pos rfl, if_pos rfl]
    exact ⟨_, _, rfl, rfl, rfl, rfl⟩
/-! the longest key that is a head -/
theorem n_long6_no {l : KL} {sz : Int32} {w v : Nat → Int32} (hC : keyC l sz w v) (hg : kgood l) {W : Nat} (hW : wok W) (told : Int32) : ∀ (k F : Nat), k < F → k ≤ W % 8 → (∀ j, 1 ≤ j → j ≤ k → ¬ kH l (whd W j)) → fX7_longest_L19 told (nI W) sz w v F (nI k) = some (-9, told)
  | k, 0, hF, _, _ => absurd hF (Nat.not_lt_zero k)
  | 0, F + 1, hF, _, _ => by
    rw [fX7_longest_L19, if_pos (by decide)]
  | k + 1, F + 1, hF, hk, hno => by
    have hl := wok_len hW
    have hx := wok_lt (whd_ok (k := k + 1) (wok_lt hW) (by omega))
    rw [fX7_longest_L19, if_neg (nI_nle (by omega) (by omega)), n_head6 (wok_lt hW) (by omega), Option.bind_some, n_has6 hC hg (by omega), Option.bind_some, if_neg (hno (k + 1) (by omega) (Nat.le_refl _)), if_pos rfl, gl_eq, pk_m1]
    exact n_long6_no hC hg hW told k F (by omega) (by omega) (fun j z1 z2 => hno j z1 (by omega))
theorem n_long6_is {l : KL} {sz : Int32} {w v : Nat → Int32} (hC : keyC l sz w v) (hg : kgood l) {W m : Nat} (hW : wok W) (told : Int32) (h1 : 1 ≤ m) (hm : kH l (whd W m)) : ∀ (k F : Nat), k < F → k ≤ W % 8 → m ≤ k → (∀ j, m < j → j ≤ k → ¬ kH l (whd W j)) → fX7_longest_L19 told (nI W) sz w v F (nI k) = some (nI m, nI (kV l (ah (whd W m) l)))
  | k, 0, hF, _, _, _ => absurd hF (Nat.not_lt_zero k)
  | 0, F + 1, hF, _, h3, _ => by omega
  | k + 1, F + 1, hF, hk, h3, hno => by
    have hl := wok_len hW
    have hx := wok_lt (whd_ok (k := k + 1) (wok_lt hW) (by omega))
    rw [fX7_longest_L19, if_neg (nI_nle (by omega) (by omega)), n_head6 (wok_lt hW) (by omega), Option.bind_some, n_has6 hC hg (by omega), Option.bind_some]
    by_cases c : m = k + 1
    · rw [← c, if_pos hm, if_neg (by decide)]
      unfold fX7_longest_J44
      rw [n_valueOf6 hC hg (by rw [c]; omega), Option.bind_some, if_pos hm]
    · rw [if_neg (hno (k + 1) (by omega) (Nat.le_refl _)), if_pos rfl, gl_eq, pk_m1]
      exact n_long6_is hC hg hW told h1 hm k F (by omega) (by omega) (by omega) (fun j z1 z2 => hno j z1 (by omega))
theorem n_long8_L {l : KL} {t : Nat → Int32} (hM : keyM l t) (hg : kgood l) {v1 n1 : Nat} (h1 : n1 ≤ 6) (g1 : v1 < 16 ^ n1) : ∀ (m F i : Nat) (b : Int32), l.length - i = m → m < F → i ≤ l.length → ((b = -9 ∧ ∀ j, j < i → ¬ whead (kW l j) (wmk v1 n1)) ∨ ∃ b', b' < i ∧ b = nI b' ∧ whead (kW l b') (wmk v1 n1) ∧ ∀ j, j < i → whead (kW l j) (wmk v1 n1) → kW l j % 8 ≤ kW l b' % 8) → ∃ r, fX8_longest_L17 t (nI v1) (nI n1) F b (nI i) = some r ∧ ((r = -9 ∧ ∀ j, j < l.length → ¬ whead (kW l j) (wmk v1 n1)) ∨ ∃ b', b' < l.length ∧ r = nI b' ∧ whead (kW l b') (wmk v1 n1) ∧ ∀ j, j < l.length → whead (kW l j) (wmk v1 n1) → kW l j % 8 ≤ kW l b' % 8)
  | m, 0, i, b, _, hF, _, _ => absurd hF (Nat.not_lt_zero m)
  | m, F + 1, i, b, hm, hF, hi, hb => by
    have h48 := hg.1
    have hx := wmk_ok h1 g1
    rw [fX8_longest_L17, gx_0 (by omega) (by omega), cl_0, hM.1]
    by_cases c : i < l.length
    · have hki := hg.ok c
      have hl := wok_len hki
      rw [if_neg (nI_ge c (by omega)), n_word8 h1 g1, Option.bind_some, n_1p, gx_n (by omega) (by omega), nI_clamp (show 1 + i < 2 ^ 31 by omega), hM.2.1 i c, n_begins hki hx, Option.bind_some]
      by_cases c2 : whead (kW l i) (wmk v1 n1)
      · rw [if_pos c2, if_neg (by decide)]
        rcases hb with ⟨rfl, hb2⟩ | ⟨b', hb1, rfl, hb3, hb4⟩
        · rw [if_pos rfl, Option.bind_some, gl_eq, nI_1]
          refine n_long8_L hM hg h1 g1 (m - 1) F (i + 1) _ (by omega) (by omega) c (Or.inr ⟨i, by omega, rfl, c2, fun j hj hw => ?_⟩)
          rcases Nat.lt_or_ge j i with q | q
          · exact absurd hw (hb2 j q)
          · rw [show j = i by omega]; exact Nat.le_refl _
        · have hkb := hg.ok (show b' < l.length by omega)
          have hlb := wok_len hkb
          rw [if_neg (nI_ne9 (by omega)), gx_n (by omega) (by omega), n_len8 (wok_lt hki), Option.bind_some, n_1p, gx_n (by omega) (by omega), nI_clamp (show 1 + b' < 2 ^ 31 by omega), hM.2.1 b' (by omega), n_len8 (wok_lt hkb), Option.bind_some]
          by_cases c3 : kW l i % 8 ≤ kW l b' % 8
          · rw [if_pos (nI_le c3 (by omega)), Option.bind_some, gl_eq, nI_1]
            refine n_long8_L hM hg h1 g1 (m - 1) F (i + 1) _ (by omega) (by omega) c (Or.inr ⟨b', by omega, rfl, hb3, fun j hj hw => ?_⟩)
            rcases Nat.lt_or_ge j i with q | q
            · exact hb4 j q hw
            · rw [show j = i by omega]; exact c3
          · rw [if_neg (nI_ge (by omega) (by omega)), Option.bind_some, gl_eq, nI_1]
            refine n_long8_L hM hg h1 g1 (m - 1) F (i + 1) _ (by omega) (by omega) c (Or.inr ⟨i, by omega, rfl, c2, fun j hj hw => ?_⟩)
            rcases Nat.lt_or_ge j i with q | q
            · have := hb4 j q hw; omega
            · rw [show j = i by omega]; exact Nat.le_refl _
      · rw [if_neg c2, if_pos rfl, Option.bind_some, gl_eq, nI_1]
        refine n_long8_L hM hg h1 g1 (m - 1) F (i + 1) _ (by omega) (by omega) c ?_
        rcases hb with ⟨hb1, hb2⟩ | ⟨b', hb1, hb2, hb3, hb4⟩
        · refine Or.inl ⟨hb1, fun j hj => ?_⟩
          rcases Nat.lt_or_ge j i with q | q
          · exact hb2 j q
          · rw [show j = i by omega]; exact c2
        · refine Or.inr ⟨b', by omega, hb2, hb3, fun j hj hw => ?_⟩
          rcases Nat.lt_or_ge j i with q | q
          · exact hb4 j q hw
          · rw [show j = i by omega] at hw; exact absurd hw c2
    · rw [if_pos (nI_le (by omega) (by omega))]
      have : i = l.length := by omega
      subst this
      exact ⟨_, rfl, hb⟩
/-- a key that is a head is the head of so many figures -/
theorem head_whd {P W : Nat} (hP : wok P) (h : whead P W) : whd W (P % 8) = P := by
  unfold whd
  rw [← h.2]
  exact (wok_eq hP).symm
theorem e_longest {l : KL} {sz : Int32} {w v t : Nat → Int32} (hC : keyC l sz w v) (hM : keyM l t) (hg : kgood l) (a b told : Int32) : ∃ rn rm, fX7_longest a b told sz w v = some rn ∧ fX8_longest a b told t = some rm ∧ rn.1 = rm.1 ∧ rn.2 = rm.2 := by
  have h48 := hg.1
  unfold fX7_longest fX8_longest
  rcases n_word a b with ⟨v1, n1, ⟨h0, h2, h3, rfl, rfl⟩, e1, e2⟩ | ⟨e1, e2⟩
  · have hW := wmk_ok h2 h3
    have hlen : wmk v1 n1 % 8 = n1 := wmk_len h2
    rw [e1, e2, Option.bind_some, Option.bind_some, if_neg (by decide), if_neg (by decide), n_pack6 h2 h3, Option.bind_some]
    obtain ⟨r, hr1, hr2⟩ := n_long8_L hM hg h2 h3 l.length gF 0 (-9) (Nat.sub_zero _) (by unfold gF; omega) (Nat.zero_le _) (Or.inl ⟨rfl, fun j hj => absurd hj (Nat.not_lt_zero j)⟩)
    rw [nI_0] at hr1
    rw [hr1, Option.bind_some]
    have kh : ∀ j, j ≤ n1 → kH l (whd (wmk v1 n1) j) → ∃ k, k < l.length ∧ kW l k = whd (wmk v1 n1) j ∧ whead (kW l k) (wmk v1 n1) ∧ kW l k % 8 = j := fun j hj z => by
      obtain ⟨k, hk, e⟩ := (kH_iff hg).mp z
      exact ⟨k, hk, e, by rw [e]; exact whd_head hW (by omega), by rw [e]; exact whd_len (by omega)⟩
    rcases hr2 with ⟨rfl, hno⟩ | ⟨b', hb1, rfl, hb3, hb4⟩
    · rw [if_pos rfl, n_long6_no hC hg hW told n1 gF (by unfold gF; omega) (by omega) (fun j z1 z2 z3 => by
        obtain ⟨k, hk, -, hw, -⟩ := kh j z2 z3
        exact hno k hk hw)]
      exact ⟨_, _, rfl, rfl, rfl, rfl⟩
    · have hkb := hg.ok hb1
      have hm1 := (hg.2.1 b' hb1).2.1
      have hmn := hb3.1
      rw [hlen] at hmn
      have ew := head_whd hkb hb3
      have hh : kH l (whd (wmk v1 n1) (kW l b' % 8)) := (kH_iff hg).mpr ⟨b', hb1, ew.symm⟩
      have eb : ah (whd (wmk v1 n1) (kW l b' % 8)) l = b' := hg.inj hh.1 hb1 (hh.2.trans ew)
      rw [if_neg (nI_ne9 (by omega)), n_long6_is hC hg hW told hm1 hh n1 gF (by unfold gF; omega) (by omega) hmn (fun j z1 z2 z3 => by
        obtain ⟨k, hk, -, hw, hl⟩ := kh j z2 z3
        have := hb4 k hk hw
        omega), eb, n_1p, n_49p, gx_n (by omega) (by omega), nI_clamp (show 1 + b' < 2 ^ 31 by omega), nI_clamp (show 49 + b' < 2 ^ 31 by omega), hM.2.1 b' hb1, hM.2.2 b' hb1, n_len8 (wok_lt hkb), Option.bind_some, gx_n (by omega) (by omega)]
      unfold fX8_answer
      rw [Option.bind_some]
      exact ⟨_, _, rfl, rfl, rfl, rfl⟩
  · rw [e1, e2, Option.bind_some, Option.bind_some, if_pos rfl, if_pos rfl]
    exact ⟨_, _, rfl, rfl, rfl, rfl⟩
/-- words asked for lately -/
def laR (k : Nat) (w : Nat → Int32) : Prop := k ≤ 6 ∧ ∀ j, j < k → ∃ W, wok W ∧ w j = nI W
theorem e_lately {k : Nat} {w : Nat → Int32} (h : laR k w) (a told : Int32) : ∃ rn rm, fX7_lately a told (nI k) w = some rn ∧ fX8_lately a (nI k) told w = some rm ∧ rn.1 = rm.1 ∧ rn.2 = rm.2 := by
  have h6 := h.1
  unfold fX7_lately fX8_lately
  rcases pk_ix a (n := k) (by omega) with q | q | ⟨j, hj, rfl⟩
  · have q2 : ¬ 0 ≤ a := (fa_of_lt q).2.1
    rw [if_neg q2, if_neg q2]
    exact ⟨_, _, rfl, rfl, rfl, rfl⟩
  · rw [if_pos q, if_pos q]
    by_cases c : 0 ≤ a
    · rw [if_pos c]; exact ⟨_, _, rfl, rfl, rfl, rfl⟩
    · rw [if_neg c]; exact ⟨_, _, rfl, rfl, rfl, rfl⟩
  · obtain ⟨W, hW, e⟩ := h.2 j hj
    unfold fX2_word
    rw [if_pos (nI_pos' (by omega)), if_pos (nI_pos' (by omega)), if_neg (nI_ge hj (by omega)), if_neg (nI_ge hj (by omega)), if_neg (nI_pos (by omega)), if_neg (nI_ge hj (by omega)), gx_n (by omega) (by omega), Option.bind_some, gx_n (by omega) (by omega), nI_clamp (by omega), e, n_tellW hW, Option.bind_some, n_num8 hW, Option.bind_some, gx_n (by omega) (by omega), n_len8 (wok_lt hW), Option.bind_some]
    exact ⟨_, _, rfl, rfl, rfl, rfl⟩
