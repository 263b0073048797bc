/-! the digest -/
theorem dg_keys_L {l : KL} {sz : Int32} {w v t : Nat → Int32} (hC : keyC l sz w v) (hM : keyM l t) (hg : kgood l) : ∀ (m F i : Nat) (h : Int64), l.length - i = m → m < F → i ≤ l.length → ∃ x, fX1_mixInto_L2 sz w v F h (nI i) = some x ∧ fX8_digest_L33 t F h (nI i) = some x
  | m, 0, i, h, _, hF, _ => absurd hF (Nat.not_lt_zero m)
  | m, F + 1, i, h, hm, hF, hi => by
    have h48 := hg.1
    rw [fX1_mixInto_L2, fX8_digest_L33, gx_0 (by omega) (by omega), cl_0, hM.1]
    by_cases c : i < l.length
    · rw [if_neg (by rw [hC.1]; exact nI_ge c (by omega)), if_neg (nI_ge c (by omega)), gx_n (show i < 48 by omega) (by omega), nI_clamp (show i < 2 ^ 31 by omega), hC.2.1 i c, hC.2.2 i c, n_figs6 (hg.ok c), Option.bind_some, gl_eq, gx_n (show i < 48 by omega) (by omega), n_len6 (hg.lt c), Option.bind_some, gl_eq, gx_n (show i < 48 by omega) (by omega), gl_eq, gl_eq, n_1p, n_49p, gx_n (show 1 + i < 97 by omega) (by omega), nI_clamp (show 1 + i < 2 ^ 31 by omega), nI_clamp (show 49 + i < 2 ^ 31 by omega), hM.2.1 i c, hM.2.2 i c, n_num8 (hg.ok c), Option.bind_some, gl_eq, gx_n (show 1 + i < 97 by omega) (by omega), n_len8 (hg.lt c), Option.bind_some, gl_eq, gx_n (show 49 + i < 97 by omega) (by omega), gl_eq, gl_eq, nI_1]
      exact dg_keys_L hC hM hg (m - 1) F (i + 1) _ (by omega) (by omega) c
    · rw [if_pos (by rw [hC.1]; exact nI_le (by omega) (by omega)), if_pos (nI_le (by omega) (by omega))]
      exact ⟨_, rfl, rfl⟩
theorem dg_keys {l : KL} {sz : Int32} {w v t : Nat → Int32} (hC : keyC l sz w v) (hM : keyM l t) (hg : kgood l) (h : Int64) : ∃ x, fX1_mixInto h sz w v = some x ∧ fX8_digest_L33 t gF h (0 : Int32) = some x := by
  have h48 := hg.1
  obtain ⟨x, h1, h2⟩ := dg_keys_L hC hM hg l.length gF 0 h (Nat.sub_zero _) (by unfold gF; omega) (Nat.zero_le _)
  rw [nI_0] at h1 h2
  unfold fX1_mixInto
  rw [h1]
  exact ⟨_, rfl, h2⟩
theorem dg_late_L {k : Nat} {w : Nat → Int32} (hL : laR k w) : ∀ (m F i : Nat) (h : Int64), k - i = m → m < F → i ≤ k → ∃ x, fX2_mixInto_L2 (nI k) w F h (nI i) = some x ∧ fX8_digest_L153 (nI k) w F h (nI i) = some x
  | m, 0, i, h, _, hF, _ => absurd hF (Nat.not_lt_zero m)
  | m, F + 1, i, h, hm, hF, hi => by
    have h6 := hL.1
    rw [fX2_mixInto_L2, fX8_digest_L153]
    by_cases c : i < k
    · obtain ⟨W, hW, e⟩ := hL.2 i c
      rw [if_neg (nI_ge c (by omega)), if_neg (nI_ge c (by omega)), gx_n (show i < 6 by omega) (by omega), nI_clamp (show i < 2 ^ 31 by omega), e, n_figs6 hW, Option.bind_some, gl_eq, gx_n (show i < 6 by omega) (by omega), n_len6 (wok_lt hW), Option.bind_some, gl_eq, gl_eq, gx_n (show i < 6 by omega) (by omega), n_num8 hW, Option.bind_some, gl_eq, gx_n (show i < 6 by omega) (by omega), n_len8 (wok_lt hW), Option.bind_some, gl_eq, gl_eq, nI_1]
      exact dg_late_L hL (m - 1) F (i + 1) _ (by omega) (by omega) c
    · rw [if_pos (nI_le (by omega) (by omega)), if_pos (nI_le (by omega) (by omega))]
      exact ⟨_, rfl, rfl⟩
theorem dg_late {k : Nat} {w : Nat → Int32} (hL : laR k w) (h : Int64) : ∃ x, fX2_mixInto h (nI k) w = some x ∧ fX8_digest_L153 (nI k) w gF h (0 : Int32) = some x := by
  have h6 := hL.1
  obtain ⟨x, h1, h2⟩ := dg_late_L hL k gF 0 h (Nat.sub_zero _) (by unfold gF; omega) (Nat.zero_le _)
  rw [nI_0] at h1 h2
  unfold fX2_mixInto
  rw [h1]
  exact ⟨_, rfl, h2⟩

theorem dg_rows_i {sz : Nat → Int32} {M : Nat → Nat → Int32} {msz mr : Nat → Int32} {r n : Nat} (hr : r < 6) (hs : sz r = nI n) (hms : msz r = nI n) (hn : n ≤ 40) (hM : ∀ i, i < n → M r i = mr (40 * r + i)) : ∀ (m F i : Nat) (h : Int64), n - i = m → m < F → i ≤ n → ∃ x, fX5_mixInto_L28 (nI r) 6 sz 6 40 M F h (nI i) = some x ∧ fX8_digest_L226 (nI r) msz mr F h (nI i) = some x
  | m, 0, i, h, _, hF, _ => absurd hF (Nat.not_lt_zero m)
  | m, F + 1, i, h, hm, hF, hi => by
    rw [fX5_mixInto_L28, fX8_digest_L226, gx_n hr (by omega), gx_n hr (by omega), nI_clamp (show r < 2 ^ 31 by omega), hs, hms]
    by_cases c : i < n
    · have ei : (40 : Int32) * nI r + nI i = nI (40 * r + i) := by rw [show (40 : Int32) = nI 40 from rfl, pk_mul, nI_add]
      rw [if_neg (nI_ge c (by omega)), if_neg (nI_ge c (by omega)), gx_n hr (by omega), gx_n (show i < 40 by omega) (by omega), ei, gx_n (show 40 * r + i < 240 by omega) (by omega), gl_eq, gl_eq, gl_eq, gl_eq, nI_1, nI_clamp (show i < 2 ^ 31 by omega), nI_clamp (show 40 * r + i < 2 ^ 31 by omega), hM i c]
      exact dg_rows_i hr hs hms hn hM (m - 1) F (i + 1) _ (by omega) (by omega) c
    · rw [if_pos (nI_le (by omega) (by omega)), if_pos (nI_le (by omega) (by omega)), gx_n hr (by omega)]
      exact ⟨_, rfl, rfl⟩
theorem dg_rows_L {sz : Nat → Int32} {M : Nat → Nat → Int32} {msz mr : Nat → Int32} (hR : shR 6 40 sz M msz mr) : ∀ (m F i : Nat) (h : Int64), 6 - i = m → m < F → i ≤ 6 → ∃ x, fX5_mixInto_L2 6 sz 6 40 M F h (nI i) = some x ∧ fX8_digest_L203 msz mr F h (nI i) = some x
  | m, 0, i, h, _, hF, _ => absurd hF (Nat.not_lt_zero m)
  | m, F + 1, i, h, hm, hF, hi => by
    rw [fX5_mixInto_L2, fX8_digest_L203, show Int32.ofNat 6 = nI 6 from rfl, show (6 : Int32) = nI 6 from rfl]
    by_cases c : i < 6
    · obtain ⟨e1, e2⟩ := hR i c
      rw [if_neg (nI_ge c (by omega)), if_neg (nI_ge c (by omega)), gx_n c (by omega), gx_n c (by omega), nI_clamp (show i < 2 ^ 31 by omega), ← e1, gl_eq, gl_eq]
      have key : ∀ h : Int64, ∃ x, fX5_mixInto_L28 (nI i) 6 sz 6 40 M gF h (0 : Int32) = some x ∧ fX8_digest_L226 (nI i) msz mr gF h (0 : Int32) = some x := fun h => by
        rcases e2 with q | ⟨n, q1, q2, q3⟩
        · rw [show gF = 19999 + 1 from rfl, fX5_mixInto_L28, fX8_digest_L226, gx_n c (by omega), gx_n c (by omega), nI_clamp (show i < 2 ^ 31 by omega), ← e1, q, if_pos (by decide), if_pos (by decide), gx_n c (by omega)]
          exact ⟨_, rfl, rfl⟩
        · obtain ⟨x, x1, x2⟩ := dg_rows_i c q2 (e1.symm.trans q2) q1 q3 n gF 0 h (Nat.sub_zero _) (by unfold gF; omega) (Nat.zero_le _)
          rw [nI_0] at x1 x2
          exact ⟨x, x1, x2⟩
      obtain ⟨x, x1, x2⟩ := key ((31 : Int64) * h + (sz i).toInt64)
      rw [x1, x2, Option.bind_some, Option.bind_some, gl_eq, gl_eq, nI_1]
      exact dg_rows_L hR (m - 1) F (i + 1) _ (by omega) (by omega) c
    · rw [if_pos (nI_le (by omega) (by omega)), if_pos (nI_le (by omega) (by omega))]
      exact ⟨_, rfl, rfl⟩
theorem dg_rows {sz : Nat → Int32} {M : Nat → Nat → Int32} {msz mr : Nat → Int32} (hR : shR 6 40 sz M msz mr) (h : Int64) : ∃ x, fX5_mixInto h 6 sz 6 40 M = some x ∧ fX8_digest_L203 msz mr gF h (0 : Int32) = some x := by
  obtain ⟨x, h1, h2⟩ := dg_rows_L hR 6 gF 0 h (Nat.sub_zero _) (by unfold gF; omega) (Nat.zero_le _)
  rw [nI_0] at h1 h2
  unfold fX5_mixInto
  rw [h1]
  exact ⟨_, rfl, h2⟩

theorem dg_texts_i {sz : Nat → Int32} {M : Nat → Nat → Int32} {msz mr : Nat → Int32} {r n : Nat} (hr : r < 4) (hs : sz r = nI n) (hms : msz r = nI n) (hn : n ≤ 90) (hM : ∀ i, i < n → M r i = mr (90 * r + i)) : ∀ (m F i : Nat) (h : Int64), n - i = m → m < F → i ≤ n → ∃ x, fX5_mixInto_L28 (nI r) 4 sz 4 90 M F h (nI i) = some x ∧ fX8_digest_L293 (nI r) msz mr F h (nI i) = some x
  | m, 0, i, h, _, hF, _ => absurd hF (Nat.not_lt_zero m)
  | m, F + 1, i, h, hm, hF, hi => by
    rw [fX5_mixInto_L28, fX8_digest_L293, gx_n hr (by omega), gx_n hr (by omega), nI_clamp (show r < 2 ^ 31 by omega), hs, hms]
    by_cases c : i < n
    · have ei : (90 : Int32) * nI r + nI i = nI (90 * r + i) := by rw [show (90 : Int32) = nI 90 from rfl, pk_mul, nI_add]
      rw [if_neg (nI_ge c (by omega)), if_neg (nI_ge c (by omega)), gx_n hr (by omega), gx_n (show i < 90 by omega) (by omega), ei, gx_n (show 90 * r + i < 360 by omega) (by omega), gl_eq, gl_eq, gl_eq, gl_eq, nI_1, nI_clamp (show i < 2 ^ 31 by omega), nI_clamp (show 90 * r + i < 2 ^ 31 by omega), hM i c]
      exact dg_texts_i hr hs hms hn hM (m - 1) F (i + 1) _ (by omega) (by omega) c
    · rw [if_pos (nI_le (by omega) (by omega)), if_pos (nI_le (by omega) (by omega)), gx_n hr (by omega)]
      exact ⟨_, rfl, rfl⟩
theorem dg_texts_L {sz : Nat → Int32} {M : Nat → Nat → Int32} {msz mr : Nat → Int32} (hR : shR 4 90 sz M msz mr) : ∀ (m F i : Nat) (h : Int64), 4 - i = m → m < F → i ≤ 4 → ∃ x, fX5_mixInto_L2 4 sz 4 90 M F h (nI i) = some x ∧ fX8_digest_L271 msz mr F h (nI i) = some x
  | m, 0, i, h, _, hF, _ => absurd hF (Nat.not_lt_zero m)
  | m, F + 1, i, h, hm, hF, hi => by
    rw [fX5_mixInto_L2, fX8_digest_L271, show Int32.ofNat 4 = nI 4 from rfl, show (4 : Int32) = nI 4 from rfl]
    by_cases c : i < 4
    · obtain ⟨e1, e2⟩ := hR i c
      rw [if_neg (nI_ge c (by omega)), if_neg (nI_ge c (by omega)), gx_n c (by omega), gx_n c (by omega), nI_clamp (show i < 2 ^ 31 by omega), ← e1, gl_eq, gl_eq]
      have key : ∀ h : Int64, ∃ x, fX5_mixInto_L28 (nI i) 4 sz 4 90 M gF h (0 : Int32) = some x ∧ fX8_digest_L293 (nI i) msz mr gF h (0 : Int32) = some x := fun h => by
        rcases e2 with q | ⟨n, q1, q2, q3⟩
        · rw [show gF = 19999 + 1 from rfl, fX5_mixInto_L28, fX8_digest_L293, gx_n c (by omega), gx_n c (by omega), nI_clamp (show i < 2 ^ 31 by omega), ← e1, q, if_pos (by decide), if_pos (by decide), gx_n c (by omega)]
          exact ⟨_, rfl, rfl⟩
        · obtain ⟨x, x1, x2⟩ := dg_texts_i c q2 (e1.symm.trans q2) q1 q3 n gF 0 h (Nat.sub_zero _) (by unfold gF; omega) (Nat.zero_le _)
          rw [nI_0] at x1 x2
          exact ⟨x, x1, x2⟩
      obtain ⟨x, x1, x2⟩ := key ((31 : Int64) * h + (sz i).toInt64)
      rw [x1, x2, Option.bind_some, Option.bind_some, gl_eq, gl_eq, nI_1]
      exact dg_texts_L hR (m - 1) F (i + 1) _ (by omega) (by omega) c
    · rw [if_pos (nI_le (by omega) (by omega)), if_pos (nI_le (by omega) (by omega))]
      exact ⟨_, rfl, rfl⟩
theorem dg_texts {sz : Nat → Int32} {M : Nat → Nat → Int32} {msz mr : Nat → Int32} (hR : shR 4 90 sz M msz mr) (h : Int64) : ∃ x, fX5_mixInto h 4 sz 4 90 M = some x ∧ fX8_digest_L271 msz mr gF h (0 : Int32) = some x := by
  obtain ⟨x, h1, h2⟩ := dg_texts_L hR 4 gF 0 h (Nat.sub_zero _) (by unfold gF; omega) (Nat.zero_le _)
  rw [nI_0] at h1 h2
  unfold fX5_mixInto
  rw [h1]
  exact ⟨_, rfl, h2⟩

/-- how many deeds a kept index has, on both sides -/
def kdR (s : Int32) (i : Nat) (ik kp : Nat → Int32) : Prop := (s = -1 ∧ ik i = 0) ∨ (s ≠ -1 ∧ ik i ≠ 0 ∧ kp (3978 * i + 97) = s)
theorem kdR_iff {s : Int32} {i : Nat} {ik kp : Nat → Int32} (h : kdR s i ik kp) : s = -1 ↔ ik i = 0 := by
  rcases h with ⟨h1, h2⟩ | ⟨h1, h2, -⟩
  · exact ⟨fun _ => h2, fun _ => h1⟩
  · exact ⟨fun z => absurd z h1, fun z => absurd z h2⟩
theorem dg_kept_1 {s : Int32} {i : Nat} {ik kp : Nat → Int32} (hi : i < 3) (h : kdR s i ik kp) (g : Int64) : (if ik i = 0 then (some ((-1 : Int32), g)) else (gx (((3978 : Int32) * nI i) + (97 : Int32)) 11934 (some ((kp ((((3978 : Int32) * nI i) + (97 : Int32))).toNatClampNeg), g)))) = some (s, g) := by
  have e : ((3978 : Int32) * nI i) + (97 : Int32) = nI (3978 * i + 97) := by rw [show (3978 : Int32) = nI 3978 from rfl, show (97 : Int32) = nI 97 from rfl, pk_mul, nI_add]
  rcases h with ⟨h1, h2⟩ | ⟨h1, h2, h3⟩
  · rw [if_pos h2, h1]
  · rw [if_neg h2, e, gx_n (by omega) (by omega), nI_clamp (by omega), h3]
theorem dg_kept {s0 s1 s2 : Int32} {ik kp : Nat → Int32} (h0 : kdR s0 0 ik kp) (h1 : kdR s1 1 ik kp) (h2 : kdR s2 2 ik kp) (h : Int64) : ∃ x, fX7_digest_L42 s0 s1 s2 gF h (0 : Int32) = some x ∧ fX8_digest_L106 ik kp gF h (0 : Int32) = some x := by
  have e : ∀ k : Nat, k < 2 ^ 31 → (nI k).toNatClampNeg = k := fun k hk => nI_clamp hk
  rw [show gF = 19996 + 1 + 1 + 1 + 1 from rfl, ← nI_0, fX7_digest_L42, if_neg (by decide), if_pos (by decide), gl_eq, gl_eq, nI_1, fX7_digest_L42, if_neg (by decide), if_neg (by decide), if_pos (by decide), gl_eq, gl_eq, nI_1, fX7_digest_L42, if_neg (by decide), if_neg (by decide), if_neg (by decide), if_pos (by decide), gl_eq, gl_eq, nI_1, fX7_digest_L42, if_pos (by decide)]
  rw [fX8_digest_L106, if_neg (by decide), gx_n (by omega) (by omega), e 0 (by omega), dg_kept_1 (by omega) h0, Option.bind_some, gl_eq, gl_eq, nI_1, fX8_digest_L106, if_neg (by decide), gx_n (by omega) (by omega), e (0 + 1) (by omega), dg_kept_1 (by omega) h1, Option.bind_some, gl_eq, gl_eq, nI_1, fX8_digest_L106, if_neg (by decide), gx_n (by omega) (by omega), e (0 + 1 + 1) (by omega), dg_kept_1 (by omega) h2, Option.bind_some, gl_eq, gl_eq, nI_1, fX8_digest_L106, if_pos (by decide)]
  exact ⟨_, rfl, rfl⟩

theorem dg_counts_L {l : KL} {sz : Int32} {w v t : Nat → Int32} (hC : keyC l sz w v) (hM : keyM l t) (hg : kgood l) {ns : List Nat} {r : NT} (hN : nodesC l ns r) {rs ts mrs mts mrr mtt : Nat → Int32} {MR MT : Nat → Nat → Int32} (hR : shR 6 40 rs MR mrs mrr) (hT : shR 4 90 ts MT mts mtt) {k0 k1 k2 : Int32} {ik kp : Nat → Int32} (h0 : kdR k0 0 ik kp) (h1 : kdR k1 1 ik kp) (h2 : kdR k2 2 ik kp) (dz rz : Int32) : ∀ (m F i : Nat) (h : Int64) (mn : Int32) (mp : Nat → Int32), 14 - i = m → m < F → i ≤ 14 → ∃ x rm, fX7_digest_L6 sz r.1 r.2.2.2.2.2.2 r.2.2.2.1 r.2.2.1 dz rs ts k0 k1 k2 rz F h (nI i) = some x ∧ fX8_digest_L6 dz rz t mrs mts ik F h (nI i) mn mp = some rm ∧ rm.1 = x
  | m, 0, i, h, mn, mp, _, hF, _ => absurd hF (Nat.not_lt_zero m)
  | m, F + 1, i, h, mn, mp, hm, hF, hi => by
    rw [fX7_digest_L6, fX8_digest_L6, show (14 : Int32) = nI 14 from rfl]
    by_cases c : i < 14
    · obtain ⟨x, rm, e1, e2, e3⟩ := n_counted hC hM hg hN hR hT (kdR_iff h0) (kdR_iff h1) (kdR_iff h2) dz rz mn mp c
      rw [if_neg (nI_ge c (by omega)), if_neg (nI_ge c (by omega)), e1, e2, Option.bind_some, Option.bind_some, e3, gl_eq, gl_eq, gl_eq, gl_eq, nI_1]
      exact dg_counts_L hC hM hg hN hR hT h0 h1 h2 dz rz (m - 1) F (i + 1) _ _ _ (by omega) (by omega) c
    · rw [if_pos (nI_le (by omega) (by omega)), if_pos (nI_le (by omega) (by omega))]
      exact ⟨_, _, rfl, rfl, rfl⟩
theorem e_digest {l : KL} {sz : Int32} {w v t : Nat → Int32} (hC : keyC l sz w v) (hM : keyM l t) (hg : kgood l) {ns : List Nat} {r : NT} (hN : nodesC l ns r) {rs ts mrs mts mrr mtt : Nat → Int32} {MR MT : Nat → Nat → Int32} (hR : shR 6 40 rs MR mrs mrr) (hT : shR 4 90 ts MT mts mtt) {k0 k1 k2 : Int32} {ik kp : Nat → Int32} (h0 : kdR k0 0 ik kp) (h1 : kdR k1 1 ik kp) (h2 : kdR k2 2 ik kp)  (dz : Int32) {kl : Nat} {lw : Nat → Int32} (hL : laR kl lw) (mn : Int32) (mp : Nat → Int32) : ∃ rn rm, fX7_digest sz r.1 r.2.2.2.2.2.2 r.2.2.2.1 r.2.2.1 dz rs ts k0 k1 k2 (nI kl) w v lw MR MT = some rn ∧ fX8_digest dz (nI kl) mn t mp mrs mts ik kp lw mrr mtt = some rm ∧ rn = rm.1 := by
  obtain ⟨x, rm, e1, e2, e3⟩ := dg_counts_L hC hM hg hN hR hT h0 h1 h2 dz (nI kl) 14 gF 0 17 mn mp (Nat.sub_zero _) (by unfold gF; omega) (Nat.zero_le _)
  rw [nI_0] at e1 e2
  obtain ⟨x1, a1, a2⟩ := dg_keys hC hM hg x
  obtain ⟨x2, b1, b2⟩ := dg_kept h0 h1 h2 x1
  obtain ⟨x3, c1, c2⟩ := dg_late hL x2
  obtain ⟨x4, d1, d2⟩ := dg_rows hR x3
  obtain ⟨x5, f1, f2⟩ := dg_texts hT x4
  unfold fX7_digest fX8_digest
  rw [e1, e2, Option.bind_some, Option.bind_some, e3, a1, a2, Option.bind_some, Option.bind_some, b1, b2, Option.bind_some, Option.bind_some, c1, c2, Option.bind_some, Option.bind_some, d1, d2, Option.bind_some, Option.bind_some, f1, f2, Option.bind_some, Option.bind_some]
  exact ⟨_, _, rfl, rfl, rfl⟩
