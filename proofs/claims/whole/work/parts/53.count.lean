/-! rows, texts and kept indexes that are there -/
theorem gx_1 {β : Type} {n : Nat} {K : Option β} (h : 1 < n) (hn : n < 2 ^ 31) : gx (1 : Int32) n K = K := gx_n (k := 1) h hn
theorem gx_2 {β : Type} {n : Nat} {K : Option β} (h : 2 < n) (hn : n < 2 ^ 31) : gx (2 : Int32) n K = K := gx_n (k := 2) h hn
theorem gx_3 {β : Type} {n : Nat} {K : Option β} (h : 3 < n) (hn : n < 2 ^ 31) : gx (3 : Int32) n K = K := gx_n (k := 3) h hn
theorem n_held_L {cnt lim : Nat} {sz : Nat → Int32} {M : Nat → Nat → Int32} {msz mr : Nat → Int32} (h : shR cnt lim sz M msz mr) (hc : cnt < 2 ^ 31) (hlim : lim < 2 ^ 30) : ∀ (m F i a : Nat), cnt - i = m → m < F → i ≤ cnt → ∃ x, fX5_held_L4 cnt sz F (nI a) (nI i) = some x ∧ fX8_there_L4 (nI cnt) cnt msz F (nI a) (nI i) = some x
  | m, 0, i, a, _, hF, _ => absurd hF (Nat.not_lt_zero m)
  | m, F + 1, i, a, hm, hF, hi => by
    rw [fX5_held_L4, fX8_there_L4, show Int32.ofNat cnt = nI cnt from rfl]
    by_cases c : i < cnt
    · obtain ⟨e1, e2⟩ := h i c
      rw [if_neg (nI_ge c hc), if_neg (nI_ge c hc), gx_n c hc, gx_n c hc, nI_clamp (by omega), ← e1]
      rcases e2 with q | ⟨n, q1, q2, q3⟩
      · rw [q, if_pos rfl, if_neg (by decide), Option.bind_some, Option.bind_some, gl_eq, gl_eq, gl_eq, nI_1, Int32.add_zero]
        exact n_held_L h hc hlim (m - 1) F (i + 1) a (by omega) (by omega) c
      · rw [q2, if_neg (nI_nm1 (by omega)), if_pos (nI_pos' (by omega)), gl_eq, Option.bind_some, Option.bind_some, gl_eq, gl_eq, gl_eq, nI_1, nI_1]
        exact n_held_L h hc hlim (m - 1) F (i + 1) (a + 1) (by omega) (by omega) c
    · rw [if_pos (nI_le (by omega) (by omega)), if_pos (nI_le (by omega) (by omega))]
      exact ⟨_, rfl, rfl⟩
theorem n_held {cnt lim : Nat} {sz : Nat → Int32} {M : Nat → Nat → Int32} {msz mr : Nat → Int32} (h : shR cnt lim sz M msz mr) (hc : cnt < 1000) (hlim : lim < 2 ^ 30) : ∃ x, fX5_held cnt sz = some x ∧ fX8_there (nI cnt) cnt msz = some x := by
  obtain ⟨x, h1, h2⟩ := n_held_L h (by omega) hlim cnt gF 0 0 (Nat.sub_zero _) (by unfold gF; omega) (Nat.zero_le _)
  rw [nI_0] at h1 h2
  unfold fX5_held fX8_there
  rw [h1, h2]
  exact ⟨_, rfl, rfl⟩
theorem kc_step (s : Int32) (x : Nat) : (if s = (-1 : Int32) then (some (nI x)) else (gl (nI x + 1) (fun y => (some y)))) = some (nI (x + (if s = -1 then 0 else 1))) := by
  by_cases c : s = -1
  · rw [if_pos c, if_pos c, Nat.add_zero]
  · rw [if_neg c, if_neg c, gl_eq, nI_1]
theorem n_keptc (s0 s1 s2 : Int32) : fX7_keptCount s0 s1 s2 = some (nI (0 + (if s0 = -1 then 0 else 1) + (if s1 = -1 then 0 else 1) + (if s2 = -1 then 0 else 1))) := by
  unfold fX7_keptCount
  rw [show gF = 19996 + 1 + 1 + 1 + 1 from rfl, ← nI_0, fX7_keptCount_L4, if_neg (by decide), if_pos (by decide), kc_step, Option.bind_some, gl_eq, nI_1, fX7_keptCount_L4, if_neg (by decide), if_neg (by decide), if_pos (by decide), kc_step, Option.bind_some, gl_eq, nI_1, fX7_keptCount_L4, if_neg (by decide), if_neg (by decide), if_neg (by decide), if_pos (by decide), kc_step, Option.bind_some, gl_eq, nI_1, fX7_keptCount_L4, if_pos (by decide), Option.bind_some]
theorem kc_bit {s b : Int32} (h : s = -1 ↔ b = 0) : (if b = 0 then (some (0 : Int32)) else (some (1 : Int32))) = some (nI (if s = -1 then 0 else 1)) := by
  by_cases c : s = -1
  · rw [if_pos c, if_pos (h.mp c)]; rfl
  · rw [if_neg c, if_neg (fun z => c (h.mpr z))]; rfl

/-! what is counted -/
theorem n_counted {l : KL} {sz : Int32} {w v t : Nat → Int32} (hC : keyC l sz w v) (hM : keyM l t) (hg : kgood l) {ns : List Nat} {r : NT} (hN : nodesC l ns r) {rs ts mrs mts mrr mtt : Nat → Int32} {MR MT : Nat → Nat → Int32} (hR : shR 6 40 rs MR mrs mrr) (hT : shR 4 90 ts MT mts mtt) {k0 k1 k2 : Int32} {ik : Nat → Int32} (h0 : k0 = -1 ↔ ik 0 = 0) (h1 : k1 = -1 ↔ ik 1 = 0) (h2 : k2 = -1 ↔ ik 2 = 0) (dz rz mn : Int32) (mp : Nat → Int32) {k : Nat} (hk : k < 14) : ∃ x rm, fX7_counted (nI k) sz r.1 r.2.2.2.2.2.2 r.2.2.2.1 r.2.2.1 dz rs ts k0 k1 k2 rz = some x ∧ fX8_count (nI k) dz rz mn t mp mrs mts ik = some rm ∧ rm.1 = x := by
  obtain ⟨rf, hf1, hf2⟩ := n_finds hM hg mp
  have hp := nodes_perm hg hN
  have h13 : fX8_in ((nI k).toInt64) (0 : Int64) (13 : Int64) = some 1 := by
    rw [show (13 : Int64) = (13 : Int32).toInt64 by decide, n_inrow (cnt := 14) (m := 13) (by omega) (by omega) rfl, if_neg (fun q => q.elim (nI_pos (by omega)) (nI_ge hk (by omega)))]
  unfold fX7_counted fX8_count
  rw [h13, Option.bind_some, if_neg (show ¬ (1 : Int32) = 0 by decide), hf1, Option.bind_some]
  rcases (show k = 0 ∨ k = 1 ∨ k = 2 ∨ k = 3 ∨ k = 4 ∨ k = 5 ∨ k = 6 ∨ k = 7 ∨ k = 8 ∨ k = 9 ∨ k = 10 ∨ k = 11 ∨ k = 12 ∨ k = 13 by omega) with rfl | rfl | rfl | rfl | rfl | rfl | rfl | rfl | rfl | rfl | rfl | rfl | rfl | rfl

  · rw [if_pos (by decide), if_pos (by decide), gx_0 (by omega) (by omega), cl_0, hM.1, hC.1]
    exact ⟨_, _, rfl, rfl, rfl⟩
  · rw [if_neg (by decide), if_pos (by decide), if_neg (by decide), if_pos (by decide), nC_size hN]
    exact ⟨_, _, rfl, rfl, by dsimp only; rw [hf2.1, hp.length_eq]⟩
  · rw [if_neg (by decide), if_neg (by decide), if_pos (by decide), if_neg (by decide), if_neg (by decide), if_pos (by decide), show nI 2 - (1 : Int32) = nI 1 from by decide, n_ofs8 hM hg hf2 (s := 1) (by omega), show (1 : Int32) = nI 1 from rfl, n_cos6 hN (s := 1) (by omega), Option.bind_some, Option.bind_some, ct_perm hp (fun q => decide (szN (nk l q) = 1))]
    exact ⟨_, _, rfl, rfl, rfl⟩
  · rw [if_neg (by decide), if_neg (by decide), if_neg (by decide), if_pos (by decide), if_neg (by decide), if_neg (by decide), if_neg (by decide), if_pos (by decide), show nI 3 - (1 : Int32) = nI 2 from by decide, n_ofs8 hM hg hf2 (s := 2) (by omega), show (2 : Int32) = nI 2 from rfl, n_cos6 hN (s := 2) (by omega), Option.bind_some, Option.bind_some, ct_perm hp (fun q => decide (szN (nk l q) = 2))]
    exact ⟨_, _, rfl, rfl, rfl⟩
  · rw [if_neg (by decide), if_neg (by decide), if_neg (by decide), if_neg (by decide), if_pos (by decide), if_neg (by decide), if_neg (by decide), if_neg (by decide), if_neg (by decide), if_pos (by decide), show nI 4 - (1 : Int32) = nI 3 from by decide, n_ofs8 hM hg hf2 (s := 3) (by omega), show (3 : Int32) = nI 3 from rfl, n_cos6 hN (s := 3) (by omega), Option.bind_some, Option.bind_some, ct_perm hp (fun q => decide (szN (nk l q) = 3))]
    exact ⟨_, _, rfl, rfl, rfl⟩
  · rw [if_neg (by decide), if_neg (by decide), if_neg (by decide), if_neg (by decide), if_neg (by decide), if_pos (by decide), if_neg (by decide), if_neg (by decide), if_neg (by decide), if_neg (by decide), if_neg (by decide), if_pos (by decide), show nI 5 - (1 : Int32) = nI 4 from by decide, n_ofs8 hM hg hf2 (s := 4) (by omega), show (4 : Int32) = nI 4 from rfl, n_cos6 hN (s := 4) (by omega), Option.bind_some, Option.bind_some, ct_perm hp (fun q => decide (szN (nk l q) = 4))]
    exact ⟨_, _, rfl, rfl, rfl⟩
  · obtain ⟨ra, ha1, ha2⟩ := n_allpl8 hM hg rf.2
    rw [if_neg (by decide), if_neg (by decide), if_neg (by decide), if_neg (by decide), if_neg (by decide), if_neg (by decide), if_pos (by decide), if_neg (by decide), if_neg (by decide), if_neg (by decide), if_neg (by decide), if_neg (by decide), if_neg (by decide), if_pos (by decide), n_allpl6 hN, ha1, Option.bind_some, Option.bind_some]
    exact ⟨_, _, rfl, rfl, by dsimp only; rw [ha2]; unfold allP; rw [sm_perm hp (fun q => plc (nk l q))]⟩
  · rw [if_neg (by decide), if_neg (by decide), if_neg (by decide), if_neg (by decide), if_neg (by decide), if_neg (by decide), if_neg (by decide), if_pos (by decide), if_neg (by decide), if_neg (by decide), if_neg (by decide), if_neg (by decide), if_neg (by decide), if_neg (by decide), if_neg (by decide), if_pos (by decide), n_deepest hN, n_mosth hM hg hf2, Option.bind_some, Option.bind_some, deep_eq hg hN.2.2.1]
    exact ⟨_, _, rfl, rfl, rfl⟩
  · rw [if_neg (by decide), if_neg (by decide), if_neg (by decide), if_neg (by decide), if_neg (by decide), if_neg (by decide), if_neg (by decide), if_neg (by decide), if_pos (by decide), if_neg (by decide), if_neg (by decide), if_neg (by decide), if_neg (by decide), if_neg (by decide), if_neg (by decide), if_neg (by decide), if_neg (by decide), if_pos (by decide), n_longpre hN, n_lpre8 hg hf2, Option.bind_some, Option.bind_some, mx_perm (xs := ns) (ys := pN l) (fun q => by rw [hN.2.2.1, pN_mem hg]) (pfx l)]
    exact ⟨_, _, rfl, rfl, rfl⟩
  · rw [if_neg (by decide), if_neg (by decide), if_neg (by decide), if_neg (by decide), if_neg (by decide), if_neg (by decide), if_neg (by decide), if_neg (by decide), if_neg (by decide), if_pos (by decide), if_neg (by decide), if_neg (by decide), if_neg (by decide), if_neg (by decide), if_neg (by decide), if_neg (by decide), if_neg (by decide), if_neg (by decide), if_neg (by decide), if_pos (by decide)]
    exact ⟨_, _, rfl, rfl, rfl⟩
  · obtain ⟨x, q1, q2⟩ := n_held hR (by omega) (by omega)
    rw [if_neg (by decide), if_neg (by decide), if_neg (by decide), if_neg (by decide), if_neg (by decide), if_neg (by decide), if_neg (by decide), if_neg (by decide), if_neg (by decide), if_neg (by decide), if_pos (by decide), if_neg (by decide), if_neg (by decide), if_neg (by decide), if_neg (by decide), if_neg (by decide), if_neg (by decide), if_neg (by decide), if_neg (by decide), if_neg (by decide), if_neg (by decide), if_pos (by decide), q1, show (6 : Int32) = nI 6 from rfl, q2, Option.bind_some, Option.bind_some]
    exact ⟨_, _, rfl, rfl, rfl⟩
  · obtain ⟨x, q1, q2⟩ := n_held hT (by omega) (by omega)
    rw [if_neg (by decide), if_neg (by decide), if_neg (by decide), if_neg (by decide), if_neg (by decide), if_neg (by decide), if_neg (by decide), if_neg (by decide), if_neg (by decide), if_neg (by decide), if_neg (by decide), if_pos (by decide), if_neg (by decide), if_neg (by decide), if_neg (by decide), if_neg (by decide), if_neg (by decide), if_neg (by decide), if_neg (by decide), if_neg (by decide), if_neg (by decide), if_neg (by decide), if_neg (by decide), if_pos (by decide), q1, show (4 : Int32) = nI 4 from rfl, q2, Option.bind_some, Option.bind_some]
    exact ⟨_, _, rfl, rfl, rfl⟩
  · rw [if_neg (by decide), if_neg (by decide), if_neg (by decide), if_neg (by decide), if_neg (by decide), if_neg (by decide), if_neg (by decide), if_neg (by decide), if_neg (by decide), if_neg (by decide), if_neg (by decide), if_neg (by decide), if_pos (by decide), if_neg (by decide), if_neg (by decide), if_neg (by decide), if_neg (by decide), if_neg (by decide), if_neg (by decide), if_neg (by decide), if_neg (by decide), if_neg (by decide), if_neg (by decide), if_neg (by decide), if_neg (by decide), if_pos (by decide), n_keptc, Option.bind_some, gx_0 (by omega) (by omega), cl_0, kc_bit h0, Option.bind_some, gx_1 (by omega) (by omega), show ((1 : Int32)).toNatClampNeg = 1 from by decide, kc_bit h1, Option.bind_some, gx_2 (by omega) (by omega), show ((2 : Int32)).toNatClampNeg = 2 from by decide]
    by_cases c : k2 = -1
    · rw [if_pos (h2.mp c), if_pos c, nI_add, Int32.add_zero, Nat.zero_add, Nat.add_zero]
      exact ⟨_, _, rfl, rfl, rfl⟩
    · rw [if_neg (fun z => c (h2.mpr z)), if_neg c, nI_add, nI_1, Nat.zero_add]
      exact ⟨_, _, rfl, rfl, rfl⟩
  · rw [if_neg (by decide), if_neg (by decide), if_neg (by decide), if_neg (by decide), if_neg (by decide), if_neg (by decide), if_neg (by decide), if_neg (by decide), if_neg (by decide), if_neg (by decide), if_neg (by decide), if_neg (by decide), if_neg (by decide), if_neg (by decide), if_neg (by decide), if_neg (by decide), if_neg (by decide), if_neg (by decide), if_neg (by decide), if_neg (by decide), if_neg (by decide), if_neg (by decide), if_neg (by decide), if_neg (by decide), if_neg (by decide), if_neg (by decide)]
    exact ⟨_, _, rfl, rfl, rfl⟩
theorem e_count {l : KL} {sz : Int32} {w v t : Nat → Int32} (hC : keyC l sz w v) (hM : keyM l t) (hg : kgood l) {ns : List Nat} {r : NT} (hN : nodesC l ns r) {rs ts mrs mts mrr mtt : Nat → Int32} {MR MT : Nat → Nat → Int32} (hR : shR 6 40 rs MR mrs mrr) (hT : shR 4 90 ts MT mts mtt) {k0 k1 k2 : Int32} {ik : Nat → Int32} (h0 : k0 = -1 ↔ ik 0 = 0) (h1 : k1 = -1 ↔ ik 1 = 0) (h2 : k2 = -1 ↔ ik 2 = 0) (dz rz mn : Int32) (mp : Nat → Int32) (a : Int32) : ∃ rn rm, fX7_count a sz r.1 r.2.2.2.2.2.2 r.2.2.2.1 r.2.2.1 dz rs ts k0 k1 k2 rz = some rn ∧ fX8_count a dz rz mn t mp mrs mts ik = some rm ∧ rn = rm.1 := by
  rcases pk_ix a (n := 14) (by omega) with q | q | ⟨j, hj, rfl⟩
  · unfold fX7_count fX8_count
    rw [show (13 : Int64) = (13 : Int32).toInt64 by decide, n_inrow (cnt := 14) (m := 13) (by omega) (by omega) rfl, Option.bind_some, if_pos q, if_pos (Or.inl q), if_pos rfl]
    exact ⟨_, _, rfl, rfl, rfl⟩
  · have q2 : ¬ a < nI 14 := fun z => (fa_of_lt z).2.1 q
    unfold fX7_count fX8_count
    rw [show (13 : Int64) = (13 : Int32).toInt64 by decide, n_inrow (cnt := 14) (m := 13) (by omega) (by omega) rfl, Option.bind_some, show (14 : Int32) = nI 14 from rfl, if_neg q2, if_pos (Or.inr q), if_pos rfl]
    by_cases c0 : a < 0
    · rw [if_pos c0]; exact ⟨_, _, rfl, rfl, rfl⟩
    · rw [if_neg c0]; exact ⟨_, _, rfl, rfl, rfl⟩
  · obtain ⟨x, rm, e1, e2, e3⟩ := n_counted hC hM hg hN hR hT h0 h1 h2 dz rz mn mp hj
    unfold fX7_count
    rw [if_neg (nI_pos (by omega)), if_pos (show nI j < (14 : Int32) from nI_lt (b := 14) hj (by omega)), e1, Option.bind_some]
    exact ⟨_, _, rfl, e2, e3.symm⟩

