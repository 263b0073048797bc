/-! which nodes came, went, grew, shrank -/
def nb (l : KL) (q : Nat) : Bool := decide (2 ≤ bn l q)
theorem nb_iff {l : KL} {q : Nat} (hq : wok q) : nb l q = true ↔ isN l q := by
  unfold nb
  rw [decide_eq_true_iff]
  exact ⟨fun h => ⟨hq, h⟩, fun h => h.2⟩
theorem nb_false {l : KL} {q : Nat} (h : ¬ isN l q) (hq : wok q) : nb l q = false := by
  cases hb : nb l q with
  | false => rfl
  | true => exact absurd ((nb_iff hq).mp hb) h
theorem inter_ct {l l' : KL} {xs ys : List Nat} (hx : xs.Nodup) (hx2 : ∀ q, q ∈ xs ↔ isN l q) (hy : ys.Nodup) (hy2 : ∀ q, q ∈ ys ↔ isN l' q) (g : Nat → Bool) : ys.countP (fun q => nb l q && g q) = xs.countP (fun q => nb l' q && g q) := by
  rw [List.countP_eq_length_filter, List.countP_eq_length_filter]
  refine List.Perm.length_eq ((List.perm_ext_iff_of_nodup (hy.filter _) (hx.filter _)).mpr (fun q => ?_))
  rw [List.mem_filter, List.mem_filter, hx2, hy2, Bool.and_eq_true, Bool.and_eq_true]
  constructor
  · rintro ⟨h1, h2, h3⟩
    exact ⟨(nb_iff h1.1).mp h2, (nb_iff h1.1).mpr h1, h3⟩
  · rintro ⟨h1, h2, h3⟩
    exact ⟨(nb_iff h1.1).mp h2, (nb_iff h1.1).mpr h1, h3⟩
/-- how many stayed, grew, shrank -/
def chA (l l' : KL) : Nat := (pN l).countP (fun q => nb l' q && true)
def chG (l l' : KL) : Nat := (pN l).countP (fun q => nb l' q && decide (plc (nk l q) < plc (nk l' q)))
def chS (l l' : KL) : Nat := (pN l).countP (fun q => nb l' q && decide (plc (nk l' q) < plc (nk l q)))
def chR (l l' : KL) (c : Nat → Int32) : Prop := c 0 = nI ((pN l').length - chA l l') ∧ c 1 = nI ((pN l).length - chA l l') ∧ c 2 = nI (chG l l') ∧ c 3 = nI (chS l l')
theorem chR_eq {l l' : KL} {c m : Nat → Int32} (h1 : chR l l' c) (h2 : chR l l' m) : ∀ k, k < 4 → c k = m k := by
  intro k hk
  obtain ⟨a0, a1, a2, a3⟩ := h1
  obtain ⟨b0, b1, b2, b3⟩ := h2
  rcases (show k = 0 ∨ k = 1 ∨ k = 2 ∨ k = 3 by omega) with rfl | rfl | rfl | rfl
  · rw [a0, b0]
  · rw [a1, b1]
  · rw [a2, b2]
  · rw [a3, b3]
theorem plc_lt (n : Nat) : 2 ≤ plc n ∧ plc n ≤ 16 := by
  rcases plc_cases n with ⟨-, e⟩ | ⟨-, e⟩ | ⟨-, e⟩ | ⟨-, e⟩ <;> omega
theorem n_places_m1 {z : Int32} {C : Nat → Int32} : fX3_placesOf (-1 : Int32) z C = some 0 := by
  unfold fX3_placesOf fX3_isSeat
  rw [if_pos (by decide), Option.bind_some, if_pos rfl]
theorem n_tell_L {l l' : KL} {ns ns' : List Nat} {r r' : NT} (h : nodesC l ns r) (h' : nodesC l' ns' r') : ∀ (m F i : Nat), ns'.length - i = m → m < F → i ≤ ns'.length → fX3_tellChanges_L18 r'.1 r'.2.1 r.1 r.2.1 r.2.2.2.2.2.2 r'.2.2.2.2.2.2 F (nI (fb_ct (fun k => nb l (ns'.getD k 0) && true) i)) (nI (fb_ct (fun k => nb l (ns'.getD k 0) && decide (plc (nk l (ns'.getD k 0)) < plc (nk l' (ns'.getD k 0)))) i)) (nI (fb_ct (fun k => nb l (ns'.getD k 0) && decide (plc (nk l' (ns'.getD k 0)) < plc (nk l (ns'.getD k 0)))) i)) (nI i) = some (nI (fb_ct (fun k => nb l (ns'.getD k 0) && true) ns'.length), nI (fb_ct (fun k => nb l (ns'.getD k 0) && decide (plc (nk l (ns'.getD k 0)) < plc (nk l' (ns'.getD k 0)))) ns'.length), nI (fb_ct (fun k => nb l (ns'.getD k 0) && decide (plc (nk l' (ns'.getD k 0)) < plc (nk l (ns'.getD k 0)))) ns'.length))
  | m, 0, i, _, hF, _ => absurd hF (Nat.not_lt_zero m)
  | m, F + 1, i, hm, hF, hi => by
    have hl' := h'.2.2.2
    have hs' := nC_size h'
    rw [fX3_tellChanges_L18]
    by_cases c : i < ns'.length
    · have ih := n_tell_L h h' (m - 1) F (i + 1) (by omega) (by omega) c
      rw [fb_ct_succ, fb_ct_succ, fb_ct_succ] at ih
      have hq := (nC_isN h' c).1
      rw [if_neg (by rw [hs']; exact nI_ge c (by omega)), gx_n (by omega) (by omega), nI_clamp (by omega), (nC_at h' c).1]
      have hp' := plc_lt (nk l' (ns'.getD i 0))
      have hp := plc_lt (nk l (ns'.getD i 0))
      rcases n_seat_node h (wok_lt hq) with ⟨s1, d, s2, s3, s4, s5⟩ | ⟨s1, s2⟩
      · have hnb : nb l (ns'.getD i 0) = true := (nb_iff hq).mpr s1
        rw [hnb, Bool.true_and, Bool.true_and, Bool.true_and, if_pos rfl] at ih
        rw [s4, Option.bind_some, n_places6 h s2, s3, Option.bind_some, if_neg (nI_ne0 (by omega) (by omega)), gl_eq, n_places6 h' c, Option.bind_some]
        have e1 : (if nI (plc (nk l' (ns'.getD i 0))) ≤ nI (plc (nk l (ns'.getD i 0))) then (some (0 : Int32)) else (some (1 : Int32))) = some (nI (if (decide (plc (nk l (ns'.getD i 0)) < plc (nk l' (ns'.getD i 0)))) = true then 1 else 0)) := by
          by_cases z : plc (nk l (ns'.getD i 0)) < plc (nk l' (ns'.getD i 0))
          · rw [decide_eq_true z, if_pos rfl, if_neg (nI_ge z (by omega))]; rfl
          · rw [decide_eq_false z, if_neg (show ¬ false = true by decide), if_pos (nI_le (by omega) (by omega))]; rfl
        have e2 : (if nI (plc (nk l (ns'.getD i 0))) ≤ nI (plc (nk l' (ns'.getD i 0))) then (some (0 : Int32)) else (some (1 : Int32))) = some (nI (if (decide (plc (nk l' (ns'.getD i 0)) < plc (nk l (ns'.getD i 0)))) = true then 1 else 0)) := by
          by_cases z : plc (nk l' (ns'.getD i 0)) < plc (nk l (ns'.getD i 0))
          · rw [decide_eq_true z, if_pos rfl, if_neg (nI_ge z (by omega))]; rfl
          · rw [decide_eq_false z, if_neg (show ¬ false = true by decide), if_pos (nI_le (by omega) (by omega))]; rfl
        rw [e1, Option.bind_some, gl_eq, Option.bind_some, e2, Option.bind_some, gl_eq, Option.bind_some, gl_eq, nI_1, nI_1, nI_add, nI_add]
        exact ih
      · have hnb : nb l (ns'.getD i 0) = false := nb_false s1 hq
        rw [hnb, Bool.false_and, Bool.false_and, Bool.false_and, if_neg (by decide), Nat.add_zero, Nat.add_zero, Nat.add_zero] at ih
        rw [s2, Option.bind_some, n_places_m1, Option.bind_some, if_pos rfl, Option.bind_some, gl_eq, nI_1]
        exact ih
    · rw [if_pos (by rw [hs']; exact nI_le (by omega) (by omega)), show i = ns'.length by omega]
theorem n_tell {l l' : KL} (hg : kgood l) (hg' : kgood l') {ns ns' : List Nat} {r r' : NT} (h : nodesC l ns r) (h' : nodesC l' ns' r') (c : Nat → Int32) : ∃ c', fX3_tellChanges 4 c r'.1 r'.2.1 r.1 r.2.1 r.2.2.2.2.2.2 r'.2.2.2.2.2.2 = some c' ∧ chR l l' c' := by
  have hl' := h'.2.2.2
  have e := n_tell_L h h' ns'.length gF 0 (Nat.sub_zero _) (by unfold gF; omega) (Nat.zero_le _)
  have q : ∀ g : Nat → Bool, fb_ct (fun k => nb l (ns'.getD k 0) && g (ns'.getD k 0)) ns'.length = (pN l).countP (fun q => nb l' q && g q) := fun g => by
    rw [ct_list (fun q => nb l q && g q) ns']
    exact inter_ct (pN_nodup l) (pN_mem hg) (lt_nodup h'.2.1) h'.2.2.1 g
  have q0 := q (fun _ => true)
  have q1 := q (fun q => decide (plc (nk l q) < plc (nk l' q)))
  have q2 := q (fun q => decide (plc (nk l' q) < plc (nk l q)))
  rw [q0, q1, q2] at e
  have e' : fX3_tellChanges_L18 r'.1 r'.2.1 r.1 r.2.1 r.2.2.2.2.2.2 r'.2.2.2.2.2.2 gF (0 : Int32) (0 : Int32) (0 : Int32) (0 : Int32) = some (nI (chA l l'), nI (chG l l'), nI (chS l l')) := e
  have a1 : chA l l' ≤ (pN l).length := List.countP_le_length
  have a2 : chA l l' ≤ (pN l').length := by
    have := inter_ct (pN_nodup l) (pN_mem hg) (pN_nodup l') (pN_mem hg') (fun _ => true)
    unfold chA
    rw [← this]
    exact List.countP_le_length
  have hz := nC_size h
  have hz' := nC_size h'
  rw [(nodes_perm hg h).length_eq] at hz
  rw [(nodes_perm hg' h').length_eq] at hz'
  unfold fX3_tellChanges
  rw [if_pos (by decide), e', Option.bind_some, gx_0 (by omega) (by omega), gx_1 (by omega) (by omega), gx_2 (by omega) (by omega), gx_3 (by omega) (by omega), hz, hz', pk_sub a1, pk_sub a2]
  refine ⟨_, rfl, ?_, ?_, ?_, ?_⟩
  · show upd (upd (upd (upd c 0 _) 1 _) 2 _) 3 _ 0 = _
    rw [pk_un (by decide), pk_un (by decide), pk_un (by decide), pk_us]
  · show upd (upd (upd (upd c 0 _) 1 _) 2 _) 3 _ 1 = _
    rw [pk_un (by decide), pk_un (by decide), pk_us]
  · show upd (upd (upd (upd c 0 _) 1 _) 2 _) 3 _ 2 = _
    rw [pk_un (by decide), pk_us]
  · show upd (upd (upd (upd c 0 _) 1 _) 2 _) 3 _ 3 = _
    rw [pk_us]
/-! the reference's -/
theorem n_noch_L : ∀ (m F i : Nat) (c : Nat → Int32), 4 - i = m → m < F → i ≤ 4 → (∀ k, k < i → c k = 0) → ∃ c', fX8_noChange_L2 F (nI i) c = some c' ∧ ∀ k, k < 4 → c' k = 0
  | m, 0, i, c, _, hF, _, _ => absurd hF (Nat.not_lt_zero m)
  | m, F + 1, i, c, hm, hF, hi, hk => by
    rw [fX8_noChange_L2, show (4 : Int32) = nI 4 from rfl]
    by_cases h : i < 4
    · rw [if_neg (nI_ge h (by omega)), gx_n h (by omega), gl_eq, nI_1, nI_clamp (by omega)]
      refine n_noch_L (m - 1) F (i + 1) _ (by omega) (by omega) h (fun k hk2 => ?_)
      by_cases e : k = i
      · rw [e, pk_us]
      · rw [pk_un e]; exact hk k (by omega)
    · rw [if_pos (nI_le (by omega) (by omega))]
      exact ⟨c, rfl, fun k h2 => hk k (by omega)⟩
theorem n_noch (c : Nat → Int32) : ∃ c', fX8_noChange c = some c' ∧ ∀ k, k < 4 → c' k = 0 := by
  obtain ⟨c', h1, h2⟩ := n_noch_L 4 gF 0 c (Nat.sub_zero _) (by unfold gF; omega) (Nat.zero_le _) (fun k hk => absurd hk (Nat.not_lt_zero k))
  rw [nI_0] at h1
  unfold fX8_noChange
  rw [h1]
  exact ⟨_, rfl, h2⟩
theorem n_settle_L : ∀ (m F i : Nat) (c : Nat → Int32), 4 - i = m → m < F → i ≤ 4 → (∀ k, k < i → c k = 0) → ∃ c', fX7_settle_L13 F (nI i) c = some c' ∧ ∀ k, k < 4 → c' k = 0
  | m, 0, i, c, _, hF, _, _ => absurd hF (Nat.not_lt_zero m)
  | m, F + 1, i, c, hm, hF, hi, hk => by
    rw [fX7_settle_L13, show (4 : Int32) = nI 4 from rfl]
    by_cases h : i < 4
    · rw [if_neg (nI_ge h (by omega)), gx_n h (by omega), gl_eq, nI_1, nI_clamp (by omega)]
      refine n_settle_L (m - 1) F (i + 1) _ (by omega) (by omega) h (fun k hk2 => ?_)
      by_cases e : k = i
      · rw [e, pk_us]
      · rw [pk_un e]; exact hk k (by omega)
    · rw [if_pos (nI_le (by omega) (by omega))]
      exact ⟨c, rfl, fun k h2 => hk k (by omega)⟩
theorem n_settle {l : KL} {sz : Int32} {w v : Nat → Int32} (hC : keyC l sz w v) (hg : kgood l) (P Pf D Fr Ti C c : Nat → Int32) : ∃ (r : NT) (ns : List Nat) (c' : Nat → Int32), fX7_settle sz w P Pf D Fr Ti C c = some (r.1, r.2.1, r.2.2.1, r.2.2.2.1, r.2.2.2.2.1, r.2.2.2.2.2.1, r.2.2.2.2.2.2, c') ∧ nodesC l ns r ∧ ∀ k, k < 4 → c' k = 0 := by
  obtain ⟨c', h1, h2⟩ := n_settle_L 4 gF 0 c (Nat.sub_zero _) (by unfold gF; omega) (Nat.zero_le _) (fun k hk => absurd hk (Nat.not_lt_zero k))
  rw [nI_0] at h1
  obtain ⟨r, ns, e1, e2⟩ := n_build hC hg P Pf D Fr Ti C
  unfold fX7_settle
  rw [e1, Option.bind_some, h1, Option.bind_some]
  exact ⟨r, ns, c', rfl, e2, h2⟩
theorem n_chg_L {l l' : KL} {t t' : Nat → Int32} (hM : keyM l t) (hM' : keyM l' t') (hg : kgood l) (hg' : kgood l') {q32 q65 : Int32 × (Nat → Int32)} {q57 : Nat → Int32} (h32 : q32.1 = nI (pN l).length) (h57 : ∀ j, j < (pN l).length → q57 j = nI ((pN l).getD j 0)) (h65 : pR (pN l') q65.1 q65.2) : ∀ (m F i : Nat) (c : Nat → Int32), (pN l).length - i = m → m < F → i ≤ (pN l).length → c 1 = nI (fb_ct (fun k => !(nb l' ((pN l).getD k 0) && true)) i) → c 2 = nI (fb_ct (fun k => nb l' ((pN l).getD k 0) && decide (plc (nk l ((pN l).getD k 0)) < plc (nk l' ((pN l).getD k 0)))) i) → c 3 = nI (fb_ct (fun k => nb l' ((pN l).getD k 0) && decide (plc (nk l' ((pN l).getD k 0)) < plc (nk l ((pN l).getD k 0)))) i) → ∃ c', fX8_changed_L70 q32 q57 q65 t t' F (nI i) c = some c' ∧ c' 1 = nI (fb_ct (fun k => !(nb l' ((pN l).getD k 0) && true)) (pN l).length) ∧ c' 2 = nI (fb_ct (fun k => nb l' ((pN l).getD k 0) && decide (plc (nk l ((pN l).getD k 0)) < plc (nk l' ((pN l).getD k 0)))) (pN l).length) ∧ c' 3 = nI (fb_ct (fun k => nb l' ((pN l).getD k 0) && decide (plc (nk l' ((pN l).getD k 0)) < plc (nk l ((pN l).getD k 0)))) (pN l).length)
  | m, 0, i, c, _, hF, _, _, _, _ => absurd hF (Nat.not_lt_zero m)
  | m, F + 1, i, c, hm, hF, hi, c1, c2, c3 => by
    have hpl := pN_len hg
    rw [fX8_changed_L70, h32]
    by_cases cc : i < (pN l).length
    · have hq := pN_ok hg _ (getD_mem cc)
      have hp' := plc_lt (nk l' ((pN l).getD i 0))
      have hp := plc_lt (nk l ((pN l).getD i 0))
      rw [if_neg (nI_ge cc (by omega)), gx_n (by omega) (by omega), nI_clamp (by omega), h57 i cc]
      rcases n_finds_node hg' h65 (wok_lt hq) with ⟨s1, rr, s2, s3⟩ | ⟨s1, s2⟩
      · have hnb : nb l' ((pN l).getD i 0) = true := (nb_iff hq).mpr s1
        have e1 : ∀ y : Int32, (if nI (plc (nk l' ((pN l).getD i 0))) ≤ nI (plc (nk l ((pN l).getD i 0))) then (some ((0 : Int32), y)) else (some ((1 : Int32), y))) = some (nI (if (decide (plc (nk l ((pN l).getD i 0)) < plc (nk l' ((pN l).getD i 0)))) = true then 1 else 0), y) := fun y => by
          by_cases z : plc (nk l ((pN l).getD i 0)) < plc (nk l' ((pN l).getD i 0))
          · rw [decide_eq_true z, if_pos rfl, if_neg (nI_ge z (by omega))]; rfl
          · rw [decide_eq_false z, if_neg (show ¬ false = true by decide), if_pos (nI_le (by omega) (by omega))]; rfl
        have e2 : ∀ y : Int32, (if nI (plc (nk l ((pN l).getD i 0))) ≤ nI (plc (nk l' ((pN l).getD i 0))) then (some ((0 : Int32), y)) else (some ((1 : Int32), y))) = some (nI (if (decide (plc (nk l' ((pN l).getD i 0)) < plc (nk l ((pN l).getD i 0)))) = true then 1 else 0), y) := fun y => by
          by_cases z : plc (nk l' ((pN l).getD i 0)) < plc (nk l ((pN l).getD i 0))
          · rw [decide_eq_true z, if_pos rfl, if_neg (nI_ge z (by omega))]; rfl
          · rw [decide_eq_false z, if_neg (show ¬ false = true by decide), if_pos (nI_le (by omega) (by omega))]; rfl
        rw [s2, Option.bind_some, if_neg s3, gx_n (by omega) (by omega), n_places8 hM hg hq, Option.bind_some, gx_n (by omega) (by omega), n_places8 hM' hg' hq, Option.bind_some, gx_2 (by omega) (by omega), e1, Option.bind_some, gx_2 (by omega) (by omega), gx_3 (by omega) (by omega), e2, Option.bind_some, gx_3 (by omega) (by omega), Option.bind_some, gl_eq, nI_1]
        refine n_chg_L hM hM' hg hg' h32 h57 h65 (m - 1) F (i + 1) _ (by omega) (by omega) cc ?_ ?_ ?_
        · show upd (upd c 2 _) 3 _ 1 = _
          rw [pk_un (by decide), pk_un (by decide), c1, fb_ct_succ, hnb]
          rfl
        · show upd (upd c 2 _) 3 _ 2 = _
          rw [pk_un (by decide), pk_us, fb_ct_succ, hnb, Bool.true_and]
          show c 2 + _ = _
          rw [c2, nI_add]
        · show upd (upd c 2 _) 3 _ 3 = _
          rw [pk_us, fb_ct_succ, hnb, Bool.true_and]
          show c 3 + nI _ = _
          rw [c3, nI_add]
      · have hnb : nb l' ((pN l).getD i 0) = false := nb_false s1 hq
        rw [s2, Option.bind_some, if_pos rfl, gx_1 (by omega) (by omega), gx_1 (by omega) (by omega), Option.bind_some, gl_eq, nI_1]
        refine n_chg_L hM hM' hg hg' h32 h57 h65 (m - 1) F (i + 1) _ (by omega) (by omega) cc ?_ ?_ ?_
        · show upd c 1 (c 1 + 1) 1 = _
          rw [pk_us, c1, fb_ct_succ, hnb, nI_1]
          rfl
        · show upd c 1 (c 1 + 1) 2 = _
          rw [pk_un (by decide), c2, fb_ct_succ, hnb]
          rfl
        · show upd c 1 (c 1 + 1) 3 = _
          rw [pk_un (by decide), c3, fb_ct_succ, hnb]
          rfl
    · rw [if_pos (nI_le (by omega) (by omega))]
      have : i = (pN l).length := by omega
      subst this
      exact ⟨c, rfl, c1, c2, c3⟩
theorem keyM_shift {l : KL} (hg : kgood l) {f g : Nat → Int32} (h : keyM l f) (e : ∀ j, j < 97 → g j = f j) : keyM l g := by
  have h48 := hg.1
  refine ⟨(e 0 (by omega)).trans h.1, fun k hk => (e _ (by omega)).trans (h.2.1 k hk), fun k hk => (e _ (by omega)).trans (h.2.2 k hk)⟩
theorem n_changed {l l' : KL} {t' past : Nat → Int32} {n : Nat} (hn : n < 40) (hM : keyM l (fun j => past (97 * n + j))) (hM' : keyM l' t') (hg : kgood l) (hg' : kgood l') (aside c paths hadP : Nat → Int32) : ∃ r, fX8_changed (nI (n + 1)) past aside c paths hadP t' = some r ∧ chR l l' r.2.2.2.1 := by
  have hpl := pN_len hg
  have hpl' := pN_len hg'
  have e0 : (97 : Int32) * (nI (n + 1) - (1 : Int32)) = nI (97 * n) := by rw [nI_pred, show (97 : Int32) = nI 97 from rfl, pk_mul]
  have ea := n_copies (x1 := 97 * n) (x3 := 0) (n := 97) (n0 := 3880) (n2 := 97) past aside (by omega) (by omega) (by omega) (by omega) (by omega)
  have ea' : fX8_copies (nI (97 * n)) (0 : Int32) (97 : Int32) 3880 past 97 aside = _ := ea
  have hMa : keyM l (fun j => if 0 ≤ j ∧ j < 0 + 97 then past (97 * n + (j - 0)) else aside j) := keyM_shift hg hM (fun j hj => by
    rw [if_pos ⟨Nat.zero_le _, by omega⟩, Nat.sub_zero])
  obtain ⟨c1, hc1, hc2⟩ := n_noch c
  obtain ⟨r1, f1, f2⟩ := n_finds hMa hg paths
  have eb := n_copies (x1 := 0) (x3 := 0) (n := (pN l).length) (n0 := 47) (n2 := 47) r1.2 hadP (by omega) (by omega) (by omega) (by omega) (by omega)
  rw [← f2.1] at eb
  have eb' : fX8_copies (0 : Int32) (0 : Int32) r1.1 47 r1.2 47 hadP = _ := eb
  obtain ⟨r2, g1, g2⟩ := n_finds hM' hg' r1.2
  obtain ⟨c2, d1, d2, d3, d4⟩ := n_chg_L hMa hM' hg hg' (q32 := r1) (q65 := r2) (q57 := fun j => if 0 ≤ j ∧ j < 0 + (pN l).length then r1.2 (0 + (j - 0)) else hadP j) f2.1 (fun j hj => by
    rw [if_pos ⟨Nat.zero_le _, by omega⟩, Nat.zero_add, Nat.sub_zero]
    exact f2.2 j hj) g2 (pN l).length gF 0 c1 (Nat.sub_zero _) (by unfold gF; omega) (Nat.zero_le _) (hc2 1 (by omega)) (hc2 2 (by omega)) (hc2 3 (by omega))
  rw [nI_0] at d1
  unfold fX8_changed
  rw [e0, ea', Option.bind_some, hc1, Option.bind_some, f1, Option.bind_some, eb', Option.bind_some, g1, Option.bind_some, d1, Option.bind_some, gx_1 (by omega) (by omega), gx_0 (by omega) (by omega)]
  have a1 : chA l l' ≤ (pN l).length := List.countP_le_length
  have a2 : chA l l' ≤ (pN l').length := by
    have := inter_ct (pN_nodup l) (pN_mem hg) (pN_nodup l') (pN_mem hg') (fun _ => true)
    unfold chA
    rw [← this]
    exact List.countP_le_length
  have k1 : fb_ct (fun k => !(nb l' ((pN l).getD k 0) && true)) (pN l).length = (pN l).length - chA l l' := by
    have z1 := fb_ct_not (fun k => nb l' ((pN l).getD k 0) && true) (pN l).length
    have z2 : fb_ct (fun k => nb l' ((pN l).getD k 0) && true) (pN l).length = chA l l' := ct_list (fun q => nb l' q && true) (pN l)
    omega
  have k2 : fb_ct (fun k => nb l' ((pN l).getD k 0) && decide (plc (nk l ((pN l).getD k 0)) < plc (nk l' ((pN l).getD k 0)))) (pN l).length = chG l l' := ct_list (fun q => nb l' q && decide (plc (nk l q) < plc (nk l' q))) (pN l)
  have k3 : fb_ct (fun k => nb l' ((pN l).getD k 0) && decide (plc (nk l' ((pN l).getD k 0)) < plc (nk l ((pN l).getD k 0)))) (pN l).length = chS l l' := ct_list (fun q => nb l' q && decide (plc (nk l' q) < plc (nk l q))) (pN l)
  rw [k1] at d2
  rw [k2] at d3
  rw [k3] at d4
  refine ⟨_, rfl, ?_, ?_, ?_, ?_⟩
  · show upd c2 0 (r2.1 - r1.1 + c2 1) 0 = _
    rw [pk_us, d2, g2.1, f2.1]
    apply Int32.toInt_inj.mp
    have s1 := pk_sub_toInt (a := (pN l').length) (b := (pN l).length) (by omega) (by omega)
    have s2 := nI_toInt (n := (pN l).length - chA l l') (by omega)
    rw [fb_addI (by omega) (by omega), s1, s2, nI_toInt (by omega)]
    omega
  · show c2 1 = _
    exact d2
  · show c2 2 = _
    exact d3
  · show c2 3 = _
    exact d4
