/-! undone, kept, gone on from, anew -/
theorem n_replayD {b : KL} {bz : Int32} {bw bv : Nat → Int32} {ds : List DD} {dz : Int32} {dk dw dv : Nat → Int32} (hh : hok b ds) (hB : keyC b bz bw bv) (hd : dC ds dz dk dw dv) (w v P Pf D Fr Ti C ch : Nat → Int32) : ∃ (sz' : Int32) (w' v' : Nat → Int32) (r' : NT) (ns' : List Nat) (c' : Nat → Int32), fX7_replayDeeds bz bw w bv v dz dk dw dv P Pf D Fr Ti C ch = some (sz', w', v', r'.1, r'.2.1, r'.2.2.1, r'.2.2.2.1, r'.2.2.2.2.1, r'.2.2.2.2.2.1, r'.2.2.2.2.2.2, c') ∧ keyC (krep b ds) sz' w' v' ∧ nodesC (krep b ds) ns' r' ∧ ∀ k, k < 4 → c' k = 0 := by
  obtain ⟨r1, a1, a2⟩ := n_become6 hh.1 hB w v
  obtain ⟨r2, b1, b2⟩ := n_replay hd hh a2
  obtain ⟨r', ns', c', s1, s2, s3⟩ := n_settle b2 (hok_all hh) P Pf D Fr Ti C ch
  refine ⟨r2.1, r2.2.1, r2.2.2, r', ns', c', ?_, b2, s2, s3⟩
  unfold fX7_replayDeeds
  rw [a1, Option.bind_some, b1, Option.bind_some, s1, Option.bind_some]
theorem pastM_take {b : KL} {ds : List DD} {past : Nat → Int32} (hp : pastM b ds past) (n : Nat) : pastM b (ds.take n) past := by
  intro i hi
  rw [List.length_take] at hi
  rw [List.take_take, Nat.min_eq_left (by omega)]
  exact hp i (by omega)
theorem e_undo {b : KL} {bz : Int32} {bw bv : Nat → Int32} {sz : Int32} {w v : Nat → Int32} {dz : Int32} {dk dw dv ch : Nat → Int32} {nz : Int32} {P C Pf D Fr Ti : Nat → Int32} {md : Int32} {now past mch : Nat → Int32} (h : IX b bz bw bv sz w v dz dk dw dv ch nz P C Pf D Fr Ti md now past mch) (a : Int32) : ∃ rn rm, fX7_undo a dz bz sz bw w bv v dk dw dv nz P Pf D Fr Ti C ch = some rn ∧ fX8_undo a md past now mch = some rm ∧ rn.1 = rm.1 ∧ IX b bz bw bv rn.2.2.1 rn.2.2.2.1 rn.2.2.2.2.1 rn.2.1 dk dw dv rn.2.2.2.2.2.2.2.2.2.2.2.2 rn.2.2.2.2.2.1 rn.2.2.2.2.2.2.1 rn.2.2.2.2.2.2.2.2.2.2.2.1 rn.2.2.2.2.2.2.2.1 rn.2.2.2.2.2.2.2.2.1 rn.2.2.2.2.2.2.2.2.2.1 rn.2.2.2.2.2.2.2.2.2.2.1 rm.2.1 rm.2.2.1 past rm.2.2.2 := by
  obtain ⟨ds, ns, hh, hB, hC, hd, hN, hch, rfl, hM, hp⟩ := h
  obtain rfl : dz = nI ds.length := hd.1
  have hI : IX b bz bw bv sz w v (nI ds.length) dk dw dv ch nz P C Pf D Fr Ti (nI ds.length) now past mch := ⟨ds, ns, hh, hB, hC, hd, hN, hch, rfl, hM, hp⟩
  have h40 := hh.2.1
  unfold fX7_undo fX8_undo
  rcases pk_ix a (n := ds.length + 1) (by omega) with q | q | ⟨k, hk, rfl⟩
  · rw [if_pos q, inr_f (cnt := ds.length + 1) (m := nI ds.length) (by omega) (by omega) rfl (Or.inl q), Option.bind_some, if_pos rfl]
    exact ⟨_, _, rfl, rfl, rfl, hI⟩
  · have q2 : ¬ a ≤ nI ds.length := fun z => by
      rw [fa_le, nI_toInt (by omega)] at q
      rw [fa_le, nI_toInt (by omega)] at z
      omega
    rw [if_neg q2, inr_f (cnt := ds.length + 1) (m := nI ds.length) (by omega) (by omega) rfl (Or.inr q), Option.bind_some, if_pos (show (0 : Int32) = 0 from rfl)]
    by_cases c0 : a < 0
    · rw [if_pos c0]; exact ⟨_, _, rfl, rfl, rfl, hI⟩
    · rw [if_neg c0]; exact ⟨_, _, rfl, rfl, rfl, hI⟩
  · have hcut : fX0_cutTo (nI k) (nI ds.length) = some (nI k) := by
      unfold fX0_cutTo
      rw [if_neg (nI_pos (by omega)), if_neg (nI_nlt (by omega) (by omega))]
    obtain ⟨sz', w', v', r', ns', c', q1, q2, q3, q4⟩ := n_replayD (hok_take hh k) hB (dC_take hd (show k ≤ ds.length by omega)) w v P Pf D Fr Ti C ch
    obtain ⟨m', m1, m2⟩ := n_noch mch
    have hlk : (ds.take k).length = k := by rw [List.length_take]; omega
    -- the reference's keys
    obtain ⟨now', n1, n2⟩ : ∃ now', (if nI ds.length - nI k ≤ 0 then (some now) else (Option.bind (fX8_copies ((97 : Int32) * nI k) (0 : Int32) (97 : Int32) 3880 past 97 now) (fun q_42 => (some q_42)))) = some now' ∧ keyM (krep b (ds.take k)) now' := by
      rw [pk_sub (by omega)]
      by_cases c : k = ds.length
      · subst c
        rw [Nat.sub_self, if_pos (by decide)]
        exact ⟨now, rfl, by rw [List.take_length]; exact hM⟩
      · have e0 : (97 : Int32) * nI k = nI (97 * k) := by rw [show (97 : Int32) = nI 97 from rfl, pk_mul]
        have ea := n_copies (x1 := 97 * k) (x3 := 0) (n := 97) (n0 := 3880) (n2 := 97) past now (by omega) (by omega) (by omega) (by omega) (by omega)
        have ea' : fX8_copies (nI (97 * k)) (0 : Int32) (97 : Int32) 3880 past 97 now = _ := ea
        rw [if_neg (nI_nle (by omega) (by omega)), e0, ea', Option.bind_some]
        exact ⟨_, rfl, keyM_shift (hok_good hh k (by omega)) (hp k (by omega)) (fun j hj => by
          rw [if_pos ⟨Nat.zero_le _, by omega⟩, Nat.sub_zero])⟩
    rw [if_neg (nI_pos (by omega)), if_pos (nI_le (show k ≤ ds.length by omega) (by omega)), gl_eq, hcut, Option.bind_some, q1, Option.bind_some, inr_t (cnt := ds.length + 1) (m := nI ds.length) (by omega) rfl hk, Option.bind_some, if_neg (show ¬ (1 : Int32) = 0 by decide), gl_eq, n1, Option.bind_some, m1, Option.bind_some]
    refine ⟨_, _, rfl, rfl, rfl, ds.take k, ns', hok_take hh k, hB, q2, dC_take hd (by omega), q3, fun j hj => (q4 j hj).trans (m2 j hj).symm, by rw [hlk], n2, pastM_take hp k⟩
/-- a kept index, on both sides -/
def kptR (b : KL) (k : Nat) (s : Int32) (kk kw kv ik kp : Nat → Int32) : Prop := (s = -1 ∧ ik k = 0) ∨ ∃ ds, hok b ds ∧ dC ds s kk kw kv ∧ ik k ≠ 0 ∧ kp (3978 * k + 97) = nI ds.length ∧ keyM (krep b ds) (fun j => kp (3978 * k + j)) ∧ pastM b ds (fun j => kp (3978 * k + 98 + j))
theorem kptR_kd {b : KL} {k : Nat} {s : Int32} {kk kw kv ik kp : Nat → Int32} (h : kptR b k s kk kw kv ik kp) : kdR s k ik kp := by
  rcases h with h | ⟨ds, h1, h2, h3, h4, -⟩
  · exact Or.inl h
  · have := h1.2.1
    exact Or.inr ⟨by rw [h2.1]; exact nI_nm1 (by omega), h3, h4.trans h2.1.symm⟩
theorem kptR_ext {b : KL} {k : Nat} {s : Int32} {kk kw kv ik kp ik' kp' : Nat → Int32} (h : kptR b k s kk kw kv ik kp) (e1 : ik' k = ik k) (e2 : ∀ j, 3978 * k ≤ j → j < 3978 * k + 3978 → kp' j = kp j) : kptR b k s kk kw kv ik' kp' := by
  rcases h with ⟨h1, h2⟩ | ⟨ds, h1, h2, h3, h4, h5, h6⟩
  · exact Or.inl ⟨h1, e1.trans h2⟩
  · have h40 := h1.2.1
    refine Or.inr ⟨ds, h1, h2, by rw [e1]; exact h3, (e2 _ (by omega) (by omega)).trans h4, keyM_shift (hok_all h1) h5 (fun j hj => e2 _ (by omega) (by omega)), fun i hi => ?_⟩
    exact keyM_shift (hok_good h1 i (by omega)) (h6 i hi) (fun j hj => e2 _ (by omega) (by omega))
def KX (b : KL) (s0 : Int32) (k0 w0 v0 : Nat → Int32) (s1 : Int32) (k1 w1 v1 : Nat → Int32) (s2 : Int32) (k2 w2 v2 : Nat → Int32) (ik kp : Nat → Int32) : Prop := kptR b 0 s0 k0 w0 v0 ik kp ∧ kptR b 1 s1 k1 w1 v1 ik kp ∧ kptR b 2 s2 k2 w2 v2 ik kp
theorem vb_0 : vp_nar .boolean (0 : Int32) = 0 := by decide
theorem vb_1 : vp_nar .boolean (1 : Int32) = 1 := by decide
/-- the reference keeps the index -/
theorem n_keep8 {b : KL} {ds : List DD} {now past : Nat → Int32} (hh : hok b ds) (hM : keyM (krep b ds) now) (hp : pastM b ds past) {k : Nat} (hk : k < 3) (kp ik : Nat → Int32) : ∃ rm, fX8_keep (nI k) (nI ds.length) now kp past ik = some rm ∧ rm.1 = nI ds.length ∧ (∀ s kk kw kv, dC ds s kk kw kv → kptR b k s kk kw kv rm.2.2 rm.2.1) ∧ ∀ k', k' ≠ k → rm.2.2 k' = ik k' ∧ ∀ j, 3978 * k' ≤ j → j < 3978 * k' + 3978 → rm.2.1 j = kp j := by
  have h40 := hh.2.1
  have e0 : (3978 : Int32) * nI k = nI (3978 * k) := by rw [show (3978 : Int32) = nI 3978 from rfl, pk_mul]
  have e1 : nI (3978 * k) + (97 : Int32) = nI (3978 * k + 97) := nI_add (3978 * k) 97
  have hpl : fX8_isPlace (nI k) = some 1 := by
    unfold fX8_isPlace
    rw [show (2 : Int64) = (2 : Int32).toInt64 by decide, inr_t (cnt := 3) (m := 2) (by omega) rfl hk]
    rfl
  have ea := n_copies (x1 := 0) (x3 := 3978 * k) (n := 97) (n0 := 97) (n2 := 11934) now kp (by omega) (by omega) (by omega) (by omega) (by omega)
  have ea' : fX8_copies (0 : Int32) (nI (3978 * k)) (97 : Int32) 97 now 11934 kp = _ := ea
  have eb := fun f : Nat → Int32 => n_copies (x1 := 0) (x3 := 3978 * k + 98) (n := 3880) (n0 := 3880) (n2 := 11934) past f (by omega) (by omega) (by omega) (by omega) (by omega)
  have eb' : ∀ f : Nat → Int32, fX8_copies (0 : Int32) (nI (3978 * k + 98)) (3880 : Int32) 3880 past 11934 f = _ := eb
  unfold fX8_keep
  rw [hpl, Option.bind_some, if_neg (show ¬ (1 : Int32) = 0 by decide), e0, ea', Option.bind_some, e1, gx_n (by omega) (by omega), nI_1, nI_clamp (by omega), eb', Option.bind_some, gx_n hk (by omega), nI_clamp (by omega), vb_1]
  refine ⟨_, rfl, rfl, fun s kk kw kv hd => Or.inr ⟨ds, hh, hd, ?_, ?_, ?_, fun i hi => ?_⟩, fun k' hk' => ⟨?_, fun j j1 j2 => ?_⟩⟩
  · dsimp only
    rw [pk_us]; decide
  · dsimp only
    rw [if_neg (by omega), pk_us]
  · refine keyM_shift (hok_all hh) hM (fun j hj => ?_)
    dsimp only
    rw [if_neg (by omega), pk_un (by omega), if_pos ⟨by omega, by omega⟩]
    exact congrArg now (by omega)
  · refine keyM_shift (hok_good hh i (by omega)) (hp i hi) (fun j hj => ?_)
    dsimp only
    rw [if_pos ⟨by omega, by omega⟩]
    exact congrArg past (by omega)
  · dsimp only
    rw [pk_un hk']
  · dsimp only
    rw [if_neg (by omega), pk_un (by omega), if_neg (by omega)]
theorem e_keep {b : KL} {bz : Int32} {bw bv : Nat → Int32} {sz : Int32} {w v : Nat → Int32} {dz : Int32} {dk dw dv ch : Nat → Int32} {nz : Int32} {P C Pf D Fr Ti : Nat → Int32} {md : Int32} {now past mch : Nat → Int32} (h : IX b bz bw bv sz w v dz dk dw dv ch nz P C Pf D Fr Ti md now past mch) {s0 : Int32} {k0 w0 v0 : Nat → Int32} {s1 : Int32} {k1 w1 v1 : Nat → Int32} {s2 : Int32} {k2 w2 v2 ik kp : Nat → Int32} (hK : KX b s0 k0 w0 v0 s1 k1 w1 v1 s2 k2 w2 v2 ik kp) (a : Int32) : ∃ rn rm, fX7_keep a dz s0 dk k0 dw w0 dv v0 s1 k1 w1 v1 s2 k2 w2 v2 = some rn ∧ fX8_keep a md now kp past ik = some rm ∧ rn.1 = rm.1 ∧ KX b rn.2.1 rn.2.2.1 rn.2.2.2.1 rn.2.2.2.2.1 rn.2.2.2.2.2.1 rn.2.2.2.2.2.2.1 rn.2.2.2.2.2.2.2.1 rn.2.2.2.2.2.2.2.2.1 rn.2.2.2.2.2.2.2.2.2.1 rn.2.2.2.2.2.2.2.2.2.2.1 rn.2.2.2.2.2.2.2.2.2.2.2.1 rn.2.2.2.2.2.2.2.2.2.2.2.2 rm.2.2 rm.2.1 := by
  obtain ⟨ds, ns, hh, hB, hC, hd, hN, hch, rfl, hM, hp⟩ := h
  obtain rfl : dz = nI ds.length := hd.1
  have h40 := hh.2.1
  obtain ⟨K0, K1, K2⟩ := hK
  have bad : (a < 0 ∨ nI 3 ≤ a) → fX8_keep a (nI ds.length) now kp past ik = some (-1, kp, ik) := fun z => by
    unfold fX8_keep fX8_isPlace
    rw [show (2 : Int64) = (2 : Int32).toInt64 by decide, inr_f (cnt := 3) (m := 2) (by omega) (by omega) rfl z, Option.bind_some, Option.bind_some, if_pos rfl]
  unfold fX7_keep
  rw [show (3 : Int32) = nI 3 from rfl]
  rcases pk_ix a (n := 3) (by omega) with q | q | ⟨k, hk, rfl⟩
  · rw [if_pos q, bad (Or.inl q)]
    exact ⟨_, _, rfl, rfl, rfl, K0, K1, K2⟩
  · have q2 : ¬ a < nI 3 := fun z => (fa_of_lt z).2.1 q
    rw [if_neg q2, bad (Or.inr q)]
    by_cases c0 : a < 0
    · rw [if_pos c0]; exact ⟨_, _, rfl, rfl, rfl, K0, K1, K2⟩
    · rw [if_neg c0]; exact ⟨_, _, rfl, rfl, rfl, K0, K1, K2⟩
  · obtain ⟨rm, m1, m2, m3, m4⟩ := n_keep8 hh hM hp hk kp ik
    rw [if_neg (nI_pos (by omega)), if_pos (nI_lt hk (by omega)), m1]
    rcases (show k = 0 ∨ k = 1 ∨ k = 2 by omega) with rfl | rfl | rfl
    · obtain ⟨rb, b1, b2⟩ := n_become0 h40 hd k0 w0 v0
      rw [if_pos (by decide), b1, Option.bind_some]
      exact ⟨_, _, rfl, rfl, m2.symm, m3 _ _ _ _ b2, kptR_ext K1 (m4 1 (by omega)).1 (m4 1 (by omega)).2, kptR_ext K2 (m4 2 (by omega)).1 (m4 2 (by omega)).2⟩
    · obtain ⟨rb, b1, b2⟩ := n_become0 h40 hd k1 w1 v1
      rw [if_neg (by decide), if_pos (by decide), b1, Option.bind_some]
      exact ⟨_, _, rfl, rfl, m2.symm, kptR_ext K0 (m4 0 (by omega)).1 (m4 0 (by omega)).2, m3 _ _ _ _ b2, kptR_ext K2 (m4 2 (by omega)).1 (m4 2 (by omega)).2⟩
    · obtain ⟨rb, b1, b2⟩ := n_become0 h40 hd k2 w2 v2
      rw [if_neg (by decide), if_neg (by decide), if_pos (by decide), b1, Option.bind_some]
      exact ⟨_, _, rfl, rfl, m2.symm, kptR_ext K0 (m4 0 (by omega)).1 (m4 0 (by omega)).2, kptR_ext K1 (m4 1 (by omega)).1 (m4 1 (by omega)).2, m3 _ _ _ _ b2⟩
/-- the reference goes on from a kept index -/
theorem n_on8 {b : KL} {ds : List DD} {k : Nat} (hk : k < 3) {kp ik : Nat → Int32} (hh : hok b ds) (hi : ik k ≠ 0) (hl : kp (3978 * k + 97) = nI ds.length) (hM : keyM (krep b ds) (fun j => kp (3978 * k + j))) (hp : pastM b ds (fun j => kp (3978 * k + 98 + j))) (md fnd : Int32) (now past mch cn : Nat → Int32) : ∃ rm, fX8_on (nI k) md fnd ik kp now past mch cn = some rm ∧ rm.1 = nI ds.length ∧ rm.2.1 = nI ds.length ∧ rm.2.2.1 = fnd ∧ rm.2.2.2.2.2.2 = cn ∧ keyM (krep b ds) rm.2.2.2.1 ∧ pastM b ds rm.2.2.2.2.1 ∧ ∀ j, j < 4 → rm.2.2.2.2.2.1 j = 0 := by
  have h40 := hh.2.1
  have e0 : (3978 : Int32) * nI k = nI (3978 * k) := by rw [show (3978 : Int32) = nI 3978 from rfl, pk_mul]
  have e1 : nI (3978 * k) + (97 : Int32) = nI (3978 * k + 97) := nI_add (3978 * k) 97
  have hpl : fX8_isPlace (nI k) = some 1 := by
    unfold fX8_isPlace
    rw [show (2 : Int64) = (2 : Int32).toInt64 by decide, inr_t (cnt := 3) (m := 2) (by omega) rfl hk]
    rfl
  have ea := n_copies (x1 := 3978 * k) (x3 := 0) (n := 97) (n0 := 11934) (n2 := 97) kp now (by omega) (by omega) (by omega) (by omega) (by omega)
  have ea' : fX8_copies (nI (3978 * k)) (0 : Int32) (97 : Int32) 11934 kp 97 now = _ := ea
  have eb := n_copies (x1 := 3978 * k + 98) (x3 := 0) (n := 3880) (n0 := 11934) (n2 := 3880) kp past (by omega) (by omega) (by omega) (by omega) (by omega)
  have eb' : fX8_copies (nI (3978 * k + 98)) (0 : Int32) (3880 : Int32) 11934 kp 3880 past = _ := eb
  obtain ⟨m', m1, m2⟩ := n_noch mch
  unfold fX8_on
  rw [hpl, Option.bind_some, if_neg (show ¬ (1 : Int32) = 0 by decide), gx_n hk (by omega), nI_clamp (show k < 2 ^ 31 by omega), if_neg hi, e0, ea', Option.bind_some, e1, gx_n (by omega) (by omega), gl_eq, nI_1, nI_clamp (by omega), hl, eb', Option.bind_some, m1, Option.bind_some]
  refine ⟨_, rfl, rfl, rfl, rfl, rfl, keyM_shift (hok_all hh) hM (fun j hj => ?_), fun i hi2 => keyM_shift (hok_good hh i (by omega)) (hp i hi2) (fun j hj => ?_), m2⟩
  · dsimp only
    rw [if_pos ⟨Nat.zero_le _, by omega⟩, Nat.sub_zero]
  · dsimp only
    rw [if_pos ⟨Nat.zero_le _, by omega⟩, Nat.sub_zero]
theorem e_on {b : KL} {bz : Int32} {bw bv : Nat → Int32} {sz : Int32} {w v : Nat → Int32} {dz : Int32} {dk dw dv ch : Nat → Int32} {nz : Int32} {P C Pf D Fr Ti : Nat → Int32} {md : Int32} {now past mch : Nat → Int32} (h : IX b bz bw bv sz w v dz dk dw dv ch nz P C Pf D Fr Ti md now past mch) {s0 : Int32} {k0 w0 v0 : Nat → Int32} {s1 : Int32} {k1 w1 v1 : Nat → Int32} {s2 : Int32} {k2 w2 v2 ik kp : Nat → Int32} (hK : KX b s0 k0 w0 v0 s1 k1 w1 v1 s2 k2 w2 v2 ik kp) (a fnd : Int32) (cn : Nat → Int32) : ∃ rn rm, fX7_on a fnd s0 dz k0 dk w0 dw v0 dv bz sz bw w bv v nz P Pf D Fr Ti C ch cn s1 k1 w1 v1 s2 k2 w2 v2 = some rn ∧ fX8_on a md fnd ik kp now past mch cn = some rm ∧ rn.1 = rm.1 ∧ rn.2.1 = rm.2.2.1 ∧ rn.2.2.2.2.2.2.2.2.2.2.2.2.2.2.2.2.2 = rm.2.2.2.2.2.2 ∧ IX b bz bw bv rn.2.2.2.2.2.2.1 rn.2.2.2.2.2.2.2.1 rn.2.2.2.2.2.2.2.2.1 rn.2.2.1 rn.2.2.2.1 rn.2.2.2.2.1 rn.2.2.2.2.2.1 rn.2.2.2.2.2.2.2.2.2.2.2.2.2.2.2.2.1 rn.2.2.2.2.2.2.2.2.2.1 rn.2.2.2.2.2.2.2.2.2.2.1 rn.2.2.2.2.2.2.2.2.2.2.2.2.2.2.2.1 rn.2.2.2.2.2.2.2.2.2.2.2.1 rn.2.2.2.2.2.2.2.2.2.2.2.2.1 rn.2.2.2.2.2.2.2.2.2.2.2.2.2.1 rn.2.2.2.2.2.2.2.2.2.2.2.2.2.2.1 rm.2.1 rm.2.2.2.1 rm.2.2.2.2.1 rm.2.2.2.2.2.1 := by
  obtain ⟨ds, ns, hh, hB, hC, hd, hN, hch, rfl, hM, hp⟩ := h
  have hI : IX b bz bw bv sz w v dz dk dw dv ch nz P C Pf D Fr Ti (nI ds.length) now past mch := ⟨ds, ns, hh, hB, hC, hd, hN, hch, rfl, hM, hp⟩
  obtain ⟨K0, K1, K2⟩ := hK
  have f1 : fX8_found (1 : Int32) cn = some (-3, nI 1, upd cn 1 (cn 1 + 1)) := (n_refuse (k := 1) (by omega) (by omega) cn).2
  have g1 : fX7_refuse (1 : Int32) cn = some (-3, nI 1, upd cn 1 (cn 1 + 1)) := (n_refuse (k := 1) (by omega) (by omega) cn).1
  have bad : (a < 0 ∨ nI 3 ≤ a) → fX8_on a (nI ds.length) fnd ik kp now past mch cn = some (-1, nI ds.length, fnd, now, past, mch, cn) := fun z => by
    unfold fX8_on fX8_isPlace
    rw [show (2 : Int64) = (2 : Int32).toInt64 by decide, inr_f (cnt := 3) (m := 2) (by omega) (by omega) rfl z, Option.bind_some, Option.bind_some, if_pos rfl]
  have none8 : ∀ k, k < 3 → ik k = 0 → fX8_on (nI k) (nI ds.length) fnd ik kp now past mch cn = some (-3, nI ds.length, nI 1, now, past, mch, upd cn 1 (cn 1 + 1)) := fun k hk z => by
    unfold fX8_on fX8_isPlace
    rw [show (2 : Int64) = (2 : Int32).toInt64 by decide, inr_t (cnt := 3) (m := 2) (by omega) rfl hk, Option.bind_some, Option.bind_some, if_neg (show ¬ (1 : Int32) = 0 by decide), gx_n hk (by omega), nI_clamp (by omega), if_pos z, f1, Option.bind_some]
  have done : ∀ k (s : Int32) (kk kw kv : Nat → Int32), k < 3 → ∀ dsk, hok b dsk → dC dsk s kk kw kv → ik k ≠ 0 → kp (3978 * k + 97) = nI dsk.length → keyM (krep b dsk) (fun j => kp (3978 * k + j)) → pastM b dsk (fun j => kp (3978 * k + 98 + j)) → ∃ (rb : Int32 × (Nat → Int32) × (Nat → Int32) × (Nat → Int32)) (sz' : Int32) (w' v' : Nat → Int32) (r' : NT) (c' : Nat → Int32) (rm : Int32 × Int32 × Int32 × (Nat → Int32) × (Nat → Int32) × (Nat → Int32) × (Nat → Int32)), fX0_become s kk dk kw dw kv dv = some rb ∧ fX7_replayDeeds bz bw w bv v rb.1 rb.2.1 rb.2.2.1 rb.2.2.2 P Pf D Fr Ti C ch = some (sz', w', v', r'.1, r'.2.1, r'.2.2.1, r'.2.2.2.1, r'.2.2.2.2.1, r'.2.2.2.2.2.1, r'.2.2.2.2.2.2, c') ∧ fX8_on (nI k) (nI ds.length) fnd ik kp now past mch cn = some rm ∧ rb.1 = rm.1 ∧ rm.2.2.1 = fnd ∧ rm.2.2.2.2.2.2 = cn ∧ IX b bz bw bv sz' w' v' rb.1 rb.2.1 rb.2.2.1 rb.2.2.2 c' r'.1 r'.2.1 r'.2.2.2.2.2.2 r'.2.2.1 r'.2.2.2.1 r'.2.2.2.2.1 r'.2.2.2.2.2.1 rm.2.1 rm.2.2.2.1 rm.2.2.2.2.1 rm.2.2.2.2.2.1 := fun k s kk kw kv hk dsk h1 h2 h3 h4 h5 h6 => by
    obtain ⟨rb, b1, b2⟩ := n_become0 h1.2.1 h2 dk dw dv
    obtain ⟨sz', w', v', r', ns', c', q1, q2, q3, q4⟩ := n_replayD h1 hB b2 w v P Pf D Fr Ti C ch
    obtain ⟨rm, m1, m2, m3, m4, m5, m6, m7, m8⟩ := n_on8 hk h1 h3 h4 h5 h6 (nI ds.length) fnd now past mch cn
    exact ⟨rb, sz', w', v', r', c', rm, b1, q1, m1, b2.1.trans m2.symm, m4, m5, dsk, ns', h1, hB, q2, b2, q3, fun j hj => (q4 j hj).trans (m8 j hj).symm, m3, m6, m7⟩
  have ne1 : ∀ (n : Nat), n ≤ 40 → ¬ nI n = (-1 : Int32) := fun n hn => nI_nm1 (by omega)
  unfold fX7_on
  rw [show (3 : Int32) = nI 3 from rfl]
  rcases pk_ix a (n := 3) (by omega) with q | q | ⟨k, hk, rfl⟩
  · rw [if_pos q, bad (Or.inl q)]
    exact ⟨_, _, rfl, rfl, rfl, rfl, rfl, hI⟩
  · have q2 : ¬ a < nI 3 := fun z => (fa_of_lt z).2.1 q
    rw [if_neg q2, bad (Or.inr q)]
    by_cases c0 : a < 0
    · rw [if_pos c0]; exact ⟨_, _, rfl, rfl, rfl, rfl, rfl, hI⟩
    · rw [if_neg c0]; exact ⟨_, _, rfl, rfl, rfl, rfl, rfl, hI⟩
  · rw [if_neg (nI_pos (by omega)), if_pos (nI_lt hk (by omega))]
    rcases (show k = 0 ∨ k = 1 ∨ k = 2 by omega) with rfl | rfl | rfl
    · rw [if_pos (by decide)]
      rcases K0 with ⟨z1, z2⟩ | ⟨dsk, h1, h2, h3, h4, h5, h6⟩
      · rw [if_pos z1, g1, Option.bind_some, none8 0 (by omega) z2]
        exact ⟨_, _, rfl, rfl, rfl, rfl, rfl, hI⟩
      · obtain ⟨rb, sz', w', v', r', c', rm, d1, d2, d3, d4, d5, d6, d7⟩ := done 0 s0 k0 w0 v0 (by omega) dsk h1 h2 h3 h4 h5 h6
        rw [if_neg (show ¬ s0 = -1 by rw [h2.1]; exact ne1 _ h1.2.1), if_pos (by decide), d1, Option.bind_some, d2, Option.bind_some, d3]
        exact ⟨_, _, rfl, rfl, d4, d5.symm, d6.symm, d7⟩
    · rw [if_neg (by decide), if_pos (by decide)]
      rcases K1 with ⟨z1, z2⟩ | ⟨dsk, h1, h2, h3, h4, h5, h6⟩
      · rw [if_pos z1, g1, Option.bind_some, none8 1 (by omega) z2]
        exact ⟨_, _, rfl, rfl, rfl, rfl, rfl, hI⟩
      · obtain ⟨rb, sz', w', v', r', c', rm, d1, d2, d3, d4, d5, d6, d7⟩ := done 1 s1 k1 w1 v1 (by omega) dsk h1 h2 h3 h4 h5 h6
        rw [if_neg (show ¬ s1 = -1 by rw [h2.1]; exact ne1 _ h1.2.1), if_neg (by decide), if_pos (by decide), d1, Option.bind_some, d2, Option.bind_some, d3]
        exact ⟨_, _, rfl, rfl, d4, d5.symm, d6.symm, d7⟩
    · rw [if_neg (by decide), if_neg (by decide), if_pos (by decide)]
      rcases K2 with ⟨z1, z2⟩ | ⟨dsk, h1, h2, h3, h4, h5, h6⟩
      · rw [if_pos z1, g1, Option.bind_some, none8 2 (by omega) z2]
        exact ⟨_, _, rfl, rfl, rfl, rfl, rfl, hI⟩
      · obtain ⟨rb, sz', w', v', r', c', rm, d1, d2, d3, d4, d5, d6, d7⟩ := done 2 s2 k2 w2 v2 (by omega) dsk h1 h2 h3 h4 h5 h6
        rw [if_neg (show ¬ s2 = -1 by rw [h2.1]; exact ne1 _ h1.2.1), if_neg (by decide), if_neg (by decide), if_pos (by decide), d1, Option.bind_some, d2, Option.bind_some, d3]
        exact ⟨_, _, rfl, rfl, d4, d5.symm, d6.symm, d7⟩
