/-! the index, on both sides -/
def pastM (b : KL) (ds : List DD) (past : Nat → Int32) : Prop := ∀ i, i < ds.length → keyM (krep b (ds.take i)) (fun j => past (97 * i + j))
def IX (b : KL) (bz : Int32) (bw bv : Nat → Int32) (sz : Int32) (w v : Nat → Int32) (dz : Int32) (dk dw dv : Nat → Int32) (ch : Nat → Int32) (nz : Int32) (P C Pf D Fr Ti : Nat → Int32) (md : Int32) (now past mch : Nat → Int32) : Prop :=
  ∃ (ds : List DD) (ns : List Nat), hok b ds ∧ keyC b bz bw bv ∧ keyC (krep b ds) sz w v ∧ dC ds dz dk dw dv ∧ nodesC (krep b ds) ns (nz, P, Pf, D, Fr, Ti, C) ∧ (∀ k, k < 4 → ch k = mch k) ∧ md = nI ds.length ∧ keyM (krep b ds) now ∧ pastM b ds past
theorem n_notes {n : Nat} (hn : n < 40) (now past : Nat → Int32) : fX8_notes (nI n) now past = some (nI (n + 1), fun j => if 97 * n ≤ j ∧ j < 97 * n + 97 then now (0 + (j - 97 * n)) else past j) := by
  have e0 : (97 : Int32) * nI n = nI (97 * n) := by rw [show (97 : Int32) = nI 97 from rfl, pk_mul]
  have ea := n_copies (x1 := 0) (x3 := 97 * n) (n := 97) (n0 := 97) (n2 := 3880) now past (by omega) (by omega) (by omega) (by omega) (by omega)
  have ea' : fX8_copies (0 : Int32) (nI (97 * n)) (97 : Int32) 97 now 3880 past = _ := ea
  unfold fX8_notes
  rw [e0, ea', Option.bind_some, gl_eq, nI_1]
theorem pastM_snoc {b : KL} {ds : List DD} {now past : Nat → Int32} (hh : hok b ds) (hM : keyM (krep b ds) now) (hp : pastM b ds past) (d : DD) : pastM b (ds ++ [d]) (fun j => if 97 * ds.length ≤ j ∧ j < 97 * ds.length + 97 then now (0 + (j - 97 * ds.length)) else past j) := by
  intro i hi
  rw [List.length_append] at hi
  simp at hi
  rcases Nat.lt_or_ge i ds.length with q | q
  · rw [List.take_append_of_le_length (by omega)]
    refine keyM_shift (hok_good hh i (by omega)) (hp i q) (fun j hj => ?_)
    dsimp only
    rw [if_neg (by omega)]
  · have e : i = ds.length := by omega
    subst e
    rw [List.take_append_of_le_length (Nat.le_refl _), List.take_length]
    refine keyM_shift (hok_all hh) hM (fun j hj => ?_)
    dsimp only
    rw [if_pos ⟨by omega, by omega⟩]
    exact congrArg now (by omega)
theorem pastM_last {b : KL} {ds : List DD} {now past : Nat → Int32} (hh : hok b ds) (hM : keyM (krep b ds) now) : keyM (krep b ds) (fun j => (fun j => if 97 * ds.length ≤ j ∧ j < 97 * ds.length + 97 then now (0 + (j - 97 * ds.length)) else past j) (97 * ds.length + j)) := by
  refine keyM_shift (hok_all hh) hM (fun j hj => ?_)
  dsimp only
  rw [if_pos ⟨by omega, by omega⟩]
  exact congrArg now (by omega)
/-- a deed, on both sides -/
theorem n_deed {b : KL} {bz : Int32} {bw bv : Nat → Int32} {sz : Int32} {w v : Nat → Int32} {dz : Int32} {dk dw dv ch : Nat → Int32} {nz : Int32} {P C Pf D Fr Ti : Nat → Int32} {now past : Nat → Int32} {ds : List DD} {ns : List Nat} (hh : hok b ds) (hB : keyC b bz bw bv) (hC : keyC (krep b ds) sz w v) (hd : dC ds dz dk dw dv) (hN : nodesC (krep b ds) ns (nz, P, Pf, D, Fr, Ti, C)) (hM : keyM (krep b ds) now) (hp : pastM b ds past) (hlt : ds.length < 40) {d : DD} (hok' : dok d (krep b ds)) {now' : Nat → Int32} (hM' : keyM (kap d (krep b ds)) now') (fP fPf fD fFr fTi fC as mch mp hdp : Nat → Int32) : ∃ (dz' : Int32) (dk' dw' dv' : Nat → Int32) (sz' : Int32) (w' v' : Nat → Int32) (r' : NT) (c' : Nat → Int32) (rp : Int32 × (Nat → Int32)) (rc : Int32 × Int32 × (Nat → Int32) × (Nat → Int32) × (Nat → Int32) × (Nat → Int32)), fX7_doDeed (nI d.1) (nI d.2.1) (nI d.2.2) dz dk dw dv sz w v fP fPf fD fFr fTi fC ch nz P C = some (dz', dk', dw', dv', sz', w', v', r'.1, r'.2.1, r'.2.2.1, r'.2.2.2.1, r'.2.2.2.2.1, r'.2.2.2.2.2.1, r'.2.2.2.2.2.2, c') ∧ fX8_notes (nI ds.length) now past = some rp ∧ fX8_changed rp.1 rp.2 as mch mp hdp now' = some rc ∧ IX b bz bw bv sz' w' v' dz' dk' dw' dv' c' r'.1 r'.2.1 r'.2.2.2.2.2.2 r'.2.2.1 r'.2.2.2.1 r'.2.2.2.2.1 r'.2.2.2.2.2.1 rp.1 now' rp.2 rc.2.2.2.1 := by
  have hg := hok_all hh
  have hg' := kap_good hg hok'
  obtain ⟨ra, a1, a2⟩ := n_add hd hlt d
  obtain ⟨rk, k1, k2⟩ := n_apply6 hC hg hok'
  obtain ⟨r', ns', b1, b2⟩ := n_build k2 hg' fP fPf fD fFr fTi fC
  obtain ⟨c', t1, t2⟩ := n_tell hg hg' hN b2 ch
  have t1' : fX3_tellChanges 4 ch r'.1 r'.2.1 nz P C r'.2.2.2.2.2.2 = some c' := t1
  obtain ⟨rc, x1, x2⟩ := n_changed (past := fun j => if 97 * ds.length ≤ j ∧ j < 97 * ds.length + 97 then now (0 + (j - 97 * ds.length)) else past j) hlt (pastM_last (past := past) hh hM) hM' hg hg' as mch mp hdp
  refine ⟨ra.1, ra.2.1, ra.2.2.1, ra.2.2.2, rk.1, rk.2.1, rk.2.2, r', c', _, rc, ?_, n_notes hlt now past, x1, ds ++ [d], ns', hok_snoc hh hlt hok', hB, ?_, a2, ?_, chR_eq t2 x2, ?_, ?_, pastM_snoc hh hM hp d⟩
  · unfold fX7_doDeed
    rw [a1, Option.bind_some, k1, Option.bind_some, b1, Option.bind_some, t1', Option.bind_some]
  · rw [krep_snoc]; exact k2
  · rw [krep_snoc]; exact b2
  · rw [List.length_append]; rfl
  · rw [krep_snoc]; exact hM'
theorem e_enter {b : KL} {bz : Int32} {bw bv : Nat → Int32} {sz : Int32} {w v : Nat → Int32} {dz : Int32} {dk dw dv ch : Nat → Int32} {nz : Int32} {P C Pf D Fr Ti : Nat → Int32} {md : Int32} {now past mch : Nat → Int32} (h : IX b bz bw bv sz w v dz dk dw dv ch nz P C Pf D Fr Ti md now past mch) (a1 a2 a3 fz mn mh : Int32) (fP fPf fD fFr fTi fC as mp hdp : Nat → Int32) : ∃ rn rm, fX7_enter a1 a2 a3 dz sz w v dk dw dv fz fP fPf fD fFr fTi fC ch nz P C = some rn ∧ fX8_enter a1 a2 a3 md mn mh now past as mch mp hdp = some rm ∧ rn.1 = rm.1 ∧ (rn.2.2.2.2.2.2.2.2.2.2.2.2.2.2.2.2 = true → IX b bz bw bv rn.2.2.1 rn.2.2.2.1 rn.2.2.2.2.1 rn.2.1 rn.2.2.2.2.2.1 rn.2.2.2.2.2.2.1 rn.2.2.2.2.2.2.2.1 rn.2.2.2.2.2.2.2.2.2.2.2.2.2.2.2.1 rn.2.2.2.2.2.2.2.2.1 rn.2.2.2.2.2.2.2.2.2.1 rn.2.2.2.2.2.2.2.2.2.2.2.2.2.2.1 rn.2.2.2.2.2.2.2.2.2.2.1 rn.2.2.2.2.2.2.2.2.2.2.2.1 rn.2.2.2.2.2.2.2.2.2.2.2.2.1 rn.2.2.2.2.2.2.2.2.2.2.2.2.2.1 rm.2.1 rm.2.2.2.2.1 rm.2.2.2.2.2.1 rm.2.2.2.2.2.2.2.1) ∧ (rn.2.2.2.2.2.2.2.2.2.2.2.2.2.2.2.2 = false → IX b bz bw bv rn.2.2.1 rn.2.2.2.1 rn.2.2.2.2.1 rn.2.1 rn.2.2.2.2.2.1 rn.2.2.2.2.2.2.1 rn.2.2.2.2.2.2.2.1 rn.2.2.2.2.2.2.2.2.2.2.2.2.2.2.2.1 nz P C Pf D Fr Ti rm.2.1 rm.2.2.2.2.1 rm.2.2.2.2.2.1 rm.2.2.2.2.2.2.2.1) := by
  have hI := h
  obtain ⟨ds, ns, hh, hB, hC, hd, hN, hch, rfl, hM, hp⟩ := h
  have hg := hok_all hh
  have h48 := hg.1
  have h40 := hh.2.1
  unfold fX7_enter fX8_enter
  rw [show (999 : Int64) = (999 : Int32).toInt64 by decide, show (0 : Int64) = (0 : Int32).toInt64 by decide]
  rcases n_word a1 a2 with ⟨v', n', ⟨h1, h2, h3, rfl, rfl⟩, e1, e2⟩ | ⟨e1, e2⟩
  · have hW := wmk_ok h2 h3
    have hx := wok_lt hW
    rw [e1, e2, Option.bind_some, Option.bind_some, if_neg (show ¬ (1 : Int32) = 0 by decide), if_neg (show ¬ (1 : Int32) = 0 by decide)]
    by_cases c0 : a3 < 0
    · rw [if_pos c0, in_f (fun z => (fa_of_lt c0).2.1 z.1), Option.bind_some, if_pos (show (0 : Int32) = 0 from rfl)]
      exact ⟨_, _, rfl, rfl, rfl, fun z => (by cases z), fun _ => hI⟩
    · rw [if_neg c0]
      by_cases c9 : a3 ≤ 999
      · obtain ⟨y, hy, rfl⟩ := nI_of2 (M := 999) (n := 999) rfl c0 c9
        rw [if_pos c9, in_t ⟨fa_of_nlt c0, c9⟩, Option.bind_some, if_neg (show ¬ (1 : Int32) = 0 by decide), n_pack6 h2 h3, Option.bind_some, n_word8 h2 h3, Option.bind_some, n_place8 hM hg (x := wmk v' n') (by omega), Option.bind_some]
        by_cases c4 : ds.length = 40
        · rw [if_pos (show (40 : Int32) ≤ dz by rw [hd.1, c4]; decide), if_pos (show nI ds.length = (40 : Int32) by rw [c4]; rfl)]
          exact ⟨_, _, rfl, rfl, rfl, fun z => (by cases z), fun _ => hI⟩
        · rw [if_neg (show ¬ (40 : Int32) ≤ dz by rw [hd.1]; exact nI_ge (b := 40) (by omega) (by omega)), if_neg (show ¬ nI ds.length = (40 : Int32) from fun z => c4 ((nI_eq (b := 40) (by omega) (by omega)).mp z)), n_room6 hC hg (x := wmk v' n') (by omega), Option.bind_some]
          by_cases cr : (krep b ds).length < 48 ∨ kH (krep b ds) (wmk v' n')
          · have hdk : dok (1, wmk v' n', y) (krep b ds) := ⟨by show 1 ≤ 3; omega, hW, by show 1 ≤ wmk v' n' % 8; rw [wmk_len h2]; exact h1, hy, fun _ => cr⟩
            obtain ⟨t', i1, i2⟩ := n_ins8 (y := y) hM hg hx cr
            have i2' : keyM (kap (1, wmk v' n', y) (krep b ds)) t' := i2
            obtain ⟨dz', dk', dw', dv', sz', w'', v'', r', c', rp, rc, q1, q2, q3, q4⟩ := n_deed (nz := nz) (ch := ch) hh hB hC hd hN hM hp (by omega) hdk i2' fP fPf fD fFr fTi fC as mch mp hdp
            have q1' : fX7_doDeed (1 : Int32) (nI (wmk v' n')) (nI y) dz dk dw dv sz w v fP fPf fD fFr fTi fC ch nz P C = _ := q1
            have hJ : ∀ q32 was, (if q32 = (-9 : Int32) then (some (-9 : Int32)) else (gx ((49 : Int32) + q32) 97 (some (now (((49 : Int32) + q32)).toNatClampNeg)))) = some was → fX8_enter_J67 q32 now (nI ds.length) past (nI v') (nI n') (nI y) as mch mp hdp = some (was, rp.1, rc.1, rc.2.1, t', rp.2, rc.2.2.1, rc.2.2.2.1, rc.2.2.2.2.1, rc.2.2.2.2.2) := fun q32 was hw => by
              unfold fX8_enter_J67
              rw [hw, Option.bind_some, q2, Option.bind_some, n_word8 h2 h3, Option.bind_some, i1, Option.bind_some, q3, Option.bind_some]
            rw [if_pos cr, if_neg (show ¬ (1 : Int32) = 0 by decide), n_valueOf6 hC hg (x := wmk v' n') (by omega), Option.bind_some, q1', Option.bind_some]
            by_cases cH : kH (krep b ds) (wmk v' n')
            · have hlt := cH.1
              rw [if_pos cH, if_pos cH, if_neg (nI_ne9 (by omega)), hJ _ (nI (kV (krep b ds) (ah (wmk v' n') (krep b ds)))) (by rw [if_neg (nI_ne9 (by omega)), n_49p, gx_n (by omega) (by omega), nI_clamp (by omega), hM.2.2 _ hlt])]
              exact ⟨_, _, rfl, rfl, rfl, fun _ => q4, fun z => by cases z⟩
            · have hlt : (krep b ds).length < 48 := cr.resolve_right cH
              rw [if_neg cH, if_neg cH, if_pos (show (-9 : Int32) = -9 from rfl), gx_0 (by omega) (by omega), cl_0, hM.1, if_neg (show ¬ nI (krep b ds).length = (48 : Int32) from fun z => by have := (nI_eq (b := 48) (by omega) (by omega)).mp z; omega), hJ _ (-9) (if_pos rfl)]
              exact ⟨_, _, rfl, rfl, rfl, fun _ => q4, fun z => by cases z⟩
          · have cH : ¬ kH (krep b ds) (wmk v' n') := fun z => cr (Or.inr z)
            have cl : (krep b ds).length = 48 := by
              rcases Nat.lt_or_ge (krep b ds).length 48 with z | z
              · exact absurd (Or.inl z) cr
              · omega
            rw [if_neg cr, if_pos (show (0 : Int32) = 0 from rfl), if_neg cH, if_pos (show (-9 : Int32) = -9 from rfl), gx_0 (by omega) (by omega), cl_0, hM.1, if_pos (show nI (krep b ds).length = (48 : Int32) by rw [cl]; rfl)]
            exact ⟨_, _, rfl, rfl, rfl, fun z => (by cases z), fun _ => hI⟩
      · rw [if_neg c9, in_f (fun z => c9 z.2), Option.bind_some, if_pos (show (0 : Int32) = 0 from rfl)]
        exact ⟨_, _, rfl, rfl, rfl, fun z => (by cases z), fun _ => hI⟩
  · rw [e1, e2, Option.bind_some, Option.bind_some, if_pos rfl, if_pos rfl]
    exact ⟨_, _, rfl, rfl, rfl, fun z => (by cases z), fun _ => hI⟩
theorem e_take {b : KL} {bz : Int32} {bw bv : Nat → Int32} {sz : Int32} {w v : Nat → Int32} {dz : Int32} {dk dw dv ch : Nat → Int32} {nz : Int32} {P C Pf D Fr Ti : Nat → Int32} {md : Int32} {now past mch : Nat → Int32} (h : IX b bz bw bv sz w v dz dk dw dv ch nz P C Pf D Fr Ti md now past mch) (a1 a2 fz mn mh : Int32) (fP fPf fD fFr fTi fC as mp hdp : Nat → Int32) : ∃ rn rm, fX7_take a1 a2 sz w dz v dk dw dv fz fP fPf fD fFr fTi fC ch nz P C = some rn ∧ fX8_take a1 a2 md mn mh now past as mch mp hdp = some rm ∧ rn.1 = rm.1 ∧ (rn.2.2.2.2.2.2.2.2.2.2.2.2.2.2.2.2 = true → IX b bz bw bv rn.2.1 rn.2.2.1 rn.2.2.2.2.1 rn.2.2.2.1 rn.2.2.2.2.2.1 rn.2.2.2.2.2.2.1 rn.2.2.2.2.2.2.2.1 rn.2.2.2.2.2.2.2.2.2.2.2.2.2.2.2.1 rn.2.2.2.2.2.2.2.2.1 rn.2.2.2.2.2.2.2.2.2.1 rn.2.2.2.2.2.2.2.2.2.2.2.2.2.2.1 rn.2.2.2.2.2.2.2.2.2.2.1 rn.2.2.2.2.2.2.2.2.2.2.2.1 rn.2.2.2.2.2.2.2.2.2.2.2.2.1 rn.2.2.2.2.2.2.2.2.2.2.2.2.2.1 rm.2.1 rm.2.2.2.2.1 rm.2.2.2.2.2.1 rm.2.2.2.2.2.2.2.1) ∧ (rn.2.2.2.2.2.2.2.2.2.2.2.2.2.2.2.2 = false → IX b bz bw bv rn.2.1 rn.2.2.1 rn.2.2.2.2.1 rn.2.2.2.1 rn.2.2.2.2.2.1 rn.2.2.2.2.2.2.1 rn.2.2.2.2.2.2.2.1 rn.2.2.2.2.2.2.2.2.2.2.2.2.2.2.2.1 nz P C Pf D Fr Ti rm.2.1 rm.2.2.2.2.1 rm.2.2.2.2.2.1 rm.2.2.2.2.2.2.2.1) := by
  have hI := h
  obtain ⟨ds, ns, hh, hB, hC, hd, hN, hch, rfl, hM, hp⟩ := h
  have hg := hok_all hh
  have h48 := hg.1
  have h40 := hh.2.1
  unfold fX7_take fX8_take
  rcases n_word a1 a2 with ⟨v', n', ⟨h1, h2, h3, rfl, rfl⟩, e1, e2⟩ | ⟨e1, e2⟩
  · have hW := wmk_ok h2 h3
    have hx := wok_lt hW
    rw [e1, e2, Option.bind_some, Option.bind_some, if_neg (show ¬ (1 : Int32) = 0 by decide), if_neg (show ¬ (1 : Int32) = 0 by decide), n_pack6 h2 h3, Option.bind_some, n_has6 hC hg (x := wmk v' n') (by omega), Option.bind_some, n_word8 h2 h3, Option.bind_some, n_place8 hM hg (x := wmk v' n') (by omega), Option.bind_some]
    by_cases cH : kH (krep b ds) (wmk v' n')
    · have hlt := cH.1
      rw [if_pos cH, if_neg (show ¬ (1 : Int32) = 0 by decide), if_pos cH, if_neg (nI_ne9 (by omega))]
      by_cases c4 : ds.length = 40
      · rw [if_neg (show ¬ dz < (40 : Int32) by rw [hd.1, c4]; decide), if_pos (show nI ds.length = (40 : Int32) by rw [c4]; rfl)]
        exact ⟨_, _, rfl, rfl, rfl, fun z => (by cases z), fun _ => hI⟩
      · have hdk : dok (2, wmk v' n', 0) (krep b ds) := ⟨by show 2 ≤ 3; omega, hW, by show 1 ≤ wmk v' n' % 8; rw [wmk_len h2]; exact h1, by show 0 ≤ 999; omega, fun z => by cases z⟩
        obtain ⟨t', i1, i2⟩ := n_del8 hM hg hlt
        have i2' : keyM (kap (2, wmk v' n', 0) (krep b ds)) t' := by
          have e : kap (2, wmk v' n', 0) (krep b ds) = kdel (krep b ds) (ah (wmk v' n') (krep b ds)) (if kH (krep b ds) (wmk v' n') then 1 else 0) := rfl
          rw [e, if_pos cH]; exact i2
        obtain ⟨dz', dk', dw', dv', sz', w'', v'', r', c', rp, rc, q1, q2, q3, q4⟩ := n_deed (nz := nz) (ch := ch) hh hB hC hd hN hM hp (by omega) hdk i2' fP fPf fD fFr fTi fC as mch mp hdp
        have q1' : fX7_doDeed (2 : Int32) (nI (wmk v' n')) (0 : Int32) dz dk dw dv sz w v fP fPf fD fFr fTi fC ch nz P C = _ := q1
        rw [if_pos (show dz < (40 : Int32) by rw [hd.1]; exact nI_lt (b := 40) (by omega) (by omega)), if_neg (show ¬ nI ds.length = (40 : Int32) from fun z => c4 ((nI_eq (b := 40) (by omega) (by omega)).mp z)), n_valueOf6 hC hg (x := wmk v' n') (by omega), Option.bind_some, if_pos cH, q1', Option.bind_some, n_49p, gx_n (by omega) (by omega), gl_eq, nI_clamp (by omega), hM.2.2 _ hlt, q2, Option.bind_some, i1, Option.bind_some, q3, Option.bind_some]
        exact ⟨_, _, rfl, rfl, rfl, fun _ => q4, fun z => by cases z⟩
    · rw [if_neg cH, if_pos (show (0 : Int32) = 0 from rfl), if_neg cH, if_pos (show (-9 : Int32) = -9 from rfl)]
      exact ⟨_, _, rfl, rfl, rfl, fun z => (by cases z), fun _ => hI⟩
  · rw [e1, e2, Option.bind_some, Option.bind_some, if_pos rfl, if_pos rfl]
    exact ⟨_, _, rfl, rfl, rfl, fun z => (by cases z), fun _ => hI⟩
/-! all gone that begin so -/
theorem kdel_0 (l : KL) (p : Nat) : kdel l p 0 = l := by
  unfold kdel; rw [Nat.add_zero, List.take_append_drop]
theorem kdel_step {l : KL} {p m : Nat} (h : p + 1 + m ≤ l.length) : kdel (kdel l (p + 1) m) p 1 = kdel l p (m + 1) := by
  have l1 := kdel_len h
  have l2 := kdel_len (l := kdel l (p + 1) m) (p := p) (m := 1) (by omega)
  have l3 := kdel_len (l := l) (p := p) (m := m + 1) (by omega)
  refine kl_ext (by omega) (fun k hk => ?_) (fun k hk => ?_)
  · rw [kW_del 1 (by omega), kW_del (m + 1) (by omega)]
    by_cases c : k < p
    · rw [if_pos c, if_pos c, kW_del m (by omega), if_pos (by omega)]
    · rw [if_neg c, if_neg c, kW_del m (by omega), if_neg (by omega)]
      exact congrArg (kW l) (by omega)
  · rw [kV_del 1 (by omega), kV_del (m + 1) (by omega)]
    by_cases c : k < p
    · rw [if_pos c, if_pos c, kV_del m (by omega), if_pos (by omega)]
    · rw [if_neg c, if_neg c, kV_del m (by omega), if_neg (by omega)]
      exact congrArg (kV l) (by omega)
theorem n_strip_L {l : KL} (hg : kgood l) {q : Nat} (hq : wok q) : ∀ (i F s : Nat) (t : Nat → Int32), i ≤ l.length → i < F → ah q l ≤ s → s ≤ ah q l + kun l q → (i ≤ ah q l → s = ah q l) → (ah q l < i → i ≤ ah q l + kun l q → s = i) → (ah q l + kun l q < i → s = ah q l + kun l q) → keyM (kdel l s (ah q l + kun l q - s)) t → ∃ t', fX8_strip_L61 (nI q) F (nI i - (1 : Int32)) t = some t' ∧ keyM (kdel l (ah q l) (kun l q)) t'
  | i, 0, s, t, _, hF, _, _, _, _, _, _ => absurd hF (Nat.not_lt_zero i)
  | 0, F + 1, s, t, hi, hF, s1, s2, s3, s4, s5, hM => by
    rw [fX8_strip_L61, if_pos (show nI 0 - (1 : Int32) < 0 by decide)]
    refine ⟨t, rfl, ?_⟩
    rw [s3 (Nat.zero_le _), Nat.add_sub_cancel_left] at hM
    exact hM
  | i + 1, F + 1, s, t, hi, hF, s1, s2, s3, s4, s5, hM => by
    have h48 := hg.1
    have hle := kun_le hg hq
    have kin := kun_in hg hq (show i < l.length by omega)
    have hlen := kdel_len (l := l) (p := s) (m := ah q l + kun l q - s) (by omega)
    have hgs := kdel_good (p := s) (m := ah q l + kun l q - s) hg (by omega)
    have eg : nI i + (-1) = nI i - (1 : Int32) := by rw [Int32.sub_eq_add_neg]
    have hil : i < (kdel l s (ah q l + kun l q - s)).length := by
      rw [hlen]
      rcases Nat.lt_or_ge (ah q l + kun l q) (i + 1) with z | z
      · have := s5 z; omega
      · omega
    have ew : kW (kdel l s (ah q l + kun l q - s)) i = kW l i := by
      rw [kW_del _ (by omega)]
      rcases Nat.lt_or_ge i s with z | z
      · rw [if_pos z]
      · rw [if_neg (by omega)]
        rcases Nat.lt_or_ge (ah q l + kun l q) (i + 1) with y | y
        · have := s5 y; exact congrArg (kW l) (by omega)
        · rcases Nat.lt_or_ge (ah q l) (i + 1) with x | x
          · have := s4 x y; omega
          · have := s3 x; omega
    rw [fX8_strip_L61, nI_pred, if_neg (nI_pos (by omega)), n_1p, gx_n (by omega) (by omega), nI_clamp (by omega), hM.2.1 i hil, ew, n_begins hq (hg.ok (by omega)), Option.bind_some]
    by_cases c : whead q (kW l i)
    · have hin := kin.mp c
      have es : s = i + 1 := s4 (by omega) (by omega)
      obtain ⟨t2, d1, d2⟩ := n_del8 hM hgs hil
      rw [if_pos c, if_neg (show ¬ (1 : Int32) = 0 by decide), d1, Option.bind_some, Option.bind_some, gl_eq, eg]
      refine n_strip_L hg hq i F i t2 (by omega) (by omega) (by omega) (by omega) (fun z => by omega) (fun _ _ => rfl) (fun z => by omega) ?_
      have e2 := kdel_step (l := l) (p := i) (m := ah q l + kun l q - (i + 1)) (by omega)
      rw [es, e2, show ah q l + kun l q - (i + 1) + 1 = ah q l + kun l q - i by omega] at d2
      exact d2
    · have hnin : ¬ (ah q l ≤ i ∧ i < ah q l + kun l q) := fun z => c (kin.mpr z)
      rw [if_neg c, if_pos (show (0 : Int32) = 0 from rfl), Option.bind_some, gl_eq, eg]
      refine n_strip_L hg hq i F s t (by omega) (by omega) s1 s2 (fun z => ?_) (fun z1 z2 => ?_) (fun z => ?_) hM
      · rcases Nat.lt_or_ge (ah q l) (i + 1) with x | x
        · have : kun l q = 0 := by omega
          rcases Nat.lt_or_ge (ah q l + kun l q) (i + 1) with y | y
          · have := s5 y; omega
          · omega
        · exact s3 x
      · have := s5 (by omega); omega
      · exact s5 (by omega)
theorem e_strip {b : KL} {bz : Int32} {bw bv : Nat → Int32} {sz : Int32} {w v : Nat → Int32} {dz : Int32} {dk dw dv ch : Nat → Int32} {nz : Int32} {P C Pf D Fr Ti : Nat → Int32} {md : Int32} {now past mch : Nat → Int32} (h : IX b bz bw bv sz w v dz dk dw dv ch nz P C Pf D Fr Ti md now past mch) (a1 a2 fz mn mh : Int32) (fP fPf fD fFr fTi fC as mp hdp : Nat → Int32) : ∃ rn rm, fX7_strip a1 a2 sz w dz dk dw dv v fz fP fPf fD fFr fTi fC ch nz P C = some rn ∧ fX8_strip a1 a2 md mn mh now past as mch mp hdp = some rm ∧ rn.1 = rm.1 ∧ (rn.2.2.2.2.2.2.2.2.2.2.2.2.2.2.2.2 = true → IX b bz bw bv rn.2.1 rn.2.2.1 rn.2.2.2.2.2.2.2.1 rn.2.2.2.1 rn.2.2.2.2.1 rn.2.2.2.2.2.1 rn.2.2.2.2.2.2.1 rn.2.2.2.2.2.2.2.2.2.2.2.2.2.2.2.1 rn.2.2.2.2.2.2.2.2.1 rn.2.2.2.2.2.2.2.2.2.1 rn.2.2.2.2.2.2.2.2.2.2.2.2.2.2.1 rn.2.2.2.2.2.2.2.2.2.2.1 rn.2.2.2.2.2.2.2.2.2.2.2.1 rn.2.2.2.2.2.2.2.2.2.2.2.2.1 rn.2.2.2.2.2.2.2.2.2.2.2.2.2.1 rm.2.1 rm.2.2.2.2.1 rm.2.2.2.2.2.1 rm.2.2.2.2.2.2.2.1) ∧ (rn.2.2.2.2.2.2.2.2.2.2.2.2.2.2.2.2 = false → IX b bz bw bv rn.2.1 rn.2.2.1 rn.2.2.2.2.2.2.2.1 rn.2.2.2.1 rn.2.2.2.2.1 rn.2.2.2.2.2.1 rn.2.2.2.2.2.2.1 rn.2.2.2.2.2.2.2.2.2.2.2.2.2.2.2.1 nz P C Pf D Fr Ti rm.2.1 rm.2.2.2.2.1 rm.2.2.2.2.2.1 rm.2.2.2.2.2.2.2.1) := by
  have hI := h
  obtain ⟨ds, ns, hh, hB, hC, hd, hN, hch, rfl, hM, hp⟩ := h
  have hg := hok_all hh
  have h48 := hg.1
  have h40 := hh.2.1
  unfold fX7_strip fX8_strip
  rcases n_word a1 a2 with ⟨v', n', ⟨h1, h2, h3, rfl, rfl⟩, e1, e2⟩ | ⟨e1, e2⟩
  · have hW := wmk_ok h2 h3
    have hx := wok_lt hW
    have hku := kun_le hg hW
    rw [e1, e2, Option.bind_some, Option.bind_some, if_neg (show ¬ (1 : Int32) = 0 by decide), if_neg (show ¬ (1 : Int32) = 0 by decide), n_pack6 h2 h3, Option.bind_some, n_beg6 hC hg hW, Option.bind_some, n_word8 h2 h3, Option.bind_some, n_und8 hM hg hW, Option.bind_some]
    by_cases c0 : kun (krep b ds) (wmk v' n') = 0
    · rw [c0, if_pos nI_0, if_pos nI_0]
      exact ⟨_, _, rfl, rfl, rfl, fun z => (by cases z), fun _ => hI⟩
    · have hne := nI_ne0 (n := kun (krep b ds) (wmk v' n')) (by omega) (by omega)
      rw [if_neg hne, if_neg hne]
      by_cases c4 : ds.length = 40
      · rw [if_neg (show ¬ dz < (40 : Int32) by rw [hd.1, c4]; decide), if_pos (show nI ds.length = (40 : Int32) by rw [c4]; rfl)]
        exact ⟨_, _, rfl, rfl, rfl, fun z => (by cases z), fun _ => hI⟩
      · have hdk : dok (3, wmk v' n', 0) (krep b ds) := ⟨by show 3 ≤ 3; omega, hW, by show 1 ≤ wmk v' n' % 8; rw [wmk_len h2]; exact h1, by show 0 ≤ 999; omega, fun z => by cases z⟩
        obtain ⟨t', i1, i2⟩ := n_strip_L hg hW (krep b ds).length gF (ah (wmk v' n') (krep b ds) + kun (krep b ds) (wmk v' n')) now (Nat.le_refl _) (by unfold gF; omega) (by omega) (Nat.le_refl _) (fun z => by omega) (fun z1 z2 => by omega) (fun _ => rfl) (by rw [Nat.sub_self, kdel_0]; exact hM)
        have i2' : keyM (kap (3, wmk v' n', 0) (krep b ds)) t' := i2
        obtain ⟨dz', dk', dw', dv', sz', w'', v'', r', c', rp, rc, q1, q2, q3, q4⟩ := n_deed (nz := nz) (ch := ch) hh hB hC hd hN hM hp (by omega) hdk i2' fP fPf fD fFr fTi fC as mch mp hdp
        have q1' : fX7_doDeed (3 : Int32) (nI (wmk v' n')) (0 : Int32) dz dk dw dv sz w v fP fPf fD fFr fTi fC ch nz P C = _ := q1
        rw [if_pos (show dz < (40 : Int32) by rw [hd.1]; exact nI_lt (b := 40) (by omega) (by omega)), if_neg (show ¬ nI ds.length = (40 : Int32) from fun z => c4 ((nI_eq (b := 40) (by omega) (by omega)).mp z)), q1', Option.bind_some, q2, Option.bind_some, gx_0 (by omega) (by omega), gl_eq, cl_0, hM.1, i1, Option.bind_some, q3, Option.bind_some]
        exact ⟨_, _, rfl, rfl, rfl, fun _ => q4, fun z => by cases z⟩
  · rw [e1, e2, Option.bind_some, Option.bind_some, if_pos rfl, if_pos rfl]
    exact ⟨_, _, rfl, rfl, rfl, fun z => (by cases z), fun _ => hI⟩
