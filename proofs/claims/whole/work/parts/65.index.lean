/-! anew -/
def LX (rz : Int32) (rw : Nat → Int32) (ml : Int32) (mlw : Nat → Int32) : Prop := ∃ k, rz = nI k ∧ ml = nI k ∧ mlw = rw ∧ laR k rw
theorem n_ik_L : ∀ (m F i : Nat) (c : Nat → Int32), 3 - i = m → m < F → i ≤ 3 → (∀ k, k < i → c k = 0) → ∃ c', fX8_index_L64 F (nI i) c = some c' ∧ ∀ k, k < 3 → c' k = 0
  | m, 0, i, c, _, hF, _, _ => absurd hF (Nat.not_lt_zero m)
  | m, F + 1, i, c, hm, hF, hi, hk => by
    rw [fX8_index_L64, show (3 : Int32) = nI 3 from rfl]
    by_cases h : i < 3
    · rw [if_neg (nI_ge h (by omega)), gx_n h (by omega), gl_eq, nI_1, nI_clamp (by omega), vb_0]
      refine n_ik_L (m - 1) F (i + 1) _ (by omega) (by omega) h (fun k hk2 => ?_)
      by_cases e : k = i
      · rw [e, pk_us]
      · rw [pk_un e]; exact hk k (by omega)
    · rw [if_pos (nI_le (by omega) (by omega))]
      exact ⟨c, rfl, fun k h2 => hk k (by omega)⟩
theorem n_forget (a b c : Int32) : fX7_index_L60 gF (0 : Int32) a b c = some (-1, -1, -1) := by
  unfold gF
  rw [show (20000 : Nat) = 19996 + 1 + 1 + 1 + 1 from rfl, ← nI_0]
  rw [fX7_index_L60, if_neg (by decide), if_pos (by decide)]
  unfold fX0_forget
  rw [Option.bind_some, gl_eq, nI_1, fX7_index_L60, if_neg (by decide), if_neg (by decide), if_pos (by decide)]
  unfold fX0_forget
  rw [Option.bind_some, gl_eq, nI_1, fX7_index_L60, if_neg (by decide), if_neg (by decide), if_neg (by decide), if_pos (by decide)]
  unfold fX0_forget
  rw [Option.bind_some, gl_eq, nI_1, fX7_index_L60, if_pos (by decide)]

theorem e_index {b : KL} {bz : Int32} {bw bv : Nat → Int32} {sz : Int32} {w v : Nat → Int32} {dz : Int32} {dk dw dv ch : Nat → Int32} {nz : Int32} {P C Pf D Fr Ti : Nat → Int32} {md : Int32} {now past mch : Nat → Int32} (h : IX b bz bw bv sz w v dz dk dw dv ch nz P C Pf D Fr Ti md now past mch) {s0 : Int32} {k0 w0 v0 : Nat → Int32} {s1 : Int32} {k1 w1 v1 : Nat → Int32} {s2 : Int32} {k2 w2 v2 ik kp : Nat → Int32} (hK : KX b s0 k0 w0 v0 s1 k1 w1 v1 s2 k2 w2 v2 ik kp) {rz ml : Int32} {lw mlw : Nat → Int32} (hL : LX rz lw ml mlw) {ts mts mtt : Nat → Int32} {MT : Nat → Nat → Int32} (hT : shR 4 90 ts MT mts mtt) (a fnd rs rp ks nx : Int32) (cn sg kw kv rd : Nat → Int32) : ∃ rn rm, fX7_index a fnd ts cn rs rp sg MT ks kw kv bz bw bv dz s0 s1 s2 rz sz w v dk dw dv nz P Pf D Fr Ti C ch = some rn ∧ fX8_index a md ml fnd nx mts rd mtt now ik mch cn = some rm ∧ rn.1 = rm.1 ∧ rn.2.1 = rm.2.2.2.1 ∧ rn.2.2.1 = rm.2.2.2.2.2.2.2.2.2 ∧ LX rn.2.2.2.2.2.2.2.2.2.2.2.2.2.2.2.2.1 lw rm.2.2.1 mlw ∧ ∃ b', IX b' rn.2.2.2.2.2.2.2.2.2.1 rn.2.2.2.2.2.2.2.2.2.2.1 rn.2.2.2.2.2.2.2.2.2.2.2.1 rn.2.2.2.2.2.2.2.2.2.2.2.2.2.2.2.2.2.1 rn.2.2.2.2.2.2.2.2.2.2.2.2.2.2.2.2.2.2.1 rn.2.2.2.2.2.2.2.2.2.2.2.2.2.2.2.2.2.2.2.1 rn.2.2.2.2.2.2.2.2.2.2.2.2.1 dk dw dv rn.2.2.2.2.2.2.2.2.2.2.2.2.2.2.2.2.2.2.2.2.2.2.2.2.2.2.2 rn.2.2.2.2.2.2.2.2.2.2.2.2.2.2.2.2.2.2.2.2.1 rn.2.2.2.2.2.2.2.2.2.2.2.2.2.2.2.2.2.2.2.2.2.1 rn.2.2.2.2.2.2.2.2.2.2.2.2.2.2.2.2.2.2.2.2.2.2.2.2.2.2.1 rn.2.2.2.2.2.2.2.2.2.2.2.2.2.2.2.2.2.2.2.2.2.2.1 rn.2.2.2.2.2.2.2.2.2.2.2.2.2.2.2.2.2.2.2.2.2.2.2.1 rn.2.2.2.2.2.2.2.2.2.2.2.2.2.2.2.2.2.2.2.2.2.2.2.2.1 rn.2.2.2.2.2.2.2.2.2.2.2.2.2.2.2.2.2.2.2.2.2.2.2.2.2.1 rm.2.1 rm.2.2.2.2.2.2.1 past rm.2.2.2.2.2.2.2.2.1 ∧ KX b' rn.2.2.2.2.2.2.2.2.2.2.2.2.2.1 k0 w0 v0 rn.2.2.2.2.2.2.2.2.2.2.2.2.2.2.1 k1 w1 v1 rn.2.2.2.2.2.2.2.2.2.2.2.2.2.2.2.1 k2 w2 v2 rm.2.2.2.2.2.2.2.1 kp := by
  have hI := h
  obtain ⟨ds, ns, hh, hB, hC, hd, hN, hch, hmd, hM, hp⟩ := h
  have h40 := hh.2.1
  unfold fX7_index fX8_index
  rcases n_textn a with ⟨r, hr, rfl, hn1, hn2⟩ | ⟨hn1, hn2⟩
  · obtain ⟨e1, e2⟩ := hT r hr
    rw [n_refM hr (by omega) rfl, Option.bind_some, hn2, Option.bind_some, if_neg (show ¬ (1 : Int32) = 0 by decide), gx_n hr (by omega), nI_clamp (show r < 2 ^ 31 by omega), ← e1]
    have f1 : fX8_found (1 : Int32) cn = some (-3, nI 1, upd cn 1 (cn 1 + 1)) := (n_refuse (k := 1) (by omega) (by omega) cn).2
    rcases e2 with q | ⟨n, q1, q2, q3⟩
    · rw [if_pos q, if_neg (show ¬ (-3 : Int32) = 0 by decide), q, if_neg (show ¬ (0 : Int32) ≤ -1 by decide), f1]
      exact ⟨_, _, rfl, rfl, rfl, rfl, rfl, hL, b, hI, hK⟩
    · have hne : ¬ ts r = -1 := by rw [q2]; exact nI_nm1 (by omega)
      obtain ⟨cl, rf, r1, r2, r3, r4⟩ := rd_text hr q1 q2 (e1.symm.trans q2) q3 sg kw kv rd nx
      rw [if_neg hne, q2, if_pos (show (0 : Int32) ≤ nI n from nI_pos' (by omega)), if_pos (show (0 : Int32) = 0 from rfl), r1, r2, Option.bind_some, Option.bind_some]
      by_cases c : cl.1 = -9
      · obtain ⟨kl, g1, g2, g3⟩ := r4 c
        have h48 := g1.1
        obtain ⟨rb, b1, b2⟩ := n_become6 g1 g2 bw bv
        have hcut : fX0_cutTo (0 : Int32) dz = some 0 := by
          unfold fX0_cutTo
          rw [if_neg (by decide), hd.1, if_neg (nI_pos (by omega))]
        have hh' : hok kl [] := ⟨g1, Nat.zero_le _, fun i hi => absurd hi (Nat.not_lt_zero i)⟩
        have hd' : dC [] (0 : Int32) dk dw dv := ⟨rfl, fun i hi => absurd hi (Nat.not_lt_zero i)⟩
        obtain ⟨sz', w', v', r', ns', c', p1, p2, p3, p4⟩ := n_replayD hh' b2 hd' w v P Pf D Fr Ti C ch
        have ea := n_copies (x1 := 0) (x3 := 0) (n := 97) (n0 := 97) (n2 := 97) rf.2.2 now (by omega) (by omega) (by omega) (by omega) (by omega)
        have ea' : fX8_copies (0 : Int32) (0 : Int32) (97 : Int32) 97 rf.2.2 97 now = _ := ea
        have hMn : keyM kl (fun j => if 0 ≤ j ∧ j < 0 + 97 then rf.2.2 (0 + (j - 0)) else now j) := keyM_shift g1 g3 (fun j hj => by
          rw [if_pos ⟨Nat.zero_le _, by omega⟩, Nat.zero_add, Nat.sub_zero])
        obtain ⟨ik', i1, i2⟩ := n_ik_L 3 gF 0 ik (Nat.sub_zero _) (by unfold gF; omega) (Nat.zero_le _) (fun k hk => absurd hk (Nat.not_lt_zero k))
        rw [nI_0] at i1
        obtain ⟨m', m1, m2⟩ := n_noch mch
        unfold fX2_empty
        rw [if_pos c, if_pos (r3.symm.trans c), b1, Option.bind_some, hcut, Option.bind_some, n_forget, Option.bind_some, Option.bind_some, p1, Option.bind_some, ea', Option.bind_some, i1, Option.bind_some, m1, Option.bind_some, gx_0 (by omega) (by omega), cl_0]
        obtain ⟨kk, -, -, l3, l4⟩ := hL
        refine ⟨_, _, rfl, rfl, p2.1.trans hMn.1.symm, rfl, rfl, ⟨0, rfl, rfl, l3, Nat.zero_le _, fun j hj => absurd hj (Nat.not_lt_zero j)⟩, kl, ⟨[], ns', hh', b2, p2, hd', p3, fun k hk => (p4 k hk).trans (m2 k hk).symm, rfl, hMn, fun i hi => absurd hi (Nat.not_lt_zero i)⟩, Or.inl ⟨rfl, i2 0 (by omega)⟩, Or.inl ⟨rfl, i2 1 (by omega)⟩, Or.inl ⟨rfl, i2 2 (by omega)⟩⟩
      · rw [if_neg c, if_neg (fun z => c (r3.trans z))]
        exact ⟨_, _, rfl, rfl, rfl, rfl, rfl, hL, b, hI, hK⟩
  · have e : fX7_refuseMissing a 4 ts fnd cn = some (-1, fnd, cn) := by
      unfold fX7_refuseMissing
      rw [hn1, Option.bind_some, if_pos rfl]
    rw [e, Option.bind_some, if_neg (show ¬ (-1 : Int32) = 0 by decide), hn2, Option.bind_some, if_pos rfl]
    exact ⟨_, _, rfl, rfl, rfl, rfl, rfl, hL, b, hI, hK⟩
