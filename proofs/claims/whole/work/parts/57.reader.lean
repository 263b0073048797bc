/-! an item -/
theorem sg_6 {n p x : Nat} (hx : x < 256) (sg : Nat → Int32) : ((if p < n then sg p else (256 : Int32)) = nI x) ↔ (p < n ∧ sg p = nI x) := by
  by_cases c : p < n
  · rw [if_pos c]; exact ⟨fun z => ⟨c, z⟩, fun z => z.2⟩
  · rw [if_neg c]
    exact ⟨fun z => by have := (nI_eq (a := 256) (by omega) (by omega)).mp z; omega, fun z => absurd z.1 c⟩
theorem sg_8 {n p x : Nat} (hx : x < 256) (sg : Nat → Int32) : ((if p < n then sg p else (-1000 : Int32)) = nI x) ↔ (p < n ∧ sg p = nI x) := by
  by_cases c : p < n
  · rw [if_pos c]; exact ⟨fun z => ⟨c, z⟩, fun z => z.2⟩
  · rw [if_neg c]
    refine ⟨fun z => ?_, fun z => absurd z.1 c⟩
    have h1 : (nI x).toInt = (x : Int) := nI_toInt (by omega)
    rw [← z] at h1
    have h2 : (-1000 : Int32).toInt = -1000 := by decide
    omega
/-- what an item gives: a fault at the same place, or a key, on both sides -/
def itR (n p : Nat) (cl : Int32 × Int32 × Int32 × (Nat → Int32) × (Nat → Int32)) (rf : Int32 × Int32 × (Nat → Int32)) : Prop :=
  (∃ f, f < 1000 ∧ cl.1 = nI f ∧ rf.1 = nI f) ∨ (∃ p' kl, p < p' ∧ p' ≤ n ∧ cl.1 = -9 ∧ rf.1 = -9 ∧ cl.2.1 = nI p' ∧ rf.2.1 = nI p' ∧ kgood kl ∧ keyC kl cl.2.2.1 cl.2.2.2.1 cl.2.2.2.2 ∧ keyM kl rf.2.2)
theorem rd_item {r n p : Nat} {sg msz mr : Nat → Int32} (h : txR r n sg msz mr) (hp : p < n) {kl : KL} {sz : Int32} {w v rd : Nat → Int32} (hC : keyC kl sz w v) (hM : keyM kl rd) (hg : kgood kl) (nx : Int32) : ∃ cl rf, fX4_readKey (nI n) (nI p) sg sz w v = some cl ∧ fX8_readsItem (nI r) (nI p) nx msz mr rd = some rf ∧ itR n p cl rf := by
  have hn := h.2.1
  have h48 := hg.1
  obtain ⟨k, v', a1, a2, a3, a4, a5, a6⟩ := rd_word (p := p) h (by omega) nx rd 6 gF gF 0 0 rfl (by unfold gF; omega) (by unfold gF; omega) (by omega) (by decide) (by omega)
  rw [nI_0, Nat.add_zero] at a5 a6
  have a5' : fX4_readNumber (16 : Int32) (6 : Int32) (nI n) (nI p) sg = some (nI v', nI (p + k)) := a5
  unfold fX4_readKey fX8_readsItem
  rw [a5', Option.bind_some, gl_eq]
  have esub : nI (p + k) - nI p = nI k := (pk_sub (by omega)).trans (congrArg nI (by omega))
  dsimp only
  rw [esub, n_sign hn (by omega), Option.bind_some, n_fig4, Option.bind_some, hx_6]
  rcases a6 with ⟨hx, a6⟩ | ⟨hk6, ⟨u, hx⟩, a6⟩
  · rw [a6]
    unfold fX8_readsItem_J55
    rw [hx, if_pos (show oI (-1) none = (-1 : Int32) from rfl)]
    by_cases c0 : k = 0
    · subst c0
      rw [if_pos (show nI 0 = (0 : Int32) from nI_0), if_pos (show nI 0 = (0 : Int32) from nI_0)]
      exact ⟨_, _, rfl, rfl, Or.inl ⟨p + 0, by omega, rfl, rfl⟩⟩
    · have hW := wmk_ok a2 a3
      have hWl := wok_lt hW
      have hWn : wmk v' k % 8 = k := wmk_len a2
      rw [if_neg (nI_ne0 (show 0 < k by omega) (by omega)), if_neg (nI_ne0 (show 0 < k by omega) (by omega)), n_pack6 a2 a3, n_word8 a2 a3]
      simp only [Option.bind_some]
      rw [n_has6 hC hg (x := wmk v' k) (by omega), n_place8 hM hg (x := wmk v' k) (by omega)]
      simp only [Option.bind_some]
      rw [n_room6 hC hg (x := wmk v' k) (by omega), n_here h (p := p + k) (by omega)]
      simp only [Option.bind_some]
      rw [gx_0 (by omega) (by omega), cl_0, hM.1]
      by_cases cH : kH kl (wmk v' k)
      · have := cH.1
        rw [if_pos cH, if_neg (show ¬ (1 : Int32) = 0 by decide), if_pos cH, if_neg (nI_ne9 (by omega))]
        exact ⟨_, _, rfl, rfl, Or.inl ⟨p, by omega, rfl, rfl⟩⟩
      · rw [if_neg cH, if_pos (show (0 : Int32) = 0 from rfl), if_neg cH, if_pos (show (-9 : Int32) = -9 from rfl)]
        by_cases cr : kl.length < 48
        · have crm : kl.length < 48 ∨ kH kl (wmk v' k) := Or.inl cr
          rw [if_pos crm, if_neg (show ¬ (1 : Int32) = 0 by decide), if_neg (show ¬ nI kl.length = (48 : Int32) from fun e => by have := (nI_eq (b := 48) (by omega) (by omega)).mp e; omega)]
          by_cases c61 : p + k < n ∧ sg (p + k) = nI 61
          · rw [if_pos (show (if p + k < n then sg (p + k) else (256 : Int32)) = (61 : Int32) from (sg_6 (x := 61) (by omega) sg).mpr c61), if_pos (show (if p + k < n then sg (p + k) else (-1000 : Int32)) = (61 : Int32) from (sg_8 (x := 61) (by omega) sg).mpr c61), gl_eq, gl_eq, nI_1]
            obtain ⟨k2, v2, b1, b2, b3, b4, b5, b6⟩ := rd_val h (q := p + k + 1) (by omega) nx rd (nI v') (nI k) 3 gF gF 0 0 rfl (by unfold gF; omega) (by unfold gF; omega) (by omega) (by decide) (by omega)
            rw [nI_0, Nat.add_zero] at b5 b6
            have b5' : fX4_readNumber (10 : Int32) (3 : Int32) (nI n) (nI (p + k + 1)) sg = some (nI v2, nI (p + k + 1 + k2)) := b5
            rw [b5', Option.bind_some]
            dsimp only
            rw [n_sign hn (by omega), Option.bind_some]
            have e59 : ∀ z, z < n → (∃ u, u < 10 ∧ sg z = nI (48 + u)) → ¬ (if z < n then sg z else (256 : Int32)) = (59 : Int32) := fun z z1 ⟨u, z2, z3⟩ e => by
              rw [if_pos z1, z3] at e
              have := (nI_eq (b := 59) (by omega) (by omega)).mp e
              omega
            rcases b6 with b6 | ⟨hk3, ⟨u, u1, u2, u3⟩, b6⟩
            · rw [b6]
              unfold fX8_readsItem_J169
              by_cases c2 : k2 = 0
              · subst c2
                rw [if_pos (show nI (p + k + 1 + 0) = nI (p + k + 1) from rfl), if_pos (show nI 0 = (0 : Int32) from nI_0)]
                exact ⟨_, _, rfl, rfl, Or.inl ⟨p + k + 1 + 0, by omega, rfl, rfl⟩⟩
              · rw [if_neg (fun e => by have := (nI_eq (by omega) (by omega)).mp e; omega), if_neg (nI_ne0 (show 0 < k2 by omega) (by omega)), n_here h (by omega), Option.bind_some]
                by_cases c59 : p + k + 1 + k2 < n ∧ sg (p + k + 1 + k2) = nI 59
                · have hv2 : v2 ≤ 999 := by
                    rcases (show k2 = 1 ∨ k2 = 2 ∨ k2 = 3 by omega) with rfl | rfl | rfl <;> omega
                  obtain ⟨ri, hi1, hi2⟩ := n_ins6 (y := v2) hC hg hWl crm
                  obtain ⟨t', ht1, ht2⟩ := n_ins8 (y := v2) hM hg hWl crm
                  rw [if_pos (show (if p + k + 1 + k2 < n then sg (p + k + 1 + k2) else (256 : Int32)) = (59 : Int32) from (sg_6 (x := 59) (by omega) sg).mpr c59), if_pos (show (if p + k + 1 + k2 < n then sg (p + k + 1 + k2) else (-1000 : Int32)) = (59 : Int32) from (sg_8 (x := 59) (by omega) sg).mpr c59), gl_eq, hi1, Option.bind_some, n_word8 a2 a3, Option.bind_some, ht1, Option.bind_some, gl_eq, nI_1]
                  exact ⟨_, _, rfl, rfl, Or.inr ⟨p + k + 1 + k2 + 1, kput kl (wmk v' k) v2, by omega, by omega, rfl, rfl, rfl, rfl, kput_good hg hW (by omega) hv2 crm, hi2, ht2⟩⟩
                · rw [if_neg (show ¬ (if p + k + 1 + k2 < n then sg (p + k + 1 + k2) else (256 : Int32)) = (59 : Int32) from fun z => c59 ((sg_6 (x := 59) (by omega) sg).mp z)), if_neg (show ¬ (if p + k + 1 + k2 < n then sg (p + k + 1 + k2) else (-1000 : Int32)) = (59 : Int32) from fun z => c59 ((sg_8 (x := 59) (by omega) sg).mp z))]
                  exact ⟨_, _, rfl, rfl, Or.inl ⟨p + k + 1 + k2, by omega, rfl, rfl⟩⟩
            · subst hk3
              rw [b6, if_neg (fun e => by have := (nI_eq (by omega) (by omega)).mp e; omega), if_neg (e59 _ u2 ⟨u, u1, u3⟩)]
              exact ⟨_, _, rfl, rfl, Or.inl ⟨p + k + 1 + 3, by omega, rfl, rfl⟩⟩
          · rw [if_neg (show ¬ (if p + k < n then sg (p + k) else (256 : Int32)) = (61 : Int32) from fun z => c61 ((sg_6 (x := 61) (by omega) sg).mp z)), if_neg (show ¬ (if p + k < n then sg (p + k) else (-1000 : Int32)) = (61 : Int32) from fun z => c61 ((sg_8 (x := 61) (by omega) sg).mp z))]
            exact ⟨_, _, rfl, rfl, Or.inl ⟨p + k, by omega, rfl, rfl⟩⟩
        · have crm : ¬ (kl.length < 48 ∨ kH kl (wmk v' k)) := fun z => z.elim cr cH
          rw [if_neg crm, if_pos (show (0 : Int32) = 0 from rfl), if_pos (show nI kl.length = (48 : Int32) by rw [show kl.length = 48 by omega]; rfl)]
          exact ⟨_, _, rfl, rfl, Or.inl ⟨p, by omega, rfl, rfl⟩⟩
  · subst hk6
    obtain ⟨hx1, hx2⟩ := hxp_lt hx
    rw [a6, hx, if_neg (nI_ne0 (show 0 < 6 by omega) (by omega)), if_neg (show ¬ oI (-1) (some u) = (-1 : Int32) from nI_nm1 (by omega))]
    exact ⟨_, _, rfl, rfl, Or.inl ⟨p + 6, by omega, rfl, rfl⟩⟩
/-! blanks, then items -/
theorem rd_skip {r n : Nat} {sg msz mr : Nat → Int32} (h : txR r n sg msz mr) (nx : Int32) (rd : Nat → Int32) : ∀ (m F p : Nat), n - p = m → m < F → p ≤ n → ∃ p', p ≤ p' ∧ p' ≤ n ∧ fX4_skipBlanks_L0 (nI n) sg F (nI p) = some (nI p') ∧ (p' < n → ¬ sg p' = (32 : Int32)) ∧ ∀ F', fX8_reads_L9 (nI r) msz mr (F' + (p' - p)) (nI p) nx rd = fX8_reads_L9 (nI r) msz mr F' (nI p') nx rd
  | m, 0, p, _, hF, _ => absurd hF (Nat.not_lt_zero m)
  | m, F + 1, p, hm, hF, hp => by
    have hn := h.2.1
    rw [fX4_skipBlanks_L0]
    by_cases c : p < n
    · rw [if_neg (nI_ge c (by omega)), n_sign hn (by omega), Option.bind_some, if_pos c]
      by_cases c2 : sg p = 32
      · obtain ⟨p', q1, q2, q3, q4, q5⟩ := rd_skip h nx rd (m - 1) F (p + 1) (by omega) (by omega) c
        rw [if_pos c2, gl_eq, nI_1]
        refine ⟨p', by omega, q2, q3, q4, fun F' => ?_⟩
        rw [show F' + (p' - p) = F' + (p' - (p + 1)) + 1 by omega, fX8_reads_L9, gx_n h.1 (by omega), nI_clamp (by have := h.1; omega), h.2.2.1, if_neg (nI_ge c (by omega)), n_here h (by omega), Option.bind_some, if_pos c, if_pos c2, gl_eq, nI_1]
        exact q5 F'
      · rw [if_neg c2]
        exact ⟨p, Nat.le_refl _, hp, rfl, fun _ => c2, fun F' => by rw [Nat.sub_self]; rfl⟩
    · rw [if_pos (nI_le (by omega) (by omega))]
      exact ⟨p, Nat.le_refl _, hp, rfl, fun z => absurd z c, fun F' => by rw [Nat.sub_self]; rfl⟩
abbrev RT : Type := Int32 × Int32 × Int32 × (Nat → Int32) × Int32 × (Nat → Int32) × (Nat → Int32)
/-- what a text gives, on both sides -/
def rdR (cl : RT) (rf : Int32 × Int32 × (Nat → Int32)) : Prop := cl.1 = rf.1 ∧ (cl.1 = -9 → ∃ kl, kgood kl ∧ keyC kl cl.2.2.2.2.1 cl.2.2.2.2.2.1 cl.2.2.2.2.2.2 ∧ keyM kl rf.2.2)
theorem rd_loop {r n : Nat} {sg msz mr : Nat → Int32} (h : txR r n sg msz mr) : ∀ (m F F' i p : Nat) (kl : KL) (sz : Int32) (w v rd : Nat → Int32) (nx : Int32), n - p = m → m < F → m < F' → i ≤ p → p ≤ n → keyC kl sz w v → keyM kl rd → kgood kl → ∃ cl rf, fX4_read_L27 (nI n, sg) F (nI i) (nI p) sz w v = some cl ∧ fX8_reads_L9 (nI r) msz mr F' (nI p) nx rd = some rf ∧ rdR cl rf := by
  intro m
  induction m using Nat.strongRecOn with
  | _ m IH =>
    intro F F' i p kl sz w v rd nx hm hF hF' hi hp hC hM hg
    have hn := h.2.1
    obtain ⟨F, rfl⟩ : ∃ F0, F = F0 + 1 := ⟨F - 1, by omega⟩
    obtain ⟨p', q1, q2, q3, q4, q5⟩ := rd_skip h nx rd (n - p) gF p rfl (by unfold gF; omega) hp
    have q3' : fX4_skipBlanks (nI n) (nI p) sg = some (nI p') := by unfold fX4_skipBlanks; rw [q3]; rfl
    have e9 := q5 (F' - (p' - p))
    rw [show F' - (p' - p) + (p' - p) = F' by omega] at e9
    rw [fX4_read_L27, if_neg (show ¬ (90 : Int32) < nI i from nI_nlt (a := 90) (by omega) (by omega)), e9]
    dsimp only
    rw [q3', Option.bind_some]
    obtain ⟨F2, hF2⟩ : ∃ F0, F' - (p' - p) = F0 + 1 := ⟨F' - (p' - p) - 1, by omega⟩
    rw [hF2, fX8_reads_L9, gx_n h.1 (by omega), nI_clamp (show r < 2 ^ 31 by have := h.1; omega), h.2.2.1]
    by_cases c : p' < n
    · obtain ⟨cl, rf, i1, i2, i3⟩ := rd_item h c hC hM hg nx
      rw [if_pos (nI_lt c (by omega)), if_neg (nI_ge c (by omega)), n_here h (by omega), Option.bind_some, if_pos c, if_neg (q4 c), i1, i2, Option.bind_some, Option.bind_some]
      rcases i3 with ⟨f, f1, f2, f3⟩ | ⟨p2, kl2, g1, g2, g3, g4, g5, g6, g7, g8, g9⟩
      · have hne : ¬ nI f = (-9 : Int32) := nI_ne9 (by omega)
        rw [f2, f3, if_neg hne, if_neg hne]
        exact ⟨_, _, rfl, rfl, rfl, fun z => absurd z hne⟩
      · rw [if_pos g3, if_pos g4, gl_eq, nI_1, g5, g6]
        exact IH (n - p2) (by omega) F F2 (i + 1) p2 kl2 _ _ _ _ _ rfl (by omega) (by omega) (by omega) g2 g8 g9 g7
    · rw [if_neg (nI_nlt (by omega) (by omega)), if_pos (nI_le (by omega) (by omega))]
      exact ⟨_, _, rfl, rfl, rfl, fun _ => ⟨kl, hg, hC, hM⟩⟩
theorem kgood_nil : kgood [] := ⟨Nat.zero_le _, fun k hk => absurd hk (Nat.not_lt_zero k), fun i j _ hj => absurd hj (Nat.not_lt_zero j)⟩
theorem rd_text {ts mts mtt : Nat → Int32} {MT : Nat → Nat → Int32} {r n : Nat} (hr : r < 4) (hn : n ≤ 90) (hs : ts r = nI n) (hms : mts r = nI n) (hc : ∀ i, i < n → MT r i = mtt (90 * r + i)) (sg kw kv rd : Nat → Int32) (nx : Int32) : ∃ cl rf, fX4_read (nI r) 4 ts sg 4 kw kv 90 MT = some cl ∧ fX8_reads (nI r) nx rd mts mtt = some rf ∧ rdR cl rf := by
  unfold fX4_read fX8_reads fX5_layInto fX1_empty
  rw [n_size5 hr (by omega), Option.bind_some, hs, show Int32.ofNat 90 = nI 90 from rfl, if_neg (nI_nlt hn (by omega)), gl_eq, gx_0 (by omega) (by omega), cl_0]
  have fin : ∀ sg', txR r n sg' mts mtt → ∃ cl rf, fX4_read_L27 (nI n, sg') gF (0 : Int32) (0 : Int32) (0 : Int32) kw kv = some cl ∧ fX8_reads_L9 (nI r) mts mtt gF (0 : Int32) nx (upd rd 0 (0 : Int32)) = some rf ∧ rdR cl rf := fun sg' hT => by
    have := rd_loop hT n gF gF 0 0 [] 0 kw kv (upd rd 0 0) nx (Nat.sub_zero _) (by unfold gF; omega) (by unfold gF; omega) (Nat.le_refl _) (Nat.zero_le _) ⟨rfl, fun k hk => absurd hk (Nat.not_lt_zero k), fun k hk => absurd hk (Nat.not_lt_zero k)⟩ ⟨pk_us, fun k hk => absurd hk (Nat.not_lt_zero k), fun k hk => absurd hk (Nat.not_lt_zero k)⟩ kgood_nil
    rw [nI_0] at this
    exact this
  by_cases c : n = 0
  · subst c
    rw [if_neg (show ¬ (1 : Int32) ≤ nI 0 by decide), Option.bind_some, Option.bind_some]
    exact fin sg ⟨hr, hn, hms, fun i hi => absurd hi (Nat.not_lt_zero i)⟩
  · have gc : ∀ (K : Option (Int32 × (Nat → Int32))), gcp (0 : Int32) (0 : Int32) (nI n) 90 90 K = K := fun K => by
      unfold gcp
      rw [cl_0, nI_clamp (by omega), if_neg]
      rintro (y | y | y | y | y)
      · exact absurd y (by decide)
      · exact absurd y (by decide)
      · exact nI_pos (by omega) y
      · omega
      · omega
    rw [if_pos (show (1 : Int32) ≤ nI n from nI_le (a := 1) (by omega) (by omega)), gx_n hr (by omega), gc, Option.bind_some, Option.bind_some, nI_clamp (show r < 2 ^ 31 by omega), nI_clamp (show n < 2 ^ 31 by omega)]
    exact fin _ ⟨hr, hn, hms, fun i hi => by rw [sb_cpy0 hi]; exact hc i hi⟩
theorem e_fault {ts mts mtt : Nat → Int32} {MT : Nat → Nat → Int32} (hT : shR 4 90 ts MT mts mtt) (a fnd rs rp ks nx : Int32) (cn sg kw kv rd : Nat → Int32) : ∃ rn rm, fX7_fault a fnd ts cn rs rp sg MT ks kw kv = some rn ∧ fX8_fault a fnd nx mts rd mtt cn = some rm ∧ rn.1 = rm.1 ∧ rn.2.1 = rm.2.1 ∧ rn.2.2.1 = rm.2.2.2.2 := by
  unfold fX7_fault fX8_fault
  rcases n_textn a with ⟨r, hr, rfl, hn1, hn2⟩ | ⟨hn1, hn2⟩
  · obtain ⟨e1, e2⟩ := hT r hr
    rw [n_refM hr (by omega) rfl, Option.bind_some, hn2, Option.bind_some, if_neg (show ¬ (1 : Int32) = 0 by decide), gx_n hr (by omega), nI_clamp (show r < 2 ^ 31 by omega), ← e1]
    have f1 : fX8_found (1 : Int32) cn = some (-3, nI 1, upd cn 1 (cn 1 + 1)) := (n_refuse (k := 1) (by omega) (by omega) cn).2
    rcases e2 with q | ⟨n, q1, q2, q3⟩
    · rw [if_pos q, if_neg (show ¬ (-3 : Int32) = 0 by decide), q, if_neg (show ¬ (0 : Int32) ≤ -1 by decide), f1]
      exact ⟨_, _, rfl, rfl, rfl, rfl, rfl⟩
    · have hne : ¬ ts r = -1 := by rw [q2]; exact nI_nm1 (by omega)
      obtain ⟨cl, rf, r1, r2, r3⟩ := rd_text hr q1 q2 (e1.symm.trans q2) q3 sg kw kv rd nx
      rw [if_neg hne, q2, if_pos (show (0 : Int32) ≤ nI n from nI_pos' (by omega)), if_pos (show (0 : Int32) = 0 from rfl), r1, r2, Option.bind_some, Option.bind_some]
      exact ⟨_, _, rfl, rfl, r3.1, rfl, rfl⟩
  · have e : fX7_refuseMissing a 4 ts fnd cn = some (-1, fnd, cn) := by
      unfold fX7_refuseMissing
      rw [hn1, Option.bind_some, if_pos rfl]
    rw [e, Option.bind_some, if_neg (show ¬ (-1 : Int32) = 0 by decide), hn2, Option.bind_some, if_pos rfl]
    exact ⟨_, _, rfl, rfl, rfl, rfl, rfl⟩
