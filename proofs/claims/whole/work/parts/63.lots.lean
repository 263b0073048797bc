/-! lots -/
theorem l_rem {a d : Nat} {x : Int64} (hx : x = lN d) (ha : a < 2 ^ 63) (h0 : 0 < d) (hd : d < 2 ^ 63) : lN a - lN a / x * x = lN (a % d) := by rw [hx]; exact pk_lRem ha h0 hd
theorem l_div {a d : Nat} {x : Int64} (hx : x = lN d) (ha : a < 2 ^ 63) (h0 : 0 < d) (hd : d < 2 ^ 63) : lN a / x = lN (a / d) := by rw [hx]; exact pk_lDiv ha h0 hd
theorem i_rem {a d : Nat} {x : Int32} (hx : x = nI d) (ha : a < 2 ^ 31) (h0 : 0 < d) (hd : d < 2 ^ 31) : nI a - nI a / x * x = nI (a % d) := by rw [hx]; exact pk_rem ha h0 hd
theorem i_div {a d : Nat} {x : Int32} (hx : x = nI d) (ha : a < 2 ^ 31) (h0 : 0 < d) (hd : d < 2 ^ 31) : nI a / x = nI (a / d) := by rw [hx]; exact pk_div ha h0 hd
theorem lN_ne0 {n : Nat} (h0 : 0 < n) (h : n < 2 ^ 63) : ¬ lN n = 0 := fun e => by
  have := (pk_lEQ (a := n) (b := 0) h (by omega)).mp e
  omega
theorem n_lw_L {N L : Nat} (hN : N < 2 ^ 31) (hL : L ≤ 3) : ∀ (m F k v : Nat), L - k = m → m < F → k ≤ L → v < 16 ^ k → ∃ v', v' < 16 ^ L ∧ fX7_lotWord_L16 (nI L) F (nI (N / 16 / 4 ^ k)) (nI v) (nI k) = some (nI v') ∧ fX8_falls_L20 (nI L) (lN N) F (nI v) (lN (16 * 4 ^ k)) (nI k) = some (nI v')
  | m, 0, k, v, _, hF, _, _ => absurd hF (Nat.not_lt_zero m)
  | m, F + 1, k, v, hm, hF, hk, hv => by
    rw [fX7_lotWord_L16, fX8_falls_L20]
    by_cases c : k < L
    · have hp : 0 < 4 ^ k := Nat.pow_pos (by decide)
      have hp64 : 4 ^ k ≤ 64 := by
        rcases (show k = 0 ∨ k = 1 ∨ k = 2 by omega) with rfl | rfl | rfl <;> decide
      have hr : N / 16 / 4 ^ k < 2 ^ 31 := Nat.lt_of_le_of_lt (Nat.div_le_self _ _) (Nat.lt_of_le_of_lt (Nat.div_le_self _ _) hN)
      have e0 : N / (16 * 4 ^ k) = N / 16 / 4 ^ k := by rw [Nat.div_div_eq_div_mul]
      have e1 := i_rem (a := N / 16 / 4 ^ k) (d := 4) (x := 4) rfl hr (by omega) (by omega)
      have e2 := i_div (a := N / 16 / 4 ^ k) (d := 4) (x := 4) rfl hr (by omega) (by omega)
      have e3 : lN N / lN (16 * 4 ^ k) = lN (N / 16 / 4 ^ k) := by rw [pk_lDiv (by omega) (by omega) (by omega), e0]
      have e4 := l_rem (a := N / 16 / 4 ^ k) (d := 4) (x := 4) rfl (by omega) (by omega) (by omega)
      have e5 : lN (16 * 4 ^ k) * (4 : Int64) = lN (16 * 4 ^ (k + 1)) := by
        rw [show (4 : Int64) = lN 4 from rfl, lN_mul, Nat.pow_succ, Nat.mul_assoc]
      have e6 : N / 16 / 4 ^ k / 4 = N / 16 / 4 ^ (k + 1) := by rw [Nat.div_div_eq_div_mul (N / 16), Nat.pow_succ]
      have hf4 : N / 16 / 4 ^ k % 4 < 4 := Nat.mod_lt _ (by decide)
      rw [if_neg (nI_ge c (by omega)), if_neg (nI_ge c (by omega)), gd_ok (by decide), gl_eq, e1, gdL_ok (lN_ne0 (by omega) (by omega)), gdL_ok (by decide), gl_eq, e3, e4, lN_i]
      obtain ⟨f, hf, ef1, ef2⟩ : ∃ f, f < 16 ∧ (if nI (N / 16 / 4 ^ k % 4) = (3 : Int32) then (some ((15 : Int32), (nI v * (16 : Int32)))) else (some (nI (N / 16 / 4 ^ k % 4), (nI v * (16 : Int32))))) = some (nI f, nI v * (16 : Int32)) ∧ (if nI (N / 16 / 4 ^ k % 4) = (3 : Int32) then (some ((15 : Int32), ((16 : Int32) * nI v))) else (some (nI (N / 16 / 4 ^ k % 4), ((16 : Int32) * nI v)))) = some (nI f, (16 : Int32) * nI v) := by
        by_cases z : N / 16 / 4 ^ k % 4 = 3
        · rw [z, if_pos (show nI 3 = (3 : Int32) from rfl), if_pos (show nI 3 = (3 : Int32) from rfl)]
          exact ⟨15, by omega, rfl, rfl⟩
        · have zn : ¬ nI (N / 16 / 4 ^ k % 4) = (3 : Int32) := fun y => z ((nI_eq (b := 3) (by omega) (by omega)).mp y)
          rw [if_neg zn, if_neg zn]
          exact ⟨_, by omega, rfl, rfl⟩
      have g1 : nI v * (16 : Int32) + nI f = nI (v * 16 + f) := (congrArg (· + nI f) (pk_mul v 16)).trans (nI_add _ _)
      have g2 : (16 : Int32) * nI v + nI f = nI (v * 16 + f) := ((congrArg (· + nI f) (pk_mul 16 v)).trans (nI_add _ _)).trans (congrArg nI (by omega))
      rw [ef1, Option.bind_some, gl_eq, gd_ok (by decide), gl_eq, gl_eq, e2, nI_1, ef2, Option.bind_some, gl_eq, gl_eq, gl_eq, e5, e6]
      dsimp only
      rw [g1, g2]
      exact n_lw_L hN hL (m - 1) F (k + 1) (v * 16 + f) (by omega) (by omega) c (by rw [Nat.pow_succ]; omega)
    · rw [if_pos (nI_le (by omega) (by omega)), if_pos (nI_le (by omega) (by omega))]
      have e : k = L := by omega
      subst e
      exact ⟨v, hv, rfl, rfl⟩
theorem n_lw {N : Nat} (hN : N < 2 ^ 31) : ∃ v', v' < 16 ^ (N % 3 + 1) ∧ fX7_lotWord (nI N) = some (nI (wmk v' (N % 3 + 1))) ∧ fX8_falls_L20 (nI (N % 3 + 1)) (lN N) gF (0 : Int32) (16 : Int64) (0 : Int32) = some (nI v') := by
  have h3 : N % 3 < 3 := Nat.mod_lt _ (by decide)
  obtain ⟨v', h1, h2, h4⟩ := n_lw_L (N := N) (L := N % 3 + 1) hN (by omega) (N % 3 + 1) gF 0 0 (Nat.sub_zero _) (by unfold gF; omega) (Nat.zero_le _) (by decide)
  rw [nI_0, Nat.pow_zero, Nat.div_one] at h2
  rw [nI_0, Nat.pow_zero, Nat.mul_one] at h4
  refine ⟨v', h1, ?_, h4⟩
  unfold fX7_lotWord
  rw [gd_ok (by decide), gl_eq, i_rem (d := 3) (x := 3) rfl hN (by omega) (by omega), nI_1, gd_ok (by decide), gl_eq, i_div (d := 16) (x := 16) rfl hN (by omega) (by omega), h2, Option.bind_some, n_pack6 (by omega) h1, Option.bind_some]
theorem n_lot {b : KL} {sz : Int32} {w v : Nat → Int32} {dz : Int32} {dk dw dv now past : Nat → Int32} {ds : List DD} (hh : hok b ds) (hC : keyC (krep b ds) sz w v) (hd : dC ds dz dk dw dv) (hM : keyM (krep b ds) now) (hp : pastM b ds past) (hlt : ds.length < 40) {N : Nat} (hN : N < 2 ^ 31) : ∃ (d : DD) (rn : Int32 × (Nat → Int32) × Int32 × (Nat → Int32) × (Nat → Int32) × (Nat → Int32) × (Nat → Int32)) (rp : Int32 × (Nat → Int32)) (now' : Nat → Int32), fX7_doLot (nI N) sz w dz dk dw dv v = some rn ∧ fX8_notes (nI ds.length) now past = some rp ∧ fX8_falls (lN N) now = some now' ∧ hok b (ds ++ [d]) ∧ keyC (krep b (ds ++ [d])) rn.1 rn.2.1 rn.2.2.2.2.2.2 ∧ dC (ds ++ [d]) rn.2.2.1 rn.2.2.2.1 rn.2.2.2.2.1 rn.2.2.2.2.2.1 ∧ keyM (krep b (ds ++ [d])) now' ∧ pastM b (ds ++ [d]) rp.2 ∧ rp.1 = nI (ds ++ [d]).length := by
  have hg := hok_all hh
  have h48 := hg.1
  have h3 : N % 3 < 3 := Nat.mod_lt _ (by decide)
  obtain ⟨v', w1, w2, w3⟩ := n_lw hN
  have hW := wmk_ok (show N % 3 + 1 ≤ 6 by omega) w1
  have hWl := wok_lt hW
  have hWn : wmk v' (N % 3 + 1) % 8 = N % 3 + 1 := wmk_len (by omega)
  have hy : N / 8 % 1000 < 1000 := Nat.mod_lt _ (by decide)
  have h2 : N / 4 % 2 < 2 := Nat.mod_lt _ (by decide)
  -- which deed
  have fin : ∀ (done : Nat) (now' : Nat → Int32), done ≤ 3 → (done = 1 → (krep b ds).length < 48 ∨ kH (krep b ds) (wmk v' (N % 3 + 1))) → keyM (kap (done, wmk v' (N % 3 + 1), N / 8 % 1000) (krep b ds)) now' → ∃ (ra : Int32 × (Nat → Int32) × (Nat → Int32) × (Nat → Int32)) (rk : Int32 × (Nat → Int32) × (Nat → Int32)), fX0_add (nI done) (nI (wmk v' (N % 3 + 1))) (nI (N / 8 % 1000)) dz dk dw dv = some ra ∧ fX1_apply (nI done) (nI (wmk v' (N % 3 + 1))) (nI (N / 8 % 1000)) sz w v = some rk ∧ hok b (ds ++ [(done, wmk v' (N % 3 + 1), N / 8 % 1000)]) ∧ keyC (krep b (ds ++ [(done, wmk v' (N % 3 + 1), N / 8 % 1000)])) rk.1 rk.2.1 rk.2.2 ∧ dC (ds ++ [(done, wmk v' (N % 3 + 1), N / 8 % 1000)]) ra.1 ra.2.1 ra.2.2.1 ra.2.2.2 ∧ keyM (krep b (ds ++ [(done, wmk v' (N % 3 + 1), N / 8 % 1000)])) now' := fun done now' q1 q2 q3 => by
    have hdk : dok (done, wmk v' (N % 3 + 1), N / 8 % 1000) (krep b ds) := ⟨q1, hW, by show 1 ≤ wmk v' (N % 3 + 1) % 8; omega, by show N / 8 % 1000 ≤ 999; omega, q2⟩
    obtain ⟨ra, a1, a2⟩ := n_add hd hlt (done, wmk v' (N % 3 + 1), N / 8 % 1000)
    obtain ⟨rk, k1, k2⟩ := n_apply6 hC hg hdk
    exact ⟨ra, rk, a1, k1, hok_snoc hh hlt hdk, by rw [krep_snoc]; exact k2, a2, by rw [krep_snoc]; exact q3⟩
  have e4 := i_div (a := N) (d := 4) (x := 4) rfl hN (by omega) (by omega)
  have e42 := i_rem (a := N / 4) (d := 2) (x := 2) rfl (by omega) (by omega) (by omega)
  have e8 := i_div (a := N) (d := 8) (x := 8) rfl hN (by omega) (by omega)
  have e81 := i_rem (a := N / 8) (d := 1000) (x := 1000) rfl (by omega) (by omega) (by omega)
  have l3 := l_rem (a := N) (d := 3) (x := 3) rfl (by omega) (by omega) (by omega)
  have l4 := l_div (a := N) (d := 4) (x := 4) rfl (by omega) (by omega) (by omega)
  have l42 := l_rem (a := N / 4) (d := 2) (x := 2) rfl (by omega) (by omega) (by omega)
  have l8 := l_div (a := N) (d := 8) (x := 8) rfl (by omega) (by omega) (by omega)
  have l81 := l_rem (a := N / 8) (d := 1000) (x := 1000) rfl (by omega) (by omega) (by omega)
  unfold fX7_doLot fX8_falls
  rw [w2, Option.bind_some, gd_ok (by decide), gd_ok (by decide), e4, e42, gdL_ok (by decide), gl_eq, l3, lN_i, nI_1, w3, Option.bind_some, n_word8 (by omega) w1, Option.bind_some, n_place8 hM hg (x := wmk v' (N % 3 + 1)) (by omega), Option.bind_some, gdL_ok (by decide), gdL_ok (by decide), l4, l42, Option.bind_some, n_notes hlt]
  by_cases ce : N / 4 % 2 = 0
  · have c64 : lg_cmp (lN (N / 4 % 2)) (0 : Int64) = 0 := by rw [ce]; decide
    rw [ce, if_pos (show nI 0 = (0 : Int32) from nI_0), Option.bind_some, if_pos (show (1 : Int32) = 1 from rfl), n_room6 hC hg (x := wmk v' (N % 3 + 1)) (by omega), Option.bind_some, Option.bind_some]
    rw [ce] at c64
    rw [if_pos c64]
    by_cases cr : (krep b ds).length < 48 ∨ kH (krep b ds) (wmk v' (N % 3 + 1))
    · obtain ⟨t', i1, i2⟩ := n_ins8 (y := N / 8 % 1000) hM hg hWl cr
      obtain ⟨ra, rk, f1, f2, f3, f4, f5, f6⟩ := fin 1 t' (by omega) (fun _ => cr) i2
      have f1' : fX0_add (1 : Int32) (nI (wmk v' (N % 3 + 1))) (nI (N / 8 % 1000)) dz dk dw dv = some ra := f1
      have f2' : fX1_apply (1 : Int32) (nI (wmk v' (N % 3 + 1))) (nI (N / 8 % 1000)) sz w v = some rk := f2
      have href : (if (if kH (krep b ds) (wmk v' (N % 3 + 1)) then nI (ah (wmk v' (N % 3 + 1)) (krep b ds)) else (-9 : Int32)) = (-9 : Int32) then (gx (0 : Int32) 97 (if (48 : Int32) ≤ (now ((0 : Int32)).toNatClampNeg) then (some now) else (gdL (8 : Int64) (gdL (1000 : Int64) (Option.bind (fX8_enters (nI (wmk v' (N % 3 + 1))) ((((lN N / (8 : Int64)) - (lN N / (8 : Int64)) / (1000 : Int64) * (1000 : Int64))).toInt32) 97 now) (fun q_139_a => (some q_139_a))))))) else (gdL (8 : Int64) (gdL (1000 : Int64) (Option.bind (fX8_enters (nI (wmk v' (N % 3 + 1))) ((((lN N / (8 : Int64)) - (lN N / (8 : Int64)) / (1000 : Int64) * (1000 : Int64))).toInt32) 97 now) (fun q_139 => (some q_139)))))) = some t' := by
        rw [gdL_ok (by decide), gdL_ok (by decide), l8, l81, lN_i, i1, Option.bind_some]
        by_cases cH : kH (krep b ds) (wmk v' (N % 3 + 1))
        · have := cH.1
          rw [if_pos cH, if_neg (nI_ne9 (by omega))]
        · have hl8 := cr.resolve_right cH
          rw [if_neg cH, if_pos (show (-9 : Int32) = -9 from rfl), gx_0 (by omega) (by omega), cl_0, hM.1, if_neg (show ¬ (48 : Int32) ≤ nI (krep b ds).length from nI_ge (b := 48) hl8 (by omega))]
      rw [if_pos cr, if_neg (show ¬ (1 : Int32) = 0 by decide), Option.bind_some, gd_ok (by decide), gd_ok (by decide), gl_eq, e8, e81, f1', Option.bind_some, f2', Option.bind_some, href]
      refine ⟨_, _, _, _, rfl, rfl, rfl, f3, f4, f5, f6, pastM_snoc hh hM hp _, by rw [List.length_append]; rfl⟩
    · have cH : ¬ kH (krep b ds) (wmk v' (N % 3 + 1)) := fun z => cr (Or.inr z)
      have cl : 48 ≤ (krep b ds).length := by
        rcases Nat.lt_or_ge (krep b ds).length 48 with z | z
        · exact absurd (Or.inl z) cr
        · exact z
      obtain ⟨ra, rk, f1, f2, f3, f4, f5, f6⟩ := fin 0 now (by omega) (fun z => by omega) hM
      have f1' : fX0_add (0 : Int32) (nI (wmk v' (N % 3 + 1))) (nI (N / 8 % 1000)) dz dk dw dv = some ra := f1
      have f2' : fX1_apply (0 : Int32) (nI (wmk v' (N % 3 + 1))) (nI (N / 8 % 1000)) sz w v = some rk := f2
      rw [if_neg cr, if_pos (show (0 : Int32) = 0 from rfl), Option.bind_some, gd_ok (by decide), gd_ok (by decide), gl_eq, e8, e81, f1', Option.bind_some, f2', Option.bind_some, if_neg cH, if_pos (show (-9 : Int32) = -9 from rfl), gx_0 (by omega) (by omega), cl_0, hM.1, if_pos (show (48 : Int32) ≤ nI (krep b ds).length from nI_le (a := 48) cl (by omega))]
      refine ⟨_, _, _, _, rfl, rfl, rfl, f3, f4, f5, f6, pastM_snoc hh hM hp _, by rw [List.length_append]; rfl⟩
  · have c1 : N / 4 % 2 = 1 := by omega
    have c64 : ¬ lg_cmp (lN (N / 4 % 2)) (0 : Int64) = 0 := by rw [c1]; decide
    rw [if_neg c64, c1, if_neg (show ¬ nI 1 = (0 : Int32) by decide), Option.bind_some, if_neg (show ¬ (2 : Int32) = 1 by decide), n_has6 hC hg (x := wmk v' (N % 3 + 1)) (by omega), Option.bind_some, Option.bind_some]
    by_cases cH : kH (krep b ds) (wmk v' (N % 3 + 1))
    · have hlt2 := cH.1
      obtain ⟨t', i1, i2⟩ := n_del8 hM hg hlt2
      have i2' : keyM (kap (2, wmk v' (N % 3 + 1), N / 8 % 1000) (krep b ds)) t' := by
        have e : kap (2, wmk v' (N % 3 + 1), N / 8 % 1000) (krep b ds) = kdel (krep b ds) (ah (wmk v' (N % 3 + 1)) (krep b ds)) (if kH (krep b ds) (wmk v' (N % 3 + 1)) then 1 else 0) := rfl
        rw [e, if_pos cH]; exact i2
      obtain ⟨ra, rk, f1, f2, f3, f4, f5, f6⟩ := fin 2 t' (by omega) (fun z => by omega) i2'
      have f1' : fX0_add (2 : Int32) (nI (wmk v' (N % 3 + 1))) (nI (N / 8 % 1000)) dz dk dw dv = some ra := f1
      have f2' : fX1_apply (2 : Int32) (nI (wmk v' (N % 3 + 1))) (nI (N / 8 % 1000)) sz w v = some rk := f2
      rw [if_pos cH, if_neg (show ¬ (1 : Int32) = 0 by decide), Option.bind_some, gd_ok (by decide), gd_ok (by decide), gl_eq, e8, e81, f1', Option.bind_some, f2', Option.bind_some, if_pos cH, if_neg (nI_ne9 (by omega)), i1, Option.bind_some]
      refine ⟨_, _, _, _, rfl, rfl, rfl, f3, f4, f5, f6, pastM_snoc hh hM hp _, by rw [List.length_append]; rfl⟩
    · obtain ⟨ra, rk, f1, f2, f3, f4, f5, f6⟩ := fin 0 now (by omega) (fun z => by omega) hM
      have f1' : fX0_add (0 : Int32) (nI (wmk v' (N % 3 + 1))) (nI (N / 8 % 1000)) dz dk dw dv = some ra := f1
      have f2' : fX1_apply (0 : Int32) (nI (wmk v' (N % 3 + 1))) (nI (N / 8 % 1000)) sz w v = some rk := f2
      rw [if_neg cH, if_pos (show (0 : Int32) = 0 from rfl), Option.bind_some, gd_ok (by decide), gd_ok (by decide), gl_eq, e8, e81, f1', Option.bind_some, f2', Option.bind_some, if_neg cH, if_pos (show (-9 : Int32) = -9 from rfl)]
      refine ⟨_, _, _, _, rfl, rfl, rfl, f3, f4, f5, f6, pastM_snoc hh hM hp _, by rw [List.length_append]; rfl⟩
theorem n_lots_L {b : KL} {n : Nat} (hn : n ≤ 20) : ∀ (m F i N : Nat) (ds : List DD) (sz : Int32) (w v : Nat → Int32) (dz : Int32) (dk dw dv now past : Nat → Int32), n - i = m → m < F → i ≤ n → N < 2147483647 → ds.length + (n - i) ≤ 40 → hok b ds → keyC (krep b ds) sz w v → dC ds dz dk dw dv → keyM (krep b ds) now → pastM b ds past → ∃ (ds' : List DD) (rn : Int32 × Int32 × (Nat → Int32) × (Nat → Int32) × (Nat → Int32) × (Nat → Int32) × (Nat → Int32)) (rm : Int32 × (Nat → Int32) × (Nat → Int32)), fX7_lots_L50 (nI n) F (lN N) (nI i) dz sz w dk dw dv v = some rn ∧ fX8_lots_L46 (nI n) F (lN N) (nI i) (nI ds.length) now past = some rm ∧ hok b ds' ∧ keyC (krep b ds') rn.2.1 rn.2.2.1 rn.2.2.2.2.2.2 ∧ dC ds' rn.1 rn.2.2.2.1 rn.2.2.2.2.1 rn.2.2.2.2.2.1 ∧ keyM (krep b ds') rm.2.1 ∧ pastM b ds' rm.2.2 ∧ rm.1 = nI ds'.length
  | m, 0, i, N, ds, _, _, _, _, _, _, _, _, _, _, hF, _, _, _, _, _, _, _, _ => absurd hF (Nat.not_lt_zero m)
  | m, F + 1, i, N, ds, sz, w, v, dz, dk, dw, dv, now, past, hm, hF, hi, hN, hroom, hh, hC, hd, hM, hp => by
    rw [fX7_lots_L50, fX8_lots_L46]
    by_cases c : i < n
    · have em : lN N * (48271 : Int64) = lN (N * 48271) := by rw [show (48271 : Int64) = lN 48271 from rfl, lN_mul]
      have er := l_rem (a := N * 48271) (d := 2147483647) (x := 2147483647) rfl (by omega) (by omega) (by omega)
      have hN2 : N * 48271 % 2147483647 < 2147483647 := Nat.mod_lt _ (by omega)
      obtain ⟨d, rn, rp, now', a1, a2, a3, a4, a5, a6, a7, a8, a9⟩ := n_lot hh hC hd hM hp (by omega) (N := N * 48271 % 2147483647) (by omega)
      have hlen : (ds ++ [d]).length = ds.length + 1 := by rw [List.length_append]; rfl
      rw [if_neg (nI_ge c (by omega)), if_neg (nI_ge c (by omega)), gdL_ok (by decide), gl_eq, gdL_ok (by decide), gl_eq, em, er, lN_i, a1, Option.bind_some, a2, Option.bind_some, a3, Option.bind_some, gl_eq, gl_eq, nI_1, a9]
      exact n_lots_L hn (m - 1) F (i + 1) (N * 48271 % 2147483647) (ds ++ [d]) _ _ _ _ _ _ _ _ _ (by omega) (by omega) c hN2 (by omega) a4 a5 a6 a7 a8
    · rw [if_pos (nI_le (by omega) (by omega)), if_pos (nI_le (by omega) (by omega))]
      exact ⟨ds, _, _, rfl, rfl, hh, hC, hd, hM, hp, rfl⟩
theorem e_lots {b : KL} {bz : Int32} {bw bv : Nat → Int32} {sz : Int32} {w v : Nat → Int32} {dz : Int32} {dk dw dv ch : Nat → Int32} {nz : Int32} {P C Pf D Fr Ti : Nat → Int32} {md : Int32} {now past mch : Nat → Int32} (h : IX b bz bw bv sz w v dz dk dw dv ch nz P C Pf D Fr Ti md now past mch) (a1 a2 : Int32) : ∃ rn rm, fX7_lots a1 a2 dz sz w dk dw dv v nz P Pf D Fr Ti C ch = some rn ∧ fX8_lots a1 a2 md now past mch = some rm ∧ rn.1 = rm.1 ∧ IX b bz bw bv rn.2.2.1 rn.2.2.2.1 rn.2.2.2.2.2.2.2.1 rn.2.1 rn.2.2.2.2.1 rn.2.2.2.2.2.1 rn.2.2.2.2.2.2.1 rn.2.2.2.2.2.2.2.2.2.2.2.2.2.2.2 rn.2.2.2.2.2.2.2.2.1 rn.2.2.2.2.2.2.2.2.2.1 rn.2.2.2.2.2.2.2.2.2.2.2.2.2.2.1 rn.2.2.2.2.2.2.2.2.2.2.1 rn.2.2.2.2.2.2.2.2.2.2.2.1 rn.2.2.2.2.2.2.2.2.2.2.2.2.1 rn.2.2.2.2.2.2.2.2.2.2.2.2.2.1 rm.2.1 rm.2.2.1 rm.2.2.2.1 rm.2.2.2.2 := by
  obtain ⟨ds, ns, hh, hB, hC, hd, hN, hch, rfl, hM, hp⟩ := h
  obtain rfl : dz = nI ds.length := hd.1
  have hI : IX b bz bw bv sz w v (nI ds.length) dk dw dv ch nz P C Pf D Fr Ti (nI ds.length) now past mch := ⟨ds, ns, hh, hB, hC, hd, hN, hch, rfl, hM, hp⟩
  have hg := hok_all hh
  have h40 := hh.2.1
  unfold fX7_lots fX8_lots
  rw [show (20 : Int64) = (20 : Int32).toInt64 by decide, show (1 : Int64) = (1 : Int32).toInt64 by decide, show (2147483646 : Int64) = (2147483646 : Int32).toInt64 by decide]
  have one : ∀ x : Int32, ¬ x < 1 → ¬ x < 0 := fun x hx => by
    have n1 := fa_of_nlt hx
    rw [fa_lt]; rw [fa_le] at n1
    have e0 : (0 : Int32).toInt = 0 := rfl
    have e9 : (1 : Int32).toInt = 1 := rfl
    omega
  by_cases c1 : a1 < 1
  · rw [if_pos c1, in_f (fun z => (fa_of_lt c1).2.1 z.1), Option.bind_some, if_pos rfl]
    exact ⟨_, _, rfl, rfl, rfl, hI⟩
  · rw [if_neg c1]
    by_cases c2 : (20 : Int32) < a1
    · rw [if_pos c2, in_f (fun z => (fa_of_lt c2).2.1 z.2), Option.bind_some, if_pos rfl]
      exact ⟨_, _, rfl, rfl, rfl, hI⟩
    · obtain ⟨n, hn, rfl⟩ := nI_of2 (M := 20) (n := 20) rfl (one a1 c1) (fa_of_nlt c2)
      rw [if_neg c2, in_t ⟨fa_of_nlt c1, fa_of_nlt c2⟩, Option.bind_some, if_neg (show ¬ (1 : Int32) = 0 by decide)]
      by_cases c3 : a2 < 1
      · rw [if_pos c3, in_f (fun z => (fa_of_lt c3).2.1 z.1), Option.bind_some, if_pos rfl]
        exact ⟨_, _, rfl, rfl, rfl, hI⟩
      · obtain ⟨s, hs, rfl⟩ := nI_of (x := a2) (one a2 c3)
        have ecmp : (lg_cmp ((nI s).toInt64) (2147483647 : Int64) < 0) ↔ s < 2147483647 := by
          rw [lg_cmp_lt, nI_l hs, show (2147483647 : Int64) = lN 2147483647 from rfl, pk_lLT (by omega) (by omega)]
        have ein : ((1 : Int32) ≤ nI s ∧ nI s ≤ (2147483646 : Int32)) ↔ s < 2147483647 := by
          have z : (nI s ≤ (2147483646 : Int32)) ↔ s ≤ 2147483646 := nI_leI (b := 2147483646) hs (by omega)
          constructor
          · intro y; have := z.mp y.2; omega
          · intro y; exact ⟨fa_of_nlt c3, z.mpr (by omega)⟩
        rw [if_neg c3]
        by_cases c4 : s < 2147483647
        · rw [if_pos (ecmp.mpr c4), in_t (ein.mpr c4), Option.bind_some, if_neg (show ¬ (1 : Int32) = 0 by decide), nI_add]
          by_cases c5 : ds.length + n ≤ 40
          · have ef : nI (ds.length + n) ≤ (40 : Int32) := nI_le (b := 40) c5 (by omega)
            obtain ⟨ds', rn, rm, l1, l2, l3, l4, l5, l6, l7, l8⟩ := n_lots_L hn n gF 0 s ds sz w v (nI ds.length) dk dw dv now past (Nat.sub_zero _) (by unfold gF; omega) (Nat.zero_le _) c4 (by omega) hh hC hd hM hp
            rw [nI_0] at l1 l2
            obtain ⟨r', ns', c', s1, s2, s3⟩ := n_settle l4 (hok_all l3) P Pf D Fr Ti C ch
            obtain ⟨m', m1, m2⟩ := n_noch mch
            rw [if_pos ef, if_pos ef, gl_eq, gl_eq, nI_l hs, l1, Option.bind_some, s1, Option.bind_some, l2, Option.bind_some, m1, Option.bind_some, gx_0 (by omega) (by omega), cl_0]
            refine ⟨_, _, rfl, rfl, l4.1.trans l6.1.symm, ds', ns', l3, hB, l4, l5, s2, fun k hk => (s3 k hk).trans (m2 k hk).symm, l8, l6, l7⟩
          · have ef : ¬ nI (ds.length + n) ≤ (40 : Int32) := nI_ge (a := 40) (by omega) (by omega)
            rw [if_neg ef, if_neg ef]
            exact ⟨_, _, rfl, rfl, rfl, hI⟩
        · rw [if_neg (fun z => c4 (ecmp.mp z)), in_f (fun z => c4 (ein.mp z)), Option.bind_some, if_pos rfl]
          exact ⟨_, _, rfl, rfl, rfl, hI⟩
