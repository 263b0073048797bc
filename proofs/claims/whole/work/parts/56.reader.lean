/-! reading an index -/
def hexv (x : Int32) : Option Nat := if 48 ≤ x ∧ x ≤ 57 then some (x - 48).toNatClampNeg else if 97 ≤ x ∧ x ≤ 102 then some (x - 87).toNatClampNeg else none
theorem n_lit {x : Int32} {a b : Nat} (ha : a < 2 ^ 31) (hb : b < 2 ^ 31) (h : nI a ≤ x ∧ x ≤ nI b) : ∃ k, a ≤ k ∧ k ≤ b ∧ x = nI k := by
  obtain ⟨h1, h2⟩ := h
  have h0 : ¬ x < 0 := by
    rw [fa_lt]; rw [fa_le, nI_toInt ha] at h1
    have e0 : (0 : Int32).toInt = 0 := rfl
    omega
  obtain ⟨k, hk, rfl⟩ := nI_of h0
  exact ⟨k, (nI_leI ha hk).mp h1, (nI_leI hk hb).mp h2, rfl⟩
theorem hexv_spec (x : Int32) : (∃ v, v < 10 ∧ hexv x = some v ∧ x = nI (48 + v)) ∨ (∃ v, 10 ≤ v ∧ v < 16 ∧ hexv x = some v ∧ x = nI (87 + v)) ∨ (hexv x = none ∧ ¬ (48 ≤ x ∧ x ≤ 57) ∧ ¬ (97 ≤ x ∧ x ≤ 102)) := by
  unfold hexv
  by_cases c1 : 48 ≤ x ∧ x ≤ 57
  · left
    obtain ⟨k, k1, k2, rfl⟩ := n_lit (a := 48) (b := 57) (by omega) (by omega) c1
    have e : nI k - (48 : Int32) = nI (k - 48) := pk_sub (a := k) (b := 48) k1
    refine ⟨k - 48, by omega, ?_, by rw [show 48 + (k - 48) = k by omega]⟩
    rw [if_pos c1, e, nI_clamp (by omega)]
  · rw [if_neg c1]
    by_cases c2 : 97 ≤ x ∧ x ≤ 102
    · right; left
      obtain ⟨k, k1, k2, rfl⟩ := n_lit (a := 97) (b := 102) (by omega) (by omega) c2
      have e : nI k - (87 : Int32) = nI (k - 87) := pk_sub (a := k) (b := 87) (by omega)
      refine ⟨k - 87, by omega, by omega, ?_, by rw [show 87 + (k - 87) = k by omega]⟩
      rw [if_pos c2, e, nI_clamp (by omega)]
    · right; right
      rw [if_neg c2]
      exact ⟨rfl, c1, c2⟩
def oI (d : Int32) : Option Nat → Int32
  | none => d
  | some v => nI v
theorem nlt_of_nle {a b : Int32} (h : ¬ a ≤ b) : b < a := by
  rw [fa_lt]; rw [fa_le] at h; omega
theorem n_fig4 (x : Int32) : fX4_figureOf x = some (oI (-1) (hexv x)) := by
  unfold fX4_figureOf fX4_figureOf_J17
  rcases hexv_spec x with ⟨v, h1, h2, rfl⟩ | ⟨v, h1, h2, h3, rfl⟩ | ⟨h1, h2, h3⟩
  · have e : nI (48 + v) - (48 : Int32) = nI v := (pk_sub (a := 48 + v) (b := 48) (by omega)).trans (congrArg nI (by omega))
    rw [if_neg (show ¬ nI (48 + v) < (48 : Int32) from nI_nlt (b := 48) (by omega) (by omega)), if_neg (show ¬ (57 : Int32) < nI (48 + v) from nI_nlt (a := 57) (by omega) (by omega)), h2, e]
    rfl
  · have e : nI (87 + v) - (97 : Int32) + (10 : Int32) = nI v := by
      have e1 : nI (87 + v) - (97 : Int32) = nI (87 + v - 97) := pk_sub (a := 87 + v) (b := 97) (by omega)
      rw [e1]
      exact (nI_add (87 + v - 97) 10).trans (congrArg nI (by omega))
    rw [if_neg (show ¬ nI (87 + v) < (48 : Int32) from nI_nlt (b := 48) (by omega) (by omega)), if_pos (show (57 : Int32) < nI (87 + v) from nI_lt (a := 57) (by omega) (by omega)), if_neg (show ¬ nI (87 + v) < (97 : Int32) from nI_nlt (b := 97) (by omega) (by omega)), if_neg (show ¬ (102 : Int32) < nI (87 + v) from nI_nlt (a := 102) (by omega) (by omega)), h3, e]
    rfl
  · rw [h1]
    have hj : (if x < (97 : Int32) then (some (-1 : Int32)) else (if (102 : Int32) < x then (some (-1 : Int32)) else (some ((x - (97 : Int32)) + (10 : Int32))))) = some (-1) := by
      by_cases c : x < 97
      · rw [if_pos c]
      · rw [if_neg c]
        by_cases c2 : (102 : Int32) < x
        · rw [if_pos c2]
        · exact absurd ⟨fa_of_nlt c, fa_of_nlt c2⟩ h3
    rw [hj]
    by_cases c : x < 48
    · rw [if_pos c]; rfl
    · rw [if_neg c]
      by_cases c2 : (57 : Int32) < x
      · rw [if_pos c2]; rfl
      · exact absurd ⟨fa_of_nlt c, fa_of_nlt c2⟩ h2
theorem in_48 (x : Int32) : fX8_in (x.toInt64) (48 : Int64) (57 : Int64) = some (if 48 ≤ x ∧ x ≤ 57 then 1 else 0) := by
  rw [show (48 : Int64) = (48 : Int32).toInt64 by decide, show (57 : Int64) = (57 : Int32).toInt64 by decide, n_in8]
theorem in_97 (x : Int32) : fX8_in (x.toInt64) (97 : Int64) (102 : Int64) = some (if 97 ≤ x ∧ x ≤ 102 then 1 else 0) := by
  rw [show (97 : Int64) = (97 : Int32).toInt64 by decide, show (102 : Int64) = (102 : Int32).toInt64 by decide, n_in8]
theorem n_hex8 (x : Int32) : fX8_hexOf x = some (oI (-9) (hexv x)) := by
  unfold fX8_hexOf
  rw [in_48, Option.bind_some, in_97, Option.bind_some]
  rcases hexv_spec x with ⟨v, h1, h2, rfl⟩ | ⟨v, h1, h2, h3, rfl⟩ | ⟨h1, h2, h3⟩
  · have e : nI (48 + v) - (48 : Int32) = nI v := (pk_sub (a := 48 + v) (b := 48) (by omega)).trans (congrArg nI (by omega))
    have c : (48 : Int32) ≤ nI (48 + v) ∧ nI (48 + v) ≤ 57 := ⟨nI_le (a := 48) (by omega) (by omega), nI_le (b := 57) (by omega) (by omega)⟩
    rw [if_pos c, if_neg (show ¬ (1 : Int32) = 0 by decide), h2, e]
    rfl
  · have e : nI (87 + v) - (87 : Int32) = nI v := (pk_sub (a := 87 + v) (b := 87) (by omega)).trans (congrArg nI (by omega))
    have c : ¬ ((48 : Int32) ≤ nI (87 + v) ∧ nI (87 + v) ≤ 57) := fun z => absurd z.2 (nI_ge (a := 57) (by omega) (by omega))
    have c2 : (97 : Int32) ≤ nI (87 + v) ∧ nI (87 + v) ≤ 102 := ⟨nI_le (a := 97) (by omega) (by omega), nI_le (b := 102) (by omega) (by omega)⟩
    rw [if_neg c, if_pos (show (0 : Int32) = 0 from rfl), if_pos c2, if_neg (show ¬ (1 : Int32) = 0 by decide), h3, e]
    rfl
  · rw [if_neg h2, if_pos (show (0 : Int32) = 0 from rfl), if_neg h3, if_pos (show (0 : Int32) = 0 from rfl), h1]
    rfl
/-- a text of n signs, on both sides -/
def txR (r n : Nat) (sg msz mr : Nat → Int32) : Prop := r < 4 ∧ n ≤ 90 ∧ msz r = nI n ∧ ∀ i, i < n → sg i = mr (90 * r + i)
def hxp (n : Nat) (sg : Nat → Int32) (p : Nat) : Option Nat := if p < n then hexv (sg p) else none
theorem hexv_256 : hexv 256 = none := by decide
theorem hexv_m1000 : hexv (-1000) = none := by decide
theorem n_sign {n p : Nat} (hn : n ≤ 90) (hp : p < 2 ^ 30) (sg : Nat → Int32) : fX4_sign (nI n) (nI p) sg = some (if p < n then sg p else 256) := by
  unfold fX4_sign
  by_cases c : p < n
  · rw [if_neg (nI_ge c (by omega)), gx_n (by omega) (by omega), if_pos c, nI_clamp (by omega)]
  · rw [if_pos (nI_le (by omega) (by omega)), if_neg c]
theorem n_here {r n p : Nat} {sg msz mr : Nat → Int32} (h : txR r n sg msz mr) (hp : p < 2 ^ 30) : fX8_here (nI r) (nI p) msz mr = some (if p < n then sg p else -1000) := by
  obtain ⟨h1, h2, h3, h4⟩ := h
  unfold fX8_here
  rw [gx_n h1 (by omega), nI_clamp (show r < 2 ^ 31 by omega), h3]
  by_cases c : p < n
  · have ei : (90 : Int32) * nI r + nI p = nI (90 * r + p) := by rw [show (90 : Int32) = nI 90 from rfl, pk_mul, nI_add]
    rw [if_neg (nI_ge c (by omega)), ei, gx_n (by omega) (by omega), if_pos c, nI_clamp (by omega), h4 p c]
  · rw [if_pos (nI_le (by omega) (by omega)), if_neg c]
theorem hx_6 {n p : Nat} (sg : Nat → Int32) : hexv (if p < n then sg p else 256) = hxp n sg p := by
  unfold hxp
  by_cases c : p < n
  · rw [if_pos c, if_pos c]
  · rw [if_neg c, if_neg c, hexv_256]
theorem hx_8 {n p : Nat} (sg : Nat → Int32) : hexv (if p < n then sg p else -1000) = hxp n sg p := by
  unfold hxp
  by_cases c : p < n
  · rw [if_pos c, if_pos c]
  · rw [if_neg c, if_neg c, hexv_m1000]
theorem hxp_lt {n p v : Nat} {sg : Nat → Int32} (h : hxp n sg p = some v) : p < n ∧ v < 16 := by
  unfold hxp at h
  by_cases c : p < n
  · rw [if_pos c] at h
    refine ⟨c, ?_⟩
    rcases hexv_spec (sg p) with ⟨u, h1, h2, -⟩ | ⟨u, h1, h2, h3, -⟩ | ⟨h1, -⟩
    · rw [h2] at h; injection h with h; omega
    · rw [h3] at h; injection h with h; omega
    · rw [h1] at h; cases h
  · rw [if_neg c] at h; cases h
theorem oI_neg : (-1 : Int32) < 0 ∧ (-9 : Int32) < 0 := by decide
/-! a word -/
theorem rd_word {r n p : Nat} {sg msz mr : Nat → Int32} (h : txR r n sg msz mr) (hp : p ≤ n) (nx : Int32) (rd : Nat → Int32) : ∀ (m F F' k v : Nat), 6 - k = m → m < F → m < F' → k ≤ 6 → v < 16 ^ k → p + k ≤ n → ∃ k' v', k ≤ k' ∧ k' ≤ 6 ∧ v' < 16 ^ k' ∧ p + k' ≤ n ∧ fX4_readNumber_L5 (6 : Int32) (nI n) sg (16 : Int32) F (nI v) (nI k) (nI (p + k)) = some (nI v', nI (p + k')) ∧ ((hxp n sg (p + k') = none ∧ fX8_readsItem_L8 (nI r) msz mr nx rd (nI p) F' (nI (p + k)) (nI v) (nI k) = fX8_readsItem_J55 nx rd (nI p) (nI r) msz mr (nI (p + k')) (nI v') (nI k')) ∨ (k' = 6 ∧ (∃ u, hxp n sg (p + 6) = some u) ∧ fX8_readsItem_L8 (nI r) msz mr nx rd (nI p) F' (nI (p + k)) (nI v) (nI k) = some (nI (p + 6), nx, rd)))
  | m, 0, F', k, v, _, hF, _, _, _, _ => absurd hF (Nat.not_lt_zero m)
  | m, F + 1, 0, k, v, _, _, hF', _, _, _ => absurd hF' (Nat.not_lt_zero m)
  | m, F + 1, F' + 1, k, v, hm, hF, hF', hk, hv, hpk => by
    have hn := h.2.1
    rw [fX4_readNumber_L5, fX8_readsItem_L8, n_sign hn (by omega), n_here h (by omega), Option.bind_some, Option.bind_some, n_fig4, n_hex8, hx_6, hx_8, Option.bind_some, Option.bind_some, Option.bind_some, n_hex8, hx_8, Option.bind_some]
    cases hx : hxp n sg (p + k) with
    | none =>
      refine ⟨k, v, Nat.le_refl _, hk, hv, hpk, ?_, Or.inl ⟨hx, ?_⟩⟩
      · by_cases c : k < 6
        · rw [if_neg (show ¬ (6 : Int32) ≤ nI k from nI_ge (b := 6) c (by omega)), if_pos (show oI (-1) none < 0 from oI_neg.1)]
        · rw [if_pos (show (6 : Int32) ≤ nI k from nI_le (a := 6) (by omega) (by omega))]
      · rw [if_pos (show oI (-9) none < 0 from oI_neg.2)]
    | some u =>
      obtain ⟨hx1, hx2⟩ := hxp_lt hx
      by_cases c : k < 6
      · have e16 : nI v * (16 : Int32) + nI u = nI (v * 16 + u) := (congrArg (· + nI u) (pk_mul v 16)).trans (nI_add _ _)
        have e16' : (16 : Int32) * nI v + nI u = nI (v * 16 + u) := ((congrArg (· + nI u) (pk_mul 16 v)).trans (nI_add _ _)).trans (congrArg nI (by omega))
        have hv2 : v * 16 + u < 16 ^ (k + 1) := by rw [Nat.pow_succ]; omega
        obtain ⟨k', v', a1, a2, a3, a4, a5, a6⟩ := rd_word h hp nx rd (m - 1) F F' (k + 1) (v * 16 + u) (by omega) (by omega) (by omega) (by omega) hv2 (by omega)
        rw [if_neg (show ¬ (6 : Int32) ≤ nI k from nI_ge (b := 6) c (by omega)), if_neg (show ¬ oI (-1) (some u) < 0 from nI_pos (by omega)), if_pos (show oI (-1) (some u) < (16 : Int32) from nI_lt (b := 16) hx2 (by omega)), gl_eq, gl_eq, gl_eq, if_neg (show ¬ oI (-9) (some u) < 0 from nI_pos (by omega)), if_neg (show ¬ nI k = (6 : Int32) from fun e => by have := (nI_eq (b := 6) (by omega) (by omega)).mp e; omega), gl_eq, gl_eq, gl_eq, nI_1, nI_1]
        rw [← Nat.add_assoc] at a5 a6
        refine ⟨k', v', by omega, a2, a3, a4, ?_, ?_⟩
        · rw [← a5, ← e16]; rfl
        · rw [← e16'] at a6; exact a6
      · have hk6 : k = 6 := by omega
        subst hk6
        refine ⟨6, v, Nat.le_refl _, Nat.le_refl _, hv, hpk, ?_, Or.inr ⟨rfl, ⟨u, hx⟩, ?_⟩⟩
        · rw [if_pos (show (6 : Int32) ≤ nI 6 from nI_le (a := 6) (by omega) (by omega))]
        · rw [if_neg (show ¬ oI (-9) (some u) < 0 from nI_pos (by omega)), if_pos (show nI 6 = (6 : Int32) from rfl)]
/-! a value -/
def dgp (n : Nat) (sg : Nat → Int32) (p : Nat) : Prop := p < n ∧ 48 ≤ sg p ∧ sg p ≤ 57
theorem dg_case (n : Nat) (sg : Nat → Int32) (p : Nat) : (∃ u, u < 10 ∧ p < n ∧ sg p = nI (48 + u) ∧ hxp n sg p = some u) ∨ (¬ dgp n sg p ∧ (hxp n sg p = none ∨ ∃ u, 10 ≤ u ∧ u < 16 ∧ hxp n sg p = some u)) := by
  unfold hxp dgp
  by_cases c : p < n
  · rw [if_pos c]
    rcases hexv_spec (sg p) with ⟨u, h1, h2, h3⟩ | ⟨u, h1, h2, h3, h4⟩ | ⟨h1, h2, h3⟩
    · left; exact ⟨u, h1, c, h3, h2⟩
    · right
      refine ⟨fun z => ?_, Or.inr ⟨u, h1, h2, h3⟩⟩
      rw [h4] at z
      exact absurd z.2.2 (nI_ge (a := 57) (by omega) (by omega))
    · right; exact ⟨fun z => h2 z.2, Or.inl h1⟩
  · right; rw [if_neg c]; exact ⟨fun z => c z.1, Or.inl rfl⟩
theorem in_here_t {n p : Nat} {sg : Nat → Int32} (h : dgp n sg p) : fX8_in ((if p < n then sg p else (-1000 : Int32)).toInt64) (48 : Int64) (57 : Int64) = some 1 := by
  rw [in_48, if_pos h.1, if_pos h.2]
theorem in_here_f {n p : Nat} {sg : Nat → Int32} (h : ¬ dgp n sg p) : fX8_in ((if p < n then sg p else (-1000 : Int32)).toInt64) (48 : Int64) (57 : Int64) = some 0 := by
  rw [in_48]
  by_cases c : p < n
  · rw [if_pos c, if_neg (fun z => h ⟨c, z⟩)]
  · rw [if_neg c, if_neg (by decide)]
theorem rd_val {r n q : Nat} {sg msz mr : Nat → Int32} (h : txR r n sg msz mr) (hq : q ≤ n) (nx : Int32) (rd : Nat → Int32) (wv wn : Int32) : ∀ (m F F' k v : Nat), 3 - k = m → m < F → m < F' → k ≤ 3 → v < 10 ^ k → q + k ≤ n → ∃ k' v', k ≤ k' ∧ k' ≤ 3 ∧ v' < 10 ^ k' ∧ q + k' ≤ n ∧ fX4_readNumber_L5 (3 : Int32) (nI n) sg (10 : Int32) F (nI v) (nI k) (nI (q + k)) = some (nI v', nI (q + k')) ∧ (fX8_readsItem_L116 (nI r) msz mr nx rd wv wn F' (nI (q + k)) (nI v) (nI k) = fX8_readsItem_J169 nx rd (nI r) msz mr wv wn (nI (q + k')) (nI v') (nI k') ∨ (k' = 3 ∧ (∃ u, u < 10 ∧ q + 3 < n ∧ sg (q + 3) = nI (48 + u)) ∧ fX8_readsItem_L116 (nI r) msz mr nx rd wv wn F' (nI (q + k)) (nI v) (nI k) = some (nI (q + 3), nx, rd)))
  | m, 0, F', k, v, _, hF, _, _, _, _ => absurd hF (Nat.not_lt_zero m)
  | m, F + 1, 0, k, v, _, _, hF', _, _, _ => absurd hF' (Nat.not_lt_zero m)
  | m, F + 1, F' + 1, k, v, hm, hF, hF', hk, hv, hpk => by
    have hn := h.2.1
    rw [fX4_readNumber_L5, fX8_readsItem_L116, n_sign hn (by omega), n_here h (by omega), Option.bind_some, Option.bind_some, n_fig4, hx_6, Option.bind_some]
    rcases dg_case n sg (q + k) with ⟨u, hu, hlt, hs, hx⟩ | ⟨hd, hx⟩
    · have hdg : dgp n sg (q + k) := ⟨hlt, by rw [hs]; exact nI_le (a := 48) (by omega) (by omega), by rw [hs]; exact nI_le (b := 57) (by omega) (by omega)⟩
      rw [hx, in_here_t hdg, Option.bind_some, if_neg (show ¬ (1 : Int32) = 0 by decide), Option.bind_some, if_pos hlt, hs]
      by_cases c : k < 3
      · have e10 : nI v * (10 : Int32) + nI u = nI (v * 10 + u) := (congrArg (· + nI u) (pk_mul v 10)).trans (nI_add _ _)
        have e10' : (10 : Int32) * nI v + nI (48 + u) - (48 : Int32) = nI (v * 10 + u) := by
          have z1 : (10 : Int32) * nI v + nI (48 + u) = nI (10 * v + (48 + u)) := (congrArg (· + nI (48 + u)) (pk_mul 10 v)).trans (nI_add _ _)
          rw [z1]
          exact (pk_sub (a := 10 * v + (48 + u)) (b := 48) (by omega)).trans (congrArg nI (by omega))
        have hv2 : v * 10 + u < 10 ^ (k + 1) := by rw [Nat.pow_succ]; omega
        obtain ⟨k', v', a1, a2, a3, a4, a5, a6⟩ := rd_val h hq nx rd wv wn (m - 1) F F' (k + 1) (v * 10 + u) (by omega) (by omega) (by omega) (by omega) hv2 (by omega)
        rw [if_neg (show ¬ (3 : Int32) ≤ nI k from nI_ge (b := 3) c (by omega)), if_neg (show ¬ oI (-1) (some u) < 0 from nI_pos (by omega)), if_pos (show oI (-1) (some u) < (10 : Int32) from nI_lt (b := 10) hu (by omega)), gl_eq, gl_eq, gl_eq, if_neg (show ¬ nI k = (3 : Int32) from fun e => by have := (nI_eq (b := 3) (by omega) (by omega)).mp e; omega), gl_eq, gl_eq, gl_eq, nI_1, nI_1, e10']
        rw [← Nat.add_assoc] at a5 a6
        refine ⟨k', v', by omega, a2, a3, a4, ?_, a6⟩
        rw [← a5, ← e10]; rfl
      · have hk3 : k = 3 := by omega
        subst hk3
        refine ⟨3, v, Nat.le_refl _, Nat.le_refl _, hv, hpk, ?_, Or.inr ⟨rfl, ⟨u, hu, hlt, hs⟩, ?_⟩⟩
        · rw [if_pos (show (3 : Int32) ≤ nI 3 from nI_le (a := 3) (by omega) (by omega))]
        · rw [if_pos (show nI 3 = (3 : Int32) from rfl)]
    · refine ⟨k, v, Nat.le_refl _, hk, hv, hpk, ?_, Or.inl ?_⟩
      · by_cases c : k < 3
        · rw [if_neg (show ¬ (3 : Int32) ≤ nI k from nI_ge (b := 3) c (by omega))]
          rcases hx with e | ⟨u, u1, u2, e⟩
          · rw [e, if_pos (show oI (-1) none < 0 from oI_neg.1)]
          · rw [e, if_neg (show ¬ oI (-1) (some u) < 0 from nI_pos (by omega)), if_neg (show ¬ oI (-1) (some u) < (10 : Int32) from nI_nlt (b := 10) u1 (by omega))]
        · rw [if_pos (show (3 : Int32) ≤ nI k from nI_le (a := 3) (by omega) (by omega))]
      · rw [in_here_f hd, Option.bind_some, if_pos rfl]
