/-! how many unlike ones, how many with a twin -/
abbrev GV : Type := List (Nat × Nat)
def eqv (g : Nat → GV) (xs : List Nat) (k e : Nat) : Bool := decide (g (xs.getD k 0) = g (xs.getD e 0))
def fiv (g : Nat → GV) (xs : List Nat) (k : Nat) : Bool := decide (fb_ct (eqv g xs k) k = 0)
def htv (g : Nat → GV) (xs : List Nat) (k : Nat) : Bool := decide (0 < fb_ct (fun e => if e = k then false else eqv g xs k e) xs.length)
/-- how many different ones -/
def dcnt : List GV → Nat
  | [] => 0
  | x :: t => (if x ∈ t then 0 else 1) + dcnt t
theorem dcnt_perm {xs ys : List GV} (h : xs.Perm ys) : dcnt xs = dcnt ys := by
  induction h with
  | nil => rfl
  | @cons x l1 l2 h ih =>
    show (if x ∈ _ then 0 else 1) + dcnt _ = (if x ∈ _ then 0 else 1) + dcnt _
    rw [ih]
    congr 1
    by_cases c : x ∈ l1
    · rw [if_pos c, if_pos (h.mem_iff.mp c)]
    · rw [if_neg c, if_neg (fun z => c (h.mem_iff.mpr z))]
  | swap x y t =>
    show (if y ∈ x :: t then 0 else 1) + ((if x ∈ t then 0 else 1) + dcnt t) = (if x ∈ y :: t then 0 else 1) + ((if y ∈ t then 0 else 1) + dcnt t)
    by_cases e : x = y
    · subst e; rfl
    · have e1 : (y ∈ x :: t) ↔ y ∈ t := by
        rw [List.mem_cons]
        exact ⟨fun z => z.resolve_left (fun w => e w.symm), Or.inr⟩
      have e2 : (x ∈ y :: t) ↔ x ∈ t := by
        rw [List.mem_cons]
        exact ⟨fun z => z.resolve_left e, Or.inr⟩
      by_cases c1 : y ∈ t
      · by_cases c2 : x ∈ t
        · rw [if_pos (e1.mpr c1), if_pos c2, if_pos (e2.mpr c2), if_pos c1]
        · rw [if_pos (e1.mpr c1), if_neg c2, if_neg (fun z => c2 (e2.mp z)), if_pos c1]; omega
      · by_cases c2 : x ∈ t
        · rw [if_neg (fun z => c1 (e1.mp z)), if_pos c2, if_pos (e2.mpr c2), if_neg c1]; omega
        · rw [if_neg (fun z => c1 (e1.mp z)), if_neg c2, if_neg (fun z => c2 (e2.mp z)), if_neg c1]
  | trans _ _ ih1 ih2 => exact ih1.trans ih2
theorem map_at (g : Nat → GV) (xs : List Nat) {i : Nat} (h : i < xs.length) : (xs.map g)[i]? = some (g (xs.getD i 0)) := by
  rw [List.getElem?_map, List.getD_eq_getElem?_getD, List.getElem?_eq_getElem h]
  rfl
theorem fiv_ct (g : Nat → GV) (xs : List Nat) : ∀ i, i ≤ xs.length → fb_ct (fiv g xs) i = dcnt (((xs.map g).take i).reverse)
  | 0, _ => rfl
  | i + 1, h => by
    rw [fb_ct_succ, fiv_ct g xs i (by omega), List.take_succ, map_at g xs h, Option.toList_some, List.reverse_append]
    show _ = (if g (xs.getD i 0) ∈ ((xs.map g).take i).reverse then 0 else 1) + dcnt (((xs.map g).take i).reverse)
    rw [Nat.add_comm]
    congr 1
    have key : (fiv g xs i = true) ↔ ¬ g (xs.getD i 0) ∈ ((xs.map g).take i).reverse := by
      unfold fiv
      rw [decide_eq_true_iff, fb_ct_zero, List.mem_reverse]
      constructor
      · intro z hm
        obtain ⟨k, hk, e⟩ := List.getElem_of_mem hm
        rw [List.length_take] at hk
        have e2 : ((xs.map g).take i)[k]? = some (g (xs.getD i 0)) := by rw [List.getElem?_eq_getElem (by rw [List.length_take]; exact hk), e]
        rw [List.getElem?_take_of_lt (by omega), map_at g xs (by omega)] at e2
        have z2 := z k (by omega)
        unfold eqv at z2
        rw [decide_eq_false_iff_not] at z2
        exact z2 (Option.some.inj e2).symm
      · intro z k hk
        unfold eqv
        rw [decide_eq_false_iff_not]
        intro e
        apply z
        have e2 : ((xs.map g).take i)[k]? = some (g (xs.getD i 0)) := by rw [List.getElem?_take_of_lt hk, map_at g xs (by omega), e]
        exact List.mem_of_getElem? e2
    by_cases c : g (xs.getD i 0) ∈ ((xs.map g).take i).reverse
    · rw [if_pos c, if_neg (fun z => key.mp z c)]
    · rw [if_neg c, if_pos (key.mpr c)]
theorem fiv_perm (g : Nat → GV) {xs ys : List Nat} (h : xs.Perm ys) : fb_ct (fiv g xs) xs.length = fb_ct (fiv g ys) ys.length := by
  rw [fiv_ct g xs xs.length (Nat.le_refl _), fiv_ct g ys ys.length (Nat.le_refl _)]
  apply dcnt_perm
  have e1 : (xs.map g).take xs.length = xs.map g := List.take_of_length_le (by rw [List.length_map]; exact Nat.le_refl _)
  have e2 : (ys.map g).take ys.length = ys.map g := List.take_of_length_le (by rw [List.length_map]; exact Nat.le_refl _)
  rw [e1, e2]
  exact (List.reverse_perm _).trans ((h.map g).trans (List.reverse_perm _).symm)
theorem htv_eq (g : Nat → GV) (xs : List Nat) {k : Nat} (hk : k < xs.length) : htv g xs k = decide (2 ≤ xs.countP (fun q => decide (g (xs.getD k 0) = g q))) := by
  unfold htv
  have h1 := fb_ct_upd (eqv g xs k) false hk
  have h2 : fb_ct (eqv g xs k) xs.length = xs.countP (fun q => decide (g (xs.getD k 0) = g q)) := ct_list (fun q => decide (g (xs.getD k 0) = g q)) xs
  have h3 : eqv g xs k k = true := by unfold eqv; rw [decide_eq_true_iff]
  rw [h3, h2] at h1
  simp only [if_true, Bool.false_eq_true, if_false, Nat.add_zero] at h1
  apply Bool.eq_iff_iff.mpr
  rw [decide_eq_true_iff, decide_eq_true_iff]
  omega
theorem htv_perm (g : Nat → GV) {xs ys : List Nat} (h : xs.Perm ys) : fb_ct (htv g xs) xs.length = fb_ct (htv g ys) ys.length := by
  have e1 : fb_ct (htv g xs) xs.length = fb_ct (fun k => decide (2 ≤ xs.countP (fun q => decide (g (xs.getD k 0) = g q)))) xs.length := fb_ct_cong (fun k hk => htv_eq g xs hk)
  have e2 : fb_ct (htv g ys) ys.length = fb_ct (fun k => decide (2 ≤ ys.countP (fun q => decide (g (ys.getD k 0) = g q)))) ys.length := fb_ct_cong (fun k hk => htv_eq g ys hk)
  have e3 : fb_ct (fun k => decide (2 ≤ xs.countP (fun q => decide (g (xs.getD k 0) = g q)))) xs.length = xs.countP (fun x => decide (2 ≤ xs.countP (fun q => decide (g x = g q)))) := ct_list (fun x => decide (2 ≤ xs.countP (fun q => decide (g x = g q)))) xs
  have e4 : fb_ct (fun k => decide (2 ≤ ys.countP (fun q => decide (g (ys.getD k 0) = g q)))) ys.length = ys.countP (fun x => decide (2 ≤ ys.countP (fun q => decide (g x = g q)))) := ct_list (fun x => decide (2 ≤ ys.countP (fun q => decide (g x = g q)))) ys
  rw [e1, e2, e3, e4, h.countP_eq]
  congr 1
  funext x
  rw [h.countP_eq]
/-! the class's count -/
theorem n_ft_L {l : KL} {sz : Int32} {w v : Nat → Int32} (hC : keyC l sz w v) (hg : kgood l) {ns : List Nat} {r : NT} (h : nodesC l ns r) {d : Nat} (hd : d < ns.length) {a : Nat} : ∀ (m F i : Nat), ns.length - i = m → m < F → i ≤ ns.length → a ≤ i → (∀ e, a ≤ e → e < i → eqv (twL l) ns d e = false) → ∃ x, fX3_firstTwin_L7 r.1 (nI d) r.2.2.2.2.2.1 r.2.2.2.2.1 r.2.2.2.2.2.2 r.2.1 sz v w F (nI i) = some x ∧ ((x = -1 ∧ ∀ e, a ≤ e → e < ns.length → eqv (twL l) ns d e = false) ∨ ∃ e, a ≤ e ∧ e < ns.length ∧ eqv (twL l) ns d e = true ∧ x = nI e ∧ ∀ e', a ≤ e' → e' < e → eqv (twL l) ns d e' = false)
  | m, 0, i, _, hF, _, _, _ => absurd hF (Nat.not_lt_zero m)
  | m, F + 1, i, hm, hF, hi, hai, hk => by
    have hl := h.2.2.2
    have hs := nC_size h
    rw [fX3_firstTwin_L7]
    by_cases c : i < ns.length
    · rw [if_neg (by rw [hs]; exact nI_ge c (by omega)), n_tw hC hg h hd c, Option.bind_some]
      by_cases c2 : twL l (ns.getD d 0) = twL l (ns.getD i 0)
      · rw [if_pos c2, if_neg (show ¬ (1 : Int32) = 0 by decide)]
        exact ⟨_, rfl, Or.inr ⟨i, hai, c, decide_eq_true c2, rfl, hk⟩⟩
      · rw [if_neg c2, if_pos (show (0 : Int32) = 0 from rfl), gl_eq, nI_1]
        refine n_ft_L hC hg h hd (m - 1) F (i + 1) (by omega) (by omega) c (by omega) (fun e z1 z2 => ?_)
        rcases Nat.lt_or_ge e i with z | z
        · exact hk e z1 z
        · rw [show e = i by omega]; exact decide_eq_false c2
    · rw [if_pos (by rw [hs]; exact nI_le (by omega) (by omega))]
      exact ⟨_, rfl, Or.inl ⟨rfl, fun e z1 z2 => hk e z1 (by omega)⟩⟩
theorem n_ft {l : KL} {sz : Int32} {w v : Nat → Int32} (hC : keyC l sz w v) (hg : kgood l) {ns : List Nat} {r : NT} (h : nodesC l ns r) {d a : Nat} (hd : d < ns.length) (ha : a ≤ ns.length) : ∃ x, fX3_firstTwin (nI d) (nI a) r.1 r.2.2.2.2.2.1 r.2.2.2.2.1 r.2.2.2.2.2.2 r.2.1 sz v w = some x ∧ ((x = -1 ∧ ∀ e, a ≤ e → e < ns.length → eqv (twL l) ns d e = false) ∨ ∃ e, a ≤ e ∧ e < ns.length ∧ eqv (twL l) ns d e = true ∧ x = nI e ∧ ∀ e', a ≤ e' → e' < e → eqv (twL l) ns d e' = false) := by
  have hl := h.2.2.2
  unfold fX3_firstTwin
  rw [if_neg (show ¬ nI a < (0 : Int32) from nI_pos (by omega)), gl_eq]
  exact n_ft_L hC hg h hd (ns.length - a) gF a rfl (by unfold gF; omega) ha (Nat.le_refl _) (fun e z1 z2 => by omega)
theorem n_twins6_L {l : KL} {sz : Int32} {w v : Nat → Int32} (hC : keyC l sz w v) (hg : kgood l) {ns : List Nat} {r : NT} (h : nodesC l ns r) : ∀ (m F i : Nat), ns.length - i = m → m < F → i ≤ ns.length → fX7_twins_L6 r.1 r.2.2.2.2.2.1 r.2.2.2.2.1 r.2.2.2.2.2.2 r.2.1 sz v w F (nI (fb_ct (fiv (twL l) ns) i)) (nI (fb_ct (htv (twL l) ns) i)) (nI i) = some (nI (fb_ct (fiv (twL l) ns) ns.length), nI (fb_ct (htv (twL l) ns) ns.length))
  | m, 0, i, _, hF, _ => absurd hF (Nat.not_lt_zero m)
  | m, F + 1, i, hm, hF, hi => by
    have hl := h.2.2.2
    have hs := nC_size h
    rw [fX7_twins_L6]
    by_cases c : i < ns.length
    · have ih := n_twins6_L hC hg h (m - 1) F (i + 1) (by omega) (by omega) c
      rw [fb_ct_succ, fb_ct_succ] at ih
      obtain ⟨x, x1, x2⟩ := n_ft hC hg h (a := 0) c (Nat.zero_le _)
      rw [nI_0] at x1
      have hself : eqv (twL l) ns i i = true := decide_eq_true rfl
      rw [if_neg (by rw [hs]; exact nI_ge c (by omega)), x1, Option.bind_some]
      rcases x2 with ⟨-, z⟩ | ⟨e, e1, e2, e3, rfl, e5⟩
      · rw [z i (Nat.zero_le _) c] at hself; cases hself
      · have hei : e ≤ i := by
          rcases Nat.lt_or_ge i e with z | z
          · rw [e5 i (Nat.zero_le _) z] at hself; cases hself
          · exact z
        by_cases ce : e = i
        · subst ce
          have hfi : fiv (twL l) ns e = true := decide_eq_true (fb_ct_zero.mpr (fun k hk => e5 k (Nat.zero_le _) hk))
          rw [hfi, if_pos rfl] at ih
          obtain ⟨y, y1, y2⟩ := n_ft hC hg h (a := e + 1) c c
          rw [if_pos (show nI e = nI e from rfl), gl_eq, Option.bind_some, if_pos (show nI e = nI e from rfl), nI_1, nI_1, y1, Option.bind_some]
          rcases y2 with ⟨rfl, y3⟩ | ⟨e', f1, f2, f3, rfl, f5⟩
          · have hht : htv (twL l) ns e = false := decide_eq_false (fun z => by
              obtain ⟨k, k1, k2⟩ := fb_ct_pos.mp z
              by_cases kc : k = e
              · rw [if_pos kc] at k2; cases k2
              · rw [if_neg kc] at k2
                rcases Nat.lt_or_ge k e with z2 | z2
                · rw [e5 k (Nat.zero_le _) z2] at k2; cases k2
                · rw [y3 k (by omega) k1] at k2; cases k2)
            rw [hht, if_neg (show ¬ false = true by decide), Nat.add_zero] at ih
            rw [if_pos (show (-1 : Int32) = -1 from rfl), Option.bind_some, gl_eq, nI_1]
            exact ih
          · have hht : htv (twL l) ns e = true := decide_eq_true (fb_ct_pos.mpr ⟨e', f2, by rw [if_neg (by omega)]; exact f3⟩)
            rw [hht, if_pos rfl] at ih
            rw [if_neg (nI_nm1 (by omega)), gl_eq, Option.bind_some, gl_eq, nI_1]
            exact ih
        · have hfi : fiv (twL l) ns i = false := decide_eq_false (fun z => by
            have := fb_ct_zero.mp z e (by omega)
            rw [e3] at this; cases this)
          have hht : htv (twL l) ns i = true := decide_eq_true (fb_ct_pos.mpr ⟨e, e2, by rw [if_neg ce]; exact e3⟩)
          have hne : ¬ nI e = nI i := fun z => ce ((nI_eq (by omega) (by omega)).mp z)
          rw [hfi, hht, if_neg (show ¬ false = true by decide), if_pos rfl, Nat.add_zero] at ih
          rw [if_neg hne, Option.bind_some, if_neg hne, gl_eq, Option.bind_some, gl_eq, nI_1, nI_1]
          exact ih
    · rw [if_pos (by rw [hs]; exact nI_le (by omega) (by omega)), show i = ns.length by omega]
/-! the reference's count -/
theorem n_tw31_L {l : KL} {t : Nat → Int32} (hM : keyM l t) (hg : kgood l) {q5 : Int32 × (Nat → Int32)} (hp : pR (pN l) q5.1 q5.2) {k : Nat} (hk : k < (pN l).length) : ∀ (m F i : Nat), (pN l).length - i = m → m < F → i ≤ (pN l).length → fX8_twins_L31 q5 (nI k) t F (if fb_ct (eqv (twL l) (pN l) k) (if i < k then i else k) = 0 then 1 else 0) (if 0 < fb_ct (fun e => if e = k then false else eqv (twL l) (pN l) k e) i then 1 else 0) (nI i) = some (if fiv (twL l) (pN l) k = true then 1 else 0, if htv (twL l) (pN l) k = true then 1 else 0)
  | m, 0, i, _, hF, _ => absurd hF (Nat.not_lt_zero m)
  | m, F + 1, i, hm, hF, hi => by
    have hl := pN_len hg
    rw [fX8_twins_L31]
    by_cases c : i < (pN l).length
    · have ih := n_tw31_L hM hg hp hk (m - 1) F (i + 1) (by omega) (by omega) c
      have hNk := (pN_mem hg _).mp (getD_mem hk)
      have hNi := (pN_mem hg _).mp (getD_mem c)
      rw [if_neg (by rw [hp.1]; exact nI_ge c (by omega))]
      -- is it alike
      have e1 : (if nI i = nI k then (some (0 : Int32)) else (gx (nI k) 47 (gx (nI i) 47 (Option.bind (fX8_areAlike (q5.2 (nI k).toNatClampNeg) (q5.2 (nI i).toNatClampNeg) t) (fun q_60 => (if q_60 = 0 then (some (0 : Int32)) else (some (1 : Int32)))))))) = some (if (if i = k then false else eqv (twL l) (pN l) k i) = true then 1 else 0) := by
        by_cases ck : i = k
        · rw [if_pos (by rw [ck]), if_pos ck, if_neg (by decide)]
        · rw [if_neg (fun z => ck ((nI_eq (by omega) (by omega)).mp z)), gx_n (by omega) (by omega), gx_n (by omega) (by omega), nI_clamp (by omega), nI_clamp (by omega), hp.2 k hk, hp.2 i c, n_al hM hg hNk hNi, Option.bind_some, if_neg ck]
          unfold eqv
          by_cases cg : twL l ((pN l).getD k 0) = twL l ((pN l).getD i 0)
          · rw [if_pos cg, if_neg (show ¬ (1 : Int32) = 0 by decide), decide_eq_true cg, if_pos rfl]
          · rw [if_neg cg, if_pos (show (0 : Int32) = 0 from rfl), decide_eq_false cg, if_neg (by decide)]
      rw [e1, Option.bind_some]
      rw [fb_ct_succ] at ih
      have hb : ∀ b : Bool, (if b = true then (1 : Int32) else 0) = 0 ↔ b = false := fun b => by cases b <;> decide
      generalize hB : (if i = k then false else eqv (twL l) (pN l) k i) = B at ih
      -- has it a twin so far
      have e2 : (if (if 0 < fb_ct (fun e => if e = k then false else eqv (twL l) (pN l) k e) i then (1 : Int32) else 0) = 0 then (if (if B = true then (1 : Int32) else 0) = 0 then (some (0 : Int32)) else (some (1 : Int32))) else (some (1 : Int32))) = some (if 0 < fb_ct (fun e => if e = k then false else eqv (twL l) (pN l) k e) i + (if B = true then 1 else 0) then 1 else 0) := by
        by_cases z : 0 < fb_ct (fun e => if e = k then false else eqv (twL l) (pN l) k e) i
        · rw [if_pos z, if_neg (show ¬ (1 : Int32) = 0 by decide), if_pos (by omega)]
        · rw [if_neg z, if_pos (show (0 : Int32) = 0 from rfl)]
          cases B with
          | true => rw [if_pos rfl, if_neg (show ¬ (1 : Int32) = 0 by decide), if_pos rfl, if_pos (by omega)]
          | false => rw [if_neg (show ¬ false = true by decide), if_pos (show (0 : Int32) = 0 from rfl), if_neg (show ¬ false = true by decide), if_neg (by omega)]
      rw [e2, Option.bind_some]
      -- is it the first so far
      have e3 : (if (if fb_ct (eqv (twL l) (pN l) k) (if i < k then i else k) = 0 then (1 : Int32) else 0) = 0 then (some (0 : Int32)) else (if (if B = true then (1 : Int32) else 0) = 0 then (some (1 : Int32)) else (if nI i < nI k then (some (0 : Int32)) else (some (1 : Int32))))) = some (if fb_ct (eqv (twL l) (pN l) k) (if i + 1 < k then i + 1 else k) = 0 then 1 else 0) := by
        rcases Nat.lt_or_ge i k with ck | ck
        · have hB2 : eqv (twL l) (pN l) k i = B := by rw [← hB, if_neg (by omega)]
          have s : fb_ct (eqv (twL l) (pN l) k) (if i + 1 < k then i + 1 else k) = fb_ct (eqv (twL l) (pN l) k) i + (if B = true then 1 else 0) := by
            rw [show (if i + 1 < k then i + 1 else k) = i + 1 by split <;> omega, fb_ct_succ, hB2]
          rw [s, if_pos ck, if_pos (show nI i < nI k from nI_lt ck (by omega))]
          by_cases z : fb_ct (eqv (twL l) (pN l) k) i = 0
          · rw [if_pos z, if_neg (show ¬ (1 : Int32) = 0 by decide)]
            cases B with
            | true => rw [if_pos rfl, if_neg (show ¬ (1 : Int32) = 0 by decide), if_pos rfl, if_neg (by omega)]
            | false => rw [if_neg (show ¬ false = true by decide), if_pos (show (0 : Int32) = 0 from rfl), if_neg (show ¬ false = true by decide), if_pos (by omega)]
          · rw [if_neg z, if_pos (show (0 : Int32) = 0 from rfl), if_neg (by omega)]
        · rw [if_neg (show ¬ i < k by omega), if_neg (show ¬ i + 1 < k by omega), if_neg (show ¬ nI i < nI k from nI_nlt ck (by omega))]
          by_cases z : fb_ct (eqv (twL l) (pN l) k) k = 0
          · rw [if_pos z, if_neg (show ¬ (1 : Int32) = 0 by decide)]
            cases B with
            | true => rw [if_pos rfl, if_neg (show ¬ (1 : Int32) = 0 by decide)]
            | false => rw [if_neg (show ¬ false = true by decide), if_pos (show (0 : Int32) = 0 from rfl)]
          · rw [if_neg z, if_pos (show (0 : Int32) = 0 from rfl)]
      rw [e3, Option.bind_some, gl_eq, nI_1]
      exact ih
    · rw [if_pos (by rw [hp.1]; exact nI_le (by omega) (by omega)), show i = (pN l).length by omega, if_neg (show ¬ (pN l).length < k by omega)]
      unfold fiv htv
      congr 2
      · by_cases z : fb_ct (eqv (twL l) (pN l) k) k = 0
        · rw [if_pos z, decide_eq_true z, if_pos rfl]
        · rw [if_neg z, decide_eq_false z, if_neg (by decide)]
      · by_cases z : 0 < fb_ct (fun e => if e = k then false else eqv (twL l) (pN l) k e) (pN l).length
        · rw [if_pos z, decide_eq_true z, if_pos rfl]
        · rw [if_neg z, decide_eq_false z, if_neg (by decide)]
theorem n_twins8_L {l : KL} {t : Nat → Int32} (hM : keyM l t) (hg : kgood l) {q5 : Int32 × (Nat → Int32)} (hp : pR (pN l) q5.1 q5.2) : ∀ (m F i : Nat), (pN l).length - i = m → m < F → i ≤ (pN l).length → fX8_twins_L14 q5 t F (nI (fb_ct (fiv (twL l) (pN l)) i)) (nI (fb_ct (htv (twL l) (pN l)) i)) (nI i) = some (nI (fb_ct (fiv (twL l) (pN l)) (pN l).length), nI (fb_ct (htv (twL l) (pN l)) (pN l).length))
  | m, 0, i, _, hF, _ => absurd hF (Nat.not_lt_zero m)
  | m, F + 1, i, hm, hF, hi => by
    have hl := pN_len hg
    rw [fX8_twins_L14]
    by_cases c : i < (pN l).length
    · have ih := n_twins8_L hM hg hp (m - 1) F (i + 1) (by omega) (by omega) c
      rw [fb_ct_succ, fb_ct_succ] at ih
      have e := n_tw31_L hM hg hp c (pN l).length gF 0 (Nat.sub_zero _) (by unfold gF; omega) (Nat.zero_le _)
      have ez : fb_ct (eqv (twL l) (pN l) i) (if 0 < i then 0 else i) = 0 := by
        rw [show (if 0 < i then 0 else i) = 0 by split <;> omega]; rfl
      rw [ez, if_pos rfl, if_neg (show ¬ 0 < fb_ct (fun e => if e = i then false else eqv (twL l) (pN l) i e) 0 from Nat.lt_irrefl 0), nI_0] at e
      rw [if_neg (by rw [hp.1]; exact nI_ge c (by omega)), e, Option.bind_some]
      dsimp only
      have b : ∀ b : Bool, (if (if b = true then (1 : Int32) else 0) = 0 then (some (0 : Int32)) else (some (1 : Int32))) = some (nI (if b = true then 1 else 0)) := fun b => by
        cases b with
        | true => rw [if_pos rfl, if_neg (show ¬ (1 : Int32) = 0 by decide), if_pos rfl]; rfl
        | false => rw [if_neg (show ¬ false = true by decide), if_pos (show (0 : Int32) = 0 from rfl), if_neg (show ¬ false = true by decide)]; rfl
      rw [b, Option.bind_some, gl_eq, b, Option.bind_some, gl_eq, gl_eq, nI_add, nI_add, nI_1]
      exact ih
    · rw [if_pos (by rw [hp.1]; exact nI_le (by omega) (by omega)), show i = (pN l).length by omega]
theorem e_twins {l : KL} {sz : Int32} {w v t : Nat → Int32} (hC : keyC l sz w v) (hM : keyM l t) (hg : kgood l) {ns : List Nat} {r : NT} (hN : nodesC l ns r) (mp : Nat → Int32) : ∃ rn rm, fX7_twins r.1 r.2.2.2.2.2.1 r.2.2.2.2.1 r.2.2.2.2.2.2 r.2.1 sz v w = some rn ∧ fX8_twins t mp = some rm ∧ rn.1 = rm.1 ∧ rn.2 = rm.2.1 := by
  have hl := hN.2.2.2
  have hl' := pN_len hg
  obtain ⟨rf, hf1, hf2⟩ := n_finds hM hg mp
  have e6 : fX7_twins_L6 r.1 r.2.2.2.2.2.1 r.2.2.2.2.1 r.2.2.2.2.2.2 r.2.1 sz v w gF (0 : Int32) (0 : Int32) (0 : Int32) = _ := n_twins6_L hC hg hN ns.length gF 0 (Nat.sub_zero _) (by unfold gF; omega) (Nat.zero_le _)
  have e8 : fX8_twins_L14 rf t gF (0 : Int32) (0 : Int32) (0 : Int32) = _ := n_twins8_L hM hg hf2 (pN l).length gF 0 (Nat.sub_zero _) (by unfold gF; omega) (Nat.zero_le _)
  have hp := nodes_perm hg hN
  rw [fiv_perm (twL l) hp, htv_perm (twL l) hp] at e6
  unfold fX7_twins fX8_twins fX8_answer
  rw [e6, hf1, Option.bind_some, Option.bind_some, e8, Option.bind_some, Option.bind_some]
  exact ⟨_, _, rfl, rfl, rfl, rfl⟩
