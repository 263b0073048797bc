/-! the base of the written walks: what a method computes is a function into Option (none: the machine would throw, or the fuel is spent); a contract says that the machine does what the function says -/
def gx {β : Type} (i : Int32) (n : Nat) (k : Option β) : Option β := if i < 0 ∨ n ≤ i.toNatClampNeg then none else k
def gd {β : Type} (y : Int32) (k : Option β) : Option β := if y = 0 then none else k
def gdL {β : Type} (y : Int64) (k : Option β) : Option β := if y = 0 then none else k
def gz {β : Type} (y : Int32) (k : Option β) : Option β := if y = 0 ∨ y = 1 then k else none
def gl {α β : Type} (e : α) (k : α → Option β) : Option β := k e
/-- System.arraycopy's own tests -/
def gcp {β : Type} (sp dp n : Int32) (n0 n1 : Nat) (k : Option β) : Option β := if sp < 0 ∨ dp < 0 ∨ n < 0 ∨ n0 < sp.toNatClampNeg + n.toNatClampNeg ∨ n1 < dp.toNatClampNeg + n.toNatClampNeg then none else k
theorem gx_some {β : Type} {i : Int32} {n : Nat} {k : Option β} {r : β} (h : gx i n k = some r) : vp_in i n ∧ k = some r := by
  unfold gx at h
  by_cases c : i < 0 ∨ n ≤ i.toNatClampNeg
  · rw [if_pos c] at h; cases h
  · rw [if_neg c] at h; exact ⟨c, h⟩
theorem gd_some {β : Type} {y : Int32} {k : Option β} {r : β} (h : gd y k = some r) : ¬ y = 0 ∧ k = some r := by
  unfold gd at h
  by_cases c : y = 0
  · rw [if_pos c] at h; cases h
  · rw [if_neg c] at h; exact ⟨c, h⟩
theorem gdL_some {β : Type} {y : Int64} {k : Option β} {r : β} (h : gdL y k = some r) : ¬ y = 0 ∧ k = some r := by
  unfold gdL at h
  by_cases c : y = 0
  · rw [if_pos c] at h; cases h
  · rw [if_neg c] at h; exact ⟨c, h⟩
theorem gz_some {β : Type} {y : Int32} {k : Option β} {r : β} (h : gz y k = some r) : narrow .boolean (.int y) = .int y ∧ k = some r := by
  unfold gz at h
  by_cases c : y = 0 ∨ y = 1
  · rw [if_pos c] at h
    refine ⟨?_, h⟩
    rcases c with c | c <;> subst c <;> rfl
  · rw [if_neg c] at h; cases h
theorem gcp_some {β : Type} {sp dp n : Int32} {n0 n1 : Nat} {k : Option β} {r : β} (h : gcp sp dp n n0 n1 k = some r) : ¬ sp < 0 ∧ ¬ dp < 0 ∧ ¬ n < 0 ∧ sp.toNatClampNeg + n.toNatClampNeg ≤ n0 ∧ dp.toNatClampNeg + n.toNatClampNeg ≤ n1 ∧ k = some r := by
  unfold gcp at h
  by_cases c : sp < 0 ∨ dp < 0 ∨ n < 0 ∨ n0 < sp.toNatClampNeg + n.toNatClampNeg ∨ n1 < dp.toNatClampNeg + n.toNatClampNeg
  · rw [if_pos c] at h; cases h
  · rw [if_neg c] at h
    exact ⟨fun q => c (Or.inl q), fun q => c (Or.inr (Or.inl q)), fun q => c (Or.inr (Or.inr (Or.inl q))), Nat.not_lt.mp fun q => c (Or.inr (Or.inr (Or.inr (Or.inl q)))), Nat.not_lt.mp fun q => c (Or.inr (Or.inr (Or.inr (Or.inr q)))), h⟩
theorem gl_some {α β : Type} {e x : α} {k : α → Option β} {r : β} (h : gl e k = some r) (hx : x = e) : k x = some r := by
  subst hx; exact h
theorem gi_pos {β : Type} {c : Prop} [Decidable c] {a b : Option β} {r : β} (h : (if c then a else b) = some r) (hc : c) : a = some r := by
  rw [if_pos hc] at h; exact h
theorem gi_neg {β : Type} {c : Prop} [Decidable c] {a b : Option β} {r : β} (h : (if c then a else b) = some r) (hc : ¬ c) : b = some r := by
  rw [if_neg hc] at h; exact h
theorem gb_some {α β : Type} {o : Option α} {k : α → Option β} {r : β} (h : o.bind k = some r) : ∃ x, o = some x ∧ k x = some r := by
  cases o with
  | none => cases h
  | some x => exact ⟨x, rfl, h⟩
/-- a class's row, an int array's row -/
abbrev gO (a ci : Nat) (fs : List Value) : Nat × va_E := (a, .inr (ci, fs))
abbrev gA (a : Nat) (c : ClassId) (n : Nat) (f : Nat → Int32) : Nat × va_E := (a, .inl (c, n, .inl f))
abbrev gR (a : Nat) (c : ClassId) (n : Nat) (f : Nat → Option Nat) : Nat × va_E := (a, .inl (c, n, .inr (.inr (.inr (.inr f)))))
abbrev gT : Type := List (ClassId × FieldType)
def gPre (D : va_G) (tys : gT) (av : List Value) (sz : Nat) (pre : va_W) : Array Value → State → Prop := va_Pc av (fun U => U.heap.size = sz ∧ va_P D vwCl pre U.heap ∧ va_K D vwCl tys U ∧ va_D (fun _ => True) pre)
def gPost (D : va_G) (tys : gT) (pre post : va_W) (sz : Nat) : Unit → State → Prop := fun _ t => va_P D vwCl post t.heap ∧ va_K D vwCl tys t ∧ va_D (va_A pre sz) post
/-- contracts: from the cells 'pre' the method answers r and leaves the cells 'post'; nothing is made, nothing else changes -/
abbrev gMi (l : Launch) (D : va_G) (tys : gT) (y : MethodName) (ws : List Cond) (rm : Room) (av : List Value) (pre : va_W) (r : Int32) (post : va_W) : Prop := ∀ sz : Nat, Met l y ws rm (gPre D tys av sz pre) (va_Qi (fun x (_ : Unit) => x = r) (gPost D tys pre post sz) (va_A pre sz)) 0 0 (va_A pre sz)
abbrev gMz (l : Launch) (D : va_G) (tys : gT) (y : MethodName) (ws : List Cond) (rm : Room) (av : List Value) (pre : va_W) (r : Int32) (post : va_W) : Prop := ∀ sz : Nat, Met l y ws rm (gPre D tys av sz pre) (va_Qi (fun x (_ : Unit) => x = r ∧ narrow .boolean (.int x) = .int x) (gPost D tys pre post sz) (va_A pre sz)) 0 0 (va_A pre sz)
abbrev gMl (l : Launch) (D : va_G) (tys : gT) (y : MethodName) (ws : List Cond) (rm : Room) (av : List Value) (pre : va_W) (r : Int64) (post : va_W) : Prop := ∀ sz : Nat, Met l y ws rm (gPre D tys av sz pre) (va_Ql (fun x (_ : Unit) => x = r) (gPost D tys pre post sz) (va_A pre sz)) 0 0 (va_A pre sz)
abbrev gMv (l : Launch) (D : va_G) (tys : gT) (y : MethodName) (ws : List Cond) (rm : Room) (av : List Value) (pre post : va_W) : Prop := ∀ sz : Nat, Met l y ws rm (gPre D tys av sz pre) (va_Qv (fun (_ : Unit) => True) (gPost D tys pre post sz) (va_A pre sz)) 0 0 (va_A pre sz)
theorem gPre_blind {D : va_G} {tys : gT} {av : List Value} {sz : Nat} {pre : va_W} : FrameBlind (gPre D tys av sz pre) :=
  fun a U g mk q => by obtain ⟨q0, q1, qP, qK, qD⟩ := q; exact ⟨q0, q1, qP, va_K.moved (u := U) (U := U.calling g mk a) (Vm.Alike.refl U.vm) qK, qD⟩
theorem g_fm {α : Type} {is : List Nat} {ws : List α} {wc : List α} (h : is.map (fun i => ws[i]?) = wc.map some) : is.filterMap (fun i => ws[i]?) = wc := by
  have e : is.filterMap (fun i => ws[i]?) = (is.map (fun i => ws[i]?)).filterMap id := by
    rw [List.filterMap_map]; rfl
  rw [e, h, List.filterMap_map]
  induction wc with
  | nil => rfl
  | cons a t ih => simp
section GC
variable {p : Program} {l : Launch} {e : Env} {R : Room} {s : State} {m : MethodId} {args : Array Value} {below : List Frame} {meth : Method} {c : Code} {H H0 : Heap} {locs : List Loc} {cells slots : Nat} {Q : State → Prop}
variable {y : MethodName} {bytes cc : ByteArray} {maxL nL n index : Nat} {ret : Option FieldType} {ws : List Cond} {rm : Room} {Ts : List Cond} {own C : String} {b : Addr} {As rest : List Value}
variable {D : va_G} {tys : gT} {A : Nat → Prop} {w0 pre post wr : va_W} {pc : Nat} {ls : Array Slot} {st : List Value} {T : u_T} {N ci : Nat} {fs : List Value}
/-- the callee's run of an instance method, its cells cut out of the caller's -/
theorem gRunV {Qc : Array Value → State → Outcome → State → Prop} (S : CallFix p m c cc nL s args Ts own) (hM : Met l y ws rm (gPre D tys (.ref b :: As) H.size pre) Qc 0 0 (va_A pre H.size)) (cw : CallW R s args own C index y bytes maxL ret ws rm 0 0 n)
    (hK : va_K D vwCl tys s) (hP : va_P D vwCl w0 H) (hD : va_D A w0) (isC : List Nat) (hC : isC.map (fun i => w0[i]?) = pre.map some) (hnC : va_nd isC = true) (k0 : Nat) (hcl : vwCl[ci]? = some (C, T, N)) (hb0 : pre[k0]? = some (b, .inr (ci, fs)))
    (hn : As.length = n) (hsize : ls.size = nL) (hst : st = As.reverse ++ .ref b :: rest) (hW : (rest.map fun v => v.category).sum ≤ 8) (hdg : decode cc pc = .ok (.invokevirtual index, 3)) (hf : cells + 0 ≤ R.cells ∧ slots + 0 ≤ R.slots) :
    va_Run p l e R s m args below meth c H locs cells slots 0 0 (F0 m pc ls st) rest (Qc (Value.ref b :: As).toArray) (va_A pre H.size) := by
  have hPc := hP.sub (ws' := pre) isC (g_fm hC)
  have hDc := hD.sub (ws' := pre) isC hnC hC
  exact va_runV S hM cw ⟨gPre_blind, va_recv hK hPc hcl hb0, fun U hU hW => ⟨rfl, by rw [hU], by rw [hU]; exact hPc, va_K.moved hW.alike hK, hDc.weaken (fun _ _ _ _ => trivial)⟩⟩ rfl hn hsize hst (lv_room hW) hdg hf
theorem gRunS {Qc : Array Value → State → Outcome → State → Prop} (S : CallFix p m c cc nL s args Ts own) (hM : Met l y ws rm (gPre D tys As H.size pre) Qc 0 0 (va_A pre H.size)) (cw : CallB R s args own index y bytes maxL ret ws rm 0 0 n ∧ (Cond.static y).before args s = true)
    (hK : va_K D vwCl tys s) (hP : va_P D vwCl w0 H) (hD : va_D A w0) (isC : List Nat) (hC : isC.map (fun i => w0[i]?) = pre.map some) (hnC : va_nd isC = true)
    (hn : As.length = n) (hsize : ls.size = nL) (hst : st = As.reverse ++ rest) (hW : (rest.map fun v => v.category).sum ≤ 8) (hdg : decode cc pc = .ok (.invokestatic index, 3)) (hf : cells + 0 ≤ R.cells ∧ slots + 0 ≤ R.slots) :
    va_Run p l e R s m args below meth c H locs cells slots 0 0 (F0 m pc ls st) rest (Qc As.toArray) (va_A pre H.size) := by
  have hPc := hP.sub (ws' := pre) isC (g_fm hC)
  have hDc := hD.sub (ws' := pre) isC hnC hC
  exact va_runS S hM cw ⟨gPre_blind, fun U hU hW => ⟨rfl, by rw [hU], by rw [hU]; exact hPc, va_K.moved hW.alike hK, hDc.weaken (fun _ _ _ _ => trivial)⟩⟩ rfl hn hsize hst (lv_room hW) hdg hf
/-- behind a call: what came back beside the rest -/
theorem gjoin {H1 : Heap} {t : State} (hK : va_K D vwCl tys s) (hP : va_P D vwCl w0 H) (hD : va_D A w0) (hS : va_S A H0 H locs) (hA : ∀ q, H0.size ≤ q → A q) (isC isR : List Nat) (hC : isC.map (fun i => w0[i]?) = pre.map some) (hR : isR.map (fun i => w0[i]?) = wr.map some) (hn : va_nd isR = true) (hdis : ∀ i ∈ isR, i ∉ isC)
    (ht : t.heap = H1) (hB : gPost D tys pre post H.size () t) (hk : ∀ q : Nat, q < H.size → ¬ va_A pre H.size q → H1[q]? = H[q]?) : va_P D vwCl (wr ++ post) H1 ∧ va_D A (wr ++ post) := by
  obtain ⟨hP1, hK1, hD1⟩ := hB
  rw [ht] at hP1
  exact va_join hP hD isC isR hC hR hn hdis hk (va_free hD hS hA isC hC) hP1 hD1
theorem gcVi {r : Int32} (S : CallFix p m c cc nL s args Ts own) (hM : gMi l D tys y ws rm (.ref b :: As) pre r post) (cw : CallW R s args own C index y bytes maxL ret ws rm 0 0 n)
    (hK : va_K D vwCl tys s) (hP : va_P D vwCl w0 H) (hD : va_D A w0) (hS : va_S A H0 H locs) (hA : ∀ q, H0.size ≤ q → A q) (isC isR : List Nat) (hC : isC.map (fun i => w0[i]?) = pre.map some) (hR : isR.map (fun i => w0[i]?) = wr.map some) (hnC : va_nd isC = true) (hnR : va_nd isR = true) (hdis : ∀ i ∈ isR, i ∉ isC) (k0 : Nat) (hcl : vwCl[ci]? = some (C, T, N)) (hb0 : pre[k0]? = some (b, .inr (ci, fs)))
    (hn : As.length = n) (hsize : ls.size = nL) (hst : st = As.reverse ++ .ref b :: rest) (hW : (rest.map fun v => v.category).sum ≤ 8) (hdg : decode cc pc = .ok (.invokevirtual index, 3)) (hf : cells + 0 ≤ R.cells ∧ slots + 0 ≤ R.slots)
    (kk : ∀ (H1 : Heap) (locs1 : List Loc), va_P D vwCl (wr ++ post) H1 → va_D A (wr ++ post) → va_S A H0 H1 locs1 → W p l e R s m args below meth c H1 locs1 cells slots Q (F0 m (pc + 3) ls (.int r :: rest))) : W p l e R s m args below meth c H locs cells slots Q (F0 m pc ls st) := by
  have hFc := va_free (wc := pre) hD hS hA isC hC
  refine va_calli (gRunV S (hM H.size) cw hK hP hD isC hC hnC k0 hcl hb0 hn hsize hst hW hdg hf) hS (fun q _ h => hFc q h) hFc (fun r1 u t H1 locs1 ht hvm hw hB hz1 hk1 hS1 => ?_)
  subst hw
  obtain ⟨h1, h2⟩ := gjoin hK hP hD hS hA isC isR hC hR hnR hdis ht hB hk1
  exact kk _ _ h1 h2 hS1
theorem gcSi {r : Int32} (S : CallFix p m c cc nL s args Ts own) (hM : gMi l D tys y ws rm As pre r post) (cw : CallB R s args own index y bytes maxL ret ws rm 0 0 n ∧ (Cond.static y).before args s = true)
    (hK : va_K D vwCl tys s) (hP : va_P D vwCl w0 H) (hD : va_D A w0) (hS : va_S A H0 H locs) (hA : ∀ q, H0.size ≤ q → A q) (isC isR : List Nat) (hC : isC.map (fun i => w0[i]?) = pre.map some) (hR : isR.map (fun i => w0[i]?) = wr.map some) (hnC : va_nd isC = true) (hnR : va_nd isR = true) (hdis : ∀ i ∈ isR, i ∉ isC) 
    (hn : As.length = n) (hsize : ls.size = nL) (hst : st = As.reverse ++ rest) (hW : (rest.map fun v => v.category).sum ≤ 8) (hdg : decode cc pc = .ok (.invokestatic index, 3)) (hf : cells + 0 ≤ R.cells ∧ slots + 0 ≤ R.slots)
    (kk : ∀ (H1 : Heap) (locs1 : List Loc), va_P D vwCl (wr ++ post) H1 → va_D A (wr ++ post) → va_S A H0 H1 locs1 → W p l e R s m args below meth c H1 locs1 cells slots Q (F0 m (pc + 3) ls (.int r :: rest))) : W p l e R s m args below meth c H locs cells slots Q (F0 m pc ls st) := by
  have hFc := va_free (wc := pre) hD hS hA isC hC
  refine va_calli (gRunS S (hM H.size) cw hK hP hD isC hC hnC hn hsize hst hW hdg hf) hS (fun q _ h => hFc q h) hFc (fun r1 u t H1 locs1 ht hvm hw hB hz1 hk1 hS1 => ?_)
  subst hw
  obtain ⟨h1, h2⟩ := gjoin hK hP hD hS hA isC isR hC hR hnR hdis ht hB hk1
  exact kk _ _ h1 h2 hS1
theorem gcVz {r : Int32} (S : CallFix p m c cc nL s args Ts own) (hM : gMz l D tys y ws rm (.ref b :: As) pre r post) (cw : CallW R s args own C index y bytes maxL ret ws rm 0 0 n)
    (hK : va_K D vwCl tys s) (hP : va_P D vwCl w0 H) (hD : va_D A w0) (hS : va_S A H0 H locs) (hA : ∀ q, H0.size ≤ q → A q) (isC isR : List Nat) (hC : isC.map (fun i => w0[i]?) = pre.map some) (hR : isR.map (fun i => w0[i]?) = wr.map some) (hnC : va_nd isC = true) (hnR : va_nd isR = true) (hdis : ∀ i ∈ isR, i ∉ isC) (k0 : Nat) (hcl : vwCl[ci]? = some (C, T, N)) (hb0 : pre[k0]? = some (b, .inr (ci, fs)))
    (hn : As.length = n) (hsize : ls.size = nL) (hst : st = As.reverse ++ .ref b :: rest) (hW : (rest.map fun v => v.category).sum ≤ 8) (hdg : decode cc pc = .ok (.invokevirtual index, 3)) (hf : cells + 0 ≤ R.cells ∧ slots + 0 ≤ R.slots)
    (kk : ∀ (H1 : Heap) (locs1 : List Loc), narrow .boolean (.int r) = .int r → va_P D vwCl (wr ++ post) H1 → va_D A (wr ++ post) → va_S A H0 H1 locs1 → W p l e R s m args below meth c H1 locs1 cells slots Q (F0 m (pc + 3) ls (.int r :: rest))) : W p l e R s m args below meth c H locs cells slots Q (F0 m pc ls st) := by
  have hFc := va_free (wc := pre) hD hS hA isC hC
  refine va_calli (gRunV S (hM H.size) cw hK hP hD isC hC hnC k0 hcl hb0 hn hsize hst hW hdg hf) hS (fun q _ h => hFc q h) hFc (fun r1 u t H1 locs1 ht hvm hw hB hz1 hk1 hS1 => ?_)
  obtain ⟨hw, hnb⟩ := hw
  subst hw
  obtain ⟨h1, h2⟩ := gjoin hK hP hD hS hA isC isR hC hR hnR hdis ht hB hk1
  exact kk _ _ hnb h1 h2 hS1
theorem gcSz {r : Int32} (S : CallFix p m c cc nL s args Ts own) (hM : gMz l D tys y ws rm As pre r post) (cw : CallB R s args own index y bytes maxL ret ws rm 0 0 n ∧ (Cond.static y).before args s = true)
    (hK : va_K D vwCl tys s) (hP : va_P D vwCl w0 H) (hD : va_D A w0) (hS : va_S A H0 H locs) (hA : ∀ q, H0.size ≤ q → A q) (isC isR : List Nat) (hC : isC.map (fun i => w0[i]?) = pre.map some) (hR : isR.map (fun i => w0[i]?) = wr.map some) (hnC : va_nd isC = true) (hnR : va_nd isR = true) (hdis : ∀ i ∈ isR, i ∉ isC) 
    (hn : As.length = n) (hsize : ls.size = nL) (hst : st = As.reverse ++ rest) (hW : (rest.map fun v => v.category).sum ≤ 8) (hdg : decode cc pc = .ok (.invokestatic index, 3)) (hf : cells + 0 ≤ R.cells ∧ slots + 0 ≤ R.slots)
    (kk : ∀ (H1 : Heap) (locs1 : List Loc), narrow .boolean (.int r) = .int r → va_P D vwCl (wr ++ post) H1 → va_D A (wr ++ post) → va_S A H0 H1 locs1 → W p l e R s m args below meth c H1 locs1 cells slots Q (F0 m (pc + 3) ls (.int r :: rest))) : W p l e R s m args below meth c H locs cells slots Q (F0 m pc ls st) := by
  have hFc := va_free (wc := pre) hD hS hA isC hC
  refine va_calli (gRunS S (hM H.size) cw hK hP hD isC hC hnC hn hsize hst hW hdg hf) hS (fun q _ h => hFc q h) hFc (fun r1 u t H1 locs1 ht hvm hw hB hz1 hk1 hS1 => ?_)
  obtain ⟨hw, hnb⟩ := hw
  subst hw
  obtain ⟨h1, h2⟩ := gjoin hK hP hD hS hA isC isR hC hR hnR hdis ht hB hk1
  exact kk _ _ hnb h1 h2 hS1
theorem gcVl {r : Int64} (S : CallFix p m c cc nL s args Ts own) (hM : gMl l D tys y ws rm (.ref b :: As) pre r post) (cw : CallW R s args own C index y bytes maxL ret ws rm 0 0 n)
    (hK : va_K D vwCl tys s) (hP : va_P D vwCl w0 H) (hD : va_D A w0) (hS : va_S A H0 H locs) (hA : ∀ q, H0.size ≤ q → A q) (isC isR : List Nat) (hC : isC.map (fun i => w0[i]?) = pre.map some) (hR : isR.map (fun i => w0[i]?) = wr.map some) (hnC : va_nd isC = true) (hnR : va_nd isR = true) (hdis : ∀ i ∈ isR, i ∉ isC) (k0 : Nat) (hcl : vwCl[ci]? = some (C, T, N)) (hb0 : pre[k0]? = some (b, .inr (ci, fs)))
    (hn : As.length = n) (hsize : ls.size = nL) (hst : st = As.reverse ++ .ref b :: rest) (hW : (rest.map fun v => v.category).sum ≤ 8) (hdg : decode cc pc = .ok (.invokevirtual index, 3)) (hf : cells + 0 ≤ R.cells ∧ slots + 0 ≤ R.slots)
    (kk : ∀ (H1 : Heap) (locs1 : List Loc), va_P D vwCl (wr ++ post) H1 → va_D A (wr ++ post) → va_S A H0 H1 locs1 → W p l e R s m args below meth c H1 locs1 cells slots Q (F0 m (pc + 3) ls (.long r :: rest))) : W p l e R s m args below meth c H locs cells slots Q (F0 m pc ls st) := by
  have hFc := va_free (wc := pre) hD hS hA isC hC
  refine va_calll (gRunV S (hM H.size) cw hK hP hD isC hC hnC k0 hcl hb0 hn hsize hst hW hdg hf) hS (fun q _ h => hFc q h) hFc (fun r1 u t H1 locs1 ht hvm hw hB hz1 hk1 hS1 => ?_)
  subst hw
  obtain ⟨h1, h2⟩ := gjoin hK hP hD hS hA isC isR hC hR hnR hdis ht hB hk1
  exact kk _ _ h1 h2 hS1
theorem gcSl {r : Int64} (S : CallFix p m c cc nL s args Ts own) (hM : gMl l D tys y ws rm As pre r post) (cw : CallB R s args own index y bytes maxL ret ws rm 0 0 n ∧ (Cond.static y).before args s = true)
    (hK : va_K D vwCl tys s) (hP : va_P D vwCl w0 H) (hD : va_D A w0) (hS : va_S A H0 H locs) (hA : ∀ q, H0.size ≤ q → A q) (isC isR : List Nat) (hC : isC.map (fun i => w0[i]?) = pre.map some) (hR : isR.map (fun i => w0[i]?) = wr.map some) (hnC : va_nd isC = true) (hnR : va_nd isR = true) (hdis : ∀ i ∈ isR, i ∉ isC) 
    (hn : As.length = n) (hsize : ls.size = nL) (hst : st = As.reverse ++ rest) (hW : (rest.map fun v => v.category).sum ≤ 8) (hdg : decode cc pc = .ok (.invokestatic index, 3)) (hf : cells + 0 ≤ R.cells ∧ slots + 0 ≤ R.slots)
    (kk : ∀ (H1 : Heap) (locs1 : List Loc), va_P D vwCl (wr ++ post) H1 → va_D A (wr ++ post) → va_S A H0 H1 locs1 → W p l e R s m args below meth c H1 locs1 cells slots Q (F0 m (pc + 3) ls (.long r :: rest))) : W p l e R s m args below meth c H locs cells slots Q (F0 m pc ls st) := by
  have hFc := va_free (wc := pre) hD hS hA isC hC
  refine va_calll (gRunS S (hM H.size) cw hK hP hD isC hC hnC hn hsize hst hW hdg hf) hS (fun q _ h => hFc q h) hFc (fun r1 u t H1 locs1 ht hvm hw hB hz1 hk1 hS1 => ?_)
  subst hw
  obtain ⟨h1, h2⟩ := gjoin hK hP hD hS hA isC isR hC hR hnR hdis ht hB hk1
  exact kk _ _ h1 h2 hS1
theorem gcVv (S : CallFix p m c cc nL s args Ts own) (hM : gMv l D tys y ws rm (.ref b :: As) pre post) (cw : CallW R s args own C index y bytes maxL ret ws rm 0 0 n)
    (hK : va_K D vwCl tys s) (hP : va_P D vwCl w0 H) (hD : va_D A w0) (hS : va_S A H0 H locs) (hA : ∀ q, H0.size ≤ q → A q) (isC isR : List Nat) (hC : isC.map (fun i => w0[i]?) = pre.map some) (hR : isR.map (fun i => w0[i]?) = wr.map some) (hnC : va_nd isC = true) (hnR : va_nd isR = true) (hdis : ∀ i ∈ isR, i ∉ isC) (k0 : Nat) (hcl : vwCl[ci]? = some (C, T, N)) (hb0 : pre[k0]? = some (b, .inr (ci, fs)))
    (hn : As.length = n) (hsize : ls.size = nL) (hst : st = As.reverse ++ .ref b :: rest) (hW : (rest.map fun v => v.category).sum ≤ 8) (hdg : decode cc pc = .ok (.invokevirtual index, 3)) (hf : cells + 0 ≤ R.cells ∧ slots + 0 ≤ R.slots)
    (kk : ∀ (H1 : Heap) (locs1 : List Loc), va_P D vwCl (wr ++ post) H1 → va_D A (wr ++ post) → va_S A H0 H1 locs1 → W p l e R s m args below meth c H1 locs1 cells slots Q (F0 m (pc + 3) ls (rest))) : W p l e R s m args below meth c H locs cells slots Q (F0 m pc ls st) := by
  have hFc := va_free (wc := pre) hD hS hA isC hC
  refine va_callv (gRunV S (hM H.size) cw hK hP hD isC hC hnC k0 hcl hb0 hn hsize hst hW hdg hf) hS (fun q _ h => hFc q h) hFc (fun u t H1 locs1 ht hvm hw hB hz1 hk1 hS1 => ?_)
  obtain ⟨h1, h2⟩ := gjoin hK hP hD hS hA isC isR hC hR hnR hdis ht hB hk1
  exact kk _ _ h1 h2 hS1
theorem gcSv (S : CallFix p m c cc nL s args Ts own) (hM : gMv l D tys y ws rm As pre post) (cw : CallB R s args own index y bytes maxL ret ws rm 0 0 n ∧ (Cond.static y).before args s = true)
    (hK : va_K D vwCl tys s) (hP : va_P D vwCl w0 H) (hD : va_D A w0) (hS : va_S A H0 H locs) (hA : ∀ q, H0.size ≤ q → A q) (isC isR : List Nat) (hC : isC.map (fun i => w0[i]?) = pre.map some) (hR : isR.map (fun i => w0[i]?) = wr.map some) (hnC : va_nd isC = true) (hnR : va_nd isR = true) (hdis : ∀ i ∈ isR, i ∉ isC) 
    (hn : As.length = n) (hsize : ls.size = nL) (hst : st = As.reverse ++ rest) (hW : (rest.map fun v => v.category).sum ≤ 8) (hdg : decode cc pc = .ok (.invokestatic index, 3)) (hf : cells + 0 ≤ R.cells ∧ slots + 0 ≤ R.slots)
    (kk : ∀ (H1 : Heap) (locs1 : List Loc), va_P D vwCl (wr ++ post) H1 → va_D A (wr ++ post) → va_S A H0 H1 locs1 → W p l e R s m args below meth c H1 locs1 cells slots Q (F0 m (pc + 3) ls (rest))) : W p l e R s m args below meth c H locs cells slots Q (F0 m pc ls st) := by
  have hFc := va_free (wc := pre) hD hS hA isC hC
  refine va_callv (gRunS S (hM H.size) cw hK hP hD isC hC hnC hn hsize hst hW hdg hf) hS (fun q _ h => hFc q h) hFc (fun u t H1 locs1 ht hvm hw hB hz1 hk1 hS1 => ?_)
  obtain ⟨h1, h2⟩ := gjoin hK hP hD hS hA isC isR hC hR hnR hdis ht hB hk1
  exact kk _ _ h1 h2 hS1
end GC
def gsel3 (a b c : Nat) : Nat → Option Nat := fun k => if k = 0 then some a else if k = 1 then some b else if k = 2 then some c else none
/-- the rows of a grid, and a grid with another row -/
def gG (g : Nat → Nat) (c : ClassId) (lim : Nat) (M : Nat → Nat → Int32) (n : Nat) : va_W := (List.range n).map (fun k => gA (g k) c lim (M k))
def gmu (M : Nat → Nat → Int32) (k : Nat) (row : Nat → Int32) : Nat → Nat → Int32 := fun j => if j = k then row else M j
theorem vp_lt {i : Int32} {n : Nat} (h : vp_in i n) : i.toNatClampNeg < n := Nat.not_le.mp fun q => h (Or.inr q)
theorem gG_get {X : va_W} {b n k lim : Nat} {g : Nat → Nat} {c : ClassId} {M : Nat → Nat → Int32} (hb : X.length = b) (hk : k < n) : (X ++ gG g c lim M n)[b + k]? = some (g k, .inl (c, lim, .inl (M k))) := by
  subst hb
  rw [List.getElem?_append_right (Nat.le_add_right _ _), Nat.add_sub_cancel_left]
  unfold gG
  rw [List.getElem?_map, List.getElem?_range hk]
  rfl
theorem gG_set {X : va_W} {b n k lim : Nat} {g : Nat → Nat} {c : ClassId} {M : Nat → Nat → Int32} {row : Nat → Int32} (hb : X.length = b) (hk : k < n) : (X ++ gG g c lim M n).set (b + k) (g k, .inl (c, lim, .inl row)) = X ++ gG g c lim (gmu M k row) n := by
  subst hb
  rw [List.set_append_right _ _ (Nat.le_add_right _ _), Nat.add_sub_cancel_left]
  congr 1
  unfold gG
  apply List.ext_getElem?
  intro j
  by_cases hj : j = k
  · subst hj
    rw [List.getElem?_set_self (by simp [hk]), List.getElem?_map, List.getElem?_range hk]
    simp [gmu]
  · rw [List.getElem?_set_ne (fun e => hj e.symm), List.getElem?_map, List.getElem?_map]
    by_cases hn : j < n
    · rw [List.getElem?_range hn]
      simp [gmu, hj]
    · rw [List.getElem?_eq_none (by simp; omega)]
      rfl
theorem gP_set {D : va_G} {X : va_W} {b n k lim : Nat} {g : Nat → Nat} {c : ClassId} {M : Nat → Nat → Int32} {row : Nat → Int32} {H : Heap} (hb : X.length = b) (hk : k < n) (h : va_P D vwCl ((X ++ gG g c lim M n).set (b + k) (g k, .inl (c, lim, .inl row))) H) : va_P D vwCl (X ++ gG g c lim (gmu M k row) n) H := by
  rw [gG_set hb hk] at h
  exact h
theorem gD_set {A : Nat → Prop} {X : va_W} {b n k lim : Nat} {g : Nat → Nat} {c : ClassId} {M : Nat → Nat → Int32} {row : Nat → Int32} (hb : X.length = b) (hk : k < n) (h : va_D A ((X ++ gG g c lim M n).set (b + k) (g k, .inl (c, lim, .inl row)))) : va_D A (X ++ gG g c lim (gmu M k row) n) := by
  rw [gG_set hb hk] at h
  exact h
theorem gP_left {D : va_G} {a b : va_W} {H : Heap} (h : va_P D vwCl (a ++ b) H) : va_P D vwCl a H := fun k q hk => h k q (by rw [List.getElem?_append_left (List.getElem?_eq_some_iff.mp hk).1]; exact hk)
theorem gD_left {A : Nat → Prop} {a b : va_W} (h : va_D A (a ++ b)) : va_D A a :=
  ⟨fun i j p q hi hj e => h.1 i j p q (by rw [List.getElem?_append_left (List.getElem?_eq_some_iff.mp hi).1]; exact hi) (by rw [List.getElem?_append_left (List.getElem?_eq_some_iff.mp hj).1]; exact hj) e, fun k q hk => h.2 k q (by rw [List.getElem?_append_left (List.getElem?_eq_some_iff.mp hk).1]; exact hk)⟩
section GH
variable {p : Program} {l : Launch} {e : Env} {R : Room} {s : State} {m : MethodId} {args : Array Value} {below : List Frame} {meth : Method} {c : Code} {H H0 : Heap} {locs : List Loc} {cells slots : Nat} {Q : State → Prop}
variable {y : MethodName} {bytes cc : ByteArray} {maxL nL n index : Nat} {ret : Option FieldType} {ws : List Cond} {rm : Room} {Ts : List Cond} {own C : String} {b : Addr} {As rest : List Value}
variable {D : va_G} {tys : gT} {A : Nat → Prop} {w0 pre post wr pl pl1 : va_W} {pc : Nat} {ls : Array Slot} {st : List Value} {T : u_T} {N ci : Nat} {fs : List Value}
theorem va_aldg {cl : List vw_C} {ws : va_W} {a : Nat} (hexec : p.tables.exec = Jvm.exec) (hb : c.code = cc) (hK : va_K D cl tys s) (hP : va_P D cl ws H) (q0 t0 : Nat) {cA : ClassId} {ty : FieldType} {n : Nat} {g : Nat → Nat} (ha : ws[q0]? = some (a, .inl (cA, n, .inr (.inr (.inr (.inr (fun k => some (g k)))))))) (ht : tys[t0]? = some (cA, .array ty)) {i : Int32} (hin : vp_in i n) (hdg : decode cc pc = .ok (.aaload, 1))
    (kk : W p l e R s m args below meth c H locs cells slots Q (F0 m (pc + 1) ls (.ref (g i.toNatClampNeg) :: rest))) : W p l e R s m args below meth c H locs cells slots Q (F0 m pc ls (.int i :: .ref a :: rest)) := by
  have hlt : i.toNatClampNeg < n := Nat.not_le.mp fun q => hin (Or.inr q)
  exact W.aald (v := va_rf (some (g i.toNatClampNeg))) (ty := .array ty) hexec hb (hP q0 _ ha) ((hK.2 t0 _ ht).1 n (fun j => va_rf (some (g j)))) rfl (fun q => by cases q) (by show ¬ (i < 0 ∨ (arrV _ _ _).slots.size ≤ _); rw [arrV_size]; exact hin) (by show (arrV _ _ _).slots[_]? = _; rw [arrV_read _ _ hlt]) rfl rfl hdg kk
theorem gRunVp {Qc : Array Value → State → Outcome → State → Prop} (S : CallFix p m c cc nL s args Ts own) (hM : Met l y ws rm (gPre D tys (.ref b :: As) H.size pre) Qc 0 0 (va_A pre H.size)) (cw : CallW R s args own C index y bytes maxL ret ws rm 0 0 n)
    (hK : va_K D vwCl tys s) (hPc : va_P D vwCl pre H) (hDc : va_D A pre) (k0 : Nat) (hcl : vwCl[ci]? = some (C, T, N)) (hb0 : pre[k0]? = some (b, .inr (ci, fs)))
    (hn : As.length = n) (hsize : ls.size = nL) (hst : st = As.reverse ++ .ref b :: rest) (hW : (rest.map fun v => v.category).sum ≤ 8) (hdg : decode cc pc = .ok (.invokevirtual index, 3)) (hf : cells + 0 ≤ R.cells ∧ slots + 0 ≤ R.slots) :
    va_Run p l e R s m args below meth c H locs cells slots 0 0 (F0 m pc ls st) rest (Qc (Value.ref b :: As).toArray) (va_A pre H.size) :=
  va_runV S hM cw ⟨gPre_blind, va_recv hK hPc hcl hb0, fun U hU hW => ⟨rfl, by rw [hU], by rw [hU]; exact hPc, va_K.moved hW.alike hK, hDc.weaken (fun _ _ _ _ => trivial)⟩⟩ rfl hn hsize hst (lv_room hW) hdg hf
theorem gcViG {r : Int32} (S : CallFix p m c cc nL s args Ts own) (hM : gMi l D tys y ws rm (.ref b :: As) pre r post) (cw : CallW R s args own C index y bytes maxL ret ws rm 0 0 n)
    (hK : va_K D vwCl tys s) (hP : va_P D vwCl (w0 ++ pl) H) (hD : va_D A (w0 ++ pl)) (hS : va_S A H0 H locs) (hA : ∀ q, H0.size ≤ q → A q) (isC isR : List Nat) (hC : isC.map (fun i => w0[i]?) = pre.map some) (hR : isR.map (fun i => w0[i]?) = wr.map some) (hnC : va_nd isC = true) (hnR : va_nd isR = true) (hdis : ∀ i ∈ isR, i ∉ isC) (k0 : Nat) (hcl : vwCl[ci]? = some (C, T, N)) (hb0 : pre[k0]? = some (b, .inr (ci, fs)))
    (hn : As.length = n) (hsize : ls.size = nL) (hst : st = As.reverse ++ .ref b :: rest) (hW : (rest.map fun v => v.category).sum ≤ 8) (hdg : decode cc pc = .ok (.invokevirtual index, 3)) (hf : cells + 0 ≤ R.cells ∧ slots + 0 ≤ R.slots)
    (kk : ∀ (H1 : Heap) (locs1 : List Loc), va_P D vwCl ((wr ++ post) ++ pl) H1 → va_D A ((wr ++ post) ++ pl) → va_S A H0 H1 locs1 → W p l e R s m args below meth c H1 locs1 cells slots Q (F0 m (pc + 3) ls (.int r :: rest))) : W p l e R s m args below meth c H locs cells slots Q (F0 m pc ls st) := by
  have hPc : va_P D vwCl pre H := gP_left (hP.part isC hC)
  have hDc : va_D A pre := gD_left (hD.part isC hnC hC)
  have hFc : ∀ q, va_A pre H.size q → A q := by
    intro q h
    rcases h with ⟨k, e, h⟩ | h
    · exact hDc.2 k (q, e) h
    · exact hA q (Nat.le_trans hS.1 h)
  refine va_calli (gRunVp S (hM H.size) cw hK hPc hDc k0 hcl hb0 hn hsize hst hW hdg hf) hS (fun q _ h => hFc q h) hFc (fun r1 u t H1 locs1 ht hvm hw hB hz1 hk1 hS1 => ?_)
  subst hw
  obtain ⟨hP1, hK1, hD1⟩ := hB
  rw [ht] at hP1
  obtain ⟨h1, h2⟩ := va_joinQ hP hD isC isR hC hR hnR hdis hk1 hFc hP1 hD1
  exact kk _ _ h1 h2 hS1
theorem gcViP {r : Int32} (S : CallFix p m c cc nL s args Ts own) (hM : gMi l D tys y ws rm (.ref b :: As) (pre ++ pl) r (post ++ pl1)) (cw : CallW R s args own C index y bytes maxL ret ws rm 0 0 n)
    (hK : va_K D vwCl tys s) (hP : va_P D vwCl (w0 ++ pl) H) (hD : va_D A (w0 ++ pl)) (hS : va_S A H0 H locs) (hA : ∀ q, H0.size ≤ q → A q) (isC isR : List Nat) (hC : isC.map (fun i => w0[i]?) = pre.map some) (hR : isR.map (fun i => w0[i]?) = wr.map some) (hnC : va_nd isC = true) (hnR : va_nd isR = true) (hdis : ∀ i ∈ isR, i ∉ isC) (k0 : Nat) (hcl : vwCl[ci]? = some (C, T, N)) (hb0 : pre[k0]? = some (b, .inr (ci, fs)))
    (hn : As.length = n) (hsize : ls.size = nL) (hst : st = As.reverse ++ .ref b :: rest) (hW : (rest.map fun v => v.category).sum ≤ 8) (hdg : decode cc pc = .ok (.invokevirtual index, 3)) (hf : cells + 0 ≤ R.cells ∧ slots + 0 ≤ R.slots)
    (kk : ∀ (H1 : Heap) (locs1 : List Loc), va_P D vwCl ((wr ++ post) ++ pl1) H1 → va_D A ((wr ++ post) ++ pl1) → va_S A H0 H1 locs1 → W p l e R s m args below meth c H1 locs1 cells slots Q (F0 m (pc + 3) ls (.int r :: rest))) : W p l e R s m args below meth c H locs cells slots Q (F0 m pc ls st) := by
  have hPc : va_P D vwCl (pre ++ pl) H := hP.part isC hC
  have hDc : va_D A (pre ++ pl) := hD.part isC hnC hC
  have hFc := va_freeP hD hS hA isC hC
  have hb1 : (pre ++ pl)[k0]? = some (b, .inr (ci, fs)) := by rw [List.getElem?_append_left (List.getElem?_eq_some_iff.mp hb0).1]; exact hb0
  refine va_calli (gRunVp S (hM H.size) cw hK hPc hDc k0 hcl hb1 hn hsize hst hW hdg hf) hS (fun q _ h => hFc q h) hFc (fun r1 u t H1 locs1 ht hvm hw hB hz1 hk1 hS1 => ?_)
  subst hw
  obtain ⟨hP1, hK1, hD1⟩ := hB
  rw [ht] at hP1
  obtain ⟨h1, h2⟩ := va_joinP hP hD isC isR hC hR hnR hdis hk1 hFc hP1 hD1
  exact kk _ _ h1 h2 hS1
theorem gcVzG {r : Int32} (S : CallFix p m c cc nL s args Ts own) (hM : gMz l D tys y ws rm (.ref b :: As) pre r post) (cw : CallW R s args own C index y bytes maxL ret ws rm 0 0 n)
    (hK : va_K D vwCl tys s) (hP : va_P D vwCl (w0 ++ pl) H) (hD : va_D A (w0 ++ pl)) (hS : va_S A H0 H locs) (hA : ∀ q, H0.size ≤ q → A q) (isC isR : List Nat) (hC : isC.map (fun i => w0[i]?) = pre.map some) (hR : isR.map (fun i => w0[i]?) = wr.map some) (hnC : va_nd isC = true) (hnR : va_nd isR = true) (hdis : ∀ i ∈ isR, i ∉ isC) (k0 : Nat) (hcl : vwCl[ci]? = some (C, T, N)) (hb0 : pre[k0]? = some (b, .inr (ci, fs)))
    (hn : As.length = n) (hsize : ls.size = nL) (hst : st = As.reverse ++ .ref b :: rest) (hW : (rest.map fun v => v.category).sum ≤ 8) (hdg : decode cc pc = .ok (.invokevirtual index, 3)) (hf : cells + 0 ≤ R.cells ∧ slots + 0 ≤ R.slots)
    (kk : ∀ (H1 : Heap) (locs1 : List Loc), narrow .boolean (.int r) = .int r → va_P D vwCl ((wr ++ post) ++ pl) H1 → va_D A ((wr ++ post) ++ pl) → va_S A H0 H1 locs1 → W p l e R s m args below meth c H1 locs1 cells slots Q (F0 m (pc + 3) ls (.int r :: rest))) : W p l e R s m args below meth c H locs cells slots Q (F0 m pc ls st) := by
  have hPc : va_P D vwCl pre H := gP_left (hP.part isC hC)
  have hDc : va_D A pre := gD_left (hD.part isC hnC hC)
  have hFc : ∀ q, va_A pre H.size q → A q := by
    intro q h
    rcases h with ⟨k, e, h⟩ | h
    · exact hDc.2 k (q, e) h
    · exact hA q (Nat.le_trans hS.1 h)
  refine va_calli (gRunVp S (hM H.size) cw hK hPc hDc k0 hcl hb0 hn hsize hst hW hdg hf) hS (fun q _ h => hFc q h) hFc (fun r1 u t H1 locs1 ht hvm hw hB hz1 hk1 hS1 => ?_)
  obtain ⟨hw, hnb⟩ := hw
  subst hw
  obtain ⟨hP1, hK1, hD1⟩ := hB
  rw [ht] at hP1
  obtain ⟨h1, h2⟩ := va_joinQ hP hD isC isR hC hR hnR hdis hk1 hFc hP1 hD1
  exact kk _ _ hnb h1 h2 hS1
theorem gcVzP {r : Int32} (S : CallFix p m c cc nL s args Ts own) (hM : gMz l D tys y ws rm (.ref b :: As) (pre ++ pl) r (post ++ pl1)) (cw : CallW R s args own C index y bytes maxL ret ws rm 0 0 n)
    (hK : va_K D vwCl tys s) (hP : va_P D vwCl (w0 ++ pl) H) (hD : va_D A (w0 ++ pl)) (hS : va_S A H0 H locs) (hA : ∀ q, H0.size ≤ q → A q) (isC isR : List Nat) (hC : isC.map (fun i => w0[i]?) = pre.map some) (hR : isR.map (fun i => w0[i]?) = wr.map some) (hnC : va_nd isC = true) (hnR : va_nd isR = true) (hdis : ∀ i ∈ isR, i ∉ isC) (k0 : Nat) (hcl : vwCl[ci]? = some (C, T, N)) (hb0 : pre[k0]? = some (b, .inr (ci, fs)))
    (hn : As.length = n) (hsize : ls.size = nL) (hst : st = As.reverse ++ .ref b :: rest) (hW : (rest.map fun v => v.category).sum ≤ 8) (hdg : decode cc pc = .ok (.invokevirtual index, 3)) (hf : cells + 0 ≤ R.cells ∧ slots + 0 ≤ R.slots)
    (kk : ∀ (H1 : Heap) (locs1 : List Loc), narrow .boolean (.int r) = .int r → va_P D vwCl ((wr ++ post) ++ pl1) H1 → va_D A ((wr ++ post) ++ pl1) → va_S A H0 H1 locs1 → W p l e R s m args below meth c H1 locs1 cells slots Q (F0 m (pc + 3) ls (.int r :: rest))) : W p l e R s m args below meth c H locs cells slots Q (F0 m pc ls st) := by
  have hPc : va_P D vwCl (pre ++ pl) H := hP.part isC hC
  have hDc : va_D A (pre ++ pl) := hD.part isC hnC hC
  have hFc := va_freeP hD hS hA isC hC
  have hb1 : (pre ++ pl)[k0]? = some (b, .inr (ci, fs)) := by rw [List.getElem?_append_left (List.getElem?_eq_some_iff.mp hb0).1]; exact hb0
  refine va_calli (gRunVp S (hM H.size) cw hK hPc hDc k0 hcl hb1 hn hsize hst hW hdg hf) hS (fun q _ h => hFc q h) hFc (fun r1 u t H1 locs1 ht hvm hw hB hz1 hk1 hS1 => ?_)
  obtain ⟨hw, hnb⟩ := hw
  subst hw
  obtain ⟨hP1, hK1, hD1⟩ := hB
  rw [ht] at hP1
  obtain ⟨h1, h2⟩ := va_joinP hP hD isC isR hC hR hnR hdis hk1 hFc hP1 hD1
  exact kk _ _ hnb h1 h2 hS1
theorem gcVlG {r : Int64} (S : CallFix p m c cc nL s args Ts own) (hM : gMl l D tys y ws rm (.ref b :: As) pre r post) (cw : CallW R s args own C index y bytes maxL ret ws rm 0 0 n)
    (hK : va_K D vwCl tys s) (hP : va_P D vwCl (w0 ++ pl) H) (hD : va_D A (w0 ++ pl)) (hS : va_S A H0 H locs) (hA : ∀ q, H0.size ≤ q → A q) (isC isR : List Nat) (hC : isC.map (fun i => w0[i]?) = pre.map some) (hR : isR.map (fun i => w0[i]?) = wr.map some) (hnC : va_nd isC = true) (hnR : va_nd isR = true) (hdis : ∀ i ∈ isR, i ∉ isC) (k0 : Nat) (hcl : vwCl[ci]? = some (C, T, N)) (hb0 : pre[k0]? = some (b, .inr (ci, fs)))
    (hn : As.length = n) (hsize : ls.size = nL) (hst : st = As.reverse ++ .ref b :: rest) (hW : (rest.map fun v => v.category).sum ≤ 8) (hdg : decode cc pc = .ok (.invokevirtual index, 3)) (hf : cells + 0 ≤ R.cells ∧ slots + 0 ≤ R.slots)
    (kk : ∀ (H1 : Heap) (locs1 : List Loc), va_P D vwCl ((wr ++ post) ++ pl) H1 → va_D A ((wr ++ post) ++ pl) → va_S A H0 H1 locs1 → W p l e R s m args below meth c H1 locs1 cells slots Q (F0 m (pc + 3) ls (.long r :: rest))) : W p l e R s m args below meth c H locs cells slots Q (F0 m pc ls st) := by
  have hPc : va_P D vwCl pre H := gP_left (hP.part isC hC)
  have hDc : va_D A pre := gD_left (hD.part isC hnC hC)
  have hFc : ∀ q, va_A pre H.size q → A q := by
    intro q h
    rcases h with ⟨k, e, h⟩ | h
    · exact hDc.2 k (q, e) h
    · exact hA q (Nat.le_trans hS.1 h)
  refine va_calll (gRunVp S (hM H.size) cw hK hPc hDc k0 hcl hb0 hn hsize hst hW hdg hf) hS (fun q _ h => hFc q h) hFc (fun r1 u t H1 locs1 ht hvm hw hB hz1 hk1 hS1 => ?_)
  subst hw
  obtain ⟨hP1, hK1, hD1⟩ := hB
  rw [ht] at hP1
  obtain ⟨h1, h2⟩ := va_joinQ hP hD isC isR hC hR hnR hdis hk1 hFc hP1 hD1
  exact kk _ _ h1 h2 hS1
theorem gcVlP {r : Int64} (S : CallFix p m c cc nL s args Ts own) (hM : gMl l D tys y ws rm (.ref b :: As) (pre ++ pl) r (post ++ pl1)) (cw : CallW R s args own C index y bytes maxL ret ws rm 0 0 n)
    (hK : va_K D vwCl tys s) (hP : va_P D vwCl (w0 ++ pl) H) (hD : va_D A (w0 ++ pl)) (hS : va_S A H0 H locs) (hA : ∀ q, H0.size ≤ q → A q) (isC isR : List Nat) (hC : isC.map (fun i => w0[i]?) = pre.map some) (hR : isR.map (fun i => w0[i]?) = wr.map some) (hnC : va_nd isC = true) (hnR : va_nd isR = true) (hdis : ∀ i ∈ isR, i ∉ isC) (k0 : Nat) (hcl : vwCl[ci]? = some (C, T, N)) (hb0 : pre[k0]? = some (b, .inr (ci, fs)))
    (hn : As.length = n) (hsize : ls.size = nL) (hst : st = As.reverse ++ .ref b :: rest) (hW : (rest.map fun v => v.category).sum ≤ 8) (hdg : decode cc pc = .ok (.invokevirtual index, 3)) (hf : cells + 0 ≤ R.cells ∧ slots + 0 ≤ R.slots)
    (kk : ∀ (H1 : Heap) (locs1 : List Loc), va_P D vwCl ((wr ++ post) ++ pl1) H1 → va_D A ((wr ++ post) ++ pl1) → va_S A H0 H1 locs1 → W p l e R s m args below meth c H1 locs1 cells slots Q (F0 m (pc + 3) ls (.long r :: rest))) : W p l e R s m args below meth c H locs cells slots Q (F0 m pc ls st) := by
  have hPc : va_P D vwCl (pre ++ pl) H := hP.part isC hC
  have hDc : va_D A (pre ++ pl) := hD.part isC hnC hC
  have hFc := va_freeP hD hS hA isC hC
  have hb1 : (pre ++ pl)[k0]? = some (b, .inr (ci, fs)) := by rw [List.getElem?_append_left (List.getElem?_eq_some_iff.mp hb0).1]; exact hb0
  refine va_calll (gRunVp S (hM H.size) cw hK hPc hDc k0 hcl hb1 hn hsize hst hW hdg hf) hS (fun q _ h => hFc q h) hFc (fun r1 u t H1 locs1 ht hvm hw hB hz1 hk1 hS1 => ?_)
  subst hw
  obtain ⟨hP1, hK1, hD1⟩ := hB
  rw [ht] at hP1
  obtain ⟨h1, h2⟩ := va_joinP hP hD isC isR hC hR hnR hdis hk1 hFc hP1 hD1
  exact kk _ _ h1 h2 hS1
theorem gcVvG (S : CallFix p m c cc nL s args Ts own) (hM : gMv l D tys y ws rm (.ref b :: As) pre post) (cw : CallW R s args own C index y bytes maxL ret ws rm 0 0 n)
    (hK : va_K D vwCl tys s) (hP : va_P D vwCl (w0 ++ pl) H) (hD : va_D A (w0 ++ pl)) (hS : va_S A H0 H locs) (hA : ∀ q, H0.size ≤ q → A q) (isC isR : List Nat) (hC : isC.map (fun i => w0[i]?) = pre.map some) (hR : isR.map (fun i => w0[i]?) = wr.map some) (hnC : va_nd isC = true) (hnR : va_nd isR = true) (hdis : ∀ i ∈ isR, i ∉ isC) (k0 : Nat) (hcl : vwCl[ci]? = some (C, T, N)) (hb0 : pre[k0]? = some (b, .inr (ci, fs)))
    (hn : As.length = n) (hsize : ls.size = nL) (hst : st = As.reverse ++ .ref b :: rest) (hW : (rest.map fun v => v.category).sum ≤ 8) (hdg : decode cc pc = .ok (.invokevirtual index, 3)) (hf : cells + 0 ≤ R.cells ∧ slots + 0 ≤ R.slots)
    (kk : ∀ (H1 : Heap) (locs1 : List Loc), va_P D vwCl ((wr ++ post) ++ pl) H1 → va_D A ((wr ++ post) ++ pl) → va_S A H0 H1 locs1 → W p l e R s m args below meth c H1 locs1 cells slots Q (F0 m (pc + 3) ls (rest))) : W p l e R s m args below meth c H locs cells slots Q (F0 m pc ls st) := by
  have hPc : va_P D vwCl pre H := gP_left (hP.part isC hC)
  have hDc : va_D A pre := gD_left (hD.part isC hnC hC)
  have hFc : ∀ q, va_A pre H.size q → A q := by
    intro q h
    rcases h with ⟨k, e, h⟩ | h
    · exact hDc.2 k (q, e) h
    · exact hA q (Nat.le_trans hS.1 h)
  refine va_callv (gRunVp S (hM H.size) cw hK hPc hDc k0 hcl hb0 hn hsize hst hW hdg hf) hS (fun q _ h => hFc q h) hFc (fun u t H1 locs1 ht hvm hw hB hz1 hk1 hS1 => ?_)
  obtain ⟨hP1, hK1, hD1⟩ := hB
  rw [ht] at hP1
  obtain ⟨h1, h2⟩ := va_joinQ hP hD isC isR hC hR hnR hdis hk1 hFc hP1 hD1
  exact kk _ _ h1 h2 hS1
theorem gcVvP (S : CallFix p m c cc nL s args Ts own) (hM : gMv l D tys y ws rm (.ref b :: As) (pre ++ pl) (post ++ pl1)) (cw : CallW R s args own C index y bytes maxL ret ws rm 0 0 n)
    (hK : va_K D vwCl tys s) (hP : va_P D vwCl (w0 ++ pl) H) (hD : va_D A (w0 ++ pl)) (hS : va_S A H0 H locs) (hA : ∀ q, H0.size ≤ q → A q) (isC isR : List Nat) (hC : isC.map (fun i => w0[i]?) = pre.map some) (hR : isR.map (fun i => w0[i]?) = wr.map some) (hnC : va_nd isC = true) (hnR : va_nd isR = true) (hdis : ∀ i ∈ isR, i ∉ isC) (k0 : Nat) (hcl : vwCl[ci]? = some (C, T, N)) (hb0 : pre[k0]? = some (b, .inr (ci, fs)))
    (hn : As.length = n) (hsize : ls.size = nL) (hst : st = As.reverse ++ .ref b :: rest) (hW : (rest.map fun v => v.category).sum ≤ 8) (hdg : decode cc pc = .ok (.invokevirtual index, 3)) (hf : cells + 0 ≤ R.cells ∧ slots + 0 ≤ R.slots)
    (kk : ∀ (H1 : Heap) (locs1 : List Loc), va_P D vwCl ((wr ++ post) ++ pl1) H1 → va_D A ((wr ++ post) ++ pl1) → va_S A H0 H1 locs1 → W p l e R s m args below meth c H1 locs1 cells slots Q (F0 m (pc + 3) ls (rest))) : W p l e R s m args below meth c H locs cells slots Q (F0 m pc ls st) := by
  have hPc : va_P D vwCl (pre ++ pl) H := hP.part isC hC
  have hDc : va_D A (pre ++ pl) := hD.part isC hnC hC
  have hFc := va_freeP hD hS hA isC hC
  have hb1 : (pre ++ pl)[k0]? = some (b, .inr (ci, fs)) := by rw [List.getElem?_append_left (List.getElem?_eq_some_iff.mp hb0).1]; exact hb0
  refine va_callv (gRunVp S (hM H.size) cw hK hPc hDc k0 hcl hb1 hn hsize hst hW hdg hf) hS (fun q _ h => hFc q h) hFc (fun u t H1 locs1 ht hvm hw hB hz1 hk1 hS1 => ?_)
  obtain ⟨hP1, hK1, hD1⟩ := hB
  rw [ht] at hP1
  obtain ⟨h1, h2⟩ := va_joinP hP hD isC isR hC hR hnR hdis hk1 hFc hP1 hD1
  exact kk _ _ h1 h2 hS1
end GH
def gF : Nat := 20000
abbrev gty (cI cZ cD cG : ClassId) : gT := [(cI, .int), (cZ, .boolean), (cD, .object "NibbleTrunk$Deeds"), (cG, .array .int)]
theorem gMi.of {l : Launch} {D : va_G} {tys : gT} {y : MethodName} {ws ws' : List Cond} {rm : Room} {av : List Value} {pre post : va_W} {r : Int32} {cc : ByteArray} {maxL : Nat} (hy : plainName y.cls = true) (hw : ws = Cond.code y cc maxL (some .int) :: ws') (hav : (lg_sl av).length ≤ maxL)
    (body : ∀ (p : Program) (e : Env) (s : State) (m : MethodId) (args : Array Value) (below : List Frame) (meth : Method) (c : Code) (A : Nat → Prop) (ls : Array Slot) (Q : State → Prop), p.tables.exec = Jvm.exec → c.code = cc → (∀ w ∈ ws, w.before args s = true) → s.vm.findClass y.cls = some m.cls → c.maxLocals = maxL → va_K D vwCl tys s → (∀ q : Nat, s.heap.size ≤ q → A q) → va_P D vwCl pre s.heap → va_D A pre → va_S A s.heap s.heap [] →
      (∀ (v : Int32) (H : Heap) (locs : List Loc) (ls : Array Slot) (pc : Nat), va_P D vwCl post H → va_D A post → va_S A s.heap H locs → v = r → decode cc pc = .ok (.ireturn, 1) → W p l e rm s m args below meth c H locs 0 0 Q (F0 m pc ls [.int v])) →
      lv_has ls maxL (lv_args 0 av) → W p l e rm s m args below meth c s.heap [] 0 0 Q (F0 m 0 ls [])) : gMi l D tys y ws rm av pre r post := by
  intro sz
  refine Met.ofW (cc := cc) (maxL := maxL) (ret := some .int) hy hw ?_
  intro p e s m args below meth c s₁ B hml hv
  obtain ⟨rfl, hsz, hP, hK, hD0⟩ := hv
  subst hsz
  have hD := hD0.self (sz := s.heap.size)
  have hl := lv_entry av (n := maxL) hav
  have hlocks := B.notSynchronized
  rw [lg_entry_eq]
  refine body p e s m _ below meth c (va_A pre s.heap.size) _ _ B.exec B.bytes (atoms_spec (ws := ws) B.pre) (findClass_of_methodNamed B.named) hml hK (fun q h => Or.inr h) hP hD va_S.rf ?_ hl
  intro v H locs ls pc hP hD hS hv hdg
  exact W.iret (cc := cc) B.exec B.bytes B.returns (fun t ht hW => ⟨⟨v, (), rfl, hv, by rw [ht]; exact hP, va_K.moved hW.alike hK, hD⟩, hS.F ht⟩) hS.2.2 hdg
theorem gMz.of {l : Launch} {D : va_G} {tys : gT} {y : MethodName} {ws ws' : List Cond} {rm : Room} {av : List Value} {pre post : va_W} {r : Int32} {cc : ByteArray} {maxL : Nat} (hy : plainName y.cls = true) (hw : ws = Cond.code y cc maxL (some .boolean) :: ws') (hav : (lg_sl av).length ≤ maxL)
    (body : ∀ (p : Program) (e : Env) (s : State) (m : MethodId) (args : Array Value) (below : List Frame) (meth : Method) (c : Code) (A : Nat → Prop) (ls : Array Slot) (Q : State → Prop), p.tables.exec = Jvm.exec → c.code = cc → (∀ w ∈ ws, w.before args s = true) → s.vm.findClass y.cls = some m.cls → c.maxLocals = maxL → va_K D vwCl tys s → (∀ q : Nat, s.heap.size ≤ q → A q) → va_P D vwCl pre s.heap → va_D A pre → va_S A s.heap s.heap [] →
      (∀ (v : Int32) (H : Heap) (locs : List Loc) (ls : Array Slot) (pc : Nat), va_P D vwCl post H → va_D A post → va_S A s.heap H locs → v = r → narrow .boolean (.int v) = .int v → decode cc pc = .ok (.ireturn, 1) → W p l e rm s m args below meth c H locs 0 0 Q (F0 m pc ls [.int v])) →
      lv_has ls maxL (lv_args 0 av) → W p l e rm s m args below meth c s.heap [] 0 0 Q (F0 m 0 ls [])) : gMz l D tys y ws rm av pre r post := by
  intro sz
  refine Met.ofW (cc := cc) (maxL := maxL) (ret := some .boolean) hy hw ?_
  intro p e s m args below meth c s₁ B hml hv
  obtain ⟨rfl, hsz, hP, hK, hD0⟩ := hv
  subst hsz
  have hD := hD0.self (sz := s.heap.size)
  have hl := lv_entry av (n := maxL) hav
  have hlocks := B.notSynchronized
  rw [lg_entry_eq]
  refine body p e s m _ below meth c (va_A pre s.heap.size) _ _ B.exec B.bytes (atoms_spec (ws := ws) B.pre) (findClass_of_methodNamed B.named) hml hK (fun q h => Or.inr h) hP hD va_S.rf ?_ hl
  intro v H locs ls pc hP hD hS hv hnb hdg
  exact W.zret (cc := cc) B.exec B.bytes B.returns hnb (fun t ht hW => ⟨⟨v, (), rfl, ⟨hv, hnb⟩, by rw [ht]; exact hP, va_K.moved hW.alike hK, hD⟩, hS.F ht⟩) hS.2.2 hdg
theorem gMl.of {l : Launch} {D : va_G} {tys : gT} {y : MethodName} {ws ws' : List Cond} {rm : Room} {av : List Value} {pre post : va_W} {r : Int64} {cc : ByteArray} {maxL : Nat} (hy : plainName y.cls = true) (hw : ws = Cond.code y cc maxL (some .long) :: ws') (hav : (lg_sl av).length ≤ maxL)
    (body : ∀ (p : Program) (e : Env) (s : State) (m : MethodId) (args : Array Value) (below : List Frame) (meth : Method) (c : Code) (A : Nat → Prop) (ls : Array Slot) (Q : State → Prop), p.tables.exec = Jvm.exec → c.code = cc → (∀ w ∈ ws, w.before args s = true) → s.vm.findClass y.cls = some m.cls → c.maxLocals = maxL → va_K D vwCl tys s → (∀ q : Nat, s.heap.size ≤ q → A q) → va_P D vwCl pre s.heap → va_D A pre → va_S A s.heap s.heap [] →
      (∀ (v : Int64) (H : Heap) (locs : List Loc) (ls : Array Slot) (pc : Nat), va_P D vwCl post H → va_D A post → va_S A s.heap H locs → v = r → decode cc pc = .ok (.lreturn, 1) → W p l e rm s m args below meth c H locs 0 0 Q (F0 m pc ls [.long v])) →
      lv_has ls maxL (lv_args 0 av) → W p l e rm s m args below meth c s.heap [] 0 0 Q (F0 m 0 ls [])) : gMl l D tys y ws rm av pre r post := by
  intro sz
  refine Met.ofW (cc := cc) (maxL := maxL) (ret := some .long) hy hw ?_
  intro p e s m args below meth c s₁ B hml hv
  obtain ⟨rfl, hsz, hP, hK, hD0⟩ := hv
  subst hsz
  have hD := hD0.self (sz := s.heap.size)
  have hl := lv_entry av (n := maxL) hav
  have hlocks := B.notSynchronized
  rw [lg_entry_eq]
  refine body p e s m _ below meth c (va_A pre s.heap.size) _ _ B.exec B.bytes (atoms_spec (ws := ws) B.pre) (findClass_of_methodNamed B.named) hml hK (fun q h => Or.inr h) hP hD va_S.rf ?_ hl
  intro v H locs ls pc hP hD hS hv hdg
  exact W.lret (cc := cc) B.exec B.bytes B.returns (fun t ht hW => ⟨⟨v, (), rfl, hv, by rw [ht]; exact hP, va_K.moved hW.alike hK, hD⟩, hS.F ht⟩) hS.2.2 hdg
theorem gMv.of {l : Launch} {D : va_G} {tys : gT} {y : MethodName} {ws ws' : List Cond} {rm : Room} {av : List Value} {pre post : va_W} {cc : ByteArray} {maxL : Nat} (hy : plainName y.cls = true) (hw : ws = Cond.code y cc maxL (none) :: ws') (hav : (lg_sl av).length ≤ maxL)
    (body : ∀ (p : Program) (e : Env) (s : State) (m : MethodId) (args : Array Value) (below : List Frame) (meth : Method) (c : Code) (A : Nat → Prop) (ls : Array Slot) (Q : State → Prop), p.tables.exec = Jvm.exec → c.code = cc → (∀ w ∈ ws, w.before args s = true) → s.vm.findClass y.cls = some m.cls → c.maxLocals = maxL → va_K D vwCl tys s → (∀ q : Nat, s.heap.size ≤ q → A q) → va_P D vwCl pre s.heap → va_D A pre → va_S A s.heap s.heap [] →
      (∀ (H : Heap) (locs : List Loc) (ls : Array Slot) (pc : Nat), va_P D vwCl post H → va_D A post → va_S A s.heap H locs → decode cc pc = .ok (.return_, 1) → W p l e rm s m args below meth c H locs 0 0 Q (F0 m pc ls [])) →
      lv_has ls maxL (lv_args 0 av) → W p l e rm s m args below meth c s.heap [] 0 0 Q (F0 m 0 ls [])) : gMv l D tys y ws rm av pre post := by
  intro sz
  refine Met.ofW (cc := cc) (maxL := maxL) (ret := none) hy hw ?_
  intro p e s m args below meth c s₁ B hml hv
  obtain ⟨rfl, hsz, hP, hK, hD0⟩ := hv
  subst hsz
  have hD := hD0.self (sz := s.heap.size)
  have hl := lv_entry av (n := maxL) hav
  have hlocks := B.notSynchronized
  rw [lg_entry_eq]
  refine body p e s m _ below meth c (va_A pre s.heap.size) _ _ B.exec B.bytes (atoms_spec (ws := ws) B.pre) (findClass_of_methodNamed B.named) hml hK (fun q h => Or.inr h) hP hD va_S.rf ?_ hl
  intro H locs ls pc hP hD hS hdg
  exact W.vret (cc := cc) B.exec B.bytes B.returns (fun t ht hW => ⟨⟨(), rfl, trivial, by rw [ht]; exact hP, va_K.moved hW.alike hK, hD⟩, hS.F ht⟩) hS.2.2 hdg
