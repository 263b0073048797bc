abbrev rmX6_length : Room := { frames := 0, cells := 0, slots := 0, locals := 0 }
def fX6_length (x0 : Int32) : Option (Int32) := (some (x0 &&& (7 : Int32)))
set_option maxHeartbeats 4000000 in
set_option maxRecDepth 100000 in
theorem kX6_length (l : Launch) (D : va_G) (cI cZ cD cG : ClassId) (x0 : Int32) (res : Int32) (hF : fX6_length x0 = some res) : gMi l D (gty cI cZ cD cG) yX6_length wsX6_length rmX6_length [.int x0] [] res [] := by
  refine gMi.of (cc := cX6_length) (maxL := 1) (by decide) rfl (Nat.le_of_ble_eq_true rfl) ?_
  intro p e s m args below meth c A ls Q hx hb hts hown hml hK hA hP hD hS hQ hl
  have hown : s.vm.findClass RX6 = some m.cls := hown
  have hl : lv_has ls 1 [(0, .int x0)] := hl
  rw [fX6_length] at hF
  refine lv_iload_n hx hb dX6_length_0 rfl (lv_at hl 0 rfl) ?_
  refine lv_bipush (v := 7) hx hb dX6_length_1 (by decide) ?_
  refine lv_iand hx hb dX6_length_3 ?_
  obtain rfl := Option.some.inj hF
  exact hQ _ _ _ _ _ hP hD hS rfl dX6_length_4

abbrev rmX6_bitsBehind : Room := { frames := 0, cells := 0, slots := 0, locals := 0 }
def fX6_bitsBehind (x0 : Int32) : Option (Int32) := (some ((27 : Int32) - ((4 : Int32) * x0)))
set_option maxHeartbeats 4000000 in
set_option maxRecDepth 100000 in
theorem kX6_bitsBehind (l : Launch) (D : va_G) (cI cZ cD cG : ClassId) (x0 : Int32) (res : Int32) (hF : fX6_bitsBehind x0 = some res) : gMi l D (gty cI cZ cD cG) yX6_bitsBehind wsX6_bitsBehind rmX6_bitsBehind [.int x0] [] res [] := by
  refine gMi.of (cc := cX6_bitsBehind) (maxL := 1) (by decide) rfl (Nat.le_of_ble_eq_true rfl) ?_
  intro p e s m args below meth c A ls Q hx hb hts hown hml hK hA hP hD hS hQ hl
  have hown : s.vm.findClass RX6 = some m.cls := hown
  have hl : lv_has ls 1 [(0, .int x0)] := hl
  rw [fX6_bitsBehind] at hF
  refine lv_bipush (v := 27) hx hb dX6_bitsBehind_0 (by decide) ?_
  refine lv_iconst (v := 4) hx hb dX6_bitsBehind_2 (by decide) ?_
  refine lv_iload_n hx hb dX6_bitsBehind_3 rfl (lv_at hl 0 rfl) ?_
  refine lv_imul hx hb dX6_bitsBehind_4 ?_
  refine lv_isub hx hb dX6_bitsBehind_5 ?_
  obtain rfl := Option.some.inj hF
  exact hQ _ _ _ _ _ hP hD hS rfl dX6_bitsBehind_6

abbrev rmX6_isHeadOf : Room := { frames := 1, cells := 0, slots := 0, locals := 20 }
def fX6_isHeadOf (x0 : Int32) (x1 : Int32) : Option (Int32) := (Option.bind (fX6_length x0) (fun q_1 => (Option.bind (fX6_length x1) (fun q_7 => (if q_7 < q_1 then (some (0 : Int32)) else (Option.bind (fX6_bitsBehind q_1) (fun q_17 => (if ((x0 ^^^ x1) >>> (q_17 &&& 31)) = 0 then (some (1 : Int32)) else (some (0 : Int32))))))))))
set_option maxHeartbeats 4000000 in
set_option maxRecDepth 100000 in
theorem kX6_isHeadOf (l : Launch) (D : va_G) (cI cZ cD cG : ClassId) (x0 : Int32) (x1 : Int32) (res : Int32) (hF : fX6_isHeadOf x0 x1 = some res) : gMz l D (gty cI cZ cD cG) yX6_isHeadOf wsX6_isHeadOf rmX6_isHeadOf [.int x0, .int x1] [] res [] := by
  refine gMz.of (cc := cX6_isHeadOf) (maxL := 3) (by decide) rfl (Nat.le_of_ble_eq_true rfl) ?_
  intro p e s m args below meth c A ls Q hx hb hts hown hml hK hA hP hD hS hQ hl
  have hown : s.vm.findClass RX6 = some m.cls := hown
  have hl : lv_has ls 3 [(0, .int x0), (1, .int x1)] := hl
  rw [fX6_isHeadOf] at hF
  refine lv_iload_n hx hb dX6_isHeadOf_0 rfl (lv_at hl 0 rfl) ?_
  obtain ⟨q_1, hc, hF⟩ := gb_some hF
  refine gcSi (As := [.int x0]) (rest := []) (pre := []) (post := []) (wr := []) ⟨hx, hb, hml, hown, hts⟩ (kX6_length l D cI cZ cD cG x0 q_1 hc) (va_cwS 1 hts gX6_isHeadOf_X6_length rfl rfl rfl (by decide +kernel) ⟨Nat.le_of_ble_eq_true rfl, Nat.le_of_ble_eq_true rfl⟩) hK hP hD hS hA [] [] rfl rfl (by decide) (by decide) (by decide) rfl hl.1 rfl (Nat.le_of_ble_eq_true rfl) dX6_isHeadOf_1 ⟨Nat.zero_le _, Nat.zero_le _⟩ (fun H locs hP hD hS => ?_)
  have hP : va_P D vwCl [] H := hP
  have hD : va_D A [] := hD
  refine lv_istore_n (lv' := [(2, .int q_1), (0, .int x0), (1, .int x1)]) hx hb dX6_isHeadOf_4 rfl hl (by decide) rfl (fun ls hl => ?_)
  refine lv_iload_n hx hb dX6_isHeadOf_5 rfl (lv_at hl 0 rfl) ?_
  refine lv_iload_n hx hb dX6_isHeadOf_6 rfl (lv_at hl 2 rfl) ?_
  obtain ⟨q_7, hc, hF⟩ := gb_some hF
  refine gcSi (As := [.int x1]) (rest := [.int q_1]) (pre := []) (post := []) (wr := []) ⟨hx, hb, hml, hown, hts⟩ (kX6_length l D cI cZ cD cG x1 q_7 hc) (va_cwS 1 hts gX6_isHeadOf_X6_length rfl rfl rfl (by decide +kernel) ⟨Nat.le_of_ble_eq_true rfl, Nat.le_of_ble_eq_true rfl⟩) hK hP hD hS hA [] [] rfl rfl (by decide) (by decide) (by decide) rfl hl.1 rfl (Nat.le_of_ble_eq_true rfl) dX6_isHeadOf_7 ⟨Nat.zero_le _, Nat.zero_le _⟩ (fun H locs hP hD hS => ?_)
  have hP : va_P D vwCl [] H := hP
  have hD : va_D A [] := hD
  refine lv_icmp_gt (tgt := 28) hx hb dX6_isHeadOf_10 (by decide) (fun cc => ?_) (fun cc => ?_)
  · have hF := gi_pos hF cc
    refine lv_iconst (v := 0) hx hb dX6_isHeadOf_28 (by decide) ?_
    obtain rfl := Option.some.inj hF
    exact hQ _ _ _ _ _ hP hD hS rfl rfl dX6_isHeadOf_29
  · have hF := gi_neg hF cc
    refine lv_iload_n hx hb dX6_isHeadOf_13 rfl (lv_at hl 1 rfl) ?_
    refine lv_iload_n hx hb dX6_isHeadOf_14 rfl (lv_at hl 2 rfl) ?_
    refine lv_ixor hx hb dX6_isHeadOf_15 ?_
    refine lv_iload_n hx hb dX6_isHeadOf_16 rfl (lv_at hl 0 rfl) ?_
    obtain ⟨q_17, hc, hF⟩ := gb_some hF
    refine gcSi (As := [.int q_1]) (rest := [.int (x0 ^^^ x1)]) (pre := []) (post := []) (wr := []) ⟨hx, hb, hml, hown, hts⟩ (kX6_bitsBehind l D cI cZ cD cG q_1 q_17 hc) (va_cwS 1 hts gX6_isHeadOf_X6_bitsBehind rfl rfl rfl (by decide +kernel) ⟨Nat.le_of_ble_eq_true rfl, Nat.le_of_ble_eq_true rfl⟩) hK hP hD hS hA [] [] rfl rfl (by decide) (by decide) (by decide) rfl hl.1 rfl (Nat.le_of_ble_eq_true rfl) dX6_isHeadOf_17 ⟨Nat.zero_le _, Nat.zero_le _⟩ (fun H locs hP hD hS => ?_)
    have hP : va_P D vwCl [] H := hP
    have hD : va_D A [] := hD
    refine lv_ishr hx hb dX6_isHeadOf_20 ?_
    refine lv_if_ne (tgt := 28) hx hb dX6_isHeadOf_21 (by decide) (fun cc => ?_) (fun cc => ?_)
    · have hF := gi_neg hF cc
      refine lv_iconst (v := 0) hx hb dX6_isHeadOf_28 (by decide) ?_
      obtain rfl := Option.some.inj hF
      exact hQ _ _ _ _ _ hP hD hS rfl rfl dX6_isHeadOf_29
    · have hF := gi_pos hF cc
      refine lv_iconst (v := 1) hx hb dX6_isHeadOf_24 (by decide) ?_
      refine lv_goto (tgt := 29) hx hb dX6_isHeadOf_25 (by decide) ?_
      obtain rfl := Option.some.inj hF
      exact hQ _ _ _ _ _ hP hD hS rfl rfl dX6_isHeadOf_29

abbrev rmX6_figures : Room := { frames := 1, cells := 0, slots := 0, locals := 20 }
def fX6_figures (x0 : Int32) : Option (Int32) := (Option.bind (fX6_length x0) (fun q_2 => (Option.bind (fX6_bitsBehind q_2) (fun q_5 => (some (x0 >>> (q_5 &&& 31)))))))
set_option maxHeartbeats 4000000 in
set_option maxRecDepth 100000 in
theorem kX6_figures (l : Launch) (D : va_G) (cI cZ cD cG : ClassId) (x0 : Int32) (res : Int32) (hF : fX6_figures x0 = some res) : gMi l D (gty cI cZ cD cG) yX6_figures wsX6_figures rmX6_figures [.int x0] [] res [] := by
  refine gMi.of (cc := cX6_figures) (maxL := 1) (by decide) rfl (Nat.le_of_ble_eq_true rfl) ?_
  intro p e s m args below meth c A ls Q hx hb hts hown hml hK hA hP hD hS hQ hl
  have hown : s.vm.findClass RX6 = some m.cls := hown
  have hl : lv_has ls 1 [(0, .int x0)] := hl
  rw [fX6_figures] at hF
  refine lv_iload_n hx hb dX6_figures_0 rfl (lv_at hl 0 rfl) ?_
  refine lv_iload_n hx hb dX6_figures_1 rfl (lv_at hl 0 rfl) ?_
  obtain ⟨q_2, hc, hF⟩ := gb_some hF
  refine gcSi (As := [.int x0]) (rest := [.int x0]) (pre := []) (post := []) (wr := []) ⟨hx, hb, hml, hown, hts⟩ (kX6_length l D cI cZ cD cG x0 q_2 hc) (va_cwS 1 hts gX6_figures_X6_length rfl rfl rfl (by decide +kernel) ⟨Nat.le_of_ble_eq_true rfl, Nat.le_of_ble_eq_true rfl⟩) hK hP hD hS hA [] [] rfl rfl (by decide) (by decide) (by decide) rfl hl.1 rfl (Nat.le_of_ble_eq_true rfl) dX6_figures_2 ⟨Nat.zero_le _, Nat.zero_le _⟩ (fun H locs hP hD hS => ?_)
  have hP : va_P D vwCl [] H := hP
  have hD : va_D A [] := hD
  obtain ⟨q_5, hc, hF⟩ := gb_some hF
  refine gcSi (As := [.int q_2]) (rest := [.int x0]) (pre := []) (post := []) (wr := []) ⟨hx, hb, hml, hown, hts⟩ (kX6_bitsBehind l D cI cZ cD cG q_2 q_5 hc) (va_cwS 1 hts gX6_figures_X6_bitsBehind rfl rfl rfl (by decide +kernel) ⟨Nat.le_of_ble_eq_true rfl, Nat.le_of_ble_eq_true rfl⟩) hK hP hD hS hA [] [] rfl rfl (by decide) (by decide) (by decide) rfl hl.1 rfl (Nat.le_of_ble_eq_true rfl) dX6_figures_5 ⟨Nat.zero_le _, Nat.zero_le _⟩ (fun H locs hP hD hS => ?_)
  have hP : va_P D vwCl [] H := hP
  have hD : va_D A [] := hD
  refine lv_ishr hx hb dX6_figures_8 ?_
  obtain rfl := Option.some.inj hF
  exact hQ _ _ _ _ _ hP hD hS rfl dX6_figures_9

abbrev rmJ6_numberOfLeadingZeros_0f7a4 : Room := { frames := 0, cells := 0, slots := 0, locals := 0 }
def fJ6_numberOfLeadingZeros_0f7a4 (x0 : Int32) : Option (Int32) := (if 0 < x0 then (Option.bind (α := Int32 × Int32) (if x0 < (65536 : Int32) then (some (x0, (31 : Int32))) else (gl ((31 : Int32) + (-16)) (fun x1_25 => (gl (((x0).toUInt32 >>> (((16 : Int32)).toUInt32 &&& Int32.toUInt32 31)).toInt32) (fun x0_32 => (some (x0_32, x1_25))))))) (fun q_33 => (Option.bind (α := Int32 × Int32) (if q_33.1 < (256 : Int32) then (some (q_33.1, q_33.2)) else (gl (q_33.2 + (-8)) (fun x1_40 => (gl (((q_33.1).toUInt32 >>> (((8 : Int32)).toUInt32 &&& Int32.toUInt32 31)).toInt32) (fun x0_47 => (some (x0_47, x1_40))))))) (fun q_48 => (Option.bind (α := Int32 × Int32) (if q_48.1 < (16 : Int32) then (some (q_48.1, q_48.2)) else (gl (q_48.2 + (-4)) (fun x1_54 => (gl (((q_48.1).toUInt32 >>> (((4 : Int32)).toUInt32 &&& Int32.toUInt32 31)).toInt32) (fun x0_60 => (some (x0_60, x1_54))))))) (fun q_61 => (if q_61.1 < (4 : Int32) then (some (q_61.2 - (((q_61.1).toUInt32 >>> (((1 : Int32)).toUInt32 &&& Int32.toUInt32 31)).toInt32))) else (gl (q_61.2 + (-2)) (fun x1_66 => (gl (((q_61.1).toUInt32 >>> (((2 : Int32)).toUInt32 &&& Int32.toUInt32 31)).toInt32) (fun x0_72 => (some (x1_66 - (((x0_72).toUInt32 >>> (((1 : Int32)).toUInt32 &&& Int32.toUInt32 31)).toInt32)))))))))))))) else (if x0 = 0 then (some (32 : Int32)) else (some (0 : Int32))))
set_option maxHeartbeats 4000000 in
set_option maxRecDepth 100000 in
theorem kJ6_numberOfLeadingZeros_0f7a4 (l : Launch) (D : va_G) (cI cZ cD cG : ClassId) (x0 : Int32) (res : Int32) (hF : fJ6_numberOfLeadingZeros_0f7a4 x0 = some res) : gMi l D (gty cI cZ cD cG) yJ6_numberOfLeadingZeros_0f7a4 wsJ6_numberOfLeadingZeros_0f7a4 rmJ6_numberOfLeadingZeros_0f7a4 [.int x0] [] res [] := by
  refine gMi.of (cc := cJ6_numberOfLeadingZeros_0f7a4) (maxL := 2) (by decide) rfl (Nat.le_of_ble_eq_true rfl) ?_
  intro p e s m args below meth c A ls Q hx hb hts hown hml hK hA hP hD hS hQ hl
  have hown : s.vm.findClass RJ6 = some m.cls := hown
  have hl : lv_has ls 2 [(0, .int x0)] := hl
  have hw0 := hts (.constant RJ6 264 (65536)) (by decide +kernel)
  rw [fJ6_numberOfLeadingZeros_0f7a4] at hF
  refine lv_iload_n hx hb dJ6_numberOfLeadingZeros_0f7a4_0 rfl (lv_at hl 0 rfl) ?_
  refine lv_if_gt (tgt := 15) hx hb dJ6_numberOfLeadingZeros_0f7a4_1 (by decide) (fun cc => ?_) (fun cc => ?_)
  · have hF := gi_pos hF cc
    refine lv_bipush (v := 31) hx hb dJ6_numberOfLeadingZeros_0f7a4_15 (by decide) ?_
    refine lv_istore_n (lv' := [(1, .int (31 : Int32)), (0, .int x0)]) hx hb dJ6_numberOfLeadingZeros_0f7a4_17 rfl hl (by decide) rfl (fun ls hl => ?_)
    refine lv_iload_n hx hb dJ6_numberOfLeadingZeros_0f7a4_18 rfl (lv_at hl 1 rfl) ?_
    refine lv_ldcw (v := (65536)) hx hb hown hw0 dJ6_numberOfLeadingZeros_0f7a4_19 ?_
    obtain ⟨q_33, hR, hF⟩ := gb_some hF
    have Jn_33 : ∀ (H : Heap) (locs : List Loc) (ls : Array Slot), va_P D vwCl [] H → va_D A [] → va_S A s.heap H locs → lv_has ls 2 [(0, .int q_33.1), (1, .int q_33.2)] → W p l e rmJ6_numberOfLeadingZeros_0f7a4 s m args below meth c H locs 0 0 Q (F0 m 33 ls []) := by
      intro H locs ls hP hD hS hl
      refine lv_iload_n hx hb dJ6_numberOfLeadingZeros_0f7a4_33 rfl (lv_at hl 0 rfl) ?_
      refine lv_sipush (v := 256) hx hb dJ6_numberOfLeadingZeros_0f7a4_34 (by decide) ?_
      obtain ⟨q_48, hR, hF⟩ := gb_some hF
      have Jn_48 : ∀ (H : Heap) (locs : List Loc) (ls : Array Slot), va_P D vwCl [] H → va_D A [] → va_S A s.heap H locs → lv_has ls 2 [(0, .int q_48.1), (1, .int q_48.2)] → W p l e rmJ6_numberOfLeadingZeros_0f7a4 s m args below meth c H locs 0 0 Q (F0 m 48 ls []) := by
        intro H locs ls hP hD hS hl
        refine lv_iload_n hx hb dJ6_numberOfLeadingZeros_0f7a4_48 rfl (lv_at hl 0 rfl) ?_
        refine lv_bipush (v := 16) hx hb dJ6_numberOfLeadingZeros_0f7a4_49 (by decide) ?_
        obtain ⟨q_61, hR, hF⟩ := gb_some hF
        have Jn_61 : ∀ (H : Heap) (locs : List Loc) (ls : Array Slot), va_P D vwCl [] H → va_D A [] → va_S A s.heap H locs → lv_has ls 2 [(0, .int q_61.1), (1, .int q_61.2)] → W p l e rmJ6_numberOfLeadingZeros_0f7a4 s m args below meth c H locs 0 0 Q (F0 m 61 ls []) := by
          intro H locs ls hP hD hS hl
          refine lv_iload_n hx hb dJ6_numberOfLeadingZeros_0f7a4_61 rfl (lv_at hl 0 rfl) ?_
          refine lv_iconst (v := 4) hx hb dJ6_numberOfLeadingZeros_0f7a4_62 (by decide) ?_
          refine lv_icmp_lt (tgt := 73) hx hb dJ6_numberOfLeadingZeros_0f7a4_63 (by decide) (fun cc => ?_) (fun cc => ?_)
          · have hF := gi_pos hF cc
            refine lv_iload_n hx hb dJ6_numberOfLeadingZeros_0f7a4_73 rfl (lv_at hl 1 rfl) ?_
            refine lv_iload_n hx hb dJ6_numberOfLeadingZeros_0f7a4_74 rfl (lv_at hl 0 rfl) ?_
            refine lv_iconst (v := 1) hx hb dJ6_numberOfLeadingZeros_0f7a4_75 (by decide) ?_
            refine lv_iushr hx hb dJ6_numberOfLeadingZeros_0f7a4_76 rfl ?_
            refine lv_isub hx hb dJ6_numberOfLeadingZeros_0f7a4_77 ?_
            obtain rfl := Option.some.inj hF
            exact hQ _ _ _ _ _ hP hD hS rfl dJ6_numberOfLeadingZeros_0f7a4_78
          · have hF := gi_neg hF cc
            obtain ⟨x1_66, ex⟩ : ∃ y : Int32, y = (q_61.2 + (-2)) := ⟨_, rfl⟩
            have hF := gl_some hF ex
            refine lv_iinc (v := x1_66) (lv' := [(1, .int x1_66), (0, .int q_61.1)]) hx hb dJ6_numberOfLeadingZeros_0f7a4_66 hl (k := 1) rfl (by rw [ex]; rfl) (by decide) rfl (fun ls hl => ?_)
            refine lv_iload_n hx hb dJ6_numberOfLeadingZeros_0f7a4_69 rfl (lv_at hl 1 rfl) ?_
            refine lv_iconst (v := 2) hx hb dJ6_numberOfLeadingZeros_0f7a4_70 (by decide) ?_
            refine lv_iushr hx hb dJ6_numberOfLeadingZeros_0f7a4_71 rfl ?_
            refine lv_topi (fun x0_72 ex => ?_)
            have hF := gl_some hF ex
            refine lv_istore_n (lv' := [(0, .int x0_72), (1, .int x1_66)]) hx hb dJ6_numberOfLeadingZeros_0f7a4_72 rfl hl (by decide) rfl (fun ls hl => ?_)
            refine lv_iload_n hx hb dJ6_numberOfLeadingZeros_0f7a4_73 rfl (lv_at hl 1 rfl) ?_
            refine lv_iload_n hx hb dJ6_numberOfLeadingZeros_0f7a4_74 rfl (lv_at hl 0 rfl) ?_
            refine lv_iconst (v := 1) hx hb dJ6_numberOfLeadingZeros_0f7a4_75 (by decide) ?_
            refine lv_iushr hx hb dJ6_numberOfLeadingZeros_0f7a4_76 rfl ?_
            refine lv_isub hx hb dJ6_numberOfLeadingZeros_0f7a4_77 ?_
            obtain rfl := Option.some.inj hF
            exact hQ _ _ _ _ _ hP hD hS rfl dJ6_numberOfLeadingZeros_0f7a4_78
        clear hF
        have hF := hR
        refine lv_icmp_lt (tgt := 61) hx hb dJ6_numberOfLeadingZeros_0f7a4_51 (by decide) (fun cc => ?_) (fun cc => ?_)
        · have hF := gi_pos hF cc
          obtain rfl := Option.some.inj hF
          exact Jn_61 _ _ _ hP hD hS (lv_sub hl [0, 1] rfl)
        · have hF := gi_neg hF cc
          obtain ⟨x1_54, ex⟩ : ∃ y : Int32, y = (q_48.2 + (-4)) := ⟨_, rfl⟩
          have hF := gl_some hF ex
          refine lv_iinc (v := x1_54) (lv' := [(1, .int x1_54), (0, .int q_48.1)]) hx hb dJ6_numberOfLeadingZeros_0f7a4_54 hl (k := 1) rfl (by rw [ex]; rfl) (by decide) rfl (fun ls hl => ?_)
          refine lv_iload_n hx hb dJ6_numberOfLeadingZeros_0f7a4_57 rfl (lv_at hl 1 rfl) ?_
          refine lv_iconst (v := 4) hx hb dJ6_numberOfLeadingZeros_0f7a4_58 (by decide) ?_
          refine lv_iushr hx hb dJ6_numberOfLeadingZeros_0f7a4_59 rfl ?_
          refine lv_topi (fun x0_60 ex => ?_)
          have hF := gl_some hF ex
          refine lv_istore_n (lv' := [(0, .int x0_60), (1, .int x1_54)]) hx hb dJ6_numberOfLeadingZeros_0f7a4_60 rfl hl (by decide) rfl (fun ls hl => ?_)
          obtain rfl := Option.some.inj hF
          exact Jn_61 _ _ _ hP hD hS (lv_sub hl [0, 1] rfl)
      clear hF
      have hF := hR
      refine lv_icmp_lt (tgt := 48) hx hb dJ6_numberOfLeadingZeros_0f7a4_37 (by decide) (fun cc => ?_) (fun cc => ?_)
      · have hF := gi_pos hF cc
        obtain rfl := Option.some.inj hF
        exact Jn_48 _ _ _ hP hD hS (lv_sub hl [0, 1] rfl)
      · have hF := gi_neg hF cc
        obtain ⟨x1_40, ex⟩ : ∃ y : Int32, y = (q_33.2 + (-8)) := ⟨_, rfl⟩
        have hF := gl_some hF ex
        refine lv_iinc (v := x1_40) (lv' := [(1, .int x1_40), (0, .int q_33.1)]) hx hb dJ6_numberOfLeadingZeros_0f7a4_40 hl (k := 1) rfl (by rw [ex]; rfl) (by decide) rfl (fun ls hl => ?_)
        refine lv_iload_n hx hb dJ6_numberOfLeadingZeros_0f7a4_43 rfl (lv_at hl 1 rfl) ?_
        refine lv_bipush (v := 8) hx hb dJ6_numberOfLeadingZeros_0f7a4_44 (by decide) ?_
        refine lv_iushr hx hb dJ6_numberOfLeadingZeros_0f7a4_46 rfl ?_
        refine lv_topi (fun x0_47 ex => ?_)
        have hF := gl_some hF ex
        refine lv_istore_n (lv' := [(0, .int x0_47), (1, .int x1_40)]) hx hb dJ6_numberOfLeadingZeros_0f7a4_47 rfl hl (by decide) rfl (fun ls hl => ?_)
        obtain rfl := Option.some.inj hF
        exact Jn_48 _ _ _ hP hD hS (lv_sub hl [0, 1] rfl)
    clear hF
    have hF := hR
    refine lv_icmp_lt (tgt := 33) hx hb dJ6_numberOfLeadingZeros_0f7a4_22 (by decide) (fun cc => ?_) (fun cc => ?_)
    · have hF := gi_pos hF cc
      obtain rfl := Option.some.inj hF
      exact Jn_33 _ _ _ hP hD hS (lv_sub hl [1, 0] rfl)
    · have hF := gi_neg hF cc
      obtain ⟨x1_25, ex⟩ : ∃ y : Int32, y = ((31 : Int32) + (-16)) := ⟨_, rfl⟩
      have hF := gl_some hF ex
      refine lv_iinc (v := x1_25) (lv' := [(1, .int x1_25), (0, .int x0)]) hx hb dJ6_numberOfLeadingZeros_0f7a4_25 hl (k := 0) rfl (by rw [ex]; rfl) (by decide) rfl (fun ls hl => ?_)
      refine lv_iload_n hx hb dJ6_numberOfLeadingZeros_0f7a4_28 rfl (lv_at hl 1 rfl) ?_
      refine lv_bipush (v := 16) hx hb dJ6_numberOfLeadingZeros_0f7a4_29 (by decide) ?_
      refine lv_iushr hx hb dJ6_numberOfLeadingZeros_0f7a4_31 rfl ?_
      refine lv_topi (fun x0_32 ex => ?_)
      have hF := gl_some hF ex
      refine lv_istore_n (lv' := [(0, .int x0_32), (1, .int x1_25)]) hx hb dJ6_numberOfLeadingZeros_0f7a4_32 rfl hl (by decide) rfl (fun ls hl => ?_)
      obtain rfl := Option.some.inj hF
      exact Jn_33 _ _ _ hP hD hS (lv_sub hl [0, 1] rfl)
  · have hF := gi_neg hF cc
    refine lv_iload_n hx hb dJ6_numberOfLeadingZeros_0f7a4_4 rfl (lv_at hl 0 rfl) ?_
    refine lv_if_ne (tgt := 13) hx hb dJ6_numberOfLeadingZeros_0f7a4_5 (by decide) (fun cc => ?_) (fun cc => ?_)
    · have hF := gi_neg hF cc
      refine lv_iconst (v := 0) hx hb dJ6_numberOfLeadingZeros_0f7a4_13 (by decide) ?_
      obtain rfl := Option.some.inj hF
      exact hQ _ _ _ _ _ hP hD hS rfl dJ6_numberOfLeadingZeros_0f7a4_14
    · have hF := gi_pos hF cc
      refine lv_bipush (v := 32) hx hb dJ6_numberOfLeadingZeros_0f7a4_8 (by decide) ?_
      refine lv_goto (tgt := 14) hx hb dJ6_numberOfLeadingZeros_0f7a4_10 (by decide) ?_
      obtain rfl := Option.some.inj hF
      exact hQ _ _ _ _ _ hP hD hS rfl dJ6_numberOfLeadingZeros_0f7a4_14

abbrev rmX6_sharedLength : Room := { frames := 1, cells := 0, slots := 0, locals := 21 }
def fX6_sharedLength (x0 : Int32) (x1 : Int32) : Option (Int32) := (gl ((x0 ^^^ x1) >>> ((3 : Int32) &&& 31)) (fun x2_5 => (Option.bind (fJ6_numberOfLeadingZeros_0f7a4 x2_5) (fun q_7 => (gd (4 : Int32) (gl ((q_7 - (8 : Int32)) / (4 : Int32)) (fun x3_15 => (Option.bind (fX6_length x0) (fun q_18 => (Option.bind (fX6_length x1) (fun q_22 => (some (if (if q_22 < q_18 then q_22 else q_18) < x3_15 then (if q_22 < q_18 then q_22 else q_18) else x3_15)))))))))))))
set_option maxHeartbeats 4000000 in
set_option maxRecDepth 100000 in
theorem kX6_sharedLength (l : Launch) (D : va_G) (cI cZ cD cG : ClassId) (x0 : Int32) (x1 : Int32) (res : Int32) (hF : fX6_sharedLength x0 x1 = some res) : gMi l D (gty cI cZ cD cG) yX6_sharedLength wsX6_sharedLength rmX6_sharedLength [.int x0, .int x1] [] res [] := by
  refine gMi.of (cc := cX6_sharedLength) (maxL := 4) (by decide) rfl (Nat.le_of_ble_eq_true rfl) ?_
  intro p e s m args below meth c A ls Q hx hb hts hown hml hK hA hP hD hS hQ hl
  have hown : s.vm.findClass RX6 = some m.cls := hown
  have hl : lv_has ls 4 [(0, .int x0), (1, .int x1)] := hl
  have hw0 := hts (.methodLink RX6 28 Lib.Math.min.name) (by decide +kernel)
  have hw1 := hts (.static Lib.Math.min.name) (by decide +kernel)
  have hw2 := hts (.initialized "java/lang/Math") (by decide +kernel)
  have hw3 := hts (.code Lib.Math.min.name Lib.Math.min.code 2 (some .int)) (by decide +kernel)
  rw [fX6_sharedLength] at hF
  refine lv_iload_n hx hb dX6_sharedLength_0 rfl (lv_at hl 0 rfl) ?_
  refine lv_iload_n hx hb dX6_sharedLength_1 rfl (lv_at hl 1 rfl) ?_
  refine lv_ixor hx hb dX6_sharedLength_2 ?_
  refine lv_iconst (v := 3) hx hb dX6_sharedLength_3 (by decide) ?_
  refine lv_ishr hx hb dX6_sharedLength_4 ?_
  refine lv_topi (fun x2_5 ex => ?_)
  have hF := gl_some hF ex
  refine lv_istore_n (lv' := [(2, .int x2_5), (0, .int x0), (1, .int x1)]) hx hb dX6_sharedLength_5 rfl hl (by decide) rfl (fun ls hl => ?_)
  refine lv_iload_n hx hb dX6_sharedLength_6 rfl (lv_at hl 0 rfl) ?_
  obtain ⟨q_7, hc, hF⟩ := gb_some hF
  refine gcSi (As := [.int x2_5]) (rest := []) (pre := []) (post := []) (wr := []) ⟨hx, hb, hml, hown, hts⟩ (kJ6_numberOfLeadingZeros_0f7a4 l D cI cZ cD cG x2_5 q_7 hc) (va_cwS 1 hts gX6_sharedLength_J6_numberOfLeadingZeros_0f7a4 rfl rfl rfl (by decide +kernel) ⟨Nat.le_of_ble_eq_true rfl, Nat.le_of_ble_eq_true rfl⟩) hK hP hD hS hA [] [] rfl rfl (by decide) (by decide) (by decide) rfl hl.1 rfl (Nat.le_of_ble_eq_true rfl) dX6_sharedLength_7 ⟨Nat.zero_le _, Nat.zero_le _⟩ (fun H locs hP hD hS => ?_)
  have hP : va_P D vwCl [] H := hP
  have hD : va_D A [] := hD
  refine lv_bipush (v := 8) hx hb dX6_sharedLength_10 (by decide) ?_
  refine lv_isub hx hb dX6_sharedLength_12 ?_
  refine lv_iconst (v := 4) hx hb dX6_sharedLength_13 (by decide) ?_
  obtain ⟨hne, hF⟩ := gd_some hF
  refine lv_idiv hx hb dX6_sharedLength_14 hne ?_
  refine lv_topi (fun x3_15 ex => ?_)
  have hF := gl_some hF ex
  refine lv_istore_n (lv' := [(3, .int x3_15), (2, .int x2_5), (0, .int x0), (1, .int x1)]) hx hb dX6_sharedLength_15 rfl hl (by decide) rfl (fun ls hl => ?_)
  refine lv_iload_n hx hb dX6_sharedLength_16 rfl (lv_at hl 0 rfl) ?_
  refine lv_iload_n hx hb dX6_sharedLength_17 rfl (lv_at hl 2 rfl) ?_
  obtain ⟨q_18, hc, hF⟩ := gb_some hF
  refine gcSi (As := [.int x0]) (rest := [.int x3_15]) (pre := []) (post := []) (wr := []) ⟨hx, hb, hml, hown, hts⟩ (kX6_length l D cI cZ cD cG x0 q_18 hc) (va_cwS 1 hts gX6_sharedLength_X6_length rfl rfl rfl (by decide +kernel) ⟨Nat.le_of_ble_eq_true rfl, Nat.le_of_ble_eq_true rfl⟩) hK hP hD hS hA [] [] rfl rfl (by decide) (by decide) (by decide) rfl hl.1 rfl (Nat.le_of_ble_eq_true rfl) dX6_sharedLength_18 ⟨Nat.zero_le _, Nat.zero_le _⟩ (fun H locs hP hD hS => ?_)
  have hP : va_P D vwCl [] H := hP
  have hD : va_D A [] := hD
  refine lv_iload_n hx hb dX6_sharedLength_21 rfl (lv_at hl 3 rfl) ?_
  obtain ⟨q_22, hc, hF⟩ := gb_some hF
  refine gcSi (As := [.int x1]) (rest := [.int q_18, .int x3_15]) (pre := []) (post := []) (wr := []) ⟨hx, hb, hml, hown, hts⟩ (kX6_length l D cI cZ cD cG x1 q_22 hc) (va_cwS 1 hts gX6_sharedLength_X6_length rfl rfl rfl (by decide +kernel) ⟨Nat.le_of_ble_eq_true rfl, Nat.le_of_ble_eq_true rfl⟩) hK hP hD hS hA [] [] rfl rfl (by decide) (by decide) (by decide) rfl hl.1 rfl (Nat.le_of_ble_eq_true rfl) dX6_sharedLength_22 ⟨Nat.zero_le _, Nat.zero_le _⟩ (fun H locs hP hD hS => ?_)
  have hP : va_P D vwCl [] H := hP
  have hD : va_D A [] := hD
  refine va_mmin hx hb (hml.trans hl.1.symm) hown hw0 hw1 hw2 hw3 (Nat.le_of_ble_eq_true rfl) (Nat.le_of_ble_eq_true rfl) (Nat.zero_le _) (Nat.zero_le _) dX6_sharedLength_25 ?_
  refine va_mmin hx hb (hml.trans hl.1.symm) hown hw0 hw1 hw2 hw3 (Nat.le_of_ble_eq_true rfl) (Nat.le_of_ble_eq_true rfl) (Nat.zero_le _) (Nat.zero_le _) dX6_sharedLength_28 ?_
  obtain rfl := Option.some.inj hF
  exact hQ _ _ _ _ _ hP hD hS rfl dX6_sharedLength_31

abbrev rmX6_head : Room := { frames := 1, cells := 0, slots := 0, locals := 20 }
def fX6_head (x0 : Int32) (x1 : Int32) : Option (Int32) := (Option.bind (fX6_bitsBehind x1) (fun q_1 => (some (((x0 >>> (q_1 &&& 31)) <<< (q_1 &&& 31)) ||| x1))))
set_option maxHeartbeats 4000000 in
set_option maxRecDepth 100000 in
theorem kX6_head (l : Launch) (D : va_G) (cI cZ cD cG : ClassId) (x0 : Int32) (x1 : Int32) (res : Int32) (hF : fX6_head x0 x1 = some res) : gMi l D (gty cI cZ cD cG) yX6_head wsX6_head rmX6_head [.int x0, .int x1] [] res [] := by
  refine gMi.of (cc := cX6_head) (maxL := 3) (by decide) rfl (Nat.le_of_ble_eq_true rfl) ?_
  intro p e s m args below meth c A ls Q hx hb hts hown hml hK hA hP hD hS hQ hl
  have hown : s.vm.findClass RX6 = some m.cls := hown
  have hl : lv_has ls 3 [(0, .int x0), (1, .int x1)] := hl
  rw [fX6_head] at hF
  refine lv_iload_n hx hb dX6_head_0 rfl (lv_at hl 1 rfl) ?_
  obtain ⟨q_1, hc, hF⟩ := gb_some hF
  refine gcSi (As := [.int x1]) (rest := []) (pre := []) (post := []) (wr := []) ⟨hx, hb, hml, hown, hts⟩ (kX6_bitsBehind l D cI cZ cD cG x1 q_1 hc) (va_cwS 1 hts gX6_head_X6_bitsBehind rfl rfl rfl (by decide +kernel) ⟨Nat.le_of_ble_eq_true rfl, Nat.le_of_ble_eq_true rfl⟩) hK hP hD hS hA [] [] rfl rfl (by decide) (by decide) (by decide) rfl hl.1 rfl (Nat.le_of_ble_eq_true rfl) dX6_head_1 ⟨Nat.zero_le _, Nat.zero_le _⟩ (fun H locs hP hD hS => ?_)
  have hP : va_P D vwCl [] H := hP
  have hD : va_D A [] := hD
  refine lv_istore_n (lv' := [(2, .int q_1), (0, .int x0), (1, .int x1)]) hx hb dX6_head_4 rfl hl (by decide) rfl (fun ls hl => ?_)
  refine lv_iload_n hx hb dX6_head_5 rfl (lv_at hl 1 rfl) ?_
  refine lv_iload_n hx hb dX6_head_6 rfl (lv_at hl 0 rfl) ?_
  refine lv_ishr hx hb dX6_head_7 ?_
  refine lv_iload_n hx hb dX6_head_8 rfl (lv_at hl 0 rfl) ?_
  refine lv_ishl hx hb dX6_head_9 ?_
  refine lv_iload_n hx hb dX6_head_10 rfl (lv_at hl 2 rfl) ?_
  refine lv_ior hx hb dX6_head_11 ?_
  obtain rfl := Option.some.inj hF
  exact hQ _ _ _ _ _ hP hD hS rfl dX6_head_12

abbrev rmX6_figure : Room := { frames := 1, cells := 0, slots := 0, locals := 20 }
def fX6_figure (x0 : Int32) (x1 : Int32) : Option (Int32) := (Option.bind (fX6_bitsBehind (x1 + (1 : Int32))) (fun q_4 => (some ((x0 >>> (q_4 &&& 31)) &&& (15 : Int32)))))
set_option maxHeartbeats 4000000 in
set_option maxRecDepth 100000 in
theorem kX6_figure (l : Launch) (D : va_G) (cI cZ cD cG : ClassId) (x0 : Int32) (x1 : Int32) (res : Int32) (hF : fX6_figure x0 x1 = some res) : gMi l D (gty cI cZ cD cG) yX6_figure wsX6_figure rmX6_figure [.int x0, .int x1] [] res [] := by
  refine gMi.of (cc := cX6_figure) (maxL := 2) (by decide) rfl (Nat.le_of_ble_eq_true rfl) ?_
  intro p e s m args below meth c A ls Q hx hb hts hown hml hK hA hP hD hS hQ hl
  have hown : s.vm.findClass RX6 = some m.cls := hown
  have hl : lv_has ls 2 [(0, .int x0), (1, .int x1)] := hl
  rw [fX6_figure] at hF
  refine lv_iload_n hx hb dX6_figure_0 rfl (lv_at hl 0 rfl) ?_
  refine lv_iload_n hx hb dX6_figure_1 rfl (lv_at hl 1 rfl) ?_
  refine lv_iconst (v := 1) hx hb dX6_figure_2 (by decide) ?_
  refine lv_iadd hx hb dX6_figure_3 ?_
  obtain ⟨q_4, hc, hF⟩ := gb_some hF
  refine gcSi (As := [.int (x1 + (1 : Int32))]) (rest := [.int x0]) (pre := []) (post := []) (wr := []) ⟨hx, hb, hml, hown, hts⟩ (kX6_bitsBehind l D cI cZ cD cG (x1 + (1 : Int32)) q_4 hc) (va_cwS 1 hts gX6_figure_X6_bitsBehind rfl rfl rfl (by decide +kernel) ⟨Nat.le_of_ble_eq_true rfl, Nat.le_of_ble_eq_true rfl⟩) hK hP hD hS hA [] [] rfl rfl (by decide) (by decide) (by decide) rfl hl.1 rfl (Nat.le_of_ble_eq_true rfl) dX6_figure_4 ⟨Nat.zero_le _, Nat.zero_le _⟩ (fun H locs hP hD hS => ?_)
  have hP : va_P D vwCl [] H := hP
  have hD : va_D A [] := hD
  refine lv_ishr hx hb dX6_figure_7 ?_
  refine lv_bipush (v := 15) hx hb dX6_figure_8 (by decide) ?_
  refine lv_iand hx hb dX6_figure_10 ?_
  obtain rfl := Option.some.inj hF
  exact hQ _ _ _ _ _ hP hD hS rfl dX6_figure_11

abbrev rmJ6_bitCount_0f7a4 : Room := { frames := 0, cells := 0, slots := 0, locals := 0 }
def fJ6_bitCount_0f7a4 (x0 : Int32) : Option (Int32) := (gl (x0 - ((((x0).toUInt32 >>> (((1 : Int32)).toUInt32 &&& Int32.toUInt32 31)).toInt32) &&& (1431655765 : Int32))) (fun x0_9 => (gl ((x0_9 &&& (858993459 : Int32)) + ((((x0_9).toUInt32 >>> (((2 : Int32)).toUInt32 &&& Int32.toUInt32 31)).toInt32) &&& (858993459 : Int32))) (fun x0_23 => (gl ((x0_23 + (((x0_23).toUInt32 >>> (((4 : Int32)).toUInt32 &&& Int32.toUInt32 31)).toInt32)) &&& (252645135 : Int32)) (fun x0_33 => (gl (x0_33 + (((x0_33).toUInt32 >>> (((8 : Int32)).toUInt32 &&& Int32.toUInt32 31)).toInt32)) (fun x0_40 => (gl (x0_40 + (((x0_40).toUInt32 >>> (((16 : Int32)).toUInt32 &&& Int32.toUInt32 31)).toInt32)) (fun x0_47 => (some (x0_47 &&& (63 : Int32)))))))))))))
set_option maxHeartbeats 4000000 in
set_option maxRecDepth 100000 in
theorem kJ6_bitCount_0f7a4 (l : Launch) (D : va_G) (cI cZ cD cG : ClassId) (x0 : Int32) (res : Int32) (hF : fJ6_bitCount_0f7a4 x0 = some res) : gMi l D (gty cI cZ cD cG) yJ6_bitCount_0f7a4 wsJ6_bitCount_0f7a4 rmJ6_bitCount_0f7a4 [.int x0] [] res [] := by
  refine gMi.of (cc := cJ6_bitCount_0f7a4) (maxL := 1) (by decide) rfl (Nat.le_of_ble_eq_true rfl) ?_
  intro p e s m args below meth c A ls Q hx hb hts hown hml hK hA hP hD hS hQ hl
  have hown : s.vm.findClass RJ6 = some m.cls := hown
  have hl : lv_has ls 1 [(0, .int x0)] := hl
  have hw0 := hts (.constant RJ6 265 (1431655765)) (by decide +kernel)
  have hw1 := hts (.constant RJ6 266 (858993459)) (by decide +kernel)
  have hw2 := hts (.constant RJ6 267 (252645135)) (by decide +kernel)
  rw [fJ6_bitCount_0f7a4] at hF
  refine lv_iload_n hx hb dJ6_bitCount_0f7a4_0 rfl (lv_at hl 0 rfl) ?_
  refine lv_iload_n hx hb dJ6_bitCount_0f7a4_1 rfl (lv_at hl 0 rfl) ?_
  refine lv_iconst (v := 1) hx hb dJ6_bitCount_0f7a4_2 (by decide) ?_
  refine lv_iushr hx hb dJ6_bitCount_0f7a4_3 rfl ?_
  refine lv_ldcw (v := (1431655765)) hx hb hown hw0 dJ6_bitCount_0f7a4_4 ?_
  refine lv_iand hx hb dJ6_bitCount_0f7a4_7 ?_
  refine lv_isub hx hb dJ6_bitCount_0f7a4_8 ?_
  refine lv_topi (fun x0_9 ex => ?_)
  have hF := gl_some hF ex
  refine lv_istore_n (lv' := [(0, .int x0_9)]) hx hb dJ6_bitCount_0f7a4_9 rfl hl (by decide) rfl (fun ls hl => ?_)
  refine lv_iload_n hx hb dJ6_bitCount_0f7a4_10 rfl (lv_at hl 0 rfl) ?_
  refine lv_ldcw (v := (858993459)) hx hb hown hw1 dJ6_bitCount_0f7a4_11 ?_
  refine lv_iand hx hb dJ6_bitCount_0f7a4_14 ?_
  refine lv_iload_n hx hb dJ6_bitCount_0f7a4_15 rfl (lv_at hl 0 rfl) ?_
  refine lv_iconst (v := 2) hx hb dJ6_bitCount_0f7a4_16 (by decide) ?_
  refine lv_iushr hx hb dJ6_bitCount_0f7a4_17 rfl ?_
  refine lv_ldcw (v := (858993459)) hx hb hown hw1 dJ6_bitCount_0f7a4_18 ?_
  refine lv_iand hx hb dJ6_bitCount_0f7a4_21 ?_
  refine lv_iadd hx hb dJ6_bitCount_0f7a4_22 ?_
  refine lv_topi (fun x0_23 ex => ?_)
  have hF := gl_some hF ex
  refine lv_istore_n (lv' := [(0, .int x0_23)]) hx hb dJ6_bitCount_0f7a4_23 rfl hl (by decide) rfl (fun ls hl => ?_)
  refine lv_iload_n hx hb dJ6_bitCount_0f7a4_24 rfl (lv_at hl 0 rfl) ?_
  refine lv_iload_n hx hb dJ6_bitCount_0f7a4_25 rfl (lv_at hl 0 rfl) ?_
  refine lv_iconst (v := 4) hx hb dJ6_bitCount_0f7a4_26 (by decide) ?_
  refine lv_iushr hx hb dJ6_bitCount_0f7a4_27 rfl ?_
  refine lv_iadd hx hb dJ6_bitCount_0f7a4_28 ?_
  refine lv_ldcw (v := (252645135)) hx hb hown hw2 dJ6_bitCount_0f7a4_29 ?_
  refine lv_iand hx hb dJ6_bitCount_0f7a4_32 ?_
  refine lv_topi (fun x0_33 ex => ?_)
  have hF := gl_some hF ex
  refine lv_istore_n (lv' := [(0, .int x0_33)]) hx hb dJ6_bitCount_0f7a4_33 rfl hl (by decide) rfl (fun ls hl => ?_)
  refine lv_iload_n hx hb dJ6_bitCount_0f7a4_34 rfl (lv_at hl 0 rfl) ?_
  refine lv_iload_n hx hb dJ6_bitCount_0f7a4_35 rfl (lv_at hl 0 rfl) ?_
  refine lv_bipush (v := 8) hx hb dJ6_bitCount_0f7a4_36 (by decide) ?_
  refine lv_iushr hx hb dJ6_bitCount_0f7a4_38 rfl ?_
  refine lv_iadd hx hb dJ6_bitCount_0f7a4_39 ?_
  refine lv_topi (fun x0_40 ex => ?_)
  have hF := gl_some hF ex
  refine lv_istore_n (lv' := [(0, .int x0_40)]) hx hb dJ6_bitCount_0f7a4_40 rfl hl (by decide) rfl (fun ls hl => ?_)
  refine lv_iload_n hx hb dJ6_bitCount_0f7a4_41 rfl (lv_at hl 0 rfl) ?_
  refine lv_iload_n hx hb dJ6_bitCount_0f7a4_42 rfl (lv_at hl 0 rfl) ?_
  refine lv_bipush (v := 16) hx hb dJ6_bitCount_0f7a4_43 (by decide) ?_
  refine lv_iushr hx hb dJ6_bitCount_0f7a4_45 rfl ?_
  refine lv_iadd hx hb dJ6_bitCount_0f7a4_46 ?_
  refine lv_topi (fun x0_47 ex => ?_)
  have hF := gl_some hF ex
  refine lv_istore_n (lv' := [(0, .int x0_47)]) hx hb dJ6_bitCount_0f7a4_47 rfl hl (by decide) rfl (fun ls hl => ?_)
  refine lv_iload_n hx hb dJ6_bitCount_0f7a4_48 rfl (lv_at hl 0 rfl) ?_
  refine lv_bipush (v := 63) hx hb dJ6_bitCount_0f7a4_49 (by decide) ?_
  refine lv_iand hx hb dJ6_bitCount_0f7a4_51 ?_
  obtain rfl := Option.some.inj hF
  exact hQ _ _ _ _ _ hP hD hS rfl dJ6_bitCount_0f7a4_52

abbrev rmJ6_numberOfTrailingZeros_0f7a4 : Room := { frames := 0, cells := 0, slots := 0, locals := 0 }
def fJ6_numberOfTrailingZeros_0f7a4 (x0 : Int32) : Option (Int32) := (gl ((x0 ^^^ (-1 : Int32)) &&& (x0 - (1 : Int32))) (fun x0_7 => (if 0 < x0_7 then (Option.bind (α := Int32 × Int32) (if x0_7 ≤ (65536 : Int32) then (some (x0_7, (1 : Int32))) else (gl ((1 : Int32) + 16) (fun x1_26 => (gl (((x0_7).toUInt32 >>> (((16 : Int32)).toUInt32 &&& Int32.toUInt32 31)).toInt32) (fun x0_33 => (some (x0_33, x1_26))))))) (fun q_34 => (Option.bind (α := Int32 × Int32) (if q_34.1 ≤ (256 : Int32) then (some (q_34.1, q_34.2)) else (gl (q_34.2 + 8) (fun x1_41 => (gl (((q_34.1).toUInt32 >>> (((8 : Int32)).toUInt32 &&& Int32.toUInt32 31)).toInt32) (fun x0_48 => (some (x0_48, x1_41))))))) (fun q_49 => (Option.bind (α := Int32 × Int32) (if q_49.1 ≤ (16 : Int32) then (some (q_49.1, q_49.2)) else (gl (q_49.2 + 4) (fun x1_55 => (gl (((q_49.1).toUInt32 >>> (((4 : Int32)).toUInt32 &&& Int32.toUInt32 31)).toInt32) (fun x0_61 => (some (x0_61, x1_55))))))) (fun q_62 => (if q_62.1 ≤ (4 : Int32) then (some (q_62.2 + (((q_62.1).toUInt32 >>> (((1 : Int32)).toUInt32 &&& Int32.toUInt32 31)).toInt32))) else (gl (q_62.2 + 2) (fun x1_67 => (gl (((q_62.1).toUInt32 >>> (((2 : Int32)).toUInt32 &&& Int32.toUInt32 31)).toInt32) (fun x0_73 => (some (x1_67 + (((x0_73).toUInt32 >>> (((1 : Int32)).toUInt32 &&& Int32.toUInt32 31)).toInt32)))))))))))))) else (some (x0_7 &&& (32 : Int32))))))
set_option maxHeartbeats 4000000 in
set_option maxRecDepth 100000 in
theorem kJ6_numberOfTrailingZeros_0f7a4 (l : Launch) (D : va_G) (cI cZ cD cG : ClassId) (x0 : Int32) (res : Int32) (hF : fJ6_numberOfTrailingZeros_0f7a4 x0 = some res) : gMi l D (gty cI cZ cD cG) yJ6_numberOfTrailingZeros_0f7a4 wsJ6_numberOfTrailingZeros_0f7a4 rmJ6_numberOfTrailingZeros_0f7a4 [.int x0] [] res [] := by
  refine gMi.of (cc := cJ6_numberOfTrailingZeros_0f7a4) (maxL := 2) (by decide) rfl (Nat.le_of_ble_eq_true rfl) ?_
  intro p e s m args below meth c A ls Q hx hb hts hown hml hK hA hP hD hS hQ hl
  have hown : s.vm.findClass RJ6 = some m.cls := hown
  have hl : lv_has ls 2 [(0, .int x0)] := hl
  have hw0 := hts (.constant RJ6 264 (65536)) (by decide +kernel)
  rw [fJ6_numberOfTrailingZeros_0f7a4] at hF
  refine lv_iload_n hx hb dJ6_numberOfTrailingZeros_0f7a4_0 rfl (lv_at hl 0 rfl) ?_
  refine lv_iconst (v := (-1)) hx hb dJ6_numberOfTrailingZeros_0f7a4_1 (by decide) ?_
  refine lv_ixor hx hb dJ6_numberOfTrailingZeros_0f7a4_2 ?_
  refine lv_iload_n hx hb dJ6_numberOfTrailingZeros_0f7a4_3 rfl (lv_at hl 0 rfl) ?_
  refine lv_iconst (v := 1) hx hb dJ6_numberOfTrailingZeros_0f7a4_4 (by decide) ?_
  refine lv_isub hx hb dJ6_numberOfTrailingZeros_0f7a4_5 ?_
  refine lv_iand hx hb dJ6_numberOfTrailingZeros_0f7a4_6 ?_
  refine lv_topi (fun x0_7 ex => ?_)
  have hF := gl_some hF ex
  refine lv_istore_n (lv' := [(0, .int x0_7)]) hx hb dJ6_numberOfTrailingZeros_0f7a4_7 rfl hl (by decide) rfl (fun ls hl => ?_)
  refine lv_iload_n hx hb dJ6_numberOfTrailingZeros_0f7a4_8 rfl (lv_at hl 0 rfl) ?_
  refine lv_if_gt (tgt := 17) hx hb dJ6_numberOfTrailingZeros_0f7a4_9 (by decide) (fun cc => ?_) (fun cc => ?_)
  · have hF := gi_pos hF cc
    refine lv_iconst (v := 1) hx hb dJ6_numberOfTrailingZeros_0f7a4_17 (by decide) ?_
    refine lv_istore_n (lv' := [(1, .int (1 : Int32)), (0, .int x0_7)]) hx hb dJ6_numberOfTrailingZeros_0f7a4_18 rfl hl (by decide) rfl (fun ls hl => ?_)
    refine lv_iload_n hx hb dJ6_numberOfTrailingZeros_0f7a4_19 rfl (lv_at hl 1 rfl) ?_
    refine lv_ldcw (v := (65536)) hx hb hown hw0 dJ6_numberOfTrailingZeros_0f7a4_20 ?_
    obtain ⟨q_34, hR, hF⟩ := gb_some hF
    have Jn_34 : ∀ (H : Heap) (locs : List Loc) (ls : Array Slot), va_P D vwCl [] H → va_D A [] → va_S A s.heap H locs → lv_has ls 2 [(0, .int q_34.1), (1, .int q_34.2)] → W p l e rmJ6_numberOfTrailingZeros_0f7a4 s m args below meth c H locs 0 0 Q (F0 m 34 ls []) := by
      intro H locs ls hP hD hS hl
      refine lv_iload_n hx hb dJ6_numberOfTrailingZeros_0f7a4_34 rfl (lv_at hl 0 rfl) ?_
      refine lv_sipush (v := 256) hx hb dJ6_numberOfTrailingZeros_0f7a4_35 (by decide) ?_
      obtain ⟨q_49, hR, hF⟩ := gb_some hF
      have Jn_49 : ∀ (H : Heap) (locs : List Loc) (ls : Array Slot), va_P D vwCl [] H → va_D A [] → va_S A s.heap H locs → lv_has ls 2 [(0, .int q_49.1), (1, .int q_49.2)] → W p l e rmJ6_numberOfTrailingZeros_0f7a4 s m args below meth c H locs 0 0 Q (F0 m 49 ls []) := by
        intro H locs ls hP hD hS hl
        refine lv_iload_n hx hb dJ6_numberOfTrailingZeros_0f7a4_49 rfl (lv_at hl 0 rfl) ?_
        refine lv_bipush (v := 16) hx hb dJ6_numberOfTrailingZeros_0f7a4_50 (by decide) ?_
        obtain ⟨q_62, hR, hF⟩ := gb_some hF
        have Jn_62 : ∀ (H : Heap) (locs : List Loc) (ls : Array Slot), va_P D vwCl [] H → va_D A [] → va_S A s.heap H locs → lv_has ls 2 [(0, .int q_62.1), (1, .int q_62.2)] → W p l e rmJ6_numberOfTrailingZeros_0f7a4 s m args below meth c H locs 0 0 Q (F0 m 62 ls []) := by
          intro H locs ls hP hD hS hl
          refine lv_iload_n hx hb dJ6_numberOfTrailingZeros_0f7a4_62 rfl (lv_at hl 0 rfl) ?_
          refine lv_iconst (v := 4) hx hb dJ6_numberOfTrailingZeros_0f7a4_63 (by decide) ?_
          refine lv_icmp_le (tgt := 74) hx hb dJ6_numberOfTrailingZeros_0f7a4_64 (by decide) (fun cc => ?_) (fun cc => ?_)
          · have hF := gi_pos hF cc
            refine lv_iload_n hx hb dJ6_numberOfTrailingZeros_0f7a4_74 rfl (lv_at hl 1 rfl) ?_
            refine lv_iload_n hx hb dJ6_numberOfTrailingZeros_0f7a4_75 rfl (lv_at hl 0 rfl) ?_
            refine lv_iconst (v := 1) hx hb dJ6_numberOfTrailingZeros_0f7a4_76 (by decide) ?_
            refine lv_iushr hx hb dJ6_numberOfTrailingZeros_0f7a4_77 rfl ?_
            refine lv_iadd hx hb dJ6_numberOfTrailingZeros_0f7a4_78 ?_
            obtain rfl := Option.some.inj hF
            exact hQ _ _ _ _ _ hP hD hS rfl dJ6_numberOfTrailingZeros_0f7a4_79
          · have hF := gi_neg hF cc
            obtain ⟨x1_67, ex⟩ : ∃ y : Int32, y = (q_62.2 + 2) := ⟨_, rfl⟩
            have hF := gl_some hF ex
            refine lv_iinc (v := x1_67) (lv' := [(1, .int x1_67), (0, .int q_62.1)]) hx hb dJ6_numberOfTrailingZeros_0f7a4_67 hl (k := 1) rfl (by rw [ex]; rfl) (by decide) rfl (fun ls hl => ?_)
            refine lv_iload_n hx hb dJ6_numberOfTrailingZeros_0f7a4_70 rfl (lv_at hl 1 rfl) ?_
            refine lv_iconst (v := 2) hx hb dJ6_numberOfTrailingZeros_0f7a4_71 (by decide) ?_
            refine lv_iushr hx hb dJ6_numberOfTrailingZeros_0f7a4_72 rfl ?_
            refine lv_topi (fun x0_73 ex => ?_)
            have hF := gl_some hF ex
            refine lv_istore_n (lv' := [(0, .int x0_73), (1, .int x1_67)]) hx hb dJ6_numberOfTrailingZeros_0f7a4_73 rfl hl (by decide) rfl (fun ls hl => ?_)
            refine lv_iload_n hx hb dJ6_numberOfTrailingZeros_0f7a4_74 rfl (lv_at hl 1 rfl) ?_
            refine lv_iload_n hx hb dJ6_numberOfTrailingZeros_0f7a4_75 rfl (lv_at hl 0 rfl) ?_
            refine lv_iconst (v := 1) hx hb dJ6_numberOfTrailingZeros_0f7a4_76 (by decide) ?_
            refine lv_iushr hx hb dJ6_numberOfTrailingZeros_0f7a4_77 rfl ?_
            refine lv_iadd hx hb dJ6_numberOfTrailingZeros_0f7a4_78 ?_
            obtain rfl := Option.some.inj hF
            exact hQ _ _ _ _ _ hP hD hS rfl dJ6_numberOfTrailingZeros_0f7a4_79
        clear hF
        have hF := hR
        refine lv_icmp_le (tgt := 62) hx hb dJ6_numberOfTrailingZeros_0f7a4_52 (by decide) (fun cc => ?_) (fun cc => ?_)
        · have hF := gi_pos hF cc
          obtain rfl := Option.some.inj hF
          exact Jn_62 _ _ _ hP hD hS (lv_sub hl [0, 1] rfl)
        · have hF := gi_neg hF cc
          obtain ⟨x1_55, ex⟩ : ∃ y : Int32, y = (q_49.2 + 4) := ⟨_, rfl⟩
          have hF := gl_some hF ex
          refine lv_iinc (v := x1_55) (lv' := [(1, .int x1_55), (0, .int q_49.1)]) hx hb dJ6_numberOfTrailingZeros_0f7a4_55 hl (k := 1) rfl (by rw [ex]; rfl) (by decide) rfl (fun ls hl => ?_)
          refine lv_iload_n hx hb dJ6_numberOfTrailingZeros_0f7a4_58 rfl (lv_at hl 1 rfl) ?_
          refine lv_iconst (v := 4) hx hb dJ6_numberOfTrailingZeros_0f7a4_59 (by decide) ?_
          refine lv_iushr hx hb dJ6_numberOfTrailingZeros_0f7a4_60 rfl ?_
          refine lv_topi (fun x0_61 ex => ?_)
          have hF := gl_some hF ex
          refine lv_istore_n (lv' := [(0, .int x0_61), (1, .int x1_55)]) hx hb dJ6_numberOfTrailingZeros_0f7a4_61 rfl hl (by decide) rfl (fun ls hl => ?_)
          obtain rfl := Option.some.inj hF
          exact Jn_62 _ _ _ hP hD hS (lv_sub hl [0, 1] rfl)
      clear hF
      have hF := hR
      refine lv_icmp_le (tgt := 49) hx hb dJ6_numberOfTrailingZeros_0f7a4_38 (by decide) (fun cc => ?_) (fun cc => ?_)
      · have hF := gi_pos hF cc
        obtain rfl := Option.some.inj hF
        exact Jn_49 _ _ _ hP hD hS (lv_sub hl [0, 1] rfl)
      · have hF := gi_neg hF cc
        obtain ⟨x1_41, ex⟩ : ∃ y : Int32, y = (q_34.2 + 8) := ⟨_, rfl⟩
        have hF := gl_some hF ex
        refine lv_iinc (v := x1_41) (lv' := [(1, .int x1_41), (0, .int q_34.1)]) hx hb dJ6_numberOfTrailingZeros_0f7a4_41 hl (k := 1) rfl (by rw [ex]; rfl) (by decide) rfl (fun ls hl => ?_)
        refine lv_iload_n hx hb dJ6_numberOfTrailingZeros_0f7a4_44 rfl (lv_at hl 1 rfl) ?_
        refine lv_bipush (v := 8) hx hb dJ6_numberOfTrailingZeros_0f7a4_45 (by decide) ?_
        refine lv_iushr hx hb dJ6_numberOfTrailingZeros_0f7a4_47 rfl ?_
        refine lv_topi (fun x0_48 ex => ?_)
        have hF := gl_some hF ex
        refine lv_istore_n (lv' := [(0, .int x0_48), (1, .int x1_41)]) hx hb dJ6_numberOfTrailingZeros_0f7a4_48 rfl hl (by decide) rfl (fun ls hl => ?_)
        obtain rfl := Option.some.inj hF
        exact Jn_49 _ _ _ hP hD hS (lv_sub hl [0, 1] rfl)
    clear hF
    have hF := hR
    refine lv_icmp_le (tgt := 34) hx hb dJ6_numberOfTrailingZeros_0f7a4_23 (by decide) (fun cc => ?_) (fun cc => ?_)
    · have hF := gi_pos hF cc
      obtain rfl := Option.some.inj hF
      exact Jn_34 _ _ _ hP hD hS (lv_sub hl [1, 0] rfl)
    · have hF := gi_neg hF cc
      obtain ⟨x1_26, ex⟩ : ∃ y : Int32, y = ((1 : Int32) + 16) := ⟨_, rfl⟩
      have hF := gl_some hF ex
      refine lv_iinc (v := x1_26) (lv' := [(1, .int x1_26), (0, .int x0_7)]) hx hb dJ6_numberOfTrailingZeros_0f7a4_26 hl (k := 0) rfl (by rw [ex]; rfl) (by decide) rfl (fun ls hl => ?_)
      refine lv_iload_n hx hb dJ6_numberOfTrailingZeros_0f7a4_29 rfl (lv_at hl 1 rfl) ?_
      refine lv_bipush (v := 16) hx hb dJ6_numberOfTrailingZeros_0f7a4_30 (by decide) ?_
      refine lv_iushr hx hb dJ6_numberOfTrailingZeros_0f7a4_32 rfl ?_
      refine lv_topi (fun x0_33 ex => ?_)
      have hF := gl_some hF ex
      refine lv_istore_n (lv' := [(0, .int x0_33), (1, .int x1_26)]) hx hb dJ6_numberOfTrailingZeros_0f7a4_33 rfl hl (by decide) rfl (fun ls hl => ?_)
      obtain rfl := Option.some.inj hF
      exact Jn_34 _ _ _ hP hD hS (lv_sub hl [0, 1] rfl)
  · have hF := gi_neg hF cc
    refine lv_iload_n hx hb dJ6_numberOfTrailingZeros_0f7a4_12 rfl (lv_at hl 0 rfl) ?_
    refine lv_bipush (v := 32) hx hb dJ6_numberOfTrailingZeros_0f7a4_13 (by decide) ?_
    refine lv_iand hx hb dJ6_numberOfTrailingZeros_0f7a4_15 ?_
    obtain rfl := Option.some.inj hF
    exact hQ _ _ _ _ _ hP hD hS rfl dJ6_numberOfTrailingZeros_0f7a4_16

abbrev rmX6_tail : Room := { frames := 1, cells := 0, slots := 0, locals := 20 }
def fX6_tail (x0 : Int32) (x1 : Int32) : Option (Int32) := (Option.bind (fX6_length x0) (fun q_12 => (some ((((x0 &&& (134217720 : Int32)) <<< (((4 : Int32) * x1) &&& 31)) &&& (134217720 : Int32)) ||| (q_12 - x1)))))
set_option maxHeartbeats 4000000 in
set_option maxRecDepth 100000 in
theorem kX6_tail (l : Launch) (D : va_G) (cI cZ cD cG : ClassId) (x0 : Int32) (x1 : Int32) (res : Int32) (hF : fX6_tail x0 x1 = some res) : gMi l D (gty cI cZ cD cG) yX6_tail wsX6_tail rmX6_tail [.int x0, .int x1] [] res [] := by
  refine gMi.of (cc := cX6_tail) (maxL := 2) (by decide) rfl (Nat.le_of_ble_eq_true rfl) ?_
  intro p e s m args below meth c A ls Q hx hb hts hown hml hK hA hP hD hS hQ hl
  have hown : s.vm.findClass RX6 = some m.cls := hown
  have hl : lv_has ls 2 [(0, .int x0), (1, .int x1)] := hl
  have hw0 := hts (.constant RX6 22 (134217720)) (by decide +kernel)
  rw [fX6_tail] at hF
  refine lv_iload_n hx hb dX6_tail_0 rfl (lv_at hl 0 rfl) ?_
  refine lv_ldc (v := (134217720)) hx hb hown hw0 dX6_tail_1 ?_
  refine lv_iand hx hb dX6_tail_3 ?_
  refine lv_iconst (v := 4) hx hb dX6_tail_4 (by decide) ?_
  refine lv_iload_n hx hb dX6_tail_5 rfl (lv_at hl 1 rfl) ?_
  refine lv_imul hx hb dX6_tail_6 ?_
  refine lv_ishl hx hb dX6_tail_7 ?_
  refine lv_ldc (v := (134217720)) hx hb hown hw0 dX6_tail_8 ?_
  refine lv_iand hx hb dX6_tail_10 ?_
  refine lv_iload_n hx hb dX6_tail_11 rfl (lv_at hl 0 rfl) ?_
  obtain ⟨q_12, hc, hF⟩ := gb_some hF
  refine gcSi (As := [.int x0]) (rest := [.int (((x0 &&& (134217720 : Int32)) <<< (((4 : Int32) * x1) &&& 31)) &&& (134217720 : Int32))]) (pre := []) (post := []) (wr := []) ⟨hx, hb, hml, hown, hts⟩ (kX6_length l D cI cZ cD cG x0 q_12 hc) (va_cwS 1 hts gX6_tail_X6_length rfl rfl rfl (by decide +kernel) ⟨Nat.le_of_ble_eq_true rfl, Nat.le_of_ble_eq_true rfl⟩) hK hP hD hS hA [] [] rfl rfl (by decide) (by decide) (by decide) rfl hl.1 rfl (Nat.le_of_ble_eq_true rfl) dX6_tail_12 ⟨Nat.zero_le _, Nat.zero_le _⟩ (fun H locs hP hD hS => ?_)
  have hP : va_P D vwCl [] H := hP
  have hD : va_D A [] := hD
  refine lv_iload_n hx hb dX6_tail_15 rfl (lv_at hl 1 rfl) ?_
  refine lv_isub hx hb dX6_tail_16 ?_
  refine lv_ior hx hb dX6_tail_17 ?_
  obtain rfl := Option.some.inj hF
  exact hQ _ _ _ _ _ hP hD hS rfl dX6_tail_18

abbrev rmX6_pack : Room := { frames := 1, cells := 0, slots := 0, locals := 20 }
def fX6_pack (x0 : Int32) (x1 : Int32) : Option (Int32) := (Option.bind (fX6_bitsBehind x1) (fun q_2 => (some ((x0 <<< (q_2 &&& 31)) ||| x1))))
set_option maxHeartbeats 4000000 in
set_option maxRecDepth 100000 in
theorem kX6_pack (l : Launch) (D : va_G) (cI cZ cD cG : ClassId) (x0 : Int32) (x1 : Int32) (res : Int32) (hF : fX6_pack x0 x1 = some res) : gMi l D (gty cI cZ cD cG) yX6_pack wsX6_pack rmX6_pack [.int x0, .int x1] [] res [] := by
  refine gMi.of (cc := cX6_pack) (maxL := 2) (by decide) rfl (Nat.le_of_ble_eq_true rfl) ?_
  intro p e s m args below meth c A ls Q hx hb hts hown hml hK hA hP hD hS hQ hl
  have hown : s.vm.findClass RX6 = some m.cls := hown
  have hl : lv_has ls 2 [(0, .int x0), (1, .int x1)] := hl
  rw [fX6_pack] at hF
  refine lv_iload_n hx hb dX6_pack_0 rfl (lv_at hl 0 rfl) ?_
  refine lv_iload_n hx hb dX6_pack_1 rfl (lv_at hl 1 rfl) ?_
  obtain ⟨q_2, hc, hF⟩ := gb_some hF
  refine gcSi (As := [.int x1]) (rest := [.int x0]) (pre := []) (post := []) (wr := []) ⟨hx, hb, hml, hown, hts⟩ (kX6_bitsBehind l D cI cZ cD cG x1 q_2 hc) (va_cwS 1 hts gX6_pack_X6_bitsBehind rfl rfl rfl (by decide +kernel) ⟨Nat.le_of_ble_eq_true rfl, Nat.le_of_ble_eq_true rfl⟩) hK hP hD hS hA [] [] rfl rfl (by decide) (by decide) (by decide) rfl hl.1 rfl (Nat.le_of_ble_eq_true rfl) dX6_pack_2 ⟨Nat.zero_le _, Nat.zero_le _⟩ (fun H locs hP hD hS => ?_)
  have hP : va_P D vwCl [] H := hP
  have hD : va_D A [] := hD
  refine lv_ishl hx hb dX6_pack_5 ?_
  refine lv_iload_n hx hb dX6_pack_6 rfl (lv_at hl 1 rfl) ?_
  refine lv_ior hx hb dX6_pack_7 ?_
  obtain rfl := Option.some.inj hF
  exact hQ _ _ _ _ _ hP hD hS rfl dX6_pack_8

abbrev rmX6_isWord : Room := { frames := 0, cells := 0, slots := 0, locals := 0 }
def fX6_isWord (x0 : Int32) (x1 : Int32) : Option (Int32) := (if x1 < (1 : Int32) then (some (0 : Int32)) else (if (6 : Int32) < x1 then (some (0 : Int32)) else (if x0 < 0 then (some (0 : Int32)) else (if ((1 : Int32) <<< (((4 : Int32) * x1) &&& 31)) ≤ x0 then (some (0 : Int32)) else (some (1 : Int32))))))
set_option maxHeartbeats 4000000 in
set_option maxRecDepth 100000 in
theorem kX6_isWord (l : Launch) (D : va_G) (cI cZ cD cG : ClassId) (x0 : Int32) (x1 : Int32) (res : Int32) (hF : fX6_isWord x0 x1 = some res) : gMz l D (gty cI cZ cD cG) yX6_isWord wsX6_isWord rmX6_isWord [.int x0, .int x1] [] res [] := by
  refine gMz.of (cc := cX6_isWord) (maxL := 2) (by decide) rfl (Nat.le_of_ble_eq_true rfl) ?_
  intro p e s m args below meth c A ls Q hx hb hts hown hml hK hA hP hD hS hQ hl
  have hown : s.vm.findClass RX6 = some m.cls := hown
  have hl : lv_has ls 2 [(0, .int x0), (1, .int x1)] := hl
  rw [fX6_isWord] at hF
  refine lv_iload_n hx hb dX6_isWord_0 rfl (lv_at hl 1 rfl) ?_
  refine lv_iconst (v := 1) hx hb dX6_isWord_1 (by decide) ?_
  refine lv_icmp_lt (tgt := 28) hx hb dX6_isWord_2 (by decide) (fun cc => ?_) (fun cc => ?_)
  · have hF := gi_pos hF cc
    refine lv_iconst (v := 0) hx hb dX6_isWord_28 (by decide) ?_
    obtain rfl := Option.some.inj hF
    exact hQ _ _ _ _ _ hP hD hS rfl rfl dX6_isWord_29
  · have hF := gi_neg hF cc
    refine lv_iload_n hx hb dX6_isWord_5 rfl (lv_at hl 1 rfl) ?_
    refine lv_bipush (v := 6) hx hb dX6_isWord_6 (by decide) ?_
    refine lv_icmp_gt (tgt := 28) hx hb dX6_isWord_8 (by decide) (fun cc => ?_) (fun cc => ?_)
    · have hF := gi_pos hF cc
      refine lv_iconst (v := 0) hx hb dX6_isWord_28 (by decide) ?_
      obtain rfl := Option.some.inj hF
      exact hQ _ _ _ _ _ hP hD hS rfl rfl dX6_isWord_29
    · have hF := gi_neg hF cc
      refine lv_iload_n hx hb dX6_isWord_11 rfl (lv_at hl 0 rfl) ?_
      refine lv_if_lt (tgt := 28) hx hb dX6_isWord_12 (by decide) (fun cc => ?_) (fun cc => ?_)
      · have hF := gi_pos hF cc
        refine lv_iconst (v := 0) hx hb dX6_isWord_28 (by decide) ?_
        obtain rfl := Option.some.inj hF
        exact hQ _ _ _ _ _ hP hD hS rfl rfl dX6_isWord_29
      · have hF := gi_neg hF cc
        refine lv_iload_n hx hb dX6_isWord_15 rfl (lv_at hl 0 rfl) ?_
        refine lv_iconst (v := 1) hx hb dX6_isWord_16 (by decide) ?_
        refine lv_iconst (v := 4) hx hb dX6_isWord_17 (by decide) ?_
        refine lv_iload_n hx hb dX6_isWord_18 rfl (lv_at hl 1 rfl) ?_
        refine lv_imul hx hb dX6_isWord_19 ?_
        refine lv_ishl hx hb dX6_isWord_20 ?_
        refine lv_icmp_ge (tgt := 28) hx hb dX6_isWord_21 (by decide) (fun cc => ?_) (fun cc => ?_)
        · have hF := gi_pos hF cc
          refine lv_iconst (v := 0) hx hb dX6_isWord_28 (by decide) ?_
          obtain rfl := Option.some.inj hF
          exact hQ _ _ _ _ _ hP hD hS rfl rfl dX6_isWord_29
        · have hF := gi_neg hF cc
          refine lv_iconst (v := 1) hx hb dX6_isWord_24 (by decide) ?_
          refine lv_goto (tgt := 29) hx hb dX6_isWord_25 (by decide) ?_
          obtain rfl := Option.some.inj hF
          exact hQ _ _ _ _ _ hP hD hS rfl rfl dX6_isWord_29

abbrev rmX6_isPath : Room := { frames := 1, cells := 0, slots := 0, locals := 21 }
def fX6_isPath (x0 : Int32) (x1 : Int32) : Option (Int32) := (if x1 = 0 then (if x0 = 0 then (some (1 : Int32)) else (some (0 : Int32))) else (Option.bind (fX6_isWord x0 x1) (fun q_18 => (some q_18))))
set_option maxHeartbeats 4000000 in
set_option maxRecDepth 100000 in
theorem kX6_isPath (l : Launch) (D : va_G) (cI cZ cD cG : ClassId) (x0 : Int32) (x1 : Int32) (res : Int32) (hF : fX6_isPath x0 x1 = some res) : gMz l D (gty cI cZ cD cG) yX6_isPath wsX6_isPath rmX6_isPath [.int x0, .int x1] [] res [] := by
  refine gMz.of (cc := cX6_isPath) (maxL := 2) (by decide) rfl (Nat.le_of_ble_eq_true rfl) ?_
  intro p e s m args below meth c A ls Q hx hb hts hown hml hK hA hP hD hS hQ hl
  have hown : s.vm.findClass RX6 = some m.cls := hown
  have hl : lv_has ls 2 [(0, .int x0), (1, .int x1)] := hl
  rw [fX6_isPath] at hF
  refine lv_iload_n hx hb dX6_isPath_0 rfl (lv_at hl 1 rfl) ?_
  refine lv_if_ne (tgt := 16) hx hb dX6_isPath_1 (by decide) (fun cc => ?_) (fun cc => ?_)
  · have hF := gi_neg hF cc
    refine lv_iload_n hx hb dX6_isPath_16 rfl (lv_at hl 0 rfl) ?_
    refine lv_iload_n hx hb dX6_isPath_17 rfl (lv_at hl 1 rfl) ?_
    obtain ⟨q_18, hc, hF⟩ := gb_some hF
    refine gcSz (As := [.int x0, .int x1]) (rest := []) (pre := []) (post := []) (wr := []) ⟨hx, hb, hml, hown, hts⟩ (kX6_isWord l D cI cZ cD cG x0 x1 q_18 hc) (va_cwS 2 hts gX6_isPath_X6_isWord rfl rfl rfl (by decide +kernel) ⟨Nat.le_of_ble_eq_true rfl, Nat.le_of_ble_eq_true rfl⟩) hK hP hD hS hA [] [] rfl rfl (by decide) (by decide) (by decide) rfl hl.1 rfl (Nat.le_of_ble_eq_true rfl) dX6_isPath_18 ⟨Nat.zero_le _, Nat.zero_le _⟩ (fun H locs hnq_18 hP hD hS => ?_)
    have hP : va_P D vwCl [] H := hP
    have hD : va_D A [] := hD
    obtain rfl := Option.some.inj hF
    exact hQ _ _ _ _ _ hP hD hS rfl hnq_18 dX6_isPath_21
  · have hF := gi_pos hF cc
    refine lv_iload_n hx hb dX6_isPath_4 rfl (lv_at hl 0 rfl) ?_
    refine lv_if_ne (tgt := 12) hx hb dX6_isPath_5 (by decide) (fun cc => ?_) (fun cc => ?_)
    · have hF := gi_neg hF cc
      refine lv_iconst (v := 0) hx hb dX6_isPath_12 (by decide) ?_
      refine lv_goto (tgt := 21) hx hb dX6_isPath_13 (by decide) ?_
      obtain rfl := Option.some.inj hF
      exact hQ _ _ _ _ _ hP hD hS rfl rfl dX6_isPath_21
    · have hF := gi_pos hF cc
      refine lv_iconst (v := 1) hx hb dX6_isPath_8 (by decide) ?_
      refine lv_goto (tgt := 21) hx hb dX6_isPath_9 (by decide) ?_
      obtain rfl := Option.some.inj hF
      exact hQ _ _ _ _ _ hP hD hS rfl rfl dX6_isPath_21

