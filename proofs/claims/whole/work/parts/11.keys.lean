abbrev rmX0_forget : Room := { frames := 0, cells := 0, slots := 0, locals := 0 }
def fX0_forget : Option (Int32) := (some (-1 : Int32))
set_option maxHeartbeats 4000000 in
set_option maxRecDepth 100000 in
theorem kX0_forget (l : Launch) (D : va_G) (cI cZ cD cG : ClassId) (h_t : Nat) (v_t_size : Int32) (h_t_kinds : Nat) (h_t_words : Nat) (h_t_values : Nat) (res : Int32) (hF : fX0_forget = some res) : gMv l D (gty cI cZ cD cG) yX0_forget wsX0_forget rmX0_forget [.ref h_t] [gO h_t 0 [.int v_t_size, .ref h_t_kinds, .ref h_t_words, .ref h_t_values]] [gO h_t 0 [.int res, .ref h_t_kinds, .ref h_t_words, .ref h_t_values]] := by
  refine gMv.of (cc := cX0_forget) (maxL := 1) (by decide) rfl (Nat.le_of_ble_eq_true rfl) ?_
  intro p e s m args below meth c A ls Q hx hb hts hown hml hK hA hP hD hS hQ hl
  have hown : s.vm.findClass RX0 = some m.cls := hown
  have hl : lv_has ls 1 [(0, .ref h_t)] := hl
  have hw0 := hts (.fieldLink RX0 9 "NibbleTrunk$Deeds" "size" "I") (by decide +kernel)
  have hinX0 : ∀ w ∈ wsX00, w ∈ wsX0_forget := by decide +kernel
  rw [fX0_forget] at hF
  refine lv_aload_n hx hb dX0_forget_0 rfl (lv_at hl 0 rfl) ?_
  refine lv_iconst (v := (-1)) hx hb dX0_forget_1 (by decide) ?_
  refine va_put (D := D) (ci := 0) (v := .int (-1 : Int32)) (ty := .int) (C := RX0) (T := TX0) (N := 4) hx hb hts hinX0 tyX0 tyX0_ok nmX0 hown hK hP hD hS 0 rfl rfl 0 (by decide) hw0 (fun _ h9 => h9) rfl (by decide +kernel) rfl rfl (Nat.le_of_ble_eq_true rfl) dX0_forget_2 (fun H locs hP hD hS => ?_)
  have hP : va_P D vwCl [gO h_t 0 [.int (-1 : Int32), .ref h_t_kinds, .ref h_t_words, .ref h_t_values]] H := hP
  have hD : va_D A [gO h_t 0 [.int (-1 : Int32), .ref h_t_kinds, .ref h_t_words, .ref h_t_values]] := hD
  obtain rfl := Option.some.inj hF
  exact hQ _ _ _ _ hP hD hS dX0_forget_5

abbrev rmX0_cutTo : Room := { frames := 0, cells := 0, slots := 0, locals := 0 }
def fX0_cutTo (x1 : Int32) (v_t_size : Int32) : Option (Int32) := (if x1 < 0 then (some v_t_size) else (if v_t_size < x1 then (some v_t_size) else (some x1)))
set_option maxHeartbeats 4000000 in
set_option maxRecDepth 100000 in
theorem kX0_cutTo (l : Launch) (D : va_G) (cI cZ cD cG : ClassId) (h_t : Nat) (v_t_size : Int32) (h_t_kinds : Nat) (h_t_words : Nat) (h_t_values : Nat) (x1 : Int32) (res : Int32) (hF : fX0_cutTo x1 v_t_size = some res) : gMv l D (gty cI cZ cD cG) yX0_cutTo wsX0_cutTo rmX0_cutTo [.ref h_t, .int x1] [gO h_t 0 [.int v_t_size, .ref h_t_kinds, .ref h_t_words, .ref h_t_values]] [gO h_t 0 [.int res, .ref h_t_kinds, .ref h_t_words, .ref h_t_values]] := by
  refine gMv.of (cc := cX0_cutTo) (maxL := 2) (by decide) rfl (Nat.le_of_ble_eq_true rfl) ?_
  intro p e s m args below meth c A ls Q hx hb hts hown hml hK hA hP hD hS hQ hl
  have hown : s.vm.findClass RX0 = some m.cls := hown
  have hl : lv_has ls 2 [(0, .ref h_t), (1, .int x1)] := hl
  have hw0 := hts (.fieldLink RX0 9 "NibbleTrunk$Deeds" "size" "I") (by decide +kernel)
  have hinX0 : ∀ w ∈ wsX00, w ∈ wsX0_cutTo := by decide +kernel
  rw [fX0_cutTo] at hF
  refine lv_iload_n hx hb dX0_cutTo_0 rfl (lv_at hl 1 rfl) ?_
  refine lv_if_lt (tgt := 17) hx hb dX0_cutTo_1 (by decide) (fun cc => ?_) (fun cc => ?_)
  · have hF := gi_pos hF cc
    obtain rfl := Option.some.inj hF
    exact hQ _ _ _ _ hP hD hS dX0_cutTo_17
  · have hF := gi_neg hF cc
    refine lv_iload_n hx hb dX0_cutTo_4 rfl (lv_at hl 1 rfl) ?_
    refine lv_aload_n hx hb dX0_cutTo_5 rfl (lv_at hl 0 rfl) ?_
    refine va_get (D := D) (ci := 0) (v := .int v_t_size) (C := RX0) (T := TX0) (N := 4) hx hb hts hinX0 hown hK hP 0 rfl rfl 0 (by decide) hw0 (fun _ h9 => h9) rfl dX0_cutTo_6 ?_
    refine lv_icmp_gt (tgt := 17) hx hb dX0_cutTo_9 (by decide) (fun cc => ?_) (fun cc => ?_)
    · have hF := gi_pos hF cc
      obtain rfl := Option.some.inj hF
      exact hQ _ _ _ _ hP hD hS dX0_cutTo_17
    · have hF := gi_neg hF cc
      refine lv_aload_n hx hb dX0_cutTo_12 rfl (lv_at hl 0 rfl) ?_
      refine lv_iload_n hx hb dX0_cutTo_13 rfl (lv_at hl 1 rfl) ?_
      refine va_put (D := D) (ci := 0) (v := .int x1) (ty := .int) (C := RX0) (T := TX0) (N := 4) hx hb hts hinX0 tyX0 tyX0_ok nmX0 hown hK hP hD hS 0 rfl rfl 0 (by decide) hw0 (fun _ h9 => h9) rfl (by decide +kernel) rfl rfl (Nat.le_of_ble_eq_true rfl) dX0_cutTo_14 (fun H locs hP hD hS => ?_)
      have hP : va_P D vwCl [gO h_t 0 [.int x1, .ref h_t_kinds, .ref h_t_words, .ref h_t_values]] H := hP
      have hD : va_D A [gO h_t 0 [.int x1, .ref h_t_kinds, .ref h_t_words, .ref h_t_values]] := hD
      obtain rfl := Option.some.inj hF
      exact hQ _ _ _ _ hP hD hS dX0_cutTo_17

abbrev rmX0_add : Room := { frames := 0, cells := 0, slots := 0, locals := 0 }
def fX0_add (x1 : Int32) (x2 : Int32) (x3 : Int32) (v_t_size : Int32) (c_t_kinds : Nat → Int32) (c_t_words : Nat → Int32) (c_t_values : Nat → Int32) : Option (Int32 × (Nat → Int32) × (Nat → Int32) × (Nat → Int32)) := (if v_t_size < 0 then (some (v_t_size, c_t_kinds, c_t_words, c_t_values)) else (if v_t_size < (40 : Int32) then (gx v_t_size 40 (gx v_t_size 40 (gx v_t_size 40 (gl (v_t_size + (1 : Int32)) (fun f_54 => (some (f_54, (upd c_t_kinds (v_t_size).toNatClampNeg x1), (upd c_t_words (v_t_size).toNatClampNeg x2), (upd c_t_values (v_t_size).toNatClampNeg x3)))))))) else (some (v_t_size, c_t_kinds, c_t_words, c_t_values))))
set_option maxHeartbeats 4000000 in
set_option maxRecDepth 100000 in
theorem kX0_add (l : Launch) (D : va_G) (cI cZ cD cG : ClassId) (h_t : Nat) (v_t_size : Int32) (h_t_kinds : Nat) (h_t_words : Nat) (h_t_values : Nat) (c_t_kinds : Nat → Int32) (c_t_words : Nat → Int32) (c_t_values : Nat → Int32) (x1 : Int32) (x2 : Int32) (x3 : Int32) (res : Int32 × (Nat → Int32) × (Nat → Int32) × (Nat → Int32)) (hF : fX0_add x1 x2 x3 v_t_size c_t_kinds c_t_words c_t_values = some res) : gMv l D (gty cI cZ cD cG) yX0_add wsX0_add rmX0_add [.ref h_t, .int x1, .int x2, .int x3] [gO h_t 0 [.int v_t_size, .ref h_t_kinds, .ref h_t_words, .ref h_t_values], gA h_t_kinds cI 40 c_t_kinds, gA h_t_words cI 40 c_t_words, gA h_t_values cI 40 c_t_values] [gO h_t 0 [.int res.1, .ref h_t_kinds, .ref h_t_words, .ref h_t_values], gA h_t_kinds cI 40 res.2.1, gA h_t_words cI 40 res.2.2.1, gA h_t_values cI 40 res.2.2.2] := by
  refine gMv.of (cc := cX0_add) (maxL := 4) (by decide) rfl (Nat.le_of_ble_eq_true rfl) ?_
  intro p e s m args below meth c A ls Q hx hb hts hown hml hK hA hP hD hS hQ hl
  have hown : s.vm.findClass RX0 = some m.cls := hown
  have hl : lv_has ls 4 [(0, .ref h_t), (1, .int x1), (2, .int x2), (3, .int x3)] := hl
  have hw0 := hts (.fieldLink RX0 9 "NibbleTrunk$Deeds" "size" "I") (by decide +kernel)
  have hinX0 : ∀ w ∈ wsX00, w ∈ wsX0_add := by decide +kernel
  have hw2 := hts (.fieldLink RX0 15 "NibbleTrunk$Deeds" "kinds" "[I") (by decide +kernel)
  have hw3 := hts (.fieldLink RX0 19 "NibbleTrunk$Deeds" "words" "[I") (by decide +kernel)
  have hw4 := hts (.fieldLink RX0 22 "NibbleTrunk$Deeds" "values" "[I") (by decide +kernel)
  rw [fX0_add] at hF
  refine lv_aload_n hx hb dX0_add_0 rfl (lv_at hl 0 rfl) ?_
  refine va_get (D := D) (ci := 0) (v := .int v_t_size) (C := RX0) (T := TX0) (N := 4) hx hb hts hinX0 hown hK hP 0 rfl rfl 0 (by decide) hw0 (fun _ h9 => h9) rfl dX0_add_1 ?_
  refine lv_if_lt (tgt := 16) hx hb dX0_add_4 (by decide) (fun cc => ?_) (fun cc => ?_)
  · have hF := gi_pos hF cc
    obtain rfl := Option.some.inj hF
    exact hQ _ _ _ _ hP hD hS dX0_add_16
  · have hF := gi_neg hF cc
    refine lv_aload_n hx hb dX0_add_7 rfl (lv_at hl 0 rfl) ?_
    refine va_get (D := D) (ci := 0) (v := .int v_t_size) (C := RX0) (T := TX0) (N := 4) hx hb hts hinX0 hown hK hP 0 rfl rfl 0 (by decide) hw0 (fun _ h9 => h9) rfl dX0_add_8 ?_
    refine lv_bipush (v := 40) hx hb dX0_add_11 (by decide) ?_
    refine lv_icmp_lt (tgt := 17) hx hb dX0_add_13 (by decide) (fun cc => ?_) (fun cc => ?_)
    · have hF := gi_pos hF cc
      refine lv_aload_n hx hb dX0_add_17 rfl (lv_at hl 0 rfl) ?_
      refine va_get (D := D) (ci := 0) (v := .ref h_t_kinds) (C := RX0) (T := TX0) (N := 4) hx hb hts hinX0 hown hK hP 0 rfl rfl 1 (by decide) hw2 (fun _ h9 => h9) rfl dX0_add_18 ?_
      refine lv_aload_n hx hb dX0_add_21 rfl (lv_at hl 0 rfl) ?_
      refine va_get (D := D) (ci := 0) (v := .int v_t_size) (C := RX0) (T := TX0) (N := 4) hx hb hts hinX0 hown hK hP 0 rfl rfl 0 (by decide) hw0 (fun _ h9 => h9) rfl dX0_add_22 ?_
      refine lv_iload_n hx hb dX0_add_25 rfl (lv_at hl 1 rfl) ?_
      obtain ⟨hin, hF⟩ := gx_some hF
      refine va_iast hx hb hK hP hD hS 1 0 rfl rfl hin dX0_add_26 (fun H locs hP hD hS => ?_)
      have hP : va_P D vwCl [gO h_t 0 [.int v_t_size, .ref h_t_kinds, .ref h_t_words, .ref h_t_values], gA h_t_kinds cI 40 (upd c_t_kinds (v_t_size).toNatClampNeg x1), gA h_t_words cI 40 c_t_words, gA h_t_values cI 40 c_t_values] H := hP
      have hD : va_D A [gO h_t 0 [.int v_t_size, .ref h_t_kinds, .ref h_t_words, .ref h_t_values], gA h_t_kinds cI 40 (upd c_t_kinds (v_t_size).toNatClampNeg x1), gA h_t_words cI 40 c_t_words, gA h_t_values cI 40 c_t_values] := hD
      refine lv_aload_n hx hb dX0_add_27 rfl (lv_at hl 0 rfl) ?_
      refine va_get (D := D) (ci := 0) (v := .ref h_t_words) (C := RX0) (T := TX0) (N := 4) hx hb hts hinX0 hown hK hP 0 rfl rfl 2 (by decide) hw3 (fun _ h9 => h9) rfl dX0_add_28 ?_
      refine lv_aload_n hx hb dX0_add_31 rfl (lv_at hl 0 rfl) ?_
      refine va_get (D := D) (ci := 0) (v := .int v_t_size) (C := RX0) (T := TX0) (N := 4) hx hb hts hinX0 hown hK hP 0 rfl rfl 0 (by decide) hw0 (fun _ h9 => h9) rfl dX0_add_32 ?_
      refine lv_iload_n hx hb dX0_add_35 rfl (lv_at hl 2 rfl) ?_
      obtain ⟨hin, hF⟩ := gx_some hF
      refine va_iast hx hb hK hP hD hS 2 0 rfl rfl hin dX0_add_36 (fun H locs hP hD hS => ?_)
      have hP : va_P D vwCl [gO h_t 0 [.int v_t_size, .ref h_t_kinds, .ref h_t_words, .ref h_t_values], gA h_t_kinds cI 40 (upd c_t_kinds (v_t_size).toNatClampNeg x1), gA h_t_words cI 40 (upd c_t_words (v_t_size).toNatClampNeg x2), gA h_t_values cI 40 c_t_values] H := hP
      have hD : va_D A [gO h_t 0 [.int v_t_size, .ref h_t_kinds, .ref h_t_words, .ref h_t_values], gA h_t_kinds cI 40 (upd c_t_kinds (v_t_size).toNatClampNeg x1), gA h_t_words cI 40 (upd c_t_words (v_t_size).toNatClampNeg x2), gA h_t_values cI 40 c_t_values] := hD
      refine lv_aload_n hx hb dX0_add_37 rfl (lv_at hl 0 rfl) ?_
      refine va_get (D := D) (ci := 0) (v := .ref h_t_values) (C := RX0) (T := TX0) (N := 4) hx hb hts hinX0 hown hK hP 0 rfl rfl 3 (by decide) hw4 (fun _ h9 => h9) rfl dX0_add_38 ?_
      refine lv_aload_n hx hb dX0_add_41 rfl (lv_at hl 0 rfl) ?_
      refine va_get (D := D) (ci := 0) (v := .int v_t_size) (C := RX0) (T := TX0) (N := 4) hx hb hts hinX0 hown hK hP 0 rfl rfl 0 (by decide) hw0 (fun _ h9 => h9) rfl dX0_add_42 ?_
      refine lv_iload_n hx hb dX0_add_45 rfl (lv_at hl 3 rfl) ?_
      obtain ⟨hin, hF⟩ := gx_some hF
      refine va_iast hx hb hK hP hD hS 3 0 rfl rfl hin dX0_add_46 (fun H locs hP hD hS => ?_)
      have hP : va_P D vwCl [gO h_t 0 [.int v_t_size, .ref h_t_kinds, .ref h_t_words, .ref h_t_values], gA h_t_kinds cI 40 (upd c_t_kinds (v_t_size).toNatClampNeg x1), gA h_t_words cI 40 (upd c_t_words (v_t_size).toNatClampNeg x2), gA h_t_values cI 40 (upd c_t_values (v_t_size).toNatClampNeg x3)] H := hP
      have hD : va_D A [gO h_t 0 [.int v_t_size, .ref h_t_kinds, .ref h_t_words, .ref h_t_values], gA h_t_kinds cI 40 (upd c_t_kinds (v_t_size).toNatClampNeg x1), gA h_t_words cI 40 (upd c_t_words (v_t_size).toNatClampNeg x2), gA h_t_values cI 40 (upd c_t_values (v_t_size).toNatClampNeg x3)] := hD
      refine lv_aload_n hx hb dX0_add_47 rfl (lv_at hl 0 rfl) ?_
      refine lv_dup hx hb dX0_add_48 rfl ?_
      refine va_get (D := D) (ci := 0) (v := .int v_t_size) (C := RX0) (T := TX0) (N := 4) hx hb hts hinX0 hown hK hP 0 rfl rfl 0 (by decide) hw0 (fun _ h9 => h9) rfl dX0_add_49 ?_
      refine lv_iconst (v := 1) hx hb dX0_add_52 (by decide) ?_
      refine lv_iadd hx hb dX0_add_53 ?_
      refine lv_topi (fun f_54 ex => ?_)
      have hF := gl_some hF ex
      refine va_put (D := D) (ci := 0) (v := .int f_54) (ty := .int) (C := RX0) (T := TX0) (N := 4) hx hb hts hinX0 tyX0 tyX0_ok nmX0 hown hK hP hD hS 0 rfl rfl 0 (by decide) hw0 (fun _ h9 => h9) rfl (by decide +kernel) rfl rfl (Nat.le_of_ble_eq_true rfl) dX0_add_54 (fun H locs hP hD hS => ?_)
      have hP : va_P D vwCl [gO h_t 0 [.int f_54, .ref h_t_kinds, .ref h_t_words, .ref h_t_values], gA h_t_kinds cI 40 (upd c_t_kinds (v_t_size).toNatClampNeg x1), gA h_t_words cI 40 (upd c_t_words (v_t_size).toNatClampNeg x2), gA h_t_values cI 40 (upd c_t_values (v_t_size).toNatClampNeg x3)] H := hP
      have hD : va_D A [gO h_t 0 [.int f_54, .ref h_t_kinds, .ref h_t_words, .ref h_t_values], gA h_t_kinds cI 40 (upd c_t_kinds (v_t_size).toNatClampNeg x1), gA h_t_words cI 40 (upd c_t_words (v_t_size).toNatClampNeg x2), gA h_t_values cI 40 (upd c_t_values (v_t_size).toNatClampNeg x3)] := hD
      obtain rfl := Option.some.inj hF
      exact hQ _ _ _ _ hP hD hS dX0_add_57
    · have hF := gi_neg hF cc
      obtain rfl := Option.some.inj hF
      exact hQ _ _ _ _ hP hD hS dX0_add_16

abbrev rmX0_become : Room := { frames := 1, cells := 0, slots := 0, locals := 40 }
def fX0_become (v_p1_size : Int32) (c_p1_kinds : Nat → Int32) (c_t_kinds : Nat → Int32) (c_p1_words : Nat → Int32) (c_t_words : Nat → Int32) (c_p1_values : Nat → Int32) (c_t_values : Nat → Int32) : Option (Int32 × (Nat → Int32) × (Nat → Int32) × (Nat → Int32)) := (gcp (0 : Int32) (0 : Int32) (40 : Int32) 40 40 (gcp (0 : Int32) (0 : Int32) (40 : Int32) 40 40 (gcp (0 : Int32) (0 : Int32) (40 : Int32) 40 40 (some (v_p1_size, (va_cpy c_p1_kinds c_t_kinds ((0 : Int32)).toNatClampNeg ((0 : Int32)).toNatClampNeg ((40 : Int32)).toNatClampNeg), (va_cpy c_p1_words c_t_words ((0 : Int32)).toNatClampNeg ((0 : Int32)).toNatClampNeg ((40 : Int32)).toNatClampNeg), (va_cpy c_p1_values c_t_values ((0 : Int32)).toNatClampNeg ((0 : Int32)).toNatClampNeg ((40 : Int32)).toNatClampNeg))))))
set_option maxHeartbeats 4000000 in
set_option maxRecDepth 100000 in
theorem kX0_become (l : Launch) (D : va_G) (cI cZ cD cG : ClassId) (h_t : Nat) (h_p1 : Nat) (v_p1_size : Int32) (h_p1_kinds : Nat) (h_p1_words : Nat) (h_p1_values : Nat) (v_t_size : Int32) (h_t_kinds : Nat) (h_t_words : Nat) (h_t_values : Nat) (c_p1_kinds : Nat → Int32) (c_t_kinds : Nat → Int32) (c_p1_words : Nat → Int32) (c_t_words : Nat → Int32) (c_p1_values : Nat → Int32) (c_t_values : Nat → Int32) (res : Int32 × (Nat → Int32) × (Nat → Int32) × (Nat → Int32)) (hF : fX0_become v_p1_size c_p1_kinds c_t_kinds c_p1_words c_t_words c_p1_values c_t_values = some res) : gMv l D (gty cI cZ cD cG) yX0_become wsX0_become rmX0_become [.ref h_t, .ref h_p1] [gO h_p1 0 [.int v_p1_size, .ref h_p1_kinds, .ref h_p1_words, .ref h_p1_values], gO h_t 0 [.int v_t_size, .ref h_t_kinds, .ref h_t_words, .ref h_t_values], gA h_p1_kinds cI 40 c_p1_kinds, gA h_t_kinds cI 40 c_t_kinds, gA h_p1_words cI 40 c_p1_words, gA h_t_words cI 40 c_t_words, gA h_p1_values cI 40 c_p1_values, gA h_t_values cI 40 c_t_values] [gO h_p1 0 [.int v_p1_size, .ref h_p1_kinds, .ref h_p1_words, .ref h_p1_values], gO h_t 0 [.int res.1, .ref h_t_kinds, .ref h_t_words, .ref h_t_values], gA h_p1_kinds cI 40 c_p1_kinds, gA h_t_kinds cI 40 res.2.1, gA h_p1_words cI 40 c_p1_words, gA h_t_words cI 40 res.2.2.1, gA h_p1_values cI 40 c_p1_values, gA h_t_values cI 40 res.2.2.2] := by
  refine gMv.of (cc := cX0_become) (maxL := 2) (by decide) rfl (Nat.le_of_ble_eq_true rfl) ?_
  intro p e s m args below meth c A ls Q hx hb hts hown hml hK hA hP hD hS hQ hl
  have hown : s.vm.findClass RX0 = some m.cls := hown
  have hl : lv_has ls 2 [(0, .ref h_t), (1, .ref h_p1)] := hl
  have hw0 := hts (.fieldLink RX0 15 "NibbleTrunk$Deeds" "kinds" "[I") (by decide +kernel)
  have hinX0 : ∀ w ∈ wsX00, w ∈ wsX0_become := by decide +kernel
  have hw2 := hts (.methodLink RX0 25 arraycopyName) (by decide +kernel)
  have hw3 := hts (.native arraycopyName) (by decide +kernel)
  have hw4 := hts (.static arraycopyName) (by decide +kernel)
  have hw5 := hts (.initialized "java/lang/System") (by decide +kernel)
  have hw6 := hts (.fieldLink RX0 19 "NibbleTrunk$Deeds" "words" "[I") (by decide +kernel)
  have hw7 := hts (.fieldLink RX0 22 "NibbleTrunk$Deeds" "values" "[I") (by decide +kernel)
  have hw8 := hts (.fieldLink RX0 9 "NibbleTrunk$Deeds" "size" "I") (by decide +kernel)
  rw [fX0_become] at hF
  refine lv_aload_n hx hb dX0_become_0 rfl (lv_at hl 1 rfl) ?_
  refine va_get (D := D) (ci := 0) (v := .ref h_p1_kinds) (C := RX0) (T := TX0) (N := 4) hx hb hts hinX0 hown hK hP 0 rfl rfl 1 (by decide) hw0 (fun _ h9 => h9) rfl dX0_become_1 ?_
  refine lv_iconst (v := 0) hx hb dX0_become_4 (by decide) ?_
  refine lv_aload_n hx hb dX0_become_5 rfl (lv_at hl 0 rfl) ?_
  refine va_get (D := D) (ci := 0) (v := .ref h_t_kinds) (C := RX0) (T := TX0) (N := 4) hx hb hts hinX0 hown hK hP 1 rfl rfl 1 (by decide) hw0 (fun _ h9 => h9) rfl dX0_become_6 ?_
  refine lv_iconst (v := 0) hx hb dX0_become_9 (by decide) ?_
  refine lv_bipush (v := 40) hx hb dX0_become_10 (by decide) ?_
  obtain ⟨h1, h2, h3, h4, h5, hF⟩ := gcp_some hF
  refine va_copyi hx hb (hml.trans hl.1.symm) hown hw2 hw3 hw4 hw5 hK hP hD hS 2 3 0 0 rfl rfl rfl rfl rfl h1 h2 h3 h4 h5 (fun _ _ => rfl) (Nat.le_of_ble_eq_true rfl) (Nat.le_of_ble_eq_true rfl) dX0_become_12 (fun H locs hP hD hS => ?_)
  have hP : va_P D vwCl [gO h_p1 0 [.int v_p1_size, .ref h_p1_kinds, .ref h_p1_words, .ref h_p1_values], gO h_t 0 [.int v_t_size, .ref h_t_kinds, .ref h_t_words, .ref h_t_values], gA h_p1_kinds cI 40 c_p1_kinds, gA h_t_kinds cI 40 (va_cpy c_p1_kinds c_t_kinds ((0 : Int32)).toNatClampNeg ((0 : Int32)).toNatClampNeg ((40 : Int32)).toNatClampNeg), gA h_p1_words cI 40 c_p1_words, gA h_t_words cI 40 c_t_words, gA h_p1_values cI 40 c_p1_values, gA h_t_values cI 40 c_t_values] H := hP
  have hD : va_D A [gO h_p1 0 [.int v_p1_size, .ref h_p1_kinds, .ref h_p1_words, .ref h_p1_values], gO h_t 0 [.int v_t_size, .ref h_t_kinds, .ref h_t_words, .ref h_t_values], gA h_p1_kinds cI 40 c_p1_kinds, gA h_t_kinds cI 40 (va_cpy c_p1_kinds c_t_kinds ((0 : Int32)).toNatClampNeg ((0 : Int32)).toNatClampNeg ((40 : Int32)).toNatClampNeg), gA h_p1_words cI 40 c_p1_words, gA h_t_words cI 40 c_t_words, gA h_p1_values cI 40 c_p1_values, gA h_t_values cI 40 c_t_values] := hD
  refine lv_aload_n hx hb dX0_become_15 rfl (lv_at hl 1 rfl) ?_
  refine va_get (D := D) (ci := 0) (v := .ref h_p1_words) (C := RX0) (T := TX0) (N := 4) hx hb hts hinX0 hown hK hP 0 rfl rfl 2 (by decide) hw6 (fun _ h9 => h9) rfl dX0_become_16 ?_
  refine lv_iconst (v := 0) hx hb dX0_become_19 (by decide) ?_
  refine lv_aload_n hx hb dX0_become_20 rfl (lv_at hl 0 rfl) ?_
  refine va_get (D := D) (ci := 0) (v := .ref h_t_words) (C := RX0) (T := TX0) (N := 4) hx hb hts hinX0 hown hK hP 1 rfl rfl 2 (by decide) hw6 (fun _ h9 => h9) rfl dX0_become_21 ?_
  refine lv_iconst (v := 0) hx hb dX0_become_24 (by decide) ?_
  refine lv_bipush (v := 40) hx hb dX0_become_25 (by decide) ?_
  obtain ⟨h1, h2, h3, h4, h5, hF⟩ := gcp_some hF
  refine va_copyi hx hb (hml.trans hl.1.symm) hown hw2 hw3 hw4 hw5 hK hP hD hS 4 5 0 0 rfl rfl rfl rfl rfl h1 h2 h3 h4 h5 (fun _ _ => rfl) (Nat.le_of_ble_eq_true rfl) (Nat.le_of_ble_eq_true rfl) dX0_become_27 (fun H locs hP hD hS => ?_)
  have hP : va_P D vwCl [gO h_p1 0 [.int v_p1_size, .ref h_p1_kinds, .ref h_p1_words, .ref h_p1_values], gO h_t 0 [.int v_t_size, .ref h_t_kinds, .ref h_t_words, .ref h_t_values], gA h_p1_kinds cI 40 c_p1_kinds, gA h_t_kinds cI 40 (va_cpy c_p1_kinds c_t_kinds ((0 : Int32)).toNatClampNeg ((0 : Int32)).toNatClampNeg ((40 : Int32)).toNatClampNeg), gA h_p1_words cI 40 c_p1_words, gA h_t_words cI 40 (va_cpy c_p1_words c_t_words ((0 : Int32)).toNatClampNeg ((0 : Int32)).toNatClampNeg ((40 : Int32)).toNatClampNeg), gA h_p1_values cI 40 c_p1_values, gA h_t_values cI 40 c_t_values] H := hP
  have hD : va_D A [gO h_p1 0 [.int v_p1_size, .ref h_p1_kinds, .ref h_p1_words, .ref h_p1_values], gO h_t 0 [.int v_t_size, .ref h_t_kinds, .ref h_t_words, .ref h_t_values], gA h_p1_kinds cI 40 c_p1_kinds, gA h_t_kinds cI 40 (va_cpy c_p1_kinds c_t_kinds ((0 : Int32)).toNatClampNeg ((0 : Int32)).toNatClampNeg ((40 : Int32)).toNatClampNeg), gA h_p1_words cI 40 c_p1_words, gA h_t_words cI 40 (va_cpy c_p1_words c_t_words ((0 : Int32)).toNatClampNeg ((0 : Int32)).toNatClampNeg ((40 : Int32)).toNatClampNeg), gA h_p1_values cI 40 c_p1_values, gA h_t_values cI 40 c_t_values] := hD
  refine lv_aload_n hx hb dX0_become_30 rfl (lv_at hl 1 rfl) ?_
  refine va_get (D := D) (ci := 0) (v := .ref h_p1_values) (C := RX0) (T := TX0) (N := 4) hx hb hts hinX0 hown hK hP 0 rfl rfl 3 (by decide) hw7 (fun _ h9 => h9) rfl dX0_become_31 ?_
  refine lv_iconst (v := 0) hx hb dX0_become_34 (by decide) ?_
  refine lv_aload_n hx hb dX0_become_35 rfl (lv_at hl 0 rfl) ?_
  refine va_get (D := D) (ci := 0) (v := .ref h_t_values) (C := RX0) (T := TX0) (N := 4) hx hb hts hinX0 hown hK hP 1 rfl rfl 3 (by decide) hw7 (fun _ h9 => h9) rfl dX0_become_36 ?_
  refine lv_iconst (v := 0) hx hb dX0_become_39 (by decide) ?_
  refine lv_bipush (v := 40) hx hb dX0_become_40 (by decide) ?_
  obtain ⟨h1, h2, h3, h4, h5, hF⟩ := gcp_some hF
  refine va_copyi hx hb (hml.trans hl.1.symm) hown hw2 hw3 hw4 hw5 hK hP hD hS 6 7 0 0 rfl rfl rfl rfl rfl h1 h2 h3 h4 h5 (fun _ _ => rfl) (Nat.le_of_ble_eq_true rfl) (Nat.le_of_ble_eq_true rfl) dX0_become_42 (fun H locs hP hD hS => ?_)
  have hP : va_P D vwCl [gO h_p1 0 [.int v_p1_size, .ref h_p1_kinds, .ref h_p1_words, .ref h_p1_values], gO h_t 0 [.int v_t_size, .ref h_t_kinds, .ref h_t_words, .ref h_t_values], gA h_p1_kinds cI 40 c_p1_kinds, gA h_t_kinds cI 40 (va_cpy c_p1_kinds c_t_kinds ((0 : Int32)).toNatClampNeg ((0 : Int32)).toNatClampNeg ((40 : Int32)).toNatClampNeg), gA h_p1_words cI 40 c_p1_words, gA h_t_words cI 40 (va_cpy c_p1_words c_t_words ((0 : Int32)).toNatClampNeg ((0 : Int32)).toNatClampNeg ((40 : Int32)).toNatClampNeg), gA h_p1_values cI 40 c_p1_values, gA h_t_values cI 40 (va_cpy c_p1_values c_t_values ((0 : Int32)).toNatClampNeg ((0 : Int32)).toNatClampNeg ((40 : Int32)).toNatClampNeg)] H := hP
  have hD : va_D A [gO h_p1 0 [.int v_p1_size, .ref h_p1_kinds, .ref h_p1_words, .ref h_p1_values], gO h_t 0 [.int v_t_size, .ref h_t_kinds, .ref h_t_words, .ref h_t_values], gA h_p1_kinds cI 40 c_p1_kinds, gA h_t_kinds cI 40 (va_cpy c_p1_kinds c_t_kinds ((0 : Int32)).toNatClampNeg ((0 : Int32)).toNatClampNeg ((40 : Int32)).toNatClampNeg), gA h_p1_words cI 40 c_p1_words, gA h_t_words cI 40 (va_cpy c_p1_words c_t_words ((0 : Int32)).toNatClampNeg ((0 : Int32)).toNatClampNeg ((40 : Int32)).toNatClampNeg), gA h_p1_values cI 40 c_p1_values, gA h_t_values cI 40 (va_cpy c_p1_values c_t_values ((0 : Int32)).toNatClampNeg ((0 : Int32)).toNatClampNeg ((40 : Int32)).toNatClampNeg)] := hD
  refine lv_aload_n hx hb dX0_become_45 rfl (lv_at hl 0 rfl) ?_
  refine lv_aload_n hx hb dX0_become_46 rfl (lv_at hl 1 rfl) ?_
  refine va_get (D := D) (ci := 0) (v := .int v_p1_size) (C := RX0) (T := TX0) (N := 4) hx hb hts hinX0 hown hK hP 0 rfl rfl 0 (by decide) hw8 (fun _ h9 => h9) rfl dX0_become_47 ?_
  refine va_put (D := D) (ci := 0) (v := .int v_p1_size) (ty := .int) (C := RX0) (T := TX0) (N := 4) hx hb hts hinX0 tyX0 tyX0_ok nmX0 hown hK hP hD hS 1 rfl rfl 0 (by decide) hw8 (fun _ h9 => h9) rfl (by decide +kernel) rfl rfl (Nat.le_of_ble_eq_true rfl) dX0_become_50 (fun H locs hP hD hS => ?_)
  have hP : va_P D vwCl [gO h_p1 0 [.int v_p1_size, .ref h_p1_kinds, .ref h_p1_words, .ref h_p1_values], gO h_t 0 [.int v_p1_size, .ref h_t_kinds, .ref h_t_words, .ref h_t_values], gA h_p1_kinds cI 40 c_p1_kinds, gA h_t_kinds cI 40 (va_cpy c_p1_kinds c_t_kinds ((0 : Int32)).toNatClampNeg ((0 : Int32)).toNatClampNeg ((40 : Int32)).toNatClampNeg), gA h_p1_words cI 40 c_p1_words, gA h_t_words cI 40 (va_cpy c_p1_words c_t_words ((0 : Int32)).toNatClampNeg ((0 : Int32)).toNatClampNeg ((40 : Int32)).toNatClampNeg), gA h_p1_values cI 40 c_p1_values, gA h_t_values cI 40 (va_cpy c_p1_values c_t_values ((0 : Int32)).toNatClampNeg ((0 : Int32)).toNatClampNeg ((40 : Int32)).toNatClampNeg)] H := hP
  have hD : va_D A [gO h_p1 0 [.int v_p1_size, .ref h_p1_kinds, .ref h_p1_words, .ref h_p1_values], gO h_t 0 [.int v_p1_size, .ref h_t_kinds, .ref h_t_words, .ref h_t_values], gA h_p1_kinds cI 40 c_p1_kinds, gA h_t_kinds cI 40 (va_cpy c_p1_kinds c_t_kinds ((0 : Int32)).toNatClampNeg ((0 : Int32)).toNatClampNeg ((40 : Int32)).toNatClampNeg), gA h_p1_words cI 40 c_p1_words, gA h_t_words cI 40 (va_cpy c_p1_words c_t_words ((0 : Int32)).toNatClampNeg ((0 : Int32)).toNatClampNeg ((40 : Int32)).toNatClampNeg), gA h_p1_values cI 40 c_p1_values, gA h_t_values cI 40 (va_cpy c_p1_values c_t_values ((0 : Int32)).toNatClampNeg ((0 : Int32)).toNatClampNeg ((40 : Int32)).toNatClampNeg)] := hD
  obtain rfl := Option.some.inj hF
  exact hQ _ _ _ _ hP hD hS dX0_become_53

abbrev rmX1_aheadOf : Room := { frames := 0, cells := 0, slots := 0, locals := 0 }
def fX1_aheadOf_L2 (v_t_size : Int32) (x1 : Int32) (c_t_words : Nat → Int32) : Nat → Int32 → Option (Int32)
  | 0, _ => none
  | n_2 + 1, x2_2 => (if v_t_size ≤ x2_2 then (some x2_2) else (gx x2_2 48 (if x1 ≤ (c_t_words (x2_2).toNatClampNeg) then (some x2_2) else (gl (x2_2 + 1) (fun x2_20 => (fX1_aheadOf_L2 v_t_size x1 c_t_words n_2 x2_20))))))
def fX1_aheadOf (x1 : Int32) (v_t_size : Int32) (c_t_words : Nat → Int32) : Option (Int32) := (Option.bind (fX1_aheadOf_L2 v_t_size x1 c_t_words gF (0 : Int32)) (fun q_2 => (some q_2)))
set_option maxHeartbeats 4000000 in
set_option maxRecDepth 100000 in
theorem kX1_aheadOf (l : Launch) (D : va_G) (cI cZ cD cG : ClassId) (h_t : Nat) (v_t_size : Int32) (h_t_words : Nat) (h_t_values : Nat) (c_t_words : Nat → Int32) (x1 : Int32) (res : Int32) (hF : fX1_aheadOf x1 v_t_size c_t_words = some res) : gMi l D (gty cI cZ cD cG) yX1_aheadOf wsX1_aheadOf rmX1_aheadOf [.ref h_t, .int x1] [gO h_t 1 [.int v_t_size, .ref h_t_words, .ref h_t_values], gA h_t_words cI 48 c_t_words] res [gO h_t 1 [.int v_t_size, .ref h_t_words, .ref h_t_values], gA h_t_words cI 48 c_t_words] := by
  refine gMi.of (cc := cX1_aheadOf) (maxL := 3) (by decide) rfl (Nat.le_of_ble_eq_true rfl) ?_
  intro p e s m args below meth c A ls Q hx hb hts hown hml hK hA hP hD hS hQ hl
  have hown : s.vm.findClass RX1 = some m.cls := hown
  have hl : lv_has ls 3 [(0, .ref h_t), (1, .int x1)] := hl
  have hw0 := hts (.fieldLink RX1 9 "NibbleTrunk$Keys" "size" "I") (by decide +kernel)
  have hinX1 : ∀ w ∈ wsX10, w ∈ wsX1_aheadOf := by decide +kernel
  have hw2 := hts (.fieldLink RX1 15 "NibbleTrunk$Keys" "words" "[I") (by decide +kernel)
  rw [fX1_aheadOf] at hF
  refine lv_iconst (v := 0) hx hb dX1_aheadOf_0 (by decide) ?_
  refine lv_istore_n (lv' := [(2, .int (0 : Int32)), (0, .ref h_t), (1, .int x1)]) hx hb dX1_aheadOf_1 rfl hl (by decide) rfl (fun ls hl => ?_)
  obtain ⟨q_2, hR, hF⟩ := gb_some hF
  have En_2 : ∀ (H : Heap) (locs : List Loc) (ls : Array Slot), va_P D vwCl [gO h_t 1 [.int v_t_size, .ref h_t_words, .ref h_t_values], gA h_t_words cI 48 c_t_words] H → va_D A [gO h_t 1 [.int v_t_size, .ref h_t_words, .ref h_t_values], gA h_t_words cI 48 c_t_words] → va_S A s.heap H locs → lv_has ls 3 [(2, .int q_2)] → W p l e rmX1_aheadOf s m args below meth c H locs 0 0 Q (F0 m 26 ls []) := by
    intro H locs ls hP hD hS hl
    refine lv_iload_n hx hb dX1_aheadOf_26 rfl (lv_at hl 0 rfl) ?_
    obtain rfl := Option.some.inj hF
    exact hQ _ _ _ _ _ hP hD hS rfl dX1_aheadOf_27
  clear hF
  have Ln_2 : ∀ (n_2 : Nat) (x2_2 : Int32) (H : Heap) (locs : List Loc) (ls : Array Slot), fX1_aheadOf_L2 v_t_size x1 c_t_words n_2 x2_2 = some q_2 → va_P D vwCl [gO h_t 1 [.int v_t_size, .ref h_t_words, .ref h_t_values], gA h_t_words cI 48 c_t_words] H → va_D A [gO h_t 1 [.int v_t_size, .ref h_t_words, .ref h_t_values], gA h_t_words cI 48 c_t_words] → va_S A s.heap H locs → lv_has ls 3 [(0, .ref h_t), (1, .int x1), (2, .int x2_2)] → W p l e rmX1_aheadOf s m args below meth c H locs 0 0 Q (F0 m 2 ls []) := by
    intro n_2
    induction n_2 with
    | zero =>
      intro x2_2 H locs ls hF
      rw [fX1_aheadOf_L2] at hF
      cases hF
    | succ n_2 ih2 =>
      intro x2_2 H locs ls hF hP hD hS hl
      rw [fX1_aheadOf_L2] at hF
      refine lv_iload_n hx hb dX1_aheadOf_2 rfl (lv_at hl 2 rfl) ?_
      refine lv_aload_n hx hb dX1_aheadOf_3 rfl (lv_at hl 0 rfl) ?_
      refine va_get (D := D) (ci := 1) (v := .int v_t_size) (C := RX1) (T := TX1) (N := 3) hx hb hts hinX1 hown hK hP 0 rfl rfl 0 (by decide) hw0 (fun _ h9 => h9) rfl dX1_aheadOf_4 ?_
      refine lv_icmp_ge (tgt := 26) hx hb dX1_aheadOf_7 (by decide) (fun cc => ?_) (fun cc => ?_)
      · have hF := gi_pos hF cc
        obtain rfl := Option.some.inj hF
        exact En_2 _ _ _ hP hD hS (lv_sub hl [2] rfl)
      · have hF := gi_neg hF cc
        refine lv_aload_n hx hb dX1_aheadOf_10 rfl (lv_at hl 0 rfl) ?_
        refine va_get (D := D) (ci := 1) (v := .ref h_t_words) (C := RX1) (T := TX1) (N := 3) hx hb hts hinX1 hown hK hP 0 rfl rfl 1 (by decide) hw2 (fun _ h9 => h9) rfl dX1_aheadOf_11 ?_
        refine lv_iload_n hx hb dX1_aheadOf_14 rfl (lv_at hl 2 rfl) ?_
        obtain ⟨hin, hF⟩ := gx_some hF
        refine va_iald hx hb hK hP 1 0 rfl rfl hin dX1_aheadOf_15 ?_
        refine lv_iload_n hx hb dX1_aheadOf_16 rfl (lv_at hl 1 rfl) ?_
        refine lv_icmp_ge (tgt := 26) hx hb dX1_aheadOf_17 (by decide) (fun cc => ?_) (fun cc => ?_)
        · have hF := gi_pos hF cc
          obtain rfl := Option.some.inj hF
          exact En_2 _ _ _ hP hD hS (lv_sub hl [2] rfl)
        · have hF := gi_neg hF cc
          obtain ⟨x2_20, ex⟩ : ∃ y : Int32, y = (x2_2 + 1) := ⟨_, rfl⟩
          have hF := gl_some hF ex
          refine lv_iinc (v := x2_20) (lv' := [(2, .int x2_20), (0, .ref h_t), (1, .int x1)]) hx hb dX1_aheadOf_20 hl (k := 2) rfl (by rw [ex]; rfl) (by decide) rfl (fun ls hl => ?_)
          refine lv_goto (tgt := 2) hx hb dX1_aheadOf_23 (by decide) ?_
          exact ih2 x2_20 _ _ _ hF hP hD hS (lv_sub hl [1, 2, 0] rfl)
  exact Ln_2 gF (0 : Int32) _ _ _ hR hP hD hS (lv_sub hl [1, 2, 0] rfl)

abbrev rmX1_insert : Room := { frames := 1, cells := 0, slots := 0, locals := 22 }
def fX1_insert_L57 (q_2 : Int32) : Nat → Int32 → (Nat → Int32) → (Nat → Int32) → Option ((Nat → Int32) × (Nat → Int32))
  | 0, _, _, _ => none
  | n_57 + 1, x5_57, c_t_words_57, c_t_values_57 => (if x5_57 ≤ q_2 then (some (c_t_words_57, c_t_values_57)) else (gx (x5_57 - (1 : Int32)) 48 (gx x5_57 48 (gx (x5_57 - (1 : Int32)) 48 (gx x5_57 48 (gl (x5_57 + (-1)) (fun x5_95 => (fX1_insert_L57 q_2 n_57 x5_95 (upd c_t_words_57 (x5_57).toNatClampNeg (c_t_words_57 ((x5_57 - (1 : Int32))).toNatClampNeg)) (upd c_t_values_57 (x5_57).toNatClampNeg (c_t_values_57 ((x5_57 - (1 : Int32))).toNatClampNeg))))))))))
def fX1_insert_J46 (q_29 : Int32) (v_t_size : Int32) (c_t_words : Nat → Int32) (c_t_values : Nat → Int32) (q_2 : Int32) (x1 : Int32) (x2 : Int32) : Option (Int32 × (Nat → Int32) × (Nat → Int32)) := (Option.bind (α := Int32 × (Nat → Int32) × (Nat → Int32)) (if q_29 = 0 then (some (v_t_size, c_t_words, c_t_values)) else (Option.bind (fX1_insert_L57 q_2 gF v_t_size c_t_words c_t_values) (fun q_57 => (gl (v_t_size + (1 : Int32)) (fun f_108 => (some (f_108, q_57.1, q_57.2))))))) (fun q_111 => (gx q_2 48 (gx q_2 48 (some (q_111.1, (upd q_111.2.1 (q_2).toNatClampNeg x1), (upd q_111.2.2 (q_2).toNatClampNeg x2)))))))
def fX1_insert (x1 : Int32) (x2 : Int32) (v_t_size : Int32) (c_t_words : Nat → Int32) (c_t_values : Nat → Int32) : Option (Int32 × (Nat → Int32) × (Nat → Int32)) := (Option.bind (fX1_aheadOf x1 v_t_size c_t_words) (fun q_2 => (Option.bind (α := Int32) (if v_t_size ≤ q_2 then (some (1 : Int32)) else (gx q_2 48 (if (c_t_words (q_2).toNatClampNeg) = x1 then (some (0 : Int32)) else (some (1 : Int32))))) (fun q_29 => (if q_29 = 0 then (fX1_insert_J46 q_29 v_t_size c_t_words c_t_values q_2 x1 x2) else (if v_t_size < (48 : Int32) then (fX1_insert_J46 q_29 v_t_size c_t_words c_t_values q_2 x1 x2) else (some (v_t_size, c_t_words, c_t_values))))))))
set_option maxHeartbeats 4000000 in
set_option maxRecDepth 100000 in
theorem kX1_insert (l : Launch) (D : va_G) (cI cZ cD cG : ClassId) (h_t : Nat) (v_t_size : Int32) (h_t_words : Nat) (h_t_values : Nat) (c_t_words : Nat → Int32) (c_t_values : Nat → Int32) (x1 : Int32) (x2 : Int32) (res : Int32 × (Nat → Int32) × (Nat → Int32)) (hF : fX1_insert x1 x2 v_t_size c_t_words c_t_values = some res) : gMv l D (gty cI cZ cD cG) yX1_insert wsX1_insert rmX1_insert [.ref h_t, .int x1, .int x2] [gO h_t 1 [.int v_t_size, .ref h_t_words, .ref h_t_values], gA h_t_words cI 48 c_t_words, gA h_t_values cI 48 c_t_values] [gO h_t 1 [.int res.1, .ref h_t_words, .ref h_t_values], gA h_t_words cI 48 res.2.1, gA h_t_values cI 48 res.2.2] := by
  refine gMv.of (cc := cX1_insert) (maxL := 6) (by decide) rfl (Nat.le_of_ble_eq_true rfl) ?_
  intro p e s m args below meth c A ls Q hx hb hts hown hml hK hA hP hD hS hQ hl
  have hown : s.vm.findClass RX1 = some m.cls := hown
  have hl : lv_has ls 6 [(0, .ref h_t), (1, .int x1), (2, .int x2)] := hl
  have hw0 := hts (.fieldLink RX1 9 "NibbleTrunk$Keys" "size" "I") (by decide +kernel)
  have hinX1 : ∀ w ∈ wsX10, w ∈ wsX1_insert := by decide +kernel
  have hw2 := hts (.fieldLink RX1 15 "NibbleTrunk$Keys" "words" "[I") (by decide +kernel)
  have hw3 := hts (.fieldLink RX1 19 "NibbleTrunk$Keys" "values" "[I") (by decide +kernel)
  rw [fX1_insert] at hF
  refine lv_aload_n hx hb dX1_insert_0 rfl (lv_at hl 0 rfl) ?_
  refine lv_iload_n hx hb dX1_insert_1 rfl (lv_at hl 1 rfl) ?_
  obtain ⟨q_2, hc, hF⟩ := gb_some hF
  refine gcVi (ci := 1) (As := [.int x1]) (rest := []) (pre := [gO h_t 1 [.int v_t_size, .ref h_t_words, .ref h_t_values], gA h_t_words cI 48 c_t_words]) (post := [gO h_t 1 [.int v_t_size, .ref h_t_words, .ref h_t_values], gA h_t_words cI 48 c_t_words]) (wr := [gA h_t_values cI 48 c_t_values]) ⟨hx, hb, hml, hown, hts⟩ (kX1_aheadOf l D cI cZ cD cG h_t v_t_size h_t_words h_t_values c_t_words x1 q_2 hc) (cwV 1 hts gX1_insert_X1_aheadOf rfl rfl rfl (by decide +kernel) ⟨Nat.le_of_ble_eq_true rfl, Nat.le_of_ble_eq_true rfl⟩) hK hP hD hS hA [0, 1] [2] rfl rfl (by decide) (by decide) (by decide) 0 rfl rfl rfl hl.1 rfl (Nat.le_of_ble_eq_true rfl) dX1_insert_2 ⟨Nat.zero_le _, Nat.zero_le _⟩ (fun H locs hP hD hS => ?_)
  have hP : va_P D vwCl [gA h_t_values cI 48 c_t_values, gO h_t 1 [.int v_t_size, .ref h_t_words, .ref h_t_values], gA h_t_words cI 48 c_t_words] H := hP
  have hD : va_D A [gA h_t_values cI 48 c_t_values, gO h_t 1 [.int v_t_size, .ref h_t_words, .ref h_t_values], gA h_t_words cI 48 c_t_words] := hD
  refine lv_istore_n (lv' := [(3, .int q_2), (0, .ref h_t), (1, .int x1), (2, .int x2)]) hx hb dX1_insert_5 rfl hl (by decide) rfl (fun ls hl => ?_)
  refine lv_iload_n hx hb dX1_insert_6 rfl (lv_at hl 0 rfl) ?_
  refine lv_aload_n hx hb dX1_insert_7 rfl (lv_at hl 1 rfl) ?_
  refine va_get (D := D) (ci := 1) (v := .int v_t_size) (C := RX1) (T := TX1) (N := 3) hx hb hts hinX1 hown hK hP 1 rfl rfl 0 (by decide) hw0 (fun _ h9 => h9) rfl dX1_insert_8 ?_
  obtain ⟨q_29, hR, hF⟩ := gb_some hF
  have Jn_29 : ∀ (H : Heap) (locs : List Loc) (ls : Array Slot), va_P D vwCl [gA h_t_values cI 48 c_t_values, gO h_t 1 [.int v_t_size, .ref h_t_words, .ref h_t_values], gA h_t_words cI 48 c_t_words] H → va_D A [gA h_t_values cI 48 c_t_values, gO h_t 1 [.int v_t_size, .ref h_t_words, .ref h_t_values], gA h_t_words cI 48 c_t_words] → va_S A s.heap H locs → lv_has ls 6 [(0, .ref h_t), (1, .int x1), (2, .int x2), (3, .int q_2)] → W p l e rmX1_insert s m args below meth c H locs 0 0 Q (F0 m 29 ls [.int q_29]) := by
    intro H locs ls hP hD hS hl
    refine lv_istore (lv' := [(4, .int q_29), (0, .ref h_t), (1, .int x1), (2, .int x2), (3, .int q_2)]) hx hb dX1_insert_29 hl (by decide) rfl (fun ls hl => ?_)
    refine lv_iload hx hb dX1_insert_31 (lv_at hl 0 rfl) ?_
    have Jn_46 : ∀ (H : Heap) (locs : List Loc) (ls : Array Slot), (fX1_insert_J46 q_29 v_t_size c_t_words c_t_values q_2 x1 x2) = some res → va_P D vwCl [gA h_t_values cI 48 c_t_values, gO h_t 1 [.int v_t_size, .ref h_t_words, .ref h_t_values], gA h_t_words cI 48 c_t_words] H → va_D A [gA h_t_values cI 48 c_t_values, gO h_t 1 [.int v_t_size, .ref h_t_words, .ref h_t_values], gA h_t_words cI 48 c_t_words] → va_S A s.heap H locs → lv_has ls 6 [(0, .ref h_t), (1, .int x1), (2, .int x2), (3, .int q_2), (4, .int q_29)] → W p l e rmX1_insert s m args below meth c H locs 0 0 Q (F0 m 46 ls []) := by
      clear hF
      intro  H locs ls hF hP hD hS hl
      rw [fX1_insert_J46] at hF
      refine lv_iload hx hb dX1_insert_46 (lv_at hl 4 rfl) ?_
      obtain ⟨q_111, hR, hF⟩ := gb_some hF
      have Jn_111 : ∀ (H : Heap) (locs : List Loc) (ls : Array Slot), va_P D vwCl [gA h_t_values cI 48 q_111.2.2, gO h_t 1 [.int q_111.1, .ref h_t_words, .ref h_t_values], gA h_t_words cI 48 q_111.2.1] H → va_D A [gA h_t_values cI 48 q_111.2.2, gO h_t 1 [.int q_111.1, .ref h_t_words, .ref h_t_values], gA h_t_words cI 48 q_111.2.1] → va_S A s.heap H locs → lv_has ls 6 [(0, .ref h_t), (1, .int x1), (2, .int x2), (3, .int q_2)] → W p l e rmX1_insert s m args below meth c H locs 0 0 Q (F0 m 111 ls []) := by
        intro H locs ls hP hD hS hl
        refine lv_aload_n hx hb dX1_insert_111 rfl (lv_at hl 0 rfl) ?_
        refine va_get (D := D) (ci := 1) (v := .ref h_t_words) (C := RX1) (T := TX1) (N := 3) hx hb hts hinX1 hown hK hP 1 rfl rfl 1 (by decide) hw2 (fun _ h9 => h9) rfl dX1_insert_112 ?_
        refine lv_iload_n hx hb dX1_insert_115 rfl (lv_at hl 3 rfl) ?_
        refine lv_iload_n hx hb dX1_insert_116 rfl (lv_at hl 1 rfl) ?_
        obtain ⟨hin, hF⟩ := gx_some hF
        refine va_iast hx hb hK hP hD hS 2 0 rfl rfl hin dX1_insert_117 (fun H locs hP hD hS => ?_)
        have hP : va_P D vwCl [gA h_t_values cI 48 q_111.2.2, gO h_t 1 [.int q_111.1, .ref h_t_words, .ref h_t_values], gA h_t_words cI 48 (upd q_111.2.1 (q_2).toNatClampNeg x1)] H := hP
        have hD : va_D A [gA h_t_values cI 48 q_111.2.2, gO h_t 1 [.int q_111.1, .ref h_t_words, .ref h_t_values], gA h_t_words cI 48 (upd q_111.2.1 (q_2).toNatClampNeg x1)] := hD
        refine lv_aload_n hx hb dX1_insert_118 rfl (lv_at hl 0 rfl) ?_
        refine va_get (D := D) (ci := 1) (v := .ref h_t_values) (C := RX1) (T := TX1) (N := 3) hx hb hts hinX1 hown hK hP 1 rfl rfl 2 (by decide) hw3 (fun _ h9 => h9) rfl dX1_insert_119 ?_
        refine lv_iload_n hx hb dX1_insert_122 rfl (lv_at hl 3 rfl) ?_
        refine lv_iload_n hx hb dX1_insert_123 rfl (lv_at hl 2 rfl) ?_
        obtain ⟨hin, hF⟩ := gx_some hF
        refine va_iast hx hb hK hP hD hS 0 0 rfl rfl hin dX1_insert_124 (fun H locs hP hD hS => ?_)
        have hP : va_P D vwCl [gA h_t_values cI 48 (upd q_111.2.2 (q_2).toNatClampNeg x2), gO h_t 1 [.int q_111.1, .ref h_t_words, .ref h_t_values], gA h_t_words cI 48 (upd q_111.2.1 (q_2).toNatClampNeg x1)] H := hP
        have hD : va_D A [gA h_t_values cI 48 (upd q_111.2.2 (q_2).toNatClampNeg x2), gO h_t 1 [.int q_111.1, .ref h_t_words, .ref h_t_values], gA h_t_words cI 48 (upd q_111.2.1 (q_2).toNatClampNeg x1)] := hD
        obtain rfl := Option.some.inj hF
        exact hQ _ _ _ _ (hP.sub [1, 2, 0] rfl) (hD.sub [1, 2, 0] (by decide) rfl) hS dX1_insert_125
      clear hF
      have hF := hR
      refine lv_if_eq (tgt := 111) hx hb dX1_insert_48 (by decide) (fun cc => ?_) (fun cc => ?_)
      · have hF := gi_pos hF cc
        obtain rfl := Option.some.inj hF
        exact Jn_111 _ _ _ hP hD hS (lv_sub hl [0, 1, 2, 3] rfl)
      · have hF := gi_neg hF cc
        refine lv_aload_n hx hb dX1_insert_51 rfl (lv_at hl 0 rfl) ?_
        refine va_get (D := D) (ci := 1) (v := .int v_t_size) (C := RX1) (T := TX1) (N := 3) hx hb hts hinX1 hown hK hP 1 rfl rfl 0 (by decide) hw0 (fun _ h9 => h9) rfl dX1_insert_52 ?_
        refine lv_istore (lv' := [(5, .int v_t_size), (0, .ref h_t), (1, .int x1), (2, .int x2), (3, .int q_2), (4, .int q_29)]) hx hb dX1_insert_55 hl (by decide) rfl (fun ls hl => ?_)
        obtain ⟨q_57, hR, hF⟩ := gb_some hF
        have En_57 : ∀ (H : Heap) (locs : List Loc) (ls : Array Slot), va_P D vwCl [gA h_t_values cI 48 q_57.2, gO h_t 1 [.int v_t_size, .ref h_t_words, .ref h_t_values], gA h_t_words cI 48 q_57.1] H → va_D A [gA h_t_values cI 48 q_57.2, gO h_t 1 [.int v_t_size, .ref h_t_words, .ref h_t_values], gA h_t_words cI 48 q_57.1] → va_S A s.heap H locs → lv_has ls 6 [(0, .ref h_t), (1, .int x1), (2, .int x2), (3, .int q_2)] → W p l e rmX1_insert s m args below meth c H locs 0 0 Q (F0 m 101 ls []) := by
          intro H locs ls hP hD hS hl
          refine lv_aload_n hx hb dX1_insert_101 rfl (lv_at hl 0 rfl) ?_
          refine lv_dup hx hb dX1_insert_102 rfl ?_
          refine va_get (D := D) (ci := 1) (v := .int v_t_size) (C := RX1) (T := TX1) (N := 3) hx hb hts hinX1 hown hK hP 1 rfl rfl 0 (by decide) hw0 (fun _ h9 => h9) rfl dX1_insert_103 ?_
          refine lv_iconst (v := 1) hx hb dX1_insert_106 (by decide) ?_
          refine lv_iadd hx hb dX1_insert_107 ?_
          refine lv_topi (fun f_108 ex => ?_)
          have hF := gl_some hF ex
          refine va_put (D := D) (ci := 1) (v := .int f_108) (ty := .int) (C := RX1) (T := TX1) (N := 3) hx hb hts hinX1 tyX1 tyX1_ok nmX1 hown hK hP hD hS 1 rfl rfl 0 (by decide) hw0 (fun _ h9 => h9) rfl (by decide +kernel) rfl rfl (Nat.le_of_ble_eq_true rfl) dX1_insert_108 (fun H locs hP hD hS => ?_)
          have hP : va_P D vwCl [gA h_t_values cI 48 q_57.2, gO h_t 1 [.int f_108, .ref h_t_words, .ref h_t_values], gA h_t_words cI 48 q_57.1] H := hP
          have hD : va_D A [gA h_t_values cI 48 q_57.2, gO h_t 1 [.int f_108, .ref h_t_words, .ref h_t_values], gA h_t_words cI 48 q_57.1] := hD
          obtain rfl := Option.some.inj hF
          exact Jn_111 _ _ _ hP hD hS (lv_sub hl [0, 1, 2, 3] rfl)
        clear hF
        have Ln_57 : ∀ (n_57 : Nat) (x5_57 : Int32) (c_t_words_57 : Nat → Int32) (c_t_values_57 : Nat → Int32) (H : Heap) (locs : List Loc) (ls : Array Slot), fX1_insert_L57 q_2 n_57 x5_57 c_t_words_57 c_t_values_57 = some q_57 → va_P D vwCl [gA h_t_values cI 48 c_t_values_57, gO h_t 1 [.int v_t_size, .ref h_t_words, .ref h_t_values], gA h_t_words cI 48 c_t_words_57] H → va_D A [gA h_t_values cI 48 c_t_values_57, gO h_t 1 [.int v_t_size, .ref h_t_words, .ref h_t_values], gA h_t_words cI 48 c_t_words_57] → va_S A s.heap H locs → lv_has ls 6 [(0, .ref h_t), (1, .int x1), (2, .int x2), (3, .int q_2), (5, .int x5_57)] → W p l e rmX1_insert s m args below meth c H locs 0 0 Q (F0 m 57 ls []) := by
          intro n_57
          induction n_57 with
          | zero =>
            intro x5_57 c_t_words_57 c_t_values_57 H locs ls hF
            rw [fX1_insert_L57] at hF
            cases hF
          | succ n_57 ih57 =>
            intro x5_57 c_t_words_57 c_t_values_57 H locs ls hF hP hD hS hl
            rw [fX1_insert_L57] at hF
            refine lv_iload hx hb dX1_insert_57 (lv_at hl 4 rfl) ?_
            refine lv_iload_n hx hb dX1_insert_59 rfl (lv_at hl 3 rfl) ?_
            refine lv_icmp_le (tgt := 101) hx hb dX1_insert_60 (by decide) (fun cc => ?_) (fun cc => ?_)
            · have hF := gi_pos hF cc
              obtain rfl := Option.some.inj hF
              exact En_57 _ _ _ hP hD hS (lv_sub hl [0, 1, 2, 3] rfl)
            · have hF := gi_neg hF cc
              refine lv_aload_n hx hb dX1_insert_63 rfl (lv_at hl 0 rfl) ?_
              refine va_get (D := D) (ci := 1) (v := .ref h_t_words) (C := RX1) (T := TX1) (N := 3) hx hb hts hinX1 hown hK hP 1 rfl rfl 1 (by decide) hw2 (fun _ h9 => h9) rfl dX1_insert_64 ?_
              refine lv_iload hx hb dX1_insert_67 (lv_at hl 4 rfl) ?_
              refine lv_aload_n hx hb dX1_insert_69 rfl (lv_at hl 0 rfl) ?_
              refine va_get (D := D) (ci := 1) (v := .ref h_t_words) (C := RX1) (T := TX1) (N := 3) hx hb hts hinX1 hown hK hP 1 rfl rfl 1 (by decide) hw2 (fun _ h9 => h9) rfl dX1_insert_70 ?_
              refine lv_iload hx hb dX1_insert_73 (lv_at hl 4 rfl) ?_
              refine lv_iconst (v := 1) hx hb dX1_insert_75 (by decide) ?_
              refine lv_isub hx hb dX1_insert_76 ?_
              obtain ⟨hin, hF⟩ := gx_some hF
              refine va_iald hx hb hK hP 2 0 rfl rfl hin dX1_insert_77 ?_
              obtain ⟨hin, hF⟩ := gx_some hF
              refine va_iast hx hb hK hP hD hS 2 0 rfl rfl hin dX1_insert_78 (fun H locs hP hD hS => ?_)
              have hP : va_P D vwCl [gA h_t_values cI 48 c_t_values_57, gO h_t 1 [.int v_t_size, .ref h_t_words, .ref h_t_values], gA h_t_words cI 48 (upd c_t_words_57 (x5_57).toNatClampNeg (c_t_words_57 ((x5_57 - (1 : Int32))).toNatClampNeg))] H := hP
              have hD : va_D A [gA h_t_values cI 48 c_t_values_57, gO h_t 1 [.int v_t_size, .ref h_t_words, .ref h_t_values], gA h_t_words cI 48 (upd c_t_words_57 (x5_57).toNatClampNeg (c_t_words_57 ((x5_57 - (1 : Int32))).toNatClampNeg))] := hD
              refine lv_aload_n hx hb dX1_insert_79 rfl (lv_at hl 0 rfl) ?_
              refine va_get (D := D) (ci := 1) (v := .ref h_t_values) (C := RX1) (T := TX1) (N := 3) hx hb hts hinX1 hown hK hP 1 rfl rfl 2 (by decide) hw3 (fun _ h9 => h9) rfl dX1_insert_80 ?_
              refine lv_iload hx hb dX1_insert_83 (lv_at hl 4 rfl) ?_
              refine lv_aload_n hx hb dX1_insert_85 rfl (lv_at hl 0 rfl) ?_
              refine va_get (D := D) (ci := 1) (v := .ref h_t_values) (C := RX1) (T := TX1) (N := 3) hx hb hts hinX1 hown hK hP 1 rfl rfl 2 (by decide) hw3 (fun _ h9 => h9) rfl dX1_insert_86 ?_
              refine lv_iload hx hb dX1_insert_89 (lv_at hl 4 rfl) ?_
              refine lv_iconst (v := 1) hx hb dX1_insert_91 (by decide) ?_
              refine lv_isub hx hb dX1_insert_92 ?_
              obtain ⟨hin, hF⟩ := gx_some hF
              refine va_iald hx hb hK hP 0 0 rfl rfl hin dX1_insert_93 ?_
              obtain ⟨hin, hF⟩ := gx_some hF
              refine va_iast hx hb hK hP hD hS 0 0 rfl rfl hin dX1_insert_94 (fun H locs hP hD hS => ?_)
              have hP : va_P D vwCl [gA h_t_values cI 48 (upd c_t_values_57 (x5_57).toNatClampNeg (c_t_values_57 ((x5_57 - (1 : Int32))).toNatClampNeg)), gO h_t 1 [.int v_t_size, .ref h_t_words, .ref h_t_values], gA h_t_words cI 48 (upd c_t_words_57 (x5_57).toNatClampNeg (c_t_words_57 ((x5_57 - (1 : Int32))).toNatClampNeg))] H := hP
              have hD : va_D A [gA h_t_values cI 48 (upd c_t_values_57 (x5_57).toNatClampNeg (c_t_values_57 ((x5_57 - (1 : Int32))).toNatClampNeg)), gO h_t 1 [.int v_t_size, .ref h_t_words, .ref h_t_values], gA h_t_words cI 48 (upd c_t_words_57 (x5_57).toNatClampNeg (c_t_words_57 ((x5_57 - (1 : Int32))).toNatClampNeg))] := hD
              obtain ⟨x5_95, ex⟩ : ∃ y : Int32, y = (x5_57 + (-1)) := ⟨_, rfl⟩
              have hF := gl_some hF ex
              refine lv_iinc (v := x5_95) (lv' := [(5, .int x5_95), (0, .ref h_t), (1, .int x1), (2, .int x2), (3, .int q_2)]) hx hb dX1_insert_95 hl (k := 4) rfl (by rw [ex]; rfl) (by decide) rfl (fun ls hl => ?_)
              refine lv_goto (tgt := 57) hx hb dX1_insert_98 (by decide) ?_
              exact ih57 x5_95 (upd c_t_words_57 (x5_57).toNatClampNeg (c_t_words_57 ((x5_57 - (1 : Int32))).toNatClampNeg)) (upd c_t_values_57 (x5_57).toNatClampNeg (c_t_values_57 ((x5_57 - (1 : Int32))).toNatClampNeg)) _ _ _ hF hP hD hS (lv_sub hl [1, 2, 3, 4, 0] rfl)
        exact Ln_57 gF v_t_size c_t_words c_t_values _ _ _ hR hP hD hS (lv_sub hl [1, 2, 3, 4, 0] rfl)
    refine lv_if_eq (tgt := 46) hx hb dX1_insert_33 (by decide) (fun cc => ?_) (fun cc => ?_)
    · have hF := gi_pos hF cc
      exact Jn_46  _ _ _ hF hP hD hS (lv_sub hl [1, 2, 3, 4, 0] rfl)
    · have hF := gi_neg hF cc
      refine lv_aload_n hx hb dX1_insert_36 rfl (lv_at hl 1 rfl) ?_
      refine va_get (D := D) (ci := 1) (v := .int v_t_size) (C := RX1) (T := TX1) (N := 3) hx hb hts hinX1 hown hK hP 1 rfl rfl 0 (by decide) hw0 (fun _ h9 => h9) rfl dX1_insert_37 ?_
      refine lv_bipush (v := 48) hx hb dX1_insert_40 (by decide) ?_
      refine lv_icmp_lt (tgt := 46) hx hb dX1_insert_42 (by decide) (fun cc => ?_) (fun cc => ?_)
      · have hF := gi_pos hF cc
        exact Jn_46  _ _ _ hF hP hD hS (lv_sub hl [1, 2, 3, 4, 0] rfl)
      · have hF := gi_neg hF cc
        obtain rfl := Option.some.inj hF
        exact hQ _ _ _ _ (hP.sub [1, 2, 0] rfl) (hD.sub [1, 2, 0] (by decide) rfl) hS dX1_insert_45
  clear hF
  have hF := hR
  refine lv_icmp_ge (tgt := 24) hx hb dX1_insert_11 (by decide) (fun cc => ?_) (fun cc => ?_)
  · have hF := gi_pos hF cc
    refine lv_iconst (v := 1) hx hb dX1_insert_24 (by decide) ?_
    refine lv_goto (tgt := 29) hx hb dX1_insert_25 (by decide) ?_
    obtain rfl := Option.some.inj hF
    exact Jn_29 _ _ _ hP hD hS (lv_sub hl [1, 2, 3, 0] rfl)
  · have hF := gi_neg hF cc
    refine lv_aload_n hx hb dX1_insert_14 rfl (lv_at hl 1 rfl) ?_
    refine va_get (D := D) (ci := 1) (v := .ref h_t_words) (C := RX1) (T := TX1) (N := 3) hx hb hts hinX1 hown hK hP 1 rfl rfl 1 (by decide) hw2 (fun _ h9 => h9) rfl dX1_insert_15 ?_
    refine lv_iload_n hx hb dX1_insert_18 rfl (lv_at hl 0 rfl) ?_
    obtain ⟨hin, hF⟩ := gx_some hF
    refine va_iald hx hb hK hP 2 0 rfl rfl hin dX1_insert_19 ?_
    refine lv_iload_n hx hb dX1_insert_20 rfl (lv_at hl 2 rfl) ?_
    refine lv_icmp_eq (tgt := 28) hx hb dX1_insert_21 (by decide) (fun cc => ?_) (fun cc => ?_)
    · have hF := gi_pos hF cc
      refine lv_iconst (v := 0) hx hb dX1_insert_28 (by decide) ?_
      obtain rfl := Option.some.inj hF
      exact Jn_29 _ _ _ hP hD hS (lv_sub hl [1, 2, 3, 0] rfl)
    · have hF := gi_neg hF cc
      refine lv_iconst (v := 1) hx hb dX1_insert_24 (by decide) ?_
      refine lv_goto (tgt := 29) hx hb dX1_insert_25 (by decide) ?_
      obtain rfl := Option.some.inj hF
      exact Jn_29 _ _ _ hP hD hS (lv_sub hl [1, 2, 3, 0] rfl)

abbrev rmX1_has : Room := { frames := 1, cells := 0, slots := 0, locals := 22 }
def fX1_has (x1 : Int32) (v_t_size : Int32) (c_t_words : Nat → Int32) : Option (Int32) := (Option.bind (fX1_aheadOf x1 v_t_size c_t_words) (fun q_2 => (if v_t_size ≤ q_2 then (some (0 : Int32)) else (gx q_2 48 (if (c_t_words (q_2).toNatClampNeg) = x1 then (some (1 : Int32)) else (some (0 : Int32)))))))
set_option maxHeartbeats 4000000 in
set_option maxRecDepth 100000 in
theorem kX1_has (l : Launch) (D : va_G) (cI cZ cD cG : ClassId) (h_t : Nat) (v_t_size : Int32) (h_t_words : Nat) (h_t_values : Nat) (c_t_words : Nat → Int32) (x1 : Int32) (res : Int32) (hF : fX1_has x1 v_t_size c_t_words = some res) : gMz l D (gty cI cZ cD cG) yX1_has wsX1_has rmX1_has [.ref h_t, .int x1] [gO h_t 1 [.int v_t_size, .ref h_t_words, .ref h_t_values], gA h_t_words cI 48 c_t_words] res [gO h_t 1 [.int v_t_size, .ref h_t_words, .ref h_t_values], gA h_t_words cI 48 c_t_words] := by
  refine gMz.of (cc := cX1_has) (maxL := 3) (by decide) rfl (Nat.le_of_ble_eq_true rfl) ?_
  intro p e s m args below meth c A ls Q hx hb hts hown hml hK hA hP hD hS hQ hl
  have hown : s.vm.findClass RX1 = some m.cls := hown
  have hl : lv_has ls 3 [(0, .ref h_t), (1, .int x1)] := hl
  have hw0 := hts (.fieldLink RX1 9 "NibbleTrunk$Keys" "size" "I") (by decide +kernel)
  have hinX1 : ∀ w ∈ wsX10, w ∈ wsX1_has := by decide +kernel
  have hw2 := hts (.fieldLink RX1 15 "NibbleTrunk$Keys" "words" "[I") (by decide +kernel)
  rw [fX1_has] at hF
  refine lv_aload_n hx hb dX1_has_0 rfl (lv_at hl 0 rfl) ?_
  refine lv_iload_n hx hb dX1_has_1 rfl (lv_at hl 1 rfl) ?_
  obtain ⟨q_2, hc, hF⟩ := gb_some hF
  refine gcVi (ci := 1) (As := [.int x1]) (rest := []) (pre := [gO h_t 1 [.int v_t_size, .ref h_t_words, .ref h_t_values], gA h_t_words cI 48 c_t_words]) (post := [gO h_t 1 [.int v_t_size, .ref h_t_words, .ref h_t_values], gA h_t_words cI 48 c_t_words]) (wr := []) ⟨hx, hb, hml, hown, hts⟩ (kX1_aheadOf l D cI cZ cD cG h_t v_t_size h_t_words h_t_values c_t_words x1 q_2 hc) (cwV 1 hts gX1_has_X1_aheadOf rfl rfl rfl (by decide +kernel) ⟨Nat.le_of_ble_eq_true rfl, Nat.le_of_ble_eq_true rfl⟩) hK hP hD hS hA [0, 1] [] rfl rfl (by decide) (by decide) (by decide) 0 rfl rfl rfl hl.1 rfl (Nat.le_of_ble_eq_true rfl) dX1_has_2 ⟨Nat.zero_le _, Nat.zero_le _⟩ (fun H locs hP hD hS => ?_)
  have hP : va_P D vwCl [gO h_t 1 [.int v_t_size, .ref h_t_words, .ref h_t_values], gA h_t_words cI 48 c_t_words] H := hP
  have hD : va_D A [gO h_t 1 [.int v_t_size, .ref h_t_words, .ref h_t_values], gA h_t_words cI 48 c_t_words] := hD
  refine lv_istore_n (lv' := [(2, .int q_2), (0, .ref h_t), (1, .int x1)]) hx hb dX1_has_5 rfl hl (by decide) rfl (fun ls hl => ?_)
  refine lv_iload_n hx hb dX1_has_6 rfl (lv_at hl 0 rfl) ?_
  refine lv_aload_n hx hb dX1_has_7 rfl (lv_at hl 1 rfl) ?_
  refine va_get (D := D) (ci := 1) (v := .int v_t_size) (C := RX1) (T := TX1) (N := 3) hx hb hts hinX1 hown hK hP 0 rfl rfl 0 (by decide) hw0 (fun _ h9 => h9) rfl dX1_has_8 ?_
  refine lv_icmp_ge (tgt := 28) hx hb dX1_has_11 (by decide) (fun cc => ?_) (fun cc => ?_)
  · have hF := gi_pos hF cc
    refine lv_iconst (v := 0) hx hb dX1_has_28 (by decide) ?_
    obtain rfl := Option.some.inj hF
    exact hQ _ _ _ _ _ hP hD hS rfl rfl dX1_has_29
  · have hF := gi_neg hF cc
    refine lv_aload_n hx hb dX1_has_14 rfl (lv_at hl 1 rfl) ?_
    refine va_get (D := D) (ci := 1) (v := .ref h_t_words) (C := RX1) (T := TX1) (N := 3) hx hb hts hinX1 hown hK hP 0 rfl rfl 1 (by decide) hw2 (fun _ h9 => h9) rfl dX1_has_15 ?_
    refine lv_iload_n hx hb dX1_has_18 rfl (lv_at hl 0 rfl) ?_
    obtain ⟨hin, hF⟩ := gx_some hF
    refine va_iald hx hb hK hP 1 0 rfl rfl hin dX1_has_19 ?_
    refine lv_iload_n hx hb dX1_has_20 rfl (lv_at hl 2 rfl) ?_
    refine lv_icmp_ne (tgt := 28) hx hb dX1_has_21 (by decide) (fun cc => ?_) (fun cc => ?_)
    · have hF := gi_neg hF cc
      refine lv_iconst (v := 0) hx hb dX1_has_28 (by decide) ?_
      obtain rfl := Option.some.inj hF
      exact hQ _ _ _ _ _ hP hD hS rfl rfl dX1_has_29
    · have hF := gi_pos hF cc
      refine lv_iconst (v := 1) hx hb dX1_has_24 (by decide) ?_
      refine lv_goto (tgt := 29) hx hb dX1_has_25 (by decide) ?_
      obtain rfl := Option.some.inj hF
      exact hQ _ _ _ _ _ hP hD hS rfl rfl dX1_has_29

abbrev rmX1_remove : Room := { frames := 0, cells := 0, slots := 0, locals := 0 }
def fX1_remove_L2 (v_t_size : Int32) (x2 : Int32) : Nat → Int32 → (Nat → Int32) → (Nat → Int32) → Option ((Nat → Int32) × (Nat → Int32))
  | 0, _, _, _ => none
  | n_2 + 1, x3_2, c_t_words_2, c_t_values_2 => (if v_t_size ≤ (x3_2 + x2) then (some (c_t_words_2, c_t_values_2)) else (gx (x3_2 + x2) 48 (gx x3_2 48 (gx (x3_2 + x2) 48 (gx x3_2 48 (gl (x3_2 + 1) (fun x3_40 => (fX1_remove_L2 v_t_size x2 n_2 x3_40 (upd c_t_words_2 (x3_2).toNatClampNeg (c_t_words_2 ((x3_2 + x2)).toNatClampNeg)) (upd c_t_values_2 (x3_2).toNatClampNeg (c_t_values_2 ((x3_2 + x2)).toNatClampNeg))))))))))
def fX1_remove (x1 : Int32) (x2 : Int32) (v_t_size : Int32) (c_t_words : Nat → Int32) (c_t_values : Nat → Int32) : Option (Int32 × (Nat → Int32) × (Nat → Int32)) := (Option.bind (fX1_remove_L2 v_t_size x2 gF x1 c_t_words c_t_values) (fun q_2 => (gl (v_t_size - x2) (fun f_53 => (some (f_53, q_2.1, q_2.2))))))
set_option maxHeartbeats 4000000 in
set_option maxRecDepth 100000 in
theorem kX1_remove (l : Launch) (D : va_G) (cI cZ cD cG : ClassId) (h_t : Nat) (v_t_size : Int32) (h_t_words : Nat) (h_t_values : Nat) (c_t_words : Nat → Int32) (c_t_values : Nat → Int32) (x1 : Int32) (x2 : Int32) (res : Int32 × (Nat → Int32) × (Nat → Int32)) (hF : fX1_remove x1 x2 v_t_size c_t_words c_t_values = some res) : gMv l D (gty cI cZ cD cG) yX1_remove wsX1_remove rmX1_remove [.ref h_t, .int x1, .int x2] [gO h_t 1 [.int v_t_size, .ref h_t_words, .ref h_t_values], gA h_t_words cI 48 c_t_words, gA h_t_values cI 48 c_t_values] [gO h_t 1 [.int res.1, .ref h_t_words, .ref h_t_values], gA h_t_words cI 48 res.2.1, gA h_t_values cI 48 res.2.2] := by
  refine gMv.of (cc := cX1_remove) (maxL := 4) (by decide) rfl (Nat.le_of_ble_eq_true rfl) ?_
  intro p e s m args below meth c A ls Q hx hb hts hown hml hK hA hP hD hS hQ hl
  have hown : s.vm.findClass RX1 = some m.cls := hown
  have hl : lv_has ls 4 [(0, .ref h_t), (1, .int x1), (2, .int x2)] := hl
  have hw0 := hts (.fieldLink RX1 9 "NibbleTrunk$Keys" "size" "I") (by decide +kernel)
  have hinX1 : ∀ w ∈ wsX10, w ∈ wsX1_remove := by decide +kernel
  have hw2 := hts (.fieldLink RX1 15 "NibbleTrunk$Keys" "words" "[I") (by decide +kernel)
  have hw3 := hts (.fieldLink RX1 19 "NibbleTrunk$Keys" "values" "[I") (by decide +kernel)
  rw [fX1_remove] at hF
  refine lv_iload_n hx hb dX1_remove_0 rfl (lv_at hl 1 rfl) ?_
  refine lv_istore_n (lv' := [(3, .int x1), (0, .ref h_t), (1, .int x1), (2, .int x2)]) hx hb dX1_remove_1 rfl hl (by decide) rfl (fun ls hl => ?_)
  obtain ⟨q_2, hR, hF⟩ := gb_some hF
  have En_2 : ∀ (H : Heap) (locs : List Loc) (ls : Array Slot), va_P D vwCl [gO h_t 1 [.int v_t_size, .ref h_t_words, .ref h_t_values], gA h_t_words cI 48 q_2.1, gA h_t_values cI 48 q_2.2] H → va_D A [gO h_t 1 [.int v_t_size, .ref h_t_words, .ref h_t_values], gA h_t_words cI 48 q_2.1, gA h_t_values cI 48 q_2.2] → va_S A s.heap H locs → lv_has ls 4 [(0, .ref h_t), (2, .int x2)] → W p l e rmX1_remove s m args below meth c H locs 0 0 Q (F0 m 46 ls []) := by
    intro H locs ls hP hD hS hl
    refine lv_aload_n hx hb dX1_remove_46 rfl (lv_at hl 0 rfl) ?_
    refine lv_dup hx hb dX1_remove_47 rfl ?_
    refine va_get (D := D) (ci := 1) (v := .int v_t_size) (C := RX1) (T := TX1) (N := 3) hx hb hts hinX1 hown hK hP 0 rfl rfl 0 (by decide) hw0 (fun _ h9 => h9) rfl dX1_remove_48 ?_
    refine lv_iload_n hx hb dX1_remove_51 rfl (lv_at hl 1 rfl) ?_
    refine lv_isub hx hb dX1_remove_52 ?_
    refine lv_topi (fun f_53 ex => ?_)
    have hF := gl_some hF ex
    refine va_put (D := D) (ci := 1) (v := .int f_53) (ty := .int) (C := RX1) (T := TX1) (N := 3) hx hb hts hinX1 tyX1 tyX1_ok nmX1 hown hK hP hD hS 0 rfl rfl 0 (by decide) hw0 (fun _ h9 => h9) rfl (by decide +kernel) rfl rfl (Nat.le_of_ble_eq_true rfl) dX1_remove_53 (fun H locs hP hD hS => ?_)
    have hP : va_P D vwCl [gO h_t 1 [.int f_53, .ref h_t_words, .ref h_t_values], gA h_t_words cI 48 q_2.1, gA h_t_values cI 48 q_2.2] H := hP
    have hD : va_D A [gO h_t 1 [.int f_53, .ref h_t_words, .ref h_t_values], gA h_t_words cI 48 q_2.1, gA h_t_values cI 48 q_2.2] := hD
    obtain rfl := Option.some.inj hF
    exact hQ _ _ _ _ hP hD hS dX1_remove_56
  clear hF
  have Ln_2 : ∀ (n_2 : Nat) (x3_2 : Int32) (c_t_words_2 : Nat → Int32) (c_t_values_2 : Nat → Int32) (H : Heap) (locs : List Loc) (ls : Array Slot), fX1_remove_L2 v_t_size x2 n_2 x3_2 c_t_words_2 c_t_values_2 = some q_2 → va_P D vwCl [gO h_t 1 [.int v_t_size, .ref h_t_words, .ref h_t_values], gA h_t_words cI 48 c_t_words_2, gA h_t_values cI 48 c_t_values_2] H → va_D A [gO h_t 1 [.int v_t_size, .ref h_t_words, .ref h_t_values], gA h_t_words cI 48 c_t_words_2, gA h_t_values cI 48 c_t_values_2] → va_S A s.heap H locs → lv_has ls 4 [(0, .ref h_t), (2, .int x2), (3, .int x3_2)] → W p l e rmX1_remove s m args below meth c H locs 0 0 Q (F0 m 2 ls []) := by
    intro n_2
    induction n_2 with
    | zero =>
      intro x3_2 c_t_words_2 c_t_values_2 H locs ls hF
      rw [fX1_remove_L2] at hF
      cases hF
    | succ n_2 ih2 =>
      intro x3_2 c_t_words_2 c_t_values_2 H locs ls hF hP hD hS hl
      rw [fX1_remove_L2] at hF
      refine lv_iload_n hx hb dX1_remove_2 rfl (lv_at hl 2 rfl) ?_
      refine lv_iload_n hx hb dX1_remove_3 rfl (lv_at hl 1 rfl) ?_
      refine lv_iadd hx hb dX1_remove_4 ?_
      refine lv_aload_n hx hb dX1_remove_5 rfl (lv_at hl 0 rfl) ?_
      refine va_get (D := D) (ci := 1) (v := .int v_t_size) (C := RX1) (T := TX1) (N := 3) hx hb hts hinX1 hown hK hP 0 rfl rfl 0 (by decide) hw0 (fun _ h9 => h9) rfl dX1_remove_6 ?_
      refine lv_icmp_ge (tgt := 46) hx hb dX1_remove_9 (by decide) (fun cc => ?_) (fun cc => ?_)
      · have hF := gi_pos hF cc
        obtain rfl := Option.some.inj hF
        exact En_2 _ _ _ hP hD hS (lv_sub hl [0, 1] rfl)
      · have hF := gi_neg hF cc
        refine lv_aload_n hx hb dX1_remove_12 rfl (lv_at hl 0 rfl) ?_
        refine va_get (D := D) (ci := 1) (v := .ref h_t_words) (C := RX1) (T := TX1) (N := 3) hx hb hts hinX1 hown hK hP 0 rfl rfl 1 (by decide) hw2 (fun _ h9 => h9) rfl dX1_remove_13 ?_
        refine lv_iload_n hx hb dX1_remove_16 rfl (lv_at hl 2 rfl) ?_
        refine lv_aload_n hx hb dX1_remove_17 rfl (lv_at hl 0 rfl) ?_
        refine va_get (D := D) (ci := 1) (v := .ref h_t_words) (C := RX1) (T := TX1) (N := 3) hx hb hts hinX1 hown hK hP 0 rfl rfl 1 (by decide) hw2 (fun _ h9 => h9) rfl dX1_remove_18 ?_
        refine lv_iload_n hx hb dX1_remove_21 rfl (lv_at hl 2 rfl) ?_
        refine lv_iload_n hx hb dX1_remove_22 rfl (lv_at hl 1 rfl) ?_
        refine lv_iadd hx hb dX1_remove_23 ?_
        obtain ⟨hin, hF⟩ := gx_some hF
        refine va_iald hx hb hK hP 1 0 rfl rfl hin dX1_remove_24 ?_
        obtain ⟨hin, hF⟩ := gx_some hF
        refine va_iast hx hb hK hP hD hS 1 0 rfl rfl hin dX1_remove_25 (fun H locs hP hD hS => ?_)
        have hP : va_P D vwCl [gO h_t 1 [.int v_t_size, .ref h_t_words, .ref h_t_values], gA h_t_words cI 48 (upd c_t_words_2 (x3_2).toNatClampNeg (c_t_words_2 ((x3_2 + x2)).toNatClampNeg)), gA h_t_values cI 48 c_t_values_2] H := hP
        have hD : va_D A [gO h_t 1 [.int v_t_size, .ref h_t_words, .ref h_t_values], gA h_t_words cI 48 (upd c_t_words_2 (x3_2).toNatClampNeg (c_t_words_2 ((x3_2 + x2)).toNatClampNeg)), gA h_t_values cI 48 c_t_values_2] := hD
        refine lv_aload_n hx hb dX1_remove_26 rfl (lv_at hl 0 rfl) ?_
        refine va_get (D := D) (ci := 1) (v := .ref h_t_values) (C := RX1) (T := TX1) (N := 3) hx hb hts hinX1 hown hK hP 0 rfl rfl 2 (by decide) hw3 (fun _ h9 => h9) rfl dX1_remove_27 ?_
        refine lv_iload_n hx hb dX1_remove_30 rfl (lv_at hl 2 rfl) ?_
        refine lv_aload_n hx hb dX1_remove_31 rfl (lv_at hl 0 rfl) ?_
        refine va_get (D := D) (ci := 1) (v := .ref h_t_values) (C := RX1) (T := TX1) (N := 3) hx hb hts hinX1 hown hK hP 0 rfl rfl 2 (by decide) hw3 (fun _ h9 => h9) rfl dX1_remove_32 ?_
        refine lv_iload_n hx hb dX1_remove_35 rfl (lv_at hl 2 rfl) ?_
        refine lv_iload_n hx hb dX1_remove_36 rfl (lv_at hl 1 rfl) ?_
        refine lv_iadd hx hb dX1_remove_37 ?_
        obtain ⟨hin, hF⟩ := gx_some hF
        refine va_iald hx hb hK hP 2 0 rfl rfl hin dX1_remove_38 ?_
        obtain ⟨hin, hF⟩ := gx_some hF
        refine va_iast hx hb hK hP hD hS 2 0 rfl rfl hin dX1_remove_39 (fun H locs hP hD hS => ?_)
        have hP : va_P D vwCl [gO h_t 1 [.int v_t_size, .ref h_t_words, .ref h_t_values], gA h_t_words cI 48 (upd c_t_words_2 (x3_2).toNatClampNeg (c_t_words_2 ((x3_2 + x2)).toNatClampNeg)), gA h_t_values cI 48 (upd c_t_values_2 (x3_2).toNatClampNeg (c_t_values_2 ((x3_2 + x2)).toNatClampNeg))] H := hP
        have hD : va_D A [gO h_t 1 [.int v_t_size, .ref h_t_words, .ref h_t_values], gA h_t_words cI 48 (upd c_t_words_2 (x3_2).toNatClampNeg (c_t_words_2 ((x3_2 + x2)).toNatClampNeg)), gA h_t_values cI 48 (upd c_t_values_2 (x3_2).toNatClampNeg (c_t_values_2 ((x3_2 + x2)).toNatClampNeg))] := hD
        obtain ⟨x3_40, ex⟩ : ∃ y : Int32, y = (x3_2 + 1) := ⟨_, rfl⟩
        have hF := gl_some hF ex
        refine lv_iinc (v := x3_40) (lv' := [(3, .int x3_40), (0, .ref h_t), (2, .int x2)]) hx hb dX1_remove_40 hl (k := 2) rfl (by rw [ex]; rfl) (by decide) rfl (fun ls hl => ?_)
        refine lv_goto (tgt := 2) hx hb dX1_remove_43 (by decide) ?_
        exact ih2 x3_40 (upd c_t_words_2 (x3_2).toNatClampNeg (c_t_words_2 ((x3_2 + x2)).toNatClampNeg)) (upd c_t_values_2 (x3_2).toNatClampNeg (c_t_values_2 ((x3_2 + x2)).toNatClampNeg)) _ _ _ hF hP hD hS (lv_sub hl [1, 2, 0] rfl)
  exact Ln_2 gF x1 c_t_words c_t_values _ _ _ hR hP hD hS (lv_sub hl [1, 3, 0] rfl)

abbrev rmX1_beginningWith : Room := { frames := 2, cells := 0, slots := 0, locals := 42 }
def fX1_beginningWith_L8 (v_t_size : Int32) (x1 : Int32) (c_t_words : Nat → Int32) : Nat → Int32 → Option (Int32)
  | 0, _ => none
  | n_8 + 1, x3_8 => (if v_t_size ≤ x3_8 then (some x3_8) else (gx x3_8 48 (Option.bind (fX6_isHeadOf x1 (c_t_words (x3_8).toNatClampNeg)) (fun q_23 => (if q_23 = 0 then (some x3_8) else (gl (x3_8 + 1) (fun x3_29 => (fX1_beginningWith_L8 v_t_size x1 c_t_words n_8 x3_29))))))))
def fX1_beginningWith (x1 : Int32) (v_t_size : Int32) (c_t_words : Nat → Int32) : Option (Int32) := (Option.bind (fX1_aheadOf x1 v_t_size c_t_words) (fun q_2 => (Option.bind (fX1_beginningWith_L8 v_t_size x1 c_t_words gF q_2) (fun q_8 => (some (q_8 - q_2))))))
set_option maxHeartbeats 4000000 in
set_option maxRecDepth 100000 in
theorem kX1_beginningWith (l : Launch) (D : va_G) (cI cZ cD cG : ClassId) (h_t : Nat) (v_t_size : Int32) (h_t_words : Nat) (h_t_values : Nat) (c_t_words : Nat → Int32) (x1 : Int32) (res : Int32) (hF : fX1_beginningWith x1 v_t_size c_t_words = some res) : gMi l D (gty cI cZ cD cG) yX1_beginningWith wsX1_beginningWith rmX1_beginningWith [.ref h_t, .int x1] [gO h_t 1 [.int v_t_size, .ref h_t_words, .ref h_t_values], gA h_t_words cI 48 c_t_words] res [gO h_t 1 [.int v_t_size, .ref h_t_words, .ref h_t_values], gA h_t_words cI 48 c_t_words] := by
  refine gMi.of (cc := cX1_beginningWith) (maxL := 4) (by decide) rfl (Nat.le_of_ble_eq_true rfl) ?_
  intro p e s m args below meth c A ls Q hx hb hts hown hml hK hA hP hD hS hQ hl
  have hown : s.vm.findClass RX1 = some m.cls := hown
  have hl : lv_has ls 4 [(0, .ref h_t), (1, .int x1)] := hl
  have hw0 := hts (.fieldLink RX1 9 "NibbleTrunk$Keys" "size" "I") (by decide +kernel)
  have hinX1 : ∀ w ∈ wsX10, w ∈ wsX1_beginningWith := by decide +kernel
  have hw2 := hts (.fieldLink RX1 15 "NibbleTrunk$Keys" "words" "[I") (by decide +kernel)
  rw [fX1_beginningWith] at hF
  refine lv_aload_n hx hb dX1_beginningWith_0 rfl (lv_at hl 0 rfl) ?_
  refine lv_iload_n hx hb dX1_beginningWith_1 rfl (lv_at hl 1 rfl) ?_
  obtain ⟨q_2, hc, hF⟩ := gb_some hF
  refine gcVi (ci := 1) (As := [.int x1]) (rest := []) (pre := [gO h_t 1 [.int v_t_size, .ref h_t_words, .ref h_t_values], gA h_t_words cI 48 c_t_words]) (post := [gO h_t 1 [.int v_t_size, .ref h_t_words, .ref h_t_values], gA h_t_words cI 48 c_t_words]) (wr := []) ⟨hx, hb, hml, hown, hts⟩ (kX1_aheadOf l D cI cZ cD cG h_t v_t_size h_t_words h_t_values c_t_words x1 q_2 hc) (cwV 1 hts gX1_beginningWith_X1_aheadOf rfl rfl rfl (by decide +kernel) ⟨Nat.le_of_ble_eq_true rfl, Nat.le_of_ble_eq_true rfl⟩) hK hP hD hS hA [0, 1] [] rfl rfl (by decide) (by decide) (by decide) 0 rfl rfl rfl hl.1 rfl (Nat.le_of_ble_eq_true rfl) dX1_beginningWith_2 ⟨Nat.zero_le _, Nat.zero_le _⟩ (fun H locs hP hD hS => ?_)
  have hP : va_P D vwCl [gO h_t 1 [.int v_t_size, .ref h_t_words, .ref h_t_values], gA h_t_words cI 48 c_t_words] H := hP
  have hD : va_D A [gO h_t 1 [.int v_t_size, .ref h_t_words, .ref h_t_values], gA h_t_words cI 48 c_t_words] := hD
  refine lv_istore_n (lv' := [(2, .int q_2), (0, .ref h_t), (1, .int x1)]) hx hb dX1_beginningWith_5 rfl hl (by decide) rfl (fun ls hl => ?_)
  refine lv_iload_n hx hb dX1_beginningWith_6 rfl (lv_at hl 0 rfl) ?_
  refine lv_istore_n (lv' := [(3, .int q_2), (2, .int q_2), (0, .ref h_t), (1, .int x1)]) hx hb dX1_beginningWith_7 rfl hl (by decide) rfl (fun ls hl => ?_)
  obtain ⟨q_8, hR, hF⟩ := gb_some hF
  have En_8 : ∀ (H : Heap) (locs : List Loc) (ls : Array Slot), va_P D vwCl [gO h_t 1 [.int v_t_size, .ref h_t_words, .ref h_t_values], gA h_t_words cI 48 c_t_words] H → va_D A [gO h_t 1 [.int v_t_size, .ref h_t_words, .ref h_t_values], gA h_t_words cI 48 c_t_words] → va_S A s.heap H locs → lv_has ls 4 [(2, .int q_2), (3, .int q_8)] → W p l e rmX1_beginningWith s m args below meth c H locs 0 0 Q (F0 m 35 ls []) := by
    intro H locs ls hP hD hS hl
    refine lv_iload_n hx hb dX1_beginningWith_35 rfl (lv_at hl 1 rfl) ?_
    refine lv_iload_n hx hb dX1_beginningWith_36 rfl (lv_at hl 0 rfl) ?_
    refine lv_isub hx hb dX1_beginningWith_37 ?_
    obtain rfl := Option.some.inj hF
    exact hQ _ _ _ _ _ hP hD hS rfl dX1_beginningWith_38
  clear hF
  have Ln_8 : ∀ (n_8 : Nat) (x3_8 : Int32) (H : Heap) (locs : List Loc) (ls : Array Slot), fX1_beginningWith_L8 v_t_size x1 c_t_words n_8 x3_8 = some q_8 → va_P D vwCl [gO h_t 1 [.int v_t_size, .ref h_t_words, .ref h_t_values], gA h_t_words cI 48 c_t_words] H → va_D A [gO h_t 1 [.int v_t_size, .ref h_t_words, .ref h_t_values], gA h_t_words cI 48 c_t_words] → va_S A s.heap H locs → lv_has ls 4 [(0, .ref h_t), (1, .int x1), (2, .int q_2), (3, .int x3_8)] → W p l e rmX1_beginningWith s m args below meth c H locs 0 0 Q (F0 m 8 ls []) := by
    intro n_8
    induction n_8 with
    | zero =>
      intro x3_8 H locs ls hF
      rw [fX1_beginningWith_L8] at hF
      cases hF
    | succ n_8 ih8 =>
      intro x3_8 H locs ls hF hP hD hS hl
      rw [fX1_beginningWith_L8] at hF
      refine lv_iload_n hx hb dX1_beginningWith_8 rfl (lv_at hl 3 rfl) ?_
      refine lv_aload_n hx hb dX1_beginningWith_9 rfl (lv_at hl 0 rfl) ?_
      refine va_get (D := D) (ci := 1) (v := .int v_t_size) (C := RX1) (T := TX1) (N := 3) hx hb hts hinX1 hown hK hP 0 rfl rfl 0 (by decide) hw0 (fun _ h9 => h9) rfl dX1_beginningWith_10 ?_
      refine lv_icmp_ge (tgt := 35) hx hb dX1_beginningWith_13 (by decide) (fun cc => ?_) (fun cc => ?_)
      · have hF := gi_pos hF cc
        obtain rfl := Option.some.inj hF
        exact En_8 _ _ _ hP hD hS (lv_sub hl [2, 3] rfl)
      · have hF := gi_neg hF cc
        refine lv_iload_n hx hb dX1_beginningWith_16 rfl (lv_at hl 1 rfl) ?_
        refine lv_aload_n hx hb dX1_beginningWith_17 rfl (lv_at hl 0 rfl) ?_
        refine va_get (D := D) (ci := 1) (v := .ref h_t_words) (C := RX1) (T := TX1) (N := 3) hx hb hts hinX1 hown hK hP 0 rfl rfl 1 (by decide) hw2 (fun _ h9 => h9) rfl dX1_beginningWith_18 ?_
        refine lv_iload_n hx hb dX1_beginningWith_21 rfl (lv_at hl 3 rfl) ?_
        obtain ⟨hin, hF⟩ := gx_some hF
        refine va_iald hx hb hK hP 1 0 rfl rfl hin dX1_beginningWith_22 ?_
        obtain ⟨q_23, hc, hF⟩ := gb_some hF
        refine gcSz (As := [.int x1, .int (c_t_words (x3_8).toNatClampNeg)]) (rest := []) (pre := []) (post := []) (wr := [gO h_t 1 [.int v_t_size, .ref h_t_words, .ref h_t_values], gA h_t_words cI 48 c_t_words]) ⟨hx, hb, hml, hown, hts⟩ (kX6_isHeadOf l D cI cZ cD cG x1 (c_t_words (x3_8).toNatClampNeg) q_23 hc) (va_cwS 2 hts gX1_beginningWith_X6_isHeadOf rfl rfl rfl (by decide +kernel) ⟨Nat.le_of_ble_eq_true rfl, Nat.le_of_ble_eq_true rfl⟩) hK hP hD hS hA [] [0, 1] rfl rfl (by decide) (by decide) (by decide) rfl hl.1 rfl (Nat.le_of_ble_eq_true rfl) dX1_beginningWith_23 ⟨Nat.zero_le _, Nat.zero_le _⟩ (fun H locs hnq_23 hP hD hS => ?_)
        have hP : va_P D vwCl [gO h_t 1 [.int v_t_size, .ref h_t_words, .ref h_t_values], gA h_t_words cI 48 c_t_words] H := hP
        have hD : va_D A [gO h_t 1 [.int v_t_size, .ref h_t_words, .ref h_t_values], gA h_t_words cI 48 c_t_words] := hD
        refine lv_if_eq (tgt := 35) hx hb dX1_beginningWith_26 (by decide) (fun cc => ?_) (fun cc => ?_)
        · have hF := gi_pos hF cc
          obtain rfl := Option.some.inj hF
          exact En_8 _ _ _ hP hD hS (lv_sub hl [2, 3] rfl)
        · have hF := gi_neg hF cc
          obtain ⟨x3_29, ex⟩ : ∃ y : Int32, y = (x3_8 + 1) := ⟨_, rfl⟩
          have hF := gl_some hF ex
          refine lv_iinc (v := x3_29) (lv' := [(3, .int x3_29), (0, .ref h_t), (1, .int x1), (2, .int q_2)]) hx hb dX1_beginningWith_29 hl (k := 3) rfl (by rw [ex]; rfl) (by decide) rfl (fun ls hl => ?_)
          refine lv_goto (tgt := 8) hx hb dX1_beginningWith_32 (by decide) ?_
          exact ih8 x3_29 _ _ _ hF hP hD hS (lv_sub hl [1, 2, 3, 0] rfl)
  exact Ln_8 gF q_2 _ _ _ hR hP hD hS (lv_sub hl [2, 3, 1, 0] rfl)

abbrev rmX1_apply : Room := { frames := 3, cells := 0, slots := 0, locals := 65 }
def fX1_apply (x1 : Int32) (x2 : Int32) (x3 : Int32) (v_t_size : Int32) (c_t_words : Nat → Int32) (c_t_values : Nat → Int32) : Option (Int32 × (Nat → Int32) × (Nat → Int32)) := (if x1 = (1 : Int32) then (Option.bind (fX1_insert x2 x3 v_t_size c_t_words c_t_values) (fun q_31 => (some (q_31.1, q_31.2.1, q_31.2.2)))) else (if x1 = (2 : Int32) then (Option.bind (fX1_aheadOf x2 v_t_size c_t_words) (fun q_40 => (Option.bind (fX1_has x2 v_t_size c_t_words) (fun q_45 => (Option.bind (α := Int32) (if q_45 = 0 then (some (0 : Int32)) else (some (1 : Int32))) (fun q_56 => (Option.bind (fX1_remove q_40 q_56 v_t_size c_t_words c_t_values) (fun q_56_a => (some (q_56_a.1, q_56_a.2.1, q_56_a.2.2)))))))))) else (if x1 = (3 : Int32) then (Option.bind (fX1_aheadOf x2 v_t_size c_t_words) (fun q_65 => (Option.bind (fX1_beginningWith x2 v_t_size c_t_words) (fun q_70 => (Option.bind (fX1_remove q_65 q_70 v_t_size c_t_words c_t_values) (fun q_73 => (some (q_73.1, q_73.2.1, q_73.2.2)))))))) else (some (v_t_size, c_t_words, c_t_values)))))
set_option maxHeartbeats 4000000 in
set_option maxRecDepth 100000 in
theorem kX1_apply (l : Launch) (D : va_G) (cI cZ cD cG : ClassId) (h_t : Nat) (v_t_size : Int32) (h_t_words : Nat) (h_t_values : Nat) (c_t_words : Nat → Int32) (c_t_values : Nat → Int32) (x1 : Int32) (x2 : Int32) (x3 : Int32) (res : Int32 × (Nat → Int32) × (Nat → Int32)) (hF : fX1_apply x1 x2 x3 v_t_size c_t_words c_t_values = some res) : gMv l D (gty cI cZ cD cG) yX1_apply wsX1_apply rmX1_apply [.ref h_t, .int x1, .int x2, .int x3] [gO h_t 1 [.int v_t_size, .ref h_t_words, .ref h_t_values], gA h_t_words cI 48 c_t_words, gA h_t_values cI 48 c_t_values] [gO h_t 1 [.int res.1, .ref h_t_words, .ref h_t_values], gA h_t_words cI 48 res.2.1, gA h_t_values cI 48 res.2.2] := by
  refine gMv.of (cc := cX1_apply) (maxL := 4) (by decide) rfl (Nat.le_of_ble_eq_true rfl) ?_
  intro p e s m args below meth c A ls Q hx hb hts hown hml hK hA hP hD hS hQ hl
  have hown : s.vm.findClass RX1 = some m.cls := hown
  have hl : lv_has ls 4 [(0, .ref h_t), (1, .int x1), (2, .int x2), (3, .int x3)] := hl
  rw [fX1_apply] at hF
  refine lv_iload_n hx hb dX1_apply_0 rfl (lv_at hl 1 rfl) ?_
  by_cases cc0 : x1 = (1 : Int32)
  · have hF := gi_pos hF cc0
    refine lv_tableIn (tgt := 28) hx hb dX1_apply_1 (by rw [cc0]; decide) (by rw [cc0]; decide) (by rw [cc0]; rfl) (by decide) ?_
    refine lv_aload_n hx hb dX1_apply_28 rfl (lv_at hl 0 rfl) ?_
    refine lv_iload_n hx hb dX1_apply_29 rfl (lv_at hl 2 rfl) ?_
    refine lv_iload_n hx hb dX1_apply_30 rfl (lv_at hl 3 rfl) ?_
    obtain ⟨q_31, hc, hF⟩ := gb_some hF
    refine gcVv (ci := 1) (As := [.int x2, .int x3]) (rest := []) (pre := [gO h_t 1 [.int v_t_size, .ref h_t_words, .ref h_t_values], gA h_t_words cI 48 c_t_words, gA h_t_values cI 48 c_t_values]) (post := [gO h_t 1 [.int q_31.1, .ref h_t_words, .ref h_t_values], gA h_t_words cI 48 q_31.2.1, gA h_t_values cI 48 q_31.2.2]) (wr := []) ⟨hx, hb, hml, hown, hts⟩ (kX1_insert l D cI cZ cD cG h_t v_t_size h_t_words h_t_values c_t_words c_t_values x2 x3 q_31 hc) (cwV 2 hts gX1_apply_X1_insert rfl rfl rfl (by decide +kernel) ⟨Nat.le_of_ble_eq_true rfl, Nat.le_of_ble_eq_true rfl⟩) hK hP hD hS hA [0, 1, 2] [] rfl rfl (by decide) (by decide) (by decide) 0 rfl rfl rfl hl.1 rfl (Nat.le_of_ble_eq_true rfl) dX1_apply_31 ⟨Nat.zero_le _, Nat.zero_le _⟩ (fun H locs hP hD hS => ?_)
    have hP : va_P D vwCl [gO h_t 1 [.int q_31.1, .ref h_t_words, .ref h_t_values], gA h_t_words cI 48 q_31.2.1, gA h_t_values cI 48 q_31.2.2] H := hP
    have hD : va_D A [gO h_t 1 [.int q_31.1, .ref h_t_words, .ref h_t_values], gA h_t_words cI 48 q_31.2.1, gA h_t_values cI 48 q_31.2.2] := hD
    refine lv_goto (tgt := 79) hx hb dX1_apply_34 (by decide) ?_
    obtain rfl := Option.some.inj hF
    exact hQ _ _ _ _ hP hD hS dX1_apply_79
  · have hF := gi_neg hF cc0
    by_cases cc1 : x1 = (2 : Int32)
    · have hF := gi_pos hF cc1
      refine lv_tableIn (tgt := 37) hx hb dX1_apply_1 (by rw [cc1]; decide) (by rw [cc1]; decide) (by rw [cc1]; rfl) (by decide) ?_
      refine lv_aload_n hx hb dX1_apply_37 rfl (lv_at hl 0 rfl) ?_
      refine lv_aload_n hx hb dX1_apply_38 rfl (lv_at hl 0 rfl) ?_
      refine lv_iload_n hx hb dX1_apply_39 rfl (lv_at hl 2 rfl) ?_
      obtain ⟨q_40, hc, hF⟩ := gb_some hF
      refine gcVi (ci := 1) (As := [.int x2]) (rest := [.ref h_t]) (pre := [gO h_t 1 [.int v_t_size, .ref h_t_words, .ref h_t_values], gA h_t_words cI 48 c_t_words]) (post := [gO h_t 1 [.int v_t_size, .ref h_t_words, .ref h_t_values], gA h_t_words cI 48 c_t_words]) (wr := [gA h_t_values cI 48 c_t_values]) ⟨hx, hb, hml, hown, hts⟩ (kX1_aheadOf l D cI cZ cD cG h_t v_t_size h_t_words h_t_values c_t_words x2 q_40 hc) (cwV 1 hts gX1_apply_X1_aheadOf rfl rfl rfl (by decide +kernel) ⟨Nat.le_of_ble_eq_true rfl, Nat.le_of_ble_eq_true rfl⟩) hK hP hD hS hA [0, 1] [2] rfl rfl (by decide) (by decide) (by decide) 0 rfl rfl rfl hl.1 rfl (Nat.le_of_ble_eq_true rfl) dX1_apply_40 ⟨Nat.zero_le _, Nat.zero_le _⟩ (fun H locs hP hD hS => ?_)
      have hP : va_P D vwCl [gA h_t_values cI 48 c_t_values, gO h_t 1 [.int v_t_size, .ref h_t_words, .ref h_t_values], gA h_t_words cI 48 c_t_words] H := hP
      have hD : va_D A [gA h_t_values cI 48 c_t_values, gO h_t 1 [.int v_t_size, .ref h_t_words, .ref h_t_values], gA h_t_words cI 48 c_t_words] := hD
      refine lv_aload_n hx hb dX1_apply_43 rfl (lv_at hl 0 rfl) ?_
      refine lv_iload_n hx hb dX1_apply_44 rfl (lv_at hl 2 rfl) ?_
      obtain ⟨q_45, hc, hF⟩ := gb_some hF
      refine gcVz (ci := 1) (As := [.int x2]) (rest := [.int q_40, .ref h_t]) (pre := [gO h_t 1 [.int v_t_size, .ref h_t_words, .ref h_t_values], gA h_t_words cI 48 c_t_words]) (post := [gO h_t 1 [.int v_t_size, .ref h_t_words, .ref h_t_values], gA h_t_words cI 48 c_t_words]) (wr := [gA h_t_values cI 48 c_t_values]) ⟨hx, hb, hml, hown, hts⟩ (kX1_has l D cI cZ cD cG h_t v_t_size h_t_words h_t_values c_t_words x2 q_45 hc) (cwV 1 hts gX1_apply_X1_has rfl rfl rfl (by decide +kernel) ⟨Nat.le_of_ble_eq_true rfl, Nat.le_of_ble_eq_true rfl⟩) hK hP hD hS hA [1, 2] [0] rfl rfl (by decide) (by decide) (by decide) 0 rfl rfl rfl hl.1 rfl (Nat.le_of_ble_eq_true rfl) dX1_apply_45 ⟨Nat.zero_le _, Nat.zero_le _⟩ (fun H locs hnq_45 hP hD hS => ?_)
      have hP : va_P D vwCl [gA h_t_values cI 48 c_t_values, gO h_t 1 [.int v_t_size, .ref h_t_words, .ref h_t_values], gA h_t_words cI 48 c_t_words] H := hP
      have hD : va_D A [gA h_t_values cI 48 c_t_values, gO h_t 1 [.int v_t_size, .ref h_t_words, .ref h_t_values], gA h_t_words cI 48 c_t_words] := hD
      obtain ⟨q_56, hR, hF⟩ := gb_some hF
      have Jn_56 : ∀ (H : Heap) (locs : List Loc) (ls : Array Slot), va_P D vwCl [gA h_t_values cI 48 c_t_values, gO h_t 1 [.int v_t_size, .ref h_t_words, .ref h_t_values], gA h_t_words cI 48 c_t_words] H → va_D A [gA h_t_values cI 48 c_t_values, gO h_t 1 [.int v_t_size, .ref h_t_words, .ref h_t_values], gA h_t_words cI 48 c_t_words] → va_S A s.heap H locs → lv_has ls 4 [] → W p l e rmX1_apply s m args below meth c H locs 0 0 Q (F0 m 56 ls [.int q_56, .int q_40, .ref h_t]) := by
        intro H locs ls hP hD hS hl
        obtain ⟨q_56_a, hc, hF⟩ := gb_some hF
        refine gcVv (ci := 1) (As := [.int q_40, .int q_56]) (rest := []) (pre := [gO h_t 1 [.int v_t_size, .ref h_t_words, .ref h_t_values], gA h_t_words cI 48 c_t_words, gA h_t_values cI 48 c_t_values]) (post := [gO h_t 1 [.int q_56_a.1, .ref h_t_words, .ref h_t_values], gA h_t_words cI 48 q_56_a.2.1, gA h_t_values cI 48 q_56_a.2.2]) (wr := []) ⟨hx, hb, hml, hown, hts⟩ (kX1_remove l D cI cZ cD cG h_t v_t_size h_t_words h_t_values c_t_words c_t_values q_40 q_56 q_56_a hc) (cwV 2 hts gX1_apply_X1_remove rfl rfl rfl (by decide +kernel) ⟨Nat.le_of_ble_eq_true rfl, Nat.le_of_ble_eq_true rfl⟩) hK hP hD hS hA [1, 2, 0] [] rfl rfl (by decide) (by decide) (by decide) 0 rfl rfl rfl hl.1 rfl (Nat.le_of_ble_eq_true rfl) dX1_apply_56 ⟨Nat.zero_le _, Nat.zero_le _⟩ (fun H locs hP hD hS => ?_)
        have hP : va_P D vwCl [gO h_t 1 [.int q_56_a.1, .ref h_t_words, .ref h_t_values], gA h_t_words cI 48 q_56_a.2.1, gA h_t_values cI 48 q_56_a.2.2] H := hP
        have hD : va_D A [gO h_t 1 [.int q_56_a.1, .ref h_t_words, .ref h_t_values], gA h_t_words cI 48 q_56_a.2.1, gA h_t_values cI 48 q_56_a.2.2] := hD
        refine lv_goto (tgt := 79) hx hb dX1_apply_59 (by decide) ?_
        obtain rfl := Option.some.inj hF
        exact hQ _ _ _ _ hP hD hS dX1_apply_79
      clear hF
      have hF := hR
      refine lv_if_eq (tgt := 55) hx hb dX1_apply_48 (by decide) (fun cc => ?_) (fun cc => ?_)
      · have hF := gi_pos hF cc
        refine lv_iconst (v := 0) hx hb dX1_apply_55 (by decide) ?_
        obtain rfl := Option.some.inj hF
        exact Jn_56 _ _ _ hP hD hS (lv_sub hl [] rfl)
      · have hF := gi_neg hF cc
        refine lv_iconst (v := 1) hx hb dX1_apply_51 (by decide) ?_
        refine lv_goto (tgt := 56) hx hb dX1_apply_52 (by decide) ?_
        obtain rfl := Option.some.inj hF
        exact Jn_56 _ _ _ hP hD hS (lv_sub hl [] rfl)
    · have hF := gi_neg hF cc1
      by_cases cc2 : x1 = (3 : Int32)
      · have hF := gi_pos hF cc2
        refine lv_tableIn (tgt := 62) hx hb dX1_apply_1 (by rw [cc2]; decide) (by rw [cc2]; decide) (by rw [cc2]; rfl) (by decide) ?_
        refine lv_aload_n hx hb dX1_apply_62 rfl (lv_at hl 0 rfl) ?_
        refine lv_aload_n hx hb dX1_apply_63 rfl (lv_at hl 0 rfl) ?_
        refine lv_iload_n hx hb dX1_apply_64 rfl (lv_at hl 2 rfl) ?_
        obtain ⟨q_65, hc, hF⟩ := gb_some hF
        refine gcVi (ci := 1) (As := [.int x2]) (rest := [.ref h_t]) (pre := [gO h_t 1 [.int v_t_size, .ref h_t_words, .ref h_t_values], gA h_t_words cI 48 c_t_words]) (post := [gO h_t 1 [.int v_t_size, .ref h_t_words, .ref h_t_values], gA h_t_words cI 48 c_t_words]) (wr := [gA h_t_values cI 48 c_t_values]) ⟨hx, hb, hml, hown, hts⟩ (kX1_aheadOf l D cI cZ cD cG h_t v_t_size h_t_words h_t_values c_t_words x2 q_65 hc) (cwV 1 hts gX1_apply_X1_aheadOf rfl rfl rfl (by decide +kernel) ⟨Nat.le_of_ble_eq_true rfl, Nat.le_of_ble_eq_true rfl⟩) hK hP hD hS hA [0, 1] [2] rfl rfl (by decide) (by decide) (by decide) 0 rfl rfl rfl hl.1 rfl (Nat.le_of_ble_eq_true rfl) dX1_apply_65 ⟨Nat.zero_le _, Nat.zero_le _⟩ (fun H locs hP hD hS => ?_)
        have hP : va_P D vwCl [gA h_t_values cI 48 c_t_values, gO h_t 1 [.int v_t_size, .ref h_t_words, .ref h_t_values], gA h_t_words cI 48 c_t_words] H := hP
        have hD : va_D A [gA h_t_values cI 48 c_t_values, gO h_t 1 [.int v_t_size, .ref h_t_words, .ref h_t_values], gA h_t_words cI 48 c_t_words] := hD
        refine lv_aload_n hx hb dX1_apply_68 rfl (lv_at hl 0 rfl) ?_
        refine lv_iload_n hx hb dX1_apply_69 rfl (lv_at hl 2 rfl) ?_
        obtain ⟨q_70, hc, hF⟩ := gb_some hF
        refine gcVi (ci := 1) (As := [.int x2]) (rest := [.int q_65, .ref h_t]) (pre := [gO h_t 1 [.int v_t_size, .ref h_t_words, .ref h_t_values], gA h_t_words cI 48 c_t_words]) (post := [gO h_t 1 [.int v_t_size, .ref h_t_words, .ref h_t_values], gA h_t_words cI 48 c_t_words]) (wr := [gA h_t_values cI 48 c_t_values]) ⟨hx, hb, hml, hown, hts⟩ (kX1_beginningWith l D cI cZ cD cG h_t v_t_size h_t_words h_t_values c_t_words x2 q_70 hc) (cwV 1 hts gX1_apply_X1_beginningWith rfl rfl rfl (by decide +kernel) ⟨Nat.le_of_ble_eq_true rfl, Nat.le_of_ble_eq_true rfl⟩) hK hP hD hS hA [1, 2] [0] rfl rfl (by decide) (by decide) (by decide) 0 rfl rfl rfl hl.1 rfl (Nat.le_of_ble_eq_true rfl) dX1_apply_70 ⟨Nat.zero_le _, Nat.zero_le _⟩ (fun H locs hP hD hS => ?_)
        have hP : va_P D vwCl [gA h_t_values cI 48 c_t_values, gO h_t 1 [.int v_t_size, .ref h_t_words, .ref h_t_values], gA h_t_words cI 48 c_t_words] H := hP
        have hD : va_D A [gA h_t_values cI 48 c_t_values, gO h_t 1 [.int v_t_size, .ref h_t_words, .ref h_t_values], gA h_t_words cI 48 c_t_words] := hD
        obtain ⟨q_73, hc, hF⟩ := gb_some hF
        refine gcVv (ci := 1) (As := [.int q_65, .int q_70]) (rest := []) (pre := [gO h_t 1 [.int v_t_size, .ref h_t_words, .ref h_t_values], gA h_t_words cI 48 c_t_words, gA h_t_values cI 48 c_t_values]) (post := [gO h_t 1 [.int q_73.1, .ref h_t_words, .ref h_t_values], gA h_t_words cI 48 q_73.2.1, gA h_t_values cI 48 q_73.2.2]) (wr := []) ⟨hx, hb, hml, hown, hts⟩ (kX1_remove l D cI cZ cD cG h_t v_t_size h_t_words h_t_values c_t_words c_t_values q_65 q_70 q_73 hc) (cwV 2 hts gX1_apply_X1_remove rfl rfl rfl (by decide +kernel) ⟨Nat.le_of_ble_eq_true rfl, Nat.le_of_ble_eq_true rfl⟩) hK hP hD hS hA [1, 2, 0] [] rfl rfl (by decide) (by decide) (by decide) 0 rfl rfl rfl hl.1 rfl (Nat.le_of_ble_eq_true rfl) dX1_apply_73 ⟨Nat.zero_le _, Nat.zero_le _⟩ (fun H locs hP hD hS => ?_)
        have hP : va_P D vwCl [gO h_t 1 [.int q_73.1, .ref h_t_words, .ref h_t_values], gA h_t_words cI 48 q_73.2.1, gA h_t_values cI 48 q_73.2.2] H := hP
        have hD : va_D A [gO h_t 1 [.int q_73.1, .ref h_t_words, .ref h_t_values], gA h_t_words cI 48 q_73.2.1, gA h_t_values cI 48 q_73.2.2] := hD
        refine lv_goto (tgt := 79) hx hb dX1_apply_76 (by decide) ?_
        obtain rfl := Option.some.inj hF
        exact hQ _ _ _ _ hP hD hS dX1_apply_79
      · have hF := gi_neg hF cc2
        refine lv_tableOut (tgt := 79) hx hb dX1_apply_1 (by have z : ∀ k : Int32, ¬ x1 = k → x1.toInt ≠ k.toInt := fun k hk e => hk (Int32.toInt_inj.mp e); have z0 : x1.toInt ≠ 1 := z 1 cc0; have z1 : x1.toInt ≠ 2 := z 2 cc1; have z2 : x1.toInt ≠ 3 := z 3 cc2; omega) (by decide) ?_
        obtain rfl := Option.some.inj hF
        exact hQ _ _ _ _ hP hD hS dX1_apply_79

abbrev rmX0_replayOn : Room := { frames := 4, cells := 0, slots := 0, locals := 88 }
def fX0_replayOn_L2 (v_t_size : Int32) (c_t_kinds : Nat → Int32) (c_t_words : Nat → Int32) (c_t_values : Nat → Int32) : Nat → Int32 → Int32 → (Nat → Int32) → (Nat → Int32) → Option (Int32 × (Nat → Int32) × (Nat → Int32))
  | 0, _, _, _, _ => none
  | n_2 + 1, x2_2, v_p1_size_2, c_p1_words_2, c_p1_values_2 => (if v_t_size ≤ x2_2 then (some (v_p1_size_2, c_p1_words_2, c_p1_values_2)) else (gx x2_2 40 (gx x2_2 40 (gx x2_2 40 (Option.bind (fX1_apply (c_t_kinds (x2_2).toNatClampNeg) (c_t_words (x2_2).toNatClampNeg) (c_t_values (x2_2).toNatClampNeg) v_p1_size_2 c_p1_words_2 c_p1_values_2) (fun q_29 => (gl (x2_2 + 1) (fun x2_32 => (fX0_replayOn_L2 v_t_size c_t_kinds c_t_words c_t_values n_2 x2_32 q_29.1 q_29.2.1 q_29.2.2)))))))))
def fX0_replayOn (v_t_size : Int32) (c_t_kinds : Nat → Int32) (c_t_words : Nat → Int32) (c_t_values : Nat → Int32) (v_p1_size : Int32) (c_p1_words : Nat → Int32) (c_p1_values : Nat → Int32) : Option (Int32 × (Nat → Int32) × (Nat → Int32)) := (Option.bind (fX0_replayOn_L2 v_t_size c_t_kinds c_t_words c_t_values gF (0 : Int32) v_p1_size c_p1_words c_p1_values) (fun q_2 => (some (q_2.1, q_2.2.1, q_2.2.2))))
set_option maxHeartbeats 4000000 in
set_option maxRecDepth 100000 in
theorem kX0_replayOn (l : Launch) (D : va_G) (cI cZ cD cG : ClassId) (h_t : Nat) (h_p1 : Nat) (v_t_size : Int32) (h_t_kinds : Nat) (h_t_words : Nat) (h_t_values : Nat) (c_t_kinds : Nat → Int32) (c_t_words : Nat → Int32) (c_t_values : Nat → Int32) (v_p1_size : Int32) (h_p1_words : Nat) (h_p1_values : Nat) (c_p1_words : Nat → Int32) (c_p1_values : Nat → Int32) (res : Int32 × (Nat → Int32) × (Nat → Int32)) (hF : fX0_replayOn v_t_size c_t_kinds c_t_words c_t_values v_p1_size c_p1_words c_p1_values = some res) : gMv l D (gty cI cZ cD cG) yX0_replayOn wsX0_replayOn rmX0_replayOn [.ref h_t, .ref h_p1] [gO h_t 0 [.int v_t_size, .ref h_t_kinds, .ref h_t_words, .ref h_t_values], gA h_t_kinds cI 40 c_t_kinds, gA h_t_words cI 40 c_t_words, gA h_t_values cI 40 c_t_values, gO h_p1 1 [.int v_p1_size, .ref h_p1_words, .ref h_p1_values], gA h_p1_words cI 48 c_p1_words, gA h_p1_values cI 48 c_p1_values] [gO h_t 0 [.int v_t_size, .ref h_t_kinds, .ref h_t_words, .ref h_t_values], gA h_t_kinds cI 40 c_t_kinds, gA h_t_words cI 40 c_t_words, gA h_t_values cI 40 c_t_values, gO h_p1 1 [.int res.1, .ref h_p1_words, .ref h_p1_values], gA h_p1_words cI 48 res.2.1, gA h_p1_values cI 48 res.2.2] := by
  refine gMv.of (cc := cX0_replayOn) (maxL := 3) (by decide) rfl (Nat.le_of_ble_eq_true rfl) ?_
  intro p e s m args below meth c A ls Q hx hb hts hown hml hK hA hP hD hS hQ hl
  have hown : s.vm.findClass RX0 = some m.cls := hown
  have hl : lv_has ls 3 [(0, .ref h_t), (1, .ref h_p1)] := hl
  have hw0 := hts (.fieldLink RX0 9 "NibbleTrunk$Deeds" "size" "I") (by decide +kernel)
  have hinX0 : ∀ w ∈ wsX00, w ∈ wsX0_replayOn := by decide +kernel
  have hw2 := hts (.fieldLink RX0 15 "NibbleTrunk$Deeds" "kinds" "[I") (by decide +kernel)
  have hw3 := hts (.fieldLink RX0 19 "NibbleTrunk$Deeds" "words" "[I") (by decide +kernel)
  have hw4 := hts (.fieldLink RX0 22 "NibbleTrunk$Deeds" "values" "[I") (by decide +kernel)
  rw [fX0_replayOn] at hF
  refine lv_iconst (v := 0) hx hb dX0_replayOn_0 (by decide) ?_
  refine lv_istore_n (lv' := [(2, .int (0 : Int32)), (0, .ref h_t), (1, .ref h_p1)]) hx hb dX0_replayOn_1 rfl hl (by decide) rfl (fun ls hl => ?_)
  obtain ⟨q_2, hR, hF⟩ := gb_some hF
  have En_2 : ∀ (H : Heap) (locs : List Loc) (ls : Array Slot), va_P D vwCl [gO h_t 0 [.int v_t_size, .ref h_t_kinds, .ref h_t_words, .ref h_t_values], gA h_t_kinds cI 40 c_t_kinds, gA h_t_words cI 40 c_t_words, gA h_t_values cI 40 c_t_values, gO h_p1 1 [.int q_2.1, .ref h_p1_words, .ref h_p1_values], gA h_p1_words cI 48 q_2.2.1, gA h_p1_values cI 48 q_2.2.2] H → va_D A [gO h_t 0 [.int v_t_size, .ref h_t_kinds, .ref h_t_words, .ref h_t_values], gA h_t_kinds cI 40 c_t_kinds, gA h_t_words cI 40 c_t_words, gA h_t_values cI 40 c_t_values, gO h_p1 1 [.int q_2.1, .ref h_p1_words, .ref h_p1_values], gA h_p1_words cI 48 q_2.2.1, gA h_p1_values cI 48 q_2.2.2] → va_S A s.heap H locs → lv_has ls 3 [] → W p l e rmX0_replayOn s m args below meth c H locs 0 0 Q (F0 m 38 ls []) := by
    intro H locs ls hP hD hS hl
    obtain rfl := Option.some.inj hF
    exact hQ _ _ _ _ hP hD hS dX0_replayOn_38
  clear hF
  have Ln_2 : ∀ (n_2 : Nat) (x2_2 : Int32) (v_p1_size_2 : Int32) (c_p1_words_2 : Nat → Int32) (c_p1_values_2 : Nat → Int32) (H : Heap) (locs : List Loc) (ls : Array Slot), fX0_replayOn_L2 v_t_size c_t_kinds c_t_words c_t_values n_2 x2_2 v_p1_size_2 c_p1_words_2 c_p1_values_2 = some q_2 → va_P D vwCl [gO h_t 0 [.int v_t_size, .ref h_t_kinds, .ref h_t_words, .ref h_t_values], gA h_t_kinds cI 40 c_t_kinds, gA h_t_words cI 40 c_t_words, gA h_t_values cI 40 c_t_values, gO h_p1 1 [.int v_p1_size_2, .ref h_p1_words, .ref h_p1_values], gA h_p1_words cI 48 c_p1_words_2, gA h_p1_values cI 48 c_p1_values_2] H → va_D A [gO h_t 0 [.int v_t_size, .ref h_t_kinds, .ref h_t_words, .ref h_t_values], gA h_t_kinds cI 40 c_t_kinds, gA h_t_words cI 40 c_t_words, gA h_t_values cI 40 c_t_values, gO h_p1 1 [.int v_p1_size_2, .ref h_p1_words, .ref h_p1_values], gA h_p1_words cI 48 c_p1_words_2, gA h_p1_values cI 48 c_p1_values_2] → va_S A s.heap H locs → lv_has ls 3 [(0, .ref h_t), (1, .ref h_p1), (2, .int x2_2)] → W p l e rmX0_replayOn s m args below meth c H locs 0 0 Q (F0 m 2 ls []) := by
    intro n_2
    induction n_2 with
    | zero =>
      intro x2_2 v_p1_size_2 c_p1_words_2 c_p1_values_2 H locs ls hF
      rw [fX0_replayOn_L2] at hF
      cases hF
    | succ n_2 ih2 =>
      intro x2_2 v_p1_size_2 c_p1_words_2 c_p1_values_2 H locs ls hF hP hD hS hl
      rw [fX0_replayOn_L2] at hF
      refine lv_iload_n hx hb dX0_replayOn_2 rfl (lv_at hl 2 rfl) ?_
      refine lv_aload_n hx hb dX0_replayOn_3 rfl (lv_at hl 0 rfl) ?_
      refine va_get (D := D) (ci := 0) (v := .int v_t_size) (C := RX0) (T := TX0) (N := 4) hx hb hts hinX0 hown hK hP 0 rfl rfl 0 (by decide) hw0 (fun _ h9 => h9) rfl dX0_replayOn_4 ?_
      refine lv_icmp_ge (tgt := 38) hx hb dX0_replayOn_7 (by decide) (fun cc => ?_) (fun cc => ?_)
      · have hF := gi_pos hF cc
        obtain rfl := Option.some.inj hF
        exact En_2 _ _ _ hP hD hS (lv_sub hl [] rfl)
      · have hF := gi_neg hF cc
        refine lv_aload_n hx hb dX0_replayOn_10 rfl (lv_at hl 1 rfl) ?_
        refine lv_aload_n hx hb dX0_replayOn_11 rfl (lv_at hl 0 rfl) ?_
        refine va_get (D := D) (ci := 0) (v := .ref h_t_kinds) (C := RX0) (T := TX0) (N := 4) hx hb hts hinX0 hown hK hP 0 rfl rfl 1 (by decide) hw2 (fun _ h9 => h9) rfl dX0_replayOn_12 ?_
        refine lv_iload_n hx hb dX0_replayOn_15 rfl (lv_at hl 2 rfl) ?_
        obtain ⟨hin, hF⟩ := gx_some hF
        refine va_iald hx hb hK hP 1 0 rfl rfl hin dX0_replayOn_16 ?_
        refine lv_aload_n hx hb dX0_replayOn_17 rfl (lv_at hl 0 rfl) ?_
        refine va_get (D := D) (ci := 0) (v := .ref h_t_words) (C := RX0) (T := TX0) (N := 4) hx hb hts hinX0 hown hK hP 0 rfl rfl 2 (by decide) hw3 (fun _ h9 => h9) rfl dX0_replayOn_18 ?_
        refine lv_iload_n hx hb dX0_replayOn_21 rfl (lv_at hl 2 rfl) ?_
        obtain ⟨hin, hF⟩ := gx_some hF
        refine va_iald hx hb hK hP 2 0 rfl rfl hin dX0_replayOn_22 ?_
        refine lv_aload_n hx hb dX0_replayOn_23 rfl (lv_at hl 0 rfl) ?_
        refine va_get (D := D) (ci := 0) (v := .ref h_t_values) (C := RX0) (T := TX0) (N := 4) hx hb hts hinX0 hown hK hP 0 rfl rfl 3 (by decide) hw4 (fun _ h9 => h9) rfl dX0_replayOn_24 ?_
        refine lv_iload_n hx hb dX0_replayOn_27 rfl (lv_at hl 2 rfl) ?_
        obtain ⟨hin, hF⟩ := gx_some hF
        refine va_iald hx hb hK hP 3 0 rfl rfl hin dX0_replayOn_28 ?_
        obtain ⟨q_29, hc, hF⟩ := gb_some hF
        refine gcVv (ci := 1) (As := [.int (c_t_kinds (x2_2).toNatClampNeg), .int (c_t_words (x2_2).toNatClampNeg), .int (c_t_values (x2_2).toNatClampNeg)]) (rest := []) (pre := [gO h_p1 1 [.int v_p1_size_2, .ref h_p1_words, .ref h_p1_values], gA h_p1_words cI 48 c_p1_words_2, gA h_p1_values cI 48 c_p1_values_2]) (post := [gO h_p1 1 [.int q_29.1, .ref h_p1_words, .ref h_p1_values], gA h_p1_words cI 48 q_29.2.1, gA h_p1_values cI 48 q_29.2.2]) (wr := [gO h_t 0 [.int v_t_size, .ref h_t_kinds, .ref h_t_words, .ref h_t_values], gA h_t_kinds cI 40 c_t_kinds, gA h_t_words cI 40 c_t_words, gA h_t_values cI 40 c_t_values]) ⟨hx, hb, hml, hown, hts⟩ (kX1_apply l D cI cZ cD cG h_p1 v_p1_size_2 h_p1_words h_p1_values c_p1_words_2 c_p1_values_2 (c_t_kinds (x2_2).toNatClampNeg) (c_t_words (x2_2).toNatClampNeg) (c_t_values (x2_2).toNatClampNeg) q_29 hc) (cwV 3 hts gX0_replayOn_X1_apply rfl rfl rfl (by decide +kernel) ⟨Nat.le_of_ble_eq_true rfl, Nat.le_of_ble_eq_true rfl⟩) hK hP hD hS hA [4, 5, 6] [0, 1, 2, 3] rfl rfl (by decide) (by decide) (by decide) 0 rfl rfl rfl hl.1 rfl (Nat.le_of_ble_eq_true rfl) dX0_replayOn_29 ⟨Nat.zero_le _, Nat.zero_le _⟩ (fun H locs hP hD hS => ?_)
        have hP : va_P D vwCl [gO h_t 0 [.int v_t_size, .ref h_t_kinds, .ref h_t_words, .ref h_t_values], gA h_t_kinds cI 40 c_t_kinds, gA h_t_words cI 40 c_t_words, gA h_t_values cI 40 c_t_values, gO h_p1 1 [.int q_29.1, .ref h_p1_words, .ref h_p1_values], gA h_p1_words cI 48 q_29.2.1, gA h_p1_values cI 48 q_29.2.2] H := hP
        have hD : va_D A [gO h_t 0 [.int v_t_size, .ref h_t_kinds, .ref h_t_words, .ref h_t_values], gA h_t_kinds cI 40 c_t_kinds, gA h_t_words cI 40 c_t_words, gA h_t_values cI 40 c_t_values, gO h_p1 1 [.int q_29.1, .ref h_p1_words, .ref h_p1_values], gA h_p1_words cI 48 q_29.2.1, gA h_p1_values cI 48 q_29.2.2] := hD
        obtain ⟨x2_32, ex⟩ : ∃ y : Int32, y = (x2_2 + 1) := ⟨_, rfl⟩
        have hF := gl_some hF ex
        refine lv_iinc (v := x2_32) (lv' := [(2, .int x2_32), (0, .ref h_t), (1, .ref h_p1)]) hx hb dX0_replayOn_32 hl (k := 2) rfl (by rw [ex]; rfl) (by decide) rfl (fun ls hl => ?_)
        refine lv_goto (tgt := 2) hx hb dX0_replayOn_35 (by decide) ?_
        exact ih2 x2_32 q_29.1 q_29.2.1 q_29.2.2 _ _ _ hF hP hD hS (lv_sub hl [1, 2, 0] rfl)
  exact Ln_2 gF (0 : Int32) v_p1_size c_p1_words c_p1_values _ _ _ hR hP hD hS (lv_sub hl [1, 2, 0] rfl)

abbrev rmX1_empty : Room := { frames := 0, cells := 0, slots := 0, locals := 0 }
def fX1_empty : Option (Int32) := (some (0 : Int32))
set_option maxHeartbeats 4000000 in
set_option maxRecDepth 100000 in
theorem kX1_empty (l : Launch) (D : va_G) (cI cZ cD cG : ClassId) (h_t : Nat) (v_t_size : Int32) (h_t_words : Nat) (h_t_values : Nat) (res : Int32) (hF : fX1_empty = some res) : gMv l D (gty cI cZ cD cG) yX1_empty wsX1_empty rmX1_empty [.ref h_t] [gO h_t 1 [.int v_t_size, .ref h_t_words, .ref h_t_values]] [gO h_t 1 [.int res, .ref h_t_words, .ref h_t_values]] := by
  refine gMv.of (cc := cX1_empty) (maxL := 1) (by decide) rfl (Nat.le_of_ble_eq_true rfl) ?_
  intro p e s m args below meth c A ls Q hx hb hts hown hml hK hA hP hD hS hQ hl
  have hown : s.vm.findClass RX1 = some m.cls := hown
  have hl : lv_has ls 1 [(0, .ref h_t)] := hl
  have hw0 := hts (.fieldLink RX1 9 "NibbleTrunk$Keys" "size" "I") (by decide +kernel)
  have hinX1 : ∀ w ∈ wsX10, w ∈ wsX1_empty := by decide +kernel
  rw [fX1_empty] at hF
  refine lv_aload_n hx hb dX1_empty_0 rfl (lv_at hl 0 rfl) ?_
  refine lv_iconst (v := 0) hx hb dX1_empty_1 (by decide) ?_
  refine va_put (D := D) (ci := 1) (v := .int (0 : Int32)) (ty := .int) (C := RX1) (T := TX1) (N := 3) hx hb hts hinX1 tyX1 tyX1_ok nmX1 hown hK hP hD hS 0 rfl rfl 0 (by decide) hw0 (fun _ h9 => h9) rfl (by decide +kernel) rfl rfl (Nat.le_of_ble_eq_true rfl) dX1_empty_2 (fun H locs hP hD hS => ?_)
  have hP : va_P D vwCl [gO h_t 1 [.int (0 : Int32), .ref h_t_words, .ref h_t_values]] H := hP
  have hD : va_D A [gO h_t 1 [.int (0 : Int32), .ref h_t_words, .ref h_t_values]] := hD
  obtain rfl := Option.some.inj hF
  exact hQ _ _ _ _ hP hD hS dX1_empty_5

abbrev rmX1_become : Room := { frames := 1, cells := 0, slots := 0, locals := 40 }
def fX1_become (v_p1_size : Int32) (c_p1_words : Nat → Int32) (c_t_words : Nat → Int32) (c_p1_values : Nat → Int32) (c_t_values : Nat → Int32) : Option (Int32 × (Nat → Int32) × (Nat → Int32)) := (gcp (0 : Int32) (0 : Int32) (48 : Int32) 48 48 (gcp (0 : Int32) (0 : Int32) (48 : Int32) 48 48 (some (v_p1_size, (va_cpy c_p1_words c_t_words ((0 : Int32)).toNatClampNeg ((0 : Int32)).toNatClampNeg ((48 : Int32)).toNatClampNeg), (va_cpy c_p1_values c_t_values ((0 : Int32)).toNatClampNeg ((0 : Int32)).toNatClampNeg ((48 : Int32)).toNatClampNeg)))))
set_option maxHeartbeats 4000000 in
set_option maxRecDepth 100000 in
theorem kX1_become (l : Launch) (D : va_G) (cI cZ cD cG : ClassId) (h_t : Nat) (h_p1 : Nat) (v_p1_size : Int32) (h_p1_words : Nat) (h_p1_values : Nat) (v_t_size : Int32) (h_t_words : Nat) (h_t_values : Nat) (c_p1_words : Nat → Int32) (c_t_words : Nat → Int32) (c_p1_values : Nat → Int32) (c_t_values : Nat → Int32) (res : Int32 × (Nat → Int32) × (Nat → Int32)) (hF : fX1_become v_p1_size c_p1_words c_t_words c_p1_values c_t_values = some res) : gMv l D (gty cI cZ cD cG) yX1_become wsX1_become rmX1_become [.ref h_t, .ref h_p1] [gO h_p1 1 [.int v_p1_size, .ref h_p1_words, .ref h_p1_values], gO h_t 1 [.int v_t_size, .ref h_t_words, .ref h_t_values], gA h_p1_words cI 48 c_p1_words, gA h_t_words cI 48 c_t_words, gA h_p1_values cI 48 c_p1_values, gA h_t_values cI 48 c_t_values] [gO h_p1 1 [.int v_p1_size, .ref h_p1_words, .ref h_p1_values], gO h_t 1 [.int res.1, .ref h_t_words, .ref h_t_values], gA h_p1_words cI 48 c_p1_words, gA h_t_words cI 48 res.2.1, gA h_p1_values cI 48 c_p1_values, gA h_t_values cI 48 res.2.2] := by
  refine gMv.of (cc := cX1_become) (maxL := 2) (by decide) rfl (Nat.le_of_ble_eq_true rfl) ?_
  intro p e s m args below meth c A ls Q hx hb hts hown hml hK hA hP hD hS hQ hl
  have hown : s.vm.findClass RX1 = some m.cls := hown
  have hl : lv_has ls 2 [(0, .ref h_t), (1, .ref h_p1)] := hl
  have hw0 := hts (.fieldLink RX1 15 "NibbleTrunk$Keys" "words" "[I") (by decide +kernel)
  have hinX1 : ∀ w ∈ wsX10, w ∈ wsX1_become := by decide +kernel
  have hw2 := hts (.methodLink RX1 22 arraycopyName) (by decide +kernel)
  have hw3 := hts (.native arraycopyName) (by decide +kernel)
  have hw4 := hts (.static arraycopyName) (by decide +kernel)
  have hw5 := hts (.initialized "java/lang/System") (by decide +kernel)
  have hw6 := hts (.fieldLink RX1 19 "NibbleTrunk$Keys" "values" "[I") (by decide +kernel)
  have hw7 := hts (.fieldLink RX1 9 "NibbleTrunk$Keys" "size" "I") (by decide +kernel)
  rw [fX1_become] at hF
  refine lv_aload_n hx hb dX1_become_0 rfl (lv_at hl 1 rfl) ?_
  refine va_get (D := D) (ci := 1) (v := .ref h_p1_words) (C := RX1) (T := TX1) (N := 3) hx hb hts hinX1 hown hK hP 0 rfl rfl 1 (by decide) hw0 (fun _ h9 => h9) rfl dX1_become_1 ?_
  refine lv_iconst (v := 0) hx hb dX1_become_4 (by decide) ?_
  refine lv_aload_n hx hb dX1_become_5 rfl (lv_at hl 0 rfl) ?_
  refine va_get (D := D) (ci := 1) (v := .ref h_t_words) (C := RX1) (T := TX1) (N := 3) hx hb hts hinX1 hown hK hP 1 rfl rfl 1 (by decide) hw0 (fun _ h9 => h9) rfl dX1_become_6 ?_
  refine lv_iconst (v := 0) hx hb dX1_become_9 (by decide) ?_
  refine lv_bipush (v := 48) hx hb dX1_become_10 (by decide) ?_
  obtain ⟨h1, h2, h3, h4, h5, hF⟩ := gcp_some hF
  refine va_copyi hx hb (hml.trans hl.1.symm) hown hw2 hw3 hw4 hw5 hK hP hD hS 2 3 0 0 rfl rfl rfl rfl rfl h1 h2 h3 h4 h5 (fun _ _ => rfl) (Nat.le_of_ble_eq_true rfl) (Nat.le_of_ble_eq_true rfl) dX1_become_12 (fun H locs hP hD hS => ?_)
  have hP : va_P D vwCl [gO h_p1 1 [.int v_p1_size, .ref h_p1_words, .ref h_p1_values], gO h_t 1 [.int v_t_size, .ref h_t_words, .ref h_t_values], gA h_p1_words cI 48 c_p1_words, gA h_t_words cI 48 (va_cpy c_p1_words c_t_words ((0 : Int32)).toNatClampNeg ((0 : Int32)).toNatClampNeg ((48 : Int32)).toNatClampNeg), gA h_p1_values cI 48 c_p1_values, gA h_t_values cI 48 c_t_values] H := hP
  have hD : va_D A [gO h_p1 1 [.int v_p1_size, .ref h_p1_words, .ref h_p1_values], gO h_t 1 [.int v_t_size, .ref h_t_words, .ref h_t_values], gA h_p1_words cI 48 c_p1_words, gA h_t_words cI 48 (va_cpy c_p1_words c_t_words ((0 : Int32)).toNatClampNeg ((0 : Int32)).toNatClampNeg ((48 : Int32)).toNatClampNeg), gA h_p1_values cI 48 c_p1_values, gA h_t_values cI 48 c_t_values] := hD
  refine lv_aload_n hx hb dX1_become_15 rfl (lv_at hl 1 rfl) ?_
  refine va_get (D := D) (ci := 1) (v := .ref h_p1_values) (C := RX1) (T := TX1) (N := 3) hx hb hts hinX1 hown hK hP 0 rfl rfl 2 (by decide) hw6 (fun _ h9 => h9) rfl dX1_become_16 ?_
  refine lv_iconst (v := 0) hx hb dX1_become_19 (by decide) ?_
  refine lv_aload_n hx hb dX1_become_20 rfl (lv_at hl 0 rfl) ?_
  refine va_get (D := D) (ci := 1) (v := .ref h_t_values) (C := RX1) (T := TX1) (N := 3) hx hb hts hinX1 hown hK hP 1 rfl rfl 2 (by decide) hw6 (fun _ h9 => h9) rfl dX1_become_21 ?_
  refine lv_iconst (v := 0) hx hb dX1_become_24 (by decide) ?_
  refine lv_bipush (v := 48) hx hb dX1_become_25 (by decide) ?_
  obtain ⟨h1, h2, h3, h4, h5, hF⟩ := gcp_some hF
  refine va_copyi hx hb (hml.trans hl.1.symm) hown hw2 hw3 hw4 hw5 hK hP hD hS 4 5 0 0 rfl rfl rfl rfl rfl h1 h2 h3 h4 h5 (fun _ _ => rfl) (Nat.le_of_ble_eq_true rfl) (Nat.le_of_ble_eq_true rfl) dX1_become_27 (fun H locs hP hD hS => ?_)
  have hP : va_P D vwCl [gO h_p1 1 [.int v_p1_size, .ref h_p1_words, .ref h_p1_values], gO h_t 1 [.int v_t_size, .ref h_t_words, .ref h_t_values], gA h_p1_words cI 48 c_p1_words, gA h_t_words cI 48 (va_cpy c_p1_words c_t_words ((0 : Int32)).toNatClampNeg ((0 : Int32)).toNatClampNeg ((48 : Int32)).toNatClampNeg), gA h_p1_values cI 48 c_p1_values, gA h_t_values cI 48 (va_cpy c_p1_values c_t_values ((0 : Int32)).toNatClampNeg ((0 : Int32)).toNatClampNeg ((48 : Int32)).toNatClampNeg)] H := hP
  have hD : va_D A [gO h_p1 1 [.int v_p1_size, .ref h_p1_words, .ref h_p1_values], gO h_t 1 [.int v_t_size, .ref h_t_words, .ref h_t_values], gA h_p1_words cI 48 c_p1_words, gA h_t_words cI 48 (va_cpy c_p1_words c_t_words ((0 : Int32)).toNatClampNeg ((0 : Int32)).toNatClampNeg ((48 : Int32)).toNatClampNeg), gA h_p1_values cI 48 c_p1_values, gA h_t_values cI 48 (va_cpy c_p1_values c_t_values ((0 : Int32)).toNatClampNeg ((0 : Int32)).toNatClampNeg ((48 : Int32)).toNatClampNeg)] := hD
  refine lv_aload_n hx hb dX1_become_30 rfl (lv_at hl 0 rfl) ?_
  refine lv_aload_n hx hb dX1_become_31 rfl (lv_at hl 1 rfl) ?_
  refine va_get (D := D) (ci := 1) (v := .int v_p1_size) (C := RX1) (T := TX1) (N := 3) hx hb hts hinX1 hown hK hP 0 rfl rfl 0 (by decide) hw7 (fun _ h9 => h9) rfl dX1_become_32 ?_
  refine va_put (D := D) (ci := 1) (v := .int v_p1_size) (ty := .int) (C := RX1) (T := TX1) (N := 3) hx hb hts hinX1 tyX1 tyX1_ok nmX1 hown hK hP hD hS 1 rfl rfl 0 (by decide) hw7 (fun _ h9 => h9) rfl (by decide +kernel) rfl rfl (Nat.le_of_ble_eq_true rfl) dX1_become_35 (fun H locs hP hD hS => ?_)
  have hP : va_P D vwCl [gO h_p1 1 [.int v_p1_size, .ref h_p1_words, .ref h_p1_values], gO h_t 1 [.int v_p1_size, .ref h_t_words, .ref h_t_values], gA h_p1_words cI 48 c_p1_words, gA h_t_words cI 48 (va_cpy c_p1_words c_t_words ((0 : Int32)).toNatClampNeg ((0 : Int32)).toNatClampNeg ((48 : Int32)).toNatClampNeg), gA h_p1_values cI 48 c_p1_values, gA h_t_values cI 48 (va_cpy c_p1_values c_t_values ((0 : Int32)).toNatClampNeg ((0 : Int32)).toNatClampNeg ((48 : Int32)).toNatClampNeg)] H := hP
  have hD : va_D A [gO h_p1 1 [.int v_p1_size, .ref h_p1_words, .ref h_p1_values], gO h_t 1 [.int v_p1_size, .ref h_t_words, .ref h_t_values], gA h_p1_words cI 48 c_p1_words, gA h_t_words cI 48 (va_cpy c_p1_words c_t_words ((0 : Int32)).toNatClampNeg ((0 : Int32)).toNatClampNeg ((48 : Int32)).toNatClampNeg), gA h_p1_values cI 48 c_p1_values, gA h_t_values cI 48 (va_cpy c_p1_values c_t_values ((0 : Int32)).toNatClampNeg ((0 : Int32)).toNatClampNeg ((48 : Int32)).toNatClampNeg)] := hD
  obtain rfl := Option.some.inj hF
  exact hQ _ _ _ _ hP hD hS dX1_become_38

abbrev rmX1_word : Room := { frames := 0, cells := 0, slots := 0, locals := 0 }
def fX1_word (x1 : Int32) (v_t_size : Int32) (c_t_words : Nat → Int32) : Option (Int32) := (if x1 < 0 then (some (0 : Int32)) else (if v_t_size ≤ x1 then (some (0 : Int32)) else (gx x1 48 (some (c_t_words (x1).toNatClampNeg)))))
set_option maxHeartbeats 4000000 in
set_option maxRecDepth 100000 in
theorem kX1_word (l : Launch) (D : va_G) (cI cZ cD cG : ClassId) (h_t : Nat) (v_t_size : Int32) (h_t_words : Nat) (h_t_values : Nat) (c_t_words : Nat → Int32) (x1 : Int32) (res : Int32) (hF : fX1_word x1 v_t_size c_t_words = some res) : gMi l D (gty cI cZ cD cG) yX1_word wsX1_word rmX1_word [.ref h_t, .int x1] [gO h_t 1 [.int v_t_size, .ref h_t_words, .ref h_t_values], gA h_t_words cI 48 c_t_words] res [gO h_t 1 [.int v_t_size, .ref h_t_words, .ref h_t_values], gA h_t_words cI 48 c_t_words] := by
  refine gMi.of (cc := cX1_word) (maxL := 2) (by decide) rfl (Nat.le_of_ble_eq_true rfl) ?_
  intro p e s m args below meth c A ls Q hx hb hts hown hml hK hA hP hD hS hQ hl
  have hown : s.vm.findClass RX1 = some m.cls := hown
  have hl : lv_has ls 2 [(0, .ref h_t), (1, .int x1)] := hl
  have hw0 := hts (.fieldLink RX1 9 "NibbleTrunk$Keys" "size" "I") (by decide +kernel)
  have hinX1 : ∀ w ∈ wsX10, w ∈ wsX1_word := by decide +kernel
  have hw2 := hts (.fieldLink RX1 15 "NibbleTrunk$Keys" "words" "[I") (by decide +kernel)
  rw [fX1_word] at hF
  refine lv_iload_n hx hb dX1_word_0 rfl (lv_at hl 1 rfl) ?_
  refine lv_if_lt (tgt := 21) hx hb dX1_word_1 (by decide) (fun cc => ?_) (fun cc => ?_)
  · have hF := gi_pos hF cc
    refine lv_iconst (v := 0) hx hb dX1_word_21 (by decide) ?_
    obtain rfl := Option.some.inj hF
    exact hQ _ _ _ _ _ hP hD hS rfl dX1_word_22
  · have hF := gi_neg hF cc
    refine lv_iload_n hx hb dX1_word_4 rfl (lv_at hl 1 rfl) ?_
    refine lv_aload_n hx hb dX1_word_5 rfl (lv_at hl 0 rfl) ?_
    refine va_get (D := D) (ci := 1) (v := .int v_t_size) (C := RX1) (T := TX1) (N := 3) hx hb hts hinX1 hown hK hP 0 rfl rfl 0 (by decide) hw0 (fun _ h9 => h9) rfl dX1_word_6 ?_
    refine lv_icmp_ge (tgt := 21) hx hb dX1_word_9 (by decide) (fun cc => ?_) (fun cc => ?_)
    · have hF := gi_pos hF cc
      refine lv_iconst (v := 0) hx hb dX1_word_21 (by decide) ?_
      obtain rfl := Option.some.inj hF
      exact hQ _ _ _ _ _ hP hD hS rfl dX1_word_22
    · have hF := gi_neg hF cc
      refine lv_aload_n hx hb dX1_word_12 rfl (lv_at hl 0 rfl) ?_
      refine va_get (D := D) (ci := 1) (v := .ref h_t_words) (C := RX1) (T := TX1) (N := 3) hx hb hts hinX1 hown hK hP 0 rfl rfl 1 (by decide) hw2 (fun _ h9 => h9) rfl dX1_word_13 ?_
      refine lv_iload_n hx hb dX1_word_16 rfl (lv_at hl 1 rfl) ?_
      obtain ⟨hin, hF⟩ := gx_some hF
      refine va_iald hx hb hK hP 1 0 rfl rfl hin dX1_word_17 ?_
      refine lv_goto (tgt := 22) hx hb dX1_word_18 (by decide) ?_
      obtain rfl := Option.some.inj hF
      exact hQ _ _ _ _ _ hP hD hS rfl dX1_word_22

abbrev rmX1_value : Room := { frames := 0, cells := 0, slots := 0, locals := 0 }
def fX1_value (x1 : Int32) (v_t_size : Int32) (c_t_values : Nat → Int32) : Option (Int32) := (if x1 < 0 then (some (-9 : Int32)) else (if v_t_size ≤ x1 then (some (-9 : Int32)) else (gx x1 48 (some (c_t_values (x1).toNatClampNeg)))))
set_option maxHeartbeats 4000000 in
set_option maxRecDepth 100000 in
theorem kX1_value (l : Launch) (D : va_G) (cI cZ cD cG : ClassId) (h_t : Nat) (v_t_size : Int32) (h_t_words : Nat) (h_t_values : Nat) (c_t_values : Nat → Int32) (x1 : Int32) (res : Int32) (hF : fX1_value x1 v_t_size c_t_values = some res) : gMi l D (gty cI cZ cD cG) yX1_value wsX1_value rmX1_value [.ref h_t, .int x1] [gO h_t 1 [.int v_t_size, .ref h_t_words, .ref h_t_values], gA h_t_values cI 48 c_t_values] res [gO h_t 1 [.int v_t_size, .ref h_t_words, .ref h_t_values], gA h_t_values cI 48 c_t_values] := by
  refine gMi.of (cc := cX1_value) (maxL := 2) (by decide) rfl (Nat.le_of_ble_eq_true rfl) ?_
  intro p e s m args below meth c A ls Q hx hb hts hown hml hK hA hP hD hS hQ hl
  have hown : s.vm.findClass RX1 = some m.cls := hown
  have hl : lv_has ls 2 [(0, .ref h_t), (1, .int x1)] := hl
  have hw0 := hts (.fieldLink RX1 9 "NibbleTrunk$Keys" "size" "I") (by decide +kernel)
  have hinX1 : ∀ w ∈ wsX10, w ∈ wsX1_value := by decide +kernel
  have hw2 := hts (.fieldLink RX1 19 "NibbleTrunk$Keys" "values" "[I") (by decide +kernel)
  rw [fX1_value] at hF
  refine lv_iload_n hx hb dX1_value_0 rfl (lv_at hl 1 rfl) ?_
  refine lv_if_lt (tgt := 21) hx hb dX1_value_1 (by decide) (fun cc => ?_) (fun cc => ?_)
  · have hF := gi_pos hF cc
    refine lv_bipush (v := (-9)) hx hb dX1_value_21 (by decide) ?_
    obtain rfl := Option.some.inj hF
    exact hQ _ _ _ _ _ hP hD hS rfl dX1_value_23
  · have hF := gi_neg hF cc
    refine lv_iload_n hx hb dX1_value_4 rfl (lv_at hl 1 rfl) ?_
    refine lv_aload_n hx hb dX1_value_5 rfl (lv_at hl 0 rfl) ?_
    refine va_get (D := D) (ci := 1) (v := .int v_t_size) (C := RX1) (T := TX1) (N := 3) hx hb hts hinX1 hown hK hP 0 rfl rfl 0 (by decide) hw0 (fun _ h9 => h9) rfl dX1_value_6 ?_
    refine lv_icmp_ge (tgt := 21) hx hb dX1_value_9 (by decide) (fun cc => ?_) (fun cc => ?_)
    · have hF := gi_pos hF cc
      refine lv_bipush (v := (-9)) hx hb dX1_value_21 (by decide) ?_
      obtain rfl := Option.some.inj hF
      exact hQ _ _ _ _ _ hP hD hS rfl dX1_value_23
    · have hF := gi_neg hF cc
      refine lv_aload_n hx hb dX1_value_12 rfl (lv_at hl 0 rfl) ?_
      refine va_get (D := D) (ci := 1) (v := .ref h_t_values) (C := RX1) (T := TX1) (N := 3) hx hb hts hinX1 hown hK hP 0 rfl rfl 2 (by decide) hw2 (fun _ h9 => h9) rfl dX1_value_13 ?_
      refine lv_iload_n hx hb dX1_value_16 rfl (lv_at hl 1 rfl) ?_
      obtain ⟨hin, hF⟩ := gx_some hF
      refine va_iald hx hb hK hP 1 0 rfl rfl hin dX1_value_17 ?_
      refine lv_goto (tgt := 23) hx hb dX1_value_18 (by decide) ?_
      obtain rfl := Option.some.inj hF
      exact hQ _ _ _ _ _ hP hD hS rfl dX1_value_23

abbrev rmX1_valueOf : Room := { frames := 2, cells := 0, slots := 0, locals := 44 }
def fX1_valueOf (x1 : Int32) (v_t_size : Int32) (c_t_words : Nat → Int32) (c_t_values : Nat → Int32) : Option (Int32) := (Option.bind (fX1_has x1 v_t_size c_t_words) (fun q_2 => (if q_2 = 0 then (some (-9 : Int32)) else (Option.bind (fX1_aheadOf x1 v_t_size c_t_words) (fun q_11 => (Option.bind (fX1_value q_11 v_t_size c_t_values) (fun q_14 => (some q_14))))))))
set_option maxHeartbeats 4000000 in
set_option maxRecDepth 100000 in
theorem kX1_valueOf (l : Launch) (D : va_G) (cI cZ cD cG : ClassId) (h_t : Nat) (v_t_size : Int32) (h_t_words : Nat) (h_t_values : Nat) (c_t_words : Nat → Int32) (c_t_values : Nat → Int32) (x1 : Int32) (res : Int32) (hF : fX1_valueOf x1 v_t_size c_t_words c_t_values = some res) : gMi l D (gty cI cZ cD cG) yX1_valueOf wsX1_valueOf rmX1_valueOf [.ref h_t, .int x1] [gO h_t 1 [.int v_t_size, .ref h_t_words, .ref h_t_values], gA h_t_words cI 48 c_t_words, gA h_t_values cI 48 c_t_values] res [gO h_t 1 [.int v_t_size, .ref h_t_words, .ref h_t_values], gA h_t_words cI 48 c_t_words, gA h_t_values cI 48 c_t_values] := by
  refine gMi.of (cc := cX1_valueOf) (maxL := 2) (by decide) rfl (Nat.le_of_ble_eq_true rfl) ?_
  intro p e s m args below meth c A ls Q hx hb hts hown hml hK hA hP hD hS hQ hl
  have hown : s.vm.findClass RX1 = some m.cls := hown
  have hl : lv_has ls 2 [(0, .ref h_t), (1, .int x1)] := hl
  rw [fX1_valueOf] at hF
  refine lv_aload_n hx hb dX1_valueOf_0 rfl (lv_at hl 0 rfl) ?_
  refine lv_iload_n hx hb dX1_valueOf_1 rfl (lv_at hl 1 rfl) ?_
  obtain ⟨q_2, hc, hF⟩ := gb_some hF
  refine gcVz (ci := 1) (As := [.int x1]) (rest := []) (pre := [gO h_t 1 [.int v_t_size, .ref h_t_words, .ref h_t_values], gA h_t_words cI 48 c_t_words]) (post := [gO h_t 1 [.int v_t_size, .ref h_t_words, .ref h_t_values], gA h_t_words cI 48 c_t_words]) (wr := [gA h_t_values cI 48 c_t_values]) ⟨hx, hb, hml, hown, hts⟩ (kX1_has l D cI cZ cD cG h_t v_t_size h_t_words h_t_values c_t_words x1 q_2 hc) (cwV 1 hts gX1_valueOf_X1_has rfl rfl rfl (by decide +kernel) ⟨Nat.le_of_ble_eq_true rfl, Nat.le_of_ble_eq_true rfl⟩) hK hP hD hS hA [0, 1] [2] rfl rfl (by decide) (by decide) (by decide) 0 rfl rfl rfl hl.1 rfl (Nat.le_of_ble_eq_true rfl) dX1_valueOf_2 ⟨Nat.zero_le _, Nat.zero_le _⟩ (fun H locs hnq_2 hP hD hS => ?_)
  have hP : va_P D vwCl [gA h_t_values cI 48 c_t_values, gO h_t 1 [.int v_t_size, .ref h_t_words, .ref h_t_values], gA h_t_words cI 48 c_t_words] H := hP
  have hD : va_D A [gA h_t_values cI 48 c_t_values, gO h_t 1 [.int v_t_size, .ref h_t_words, .ref h_t_values], gA h_t_words cI 48 c_t_words] := hD
  refine lv_if_eq (tgt := 20) hx hb dX1_valueOf_5 (by decide) (fun cc => ?_) (fun cc => ?_)
  · have hF := gi_pos hF cc
    refine lv_bipush (v := (-9)) hx hb dX1_valueOf_20 (by decide) ?_
    obtain rfl := Option.some.inj hF
    exact hQ _ _ _ _ _ (hP.sub [1, 2, 0] rfl) (hD.sub [1, 2, 0] (by decide) rfl) hS rfl dX1_valueOf_22
  · have hF := gi_neg hF cc
    refine lv_aload_n hx hb dX1_valueOf_8 rfl (lv_at hl 0 rfl) ?_
    refine lv_aload_n hx hb dX1_valueOf_9 rfl (lv_at hl 0 rfl) ?_
    refine lv_iload_n hx hb dX1_valueOf_10 rfl (lv_at hl 1 rfl) ?_
    obtain ⟨q_11, hc, hF⟩ := gb_some hF
    refine gcVi (ci := 1) (As := [.int x1]) (rest := [.ref h_t]) (pre := [gO h_t 1 [.int v_t_size, .ref h_t_words, .ref h_t_values], gA h_t_words cI 48 c_t_words]) (post := [gO h_t 1 [.int v_t_size, .ref h_t_words, .ref h_t_values], gA h_t_words cI 48 c_t_words]) (wr := [gA h_t_values cI 48 c_t_values]) ⟨hx, hb, hml, hown, hts⟩ (kX1_aheadOf l D cI cZ cD cG h_t v_t_size h_t_words h_t_values c_t_words x1 q_11 hc) (cwV 1 hts gX1_valueOf_X1_aheadOf rfl rfl rfl (by decide +kernel) ⟨Nat.le_of_ble_eq_true rfl, Nat.le_of_ble_eq_true rfl⟩) hK hP hD hS hA [1, 2] [0] rfl rfl (by decide) (by decide) (by decide) 0 rfl rfl rfl hl.1 rfl (Nat.le_of_ble_eq_true rfl) dX1_valueOf_11 ⟨Nat.zero_le _, Nat.zero_le _⟩ (fun H locs hP hD hS => ?_)
    have hP : va_P D vwCl [gA h_t_values cI 48 c_t_values, gO h_t 1 [.int v_t_size, .ref h_t_words, .ref h_t_values], gA h_t_words cI 48 c_t_words] H := hP
    have hD : va_D A [gA h_t_values cI 48 c_t_values, gO h_t 1 [.int v_t_size, .ref h_t_words, .ref h_t_values], gA h_t_words cI 48 c_t_words] := hD
    obtain ⟨q_14, hc, hF⟩ := gb_some hF
    refine gcVi (ci := 1) (As := [.int q_11]) (rest := []) (pre := [gO h_t 1 [.int v_t_size, .ref h_t_words, .ref h_t_values], gA h_t_values cI 48 c_t_values]) (post := [gO h_t 1 [.int v_t_size, .ref h_t_words, .ref h_t_values], gA h_t_values cI 48 c_t_values]) (wr := [gA h_t_words cI 48 c_t_words]) ⟨hx, hb, hml, hown, hts⟩ (kX1_value l D cI cZ cD cG h_t v_t_size h_t_words h_t_values c_t_values q_11 q_14 hc) (cwV 1 hts gX1_valueOf_X1_value rfl rfl rfl (by decide +kernel) ⟨Nat.le_of_ble_eq_true rfl, Nat.le_of_ble_eq_true rfl⟩) hK hP hD hS hA [1, 0] [2] rfl rfl (by decide) (by decide) (by decide) 0 rfl rfl rfl hl.1 rfl (Nat.le_of_ble_eq_true rfl) dX1_valueOf_14 ⟨Nat.zero_le _, Nat.zero_le _⟩ (fun H locs hP hD hS => ?_)
    have hP : va_P D vwCl [gA h_t_words cI 48 c_t_words, gO h_t 1 [.int v_t_size, .ref h_t_words, .ref h_t_values], gA h_t_values cI 48 c_t_values] H := hP
    have hD : va_D A [gA h_t_words cI 48 c_t_words, gO h_t 1 [.int v_t_size, .ref h_t_words, .ref h_t_values], gA h_t_values cI 48 c_t_values] := hD
    refine lv_goto (tgt := 22) hx hb dX1_valueOf_17 (by decide) ?_
    obtain rfl := Option.some.inj hF
    exact hQ _ _ _ _ _ (hP.sub [1, 0, 2] rfl) (hD.sub [1, 0, 2] (by decide) rfl) hS rfl dX1_valueOf_22

abbrev rmX1_hasRoomFor : Room := { frames := 2, cells := 0, slots := 0, locals := 44 }
def fX1_hasRoomFor (x1 : Int32) (v_t_size : Int32) (c_t_words : Nat → Int32) : Option (Int32) := (if v_t_size < (48 : Int32) then (some (1 : Int32)) else (Option.bind (fX1_has x1 v_t_size c_t_words) (fun q_11 => (if q_11 = 0 then (some (0 : Int32)) else (some (1 : Int32))))))
set_option maxHeartbeats 4000000 in
set_option maxRecDepth 100000 in
theorem kX1_hasRoomFor (l : Launch) (D : va_G) (cI cZ cD cG : ClassId) (h_t : Nat) (v_t_size : Int32) (h_t_words : Nat) (h_t_values : Nat) (c_t_words : Nat → Int32) (x1 : Int32) (res : Int32) (hF : fX1_hasRoomFor x1 v_t_size c_t_words = some res) : gMz l D (gty cI cZ cD cG) yX1_hasRoomFor wsX1_hasRoomFor rmX1_hasRoomFor [.ref h_t, .int x1] [gO h_t 1 [.int v_t_size, .ref h_t_words, .ref h_t_values], gA h_t_words cI 48 c_t_words] res [gO h_t 1 [.int v_t_size, .ref h_t_words, .ref h_t_values], gA h_t_words cI 48 c_t_words] := by
  refine gMz.of (cc := cX1_hasRoomFor) (maxL := 2) (by decide) rfl (Nat.le_of_ble_eq_true rfl) ?_
  intro p e s m args below meth c A ls Q hx hb hts hown hml hK hA hP hD hS hQ hl
  have hown : s.vm.findClass RX1 = some m.cls := hown
  have hl : lv_has ls 2 [(0, .ref h_t), (1, .int x1)] := hl
  have hw0 := hts (.fieldLink RX1 9 "NibbleTrunk$Keys" "size" "I") (by decide +kernel)
  have hinX1 : ∀ w ∈ wsX10, w ∈ wsX1_hasRoomFor := by decide +kernel
  rw [fX1_hasRoomFor] at hF
  refine lv_aload_n hx hb dX1_hasRoomFor_0 rfl (lv_at hl 0 rfl) ?_
  refine va_get (D := D) (ci := 1) (v := .int v_t_size) (C := RX1) (T := TX1) (N := 3) hx hb hts hinX1 hown hK hP 0 rfl rfl 0 (by decide) hw0 (fun _ h9 => h9) rfl dX1_hasRoomFor_1 ?_
  refine lv_bipush (v := 48) hx hb dX1_hasRoomFor_4 (by decide) ?_
  refine lv_icmp_lt (tgt := 17) hx hb dX1_hasRoomFor_6 (by decide) (fun cc => ?_) (fun cc => ?_)
  · have hF := gi_pos hF cc
    refine lv_iconst (v := 1) hx hb dX1_hasRoomFor_17 (by decide) ?_
    refine lv_goto (tgt := 22) hx hb dX1_hasRoomFor_18 (by decide) ?_
    obtain rfl := Option.some.inj hF
    exact hQ _ _ _ _ _ hP hD hS rfl rfl dX1_hasRoomFor_22
  · have hF := gi_neg hF cc
    refine lv_aload_n hx hb dX1_hasRoomFor_9 rfl (lv_at hl 0 rfl) ?_
    refine lv_iload_n hx hb dX1_hasRoomFor_10 rfl (lv_at hl 1 rfl) ?_
    obtain ⟨q_11, hc, hF⟩ := gb_some hF
    refine gcVz (ci := 1) (As := [.int x1]) (rest := []) (pre := [gO h_t 1 [.int v_t_size, .ref h_t_words, .ref h_t_values], gA h_t_words cI 48 c_t_words]) (post := [gO h_t 1 [.int v_t_size, .ref h_t_words, .ref h_t_values], gA h_t_words cI 48 c_t_words]) (wr := []) ⟨hx, hb, hml, hown, hts⟩ (kX1_has l D cI cZ cD cG h_t v_t_size h_t_words h_t_values c_t_words x1 q_11 hc) (cwV 1 hts gX1_hasRoomFor_X1_has rfl rfl rfl (by decide +kernel) ⟨Nat.le_of_ble_eq_true rfl, Nat.le_of_ble_eq_true rfl⟩) hK hP hD hS hA [0, 1] [] rfl rfl (by decide) (by decide) (by decide) 0 rfl rfl rfl hl.1 rfl (Nat.le_of_ble_eq_true rfl) dX1_hasRoomFor_11 ⟨Nat.zero_le _, Nat.zero_le _⟩ (fun H locs hnq_11 hP hD hS => ?_)
    have hP : va_P D vwCl [gO h_t 1 [.int v_t_size, .ref h_t_words, .ref h_t_values], gA h_t_words cI 48 c_t_words] H := hP
    have hD : va_D A [gO h_t 1 [.int v_t_size, .ref h_t_words, .ref h_t_values], gA h_t_words cI 48 c_t_words] := hD
    refine lv_if_eq (tgt := 21) hx hb dX1_hasRoomFor_14 (by decide) (fun cc => ?_) (fun cc => ?_)
    · have hF := gi_pos hF cc
      refine lv_iconst (v := 0) hx hb dX1_hasRoomFor_21 (by decide) ?_
      obtain rfl := Option.some.inj hF
      exact hQ _ _ _ _ _ hP hD hS rfl rfl dX1_hasRoomFor_22
    · have hF := gi_neg hF cc
      refine lv_iconst (v := 1) hx hb dX1_hasRoomFor_17 (by decide) ?_
      refine lv_goto (tgt := 22) hx hb dX1_hasRoomFor_18 (by decide) ?_
      obtain rfl := Option.some.inj hF
      exact hQ _ _ _ _ _ hP hD hS rfl rfl dX1_hasRoomFor_22

abbrev rmX1_valueSum : Room := { frames := 1, cells := 0, slots := 0, locals := 21 }
def fX1_valueSum_L5 (x2 : Int32) (v_t_size : Int32) (c_t_values : Nat → Int32) : Nat → Int32 → Int32 → Option (Int32)
  | 0, _, _ => none
  | n_5 + 1, x3_5, x4_5 => (if x2 ≤ x4_5 then (some x3_5) else (Option.bind (fX1_value x4_5 v_t_size c_t_values) (fun q_15 => (gl (x3_5 + q_15) (fun x3_19 => (gl (x4_5 + 1) (fun x4_20 => (fX1_valueSum_L5 x2 v_t_size c_t_values n_5 x3_19 x4_20))))))))
def fX1_valueSum (x1 : Int32) (x2 : Int32) (v_t_size : Int32) (c_t_values : Nat → Int32) : Option (Int32) := (Option.bind (fX1_valueSum_L5 x2 v_t_size c_t_values gF (0 : Int32) x1) (fun q_5 => (some q_5)))
set_option maxHeartbeats 4000000 in
set_option maxRecDepth 100000 in
theorem kX1_valueSum (l : Launch) (D : va_G) (cI cZ cD cG : ClassId) (h_t : Nat) (v_t_size : Int32) (h_t_words : Nat) (h_t_values : Nat) (c_t_values : Nat → Int32) (x1 : Int32) (x2 : Int32) (res : Int32) (hF : fX1_valueSum x1 x2 v_t_size c_t_values = some res) : gMi l D (gty cI cZ cD cG) yX1_valueSum wsX1_valueSum rmX1_valueSum [.ref h_t, .int x1, .int x2] [gO h_t 1 [.int v_t_size, .ref h_t_words, .ref h_t_values], gA h_t_values cI 48 c_t_values] res [gO h_t 1 [.int v_t_size, .ref h_t_words, .ref h_t_values], gA h_t_values cI 48 c_t_values] := by
  refine gMi.of (cc := cX1_valueSum) (maxL := 5) (by decide) rfl (Nat.le_of_ble_eq_true rfl) ?_
  intro p e s m args below meth c A ls Q hx hb hts hown hml hK hA hP hD hS hQ hl
  have hown : s.vm.findClass RX1 = some m.cls := hown
  have hl : lv_has ls 5 [(0, .ref h_t), (1, .int x1), (2, .int x2)] := hl
  rw [fX1_valueSum] at hF
  refine lv_iconst (v := 0) hx hb dX1_valueSum_0 (by decide) ?_
  refine lv_istore_n (lv' := [(3, .int (0 : Int32)), (0, .ref h_t), (1, .int x1), (2, .int x2)]) hx hb dX1_valueSum_1 rfl hl (by decide) rfl (fun ls hl => ?_)
  refine lv_iload_n hx hb dX1_valueSum_2 rfl (lv_at hl 2 rfl) ?_
  refine lv_istore (lv' := [(4, .int x1), (3, .int (0 : Int32)), (0, .ref h_t), (1, .int x1), (2, .int x2)]) hx hb dX1_valueSum_3 hl (by decide) rfl (fun ls hl => ?_)
  obtain ⟨q_5, hR, hF⟩ := gb_some hF
  have En_5 : ∀ (H : Heap) (locs : List Loc) (ls : Array Slot), va_P D vwCl [gO h_t 1 [.int v_t_size, .ref h_t_words, .ref h_t_values], gA h_t_values cI 48 c_t_values] H → va_D A [gO h_t 1 [.int v_t_size, .ref h_t_words, .ref h_t_values], gA h_t_values cI 48 c_t_values] → va_S A s.heap H locs → lv_has ls 5 [(3, .int q_5)] → W p l e rmX1_valueSum s m args below meth c H locs 0 0 Q (F0 m 26 ls []) := by
    intro H locs ls hP hD hS hl
    refine lv_iload_n hx hb dX1_valueSum_26 rfl (lv_at hl 0 rfl) ?_
    obtain rfl := Option.some.inj hF
    exact hQ _ _ _ _ _ hP hD hS rfl dX1_valueSum_27
  clear hF
  have Ln_5 : ∀ (n_5 : Nat) (x3_5 : Int32) (x4_5 : Int32) (H : Heap) (locs : List Loc) (ls : Array Slot), fX1_valueSum_L5 x2 v_t_size c_t_values n_5 x3_5 x4_5 = some q_5 → va_P D vwCl [gO h_t 1 [.int v_t_size, .ref h_t_words, .ref h_t_values], gA h_t_values cI 48 c_t_values] H → va_D A [gO h_t 1 [.int v_t_size, .ref h_t_words, .ref h_t_values], gA h_t_values cI 48 c_t_values] → va_S A s.heap H locs → lv_has ls 5 [(0, .ref h_t), (2, .int x2), (3, .int x3_5), (4, .int x4_5)] → W p l e rmX1_valueSum s m args below meth c H locs 0 0 Q (F0 m 5 ls []) := by
    intro n_5
    induction n_5 with
    | zero =>
      intro x3_5 x4_5 H locs ls hF
      rw [fX1_valueSum_L5] at hF
      cases hF
    | succ n_5 ih5 =>
      intro x3_5 x4_5 H locs ls hF hP hD hS hl
      rw [fX1_valueSum_L5] at hF
      refine lv_iload hx hb dX1_valueSum_5 (lv_at hl 3 rfl) ?_
      refine lv_iload_n hx hb dX1_valueSum_7 rfl (lv_at hl 1 rfl) ?_
      refine lv_icmp_ge (tgt := 26) hx hb dX1_valueSum_8 (by decide) (fun cc => ?_) (fun cc => ?_)
      · have hF := gi_pos hF cc
        obtain rfl := Option.some.inj hF
        exact En_5 _ _ _ hP hD hS (lv_sub hl [2] rfl)
      · have hF := gi_neg hF cc
        refine lv_iload_n hx hb dX1_valueSum_11 rfl (lv_at hl 2 rfl) ?_
        refine lv_aload_n hx hb dX1_valueSum_12 rfl (lv_at hl 0 rfl) ?_
        refine lv_iload hx hb dX1_valueSum_13 (lv_at hl 3 rfl) ?_
        obtain ⟨q_15, hc, hF⟩ := gb_some hF
        refine gcVi (ci := 1) (As := [.int x4_5]) (rest := [.int x3_5]) (pre := [gO h_t 1 [.int v_t_size, .ref h_t_words, .ref h_t_values], gA h_t_values cI 48 c_t_values]) (post := [gO h_t 1 [.int v_t_size, .ref h_t_words, .ref h_t_values], gA h_t_values cI 48 c_t_values]) (wr := []) ⟨hx, hb, hml, hown, hts⟩ (kX1_value l D cI cZ cD cG h_t v_t_size h_t_words h_t_values c_t_values x4_5 q_15 hc) (cwV 1 hts gX1_valueSum_X1_value rfl rfl rfl (by decide +kernel) ⟨Nat.le_of_ble_eq_true rfl, Nat.le_of_ble_eq_true rfl⟩) hK hP hD hS hA [0, 1] [] rfl rfl (by decide) (by decide) (by decide) 0 rfl rfl rfl hl.1 rfl (Nat.le_of_ble_eq_true rfl) dX1_valueSum_15 ⟨Nat.zero_le _, Nat.zero_le _⟩ (fun H locs hP hD hS => ?_)
        have hP : va_P D vwCl [gO h_t 1 [.int v_t_size, .ref h_t_words, .ref h_t_values], gA h_t_values cI 48 c_t_values] H := hP
        have hD : va_D A [gO h_t 1 [.int v_t_size, .ref h_t_words, .ref h_t_values], gA h_t_values cI 48 c_t_values] := hD
        refine lv_iadd hx hb dX1_valueSum_18 ?_
        refine lv_topi (fun x3_19 ex => ?_)
        have hF := gl_some hF ex
        refine lv_istore_n (lv' := [(3, .int x3_19), (0, .ref h_t), (2, .int x2), (4, .int x4_5)]) hx hb dX1_valueSum_19 rfl hl (by decide) rfl (fun ls hl => ?_)
        obtain ⟨x4_20, ex⟩ : ∃ y : Int32, y = (x4_5 + 1) := ⟨_, rfl⟩
        have hF := gl_some hF ex
        refine lv_iinc (v := x4_20) (lv' := [(4, .int x4_20), (3, .int x3_19), (0, .ref h_t), (2, .int x2)]) hx hb dX1_valueSum_20 hl (k := 3) rfl (by rw [ex]; rfl) (by decide) rfl (fun ls hl => ?_)
        refine lv_goto (tgt := 5) hx hb dX1_valueSum_23 (by decide) ?_
        exact ih5 x3_19 x4_20 _ _ _ hF hP hD hS (lv_sub hl [2, 3, 1, 0] rfl)
  exact Ln_5 gF (0 : Int32) x1 _ _ _ hR hP hD hS (lv_sub hl [2, 4, 1, 0] rfl)

abbrev rmX1_mixInto : Room := { frames := 2, cells := 0, slots := 0, locals := 40 }
def fX1_mixInto_L2 (v_t_size : Int32) (c_t_words : Nat → Int32) (c_t_values : Nat → Int32) : Nat → Int64 → Int32 → Option (Int64)
  | 0, _, _ => none
  | n_2 + 1, x1_2, x3_2 => (if v_t_size ≤ x3_2 then (some x1_2) else (gx x3_2 48 (Option.bind (fX6_figures (c_t_words (x3_2).toNatClampNeg)) (fun q_21 => (gl (((31 : Int64) * x1_2) + (q_21.toInt64)) (fun x1_26 => (gx x3_2 48 (Option.bind (fX6_length (c_t_words (x3_2).toNatClampNeg)) (fun q_38 => (gl (((31 : Int64) * x1_26) + (q_38.toInt64)) (fun x1_43 => (gx x3_2 48 (gl (((31 : Int64) * x1_43) + (((c_t_values (x3_2).toNatClampNeg)).toInt64)) (fun x1_57 => (gl (x3_2 + 1) (fun x3_58 => (fX1_mixInto_L2 v_t_size c_t_words c_t_values n_2 x1_57 x3_58)))))))))))))))))
def fX1_mixInto (x1 : Int64) (v_t_size : Int32) (c_t_words : Nat → Int32) (c_t_values : Nat → Int32) : Option (Int64) := (Option.bind (fX1_mixInto_L2 v_t_size c_t_words c_t_values gF x1 (0 : Int32)) (fun q_2 => (some q_2)))
set_option maxHeartbeats 4000000 in
set_option maxRecDepth 100000 in
theorem kX1_mixInto (l : Launch) (D : va_G) (cI cZ cD cG : ClassId) (h_t : Nat) (v_t_size : Int32) (h_t_words : Nat) (h_t_values : Nat) (c_t_words : Nat → Int32) (c_t_values : Nat → Int32) (x1 : Int64) (res : Int64) (hF : fX1_mixInto x1 v_t_size c_t_words c_t_values = some res) : gMl l D (gty cI cZ cD cG) yX1_mixInto wsX1_mixInto rmX1_mixInto [.ref h_t, .long x1] [gO h_t 1 [.int v_t_size, .ref h_t_words, .ref h_t_values], gA h_t_words cI 48 c_t_words, gA h_t_values cI 48 c_t_values] res [gO h_t 1 [.int v_t_size, .ref h_t_words, .ref h_t_values], gA h_t_words cI 48 c_t_words, gA h_t_values cI 48 c_t_values] := by
  refine gMl.of (cc := cX1_mixInto) (maxL := 4) (by decide) rfl (Nat.le_of_ble_eq_true rfl) ?_
  intro p e s m args below meth c A ls Q hx hb hts hown hml hK hA hP hD hS hQ hl
  have hown : s.vm.findClass RX1 = some m.cls := hown
  have hl : lv_has ls 4 [(0, .ref h_t), (1, .long x1)] := hl
  have hw0 := hts (.fieldLink RX1 9 "NibbleTrunk$Keys" "size" "I") (by decide +kernel)
  have hinX1 : ∀ w ∈ wsX10, w ∈ wsX1_mixInto := by decide +kernel
  have hw2 := hts (.constantLong RX1 55 (31)) (by decide +kernel)
  have hw3 := hts (.fieldLink RX1 15 "NibbleTrunk$Keys" "words" "[I") (by decide +kernel)
  have hw4 := hts (.fieldLink RX1 19 "NibbleTrunk$Keys" "values" "[I") (by decide +kernel)
  rw [fX1_mixInto] at hF
  refine lv_iconst (v := 0) hx hb dX1_mixInto_0 (by decide) ?_
  refine lv_istore_n (lv' := [(3, .int (0 : Int32)), (0, .ref h_t), (1, .long x1)]) hx hb dX1_mixInto_1 rfl hl (by decide) rfl (fun ls hl => ?_)
  obtain ⟨q_2, hR, hF⟩ := gb_some hF
  have En_2 : ∀ (H : Heap) (locs : List Loc) (ls : Array Slot), va_P D vwCl [gO h_t 1 [.int v_t_size, .ref h_t_words, .ref h_t_values], gA h_t_words cI 48 c_t_words, gA h_t_values cI 48 c_t_values] H → va_D A [gO h_t 1 [.int v_t_size, .ref h_t_words, .ref h_t_values], gA h_t_words cI 48 c_t_words, gA h_t_values cI 48 c_t_values] → va_S A s.heap H locs → lv_has ls 4 [(1, .long q_2)] → W p l e rmX1_mixInto s m args below meth c H locs 0 0 Q (F0 m 64 ls []) := by
    intro H locs ls hP hD hS hl
    refine lv_lload_n hx hb dX1_mixInto_64 rfl (lv_at hl 0 rfl) ?_
    obtain rfl := Option.some.inj hF
    exact hQ _ _ _ _ _ hP hD hS rfl dX1_mixInto_65
  clear hF
  have Ln_2 : ∀ (n_2 : Nat) (x1_2 : Int64) (x3_2 : Int32) (H : Heap) (locs : List Loc) (ls : Array Slot), fX1_mixInto_L2 v_t_size c_t_words c_t_values n_2 x1_2 x3_2 = some q_2 → va_P D vwCl [gO h_t 1 [.int v_t_size, .ref h_t_words, .ref h_t_values], gA h_t_words cI 48 c_t_words, gA h_t_values cI 48 c_t_values] H → va_D A [gO h_t 1 [.int v_t_size, .ref h_t_words, .ref h_t_values], gA h_t_words cI 48 c_t_words, gA h_t_values cI 48 c_t_values] → va_S A s.heap H locs → lv_has ls 4 [(0, .ref h_t), (1, .long x1_2), (3, .int x3_2)] → W p l e rmX1_mixInto s m args below meth c H locs 0 0 Q (F0 m 2 ls []) := by
    intro n_2
    induction n_2 with
    | zero =>
      intro x1_2 x3_2 H locs ls hF
      rw [fX1_mixInto_L2] at hF
      cases hF
    | succ n_2 ih2 =>
      intro x1_2 x3_2 H locs ls hF hP hD hS hl
      rw [fX1_mixInto_L2] at hF
      refine lv_iload_n hx hb dX1_mixInto_2 rfl (lv_at hl 2 rfl) ?_
      refine lv_aload_n hx hb dX1_mixInto_3 rfl (lv_at hl 0 rfl) ?_
      refine va_get (D := D) (ci := 1) (v := .int v_t_size) (C := RX1) (T := TX1) (N := 3) hx hb hts hinX1 hown hK hP 0 rfl rfl 0 (by decide) hw0 (fun _ h9 => h9) rfl dX1_mixInto_4 ?_
      refine lv_icmp_ge (tgt := 64) hx hb dX1_mixInto_7 (by decide) (fun cc => ?_) (fun cc => ?_)
      · have hF := gi_pos hF cc
        obtain rfl := Option.some.inj hF
        exact En_2 _ _ _ hP hD hS (lv_sub hl [1] rfl)
      · have hF := gi_neg hF cc
        refine lv_ldc2 (v := (31)) hx hb hown hw2 dX1_mixInto_10 ?_
        refine lv_lload_n hx hb dX1_mixInto_13 rfl (lv_at hl 1 rfl) ?_
        refine lv_lmul hx hb dX1_mixInto_14 ?_
        refine lv_aload_n hx hb dX1_mixInto_15 rfl (lv_at hl 0 rfl) ?_
        refine va_get (D := D) (ci := 1) (v := .ref h_t_words) (C := RX1) (T := TX1) (N := 3) hx hb hts hinX1 hown hK hP 0 rfl rfl 1 (by decide) hw3 (fun _ h9 => h9) rfl dX1_mixInto_16 ?_
        refine lv_iload_n hx hb dX1_mixInto_19 rfl (lv_at hl 2 rfl) ?_
        obtain ⟨hin, hF⟩ := gx_some hF
        refine va_iald hx hb hK hP 1 0 rfl rfl hin dX1_mixInto_20 ?_
        obtain ⟨q_21, hc, hF⟩ := gb_some hF
        refine gcSi (As := [.int (c_t_words (x3_2).toNatClampNeg)]) (rest := [.long ((31 : Int64) * x1_2)]) (pre := []) (post := []) (wr := [gO h_t 1 [.int v_t_size, .ref h_t_words, .ref h_t_values], gA h_t_words cI 48 c_t_words, gA h_t_values cI 48 c_t_values]) ⟨hx, hb, hml, hown, hts⟩ (kX6_figures l D cI cZ cD cG (c_t_words (x3_2).toNatClampNeg) q_21 hc) (va_cwS 1 hts gX1_mixInto_X6_figures rfl rfl rfl (by decide +kernel) ⟨Nat.le_of_ble_eq_true rfl, Nat.le_of_ble_eq_true rfl⟩) hK hP hD hS hA [] [0, 1, 2] rfl rfl (by decide) (by decide) (by decide) rfl hl.1 rfl (Nat.le_of_ble_eq_true rfl) dX1_mixInto_21 ⟨Nat.zero_le _, Nat.zero_le _⟩ (fun H locs hP hD hS => ?_)
        have hP : va_P D vwCl [gO h_t 1 [.int v_t_size, .ref h_t_words, .ref h_t_values], gA h_t_words cI 48 c_t_words, gA h_t_values cI 48 c_t_values] H := hP
        have hD : va_D A [gO h_t 1 [.int v_t_size, .ref h_t_words, .ref h_t_values], gA h_t_words cI 48 c_t_words, gA h_t_values cI 48 c_t_values] := hD
        refine lv_i2l hx hb dX1_mixInto_24 rfl ?_
        refine lv_ladd hx hb dX1_mixInto_25 ?_
        refine lv_topl (fun x1_26 ex => ?_)
        have hF := gl_some hF ex
        refine lv_lstore_n (lv' := [(1, .long x1_26), (0, .ref h_t), (3, .int x3_2)]) hx hb dX1_mixInto_26 rfl hl (by decide) rfl (fun ls hl => ?_)
        refine lv_ldc2 (v := (31)) hx hb hown hw2 dX1_mixInto_27 ?_
        refine lv_lload_n hx hb dX1_mixInto_30 rfl (lv_at hl 0 rfl) ?_
        refine lv_lmul hx hb dX1_mixInto_31 ?_
        refine lv_aload_n hx hb dX1_mixInto_32 rfl (lv_at hl 1 rfl) ?_
        refine va_get (D := D) (ci := 1) (v := .ref h_t_words) (C := RX1) (T := TX1) (N := 3) hx hb hts hinX1 hown hK hP 0 rfl rfl 1 (by decide) hw3 (fun _ h9 => h9) rfl dX1_mixInto_33 ?_
        refine lv_iload_n hx hb dX1_mixInto_36 rfl (lv_at hl 2 rfl) ?_
        obtain ⟨hin, hF⟩ := gx_some hF
        refine va_iald hx hb hK hP 1 0 rfl rfl hin dX1_mixInto_37 ?_
        obtain ⟨q_38, hc, hF⟩ := gb_some hF
        refine gcSi (As := [.int (c_t_words (x3_2).toNatClampNeg)]) (rest := [.long ((31 : Int64) * x1_26)]) (pre := []) (post := []) (wr := [gO h_t 1 [.int v_t_size, .ref h_t_words, .ref h_t_values], gA h_t_words cI 48 c_t_words, gA h_t_values cI 48 c_t_values]) ⟨hx, hb, hml, hown, hts⟩ (kX6_length l D cI cZ cD cG (c_t_words (x3_2).toNatClampNeg) q_38 hc) (va_cwS 1 hts gX1_mixInto_X6_length rfl rfl rfl (by decide +kernel) ⟨Nat.le_of_ble_eq_true rfl, Nat.le_of_ble_eq_true rfl⟩) hK hP hD hS hA [] [0, 1, 2] rfl rfl (by decide) (by decide) (by decide) rfl hl.1 rfl (Nat.le_of_ble_eq_true rfl) dX1_mixInto_38 ⟨Nat.zero_le _, Nat.zero_le _⟩ (fun H locs hP hD hS => ?_)
        have hP : va_P D vwCl [gO h_t 1 [.int v_t_size, .ref h_t_words, .ref h_t_values], gA h_t_words cI 48 c_t_words, gA h_t_values cI 48 c_t_values] H := hP
        have hD : va_D A [gO h_t 1 [.int v_t_size, .ref h_t_words, .ref h_t_values], gA h_t_words cI 48 c_t_words, gA h_t_values cI 48 c_t_values] := hD
        refine lv_i2l hx hb dX1_mixInto_41 rfl ?_
        refine lv_ladd hx hb dX1_mixInto_42 ?_
        refine lv_topl (fun x1_43 ex => ?_)
        have hF := gl_some hF ex
        refine lv_lstore_n (lv' := [(1, .long x1_43), (0, .ref h_t), (3, .int x3_2)]) hx hb dX1_mixInto_43 rfl hl (by decide) rfl (fun ls hl => ?_)
        refine lv_ldc2 (v := (31)) hx hb hown hw2 dX1_mixInto_44 ?_
        refine lv_lload_n hx hb dX1_mixInto_47 rfl (lv_at hl 0 rfl) ?_
        refine lv_lmul hx hb dX1_mixInto_48 ?_
        refine lv_aload_n hx hb dX1_mixInto_49 rfl (lv_at hl 1 rfl) ?_
        refine va_get (D := D) (ci := 1) (v := .ref h_t_values) (C := RX1) (T := TX1) (N := 3) hx hb hts hinX1 hown hK hP 0 rfl rfl 2 (by decide) hw4 (fun _ h9 => h9) rfl dX1_mixInto_50 ?_
        refine lv_iload_n hx hb dX1_mixInto_53 rfl (lv_at hl 2 rfl) ?_
        obtain ⟨hin, hF⟩ := gx_some hF
        refine va_iald hx hb hK hP 2 0 rfl rfl hin dX1_mixInto_54 ?_
        refine lv_i2l hx hb dX1_mixInto_55 rfl ?_
        refine lv_ladd hx hb dX1_mixInto_56 ?_
        refine lv_topl (fun x1_57 ex => ?_)
        have hF := gl_some hF ex
        refine lv_lstore_n (lv' := [(1, .long x1_57), (0, .ref h_t), (3, .int x3_2)]) hx hb dX1_mixInto_57 rfl hl (by decide) rfl (fun ls hl => ?_)
        obtain ⟨x3_58, ex⟩ : ∃ y : Int32, y = (x3_2 + 1) := ⟨_, rfl⟩
        have hF := gl_some hF ex
        refine lv_iinc (v := x3_58) (lv' := [(3, .int x3_58), (1, .long x1_57), (0, .ref h_t)]) hx hb dX1_mixInto_58 hl (k := 2) rfl (by rw [ex]; rfl) (by decide) rfl (fun ls hl => ?_)
        refine lv_goto (tgt := 2) hx hb dX1_mixInto_61 (by decide) ?_
        exact ih2 x1_57 x3_58 _ _ _ hF hP hD hS (lv_sub hl [2, 1, 0] rfl)
  exact Ln_2 gF x1 (0 : Int32) _ _ _ hR hP hD hS (lv_sub hl [1, 2, 0] rfl)

abbrev rmX2_empty : Room := { frames := 0, cells := 0, slots := 0, locals := 0 }
def fX2_empty : Option (Int32) := (some (0 : Int32))
set_option maxHeartbeats 4000000 in
set_option maxRecDepth 100000 in
theorem kX2_empty (l : Launch) (D : va_G) (cI cZ cD cG : ClassId) (h_t : Nat) (v_t_size : Int32) (h_t_words : Nat) (res : Int32) (hF : fX2_empty = some res) : gMv l D (gty cI cZ cD cG) yX2_empty wsX2_empty rmX2_empty [.ref h_t] [gO h_t 2 [.int v_t_size, .ref h_t_words]] [gO h_t 2 [.int res, .ref h_t_words]] := by
  refine gMv.of (cc := cX2_empty) (maxL := 1) (by decide) rfl (Nat.le_of_ble_eq_true rfl) ?_
  intro p e s m args below meth c A ls Q hx hb hts hown hml hK hA hP hD hS hQ hl
  have hown : s.vm.findClass RX2 = some m.cls := hown
  have hl : lv_has ls 1 [(0, .ref h_t)] := hl
  have hw0 := hts (.fieldLink RX2 9 "NibbleTrunk$Lately" "size" "I") (by decide +kernel)
  have hinX2 : ∀ w ∈ wsX20, w ∈ wsX2_empty := by decide +kernel
  rw [fX2_empty] at hF
  refine lv_aload_n hx hb dX2_empty_0 rfl (lv_at hl 0 rfl) ?_
  refine lv_iconst (v := 0) hx hb dX2_empty_1 (by decide) ?_
  refine va_put (D := D) (ci := 2) (v := .int (0 : Int32)) (ty := .int) (C := RX2) (T := TX2) (N := 2) hx hb hts hinX2 tyX2 tyX2_ok nmX2 hown hK hP hD hS 0 rfl rfl 0 (by decide) hw0 (fun _ h9 => h9) rfl (by decide +kernel) rfl rfl (Nat.le_of_ble_eq_true rfl) dX2_empty_2 (fun H locs hP hD hS => ?_)
  have hP : va_P D vwCl [gO h_t 2 [.int (0 : Int32), .ref h_t_words]] H := hP
  have hD : va_D A [gO h_t 2 [.int (0 : Int32), .ref h_t_words]] := hD
  obtain rfl := Option.some.inj hF
  exact hQ _ _ _ _ hP hD hS dX2_empty_5

abbrev rmX2_word : Room := { frames := 0, cells := 0, slots := 0, locals := 0 }
def fX2_word (x1 : Int32) (v_t_size : Int32) (c_t_words : Nat → Int32) : Option (Int32) := (if x1 < 0 then (some (0 : Int32)) else (if v_t_size ≤ x1 then (some (0 : Int32)) else (gx x1 6 (some (c_t_words (x1).toNatClampNeg)))))
set_option maxHeartbeats 4000000 in
set_option maxRecDepth 100000 in
theorem kX2_word (l : Launch) (D : va_G) (cI cZ cD cG : ClassId) (h_t : Nat) (v_t_size : Int32) (h_t_words : Nat) (c_t_words : Nat → Int32) (x1 : Int32) (res : Int32) (hF : fX2_word x1 v_t_size c_t_words = some res) : gMi l D (gty cI cZ cD cG) yX2_word wsX2_word rmX2_word [.ref h_t, .int x1] [gO h_t 2 [.int v_t_size, .ref h_t_words], gA h_t_words cI 6 c_t_words] res [gO h_t 2 [.int v_t_size, .ref h_t_words], gA h_t_words cI 6 c_t_words] := by
  refine gMi.of (cc := cX2_word) (maxL := 2) (by decide) rfl (Nat.le_of_ble_eq_true rfl) ?_
  intro p e s m args below meth c A ls Q hx hb hts hown hml hK hA hP hD hS hQ hl
  have hown : s.vm.findClass RX2 = some m.cls := hown
  have hl : lv_has ls 2 [(0, .ref h_t), (1, .int x1)] := hl
  have hw0 := hts (.fieldLink RX2 9 "NibbleTrunk$Lately" "size" "I") (by decide +kernel)
  have hinX2 : ∀ w ∈ wsX20, w ∈ wsX2_word := by decide +kernel
  have hw2 := hts (.fieldLink RX2 15 "NibbleTrunk$Lately" "words" "[I") (by decide +kernel)
  rw [fX2_word] at hF
  refine lv_iload_n hx hb dX2_word_0 rfl (lv_at hl 1 rfl) ?_
  refine lv_if_lt (tgt := 21) hx hb dX2_word_1 (by decide) (fun cc => ?_) (fun cc => ?_)
  · have hF := gi_pos hF cc
    refine lv_iconst (v := 0) hx hb dX2_word_21 (by decide) ?_
    obtain rfl := Option.some.inj hF
    exact hQ _ _ _ _ _ hP hD hS rfl dX2_word_22
  · have hF := gi_neg hF cc
    refine lv_iload_n hx hb dX2_word_4 rfl (lv_at hl 1 rfl) ?_
    refine lv_aload_n hx hb dX2_word_5 rfl (lv_at hl 0 rfl) ?_
    refine va_get (D := D) (ci := 2) (v := .int v_t_size) (C := RX2) (T := TX2) (N := 2) hx hb hts hinX2 hown hK hP 0 rfl rfl 0 (by decide) hw0 (fun _ h9 => h9) rfl dX2_word_6 ?_
    refine lv_icmp_ge (tgt := 21) hx hb dX2_word_9 (by decide) (fun cc => ?_) (fun cc => ?_)
    · have hF := gi_pos hF cc
      refine lv_iconst (v := 0) hx hb dX2_word_21 (by decide) ?_
      obtain rfl := Option.some.inj hF
      exact hQ _ _ _ _ _ hP hD hS rfl dX2_word_22
    · have hF := gi_neg hF cc
      refine lv_aload_n hx hb dX2_word_12 rfl (lv_at hl 0 rfl) ?_
      refine va_get (D := D) (ci := 2) (v := .ref h_t_words) (C := RX2) (T := TX2) (N := 2) hx hb hts hinX2 hown hK hP 0 rfl rfl 1 (by decide) hw2 (fun _ h9 => h9) rfl dX2_word_13 ?_
      refine lv_iload_n hx hb dX2_word_16 rfl (lv_at hl 1 rfl) ?_
      obtain ⟨hin, hF⟩ := gx_some hF
      refine va_iald hx hb hK hP 1 0 rfl rfl hin dX2_word_17 ?_
      refine lv_goto (tgt := 22) hx hb dX2_word_18 (by decide) ?_
      obtain rfl := Option.some.inj hF
      exact hQ _ _ _ _ _ hP hD hS rfl dX2_word_22

abbrev rmX2_remember : Room := { frames := 1, cells := 0, slots := 0, locals := 21 }
def fX2_remember_L59 : Nat → Int32 → (Nat → Int32) → Option ((Nat → Int32))
  | 0, _, _ => none
  | n_59 + 1, x3_59, c_t_words_59 => (if x3_59 ≤ 0 then (some c_t_words_59) else (gx (x3_59 - (1 : Int32)) 6 (gx x3_59 6 (gl (x3_59 + (-1)) (fun x3_77 => (fX2_remember_L59  n_59 x3_77 (upd c_t_words_59 (x3_59).toNatClampNeg (c_t_words_59 ((x3_59 - (1 : Int32))).toNatClampNeg))))))))
def fX2_remember_L2 (v_t_size : Int32) (c_t_words : Nat → Int32) (x1 : Int32) : Nat → Int32 → Option (Int32)
  | 0, _ => none
  | n_2 + 1, x2_2 => (if v_t_size ≤ x2_2 then (some x2_2) else (gx x2_2 6 (if (c_t_words (x2_2).toNatClampNeg) = x1 then (some x2_2) else (gl (x2_2 + 1) (fun x2_20 => (fX2_remember_L2 v_t_size c_t_words x1 n_2 x2_20))))))
def fX2_remember (x1 : Int32) (v_t_size : Int32) (c_t_words : Nat → Int32) : Option (Int32 × (Nat → Int32)) := (Option.bind (fX2_remember_L2 v_t_size c_t_words x1 gF (0 : Int32)) (fun q_2 => (Option.bind (α := Int32) (if q_2 = v_t_size then (if (6 : Int32) ≤ v_t_size then (some v_t_size) else (gl (v_t_size + (1 : Int32)) (fun f_50 => (some f_50)))) else (some v_t_size)) (fun q_53 => (gl (if (5 : Int32) < q_2 then (5 : Int32) else q_2) (fun x3_58 => (Option.bind (fX2_remember_L59  gF x3_58 c_t_words) (fun q_59 => (gx (0 : Int32) 6 (some (q_53, (upd q_59 ((0 : Int32)).toNatClampNeg x1))))))))))))
set_option maxHeartbeats 4000000 in
set_option maxRecDepth 100000 in
theorem kX2_remember (l : Launch) (D : va_G) (cI cZ cD cG : ClassId) (h_t : Nat) (v_t_size : Int32) (h_t_words : Nat) (c_t_words : Nat → Int32) (x1 : Int32) (res : Int32 × (Nat → Int32)) (hF : fX2_remember x1 v_t_size c_t_words = some res) : gMv l D (gty cI cZ cD cG) yX2_remember wsX2_remember rmX2_remember [.ref h_t, .int x1] [gO h_t 2 [.int v_t_size, .ref h_t_words], gA h_t_words cI 6 c_t_words] [gO h_t 2 [.int res.1, .ref h_t_words], gA h_t_words cI 6 res.2] := by
  refine gMv.of (cc := cX2_remember) (maxL := 4) (by decide) rfl (Nat.le_of_ble_eq_true rfl) ?_
  intro p e s m args below meth c A ls Q hx hb hts hown hml hK hA hP hD hS hQ hl
  have hown : s.vm.findClass RX2 = some m.cls := hown
  have hl : lv_has ls 4 [(0, .ref h_t), (1, .int x1)] := hl
  have hw0 := hts (.fieldLink RX2 9 "NibbleTrunk$Lately" "size" "I") (by decide +kernel)
  have hinX2 : ∀ w ∈ wsX20, w ∈ wsX2_remember := by decide +kernel
  have hw2 := hts (.fieldLink RX2 15 "NibbleTrunk$Lately" "words" "[I") (by decide +kernel)
  have hw3 := hts (.methodLink RX2 19 Lib.Math.min.name) (by decide +kernel)
  have hw4 := hts (.static Lib.Math.min.name) (by decide +kernel)
  have hw5 := hts (.initialized "java/lang/Math") (by decide +kernel)
  have hw6 := hts (.code Lib.Math.min.name Lib.Math.min.code 2 (some .int)) (by decide +kernel)
  rw [fX2_remember] at hF
  refine lv_iconst (v := 0) hx hb dX2_remember_0 (by decide) ?_
  refine lv_istore_n (lv' := [(2, .int (0 : Int32)), (0, .ref h_t), (1, .int x1)]) hx hb dX2_remember_1 rfl hl (by decide) rfl (fun ls hl => ?_)
  obtain ⟨q_2, hR, hF⟩ := gb_some hF
  have En_2 : ∀ (H : Heap) (locs : List Loc) (ls : Array Slot), va_P D vwCl [gO h_t 2 [.int v_t_size, .ref h_t_words], gA h_t_words cI 6 c_t_words] H → va_D A [gO h_t 2 [.int v_t_size, .ref h_t_words], gA h_t_words cI 6 c_t_words] → va_S A s.heap H locs → lv_has ls 4 [(0, .ref h_t), (1, .int x1), (2, .int q_2)] → W p l e rmX2_remember s m args below meth c H locs 0 0 Q (F0 m 26 ls []) := by
    intro H locs ls hP hD hS hl
    refine lv_iload_n hx hb dX2_remember_26 rfl (lv_at hl 2 rfl) ?_
    refine lv_aload_n hx hb dX2_remember_27 rfl (lv_at hl 0 rfl) ?_
    refine va_get (D := D) (ci := 2) (v := .int v_t_size) (C := RX2) (T := TX2) (N := 2) hx hb hts hinX2 hown hK hP 0 rfl rfl 0 (by decide) hw0 (fun _ h9 => h9) rfl dX2_remember_28 ?_
    obtain ⟨q_53, hR, hF⟩ := gb_some hF
    have Jn_53 : ∀ (H : Heap) (locs : List Loc) (ls : Array Slot), va_P D vwCl [gO h_t 2 [.int q_53, .ref h_t_words], gA h_t_words cI 6 c_t_words] H → va_D A [gO h_t 2 [.int q_53, .ref h_t_words], gA h_t_words cI 6 c_t_words] → va_S A s.heap H locs → lv_has ls 4 [(0, .ref h_t), (1, .int x1), (2, .int q_2)] → W p l e rmX2_remember s m args below meth c H locs 0 0 Q (F0 m 53 ls []) := by
      intro H locs ls hP hD hS hl
      refine lv_iload_n hx hb dX2_remember_53 rfl (lv_at hl 2 rfl) ?_
      refine lv_iconst (v := 5) hx hb dX2_remember_54 (by decide) ?_
      refine va_mmin hx hb (hml.trans hl.1.symm) hown hw3 hw4 hw5 hw6 (Nat.le_of_ble_eq_true rfl) (Nat.le_of_ble_eq_true rfl) (Nat.zero_le _) (Nat.zero_le _) dX2_remember_55 ?_
      refine lv_topi (fun x3_58 ex => ?_)
      have hF := gl_some hF ex
      refine lv_istore_n (lv' := [(3, .int x3_58), (0, .ref h_t), (1, .int x1), (2, .int q_2)]) hx hb dX2_remember_58 rfl hl (by decide) rfl (fun ls hl => ?_)
      obtain ⟨q_59, hR, hF⟩ := gb_some hF
      have En_59 : ∀ (H : Heap) (locs : List Loc) (ls : Array Slot), va_P D vwCl [gO h_t 2 [.int q_53, .ref h_t_words], gA h_t_words cI 6 q_59] H → va_D A [gO h_t 2 [.int q_53, .ref h_t_words], gA h_t_words cI 6 q_59] → va_S A s.heap H locs → lv_has ls 4 [(0, .ref h_t), (1, .int x1)] → W p l e rmX2_remember s m args below meth c H locs 0 0 Q (F0 m 83 ls []) := by
        intro H locs ls hP hD hS hl
        refine lv_aload_n hx hb dX2_remember_83 rfl (lv_at hl 0 rfl) ?_
        refine va_get (D := D) (ci := 2) (v := .ref h_t_words) (C := RX2) (T := TX2) (N := 2) hx hb hts hinX2 hown hK hP 0 rfl rfl 1 (by decide) hw2 (fun _ h9 => h9) rfl dX2_remember_84 ?_
        refine lv_iconst (v := 0) hx hb dX2_remember_87 (by decide) ?_
        refine lv_iload_n hx hb dX2_remember_88 rfl (lv_at hl 1 rfl) ?_
        obtain ⟨hin, hF⟩ := gx_some hF
        refine va_iast hx hb hK hP hD hS 1 0 rfl rfl hin dX2_remember_89 (fun H locs hP hD hS => ?_)
        have hP : va_P D vwCl [gO h_t 2 [.int q_53, .ref h_t_words], gA h_t_words cI 6 (upd q_59 ((0 : Int32)).toNatClampNeg x1)] H := hP
        have hD : va_D A [gO h_t 2 [.int q_53, .ref h_t_words], gA h_t_words cI 6 (upd q_59 ((0 : Int32)).toNatClampNeg x1)] := hD
        obtain rfl := Option.some.inj hF
        exact hQ _ _ _ _ hP hD hS dX2_remember_90
      clear hF
      have Ln_59 : ∀ (n_59 : Nat) (x3_59 : Int32) (c_t_words_59 : Nat → Int32) (H : Heap) (locs : List Loc) (ls : Array Slot), fX2_remember_L59 n_59 x3_59 c_t_words_59 = some q_59 → va_P D vwCl [gO h_t 2 [.int q_53, .ref h_t_words], gA h_t_words cI 6 c_t_words_59] H → va_D A [gO h_t 2 [.int q_53, .ref h_t_words], gA h_t_words cI 6 c_t_words_59] → va_S A s.heap H locs → lv_has ls 4 [(0, .ref h_t), (1, .int x1), (3, .int x3_59)] → W p l e rmX2_remember s m args below meth c H locs 0 0 Q (F0 m 59 ls []) := by
        intro n_59
        induction n_59 with
        | zero =>
          intro x3_59 c_t_words_59 H locs ls hF
          rw [fX2_remember_L59] at hF
          cases hF
        | succ n_59 ih59 =>
          intro x3_59 c_t_words_59 H locs ls hF hP hD hS hl
          rw [fX2_remember_L59] at hF
          refine lv_iload_n hx hb dX2_remember_59 rfl (lv_at hl 2 rfl) ?_
          refine lv_if_le (tgt := 83) hx hb dX2_remember_60 (by decide) (fun cc => ?_) (fun cc => ?_)
          · have hF := gi_pos hF cc
            obtain rfl := Option.some.inj hF
            exact En_59 _ _ _ hP hD hS (lv_sub hl [0, 1] rfl)
          · have hF := gi_neg hF cc
            refine lv_aload_n hx hb dX2_remember_63 rfl (lv_at hl 0 rfl) ?_
            refine va_get (D := D) (ci := 2) (v := .ref h_t_words) (C := RX2) (T := TX2) (N := 2) hx hb hts hinX2 hown hK hP 0 rfl rfl 1 (by decide) hw2 (fun _ h9 => h9) rfl dX2_remember_64 ?_
            refine lv_iload_n hx hb dX2_remember_67 rfl (lv_at hl 2 rfl) ?_
            refine lv_aload_n hx hb dX2_remember_68 rfl (lv_at hl 0 rfl) ?_
            refine va_get (D := D) (ci := 2) (v := .ref h_t_words) (C := RX2) (T := TX2) (N := 2) hx hb hts hinX2 hown hK hP 0 rfl rfl 1 (by decide) hw2 (fun _ h9 => h9) rfl dX2_remember_69 ?_
            refine lv_iload_n hx hb dX2_remember_72 rfl (lv_at hl 2 rfl) ?_
            refine lv_iconst (v := 1) hx hb dX2_remember_73 (by decide) ?_
            refine lv_isub hx hb dX2_remember_74 ?_
            obtain ⟨hin, hF⟩ := gx_some hF
            refine va_iald hx hb hK hP 1 0 rfl rfl hin dX2_remember_75 ?_
            obtain ⟨hin, hF⟩ := gx_some hF
            refine va_iast hx hb hK hP hD hS 1 0 rfl rfl hin dX2_remember_76 (fun H locs hP hD hS => ?_)
            have hP : va_P D vwCl [gO h_t 2 [.int q_53, .ref h_t_words], gA h_t_words cI 6 (upd c_t_words_59 (x3_59).toNatClampNeg (c_t_words_59 ((x3_59 - (1 : Int32))).toNatClampNeg))] H := hP
            have hD : va_D A [gO h_t 2 [.int q_53, .ref h_t_words], gA h_t_words cI 6 (upd c_t_words_59 (x3_59).toNatClampNeg (c_t_words_59 ((x3_59 - (1 : Int32))).toNatClampNeg))] := hD
            obtain ⟨x3_77, ex⟩ : ∃ y : Int32, y = (x3_59 + (-1)) := ⟨_, rfl⟩
            have hF := gl_some hF ex
            refine lv_iinc (v := x3_77) (lv' := [(3, .int x3_77), (0, .ref h_t), (1, .int x1)]) hx hb dX2_remember_77 hl (k := 2) rfl (by rw [ex]; rfl) (by decide) rfl (fun ls hl => ?_)
            refine lv_goto (tgt := 59) hx hb dX2_remember_80 (by decide) ?_
            exact ih59 x3_77 (upd c_t_words_59 (x3_59).toNatClampNeg (c_t_words_59 ((x3_59 - (1 : Int32))).toNatClampNeg)) _ _ _ hF hP hD hS (lv_sub hl [1, 2, 0] rfl)
      exact Ln_59 gF x3_58 c_t_words _ _ _ hR hP hD hS (lv_sub hl [1, 2, 0] rfl)
    clear hF
    have hF := hR
    refine lv_icmp_ne (tgt := 53) hx hb dX2_remember_31 (by decide) (fun cc => ?_) (fun cc => ?_)
    · have hF := gi_neg hF cc
      obtain rfl := Option.some.inj hF
      exact Jn_53 _ _ _ hP hD hS (lv_sub hl [0, 1, 2] rfl)
    · have hF := gi_pos hF cc
      refine lv_aload_n hx hb dX2_remember_34 rfl (lv_at hl 0 rfl) ?_
      refine va_get (D := D) (ci := 2) (v := .int v_t_size) (C := RX2) (T := TX2) (N := 2) hx hb hts hinX2 hown hK hP 0 rfl rfl 0 (by decide) hw0 (fun _ h9 => h9) rfl dX2_remember_35 ?_
      refine lv_bipush (v := 6) hx hb dX2_remember_38 (by decide) ?_
      refine lv_icmp_ge (tgt := 53) hx hb dX2_remember_40 (by decide) (fun cc => ?_) (fun cc => ?_)
      · have hF := gi_pos hF cc
        obtain rfl := Option.some.inj hF
        exact Jn_53 _ _ _ hP hD hS (lv_sub hl [0, 1, 2] rfl)
      · have hF := gi_neg hF cc
        refine lv_aload_n hx hb dX2_remember_43 rfl (lv_at hl 0 rfl) ?_
        refine lv_dup hx hb dX2_remember_44 rfl ?_
        refine va_get (D := D) (ci := 2) (v := .int v_t_size) (C := RX2) (T := TX2) (N := 2) hx hb hts hinX2 hown hK hP 0 rfl rfl 0 (by decide) hw0 (fun _ h9 => h9) rfl dX2_remember_45 ?_
        refine lv_iconst (v := 1) hx hb dX2_remember_48 (by decide) ?_
        refine lv_iadd hx hb dX2_remember_49 ?_
        refine lv_topi (fun f_50 ex => ?_)
        have hF := gl_some hF ex
        refine va_put (D := D) (ci := 2) (v := .int f_50) (ty := .int) (C := RX2) (T := TX2) (N := 2) hx hb hts hinX2 tyX2 tyX2_ok nmX2 hown hK hP hD hS 0 rfl rfl 0 (by decide) hw0 (fun _ h9 => h9) rfl (by decide +kernel) rfl rfl (Nat.le_of_ble_eq_true rfl) dX2_remember_50 (fun H locs hP hD hS => ?_)
        have hP : va_P D vwCl [gO h_t 2 [.int f_50, .ref h_t_words], gA h_t_words cI 6 c_t_words] H := hP
        have hD : va_D A [gO h_t 2 [.int f_50, .ref h_t_words], gA h_t_words cI 6 c_t_words] := hD
        obtain rfl := Option.some.inj hF
        exact Jn_53 _ _ _ hP hD hS (lv_sub hl [0, 1, 2] rfl)
  clear hF
  have Ln_2 : ∀ (n_2 : Nat) (x2_2 : Int32) (H : Heap) (locs : List Loc) (ls : Array Slot), fX2_remember_L2 v_t_size c_t_words x1 n_2 x2_2 = some q_2 → va_P D vwCl [gO h_t 2 [.int v_t_size, .ref h_t_words], gA h_t_words cI 6 c_t_words] H → va_D A [gO h_t 2 [.int v_t_size, .ref h_t_words], gA h_t_words cI 6 c_t_words] → va_S A s.heap H locs → lv_has ls 4 [(0, .ref h_t), (1, .int x1), (2, .int x2_2)] → W p l e rmX2_remember s m args below meth c H locs 0 0 Q (F0 m 2 ls []) := by
    intro n_2
    induction n_2 with
    | zero =>
      intro x2_2 H locs ls hF
      rw [fX2_remember_L2] at hF
      cases hF
    | succ n_2 ih2 =>
      intro x2_2 H locs ls hF hP hD hS hl
      rw [fX2_remember_L2] at hF
      refine lv_iload_n hx hb dX2_remember_2 rfl (lv_at hl 2 rfl) ?_
      refine lv_aload_n hx hb dX2_remember_3 rfl (lv_at hl 0 rfl) ?_
      refine va_get (D := D) (ci := 2) (v := .int v_t_size) (C := RX2) (T := TX2) (N := 2) hx hb hts hinX2 hown hK hP 0 rfl rfl 0 (by decide) hw0 (fun _ h9 => h9) rfl dX2_remember_4 ?_
      refine lv_icmp_ge (tgt := 26) hx hb dX2_remember_7 (by decide) (fun cc => ?_) (fun cc => ?_)
      · have hF := gi_pos hF cc
        obtain rfl := Option.some.inj hF
        exact En_2 _ _ _ hP hD hS (lv_sub hl [0, 1, 2] rfl)
      · have hF := gi_neg hF cc
        refine lv_aload_n hx hb dX2_remember_10 rfl (lv_at hl 0 rfl) ?_
        refine va_get (D := D) (ci := 2) (v := .ref h_t_words) (C := RX2) (T := TX2) (N := 2) hx hb hts hinX2 hown hK hP 0 rfl rfl 1 (by decide) hw2 (fun _ h9 => h9) rfl dX2_remember_11 ?_
        refine lv_iload_n hx hb dX2_remember_14 rfl (lv_at hl 2 rfl) ?_
        obtain ⟨hin, hF⟩ := gx_some hF
        refine va_iald hx hb hK hP 1 0 rfl rfl hin dX2_remember_15 ?_
        refine lv_iload_n hx hb dX2_remember_16 rfl (lv_at hl 1 rfl) ?_
        refine lv_icmp_eq (tgt := 26) hx hb dX2_remember_17 (by decide) (fun cc => ?_) (fun cc => ?_)
        · have hF := gi_pos hF cc
          obtain rfl := Option.some.inj hF
          exact En_2 _ _ _ hP hD hS (lv_sub hl [0, 1, 2] rfl)
        · have hF := gi_neg hF cc
          obtain ⟨x2_20, ex⟩ : ∃ y : Int32, y = (x2_2 + 1) := ⟨_, rfl⟩
          have hF := gl_some hF ex
          refine lv_iinc (v := x2_20) (lv' := [(2, .int x2_20), (0, .ref h_t), (1, .int x1)]) hx hb dX2_remember_20 hl (k := 2) rfl (by rw [ex]; rfl) (by decide) rfl (fun ls hl => ?_)
          refine lv_goto (tgt := 2) hx hb dX2_remember_23 (by decide) ?_
          exact ih2 x2_20 _ _ _ hF hP hD hS (lv_sub hl [1, 2, 0] rfl)
  exact Ln_2 gF (0 : Int32) _ _ _ hR hP hD hS (lv_sub hl [1, 2, 0] rfl)

abbrev rmX2_mixInto : Room := { frames := 2, cells := 0, slots := 0, locals := 40 }
def fX2_mixInto_L2 (v_t_size : Int32) (c_t_words : Nat → Int32) : Nat → Int64 → Int32 → Option (Int64)
  | 0, _, _ => none
  | n_2 + 1, x1_2, x3_2 => (if v_t_size ≤ x3_2 then (some x1_2) else (gx x3_2 6 (Option.bind (fX6_figures (c_t_words (x3_2).toNatClampNeg)) (fun q_21 => (gl (((31 : Int64) * x1_2) + (q_21.toInt64)) (fun x1_26 => (gx x3_2 6 (Option.bind (fX6_length (c_t_words (x3_2).toNatClampNeg)) (fun q_38 => (gl (((31 : Int64) * x1_26) + (q_38.toInt64)) (fun x1_43 => (gl (x3_2 + 1) (fun x3_44 => (fX2_mixInto_L2 v_t_size c_t_words n_2 x1_43 x3_44))))))))))))))
def fX2_mixInto (x1 : Int64) (v_t_size : Int32) (c_t_words : Nat → Int32) : Option (Int64) := (Option.bind (fX2_mixInto_L2 v_t_size c_t_words gF x1 (0 : Int32)) (fun q_2 => (some q_2)))
set_option maxHeartbeats 4000000 in
set_option maxRecDepth 100000 in
theorem kX2_mixInto (l : Launch) (D : va_G) (cI cZ cD cG : ClassId) (h_t : Nat) (v_t_size : Int32) (h_t_words : Nat) (c_t_words : Nat → Int32) (x1 : Int64) (res : Int64) (hF : fX2_mixInto x1 v_t_size c_t_words = some res) : gMl l D (gty cI cZ cD cG) yX2_mixInto wsX2_mixInto rmX2_mixInto [.ref h_t, .long x1] [gO h_t 2 [.int v_t_size, .ref h_t_words], gA h_t_words cI 6 c_t_words] res [gO h_t 2 [.int v_t_size, .ref h_t_words], gA h_t_words cI 6 c_t_words] := by
  refine gMl.of (cc := cX2_mixInto) (maxL := 4) (by decide) rfl (Nat.le_of_ble_eq_true rfl) ?_
  intro p e s m args below meth c A ls Q hx hb hts hown hml hK hA hP hD hS hQ hl
  have hown : s.vm.findClass RX2 = some m.cls := hown
  have hl : lv_has ls 4 [(0, .ref h_t), (1, .long x1)] := hl
  have hw0 := hts (.fieldLink RX2 9 "NibbleTrunk$Lately" "size" "I") (by decide +kernel)
  have hinX2 : ∀ w ∈ wsX20, w ∈ wsX2_mixInto := by decide +kernel
  have hw2 := hts (.constantLong RX2 25 (31)) (by decide +kernel)
  have hw3 := hts (.fieldLink RX2 15 "NibbleTrunk$Lately" "words" "[I") (by decide +kernel)
  rw [fX2_mixInto] at hF
  refine lv_iconst (v := 0) hx hb dX2_mixInto_0 (by decide) ?_
  refine lv_istore_n (lv' := [(3, .int (0 : Int32)), (0, .ref h_t), (1, .long x1)]) hx hb dX2_mixInto_1 rfl hl (by decide) rfl (fun ls hl => ?_)
  obtain ⟨q_2, hR, hF⟩ := gb_some hF
  have En_2 : ∀ (H : Heap) (locs : List Loc) (ls : Array Slot), va_P D vwCl [gO h_t 2 [.int v_t_size, .ref h_t_words], gA h_t_words cI 6 c_t_words] H → va_D A [gO h_t 2 [.int v_t_size, .ref h_t_words], gA h_t_words cI 6 c_t_words] → va_S A s.heap H locs → lv_has ls 4 [(1, .long q_2)] → W p l e rmX2_mixInto s m args below meth c H locs 0 0 Q (F0 m 50 ls []) := by
    intro H locs ls hP hD hS hl
    refine lv_lload_n hx hb dX2_mixInto_50 rfl (lv_at hl 0 rfl) ?_
    obtain rfl := Option.some.inj hF
    exact hQ _ _ _ _ _ hP hD hS rfl dX2_mixInto_51
  clear hF
  have Ln_2 : ∀ (n_2 : Nat) (x1_2 : Int64) (x3_2 : Int32) (H : Heap) (locs : List Loc) (ls : Array Slot), fX2_mixInto_L2 v_t_size c_t_words n_2 x1_2 x3_2 = some q_2 → va_P D vwCl [gO h_t 2 [.int v_t_size, .ref h_t_words], gA h_t_words cI 6 c_t_words] H → va_D A [gO h_t 2 [.int v_t_size, .ref h_t_words], gA h_t_words cI 6 c_t_words] → va_S A s.heap H locs → lv_has ls 4 [(0, .ref h_t), (1, .long x1_2), (3, .int x3_2)] → W p l e rmX2_mixInto s m args below meth c H locs 0 0 Q (F0 m 2 ls []) := by
    intro n_2
    induction n_2 with
    | zero =>
      intro x1_2 x3_2 H locs ls hF
      rw [fX2_mixInto_L2] at hF
      cases hF
    | succ n_2 ih2 =>
      intro x1_2 x3_2 H locs ls hF hP hD hS hl
      rw [fX2_mixInto_L2] at hF
      refine lv_iload_n hx hb dX2_mixInto_2 rfl (lv_at hl 2 rfl) ?_
      refine lv_aload_n hx hb dX2_mixInto_3 rfl (lv_at hl 0 rfl) ?_
      refine va_get (D := D) (ci := 2) (v := .int v_t_size) (C := RX2) (T := TX2) (N := 2) hx hb hts hinX2 hown hK hP 0 rfl rfl 0 (by decide) hw0 (fun _ h9 => h9) rfl dX2_mixInto_4 ?_
      refine lv_icmp_ge (tgt := 50) hx hb dX2_mixInto_7 (by decide) (fun cc => ?_) (fun cc => ?_)
      · have hF := gi_pos hF cc
        obtain rfl := Option.some.inj hF
        exact En_2 _ _ _ hP hD hS (lv_sub hl [1] rfl)
      · have hF := gi_neg hF cc
        refine lv_ldc2 (v := (31)) hx hb hown hw2 dX2_mixInto_10 ?_
        refine lv_lload_n hx hb dX2_mixInto_13 rfl (lv_at hl 1 rfl) ?_
        refine lv_lmul hx hb dX2_mixInto_14 ?_
        refine lv_aload_n hx hb dX2_mixInto_15 rfl (lv_at hl 0 rfl) ?_
        refine va_get (D := D) (ci := 2) (v := .ref h_t_words) (C := RX2) (T := TX2) (N := 2) hx hb hts hinX2 hown hK hP 0 rfl rfl 1 (by decide) hw3 (fun _ h9 => h9) rfl dX2_mixInto_16 ?_
        refine lv_iload_n hx hb dX2_mixInto_19 rfl (lv_at hl 2 rfl) ?_
        obtain ⟨hin, hF⟩ := gx_some hF
        refine va_iald hx hb hK hP 1 0 rfl rfl hin dX2_mixInto_20 ?_
        obtain ⟨q_21, hc, hF⟩ := gb_some hF
        refine gcSi (As := [.int (c_t_words (x3_2).toNatClampNeg)]) (rest := [.long ((31 : Int64) * x1_2)]) (pre := []) (post := []) (wr := [gO h_t 2 [.int v_t_size, .ref h_t_words], gA h_t_words cI 6 c_t_words]) ⟨hx, hb, hml, hown, hts⟩ (kX6_figures l D cI cZ cD cG (c_t_words (x3_2).toNatClampNeg) q_21 hc) (va_cwS 1 hts gX2_mixInto_X6_figures rfl rfl rfl (by decide +kernel) ⟨Nat.le_of_ble_eq_true rfl, Nat.le_of_ble_eq_true rfl⟩) hK hP hD hS hA [] [0, 1] rfl rfl (by decide) (by decide) (by decide) rfl hl.1 rfl (Nat.le_of_ble_eq_true rfl) dX2_mixInto_21 ⟨Nat.zero_le _, Nat.zero_le _⟩ (fun H locs hP hD hS => ?_)
        have hP : va_P D vwCl [gO h_t 2 [.int v_t_size, .ref h_t_words], gA h_t_words cI 6 c_t_words] H := hP
        have hD : va_D A [gO h_t 2 [.int v_t_size, .ref h_t_words], gA h_t_words cI 6 c_t_words] := hD
        refine lv_i2l hx hb dX2_mixInto_24 rfl ?_
        refine lv_ladd hx hb dX2_mixInto_25 ?_
        refine lv_topl (fun x1_26 ex => ?_)
        have hF := gl_some hF ex
        refine lv_lstore_n (lv' := [(1, .long x1_26), (0, .ref h_t), (3, .int x3_2)]) hx hb dX2_mixInto_26 rfl hl (by decide) rfl (fun ls hl => ?_)
        refine lv_ldc2 (v := (31)) hx hb hown hw2 dX2_mixInto_27 ?_
        refine lv_lload_n hx hb dX2_mixInto_30 rfl (lv_at hl 0 rfl) ?_
        refine lv_lmul hx hb dX2_mixInto_31 ?_
        refine lv_aload_n hx hb dX2_mixInto_32 rfl (lv_at hl 1 rfl) ?_
        refine va_get (D := D) (ci := 2) (v := .ref h_t_words) (C := RX2) (T := TX2) (N := 2) hx hb hts hinX2 hown hK hP 0 rfl rfl 1 (by decide) hw3 (fun _ h9 => h9) rfl dX2_mixInto_33 ?_
        refine lv_iload_n hx hb dX2_mixInto_36 rfl (lv_at hl 2 rfl) ?_
        obtain ⟨hin, hF⟩ := gx_some hF
        refine va_iald hx hb hK hP 1 0 rfl rfl hin dX2_mixInto_37 ?_
        obtain ⟨q_38, hc, hF⟩ := gb_some hF
        refine gcSi (As := [.int (c_t_words (x3_2).toNatClampNeg)]) (rest := [.long ((31 : Int64) * x1_26)]) (pre := []) (post := []) (wr := [gO h_t 2 [.int v_t_size, .ref h_t_words], gA h_t_words cI 6 c_t_words]) ⟨hx, hb, hml, hown, hts⟩ (kX6_length l D cI cZ cD cG (c_t_words (x3_2).toNatClampNeg) q_38 hc) (va_cwS 1 hts gX2_mixInto_X6_length rfl rfl rfl (by decide +kernel) ⟨Nat.le_of_ble_eq_true rfl, Nat.le_of_ble_eq_true rfl⟩) hK hP hD hS hA [] [0, 1] rfl rfl (by decide) (by decide) (by decide) rfl hl.1 rfl (Nat.le_of_ble_eq_true rfl) dX2_mixInto_38 ⟨Nat.zero_le _, Nat.zero_le _⟩ (fun H locs hP hD hS => ?_)
        have hP : va_P D vwCl [gO h_t 2 [.int v_t_size, .ref h_t_words], gA h_t_words cI 6 c_t_words] H := hP
        have hD : va_D A [gO h_t 2 [.int v_t_size, .ref h_t_words], gA h_t_words cI 6 c_t_words] := hD
        refine lv_i2l hx hb dX2_mixInto_41 rfl ?_
        refine lv_ladd hx hb dX2_mixInto_42 ?_
        refine lv_topl (fun x1_43 ex => ?_)
        have hF := gl_some hF ex
        refine lv_lstore_n (lv' := [(1, .long x1_43), (0, .ref h_t), (3, .int x3_2)]) hx hb dX2_mixInto_43 rfl hl (by decide) rfl (fun ls hl => ?_)
        obtain ⟨x3_44, ex⟩ : ∃ y : Int32, y = (x3_2 + 1) := ⟨_, rfl⟩
        have hF := gl_some hF ex
        refine lv_iinc (v := x3_44) (lv' := [(3, .int x3_44), (1, .long x1_43), (0, .ref h_t)]) hx hb dX2_mixInto_44 hl (k := 2) rfl (by rw [ex]; rfl) (by decide) rfl (fun ls hl => ?_)
        refine lv_goto (tgt := 2) hx hb dX2_mixInto_47 (by decide) ?_
        exact ih2 x1_43 x3_44 _ _ _ hF hP hD hS (lv_sub hl [2, 1, 0] rfl)
  exact Ln_2 gF x1 (0 : Int32) _ _ _ hR hP hD hS (lv_sub hl [1, 2, 0] rfl)

