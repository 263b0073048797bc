abbrev rmX5_names : Room := { frames := 0, cells := 0, slots := 0, locals := 0 }
def fX5_names (x1 : Int32) (n_t_sizes : Nat) : Option (Int32) := (if x1 < 0 then (some (0 : Int32)) else (if (Int32.ofNat n_t_sizes) ≤ x1 then (some (0 : Int32)) else (some (1 : Int32))))
set_option maxHeartbeats 4000000 in
set_option maxRecDepth 100000 in
theorem kX5_names (l : Launch) (D : va_G) (cI cZ cD cG : ClassId) (h_t : Nat) (v_t_limit : Int32) (h_t_cells : Nat) (h_t_sizes : Nat) (n_t_sizes : Nat) (c_t_sizes : Nat → Int32) (x1 : Int32) (res : Int32) (hF : fX5_names x1 n_t_sizes = some res) : gMz l D (gty cI cZ cD cG) yX5_names wsX5_names rmX5_names [.ref h_t, .int x1] [gO h_t 5 [.int v_t_limit, .ref h_t_cells, .ref h_t_sizes], gA h_t_sizes cI n_t_sizes c_t_sizes] res [gO h_t 5 [.int v_t_limit, .ref h_t_cells, .ref h_t_sizes], gA h_t_sizes cI n_t_sizes c_t_sizes] := by
  refine gMz.of (cc := cX5_names) (maxL := 2) (by decide) rfl (Nat.le_of_ble_eq_true rfl) ?_
  intro p e s m args below meth c A ls Q hx hb hts hown hml hK hA hP hD hS hQ hl
  have hown : s.vm.findClass RX5 = some m.cls := hown
  have hl : lv_has ls 2 [(0, .ref h_t), (1, .int x1)] := hl
  have hw0 := hts (.fieldLink RX5 20 "NibbleTrunk$Shelf" "sizes" "[I") (by decide +kernel)
  have hinX5 : ∀ w ∈ wsX50, w ∈ wsX5_names := by decide +kernel
  rw [fX5_names] at hF
  refine lv_iload_n hx hb dX5_names_0 rfl (lv_at hl 1 rfl) ?_
  refine lv_if_lt (tgt := 17) hx hb dX5_names_1 (by decide) (fun cc => ?_) (fun cc => ?_)
  · have hF := gi_pos hF cc
    refine lv_iconst (v := 0) hx hb dX5_names_17 (by decide) ?_
    obtain rfl := Option.some.inj hF
    exact hQ _ _ _ _ _ hP hD hS rfl rfl dX5_names_18
  · have hF := gi_neg hF cc
    refine lv_iload_n hx hb dX5_names_4 rfl (lv_at hl 1 rfl) ?_
    refine lv_aload_n hx hb dX5_names_5 rfl (lv_at hl 0 rfl) ?_
    refine va_get (D := D) (ci := 5) (v := .ref h_t_sizes) (C := RX5) (T := TX5) (N := 3) hx hb hts hinX5 hown hK hP 0 rfl rfl 2 (by decide) hw0 (fun _ h9 => h9) rfl dX5_names_6 ?_
    refine va_alen hx hb hK hP 1 0 rfl rfl (v := (Int32.ofNat n_t_sizes)) rfl dX5_names_9 ?_
    refine lv_icmp_ge (tgt := 17) hx hb dX5_names_10 (by decide) (fun cc => ?_) (fun cc => ?_)
    · have hF := gi_pos hF cc
      refine lv_iconst (v := 0) hx hb dX5_names_17 (by decide) ?_
      obtain rfl := Option.some.inj hF
      exact hQ _ _ _ _ _ hP hD hS rfl rfl dX5_names_18
    · have hF := gi_neg hF cc
      refine lv_iconst (v := 1) hx hb dX5_names_13 (by decide) ?_
      refine lv_goto (tgt := 18) hx hb dX5_names_14 (by decide) ?_
      obtain rfl := Option.some.inj hF
      exact hQ _ _ _ _ _ hP hD hS rfl rfl dX5_names_18

abbrev rmX5_size : Room := { frames := 1, cells := 0, slots := 0, locals := 21 }
def fX5_size (x1 : Int32) (n_t_sizes : Nat) (c_t_sizes : Nat → Int32) : Option (Int32) := (Option.bind (fX5_names x1 n_t_sizes) (fun q_2 => (if q_2 = 0 then (some (-1 : Int32)) else (gx x1 n_t_sizes (some (c_t_sizes (x1).toNatClampNeg))))))
set_option maxHeartbeats 4000000 in
set_option maxRecDepth 100000 in
theorem kX5_size (l : Launch) (D : va_G) (cI cZ cD cG : ClassId) (h_t : Nat) (v_t_limit : Int32) (h_t_cells : Nat) (h_t_sizes : Nat) (n_t_sizes : Nat) (c_t_sizes : Nat → Int32) (x1 : Int32) (res : Int32) (hF : fX5_size x1 n_t_sizes c_t_sizes = some res) : gMi l D (gty cI cZ cD cG) yX5_size wsX5_size rmX5_size [.ref h_t, .int x1] [gO h_t 5 [.int v_t_limit, .ref h_t_cells, .ref h_t_sizes], gA h_t_sizes cI n_t_sizes c_t_sizes] res [gO h_t 5 [.int v_t_limit, .ref h_t_cells, .ref h_t_sizes], gA h_t_sizes cI n_t_sizes c_t_sizes] := by
  refine gMi.of (cc := cX5_size) (maxL := 2) (by decide) rfl (Nat.le_of_ble_eq_true rfl) ?_
  intro p e s m args below meth c A ls Q hx hb hts hown hml hK hA hP hD hS hQ hl
  have hown : s.vm.findClass RX5 = some m.cls := hown
  have hl : lv_has ls 2 [(0, .ref h_t), (1, .int x1)] := hl
  have hw0 := hts (.fieldLink RX5 20 "NibbleTrunk$Shelf" "sizes" "[I") (by decide +kernel)
  have hinX5 : ∀ w ∈ wsX50, w ∈ wsX5_size := by decide +kernel
  rw [fX5_size] at hF
  refine lv_aload_n hx hb dX5_size_0 rfl (lv_at hl 0 rfl) ?_
  refine lv_iload_n hx hb dX5_size_1 rfl (lv_at hl 1 rfl) ?_
  obtain ⟨q_2, hc, hF⟩ := gb_some hF
  refine gcVz (ci := 5) (As := [.int x1]) (rest := []) (pre := [gO h_t 5 [.int v_t_limit, .ref h_t_cells, .ref h_t_sizes], gA h_t_sizes cI n_t_sizes c_t_sizes]) (post := [gO h_t 5 [.int v_t_limit, .ref h_t_cells, .ref h_t_sizes], gA h_t_sizes cI n_t_sizes c_t_sizes]) (wr := []) ⟨hx, hb, hml, hown, hts⟩ (kX5_names l D cI cZ cD cG h_t v_t_limit h_t_cells h_t_sizes n_t_sizes c_t_sizes x1 q_2 hc) (cwV 1 hts gX5_size_X5_names rfl rfl rfl (by decide +kernel) ⟨Nat.le_of_ble_eq_true rfl, Nat.le_of_ble_eq_true rfl⟩) hK hP hD hS hA [0, 1] [] rfl rfl (by decide) (by decide) (by decide) 0 rfl rfl rfl hl.1 rfl (Nat.le_of_ble_eq_true rfl) dX5_size_2 ⟨Nat.zero_le _, Nat.zero_le _⟩ (fun H locs hnq_2 hP hD hS => ?_)
  have hP : va_P D vwCl [gO h_t 5 [.int v_t_limit, .ref h_t_cells, .ref h_t_sizes], gA h_t_sizes cI n_t_sizes c_t_sizes] H := hP
  have hD : va_D A [gO h_t 5 [.int v_t_limit, .ref h_t_cells, .ref h_t_sizes], gA h_t_sizes cI n_t_sizes c_t_sizes] := hD
  refine lv_if_eq (tgt := 17) hx hb dX5_size_5 (by decide) (fun cc => ?_) (fun cc => ?_)
  · have hF := gi_pos hF cc
    refine lv_iconst (v := (-1)) hx hb dX5_size_17 (by decide) ?_
    obtain rfl := Option.some.inj hF
    exact hQ _ _ _ _ _ hP hD hS rfl dX5_size_18
  · have hF := gi_neg hF cc
    refine lv_aload_n hx hb dX5_size_8 rfl (lv_at hl 0 rfl) ?_
    refine va_get (D := D) (ci := 5) (v := .ref h_t_sizes) (C := RX5) (T := TX5) (N := 3) hx hb hts hinX5 hown hK hP 0 rfl rfl 2 (by decide) hw0 (fun _ h9 => h9) rfl dX5_size_9 ?_
    refine lv_iload_n hx hb dX5_size_12 rfl (lv_at hl 1 rfl) ?_
    obtain ⟨hin, hF⟩ := gx_some hF
    refine va_iald hx hb hK hP 1 0 rfl rfl hin dX5_size_13 ?_
    refine lv_goto (tgt := 18) hx hb dX5_size_14 (by decide) ?_
    obtain rfl := Option.some.inj hF
    exact hQ _ _ _ _ _ hP hD hS rfl dX5_size_18

abbrev rmX5_layInto : Room := { frames := 2, cells := 0, slots := 0, locals := 42 }
def fX5_layInto (x1 : Int32) (n_t_sizes : Nat) (c_t_sizes : Nat → Int32) (n_p2 : Nat) (c_p2 : Nat → Int32) (n_t_cells : Nat) (l_t_cells : Nat) (m_t_cells : Nat → Nat → Int32) : Option (Int32 × (Nat → Int32)) := (Option.bind (fX5_size x1 n_t_sizes c_t_sizes) (fun q_2 => (gl (if (Int32.ofNat n_p2) < q_2 then (Int32.ofNat n_p2) else q_2) (fun x3_10 => (if (1 : Int32) ≤ x3_10 then (gx x1 n_t_cells (gcp (0 : Int32) (0 : Int32) x3_10 l_t_cells n_p2 (some (x3_10, (va_cpy (m_t_cells (x1).toNatClampNeg) c_p2 ((0 : Int32)).toNatClampNeg ((0 : Int32)).toNatClampNeg (x3_10).toNatClampNeg))))) else (some ((0 : Int32), c_p2)))))))
set_option maxHeartbeats 4000000 in
set_option maxRecDepth 100000 in
theorem kX5_layInto (l : Launch) (D : va_G) (cI cZ cD cG : ClassId) (h_t : Nat) (h_p2 : Nat) (v_t_limit : Int32) (h_t_cells : Nat) (h_t_sizes : Nat) (n_t_sizes : Nat) (c_t_sizes : Nat → Int32) (n_p2 : Nat) (c_p2 : Nat → Int32) (n_t_cells : Nat) (g_t_cells : Nat → Nat) (l_t_cells : Nat) (m_t_cells : Nat → Nat → Int32) (x1 : Int32) (res : Int32 × (Nat → Int32)) (hF : fX5_layInto x1 n_t_sizes c_t_sizes n_p2 c_p2 n_t_cells l_t_cells m_t_cells = some res) : gMi l D (gty cI cZ cD cG) yX5_layInto wsX5_layInto rmX5_layInto [.ref h_t, .int x1, .ref h_p2] ([gO h_t 5 [.int v_t_limit, .ref h_t_cells, .ref h_t_sizes], gA h_t_sizes cI n_t_sizes c_t_sizes, gA h_p2 cI n_p2 c_p2, gR h_t_cells cG n_t_cells (fun k => some (g_t_cells k))] ++ gG g_t_cells cI l_t_cells m_t_cells n_t_cells) res.1 ([gO h_t 5 [.int v_t_limit, .ref h_t_cells, .ref h_t_sizes], gA h_t_sizes cI n_t_sizes c_t_sizes, gA h_p2 cI n_p2 res.2, gR h_t_cells cG n_t_cells (fun k => some (g_t_cells k))] ++ gG g_t_cells cI l_t_cells m_t_cells n_t_cells) := by
  refine gMi.of (cc := cX5_layInto) (maxL := 4) (by decide) rfl (Nat.le_of_ble_eq_true rfl) ?_
  intro p e s m args below meth c A ls Q hx hb hts hown hml hK hA hP hD hS hQ hl
  have hown : s.vm.findClass RX5 = some m.cls := hown
  have hl : lv_has ls 4 [(0, .ref h_t), (1, .int x1), (2, .ref h_p2)] := hl
  have hw0 := hts (.methodLink RX5 46 Lib.Math.min.name) (by decide +kernel)
  have hw1 := hts (.static Lib.Math.min.name) (by decide +kernel)
  have hw2 := hts (.initialized "java/lang/Math") (by decide +kernel)
  have hw3 := hts (.code Lib.Math.min.name Lib.Math.min.code 2 (some .int)) (by decide +kernel)
  have hw4 := hts (.fieldLink RX5 17 "NibbleTrunk$Shelf" "cells" "[[I") (by decide +kernel)
  have hinX5 : ∀ w ∈ wsX50, w ∈ wsX5_layInto := by decide +kernel
  have hw6 := hts (.methodLink RX5 40 arraycopyName) (by decide +kernel)
  have hw7 := hts (.native arraycopyName) (by decide +kernel)
  have hw8 := hts (.static arraycopyName) (by decide +kernel)
  have hw9 := hts (.initialized "java/lang/System") (by decide +kernel)
  rw [fX5_layInto] at hF
  refine lv_aload_n hx hb dX5_layInto_0 rfl (lv_at hl 0 rfl) ?_
  refine lv_iload_n hx hb dX5_layInto_1 rfl (lv_at hl 1 rfl) ?_
  obtain ⟨q_2, hc, hF⟩ := gb_some hF
  refine gcViG (ci := 5) (pl := gG g_t_cells cI l_t_cells m_t_cells n_t_cells) (As := [.int x1]) (rest := []) (pre := [gO h_t 5 [.int v_t_limit, .ref h_t_cells, .ref h_t_sizes], gA h_t_sizes cI n_t_sizes c_t_sizes]) (post := [gO h_t 5 [.int v_t_limit, .ref h_t_cells, .ref h_t_sizes], gA h_t_sizes cI n_t_sizes c_t_sizes]) (wr := [gA h_p2 cI n_p2 c_p2, gR h_t_cells cG n_t_cells (fun k => some (g_t_cells k))]) ⟨hx, hb, hml, hown, hts⟩ (kX5_size l D cI cZ cD cG h_t v_t_limit h_t_cells h_t_sizes n_t_sizes c_t_sizes x1 q_2 hc) (cwV 1 hts gX5_layInto_X5_size rfl rfl rfl (by decide +kernel) ⟨Nat.le_of_ble_eq_true rfl, Nat.le_of_ble_eq_true rfl⟩) hK hP hD hS hA [0, 1] [2, 3] rfl rfl (by decide) (by decide) (by decide) 0 rfl rfl rfl hl.1 rfl (Nat.le_of_ble_eq_true rfl) dX5_layInto_2 ⟨Nat.zero_le _, Nat.zero_le _⟩ (fun H locs hP hD hS => ?_)
  have hP : va_P D vwCl ([gA h_p2 cI n_p2 c_p2, gR h_t_cells cG n_t_cells (fun k => some (g_t_cells k)), gO h_t 5 [.int v_t_limit, .ref h_t_cells, .ref h_t_sizes], gA h_t_sizes cI n_t_sizes c_t_sizes] ++ gG g_t_cells cI l_t_cells m_t_cells n_t_cells) H := hP
  have hD : va_D A ([gA h_p2 cI n_p2 c_p2, gR h_t_cells cG n_t_cells (fun k => some (g_t_cells k)), gO h_t 5 [.int v_t_limit, .ref h_t_cells, .ref h_t_sizes], gA h_t_sizes cI n_t_sizes c_t_sizes] ++ gG g_t_cells cI l_t_cells m_t_cells n_t_cells) := hD
  refine lv_aload_n hx hb dX5_layInto_5 rfl (lv_at hl 2 rfl) ?_
  refine va_alen hx hb hK hP 0 0 rfl rfl (v := (Int32.ofNat n_p2)) rfl dX5_layInto_6 ?_
  refine va_mmin hx hb (hml.trans hl.1.symm) hown hw0 hw1 hw2 hw3 (Nat.le_of_ble_eq_true rfl) (Nat.le_of_ble_eq_true rfl) (Nat.zero_le _) (Nat.zero_le _) dX5_layInto_7 ?_
  refine lv_topi (fun x3_10 ex => ?_)
  have hF := gl_some hF ex
  refine lv_istore_n (lv' := [(3, .int x3_10), (0, .ref h_t), (1, .int x1), (2, .ref h_p2)]) hx hb dX5_layInto_10 rfl hl (by decide) rfl (fun ls hl => ?_)
  refine lv_iload_n hx hb dX5_layInto_11 rfl (lv_at hl 0 rfl) ?_
  refine lv_iconst (v := 1) hx hb dX5_layInto_12 (by decide) ?_
  refine lv_icmp_ge (tgt := 18) hx hb dX5_layInto_13 (by decide) (fun cc => ?_) (fun cc => ?_)
  · have hF := gi_pos hF cc
    refine lv_aload_n hx hb dX5_layInto_18 rfl (lv_at hl 1 rfl) ?_
    refine va_get (D := D) (ci := 5) (v := .ref h_t_cells) (C := RX5) (T := TX5) (N := 3) hx hb hts hinX5 hown hK hP 2 rfl rfl 1 (by decide) hw4 (fun _ h9 => h9) rfl dX5_layInto_19 ?_
    refine lv_iload_n hx hb dX5_layInto_22 rfl (lv_at hl 2 rfl) ?_
    obtain ⟨hr_23, hF⟩ := gx_some hF
    refine va_aldg hx hb hK hP 1 3 rfl rfl hr_23 dX5_layInto_23 ?_
    refine lv_iconst (v := 0) hx hb dX5_layInto_24 (by decide) ?_
    refine lv_aload_n hx hb dX5_layInto_25 rfl (lv_at hl 3 rfl) ?_
    refine lv_iconst (v := 0) hx hb dX5_layInto_26 (by decide) ?_
    refine lv_iload_n hx hb dX5_layInto_27 rfl (lv_at hl 0 rfl) ?_
    obtain ⟨h1, h2, h3, h4, h5, hF⟩ := gcp_some hF
    refine va_copyi hx hb (hml.trans hl.1.symm) hown hw6 hw7 hw8 hw9 hK hP hD hS (4 + (x1).toNatClampNeg) 0 0 0 (gG_get rfl (vp_lt hr_23)) rfl rfl rfl rfl h1 h2 h3 h4 h5 (fun _ _ => rfl) (Nat.le_of_ble_eq_true rfl) (Nat.le_of_ble_eq_true rfl) dX5_layInto_28 (fun H locs hP hD hS => ?_)
    have hP : va_P D vwCl ([gA h_p2 cI n_p2 (va_cpy (m_t_cells (x1).toNatClampNeg) c_p2 ((0 : Int32)).toNatClampNeg ((0 : Int32)).toNatClampNeg (x3_10).toNatClampNeg), gR h_t_cells cG n_t_cells (fun k => some (g_t_cells k)), gO h_t 5 [.int v_t_limit, .ref h_t_cells, .ref h_t_sizes], gA h_t_sizes cI n_t_sizes c_t_sizes] ++ gG g_t_cells cI l_t_cells m_t_cells n_t_cells) H := hP
    have hD : va_D A ([gA h_p2 cI n_p2 (va_cpy (m_t_cells (x1).toNatClampNeg) c_p2 ((0 : Int32)).toNatClampNeg ((0 : Int32)).toNatClampNeg (x3_10).toNatClampNeg), gR h_t_cells cG n_t_cells (fun k => some (g_t_cells k)), gO h_t 5 [.int v_t_limit, .ref h_t_cells, .ref h_t_sizes], gA h_t_sizes cI n_t_sizes c_t_sizes] ++ gG g_t_cells cI l_t_cells m_t_cells n_t_cells) := hD
    refine lv_iload_n hx hb dX5_layInto_31 rfl (lv_at hl 0 rfl) ?_
    obtain rfl := Option.some.inj hF
    exact hQ _ _ _ _ _ (hP.part [2, 3, 0, 1] rfl) (hD.part [2, 3, 0, 1] (by decide) rfl) hS rfl dX5_layInto_32
  · have hF := gi_neg hF cc
    refine lv_iconst (v := 0) hx hb dX5_layInto_16 (by decide) ?_
    obtain rfl := Option.some.inj hF
    exact hQ _ _ _ _ _ (hP.part [2, 3, 0, 1] rfl) (hD.part [2, 3, 0, 1] (by decide) rfl) hS rfl dX5_layInto_17

abbrev rmX4_sign : Room := { frames := 0, cells := 0, slots := 0, locals := 0 }
def fX4_sign (v_t_size : Int32) (v_t_place : Int32) (c_t_signs : Nat → Int32) : Option (Int32) := (if v_t_size ≤ v_t_place then (some (256 : Int32)) else (gx v_t_place 90 (some (c_t_signs (v_t_place).toNatClampNeg))))
set_option maxHeartbeats 4000000 in
set_option maxRecDepth 100000 in
theorem kX4_sign (l : Launch) (D : va_G) (cI cZ cD cG : ClassId) (h_t : Nat) (h_t_keys : Nat) (h_t_signs : Nat) (v_t_size : Int32) (v_t_place : Int32) (c_t_signs : Nat → Int32) (res : Int32) (hF : fX4_sign v_t_size v_t_place c_t_signs = some res) : gMi l D (gty cI cZ cD cG) yX4_sign wsX4_sign rmX4_sign [.ref h_t] [gO h_t 4 [.ref h_t_keys, .ref h_t_signs, .int v_t_size, .int v_t_place], gA h_t_signs cI 90 c_t_signs] res [gO h_t 4 [.ref h_t_keys, .ref h_t_signs, .int v_t_size, .int v_t_place], gA h_t_signs cI 90 c_t_signs] := by
  refine gMi.of (cc := cX4_sign) (maxL := 1) (by decide) rfl (Nat.le_of_ble_eq_true rfl) ?_
  intro p e s m args below meth c A ls Q hx hb hts hown hml hK hA hP hD hS hQ hl
  have hown : s.vm.findClass RX4 = some m.cls := hown
  have hl : lv_has ls 1 [(0, .ref h_t)] := hl
  have hw0 := hts (.fieldLink RX4 26 "NibbleTrunk$Reader" "place" "I") (by decide +kernel)
  have hinX4 : ∀ w ∈ wsX40, w ∈ wsX4_sign := by decide +kernel
  have hw2 := hts (.fieldLink RX4 22 "NibbleTrunk$Reader" "size" "I") (by decide +kernel)
  have hw3 := hts (.fieldLink RX4 18 "NibbleTrunk$Reader" "signs" "[I") (by decide +kernel)
  rw [fX4_sign] at hF
  refine lv_aload_n hx hb dX4_sign_0 rfl (lv_at hl 0 rfl) ?_
  refine va_get (D := D) (ci := 4) (v := .int v_t_place) (C := RX4) (T := TX4) (N := 4) hx hb hts hinX4 hown hK hP 0 rfl rfl 3 (by decide) hw0 (fun _ h9 => h9) rfl dX4_sign_1 ?_
  refine lv_aload_n hx hb dX4_sign_4 rfl (lv_at hl 0 rfl) ?_
  refine va_get (D := D) (ci := 4) (v := .int v_t_size) (C := RX4) (T := TX4) (N := 4) hx hb hts hinX4 hown hK hP 0 rfl rfl 2 (by decide) hw2 (fun _ h9 => h9) rfl dX4_sign_5 ?_
  refine lv_icmp_ge (tgt := 23) hx hb dX4_sign_8 (by decide) (fun cc => ?_) (fun cc => ?_)
  · have hF := gi_pos hF cc
    refine lv_sipush (v := 256) hx hb dX4_sign_23 (by decide) ?_
    obtain rfl := Option.some.inj hF
    exact hQ _ _ _ _ _ hP hD hS rfl dX4_sign_26
  · have hF := gi_neg hF cc
    refine lv_aload_n hx hb dX4_sign_11 rfl (lv_at hl 0 rfl) ?_
    refine va_get (D := D) (ci := 4) (v := .ref h_t_signs) (C := RX4) (T := TX4) (N := 4) hx hb hts hinX4 hown hK hP 0 rfl rfl 1 (by decide) hw3 (fun _ h9 => h9) rfl dX4_sign_12 ?_
    refine lv_aload_n hx hb dX4_sign_15 rfl (lv_at hl 0 rfl) ?_
    refine va_get (D := D) (ci := 4) (v := .int v_t_place) (C := RX4) (T := TX4) (N := 4) hx hb hts hinX4 hown hK hP 0 rfl rfl 3 (by decide) hw0 (fun _ h9 => h9) rfl dX4_sign_16 ?_
    obtain ⟨hin, hF⟩ := gx_some hF
    refine va_iald hx hb hK hP 1 0 rfl rfl hin dX4_sign_19 ?_
    refine lv_goto (tgt := 26) hx hb dX4_sign_20 (by decide) ?_
    obtain rfl := Option.some.inj hF
    exact hQ _ _ _ _ _ hP hD hS rfl dX4_sign_26

abbrev rmX4_skipBlanks : Room := { frames := 1, cells := 0, slots := 0, locals := 20 }
def fX4_skipBlanks_L0 (v_t_size : Int32) (c_t_signs : Nat → Int32) : Nat → Int32 → Option (Int32)
  | 0, _ => none
  | n_0 + 1, v_t_place_0 => (if v_t_size ≤ v_t_place_0 then (some v_t_place_0) else (Option.bind (fX4_sign v_t_size v_t_place_0 c_t_signs) (fun q_12 => (if q_12 = (32 : Int32) then (gl (v_t_place_0 + (1 : Int32)) (fun f_27 => (fX4_skipBlanks_L0 v_t_size c_t_signs n_0 f_27))) else (some v_t_place_0)))))
def fX4_skipBlanks (v_t_size : Int32) (v_t_place : Int32) (c_t_signs : Nat → Int32) : Option (Int32) := (Option.bind (fX4_skipBlanks_L0 v_t_size c_t_signs gF v_t_place) (fun q_0 => (some q_0)))
set_option maxHeartbeats 4000000 in
set_option maxRecDepth 100000 in
theorem kX4_skipBlanks (l : Launch) (D : va_G) (cI cZ cD cG : ClassId) (h_t : Nat) (h_t_keys : Nat) (h_t_signs : Nat) (v_t_size : Int32) (v_t_place : Int32) (c_t_signs : Nat → Int32) (res : Int32) (hF : fX4_skipBlanks v_t_size v_t_place c_t_signs = some res) : gMv l D (gty cI cZ cD cG) yX4_skipBlanks wsX4_skipBlanks rmX4_skipBlanks [.ref h_t] [gO h_t 4 [.ref h_t_keys, .ref h_t_signs, .int v_t_size, .int v_t_place], gA h_t_signs cI 90 c_t_signs] [gO h_t 4 [.ref h_t_keys, .ref h_t_signs, .int v_t_size, .int res], gA h_t_signs cI 90 c_t_signs] := by
  refine gMv.of (cc := cX4_skipBlanks) (maxL := 1) (by decide) rfl (Nat.le_of_ble_eq_true rfl) ?_
  intro p e s m args below meth c A ls Q hx hb hts hown hml hK hA hP hD hS hQ hl
  have hown : s.vm.findClass RX4 = some m.cls := hown
  have hl : lv_has ls 1 [(0, .ref h_t)] := hl
  have hw0 := hts (.fieldLink RX4 26 "NibbleTrunk$Reader" "place" "I") (by decide +kernel)
  have hinX4 : ∀ w ∈ wsX40, w ∈ wsX4_skipBlanks := by decide +kernel
  have hw2 := hts (.fieldLink RX4 22 "NibbleTrunk$Reader" "size" "I") (by decide +kernel)
  rw [fX4_skipBlanks] at hF
  obtain ⟨q_0, hR, hF⟩ := gb_some hF
  have En_0 : ∀ (H : Heap) (locs : List Loc) (ls : Array Slot), va_P D vwCl [gO h_t 4 [.ref h_t_keys, .ref h_t_signs, .int v_t_size, .int q_0], gA h_t_signs cI 90 c_t_signs] H → va_D A [gO h_t 4 [.ref h_t_keys, .ref h_t_signs, .int v_t_size, .int q_0], gA h_t_signs cI 90 c_t_signs] → va_S A s.heap H locs → lv_has ls 1 [] → W p l e rmX4_skipBlanks s m args below meth c H locs 0 0 Q (F0 m 33 ls []) := by
    intro H locs ls hP hD hS hl
    obtain rfl := Option.some.inj hF
    exact hQ _ _ _ _ hP hD hS dX4_skipBlanks_33
  clear hF
  have Ln_0 : ∀ (n_0 : Nat) (v_t_place_0 : Int32) (H : Heap) (locs : List Loc) (ls : Array Slot), fX4_skipBlanks_L0 v_t_size c_t_signs n_0 v_t_place_0 = some q_0 → va_P D vwCl [gO h_t 4 [.ref h_t_keys, .ref h_t_signs, .int v_t_size, .int v_t_place_0], gA h_t_signs cI 90 c_t_signs] H → va_D A [gO h_t 4 [.ref h_t_keys, .ref h_t_signs, .int v_t_size, .int v_t_place_0], gA h_t_signs cI 90 c_t_signs] → va_S A s.heap H locs → lv_has ls 1 [(0, .ref h_t)] → W p l e rmX4_skipBlanks s m args below meth c H locs 0 0 Q (F0 m 0 ls []) := by
    intro n_0
    induction n_0 with
    | zero =>
      intro v_t_place_0 H locs ls hF
      rw [fX4_skipBlanks_L0] at hF
      cases hF
    | succ n_0 ih0 =>
      intro v_t_place_0 H locs ls hF hP hD hS hl
      rw [fX4_skipBlanks_L0] at hF
      refine lv_aload_n hx hb dX4_skipBlanks_0 rfl (lv_at hl 0 rfl) ?_
      refine va_get (D := D) (ci := 4) (v := .int v_t_place_0) (C := RX4) (T := TX4) (N := 4) hx hb hts hinX4 hown hK hP 0 rfl rfl 3 (by decide) hw0 (fun _ h9 => h9) rfl dX4_skipBlanks_1 ?_
      refine lv_aload_n hx hb dX4_skipBlanks_4 rfl (lv_at hl 0 rfl) ?_
      refine va_get (D := D) (ci := 4) (v := .int v_t_size) (C := RX4) (T := TX4) (N := 4) hx hb hts hinX4 hown hK hP 0 rfl rfl 2 (by decide) hw2 (fun _ h9 => h9) rfl dX4_skipBlanks_5 ?_
      refine lv_icmp_ge (tgt := 33) hx hb dX4_skipBlanks_8 (by decide) (fun cc => ?_) (fun cc => ?_)
      · have hF := gi_pos hF cc
        obtain rfl := Option.some.inj hF
        exact En_0 _ _ _ hP hD hS (lv_sub hl [] rfl)
      · have hF := gi_neg hF cc
        refine lv_aload_n hx hb dX4_skipBlanks_11 rfl (lv_at hl 0 rfl) ?_
        obtain ⟨q_12, hc, hF⟩ := gb_some hF
        refine gcVi (ci := 4) (As := []) (rest := []) (pre := [gO h_t 4 [.ref h_t_keys, .ref h_t_signs, .int v_t_size, .int v_t_place_0], gA h_t_signs cI 90 c_t_signs]) (post := [gO h_t 4 [.ref h_t_keys, .ref h_t_signs, .int v_t_size, .int v_t_place_0], gA h_t_signs cI 90 c_t_signs]) (wr := []) ⟨hx, hb, hml, hown, hts⟩ (kX4_sign l D cI cZ cD cG h_t h_t_keys h_t_signs v_t_size v_t_place_0 c_t_signs q_12 hc) (cwV 0 hts gX4_skipBlanks_X4_sign rfl rfl rfl (by decide +kernel) ⟨Nat.le_of_ble_eq_true rfl, Nat.le_of_ble_eq_true rfl⟩) hK hP hD hS hA [0, 1] [] rfl rfl (by decide) (by decide) (by decide) 0 rfl rfl rfl hl.1 rfl (Nat.le_of_ble_eq_true rfl) dX4_skipBlanks_12 ⟨Nat.zero_le _, Nat.zero_le _⟩ (fun H locs hP hD hS => ?_)
        have hP : va_P D vwCl [gO h_t 4 [.ref h_t_keys, .ref h_t_signs, .int v_t_size, .int v_t_place_0], gA h_t_signs cI 90 c_t_signs] H := hP
        have hD : va_D A [gO h_t 4 [.ref h_t_keys, .ref h_t_signs, .int v_t_size, .int v_t_place_0], gA h_t_signs cI 90 c_t_signs] := hD
        refine lv_bipush (v := 32) hx hb dX4_skipBlanks_15 (by decide) ?_
        refine lv_icmp_ne (tgt := 33) hx hb dX4_skipBlanks_17 (by decide) (fun cc => ?_) (fun cc => ?_)
        · have hF := gi_neg hF cc
          obtain rfl := Option.some.inj hF
          exact En_0 _ _ _ hP hD hS (lv_sub hl [] rfl)
        · have hF := gi_pos hF cc
          refine lv_aload_n hx hb dX4_skipBlanks_20 rfl (lv_at hl 0 rfl) ?_
          refine lv_dup hx hb dX4_skipBlanks_21 rfl ?_
          refine va_get (D := D) (ci := 4) (v := .int v_t_place_0) (C := RX4) (T := TX4) (N := 4) hx hb hts hinX4 hown hK hP 0 rfl rfl 3 (by decide) hw0 (fun _ h9 => h9) rfl dX4_skipBlanks_22 ?_
          refine lv_iconst (v := 1) hx hb dX4_skipBlanks_25 (by decide) ?_
          refine lv_iadd hx hb dX4_skipBlanks_26 ?_
          refine lv_topi (fun f_27 ex => ?_)
          have hF := gl_some hF ex
          refine va_put (D := D) (ci := 4) (v := .int f_27) (ty := .int) (C := RX4) (T := TX4) (N := 4) hx hb hts hinX4 tyX4 tyX4_ok nmX4 hown hK hP hD hS 0 rfl rfl 3 (by decide) hw0 (fun _ h9 => h9) rfl (by decide +kernel) rfl rfl (Nat.le_of_ble_eq_true rfl) dX4_skipBlanks_27 (fun H locs hP hD hS => ?_)
          have hP : va_P D vwCl [gO h_t 4 [.ref h_t_keys, .ref h_t_signs, .int v_t_size, .int f_27], gA h_t_signs cI 90 c_t_signs] H := hP
          have hD : va_D A [gO h_t 4 [.ref h_t_keys, .ref h_t_signs, .int v_t_size, .int f_27], gA h_t_signs cI 90 c_t_signs] := hD
          refine lv_goto (tgt := 0) hx hb dX4_skipBlanks_30 (by decide) ?_
          exact ih0 f_27 _ _ _ hF hP hD hS (lv_sub hl [0] rfl)
  exact Ln_0 gF v_t_place _ _ _ hR hP hD hS (lv_sub hl [0] rfl)

abbrev rmX4_figureOf : Room := { frames := 0, cells := 0, slots := 0, locals := 0 }
def fX4_figureOf_J17 (x0 : Int32) : Option (Int32) := (if x0 < (97 : Int32) then (some (-1 : Int32)) else (if (102 : Int32) < x0 then (some (-1 : Int32)) else (some ((x0 - (97 : Int32)) + (10 : Int32)))))
def fX4_figureOf (x0 : Int32) : Option (Int32) := (if x0 < (48 : Int32) then (fX4_figureOf_J17 x0) else (if (57 : Int32) < x0 then (fX4_figureOf_J17 x0) else (some (x0 - (48 : Int32)))))
set_option maxHeartbeats 4000000 in
set_option maxRecDepth 100000 in
theorem kX4_figureOf (l : Launch) (D : va_G) (cI cZ cD cG : ClassId) (x0 : Int32) (res : Int32) (hF : fX4_figureOf x0 = some res) : gMi l D (gty cI cZ cD cG) yX4_figureOf wsX4_figureOf rmX4_figureOf [.int x0] [] res [] := by
  refine gMi.of (cc := cX4_figureOf) (maxL := 1) (by decide) rfl (Nat.le_of_ble_eq_true rfl) ?_
  intro p e s m args below meth c A ls Q hx hb hts hown hml hK hA hP hD hS hQ hl
  have hown : s.vm.findClass RX4 = some m.cls := hown
  have hl : lv_has ls 1 [(0, .int x0)] := hl
  rw [fX4_figureOf] at hF
  refine lv_iload_n hx hb dX4_figureOf_0 rfl (lv_at hl 0 rfl) ?_
  refine lv_bipush (v := 48) hx hb dX4_figureOf_1 (by decide) ?_
  have Jn_17 : ∀ (H : Heap) (locs : List Loc) (ls : Array Slot), (fX4_figureOf_J17 x0) = some res → va_P D vwCl [] H → va_D A [] → va_S A s.heap H locs → lv_has ls 1 [(0, .int x0)] → W p l e rmX4_figureOf s m args below meth c H locs 0 0 Q (F0 m 17 ls []) := by
    clear hF
    intro  H locs ls hF hP hD hS hl
    rw [fX4_figureOf_J17] at hF
    refine lv_iload_n hx hb dX4_figureOf_17 rfl (lv_at hl 0 rfl) ?_
    refine lv_bipush (v := 97) hx hb dX4_figureOf_18 (by decide) ?_
    refine lv_icmp_lt (tgt := 39) hx hb dX4_figureOf_20 (by decide) (fun cc => ?_) (fun cc => ?_)
    · have hF := gi_pos hF cc
      refine lv_iconst (v := (-1)) hx hb dX4_figureOf_39 (by decide) ?_
      obtain rfl := Option.some.inj hF
      exact hQ _ _ _ _ _ hP hD hS rfl dX4_figureOf_40
    · have hF := gi_neg hF cc
      refine lv_iload_n hx hb dX4_figureOf_23 rfl (lv_at hl 0 rfl) ?_
      refine lv_bipush (v := 102) hx hb dX4_figureOf_24 (by decide) ?_
      refine lv_icmp_gt (tgt := 39) hx hb dX4_figureOf_26 (by decide) (fun cc => ?_) (fun cc => ?_)
      · have hF := gi_pos hF cc
        refine lv_iconst (v := (-1)) hx hb dX4_figureOf_39 (by decide) ?_
        obtain rfl := Option.some.inj hF
        exact hQ _ _ _ _ _ hP hD hS rfl dX4_figureOf_40
      · have hF := gi_neg hF cc
        refine lv_iload_n hx hb dX4_figureOf_29 rfl (lv_at hl 0 rfl) ?_
        refine lv_bipush (v := 97) hx hb dX4_figureOf_30 (by decide) ?_
        refine lv_isub hx hb dX4_figureOf_32 ?_
        refine lv_bipush (v := 10) hx hb dX4_figureOf_33 (by decide) ?_
        refine lv_iadd hx hb dX4_figureOf_35 ?_
        refine lv_goto (tgt := 40) hx hb dX4_figureOf_36 (by decide) ?_
        obtain rfl := Option.some.inj hF
        exact hQ _ _ _ _ _ hP hD hS rfl dX4_figureOf_40
  refine lv_icmp_lt (tgt := 17) hx hb dX4_figureOf_3 (by decide) (fun cc => ?_) (fun cc => ?_)
  · have hF := gi_pos hF cc
    exact Jn_17  _ _ _ hF hP hD hS (lv_sub hl [0] rfl)
  · have hF := gi_neg hF cc
    refine lv_iload_n hx hb dX4_figureOf_6 rfl (lv_at hl 0 rfl) ?_
    refine lv_bipush (v := 57) hx hb dX4_figureOf_7 (by decide) ?_
    refine lv_icmp_gt (tgt := 17) hx hb dX4_figureOf_9 (by decide) (fun cc => ?_) (fun cc => ?_)
    · have hF := gi_pos hF cc
      exact Jn_17  _ _ _ hF hP hD hS (lv_sub hl [0] rfl)
    · have hF := gi_neg hF cc
      refine lv_iload_n hx hb dX4_figureOf_12 rfl (lv_at hl 0 rfl) ?_
      refine lv_bipush (v := 48) hx hb dX4_figureOf_13 (by decide) ?_
      refine lv_isub hx hb dX4_figureOf_15 ?_
      obtain rfl := Option.some.inj hF
      exact hQ _ _ _ _ _ hP hD hS rfl dX4_figureOf_16

abbrev rmX4_readNumber : Room := { frames := 1, cells := 0, slots := 0, locals := 20 }
def fX4_readNumber_L5 (x2 : Int32) (v_t_size : Int32) (c_t_signs : Nat → Int32) (x1 : Int32) : Nat → Int32 → Int32 → Int32 → Option (Int32 × Int32)
  | 0, _, _, _ => none
  | n_5 + 1, x3_5, x4_5, v_t_place_5 => (if x2 ≤ x4_5 then (some (x3_5, v_t_place_5)) else (Option.bind (fX4_sign v_t_size v_t_place_5 c_t_signs) (fun q_12 => (Option.bind (fX4_figureOf q_12) (fun q_15 => (if q_15 < 0 then (some (x3_5, v_t_place_5)) else (if q_15 < x1 then (gl ((x3_5 * x1) + q_15) (fun x3_39 => (gl (v_t_place_5 + (1 : Int32)) (fun f_47 => (gl (x4_5 + 1) (fun x4_50 => (fX4_readNumber_L5 x2 v_t_size c_t_signs x1 n_5 x3_39 x4_50 f_47))))))) else (some (x3_5, v_t_place_5)))))))))
def fX4_readNumber (x1 : Int32) (x2 : Int32) (v_t_size : Int32) (v_t_place : Int32) (c_t_signs : Nat → Int32) : Option (Int32 × Int32) := (fX4_readNumber_L5 x2 v_t_size c_t_signs x1 gF (0 : Int32) (0 : Int32) v_t_place)
set_option maxHeartbeats 4000000 in
set_option maxRecDepth 100000 in
theorem kX4_readNumber (l : Launch) (D : va_G) (cI cZ cD cG : ClassId) (h_t : Nat) (h_t_keys : Nat) (h_t_signs : Nat) (v_t_size : Int32) (v_t_place : Int32) (c_t_signs : Nat → Int32) (x1 : Int32) (x2 : Int32) (res : Int32 × Int32) (hF : fX4_readNumber x1 x2 v_t_size v_t_place c_t_signs = some res) : gMi l D (gty cI cZ cD cG) yX4_readNumber wsX4_readNumber rmX4_readNumber [.ref h_t, .int x1, .int x2] [gO h_t 4 [.ref h_t_keys, .ref h_t_signs, .int v_t_size, .int v_t_place], gA h_t_signs cI 90 c_t_signs] res.1 [gO h_t 4 [.ref h_t_keys, .ref h_t_signs, .int v_t_size, .int res.2], gA h_t_signs cI 90 c_t_signs] := by
  refine gMi.of (cc := cX4_readNumber) (maxL := 6) (by decide) rfl (Nat.le_of_ble_eq_true rfl) ?_
  intro p e s m args below meth c A ls Q hx hb hts hown hml hK hA hP hD hS hQ hl
  have hown : s.vm.findClass RX4 = some m.cls := hown
  have hl : lv_has ls 6 [(0, .ref h_t), (1, .int x1), (2, .int x2)] := hl
  have hw0 := hts (.fieldLink RX4 26 "NibbleTrunk$Reader" "place" "I") (by decide +kernel)
  have hinX4 : ∀ w ∈ wsX40, w ∈ wsX4_readNumber := by decide +kernel
  rw [fX4_readNumber] at hF
  refine lv_iconst (v := 0) hx hb dX4_readNumber_0 (by decide) ?_
  refine lv_istore_n (lv' := [(3, .int (0 : Int32)), (0, .ref h_t), (1, .int x1), (2, .int x2)]) hx hb dX4_readNumber_1 rfl hl (by decide) rfl (fun ls hl => ?_)
  refine lv_iconst (v := 0) hx hb dX4_readNumber_2 (by decide) ?_
  refine lv_istore (lv' := [(4, .int (0 : Int32)), (3, .int (0 : Int32)), (0, .ref h_t), (1, .int x1), (2, .int x2)]) hx hb dX4_readNumber_3 hl (by decide) rfl (fun ls hl => ?_)
  have Ln_5 : ∀ (n_5 : Nat) (x3_5 : Int32) (x4_5 : Int32) (v_t_place_5 : Int32) (H : Heap) (locs : List Loc) (ls : Array Slot), fX4_readNumber_L5 x2 v_t_size c_t_signs x1 n_5 x3_5 x4_5 v_t_place_5 = some res → va_P D vwCl [gO h_t 4 [.ref h_t_keys, .ref h_t_signs, .int v_t_size, .int v_t_place_5], gA h_t_signs cI 90 c_t_signs] H → va_D A [gO h_t 4 [.ref h_t_keys, .ref h_t_signs, .int v_t_size, .int v_t_place_5], gA h_t_signs cI 90 c_t_signs] → va_S A s.heap H locs → lv_has ls 6 [(0, .ref h_t), (1, .int x1), (2, .int x2), (3, .int x3_5), (4, .int x4_5)] → W p l e rmX4_readNumber s m args below meth c H locs 0 0 Q (F0 m 5 ls []) := by
    intro n_5
    induction n_5 with
    | zero =>
      intro x3_5 x4_5 v_t_place_5 H locs ls hF
      rw [fX4_readNumber_L5] at hF
      cases hF
    | succ n_5 ih5 =>
      intro x3_5 x4_5 v_t_place_5 H locs ls hF hP hD hS hl
      rw [fX4_readNumber_L5] at hF
      refine lv_iload hx hb dX4_readNumber_5 (lv_at hl 4 rfl) ?_
      refine lv_iload_n hx hb dX4_readNumber_7 rfl (lv_at hl 2 rfl) ?_
      refine lv_icmp_ge (tgt := 56) hx hb dX4_readNumber_8 (by decide) (fun cc => ?_) (fun cc => ?_)
      · have hF := gi_pos hF cc
        refine lv_iload_n hx hb dX4_readNumber_56 rfl (lv_at hl 3 rfl) ?_
        obtain rfl := Option.some.inj hF
        exact hQ _ _ _ _ _ hP hD hS rfl dX4_readNumber_57
      · have hF := gi_neg hF cc
        refine lv_aload_n hx hb dX4_readNumber_11 rfl (lv_at hl 0 rfl) ?_
        obtain ⟨q_12, hc, hF⟩ := gb_some hF
        refine gcVi (ci := 4) (As := []) (rest := []) (pre := [gO h_t 4 [.ref h_t_keys, .ref h_t_signs, .int v_t_size, .int v_t_place_5], gA h_t_signs cI 90 c_t_signs]) (post := [gO h_t 4 [.ref h_t_keys, .ref h_t_signs, .int v_t_size, .int v_t_place_5], gA h_t_signs cI 90 c_t_signs]) (wr := []) ⟨hx, hb, hml, hown, hts⟩ (kX4_sign l D cI cZ cD cG h_t h_t_keys h_t_signs v_t_size v_t_place_5 c_t_signs q_12 hc) (cwV 0 hts gX4_readNumber_X4_sign rfl rfl rfl (by decide +kernel) ⟨Nat.le_of_ble_eq_true rfl, Nat.le_of_ble_eq_true rfl⟩) hK hP hD hS hA [0, 1] [] rfl rfl (by decide) (by decide) (by decide) 0 rfl rfl rfl hl.1 rfl (Nat.le_of_ble_eq_true rfl) dX4_readNumber_12 ⟨Nat.zero_le _, Nat.zero_le _⟩ (fun H locs hP hD hS => ?_)
        have hP : va_P D vwCl [gO h_t 4 [.ref h_t_keys, .ref h_t_signs, .int v_t_size, .int v_t_place_5], gA h_t_signs cI 90 c_t_signs] H := hP
        have hD : va_D A [gO h_t 4 [.ref h_t_keys, .ref h_t_signs, .int v_t_size, .int v_t_place_5], gA h_t_signs cI 90 c_t_signs] := hD
        obtain ⟨q_15, hc, hF⟩ := gb_some hF
        refine gcSi (As := [.int q_12]) (rest := []) (pre := []) (post := []) (wr := [gO h_t 4 [.ref h_t_keys, .ref h_t_signs, .int v_t_size, .int v_t_place_5], gA h_t_signs cI 90 c_t_signs]) ⟨hx, hb, hml, hown, hts⟩ (kX4_figureOf l D cI cZ cD cG q_12 q_15 hc) (va_cwS 1 hts gX4_readNumber_X4_figureOf rfl rfl rfl (by decide +kernel) ⟨Nat.le_of_ble_eq_true rfl, Nat.le_of_ble_eq_true rfl⟩) hK hP hD hS hA [] [0, 1] rfl rfl (by decide) (by decide) (by decide) rfl hl.1 rfl (Nat.le_of_ble_eq_true rfl) dX4_readNumber_15 ⟨Nat.zero_le _, Nat.zero_le _⟩ (fun H locs hP hD hS => ?_)
        have hP : va_P D vwCl [gO h_t 4 [.ref h_t_keys, .ref h_t_signs, .int v_t_size, .int v_t_place_5], gA h_t_signs cI 90 c_t_signs] H := hP
        have hD : va_D A [gO h_t 4 [.ref h_t_keys, .ref h_t_signs, .int v_t_size, .int v_t_place_5], gA h_t_signs cI 90 c_t_signs] := hD
        refine lv_istore (lv' := [(5, .int q_15), (0, .ref h_t), (1, .int x1), (2, .int x2), (3, .int x3_5), (4, .int x4_5)]) hx hb dX4_readNumber_18 hl (by decide) rfl (fun ls hl => ?_)
        refine lv_iload hx hb dX4_readNumber_20 (lv_at hl 0 rfl) ?_
        refine lv_if_lt (tgt := 31) hx hb dX4_readNumber_22 (by decide) (fun cc => ?_) (fun cc => ?_)
        · have hF := gi_pos hF cc
          refine lv_iload_n hx hb dX4_readNumber_31 rfl (lv_at hl 4 rfl) ?_
          obtain rfl := Option.some.inj hF
          exact hQ _ _ _ _ _ hP hD hS rfl dX4_readNumber_32
        · have hF := gi_neg hF cc
          refine lv_iload hx hb dX4_readNumber_25 (lv_at hl 0 rfl) ?_
          refine lv_iload_n hx hb dX4_readNumber_27 rfl (lv_at hl 2 rfl) ?_
          refine lv_icmp_lt (tgt := 33) hx hb dX4_readNumber_28 (by decide) (fun cc => ?_) (fun cc => ?_)
          · have hF := gi_pos hF cc
            refine lv_iload_n hx hb dX4_readNumber_33 rfl (lv_at hl 4 rfl) ?_
            refine lv_iload_n hx hb dX4_readNumber_34 rfl (lv_at hl 2 rfl) ?_
            refine lv_imul hx hb dX4_readNumber_35 ?_
            refine lv_iload hx hb dX4_readNumber_36 (lv_at hl 0 rfl) ?_
            refine lv_iadd hx hb dX4_readNumber_38 ?_
            refine lv_topi (fun x3_39 ex => ?_)
            have hF := gl_some hF ex
            refine lv_istore_n (lv' := [(3, .int x3_39), (5, .int q_15), (0, .ref h_t), (1, .int x1), (2, .int x2), (4, .int x4_5)]) hx hb dX4_readNumber_39 rfl hl (by decide) rfl (fun ls hl => ?_)
            refine lv_aload_n hx hb dX4_readNumber_40 rfl (lv_at hl 2 rfl) ?_
            refine lv_dup hx hb dX4_readNumber_41 rfl ?_
            refine va_get (D := D) (ci := 4) (v := .int v_t_place_5) (C := RX4) (T := TX4) (N := 4) hx hb hts hinX4 hown hK hP 0 rfl rfl 3 (by decide) hw0 (fun _ h9 => h9) rfl dX4_readNumber_42 ?_
            refine lv_iconst (v := 1) hx hb dX4_readNumber_45 (by decide) ?_
            refine lv_iadd hx hb dX4_readNumber_46 ?_
            refine lv_topi (fun f_47 ex => ?_)
            have hF := gl_some hF ex
            refine va_put (D := D) (ci := 4) (v := .int f_47) (ty := .int) (C := RX4) (T := TX4) (N := 4) hx hb hts hinX4 tyX4 tyX4_ok nmX4 hown hK hP hD hS 0 rfl rfl 3 (by decide) hw0 (fun _ h9 => h9) rfl (by decide +kernel) rfl rfl (Nat.le_of_ble_eq_true rfl) dX4_readNumber_47 (fun H locs hP hD hS => ?_)
            have hP : va_P D vwCl [gO h_t 4 [.ref h_t_keys, .ref h_t_signs, .int v_t_size, .int f_47], gA h_t_signs cI 90 c_t_signs] H := hP
            have hD : va_D A [gO h_t 4 [.ref h_t_keys, .ref h_t_signs, .int v_t_size, .int f_47], gA h_t_signs cI 90 c_t_signs] := hD
            obtain ⟨x4_50, ex⟩ : ∃ y : Int32, y = (x4_5 + 1) := ⟨_, rfl⟩
            have hF := gl_some hF ex
            refine lv_iinc (v := x4_50) (lv' := [(4, .int x4_50), (3, .int x3_39), (5, .int q_15), (0, .ref h_t), (1, .int x1), (2, .int x2)]) hx hb dX4_readNumber_50 hl (k := 5) rfl (by rw [ex]; rfl) (by decide) rfl (fun ls hl => ?_)
            refine lv_goto (tgt := 5) hx hb dX4_readNumber_53 (by decide) ?_
            exact ih5 x3_39 x4_50 f_47 _ _ _ hF hP hD hS (lv_sub hl [3, 4, 5, 1, 0] rfl)
          · have hF := gi_neg hF cc
            refine lv_iload_n hx hb dX4_readNumber_31 rfl (lv_at hl 4 rfl) ?_
            obtain rfl := Option.some.inj hF
            exact hQ _ _ _ _ _ hP hD hS rfl dX4_readNumber_32
  exact Ln_5 gF (0 : Int32) (0 : Int32) v_t_place _ _ _ hF hP hD hS (lv_sub hl [2, 3, 4, 1, 0] rfl)

abbrev rmX4_readKey : Room := { frames := 3, cells := 0, slots := 0, locals := 65 }
def fX4_readKey (v_t_size : Int32) (v_t_place : Int32) (c_t_signs : Nat → Int32) (v_t_keys_size : Int32) (c_t_keys_words : Nat → Int32) (c_t_keys_values : Nat → Int32) : Option (Int32 × Int32 × Int32 × (Nat → Int32) × (Nat → Int32)) := (Option.bind (fX4_readNumber (16 : Int32) (6 : Int32) v_t_size v_t_place c_t_signs) (fun q_10 => (gl (q_10.2 - v_t_place) (fun x3_20 => (if x3_20 = 0 then (some (q_10.2, q_10.2, v_t_keys_size, c_t_keys_words, c_t_keys_values)) else (Option.bind (fX4_sign v_t_size q_10.2 c_t_signs) (fun q_26 => (Option.bind (fX4_figureOf q_26) (fun q_29 => (if q_29 = (-1 : Int32) then (Option.bind (fX6_pack q_10.1 x3_20) (fun q_43 => (Option.bind (fX1_has q_43 v_t_keys_size c_t_keys_words) (fun q_54 => (if q_54 = 0 then (Option.bind (fX1_hasRoomFor q_43 v_t_keys_size c_t_keys_words) (fun q_66 => (if q_66 = 0 then (some (v_t_place, q_10.2, v_t_keys_size, c_t_keys_words, c_t_keys_values)) else (Option.bind (fX4_sign v_t_size q_10.2 c_t_signs) (fun q_75 => (if q_75 = (61 : Int32) then (gl (q_10.2 + (1 : Int32)) (fun f_95 => (Option.bind (fX4_readNumber (10 : Int32) (3 : Int32) v_t_size f_95 c_t_signs) (fun q_108 => (if q_108.2 = f_95 then (some (q_108.2, q_108.2, v_t_keys_size, c_t_keys_words, c_t_keys_values)) else (Option.bind (fX4_sign v_t_size q_108.2 c_t_signs) (fun q_123 => (if q_123 = (59 : Int32) then (gl (q_108.2 + (1 : Int32)) (fun f_143 => (Option.bind (fX1_insert q_43 q_108.1 v_t_keys_size c_t_keys_words c_t_keys_values) (fun q_154 => (some ((-9 : Int32), f_143, q_154.1, q_154.2.1, q_154.2.2)))))) else (some (q_108.2, q_108.2, v_t_keys_size, c_t_keys_words, c_t_keys_values)))))))))) else (some (q_10.2, q_10.2, v_t_keys_size, c_t_keys_words, c_t_keys_values)))))))) else (some (v_t_place, q_10.2, v_t_keys_size, c_t_keys_words, c_t_keys_values))))))) else (some (q_10.2, q_10.2, v_t_keys_size, c_t_keys_words, c_t_keys_values))))))))))))
set_option maxHeartbeats 4000000 in
set_option maxRecDepth 100000 in
theorem kX4_readKey (l : Launch) (D : va_G) (cI cZ cD cG : ClassId) (h_t : Nat) (h_t_keys : Nat) (h_t_signs : Nat) (v_t_size : Int32) (v_t_place : Int32) (c_t_signs : Nat → Int32) (v_t_keys_size : Int32) (h_t_keys_words : Nat) (h_t_keys_values : Nat) (c_t_keys_words : Nat → Int32) (c_t_keys_values : Nat → Int32) (res : Int32 × Int32 × Int32 × (Nat → Int32) × (Nat → Int32)) (hF : fX4_readKey v_t_size v_t_place c_t_signs v_t_keys_size c_t_keys_words c_t_keys_values = some res) : gMi l D (gty cI cZ cD cG) yX4_readKey wsX4_readKey rmX4_readKey [.ref h_t] [gO h_t 4 [.ref h_t_keys, .ref h_t_signs, .int v_t_size, .int v_t_place], gA h_t_signs cI 90 c_t_signs, gO h_t_keys 1 [.int v_t_keys_size, .ref h_t_keys_words, .ref h_t_keys_values], gA h_t_keys_words cI 48 c_t_keys_words, gA h_t_keys_values cI 48 c_t_keys_values] res.1 [gO h_t 4 [.ref h_t_keys, .ref h_t_signs, .int v_t_size, .int res.2.1], gA h_t_signs cI 90 c_t_signs, gO h_t_keys 1 [.int res.2.2.1, .ref h_t_keys_words, .ref h_t_keys_values], gA h_t_keys_words cI 48 res.2.2.2.1, gA h_t_keys_values cI 48 res.2.2.2.2] := by
  refine gMi.of (cc := cX4_readKey) (maxL := 7) (by decide) rfl (Nat.le_of_ble_eq_true rfl) ?_
  intro p e s m args below meth c A ls Q hx hb hts hown hml hK hA hP hD hS hQ hl
  have hown : s.vm.findClass RX4 = some m.cls := hown
  have hl : lv_has ls 7 [(0, .ref h_t)] := hl
  have hw0 := hts (.fieldLink RX4 26 "NibbleTrunk$Reader" "place" "I") (by decide +kernel)
  have hinX4 : ∀ w ∈ wsX40, w ∈ wsX4_readKey := by decide +kernel
  have hw2 := hts (.fieldLink RX4 12 "NibbleTrunk$Reader" "keys" "LNibbleTrunk$Keys;") (by decide +kernel)
  rw [fX4_readKey] at hF
  refine lv_aload_n hx hb dX4_readKey_0 rfl (lv_at hl 0 rfl) ?_
  refine va_get (D := D) (ci := 4) (v := .int v_t_place) (C := RX4) (T := TX4) (N := 4) hx hb hts hinX4 hown hK hP 0 rfl rfl 3 (by decide) hw0 (fun _ h9 => h9) rfl dX4_readKey_1 ?_
  refine lv_istore_n (lv' := [(1, .int v_t_place), (0, .ref h_t)]) hx hb dX4_readKey_4 rfl hl (by decide) rfl (fun ls hl => ?_)
  refine lv_aload_n hx hb dX4_readKey_5 rfl (lv_at hl 1 rfl) ?_
  refine lv_bipush (v := 16) hx hb dX4_readKey_6 (by decide) ?_
  refine lv_bipush (v := 6) hx hb dX4_readKey_8 (by decide) ?_
  obtain ⟨q_10, hc, hF⟩ := gb_some hF
  refine gcVi (ci := 4) (As := [.int (16 : Int32), .int (6 : Int32)]) (rest := []) (pre := [gO h_t 4 [.ref h_t_keys, .ref h_t_signs, .int v_t_size, .int v_t_place], gA h_t_signs cI 90 c_t_signs]) (post := [gO h_t 4 [.ref h_t_keys, .ref h_t_signs, .int v_t_size, .int q_10.2], gA h_t_signs cI 90 c_t_signs]) (wr := [gO h_t_keys 1 [.int v_t_keys_size, .ref h_t_keys_words, .ref h_t_keys_values], gA h_t_keys_words cI 48 c_t_keys_words, gA h_t_keys_values cI 48 c_t_keys_values]) ⟨hx, hb, hml, hown, hts⟩ (kX4_readNumber l D cI cZ cD cG h_t h_t_keys h_t_signs v_t_size v_t_place c_t_signs (16 : Int32) (6 : Int32) q_10 hc) (cwV 2 hts gX4_readKey_X4_readNumber rfl rfl rfl (by decide +kernel) ⟨Nat.le_of_ble_eq_true rfl, Nat.le_of_ble_eq_true rfl⟩) hK hP hD hS hA [0, 1] [2, 3, 4] rfl rfl (by decide) (by decide) (by decide) 0 rfl rfl rfl hl.1 rfl (Nat.le_of_ble_eq_true rfl) dX4_readKey_10 ⟨Nat.zero_le _, Nat.zero_le _⟩ (fun H locs hP hD hS => ?_)
  have hP : va_P D vwCl [gO h_t_keys 1 [.int v_t_keys_size, .ref h_t_keys_words, .ref h_t_keys_values], gA h_t_keys_words cI 48 c_t_keys_words, gA h_t_keys_values cI 48 c_t_keys_values, gO h_t 4 [.ref h_t_keys, .ref h_t_signs, .int v_t_size, .int q_10.2], gA h_t_signs cI 90 c_t_signs] H := hP
  have hD : va_D A [gO h_t_keys 1 [.int v_t_keys_size, .ref h_t_keys_words, .ref h_t_keys_values], gA h_t_keys_words cI 48 c_t_keys_words, gA h_t_keys_values cI 48 c_t_keys_values, gO h_t 4 [.ref h_t_keys, .ref h_t_signs, .int v_t_size, .int q_10.2], gA h_t_signs cI 90 c_t_signs] := hD
  refine lv_istore_n (lv' := [(2, .int q_10.1), (1, .int v_t_place), (0, .ref h_t)]) hx hb dX4_readKey_13 rfl hl (by decide) rfl (fun ls hl => ?_)
  refine lv_aload_n hx hb dX4_readKey_14 rfl (lv_at hl 2 rfl) ?_
  refine va_get (D := D) (ci := 4) (v := .int q_10.2) (C := RX4) (T := TX4) (N := 4) hx hb hts hinX4 hown hK hP 3 rfl rfl 3 (by decide) hw0 (fun _ h9 => h9) rfl dX4_readKey_15 ?_
  refine lv_iload_n hx hb dX4_readKey_18 rfl (lv_at hl 1 rfl) ?_
  refine lv_isub hx hb dX4_readKey_19 ?_
  refine lv_topi (fun x3_20 ex => ?_)
  have hF := gl_some hF ex
  refine lv_istore_n (lv' := [(3, .int x3_20), (2, .int q_10.1), (1, .int v_t_place), (0, .ref h_t)]) hx hb dX4_readKey_20 rfl hl (by decide) rfl (fun ls hl => ?_)
  refine lv_iload_n hx hb dX4_readKey_21 rfl (lv_at hl 0 rfl) ?_
  refine lv_if_eq (tgt := 36) hx hb dX4_readKey_22 (by decide) (fun cc => ?_) (fun cc => ?_)
  · have hF := gi_pos hF cc
    refine lv_aload_n hx hb dX4_readKey_36 rfl (lv_at hl 3 rfl) ?_
    refine va_get (D := D) (ci := 4) (v := .int q_10.2) (C := RX4) (T := TX4) (N := 4) hx hb hts hinX4 hown hK hP 3 rfl rfl 3 (by decide) hw0 (fun _ h9 => h9) rfl dX4_readKey_37 ?_
    obtain rfl := Option.some.inj hF
    exact hQ _ _ _ _ _ (hP.sub [3, 4, 0, 1, 2] rfl) (hD.sub [3, 4, 0, 1, 2] (by decide) rfl) hS rfl dX4_readKey_40
  · have hF := gi_neg hF cc
    refine lv_aload_n hx hb dX4_readKey_25 rfl (lv_at hl 3 rfl) ?_
    obtain ⟨q_26, hc, hF⟩ := gb_some hF
    refine gcVi (ci := 4) (As := []) (rest := []) (pre := [gO h_t 4 [.ref h_t_keys, .ref h_t_signs, .int v_t_size, .int q_10.2], gA h_t_signs cI 90 c_t_signs]) (post := [gO h_t 4 [.ref h_t_keys, .ref h_t_signs, .int v_t_size, .int q_10.2], gA h_t_signs cI 90 c_t_signs]) (wr := [gO h_t_keys 1 [.int v_t_keys_size, .ref h_t_keys_words, .ref h_t_keys_values], gA h_t_keys_words cI 48 c_t_keys_words, gA h_t_keys_values cI 48 c_t_keys_values]) ⟨hx, hb, hml, hown, hts⟩ (kX4_sign l D cI cZ cD cG h_t h_t_keys h_t_signs v_t_size q_10.2 c_t_signs q_26 hc) (cwV 0 hts gX4_readKey_X4_sign rfl rfl rfl (by decide +kernel) ⟨Nat.le_of_ble_eq_true rfl, Nat.le_of_ble_eq_true rfl⟩) hK hP hD hS hA [3, 4] [0, 1, 2] rfl rfl (by decide) (by decide) (by decide) 0 rfl rfl rfl hl.1 rfl (Nat.le_of_ble_eq_true rfl) dX4_readKey_26 ⟨Nat.zero_le _, Nat.zero_le _⟩ (fun H locs hP hD hS => ?_)
    have hP : va_P D vwCl [gO h_t_keys 1 [.int v_t_keys_size, .ref h_t_keys_words, .ref h_t_keys_values], gA h_t_keys_words cI 48 c_t_keys_words, gA h_t_keys_values cI 48 c_t_keys_values, gO h_t 4 [.ref h_t_keys, .ref h_t_signs, .int v_t_size, .int q_10.2], gA h_t_signs cI 90 c_t_signs] H := hP
    have hD : va_D A [gO h_t_keys 1 [.int v_t_keys_size, .ref h_t_keys_words, .ref h_t_keys_values], gA h_t_keys_words cI 48 c_t_keys_words, gA h_t_keys_values cI 48 c_t_keys_values, gO h_t 4 [.ref h_t_keys, .ref h_t_signs, .int v_t_size, .int q_10.2], gA h_t_signs cI 90 c_t_signs] := hD
    obtain ⟨q_29, hc, hF⟩ := gb_some hF
    refine gcSi (As := [.int q_26]) (rest := []) (pre := []) (post := []) (wr := [gO h_t_keys 1 [.int v_t_keys_size, .ref h_t_keys_words, .ref h_t_keys_values], gA h_t_keys_words cI 48 c_t_keys_words, gA h_t_keys_values cI 48 c_t_keys_values, gO h_t 4 [.ref h_t_keys, .ref h_t_signs, .int v_t_size, .int q_10.2], gA h_t_signs cI 90 c_t_signs]) ⟨hx, hb, hml, hown, hts⟩ (kX4_figureOf l D cI cZ cD cG q_26 q_29 hc) (va_cwS 1 hts gX4_readKey_X4_figureOf rfl rfl rfl (by decide +kernel) ⟨Nat.le_of_ble_eq_true rfl, Nat.le_of_ble_eq_true rfl⟩) hK hP hD hS hA [] [0, 1, 2, 3, 4] rfl rfl (by decide) (by decide) (by decide) rfl hl.1 rfl (Nat.le_of_ble_eq_true rfl) dX4_readKey_29 ⟨Nat.zero_le _, Nat.zero_le _⟩ (fun H locs hP hD hS => ?_)
    have hP : va_P D vwCl [gO h_t_keys 1 [.int v_t_keys_size, .ref h_t_keys_words, .ref h_t_keys_values], gA h_t_keys_words cI 48 c_t_keys_words, gA h_t_keys_values cI 48 c_t_keys_values, gO h_t 4 [.ref h_t_keys, .ref h_t_signs, .int v_t_size, .int q_10.2], gA h_t_signs cI 90 c_t_signs] H := hP
    have hD : va_D A [gO h_t_keys 1 [.int v_t_keys_size, .ref h_t_keys_words, .ref h_t_keys_values], gA h_t_keys_words cI 48 c_t_keys_words, gA h_t_keys_values cI 48 c_t_keys_values, gO h_t 4 [.ref h_t_keys, .ref h_t_signs, .int v_t_size, .int q_10.2], gA h_t_signs cI 90 c_t_signs] := hD
    refine lv_iconst (v := (-1)) hx hb dX4_readKey_32 (by decide) ?_
    refine lv_icmp_eq (tgt := 41) hx hb dX4_readKey_33 (by decide) (fun cc => ?_) (fun cc => ?_)
    · have hF := gi_pos hF cc
      refine lv_iload_n hx hb dX4_readKey_41 rfl (lv_at hl 1 rfl) ?_
      refine lv_iload_n hx hb dX4_readKey_42 rfl (lv_at hl 0 rfl) ?_
      obtain ⟨q_43, hc, hF⟩ := gb_some hF
      refine gcSi (As := [.int q_10.1, .int x3_20]) (rest := []) (pre := []) (post := []) (wr := [gO h_t_keys 1 [.int v_t_keys_size, .ref h_t_keys_words, .ref h_t_keys_values], gA h_t_keys_words cI 48 c_t_keys_words, gA h_t_keys_values cI 48 c_t_keys_values, gO h_t 4 [.ref h_t_keys, .ref h_t_signs, .int v_t_size, .int q_10.2], gA h_t_signs cI 90 c_t_signs]) ⟨hx, hb, hml, hown, hts⟩ (kX6_pack l D cI cZ cD cG q_10.1 x3_20 q_43 hc) (va_cwS 2 hts gX4_readKey_X6_pack rfl rfl rfl (by decide +kernel) ⟨Nat.le_of_ble_eq_true rfl, Nat.le_of_ble_eq_true rfl⟩) hK hP hD hS hA [] [0, 1, 2, 3, 4] rfl rfl (by decide) (by decide) (by decide) rfl hl.1 rfl (Nat.le_of_ble_eq_true rfl) dX4_readKey_43 ⟨Nat.zero_le _, Nat.zero_le _⟩ (fun H locs hP hD hS => ?_)
      have hP : va_P D vwCl [gO h_t_keys 1 [.int v_t_keys_size, .ref h_t_keys_words, .ref h_t_keys_values], gA h_t_keys_words cI 48 c_t_keys_words, gA h_t_keys_values cI 48 c_t_keys_values, gO h_t 4 [.ref h_t_keys, .ref h_t_signs, .int v_t_size, .int q_10.2], gA h_t_signs cI 90 c_t_signs] H := hP
      have hD : va_D A [gO h_t_keys 1 [.int v_t_keys_size, .ref h_t_keys_words, .ref h_t_keys_values], gA h_t_keys_words cI 48 c_t_keys_words, gA h_t_keys_values cI 48 c_t_keys_values, gO h_t 4 [.ref h_t_keys, .ref h_t_signs, .int v_t_size, .int q_10.2], gA h_t_signs cI 90 c_t_signs] := hD
      refine lv_istore (lv' := [(4, .int q_43), (3, .int x3_20), (2, .int q_10.1), (1, .int v_t_place), (0, .ref h_t)]) hx hb dX4_readKey_46 hl (by decide) rfl (fun ls hl => ?_)
      refine lv_aload_n hx hb dX4_readKey_48 rfl (lv_at hl 4 rfl) ?_
      refine va_get (D := D) (ci := 4) (v := .ref h_t_keys) (C := RX4) (T := TX4) (N := 4) hx hb hts hinX4 hown hK hP 3 rfl rfl 0 (by decide) hw2 (fun _ h9 => h9) rfl dX4_readKey_49 ?_
      refine lv_iload hx hb dX4_readKey_52 (lv_at hl 0 rfl) ?_
      obtain ⟨q_54, hc, hF⟩ := gb_some hF
      refine gcVz (ci := 1) (As := [.int q_43]) (rest := []) (pre := [gO h_t_keys 1 [.int v_t_keys_size, .ref h_t_keys_words, .ref h_t_keys_values], gA h_t_keys_words cI 48 c_t_keys_words]) (post := [gO h_t_keys 1 [.int v_t_keys_size, .ref h_t_keys_words, .ref h_t_keys_values], gA h_t_keys_words cI 48 c_t_keys_words]) (wr := [gA h_t_keys_values cI 48 c_t_keys_values, gO h_t 4 [.ref h_t_keys, .ref h_t_signs, .int v_t_size, .int q_10.2], gA h_t_signs cI 90 c_t_signs]) ⟨hx, hb, hml, hown, hts⟩ (kX1_has l D cI cZ cD cG h_t_keys v_t_keys_size h_t_keys_words h_t_keys_values c_t_keys_words q_43 q_54 hc) (cwV 1 hts gX4_readKey_X1_has rfl rfl rfl (by decide +kernel) ⟨Nat.le_of_ble_eq_true rfl, Nat.le_of_ble_eq_true rfl⟩) hK hP hD hS hA [0, 1] [2, 3, 4] rfl rfl (by decide) (by decide) (by decide) 0 rfl rfl rfl hl.1 rfl (Nat.le_of_ble_eq_true rfl) dX4_readKey_54 ⟨Nat.zero_le _, Nat.zero_le _⟩ (fun H locs hnq_54 hP hD hS => ?_)
      have hP : va_P D vwCl [gA h_t_keys_values cI 48 c_t_keys_values, gO h_t 4 [.ref h_t_keys, .ref h_t_signs, .int v_t_size, .int q_10.2], gA h_t_signs cI 90 c_t_signs, gO h_t_keys 1 [.int v_t_keys_size, .ref h_t_keys_words, .ref h_t_keys_values], gA h_t_keys_words cI 48 c_t_keys_words] H := hP
      have hD : va_D A [gA h_t_keys_values cI 48 c_t_keys_values, gO h_t 4 [.ref h_t_keys, .ref h_t_signs, .int v_t_size, .int q_10.2], gA h_t_signs cI 90 c_t_signs, gO h_t_keys 1 [.int v_t_keys_size, .ref h_t_keys_words, .ref h_t_keys_values], gA h_t_keys_words cI 48 c_t_keys_words] := hD
      refine lv_if_ne (tgt := 72) hx hb dX4_readKey_57 (by decide) (fun cc => ?_) (fun cc => ?_)
      · have hF := gi_neg hF cc
        refine lv_iload_n hx hb dX4_readKey_72 rfl (lv_at hl 3 rfl) ?_
        obtain rfl := Option.some.inj hF
        exact hQ _ _ _ _ _ (hP.sub [1, 2, 3, 4, 0] rfl) (hD.sub [1, 2, 3, 4, 0] (by decide) rfl) hS rfl dX4_readKey_73
      · have hF := gi_pos hF cc
        refine lv_aload_n hx hb dX4_readKey_60 rfl (lv_at hl 4 rfl) ?_
        refine va_get (D := D) (ci := 4) (v := .ref h_t_keys) (C := RX4) (T := TX4) (N := 4) hx hb hts hinX4 hown hK hP 1 rfl rfl 0 (by decide) hw2 (fun _ h9 => h9) rfl dX4_readKey_61 ?_
        refine lv_iload hx hb dX4_readKey_64 (lv_at hl 0 rfl) ?_
        obtain ⟨q_66, hc, hF⟩ := gb_some hF
        refine gcVz (ci := 1) (As := [.int q_43]) (rest := []) (pre := [gO h_t_keys 1 [.int v_t_keys_size, .ref h_t_keys_words, .ref h_t_keys_values], gA h_t_keys_words cI 48 c_t_keys_words]) (post := [gO h_t_keys 1 [.int v_t_keys_size, .ref h_t_keys_words, .ref h_t_keys_values], gA h_t_keys_words cI 48 c_t_keys_words]) (wr := [gA h_t_keys_values cI 48 c_t_keys_values, gO h_t 4 [.ref h_t_keys, .ref h_t_signs, .int v_t_size, .int q_10.2], gA h_t_signs cI 90 c_t_signs]) ⟨hx, hb, hml, hown, hts⟩ (kX1_hasRoomFor l D cI cZ cD cG h_t_keys v_t_keys_size h_t_keys_words h_t_keys_values c_t_keys_words q_43 q_66 hc) (cwV 1 hts gX4_readKey_X1_hasRoomFor rfl rfl rfl (by decide +kernel) ⟨Nat.le_of_ble_eq_true rfl, Nat.le_of_ble_eq_true rfl⟩) hK hP hD hS hA [3, 4] [0, 1, 2] rfl rfl (by decide) (by decide) (by decide) 0 rfl rfl rfl hl.1 rfl (Nat.le_of_ble_eq_true rfl) dX4_readKey_66 ⟨Nat.zero_le _, Nat.zero_le _⟩ (fun H locs hnq_66 hP hD hS => ?_)
        have hP : va_P D vwCl [gA h_t_keys_values cI 48 c_t_keys_values, gO h_t 4 [.ref h_t_keys, .ref h_t_signs, .int v_t_size, .int q_10.2], gA h_t_signs cI 90 c_t_signs, gO h_t_keys 1 [.int v_t_keys_size, .ref h_t_keys_words, .ref h_t_keys_values], gA h_t_keys_words cI 48 c_t_keys_words] H := hP
        have hD : va_D A [gA h_t_keys_values cI 48 c_t_keys_values, gO h_t 4 [.ref h_t_keys, .ref h_t_signs, .int v_t_size, .int q_10.2], gA h_t_signs cI 90 c_t_signs, gO h_t_keys 1 [.int v_t_keys_size, .ref h_t_keys_words, .ref h_t_keys_values], gA h_t_keys_words cI 48 c_t_keys_words] := hD
        refine lv_if_ne (tgt := 74) hx hb dX4_readKey_69 (by decide) (fun cc => ?_) (fun cc => ?_)
        · have hF := gi_neg hF cc
          refine lv_aload_n hx hb dX4_readKey_74 rfl (lv_at hl 4 rfl) ?_
          obtain ⟨q_75, hc, hF⟩ := gb_some hF
          refine gcVi (ci := 4) (As := []) (rest := []) (pre := [gO h_t 4 [.ref h_t_keys, .ref h_t_signs, .int v_t_size, .int q_10.2], gA h_t_signs cI 90 c_t_signs]) (post := [gO h_t 4 [.ref h_t_keys, .ref h_t_signs, .int v_t_size, .int q_10.2], gA h_t_signs cI 90 c_t_signs]) (wr := [gA h_t_keys_values cI 48 c_t_keys_values, gO h_t_keys 1 [.int v_t_keys_size, .ref h_t_keys_words, .ref h_t_keys_values], gA h_t_keys_words cI 48 c_t_keys_words]) ⟨hx, hb, hml, hown, hts⟩ (kX4_sign l D cI cZ cD cG h_t h_t_keys h_t_signs v_t_size q_10.2 c_t_signs q_75 hc) (cwV 0 hts gX4_readKey_X4_sign rfl rfl rfl (by decide +kernel) ⟨Nat.le_of_ble_eq_true rfl, Nat.le_of_ble_eq_true rfl⟩) hK hP hD hS hA [1, 2] [0, 3, 4] rfl rfl (by decide) (by decide) (by decide) 0 rfl rfl rfl hl.1 rfl (Nat.le_of_ble_eq_true rfl) dX4_readKey_75 ⟨Nat.zero_le _, Nat.zero_le _⟩ (fun H locs hP hD hS => ?_)
          have hP : va_P D vwCl [gA h_t_keys_values cI 48 c_t_keys_values, gO h_t_keys 1 [.int v_t_keys_size, .ref h_t_keys_words, .ref h_t_keys_values], gA h_t_keys_words cI 48 c_t_keys_words, gO h_t 4 [.ref h_t_keys, .ref h_t_signs, .int v_t_size, .int q_10.2], gA h_t_signs cI 90 c_t_signs] H := hP
          have hD : va_D A [gA h_t_keys_values cI 48 c_t_keys_values, gO h_t_keys 1 [.int v_t_keys_size, .ref h_t_keys_words, .ref h_t_keys_values], gA h_t_keys_words cI 48 c_t_keys_words, gO h_t 4 [.ref h_t_keys, .ref h_t_signs, .int v_t_size, .int q_10.2], gA h_t_signs cI 90 c_t_signs] := hD
          refine lv_bipush (v := 61) hx hb dX4_readKey_78 (by decide) ?_
          refine lv_icmp_eq (tgt := 88) hx hb dX4_readKey_80 (by decide) (fun cc => ?_) (fun cc => ?_)
          · have hF := gi_pos hF cc
            refine lv_aload_n hx hb dX4_readKey_88 rfl (lv_at hl 4 rfl) ?_
            refine lv_dup hx hb dX4_readKey_89 rfl ?_
            refine va_get (D := D) (ci := 4) (v := .int q_10.2) (C := RX4) (T := TX4) (N := 4) hx hb hts hinX4 hown hK hP 3 rfl rfl 3 (by decide) hw0 (fun _ h9 => h9) rfl dX4_readKey_90 ?_
            refine lv_iconst (v := 1) hx hb dX4_readKey_93 (by decide) ?_
            refine lv_iadd hx hb dX4_readKey_94 ?_
            refine lv_topi (fun f_95 ex => ?_)
            have hF := gl_some hF ex
            refine va_put (D := D) (ci := 4) (v := .int f_95) (ty := .int) (C := RX4) (T := TX4) (N := 4) hx hb hts hinX4 tyX4 tyX4_ok nmX4 hown hK hP hD hS 3 rfl rfl 3 (by decide) hw0 (fun _ h9 => h9) rfl (by decide +kernel) rfl rfl (Nat.le_of_ble_eq_true rfl) dX4_readKey_95 (fun H locs hP hD hS => ?_)
            have hP : va_P D vwCl [gA h_t_keys_values cI 48 c_t_keys_values, gO h_t_keys 1 [.int v_t_keys_size, .ref h_t_keys_words, .ref h_t_keys_values], gA h_t_keys_words cI 48 c_t_keys_words, gO h_t 4 [.ref h_t_keys, .ref h_t_signs, .int v_t_size, .int f_95], gA h_t_signs cI 90 c_t_signs] H := hP
            have hD : va_D A [gA h_t_keys_values cI 48 c_t_keys_values, gO h_t_keys 1 [.int v_t_keys_size, .ref h_t_keys_words, .ref h_t_keys_values], gA h_t_keys_words cI 48 c_t_keys_words, gO h_t 4 [.ref h_t_keys, .ref h_t_signs, .int v_t_size, .int f_95], gA h_t_signs cI 90 c_t_signs] := hD
            refine lv_aload_n hx hb dX4_readKey_98 rfl (lv_at hl 4 rfl) ?_
            refine va_get (D := D) (ci := 4) (v := .int f_95) (C := RX4) (T := TX4) (N := 4) hx hb hts hinX4 hown hK hP 3 rfl rfl 3 (by decide) hw0 (fun _ h9 => h9) rfl dX4_readKey_99 ?_
            refine lv_istore (lv' := [(5, .int f_95), (4, .int q_43), (3, .int x3_20), (2, .int q_10.1), (1, .int v_t_place), (0, .ref h_t)]) hx hb dX4_readKey_102 hl (by decide) rfl (fun ls hl => ?_)
            refine lv_aload_n hx hb dX4_readKey_104 rfl (lv_at hl 5 rfl) ?_
            refine lv_bipush (v := 10) hx hb dX4_readKey_105 (by decide) ?_
            refine lv_iconst (v := 3) hx hb dX4_readKey_107 (by decide) ?_
            obtain ⟨q_108, hc, hF⟩ := gb_some hF
            refine gcVi (ci := 4) (As := [.int (10 : Int32), .int (3 : Int32)]) (rest := []) (pre := [gO h_t 4 [.ref h_t_keys, .ref h_t_signs, .int v_t_size, .int f_95], gA h_t_signs cI 90 c_t_signs]) (post := [gO h_t 4 [.ref h_t_keys, .ref h_t_signs, .int v_t_size, .int q_108.2], gA h_t_signs cI 90 c_t_signs]) (wr := [gA h_t_keys_values cI 48 c_t_keys_values, gO h_t_keys 1 [.int v_t_keys_size, .ref h_t_keys_words, .ref h_t_keys_values], gA h_t_keys_words cI 48 c_t_keys_words]) ⟨hx, hb, hml, hown, hts⟩ (kX4_readNumber l D cI cZ cD cG h_t h_t_keys h_t_signs v_t_size f_95 c_t_signs (10 : Int32) (3 : Int32) q_108 hc) (cwV 2 hts gX4_readKey_X4_readNumber rfl rfl rfl (by decide +kernel) ⟨Nat.le_of_ble_eq_true rfl, Nat.le_of_ble_eq_true rfl⟩) hK hP hD hS hA [3, 4] [0, 1, 2] rfl rfl (by decide) (by decide) (by decide) 0 rfl rfl rfl hl.1 rfl (Nat.le_of_ble_eq_true rfl) dX4_readKey_108 ⟨Nat.zero_le _, Nat.zero_le _⟩ (fun H locs hP hD hS => ?_)
            have hP : va_P D vwCl [gA h_t_keys_values cI 48 c_t_keys_values, gO h_t_keys 1 [.int v_t_keys_size, .ref h_t_keys_words, .ref h_t_keys_values], gA h_t_keys_words cI 48 c_t_keys_words, gO h_t 4 [.ref h_t_keys, .ref h_t_signs, .int v_t_size, .int q_108.2], gA h_t_signs cI 90 c_t_signs] H := hP
            have hD : va_D A [gA h_t_keys_values cI 48 c_t_keys_values, gO h_t_keys 1 [.int v_t_keys_size, .ref h_t_keys_words, .ref h_t_keys_values], gA h_t_keys_words cI 48 c_t_keys_words, gO h_t 4 [.ref h_t_keys, .ref h_t_signs, .int v_t_size, .int q_108.2], gA h_t_signs cI 90 c_t_signs] := hD
            refine lv_istore (lv' := [(6, .int q_108.1), (5, .int f_95), (4, .int q_43), (3, .int x3_20), (2, .int q_10.1), (1, .int v_t_place), (0, .ref h_t)]) hx hb dX4_readKey_111 hl (by decide) rfl (fun ls hl => ?_)
            refine lv_aload_n hx hb dX4_readKey_113 rfl (lv_at hl 6 rfl) ?_
            refine va_get (D := D) (ci := 4) (v := .int q_108.2) (C := RX4) (T := TX4) (N := 4) hx hb hts hinX4 hown hK hP 3 rfl rfl 3 (by decide) hw0 (fun _ h9 => h9) rfl dX4_readKey_114 ?_
            refine lv_iload hx hb dX4_readKey_117 (lv_at hl 1 rfl) ?_
            refine lv_icmp_eq (tgt := 131) hx hb dX4_readKey_119 (by decide) (fun cc => ?_) (fun cc => ?_)
            · have hF := gi_pos hF cc
              refine lv_aload_n hx hb dX4_readKey_131 rfl (lv_at hl 6 rfl) ?_
              refine va_get (D := D) (ci := 4) (v := .int q_108.2) (C := RX4) (T := TX4) (N := 4) hx hb hts hinX4 hown hK hP 3 rfl rfl 3 (by decide) hw0 (fun _ h9 => h9) rfl dX4_readKey_132 ?_
              obtain rfl := Option.some.inj hF
              exact hQ _ _ _ _ _ (hP.sub [3, 4, 1, 2, 0] rfl) (hD.sub [3, 4, 1, 2, 0] (by decide) rfl) hS rfl dX4_readKey_135
            · have hF := gi_neg hF cc
              refine lv_aload_n hx hb dX4_readKey_122 rfl (lv_at hl 6 rfl) ?_
              obtain ⟨q_123, hc, hF⟩ := gb_some hF
              refine gcVi (ci := 4) (As := []) (rest := []) (pre := [gO h_t 4 [.ref h_t_keys, .ref h_t_signs, .int v_t_size, .int q_108.2], gA h_t_signs cI 90 c_t_signs]) (post := [gO h_t 4 [.ref h_t_keys, .ref h_t_signs, .int v_t_size, .int q_108.2], gA h_t_signs cI 90 c_t_signs]) (wr := [gA h_t_keys_values cI 48 c_t_keys_values, gO h_t_keys 1 [.int v_t_keys_size, .ref h_t_keys_words, .ref h_t_keys_values], gA h_t_keys_words cI 48 c_t_keys_words]) ⟨hx, hb, hml, hown, hts⟩ (kX4_sign l D cI cZ cD cG h_t h_t_keys h_t_signs v_t_size q_108.2 c_t_signs q_123 hc) (cwV 0 hts gX4_readKey_X4_sign rfl rfl rfl (by decide +kernel) ⟨Nat.le_of_ble_eq_true rfl, Nat.le_of_ble_eq_true rfl⟩) hK hP hD hS hA [3, 4] [0, 1, 2] rfl rfl (by decide) (by decide) (by decide) 0 rfl rfl rfl hl.1 rfl (Nat.le_of_ble_eq_true rfl) dX4_readKey_123 ⟨Nat.zero_le _, Nat.zero_le _⟩ (fun H locs hP hD hS => ?_)
              have hP : va_P D vwCl [gA h_t_keys_values cI 48 c_t_keys_values, gO h_t_keys 1 [.int v_t_keys_size, .ref h_t_keys_words, .ref h_t_keys_values], gA h_t_keys_words cI 48 c_t_keys_words, gO h_t 4 [.ref h_t_keys, .ref h_t_signs, .int v_t_size, .int q_108.2], gA h_t_signs cI 90 c_t_signs] H := hP
              have hD : va_D A [gA h_t_keys_values cI 48 c_t_keys_values, gO h_t_keys 1 [.int v_t_keys_size, .ref h_t_keys_words, .ref h_t_keys_values], gA h_t_keys_words cI 48 c_t_keys_words, gO h_t 4 [.ref h_t_keys, .ref h_t_signs, .int v_t_size, .int q_108.2], gA h_t_signs cI 90 c_t_signs] := hD
              refine lv_bipush (v := 59) hx hb dX4_readKey_126 (by decide) ?_
              refine lv_icmp_eq (tgt := 136) hx hb dX4_readKey_128 (by decide) (fun cc => ?_) (fun cc => ?_)
              · have hF := gi_pos hF cc
                refine lv_aload_n hx hb dX4_readKey_136 rfl (lv_at hl 6 rfl) ?_
                refine lv_dup hx hb dX4_readKey_137 rfl ?_
                refine va_get (D := D) (ci := 4) (v := .int q_108.2) (C := RX4) (T := TX4) (N := 4) hx hb hts hinX4 hown hK hP 3 rfl rfl 3 (by decide) hw0 (fun _ h9 => h9) rfl dX4_readKey_138 ?_
                refine lv_iconst (v := 1) hx hb dX4_readKey_141 (by decide) ?_
                refine lv_iadd hx hb dX4_readKey_142 ?_
                refine lv_topi (fun f_143 ex => ?_)
                have hF := gl_some hF ex
                refine va_put (D := D) (ci := 4) (v := .int f_143) (ty := .int) (C := RX4) (T := TX4) (N := 4) hx hb hts hinX4 tyX4 tyX4_ok nmX4 hown hK hP hD hS 3 rfl rfl 3 (by decide) hw0 (fun _ h9 => h9) rfl (by decide +kernel) rfl rfl (Nat.le_of_ble_eq_true rfl) dX4_readKey_143 (fun H locs hP hD hS => ?_)
                have hP : va_P D vwCl [gA h_t_keys_values cI 48 c_t_keys_values, gO h_t_keys 1 [.int v_t_keys_size, .ref h_t_keys_words, .ref h_t_keys_values], gA h_t_keys_words cI 48 c_t_keys_words, gO h_t 4 [.ref h_t_keys, .ref h_t_signs, .int v_t_size, .int f_143], gA h_t_signs cI 90 c_t_signs] H := hP
                have hD : va_D A [gA h_t_keys_values cI 48 c_t_keys_values, gO h_t_keys 1 [.int v_t_keys_size, .ref h_t_keys_words, .ref h_t_keys_values], gA h_t_keys_words cI 48 c_t_keys_words, gO h_t 4 [.ref h_t_keys, .ref h_t_signs, .int v_t_size, .int f_143], gA h_t_signs cI 90 c_t_signs] := hD
                refine lv_aload_n hx hb dX4_readKey_146 rfl (lv_at hl 6 rfl) ?_
                refine va_get (D := D) (ci := 4) (v := .ref h_t_keys) (C := RX4) (T := TX4) (N := 4) hx hb hts hinX4 hown hK hP 3 rfl rfl 0 (by decide) hw2 (fun _ h9 => h9) rfl dX4_readKey_147 ?_
                refine lv_iload hx hb dX4_readKey_150 (lv_at hl 2 rfl) ?_
                refine lv_iload hx hb dX4_readKey_152 (lv_at hl 0 rfl) ?_
                obtain ⟨q_154, hc, hF⟩ := gb_some hF
                refine gcVv (ci := 1) (As := [.int q_43, .int q_108.1]) (rest := []) (pre := [gO h_t_keys 1 [.int v_t_keys_size, .ref h_t_keys_words, .ref h_t_keys_values], gA h_t_keys_words cI 48 c_t_keys_words, gA h_t_keys_values cI 48 c_t_keys_values]) (post := [gO h_t_keys 1 [.int q_154.1, .ref h_t_keys_words, .ref h_t_keys_values], gA h_t_keys_words cI 48 q_154.2.1, gA h_t_keys_values cI 48 q_154.2.2]) (wr := [gO h_t 4 [.ref h_t_keys, .ref h_t_signs, .int v_t_size, .int f_143], gA h_t_signs cI 90 c_t_signs]) ⟨hx, hb, hml, hown, hts⟩ (kX1_insert l D cI cZ cD cG h_t_keys v_t_keys_size h_t_keys_words h_t_keys_values c_t_keys_words c_t_keys_values q_43 q_108.1 q_154 hc) (cwV 2 hts gX4_readKey_X1_insert rfl rfl rfl (by decide +kernel) ⟨Nat.le_of_ble_eq_true rfl, Nat.le_of_ble_eq_true rfl⟩) hK hP hD hS hA [1, 2, 0] [3, 4] rfl rfl (by decide) (by decide) (by decide) 0 rfl rfl rfl hl.1 rfl (Nat.le_of_ble_eq_true rfl) dX4_readKey_154 ⟨Nat.zero_le _, Nat.zero_le _⟩ (fun H locs hP hD hS => ?_)
                have hP : va_P D vwCl [gO h_t 4 [.ref h_t_keys, .ref h_t_signs, .int v_t_size, .int f_143], gA h_t_signs cI 90 c_t_signs, gO h_t_keys 1 [.int q_154.1, .ref h_t_keys_words, .ref h_t_keys_values], gA h_t_keys_words cI 48 q_154.2.1, gA h_t_keys_values cI 48 q_154.2.2] H := hP
                have hD : va_D A [gO h_t 4 [.ref h_t_keys, .ref h_t_signs, .int v_t_size, .int f_143], gA h_t_signs cI 90 c_t_signs, gO h_t_keys 1 [.int q_154.1, .ref h_t_keys_words, .ref h_t_keys_values], gA h_t_keys_words cI 48 q_154.2.1, gA h_t_keys_values cI 48 q_154.2.2] := hD
                refine lv_bipush (v := (-9)) hx hb dX4_readKey_157 (by decide) ?_
                obtain rfl := Option.some.inj hF
                exact hQ _ _ _ _ _ hP hD hS rfl dX4_readKey_159
              · have hF := gi_neg hF cc
                refine lv_aload_n hx hb dX4_readKey_131 rfl (lv_at hl 6 rfl) ?_
                refine va_get (D := D) (ci := 4) (v := .int q_108.2) (C := RX4) (T := TX4) (N := 4) hx hb hts hinX4 hown hK hP 3 rfl rfl 3 (by decide) hw0 (fun _ h9 => h9) rfl dX4_readKey_132 ?_
                obtain rfl := Option.some.inj hF
                exact hQ _ _ _ _ _ (hP.sub [3, 4, 1, 2, 0] rfl) (hD.sub [3, 4, 1, 2, 0] (by decide) rfl) hS rfl dX4_readKey_135
          · have hF := gi_neg hF cc
            refine lv_aload_n hx hb dX4_readKey_83 rfl (lv_at hl 4 rfl) ?_
            refine va_get (D := D) (ci := 4) (v := .int q_10.2) (C := RX4) (T := TX4) (N := 4) hx hb hts hinX4 hown hK hP 3 rfl rfl 3 (by decide) hw0 (fun _ h9 => h9) rfl dX4_readKey_84 ?_
            obtain rfl := Option.some.inj hF
            exact hQ _ _ _ _ _ (hP.sub [3, 4, 1, 2, 0] rfl) (hD.sub [3, 4, 1, 2, 0] (by decide) rfl) hS rfl dX4_readKey_87
        · have hF := gi_pos hF cc
          refine lv_iload_n hx hb dX4_readKey_72 rfl (lv_at hl 3 rfl) ?_
          obtain rfl := Option.some.inj hF
          exact hQ _ _ _ _ _ (hP.sub [1, 2, 3, 4, 0] rfl) (hD.sub [1, 2, 3, 4, 0] (by decide) rfl) hS rfl dX4_readKey_73
    · have hF := gi_neg hF cc
      refine lv_aload_n hx hb dX4_readKey_36 rfl (lv_at hl 3 rfl) ?_
      refine va_get (D := D) (ci := 4) (v := .int q_10.2) (C := RX4) (T := TX4) (N := 4) hx hb hts hinX4 hown hK hP 3 rfl rfl 3 (by decide) hw0 (fun _ h9 => h9) rfl dX4_readKey_37 ?_
      obtain rfl := Option.some.inj hF
      exact hQ _ _ _ _ _ (hP.sub [3, 4, 0, 1, 2] rfl) (hD.sub [3, 4, 0, 1, 2] (by decide) rfl) hS rfl dX4_readKey_40

abbrev rmX4_read : Room := { frames := 4, cells := 0, slots := 0, locals := 91 }
def fX4_read_L27 (q_7 : Int32 × (Nat → Int32)) : Nat → Int32 → Int32 → Int32 → (Nat → Int32) → (Nat → Int32) → Option (Int32 × Int32 × Int32 × (Nat → Int32) × Int32 × (Nat → Int32) × (Nat → Int32))
  | 0, _, _, _, _, _ => none
  | n_27 + 1, x3_27, v_t_place_27, v_t_keys_size_27, c_t_keys_words_27, c_t_keys_values_27 => (if (90 : Int32) < x3_27 then (some ((-9 : Int32), q_7.1, v_t_place_27, q_7.2, v_t_keys_size_27, c_t_keys_words_27, c_t_keys_values_27)) else (Option.bind (fX4_skipBlanks q_7.1 v_t_place_27 q_7.2) (fun q_34 => (if q_34 < q_7.1 then (Option.bind (fX4_readKey q_7.1 q_34 q_7.2 v_t_keys_size_27 c_t_keys_words_27 c_t_keys_values_27) (fun q_52 => (if q_52.1 = (-9 : Int32) then (gl (x3_27 + 1) (fun x3_67 => (fX4_read_L27 q_7 n_27 x3_67 q_52.2.1 q_52.2.2.1 q_52.2.2.2.1 q_52.2.2.2.2))) else (some (q_52.1, q_7.1, q_52.2.1, q_7.2, q_52.2.2.1, q_52.2.2.2.1, q_52.2.2.2.2))))) else (some ((-9 : Int32), q_7.1, q_34, q_7.2, v_t_keys_size_27, c_t_keys_words_27, c_t_keys_values_27))))))
def fX4_read (x2 : Int32) (n_p1_sizes : Nat) (c_p1_sizes : Nat → Int32) (c_t_signs : Nat → Int32) (n_p1_cells : Nat) (c_t_keys_words : Nat → Int32) (c_t_keys_values : Nat → Int32) (l_p1_cells : Nat) (m_p1_cells : Nat → Nat → Int32) : Option (Int32 × Int32 × Int32 × (Nat → Int32) × Int32 × (Nat → Int32) × (Nat → Int32)) := (Option.bind (fX5_layInto x2 n_p1_sizes c_p1_sizes 90 c_t_signs n_p1_cells l_p1_cells m_p1_cells) (fun q_7 => (Option.bind (fX1_empty ) (fun q_22 => (fX4_read_L27 q_7 gF (0 : Int32) (0 : Int32) q_22 c_t_keys_words c_t_keys_values)))))
set_option maxHeartbeats 4000000 in
set_option maxRecDepth 100000 in
theorem kX4_read (l : Launch) (D : va_G) (cI cZ cD cG : ClassId) (h_t : Nat) (h_p1 : Nat) (h_t_keys : Nat) (h_t_signs : Nat) (v_t_size : Int32) (v_t_place : Int32) (v_p1_limit : Int32) (h_p1_cells : Nat) (h_p1_sizes : Nat) (n_p1_sizes : Nat) (c_p1_sizes : Nat → Int32) (c_t_signs : Nat → Int32) (n_p1_cells : Nat) (g_p1_cells : Nat → Nat) (v_t_keys_size : Int32) (h_t_keys_words : Nat) (h_t_keys_values : Nat) (c_t_keys_words : Nat → Int32) (c_t_keys_values : Nat → Int32) (l_p1_cells : Nat) (m_p1_cells : Nat → Nat → Int32) (x2 : Int32) (res : Int32 × Int32 × Int32 × (Nat → Int32) × Int32 × (Nat → Int32) × (Nat → Int32)) (hF : fX4_read x2 n_p1_sizes c_p1_sizes c_t_signs n_p1_cells c_t_keys_words c_t_keys_values l_p1_cells m_p1_cells = some res) : gMi l D (gty cI cZ cD cG) yX4_read wsX4_read rmX4_read [.ref h_t, .ref h_p1, .int x2] ([gO h_t 4 [.ref h_t_keys, .ref h_t_signs, .int v_t_size, .int v_t_place], gO h_p1 5 [.int v_p1_limit, .ref h_p1_cells, .ref h_p1_sizes], gA h_p1_sizes cI n_p1_sizes c_p1_sizes, gA h_t_signs cI 90 c_t_signs, gR h_p1_cells cG n_p1_cells (fun k => some (g_p1_cells k)), gO h_t_keys 1 [.int v_t_keys_size, .ref h_t_keys_words, .ref h_t_keys_values], gA h_t_keys_words cI 48 c_t_keys_words, gA h_t_keys_values cI 48 c_t_keys_values] ++ gG g_p1_cells cI l_p1_cells m_p1_cells n_p1_cells) res.1 ([gO h_t 4 [.ref h_t_keys, .ref h_t_signs, .int res.2.1, .int res.2.2.1], gO h_p1 5 [.int v_p1_limit, .ref h_p1_cells, .ref h_p1_sizes], gA h_p1_sizes cI n_p1_sizes c_p1_sizes, gA h_t_signs cI 90 res.2.2.2.1, gR h_p1_cells cG n_p1_cells (fun k => some (g_p1_cells k)), gO h_t_keys 1 [.int res.2.2.2.2.1, .ref h_t_keys_words, .ref h_t_keys_values], gA h_t_keys_words cI 48 res.2.2.2.2.2.1, gA h_t_keys_values cI 48 res.2.2.2.2.2.2] ++ gG g_p1_cells cI l_p1_cells m_p1_cells n_p1_cells) := by
  refine gMi.of (cc := cX4_read) (maxL := 5) (by decide) rfl (Nat.le_of_ble_eq_true rfl) ?_
  intro p e s m args below meth c A ls Q hx hb hts hown hml hK hA hP hD hS hQ hl
  have hown : s.vm.findClass RX4 = some m.cls := hown
  have hl : lv_has ls 5 [(0, .ref h_t), (1, .ref h_p1), (2, .int x2)] := hl
  have hw0 := hts (.fieldLink RX4 18 "NibbleTrunk$Reader" "signs" "[I") (by decide +kernel)
  have hinX4 : ∀ w ∈ wsX40, w ∈ wsX4_read := by decide +kernel
  have hw2 := hts (.fieldLink RX4 22 "NibbleTrunk$Reader" "size" "I") (by decide +kernel)
  have hw3 := hts (.fieldLink RX4 26 "NibbleTrunk$Reader" "place" "I") (by decide +kernel)
  have hw4 := hts (.fieldLink RX4 12 "NibbleTrunk$Reader" "keys" "LNibbleTrunk$Keys;") (by decide +kernel)
  rw [fX4_read] at hF
  refine lv_aload_n hx hb dX4_read_0 rfl (lv_at hl 0 rfl) ?_
  refine lv_aload_n hx hb dX4_read_1 rfl (lv_at hl 1 rfl) ?_
  refine lv_iload_n hx hb dX4_read_2 rfl (lv_at hl 2 rfl) ?_
  refine lv_aload_n hx hb dX4_read_3 rfl (lv_at hl 0 rfl) ?_
  refine va_get (D := D) (ci := 4) (v := .ref h_t_signs) (C := RX4) (T := TX4) (N := 4) hx hb hts hinX4 hown hK hP 0 rfl rfl 1 (by decide) hw0 (fun _ h9 => h9) rfl dX4_read_4 ?_
  obtain ⟨q_7, hc, hF⟩ := gb_some hF
  refine gcViP (ci := 5) (pl := gG g_p1_cells cI l_p1_cells m_p1_cells n_p1_cells) (pl1 := gG g_p1_cells cI l_p1_cells m_p1_cells n_p1_cells) (As := [.int x2, .ref h_t_signs]) (rest := [.ref h_t]) (pre := [gO h_p1 5 [.int v_p1_limit, .ref h_p1_cells, .ref h_p1_sizes], gA h_p1_sizes cI n_p1_sizes c_p1_sizes, gA h_t_signs cI 90 c_t_signs, gR h_p1_cells cG n_p1_cells (fun k => some (g_p1_cells k))]) (post := [gO h_p1 5 [.int v_p1_limit, .ref h_p1_cells, .ref h_p1_sizes], gA h_p1_sizes cI n_p1_sizes c_p1_sizes, gA h_t_signs cI 90 q_7.2, gR h_p1_cells cG n_p1_cells (fun k => some (g_p1_cells k))]) (wr := [gO h_t 4 [.ref h_t_keys, .ref h_t_signs, .int v_t_size, .int v_t_place], gO h_t_keys 1 [.int v_t_keys_size, .ref h_t_keys_words, .ref h_t_keys_values], gA h_t_keys_words cI 48 c_t_keys_words, gA h_t_keys_values cI 48 c_t_keys_values]) ⟨hx, hb, hml, hown, hts⟩ (kX5_layInto l D cI cZ cD cG h_p1 h_t_signs v_p1_limit h_p1_cells h_p1_sizes n_p1_sizes c_p1_sizes 90 c_t_signs n_p1_cells g_p1_cells l_p1_cells m_p1_cells x2 q_7 hc) (cwV 2 hts gX4_read_X5_layInto rfl rfl rfl (by decide +kernel) ⟨Nat.le_of_ble_eq_true rfl, Nat.le_of_ble_eq_true rfl⟩) hK hP hD hS hA [1, 2, 3, 4] [0, 5, 6, 7] rfl rfl (by decide) (by decide) (by decide) 0 rfl rfl rfl hl.1 rfl (Nat.le_of_ble_eq_true rfl) dX4_read_7 ⟨Nat.zero_le _, Nat.zero_le _⟩ (fun H locs hP hD hS => ?_)
  have hP : va_P D vwCl ([gO h_t 4 [.ref h_t_keys, .ref h_t_signs, .int v_t_size, .int v_t_place], gO h_t_keys 1 [.int v_t_keys_size, .ref h_t_keys_words, .ref h_t_keys_values], gA h_t_keys_words cI 48 c_t_keys_words, gA h_t_keys_values cI 48 c_t_keys_values, gO h_p1 5 [.int v_p1_limit, .ref h_p1_cells, .ref h_p1_sizes], gA h_p1_sizes cI n_p1_sizes c_p1_sizes, gA h_t_signs cI 90 q_7.2, gR h_p1_cells cG n_p1_cells (fun k => some (g_p1_cells k))] ++ gG g_p1_cells cI l_p1_cells m_p1_cells n_p1_cells) H := hP
  have hD : va_D A ([gO h_t 4 [.ref h_t_keys, .ref h_t_signs, .int v_t_size, .int v_t_place], gO h_t_keys 1 [.int v_t_keys_size, .ref h_t_keys_words, .ref h_t_keys_values], gA h_t_keys_words cI 48 c_t_keys_words, gA h_t_keys_values cI 48 c_t_keys_values, gO h_p1 5 [.int v_p1_limit, .ref h_p1_cells, .ref h_p1_sizes], gA h_p1_sizes cI n_p1_sizes c_p1_sizes, gA h_t_signs cI 90 q_7.2, gR h_p1_cells cG n_p1_cells (fun k => some (g_p1_cells k))] ++ gG g_p1_cells cI l_p1_cells m_p1_cells n_p1_cells) := hD
  refine va_put (D := D) (ci := 4) (v := .int q_7.1) (ty := .int) (C := RX4) (T := TX4) (N := 4) hx hb hts hinX4 tyX4 tyX4_ok nmX4 hown hK hP hD hS 0 rfl rfl 2 (by decide) hw2 (fun _ h9 => h9) rfl (by decide +kernel) rfl rfl (Nat.le_of_ble_eq_true rfl) dX4_read_10 (fun H locs hP hD hS => ?_)
  have hP : va_P D vwCl ([gO h_t 4 [.ref h_t_keys, .ref h_t_signs, .int q_7.1, .int v_t_place], gO h_t_keys 1 [.int v_t_keys_size, .ref h_t_keys_words, .ref h_t_keys_values], gA h_t_keys_words cI 48 c_t_keys_words, gA h_t_keys_values cI 48 c_t_keys_values, gO h_p1 5 [.int v_p1_limit, .ref h_p1_cells, .ref h_p1_sizes], gA h_p1_sizes cI n_p1_sizes c_p1_sizes, gA h_t_signs cI 90 q_7.2, gR h_p1_cells cG n_p1_cells (fun k => some (g_p1_cells k))] ++ gG g_p1_cells cI l_p1_cells m_p1_cells n_p1_cells) H := hP
  have hD : va_D A ([gO h_t 4 [.ref h_t_keys, .ref h_t_signs, .int q_7.1, .int v_t_place], gO h_t_keys 1 [.int v_t_keys_size, .ref h_t_keys_words, .ref h_t_keys_values], gA h_t_keys_words cI 48 c_t_keys_words, gA h_t_keys_values cI 48 c_t_keys_values, gO h_p1 5 [.int v_p1_limit, .ref h_p1_cells, .ref h_p1_sizes], gA h_p1_sizes cI n_p1_sizes c_p1_sizes, gA h_t_signs cI 90 q_7.2, gR h_p1_cells cG n_p1_cells (fun k => some (g_p1_cells k))] ++ gG g_p1_cells cI l_p1_cells m_p1_cells n_p1_cells) := hD
  refine lv_aload_n hx hb dX4_read_13 rfl (lv_at hl 0 rfl) ?_
  refine lv_iconst (v := 0) hx hb dX4_read_14 (by decide) ?_
  refine va_put (D := D) (ci := 4) (v := .int (0 : Int32)) (ty := .int) (C := RX4) (T := TX4) (N := 4) hx hb hts hinX4 tyX4 tyX4_ok nmX4 hown hK hP hD hS 0 rfl rfl 3 (by decide) hw3 (fun _ h9 => h9) rfl (by decide +kernel) rfl rfl (Nat.le_of_ble_eq_true rfl) dX4_read_15 (fun H locs hP hD hS => ?_)
  have hP : va_P D vwCl ([gO h_t 4 [.ref h_t_keys, .ref h_t_signs, .int q_7.1, .int (0 : Int32)], gO h_t_keys 1 [.int v_t_keys_size, .ref h_t_keys_words, .ref h_t_keys_values], gA h_t_keys_words cI 48 c_t_keys_words, gA h_t_keys_values cI 48 c_t_keys_values, gO h_p1 5 [.int v_p1_limit, .ref h_p1_cells, .ref h_p1_sizes], gA h_p1_sizes cI n_p1_sizes c_p1_sizes, gA h_t_signs cI 90 q_7.2, gR h_p1_cells cG n_p1_cells (fun k => some (g_p1_cells k))] ++ gG g_p1_cells cI l_p1_cells m_p1_cells n_p1_cells) H := hP
  have hD : va_D A ([gO h_t 4 [.ref h_t_keys, .ref h_t_signs, .int q_7.1, .int (0 : Int32)], gO h_t_keys 1 [.int v_t_keys_size, .ref h_t_keys_words, .ref h_t_keys_values], gA h_t_keys_words cI 48 c_t_keys_words, gA h_t_keys_values cI 48 c_t_keys_values, gO h_p1 5 [.int v_p1_limit, .ref h_p1_cells, .ref h_p1_sizes], gA h_p1_sizes cI n_p1_sizes c_p1_sizes, gA h_t_signs cI 90 q_7.2, gR h_p1_cells cG n_p1_cells (fun k => some (g_p1_cells k))] ++ gG g_p1_cells cI l_p1_cells m_p1_cells n_p1_cells) := hD
  refine lv_aload_n hx hb dX4_read_18 rfl (lv_at hl 0 rfl) ?_
  refine va_get (D := D) (ci := 4) (v := .ref h_t_keys) (C := RX4) (T := TX4) (N := 4) hx hb hts hinX4 hown hK hP 0 rfl rfl 0 (by decide) hw4 (fun _ h9 => h9) rfl dX4_read_19 ?_
  obtain ⟨q_22, hc, hF⟩ := gb_some hF
  refine gcVvG (ci := 1) (pl := gG g_p1_cells cI l_p1_cells m_p1_cells n_p1_cells) (As := []) (rest := []) (pre := [gO h_t_keys 1 [.int v_t_keys_size, .ref h_t_keys_words, .ref h_t_keys_values]]) (post := [gO h_t_keys 1 [.int q_22, .ref h_t_keys_words, .ref h_t_keys_values]]) (wr := [gO h_t 4 [.ref h_t_keys, .ref h_t_signs, .int q_7.1, .int (0 : Int32)], gA h_t_keys_words cI 48 c_t_keys_words, gA h_t_keys_values cI 48 c_t_keys_values, gO h_p1 5 [.int v_p1_limit, .ref h_p1_cells, .ref h_p1_sizes], gA h_p1_sizes cI n_p1_sizes c_p1_sizes, gA h_t_signs cI 90 q_7.2, gR h_p1_cells cG n_p1_cells (fun k => some (g_p1_cells k))]) ⟨hx, hb, hml, hown, hts⟩ (kX1_empty l D cI cZ cD cG h_t_keys v_t_keys_size h_t_keys_words h_t_keys_values q_22 hc) (cwV 0 hts gX4_read_X1_empty rfl rfl rfl (by decide +kernel) ⟨Nat.le_of_ble_eq_true rfl, Nat.le_of_ble_eq_true rfl⟩) hK hP hD hS hA [1] [0, 2, 3, 4, 5, 6, 7] rfl rfl (by decide) (by decide) (by decide) 0 rfl rfl rfl hl.1 rfl (Nat.le_of_ble_eq_true rfl) dX4_read_22 ⟨Nat.zero_le _, Nat.zero_le _⟩ (fun H locs hP hD hS => ?_)
  have hP : va_P D vwCl ([gO h_t 4 [.ref h_t_keys, .ref h_t_signs, .int q_7.1, .int (0 : Int32)], gA h_t_keys_words cI 48 c_t_keys_words, gA h_t_keys_values cI 48 c_t_keys_values, gO h_p1 5 [.int v_p1_limit, .ref h_p1_cells, .ref h_p1_sizes], gA h_p1_sizes cI n_p1_sizes c_p1_sizes, gA h_t_signs cI 90 q_7.2, gR h_p1_cells cG n_p1_cells (fun k => some (g_p1_cells k)), gO h_t_keys 1 [.int q_22, .ref h_t_keys_words, .ref h_t_keys_values]] ++ gG g_p1_cells cI l_p1_cells m_p1_cells n_p1_cells) H := hP
  have hD : va_D A ([gO h_t 4 [.ref h_t_keys, .ref h_t_signs, .int q_7.1, .int (0 : Int32)], gA h_t_keys_words cI 48 c_t_keys_words, gA h_t_keys_values cI 48 c_t_keys_values, gO h_p1 5 [.int v_p1_limit, .ref h_p1_cells, .ref h_p1_sizes], gA h_p1_sizes cI n_p1_sizes c_p1_sizes, gA h_t_signs cI 90 q_7.2, gR h_p1_cells cG n_p1_cells (fun k => some (g_p1_cells k)), gO h_t_keys 1 [.int q_22, .ref h_t_keys_words, .ref h_t_keys_values]] ++ gG g_p1_cells cI l_p1_cells m_p1_cells n_p1_cells) := hD
  refine lv_iconst (v := 0) hx hb dX4_read_25 (by decide) ?_
  refine lv_istore_n (lv' := [(3, .int (0 : Int32)), (0, .ref h_t), (1, .ref h_p1), (2, .int x2)]) hx hb dX4_read_26 rfl hl (by decide) rfl (fun ls hl => ?_)
  have Ln_27 : ∀ (n_27 : Nat) (x3_27 : Int32) (v_t_place_27 : Int32) (v_t_keys_size_27 : Int32) (c_t_keys_words_27 : Nat → Int32) (c_t_keys_values_27 : Nat → Int32) (H : Heap) (locs : List Loc) (ls : Array Slot), fX4_read_L27 q_7 n_27 x3_27 v_t_place_27 v_t_keys_size_27 c_t_keys_words_27 c_t_keys_values_27 = some res → va_P D vwCl ([gO h_t 4 [.ref h_t_keys, .ref h_t_signs, .int q_7.1, .int v_t_place_27], gA h_t_keys_words cI 48 c_t_keys_words_27, gA h_t_keys_values cI 48 c_t_keys_values_27, gO h_p1 5 [.int v_p1_limit, .ref h_p1_cells, .ref h_p1_sizes], gA h_p1_sizes cI n_p1_sizes c_p1_sizes, gA h_t_signs cI 90 q_7.2, gR h_p1_cells cG n_p1_cells (fun k => some (g_p1_cells k)), gO h_t_keys 1 [.int v_t_keys_size_27, .ref h_t_keys_words, .ref h_t_keys_values]] ++ gG g_p1_cells cI l_p1_cells m_p1_cells n_p1_cells) H → va_D A ([gO h_t 4 [.ref h_t_keys, .ref h_t_signs, .int q_7.1, .int v_t_place_27], gA h_t_keys_words cI 48 c_t_keys_words_27, gA h_t_keys_values cI 48 c_t_keys_values_27, gO h_p1 5 [.int v_p1_limit, .ref h_p1_cells, .ref h_p1_sizes], gA h_p1_sizes cI n_p1_sizes c_p1_sizes, gA h_t_signs cI 90 q_7.2, gR h_p1_cells cG n_p1_cells (fun k => some (g_p1_cells k)), gO h_t_keys 1 [.int v_t_keys_size_27, .ref h_t_keys_words, .ref h_t_keys_values]] ++ gG g_p1_cells cI l_p1_cells m_p1_cells n_p1_cells) → va_S A s.heap H locs → lv_has ls 5 [(0, .ref h_t), (3, .int x3_27)] → W p l e rmX4_read s m args below meth c H locs 0 0 Q (F0 m 27 ls []) := by
    intro n_27
    induction n_27 with
    | zero =>
      intro x3_27 v_t_place_27 v_t_keys_size_27 c_t_keys_words_27 c_t_keys_values_27 H locs ls hF
      rw [fX4_read_L27] at hF
      cases hF
    | succ n_27 ih27 =>
      intro x3_27 v_t_place_27 v_t_keys_size_27 c_t_keys_words_27 c_t_keys_values_27 H locs ls hF hP hD hS hl
      rw [fX4_read_L27] at hF
      refine lv_iload_n hx hb dX4_read_27 rfl (lv_at hl 1 rfl) ?_
      refine lv_bipush (v := 90) hx hb dX4_read_28 (by decide) ?_
      refine lv_icmp_gt (tgt := 73) hx hb dX4_read_30 (by decide) (fun cc => ?_) (fun cc => ?_)
      · have hF := gi_pos hF cc
        refine lv_bipush (v := (-9)) hx hb dX4_read_73 (by decide) ?_
        obtain rfl := Option.some.inj hF
        exact hQ _ _ _ _ _ (hP.part [0, 3, 4, 5, 6, 7, 1, 2] rfl) (hD.part [0, 3, 4, 5, 6, 7, 1, 2] (by decide) rfl) hS rfl dX4_read_75
      · have hF := gi_neg hF cc
        refine lv_aload_n hx hb dX4_read_33 rfl (lv_at hl 0 rfl) ?_
        obtain ⟨q_34, hc, hF⟩ := gb_some hF
        refine gcVvG (ci := 4) (pl := gG g_p1_cells cI l_p1_cells m_p1_cells n_p1_cells) (As := []) (rest := []) (pre := [gO h_t 4 [.ref h_t_keys, .ref h_t_signs, .int q_7.1, .int v_t_place_27], gA h_t_signs cI 90 q_7.2]) (post := [gO h_t 4 [.ref h_t_keys, .ref h_t_signs, .int q_7.1, .int q_34], gA h_t_signs cI 90 q_7.2]) (wr := [gA h_t_keys_words cI 48 c_t_keys_words_27, gA h_t_keys_values cI 48 c_t_keys_values_27, gO h_p1 5 [.int v_p1_limit, .ref h_p1_cells, .ref h_p1_sizes], gA h_p1_sizes cI n_p1_sizes c_p1_sizes, gR h_p1_cells cG n_p1_cells (fun k => some (g_p1_cells k)), gO h_t_keys 1 [.int v_t_keys_size_27, .ref h_t_keys_words, .ref h_t_keys_values]]) ⟨hx, hb, hml, hown, hts⟩ (kX4_skipBlanks l D cI cZ cD cG h_t h_t_keys h_t_signs q_7.1 v_t_place_27 q_7.2 q_34 hc) (cwV 0 hts gX4_read_X4_skipBlanks rfl rfl rfl (by decide +kernel) ⟨Nat.le_of_ble_eq_true rfl, Nat.le_of_ble_eq_true rfl⟩) hK hP hD hS hA [0, 5] [1, 2, 3, 4, 6, 7] rfl rfl (by decide) (by decide) (by decide) 0 rfl rfl rfl hl.1 rfl (Nat.le_of_ble_eq_true rfl) dX4_read_34 ⟨Nat.zero_le _, Nat.zero_le _⟩ (fun H locs hP hD hS => ?_)
        have hP : va_P D vwCl ([gA h_t_keys_words cI 48 c_t_keys_words_27, gA h_t_keys_values cI 48 c_t_keys_values_27, gO h_p1 5 [.int v_p1_limit, .ref h_p1_cells, .ref h_p1_sizes], gA h_p1_sizes cI n_p1_sizes c_p1_sizes, gR h_p1_cells cG n_p1_cells (fun k => some (g_p1_cells k)), gO h_t_keys 1 [.int v_t_keys_size_27, .ref h_t_keys_words, .ref h_t_keys_values], gO h_t 4 [.ref h_t_keys, .ref h_t_signs, .int q_7.1, .int q_34], gA h_t_signs cI 90 q_7.2] ++ gG g_p1_cells cI l_p1_cells m_p1_cells n_p1_cells) H := hP
        have hD : va_D A ([gA h_t_keys_words cI 48 c_t_keys_words_27, gA h_t_keys_values cI 48 c_t_keys_values_27, gO h_p1 5 [.int v_p1_limit, .ref h_p1_cells, .ref h_p1_sizes], gA h_p1_sizes cI n_p1_sizes c_p1_sizes, gR h_p1_cells cG n_p1_cells (fun k => some (g_p1_cells k)), gO h_t_keys 1 [.int v_t_keys_size_27, .ref h_t_keys_words, .ref h_t_keys_values], gO h_t 4 [.ref h_t_keys, .ref h_t_signs, .int q_7.1, .int q_34], gA h_t_signs cI 90 q_7.2] ++ gG g_p1_cells cI l_p1_cells m_p1_cells n_p1_cells) := hD
        refine lv_aload_n hx hb dX4_read_37 rfl (lv_at hl 0 rfl) ?_
        refine va_get (D := D) (ci := 4) (v := .int q_34) (C := RX4) (T := TX4) (N := 4) hx hb hts hinX4 hown hK hP 6 rfl rfl 3 (by decide) hw3 (fun _ h9 => h9) rfl dX4_read_38 ?_
        refine lv_aload_n hx hb dX4_read_41 rfl (lv_at hl 0 rfl) ?_
        refine va_get (D := D) (ci := 4) (v := .int q_7.1) (C := RX4) (T := TX4) (N := 4) hx hb hts hinX4 hown hK hP 6 rfl rfl 2 (by decide) hw2 (fun _ h9 => h9) rfl dX4_read_42 ?_
        refine lv_icmp_lt (tgt := 51) hx hb dX4_read_45 (by decide) (fun cc => ?_) (fun cc => ?_)
        · have hF := gi_pos hF cc
          refine lv_aload_n hx hb dX4_read_51 rfl (lv_at hl 0 rfl) ?_
          obtain ⟨q_52, hc, hF⟩ := gb_some hF
          refine gcViG (ci := 4) (pl := gG g_p1_cells cI l_p1_cells m_p1_cells n_p1_cells) (As := []) (rest := []) (pre := [gO h_t 4 [.ref h_t_keys, .ref h_t_signs, .int q_7.1, .int q_34], gA h_t_signs cI 90 q_7.2, gO h_t_keys 1 [.int v_t_keys_size_27, .ref h_t_keys_words, .ref h_t_keys_values], gA h_t_keys_words cI 48 c_t_keys_words_27, gA h_t_keys_values cI 48 c_t_keys_values_27]) (post := [gO h_t 4 [.ref h_t_keys, .ref h_t_signs, .int q_7.1, .int q_52.2.1], gA h_t_signs cI 90 q_7.2, gO h_t_keys 1 [.int q_52.2.2.1, .ref h_t_keys_words, .ref h_t_keys_values], gA h_t_keys_words cI 48 q_52.2.2.2.1, gA h_t_keys_values cI 48 q_52.2.2.2.2]) (wr := [gO h_p1 5 [.int v_p1_limit, .ref h_p1_cells, .ref h_p1_sizes], gA h_p1_sizes cI n_p1_sizes c_p1_sizes, gR h_p1_cells cG n_p1_cells (fun k => some (g_p1_cells k))]) ⟨hx, hb, hml, hown, hts⟩ (kX4_readKey l D cI cZ cD cG h_t h_t_keys h_t_signs q_7.1 q_34 q_7.2 v_t_keys_size_27 h_t_keys_words h_t_keys_values c_t_keys_words_27 c_t_keys_values_27 q_52 hc) (cwV 0 hts gX4_read_X4_readKey rfl rfl rfl (by decide +kernel) ⟨Nat.le_of_ble_eq_true rfl, Nat.le_of_ble_eq_true rfl⟩) hK hP hD hS hA [6, 7, 5, 0, 1] [2, 3, 4] rfl rfl (by decide) (by decide) (by decide) 0 rfl rfl rfl hl.1 rfl (Nat.le_of_ble_eq_true rfl) dX4_read_52 ⟨Nat.zero_le _, Nat.zero_le _⟩ (fun H locs hP hD hS => ?_)
          have hP : va_P D vwCl ([gO h_p1 5 [.int v_p1_limit, .ref h_p1_cells, .ref h_p1_sizes], gA h_p1_sizes cI n_p1_sizes c_p1_sizes, gR h_p1_cells cG n_p1_cells (fun k => some (g_p1_cells k)), gO h_t 4 [.ref h_t_keys, .ref h_t_signs, .int q_7.1, .int q_52.2.1], gA h_t_signs cI 90 q_7.2, gO h_t_keys 1 [.int q_52.2.2.1, .ref h_t_keys_words, .ref h_t_keys_values], gA h_t_keys_words cI 48 q_52.2.2.2.1, gA h_t_keys_values cI 48 q_52.2.2.2.2] ++ gG g_p1_cells cI l_p1_cells m_p1_cells n_p1_cells) H := hP
          have hD : va_D A ([gO h_p1 5 [.int v_p1_limit, .ref h_p1_cells, .ref h_p1_sizes], gA h_p1_sizes cI n_p1_sizes c_p1_sizes, gR h_p1_cells cG n_p1_cells (fun k => some (g_p1_cells k)), gO h_t 4 [.ref h_t_keys, .ref h_t_signs, .int q_7.1, .int q_52.2.1], gA h_t_signs cI 90 q_7.2, gO h_t_keys 1 [.int q_52.2.2.1, .ref h_t_keys_words, .ref h_t_keys_values], gA h_t_keys_words cI 48 q_52.2.2.2.1, gA h_t_keys_values cI 48 q_52.2.2.2.2] ++ gG g_p1_cells cI l_p1_cells m_p1_cells n_p1_cells) := hD
          refine lv_istore (lv' := [(4, .int q_52.1), (0, .ref h_t), (3, .int x3_27)]) hx hb dX4_read_55 hl (by decide) rfl (fun ls hl => ?_)
          refine lv_iload hx hb dX4_read_57 (lv_at hl 0 rfl) ?_
          refine lv_bipush (v := (-9)) hx hb dX4_read_59 (by decide) ?_
          refine lv_icmp_eq (tgt := 67) hx hb dX4_read_61 (by decide) (fun cc => ?_) (fun cc => ?_)
          · have hF := gi_pos hF cc
            obtain ⟨x3_67, ex⟩ : ∃ y : Int32, y = (x3_27 + 1) := ⟨_, rfl⟩
            have hF := gl_some hF ex
            refine lv_iinc (v := x3_67) (lv' := [(3, .int x3_67), (4, .int q_52.1), (0, .ref h_t)]) hx hb dX4_read_67 hl (k := 2) rfl (by rw [ex]; rfl) (by decide) rfl (fun ls hl => ?_)
            refine lv_goto (tgt := 27) hx hb dX4_read_70 (by decide) ?_
            exact ih27 x3_67 q_52.2.1 q_52.2.2.1 q_52.2.2.2.1 q_52.2.2.2.2 _ _ _ hF (hP.part [3, 6, 7, 0, 1, 4, 2, 5] rfl) (hD.part [3, 6, 7, 0, 1, 4, 2, 5] (by decide) rfl) hS (lv_sub hl [2, 0] rfl)
          · have hF := gi_neg hF cc
            refine lv_iload hx hb dX4_read_64 (lv_at hl 0 rfl) ?_
            obtain rfl := Option.some.inj hF
            exact hQ _ _ _ _ _ (hP.part [3, 0, 1, 4, 2, 5, 6, 7] rfl) (hD.part [3, 0, 1, 4, 2, 5, 6, 7] (by decide) rfl) hS rfl dX4_read_66
        · have hF := gi_neg hF cc
          refine lv_bipush (v := (-9)) hx hb dX4_read_48 (by decide) ?_
          obtain rfl := Option.some.inj hF
          exact hQ _ _ _ _ _ (hP.part [6, 2, 3, 7, 4, 5, 0, 1] rfl) (hD.part [6, 2, 3, 7, 4, 5, 0, 1] (by decide) rfl) hS rfl dX4_read_50
  exact Ln_27 gF (0 : Int32) (0 : Int32) q_22 c_t_keys_words c_t_keys_values _ _ _ hF hP hD hS (lv_sub hl [1, 0] rfl)

abbrev rmX5_holds : Room := { frames := 2, cells := 0, slots := 0, locals := 42 }
def fX5_holds (x1 : Int32) (n_t_sizes : Nat) (c_t_sizes : Nat → Int32) : Option (Int32) := (Option.bind (fX5_size x1 n_t_sizes c_t_sizes) (fun q_2 => (if q_2 = (-1 : Int32) then (some (0 : Int32)) else (some (1 : Int32)))))
set_option maxHeartbeats 4000000 in
set_option maxRecDepth 100000 in
theorem kX5_holds (l : Launch) (D : va_G) (cI cZ cD cG : ClassId) (h_t : Nat) (v_t_limit : Int32) (h_t_cells : Nat) (h_t_sizes : Nat) (n_t_sizes : Nat) (c_t_sizes : Nat → Int32) (x1 : Int32) (res : Int32) (hF : fX5_holds x1 n_t_sizes c_t_sizes = some res) : gMz l D (gty cI cZ cD cG) yX5_holds wsX5_holds rmX5_holds [.ref h_t, .int x1] [gO h_t 5 [.int v_t_limit, .ref h_t_cells, .ref h_t_sizes], gA h_t_sizes cI n_t_sizes c_t_sizes] res [gO h_t 5 [.int v_t_limit, .ref h_t_cells, .ref h_t_sizes], gA h_t_sizes cI n_t_sizes c_t_sizes] := by
  refine gMz.of (cc := cX5_holds) (maxL := 2) (by decide) rfl (Nat.le_of_ble_eq_true rfl) ?_
  intro p e s m args below meth c A ls Q hx hb hts hown hml hK hA hP hD hS hQ hl
  have hown : s.vm.findClass RX5 = some m.cls := hown
  have hl : lv_has ls 2 [(0, .ref h_t), (1, .int x1)] := hl
  rw [fX5_holds] at hF
  refine lv_aload_n hx hb dX5_holds_0 rfl (lv_at hl 0 rfl) ?_
  refine lv_iload_n hx hb dX5_holds_1 rfl (lv_at hl 1 rfl) ?_
  obtain ⟨q_2, hc, hF⟩ := gb_some hF
  refine gcVi (ci := 5) (As := [.int x1]) (rest := []) (pre := [gO h_t 5 [.int v_t_limit, .ref h_t_cells, .ref h_t_sizes], gA h_t_sizes cI n_t_sizes c_t_sizes]) (post := [gO h_t 5 [.int v_t_limit, .ref h_t_cells, .ref h_t_sizes], gA h_t_sizes cI n_t_sizes c_t_sizes]) (wr := []) ⟨hx, hb, hml, hown, hts⟩ (kX5_size l D cI cZ cD cG h_t v_t_limit h_t_cells h_t_sizes n_t_sizes c_t_sizes x1 q_2 hc) (cwV 1 hts gX5_holds_X5_size rfl rfl rfl (by decide +kernel) ⟨Nat.le_of_ble_eq_true rfl, Nat.le_of_ble_eq_true rfl⟩) hK hP hD hS hA [0, 1] [] rfl rfl (by decide) (by decide) (by decide) 0 rfl rfl rfl hl.1 rfl (Nat.le_of_ble_eq_true rfl) dX5_holds_2 ⟨Nat.zero_le _, Nat.zero_le _⟩ (fun H locs hP hD hS => ?_)
  have hP : va_P D vwCl [gO h_t 5 [.int v_t_limit, .ref h_t_cells, .ref h_t_sizes], gA h_t_sizes cI n_t_sizes c_t_sizes] H := hP
  have hD : va_D A [gO h_t 5 [.int v_t_limit, .ref h_t_cells, .ref h_t_sizes], gA h_t_sizes cI n_t_sizes c_t_sizes] := hD
  refine lv_iconst (v := (-1)) hx hb dX5_holds_5 (by decide) ?_
  refine lv_icmp_eq (tgt := 13) hx hb dX5_holds_6 (by decide) (fun cc => ?_) (fun cc => ?_)
  · have hF := gi_pos hF cc
    refine lv_iconst (v := 0) hx hb dX5_holds_13 (by decide) ?_
    obtain rfl := Option.some.inj hF
    exact hQ _ _ _ _ _ hP hD hS rfl rfl dX5_holds_14
  · have hF := gi_neg hF cc
    refine lv_iconst (v := 1) hx hb dX5_holds_9 (by decide) ?_
    refine lv_goto (tgt := 14) hx hb dX5_holds_10 (by decide) ?_
    obtain rfl := Option.some.inj hF
    exact hQ _ _ _ _ _ hP hD hS rfl rfl dX5_holds_14

abbrev rmX5_reaches : Room := { frames := 2, cells := 0, slots := 0, locals := 42 }
def fX5_reaches (x1 : Int32) (x2 : Int32) (n_t_sizes : Nat) (c_t_sizes : Nat → Int32) : Option (Int32) := (if x2 < 0 then (some (0 : Int32)) else (Option.bind (fX5_size x1 n_t_sizes c_t_sizes) (fun q_7 => (if q_7 ≤ x2 then (some (0 : Int32)) else (some (1 : Int32))))))
set_option maxHeartbeats 4000000 in
set_option maxRecDepth 100000 in
theorem kX5_reaches (l : Launch) (D : va_G) (cI cZ cD cG : ClassId) (h_t : Nat) (v_t_limit : Int32) (h_t_cells : Nat) (h_t_sizes : Nat) (n_t_sizes : Nat) (c_t_sizes : Nat → Int32) (x1 : Int32) (x2 : Int32) (res : Int32) (hF : fX5_reaches x1 x2 n_t_sizes c_t_sizes = some res) : gMz l D (gty cI cZ cD cG) yX5_reaches wsX5_reaches rmX5_reaches [.ref h_t, .int x1, .int x2] [gO h_t 5 [.int v_t_limit, .ref h_t_cells, .ref h_t_sizes], gA h_t_sizes cI n_t_sizes c_t_sizes] res [gO h_t 5 [.int v_t_limit, .ref h_t_cells, .ref h_t_sizes], gA h_t_sizes cI n_t_sizes c_t_sizes] := by
  refine gMz.of (cc := cX5_reaches) (maxL := 3) (by decide) rfl (Nat.le_of_ble_eq_true rfl) ?_
  intro p e s m args below meth c A ls Q hx hb hts hown hml hK hA hP hD hS hQ hl
  have hown : s.vm.findClass RX5 = some m.cls := hown
  have hl : lv_has ls 3 [(0, .ref h_t), (1, .int x1), (2, .int x2)] := hl
  rw [fX5_reaches] at hF
  refine lv_iload_n hx hb dX5_reaches_0 rfl (lv_at hl 2 rfl) ?_
  refine lv_if_lt (tgt := 17) hx hb dX5_reaches_1 (by decide) (fun cc => ?_) (fun cc => ?_)
  · have hF := gi_pos hF cc
    refine lv_iconst (v := 0) hx hb dX5_reaches_17 (by decide) ?_
    obtain rfl := Option.some.inj hF
    exact hQ _ _ _ _ _ hP hD hS rfl rfl dX5_reaches_18
  · have hF := gi_neg hF cc
    refine lv_iload_n hx hb dX5_reaches_4 rfl (lv_at hl 2 rfl) ?_
    refine lv_aload_n hx hb dX5_reaches_5 rfl (lv_at hl 0 rfl) ?_
    refine lv_iload_n hx hb dX5_reaches_6 rfl (lv_at hl 1 rfl) ?_
    obtain ⟨q_7, hc, hF⟩ := gb_some hF
    refine gcVi (ci := 5) (As := [.int x1]) (rest := [.int x2]) (pre := [gO h_t 5 [.int v_t_limit, .ref h_t_cells, .ref h_t_sizes], gA h_t_sizes cI n_t_sizes c_t_sizes]) (post := [gO h_t 5 [.int v_t_limit, .ref h_t_cells, .ref h_t_sizes], gA h_t_sizes cI n_t_sizes c_t_sizes]) (wr := []) ⟨hx, hb, hml, hown, hts⟩ (kX5_size l D cI cZ cD cG h_t v_t_limit h_t_cells h_t_sizes n_t_sizes c_t_sizes x1 q_7 hc) (cwV 1 hts gX5_reaches_X5_size rfl rfl rfl (by decide +kernel) ⟨Nat.le_of_ble_eq_true rfl, Nat.le_of_ble_eq_true rfl⟩) hK hP hD hS hA [0, 1] [] rfl rfl (by decide) (by decide) (by decide) 0 rfl rfl rfl hl.1 rfl (Nat.le_of_ble_eq_true rfl) dX5_reaches_7 ⟨Nat.zero_le _, Nat.zero_le _⟩ (fun H locs hP hD hS => ?_)
    have hP : va_P D vwCl [gO h_t 5 [.int v_t_limit, .ref h_t_cells, .ref h_t_sizes], gA h_t_sizes cI n_t_sizes c_t_sizes] H := hP
    have hD : va_D A [gO h_t 5 [.int v_t_limit, .ref h_t_cells, .ref h_t_sizes], gA h_t_sizes cI n_t_sizes c_t_sizes] := hD
    refine lv_icmp_ge (tgt := 17) hx hb dX5_reaches_10 (by decide) (fun cc => ?_) (fun cc => ?_)
    · have hF := gi_pos hF cc
      refine lv_iconst (v := 0) hx hb dX5_reaches_17 (by decide) ?_
      obtain rfl := Option.some.inj hF
      exact hQ _ _ _ _ _ hP hD hS rfl rfl dX5_reaches_18
    · have hF := gi_neg hF cc
      refine lv_iconst (v := 1) hx hb dX5_reaches_13 (by decide) ?_
      refine lv_goto (tgt := 18) hx hb dX5_reaches_14 (by decide) ?_
      obtain rfl := Option.some.inj hF
      exact hQ _ _ _ _ _ hP hD hS rfl rfl dX5_reaches_18

abbrev rmX5_spans : Room := { frames := 2, cells := 0, slots := 0, locals := 42 }
def fX5_spans (x1 : Int32) (x2 : Int32) (x3 : Int32) (n_t_sizes : Nat) (c_t_sizes : Nat → Int32) : Option (Int32) := (Option.bind (fX5_size x1 n_t_sizes c_t_sizes) (fun q_2 => (if x2 < 0 then (some (0 : Int32)) else (if q_2 < x2 then (some (0 : Int32)) else (if x3 < 0 then (some (0 : Int32)) else (if (q_2 - x2) < x3 then (some (0 : Int32)) else (some (1 : Int32))))))))
set_option maxHeartbeats 4000000 in
set_option maxRecDepth 100000 in
theorem kX5_spans (l : Launch) (D : va_G) (cI cZ cD cG : ClassId) (h_t : Nat) (v_t_limit : Int32) (h_t_cells : Nat) (h_t_sizes : Nat) (n_t_sizes : Nat) (c_t_sizes : Nat → Int32) (x1 : Int32) (x2 : Int32) (x3 : Int32) (res : Int32) (hF : fX5_spans x1 x2 x3 n_t_sizes c_t_sizes = some res) : gMz l D (gty cI cZ cD cG) yX5_spans wsX5_spans rmX5_spans [.ref h_t, .int x1, .int x2, .int x3] [gO h_t 5 [.int v_t_limit, .ref h_t_cells, .ref h_t_sizes], gA h_t_sizes cI n_t_sizes c_t_sizes] res [gO h_t 5 [.int v_t_limit, .ref h_t_cells, .ref h_t_sizes], gA h_t_sizes cI n_t_sizes c_t_sizes] := by
  refine gMz.of (cc := cX5_spans) (maxL := 5) (by decide) rfl (Nat.le_of_ble_eq_true rfl) ?_
  intro p e s m args below meth c A ls Q hx hb hts hown hml hK hA hP hD hS hQ hl
  have hown : s.vm.findClass RX5 = some m.cls := hown
  have hl : lv_has ls 5 [(0, .ref h_t), (1, .int x1), (2, .int x2), (3, .int x3)] := hl
  rw [fX5_spans] at hF
  refine lv_aload_n hx hb dX5_spans_0 rfl (lv_at hl 0 rfl) ?_
  refine lv_iload_n hx hb dX5_spans_1 rfl (lv_at hl 1 rfl) ?_
  obtain ⟨q_2, hc, hF⟩ := gb_some hF
  refine gcVi (ci := 5) (As := [.int x1]) (rest := []) (pre := [gO h_t 5 [.int v_t_limit, .ref h_t_cells, .ref h_t_sizes], gA h_t_sizes cI n_t_sizes c_t_sizes]) (post := [gO h_t 5 [.int v_t_limit, .ref h_t_cells, .ref h_t_sizes], gA h_t_sizes cI n_t_sizes c_t_sizes]) (wr := []) ⟨hx, hb, hml, hown, hts⟩ (kX5_size l D cI cZ cD cG h_t v_t_limit h_t_cells h_t_sizes n_t_sizes c_t_sizes x1 q_2 hc) (cwV 1 hts gX5_spans_X5_size rfl rfl rfl (by decide +kernel) ⟨Nat.le_of_ble_eq_true rfl, Nat.le_of_ble_eq_true rfl⟩) hK hP hD hS hA [0, 1] [] rfl rfl (by decide) (by decide) (by decide) 0 rfl rfl rfl hl.1 rfl (Nat.le_of_ble_eq_true rfl) dX5_spans_2 ⟨Nat.zero_le _, Nat.zero_le _⟩ (fun H locs hP hD hS => ?_)
  have hP : va_P D vwCl [gO h_t 5 [.int v_t_limit, .ref h_t_cells, .ref h_t_sizes], gA h_t_sizes cI n_t_sizes c_t_sizes] H := hP
  have hD : va_D A [gO h_t 5 [.int v_t_limit, .ref h_t_cells, .ref h_t_sizes], gA h_t_sizes cI n_t_sizes c_t_sizes] := hD
  refine lv_istore (lv' := [(4, .int q_2), (0, .ref h_t), (1, .int x1), (2, .int x2), (3, .int x3)]) hx hb dX5_spans_5 hl (by decide) rfl (fun ls hl => ?_)
  refine lv_iload_n hx hb dX5_spans_7 rfl (lv_at hl 3 rfl) ?_
  refine lv_if_lt (tgt := 33) hx hb dX5_spans_8 (by decide) (fun cc => ?_) (fun cc => ?_)
  · have hF := gi_pos hF cc
    refine lv_iconst (v := 0) hx hb dX5_spans_33 (by decide) ?_
    obtain rfl := Option.some.inj hF
    exact hQ _ _ _ _ _ hP hD hS rfl rfl dX5_spans_34
  · have hF := gi_neg hF cc
    refine lv_iload_n hx hb dX5_spans_11 rfl (lv_at hl 3 rfl) ?_
    refine lv_iload hx hb dX5_spans_12 (lv_at hl 0 rfl) ?_
    refine lv_icmp_gt (tgt := 33) hx hb dX5_spans_14 (by decide) (fun cc => ?_) (fun cc => ?_)
    · have hF := gi_pos hF cc
      refine lv_iconst (v := 0) hx hb dX5_spans_33 (by decide) ?_
      obtain rfl := Option.some.inj hF
      exact hQ _ _ _ _ _ hP hD hS rfl rfl dX5_spans_34
    · have hF := gi_neg hF cc
      refine lv_iload_n hx hb dX5_spans_17 rfl (lv_at hl 4 rfl) ?_
      refine lv_if_lt (tgt := 33) hx hb dX5_spans_18 (by decide) (fun cc => ?_) (fun cc => ?_)
      · have hF := gi_pos hF cc
        refine lv_iconst (v := 0) hx hb dX5_spans_33 (by decide) ?_
        obtain rfl := Option.some.inj hF
        exact hQ _ _ _ _ _ hP hD hS rfl rfl dX5_spans_34
      · have hF := gi_neg hF cc
        refine lv_iload_n hx hb dX5_spans_21 rfl (lv_at hl 4 rfl) ?_
        refine lv_iload hx hb dX5_spans_22 (lv_at hl 0 rfl) ?_
        refine lv_iload_n hx hb dX5_spans_24 rfl (lv_at hl 3 rfl) ?_
        refine lv_isub hx hb dX5_spans_25 ?_
        refine lv_icmp_gt (tgt := 33) hx hb dX5_spans_26 (by decide) (fun cc => ?_) (fun cc => ?_)
        · have hF := gi_pos hF cc
          refine lv_iconst (v := 0) hx hb dX5_spans_33 (by decide) ?_
          obtain rfl := Option.some.inj hF
          exact hQ _ _ _ _ _ hP hD hS rfl rfl dX5_spans_34
        · have hF := gi_neg hF cc
          refine lv_iconst (v := 1) hx hb dX5_spans_29 (by decide) ?_
          refine lv_goto (tgt := 34) hx hb dX5_spans_30 (by decide) ?_
          obtain rfl := Option.some.inj hF
          exact hQ _ _ _ _ _ hP hD hS rfl rfl dX5_spans_34

abbrev rmX5_cell : Room := { frames := 3, cells := 0, slots := 0, locals := 64 }
def fX5_cell (x1 : Int32) (x2 : Int32) (n_t_sizes : Nat) (c_t_sizes : Nat → Int32) (n_t_cells : Nat) (l_t_cells : Nat) (m_t_cells : Nat → Nat → Int32) : Option (Int32) := (Option.bind (fX5_reaches x1 x2 n_t_sizes c_t_sizes) (fun q_3 => (if q_3 = 0 then (some (0 : Int32)) else (gx x1 n_t_cells (gx x2 l_t_cells (some (m_t_cells (x1).toNatClampNeg (x2).toNatClampNeg)))))))
set_option maxHeartbeats 4000000 in
set_option maxRecDepth 100000 in
theorem kX5_cell (l : Launch) (D : va_G) (cI cZ cD cG : ClassId) (h_t : Nat) (v_t_limit : Int32) (h_t_cells : Nat) (h_t_sizes : Nat) (n_t_sizes : Nat) (c_t_sizes : Nat → Int32) (n_t_cells : Nat) (g_t_cells : Nat → Nat) (l_t_cells : Nat) (m_t_cells : Nat → Nat → Int32) (x1 : Int32) (x2 : Int32) (res : Int32) (hF : fX5_cell x1 x2 n_t_sizes c_t_sizes n_t_cells l_t_cells m_t_cells = some res) : gMi l D (gty cI cZ cD cG) yX5_cell wsX5_cell rmX5_cell [.ref h_t, .int x1, .int x2] ([gO h_t 5 [.int v_t_limit, .ref h_t_cells, .ref h_t_sizes], gA h_t_sizes cI n_t_sizes c_t_sizes, gR h_t_cells cG n_t_cells (fun k => some (g_t_cells k))] ++ gG g_t_cells cI l_t_cells m_t_cells n_t_cells) res ([gO h_t 5 [.int v_t_limit, .ref h_t_cells, .ref h_t_sizes], gA h_t_sizes cI n_t_sizes c_t_sizes, gR h_t_cells cG n_t_cells (fun k => some (g_t_cells k))] ++ gG g_t_cells cI l_t_cells m_t_cells n_t_cells) := by
  refine gMi.of (cc := cX5_cell) (maxL := 3) (by decide) rfl (Nat.le_of_ble_eq_true rfl) ?_
  intro p e s m args below meth c A ls Q hx hb hts hown hml hK hA hP hD hS hQ hl
  have hown : s.vm.findClass RX5 = some m.cls := hown
  have hl : lv_has ls 3 [(0, .ref h_t), (1, .int x1), (2, .int x2)] := hl
  have hw0 := hts (.fieldLink RX5 17 "NibbleTrunk$Shelf" "cells" "[[I") (by decide +kernel)
  have hinX5 : ∀ w ∈ wsX50, w ∈ wsX5_cell := by decide +kernel
  rw [fX5_cell] at hF
  refine lv_aload_n hx hb dX5_cell_0 rfl (lv_at hl 0 rfl) ?_
  refine lv_iload_n hx hb dX5_cell_1 rfl (lv_at hl 1 rfl) ?_
  refine lv_iload_n hx hb dX5_cell_2 rfl (lv_at hl 2 rfl) ?_
  obtain ⟨q_3, hc, hF⟩ := gb_some hF
  refine gcVzG (ci := 5) (pl := gG g_t_cells cI l_t_cells m_t_cells n_t_cells) (As := [.int x1, .int x2]) (rest := []) (pre := [gO h_t 5 [.int v_t_limit, .ref h_t_cells, .ref h_t_sizes], gA h_t_sizes cI n_t_sizes c_t_sizes]) (post := [gO h_t 5 [.int v_t_limit, .ref h_t_cells, .ref h_t_sizes], gA h_t_sizes cI n_t_sizes c_t_sizes]) (wr := [gR h_t_cells cG n_t_cells (fun k => some (g_t_cells k))]) ⟨hx, hb, hml, hown, hts⟩ (kX5_reaches l D cI cZ cD cG h_t v_t_limit h_t_cells h_t_sizes n_t_sizes c_t_sizes x1 x2 q_3 hc) (cwV 2 hts gX5_cell_X5_reaches rfl rfl rfl (by decide +kernel) ⟨Nat.le_of_ble_eq_true rfl, Nat.le_of_ble_eq_true rfl⟩) hK hP hD hS hA [0, 1] [2] rfl rfl (by decide) (by decide) (by decide) 0 rfl rfl rfl hl.1 rfl (Nat.le_of_ble_eq_true rfl) dX5_cell_3 ⟨Nat.zero_le _, Nat.zero_le _⟩ (fun H locs hnq_3 hP hD hS => ?_)
  have hP : va_P D vwCl ([gR h_t_cells cG n_t_cells (fun k => some (g_t_cells k)), gO h_t 5 [.int v_t_limit, .ref h_t_cells, .ref h_t_sizes], gA h_t_sizes cI n_t_sizes c_t_sizes] ++ gG g_t_cells cI l_t_cells m_t_cells n_t_cells) H := hP
  have hD : va_D A ([gR h_t_cells cG n_t_cells (fun k => some (g_t_cells k)), gO h_t 5 [.int v_t_limit, .ref h_t_cells, .ref h_t_sizes], gA h_t_sizes cI n_t_sizes c_t_sizes] ++ gG g_t_cells cI l_t_cells m_t_cells n_t_cells) := hD
  refine lv_if_eq (tgt := 20) hx hb dX5_cell_6 (by decide) (fun cc => ?_) (fun cc => ?_)
  · have hF := gi_pos hF cc
    refine lv_iconst (v := 0) hx hb dX5_cell_20 (by decide) ?_
    obtain rfl := Option.some.inj hF
    exact hQ _ _ _ _ _ (hP.part [1, 2, 0] rfl) (hD.part [1, 2, 0] (by decide) rfl) hS rfl dX5_cell_21
  · have hF := gi_neg hF cc
    refine lv_aload_n hx hb dX5_cell_9 rfl (lv_at hl 0 rfl) ?_
    refine va_get (D := D) (ci := 5) (v := .ref h_t_cells) (C := RX5) (T := TX5) (N := 3) hx hb hts hinX5 hown hK hP 1 rfl rfl 1 (by decide) hw0 (fun _ h9 => h9) rfl dX5_cell_10 ?_
    refine lv_iload_n hx hb dX5_cell_13 rfl (lv_at hl 1 rfl) ?_
    obtain ⟨hr_14, hF⟩ := gx_some hF
    refine va_aldg hx hb hK hP 0 3 rfl rfl hr_14 dX5_cell_14 ?_
    refine lv_iload_n hx hb dX5_cell_15 rfl (lv_at hl 2 rfl) ?_
    obtain ⟨hin, hF⟩ := gx_some hF
    refine va_iald hx hb hK hP (3 + (x1).toNatClampNeg) 0 (gG_get rfl (vp_lt hr_14)) rfl hin dX5_cell_16 ?_
    refine lv_goto (tgt := 21) hx hb dX5_cell_17 (by decide) ?_
    obtain rfl := Option.some.inj hF
    exact hQ _ _ _ _ _ (hP.part [1, 2, 0] rfl) (hD.part [1, 2, 0] (by decide) rfl) hS rfl dX5_cell_21

abbrev rmX5_replace : Room := { frames := 3, cells := 0, slots := 0, locals := 64 }
def fX5_replace (x1 : Int32) (x2 : Int32) (x3 : Int32) (n_t_sizes : Nat) (c_t_sizes : Nat → Int32) (n_t_cells : Nat) (l_t_cells : Nat) (m_t_cells : Nat → Nat → Int32) : Option (Int32 × (Nat → Nat → Int32)) := (Option.bind (fX5_reaches x1 x2 n_t_sizes c_t_sizes) (fun q_3 => (if q_3 = 0 then (some ((0 : Int32), m_t_cells)) else (gx x1 n_t_cells (gx x2 l_t_cells (gl (m_t_cells (x1).toNatClampNeg (x2).toNatClampNeg) (fun x4_19 => (gx x1 n_t_cells (gx x2 l_t_cells (some (x4_19, (gmu m_t_cells (x1).toNatClampNeg (upd (m_t_cells (x1).toNatClampNeg) (x2).toNatClampNeg x3)))))))))))))
set_option maxHeartbeats 4000000 in
set_option maxRecDepth 100000 in
theorem kX5_replace (l : Launch) (D : va_G) (cI cZ cD cG : ClassId) (h_t : Nat) (v_t_limit : Int32) (h_t_cells : Nat) (h_t_sizes : Nat) (n_t_sizes : Nat) (c_t_sizes : Nat → Int32) (n_t_cells : Nat) (g_t_cells : Nat → Nat) (l_t_cells : Nat) (m_t_cells : Nat → Nat → Int32) (x1 : Int32) (x2 : Int32) (x3 : Int32) (res : Int32 × (Nat → Nat → Int32)) (hF : fX5_replace x1 x2 x3 n_t_sizes c_t_sizes n_t_cells l_t_cells m_t_cells = some res) : gMi l D (gty cI cZ cD cG) yX5_replace wsX5_replace rmX5_replace [.ref h_t, .int x1, .int x2, .int x3] ([gO h_t 5 [.int v_t_limit, .ref h_t_cells, .ref h_t_sizes], gA h_t_sizes cI n_t_sizes c_t_sizes, gR h_t_cells cG n_t_cells (fun k => some (g_t_cells k))] ++ gG g_t_cells cI l_t_cells m_t_cells n_t_cells) res.1 ([gO h_t 5 [.int v_t_limit, .ref h_t_cells, .ref h_t_sizes], gA h_t_sizes cI n_t_sizes c_t_sizes, gR h_t_cells cG n_t_cells (fun k => some (g_t_cells k))] ++ gG g_t_cells cI l_t_cells res.2 n_t_cells) := by
  refine gMi.of (cc := cX5_replace) (maxL := 5) (by decide) rfl (Nat.le_of_ble_eq_true rfl) ?_
  intro p e s m args below meth c A ls Q hx hb hts hown hml hK hA hP hD hS hQ hl
  have hown : s.vm.findClass RX5 = some m.cls := hown
  have hl : lv_has ls 5 [(0, .ref h_t), (1, .int x1), (2, .int x2), (3, .int x3)] := hl
  have hw0 := hts (.fieldLink RX5 17 "NibbleTrunk$Shelf" "cells" "[[I") (by decide +kernel)
  have hinX5 : ∀ w ∈ wsX50, w ∈ wsX5_replace := by decide +kernel
  rw [fX5_replace] at hF
  refine lv_aload_n hx hb dX5_replace_0 rfl (lv_at hl 0 rfl) ?_
  refine lv_iload_n hx hb dX5_replace_1 rfl (lv_at hl 1 rfl) ?_
  refine lv_iload_n hx hb dX5_replace_2 rfl (lv_at hl 2 rfl) ?_
  obtain ⟨q_3, hc, hF⟩ := gb_some hF
  refine gcVzG (ci := 5) (pl := gG g_t_cells cI l_t_cells m_t_cells n_t_cells) (As := [.int x1, .int x2]) (rest := []) (pre := [gO h_t 5 [.int v_t_limit, .ref h_t_cells, .ref h_t_sizes], gA h_t_sizes cI n_t_sizes c_t_sizes]) (post := [gO h_t 5 [.int v_t_limit, .ref h_t_cells, .ref h_t_sizes], gA h_t_sizes cI n_t_sizes c_t_sizes]) (wr := [gR h_t_cells cG n_t_cells (fun k => some (g_t_cells k))]) ⟨hx, hb, hml, hown, hts⟩ (kX5_reaches l D cI cZ cD cG h_t v_t_limit h_t_cells h_t_sizes n_t_sizes c_t_sizes x1 x2 q_3 hc) (cwV 2 hts gX5_replace_X5_reaches rfl rfl rfl (by decide +kernel) ⟨Nat.le_of_ble_eq_true rfl, Nat.le_of_ble_eq_true rfl⟩) hK hP hD hS hA [0, 1] [2] rfl rfl (by decide) (by decide) (by decide) 0 rfl rfl rfl hl.1 rfl (Nat.le_of_ble_eq_true rfl) dX5_replace_3 ⟨Nat.zero_le _, Nat.zero_le _⟩ (fun H locs hnq_3 hP hD hS => ?_)
  have hP : va_P D vwCl ([gR h_t_cells cG n_t_cells (fun k => some (g_t_cells k)), gO h_t 5 [.int v_t_limit, .ref h_t_cells, .ref h_t_sizes], gA h_t_sizes cI n_t_sizes c_t_sizes] ++ gG g_t_cells cI l_t_cells m_t_cells n_t_cells) H := hP
  have hD : va_D A ([gR h_t_cells cG n_t_cells (fun k => some (g_t_cells k)), gO h_t 5 [.int v_t_limit, .ref h_t_cells, .ref h_t_sizes], gA h_t_sizes cI n_t_sizes c_t_sizes] ++ gG g_t_cells cI l_t_cells m_t_cells n_t_cells) := hD
  refine lv_if_ne (tgt := 11) hx hb dX5_replace_6 (by decide) (fun cc => ?_) (fun cc => ?_)
  · have hF := gi_neg hF cc
    refine lv_aload_n hx hb dX5_replace_11 rfl (lv_at hl 0 rfl) ?_
    refine va_get (D := D) (ci := 5) (v := .ref h_t_cells) (C := RX5) (T := TX5) (N := 3) hx hb hts hinX5 hown hK hP 1 rfl rfl 1 (by decide) hw0 (fun _ h9 => h9) rfl dX5_replace_12 ?_
    refine lv_iload_n hx hb dX5_replace_15 rfl (lv_at hl 1 rfl) ?_
    obtain ⟨hr_16, hF⟩ := gx_some hF
    refine va_aldg hx hb hK hP 0 3 rfl rfl hr_16 dX5_replace_16 ?_
    refine lv_iload_n hx hb dX5_replace_17 rfl (lv_at hl 2 rfl) ?_
    obtain ⟨hin, hF⟩ := gx_some hF
    refine va_iald hx hb hK hP (3 + (x1).toNatClampNeg) 0 (gG_get rfl (vp_lt hr_16)) rfl hin dX5_replace_18 ?_
    refine lv_topi (fun x4_19 ex => ?_)
    have hF := gl_some hF ex
    refine lv_istore (lv' := [(4, .int x4_19), (0, .ref h_t), (1, .int x1), (2, .int x2), (3, .int x3)]) hx hb dX5_replace_19 hl (by decide) rfl (fun ls hl => ?_)
    refine lv_aload_n hx hb dX5_replace_21 rfl (lv_at hl 1 rfl) ?_
    refine va_get (D := D) (ci := 5) (v := .ref h_t_cells) (C := RX5) (T := TX5) (N := 3) hx hb hts hinX5 hown hK hP 1 rfl rfl 1 (by decide) hw0 (fun _ h9 => h9) rfl dX5_replace_22 ?_
    refine lv_iload_n hx hb dX5_replace_25 rfl (lv_at hl 2 rfl) ?_
    obtain ⟨hr_26, hF⟩ := gx_some hF
    refine va_aldg hx hb hK hP 0 3 rfl rfl hr_26 dX5_replace_26 ?_
    refine lv_iload_n hx hb dX5_replace_27 rfl (lv_at hl 3 rfl) ?_
    refine lv_iload_n hx hb dX5_replace_28 rfl (lv_at hl 4 rfl) ?_
    obtain ⟨hin, hF⟩ := gx_some hF
    refine va_iast hx hb hK hP hD hS (3 + (x1).toNatClampNeg) 0 (gG_get rfl (vp_lt hr_26)) rfl hin dX5_replace_29 (fun H locs hP hD hS => ?_)
    have hP : va_P D vwCl ([gR h_t_cells cG n_t_cells (fun k => some (g_t_cells k)), gO h_t 5 [.int v_t_limit, .ref h_t_cells, .ref h_t_sizes], gA h_t_sizes cI n_t_sizes c_t_sizes] ++ gG g_t_cells cI l_t_cells (gmu m_t_cells (x1).toNatClampNeg (upd (m_t_cells (x1).toNatClampNeg) (x2).toNatClampNeg x3)) n_t_cells) H := gP_set (b := 3) rfl (vp_lt hr_26) hP
    have hD : va_D A ([gR h_t_cells cG n_t_cells (fun k => some (g_t_cells k)), gO h_t 5 [.int v_t_limit, .ref h_t_cells, .ref h_t_sizes], gA h_t_sizes cI n_t_sizes c_t_sizes] ++ gG g_t_cells cI l_t_cells (gmu m_t_cells (x1).toNatClampNeg (upd (m_t_cells (x1).toNatClampNeg) (x2).toNatClampNeg x3)) n_t_cells) := gD_set (b := 3) rfl (vp_lt hr_26) hD
    refine lv_iload hx hb dX5_replace_30 (lv_at hl 0 rfl) ?_
    obtain rfl := Option.some.inj hF
    exact hQ _ _ _ _ _ (hP.part [1, 2, 0] rfl) (hD.part [1, 2, 0] (by decide) rfl) hS rfl dX5_replace_32
  · have hF := gi_pos hF cc
    refine lv_iconst (v := 0) hx hb dX5_replace_9 (by decide) ?_
    obtain rfl := Option.some.inj hF
    exact hQ _ _ _ _ _ (hP.part [1, 2, 0] rfl) (hD.part [1, 2, 0] (by decide) rfl) hS rfl dX5_replace_10

abbrev rmX5_make : Room := { frames := 1, cells := 0, slots := 0, locals := 21 }
def fX5_make_L31 (x2 : Int32) (x1 : Int32) (n_t_cells : Nat) (l_t_cells : Nat) (x3 : Int32) : Nat → Int32 → (Nat → Nat → Int32) → Option ((Nat → Nat → Int32))
  | 0, _, _ => none
  | n_31 + 1, x4_31, m_t_cells_31 => (if x2 ≤ x4_31 then (some m_t_cells_31) else (gx x1 n_t_cells (gx x4_31 l_t_cells (gl (x4_31 + 1) (fun x4_47 => (fX5_make_L31 x2 x1 n_t_cells l_t_cells x3 n_31 x4_47 (gmu m_t_cells_31 (x1).toNatClampNeg (upd (m_t_cells_31 (x1).toNatClampNeg) (x4_31).toNatClampNeg x3))))))))
def fX5_make (x1 : Int32) (x2 : Int32) (x3 : Int32) (v_t_limit : Int32) (n_t_sizes : Nat) (c_t_sizes : Nat → Int32) (n_t_cells : Nat) (l_t_cells : Nat) (m_t_cells : Nat → Nat → Int32) : Option ((Nat → Int32) × (Nat → Nat → Int32)) := (Option.bind (fX5_names x1 n_t_sizes) (fun q_2 => (if q_2 = 0 then (some (c_t_sizes, m_t_cells)) else (if x2 < 0 then (some (c_t_sizes, m_t_cells)) else (if x2 ≤ v_t_limit then (gx x1 n_t_sizes (Option.bind (fX5_make_L31 x2 x1 n_t_cells l_t_cells x3 gF (0 : Int32) m_t_cells) (fun q_31 => (some ((upd c_t_sizes (x1).toNatClampNeg x2), q_31))))) else (some (c_t_sizes, m_t_cells)))))))
set_option maxHeartbeats 4000000 in
set_option maxRecDepth 100000 in
theorem kX5_make (l : Launch) (D : va_G) (cI cZ cD cG : ClassId) (h_t : Nat) (v_t_limit : Int32) (h_t_cells : Nat) (h_t_sizes : Nat) (n_t_sizes : Nat) (c_t_sizes : Nat → Int32) (n_t_cells : Nat) (g_t_cells : Nat → Nat) (l_t_cells : Nat) (m_t_cells : Nat → Nat → Int32) (x1 : Int32) (x2 : Int32) (x3 : Int32) (res : (Nat → Int32) × (Nat → Nat → Int32)) (hF : fX5_make x1 x2 x3 v_t_limit n_t_sizes c_t_sizes n_t_cells l_t_cells m_t_cells = some res) : gMv l D (gty cI cZ cD cG) yX5_make wsX5_make rmX5_make [.ref h_t, .int x1, .int x2, .int x3] ([gO h_t 5 [.int v_t_limit, .ref h_t_cells, .ref h_t_sizes], gA h_t_sizes cI n_t_sizes c_t_sizes, gR h_t_cells cG n_t_cells (fun k => some (g_t_cells k))] ++ gG g_t_cells cI l_t_cells m_t_cells n_t_cells) ([gO h_t 5 [.int v_t_limit, .ref h_t_cells, .ref h_t_sizes], gA h_t_sizes cI n_t_sizes res.1, gR h_t_cells cG n_t_cells (fun k => some (g_t_cells k))] ++ gG g_t_cells cI l_t_cells res.2 n_t_cells) := by
  refine gMv.of (cc := cX5_make) (maxL := 5) (by decide) rfl (Nat.le_of_ble_eq_true rfl) ?_
  intro p e s m args below meth c A ls Q hx hb hts hown hml hK hA hP hD hS hQ hl
  have hown : s.vm.findClass RX5 = some m.cls := hown
  have hl : lv_has ls 5 [(0, .ref h_t), (1, .int x1), (2, .int x2), (3, .int x3)] := hl
  have hw0 := hts (.fieldLink RX5 9 "NibbleTrunk$Shelf" "limit" "I") (by decide +kernel)
  have hinX5 : ∀ w ∈ wsX50, w ∈ wsX5_make := by decide +kernel
  have hw2 := hts (.fieldLink RX5 20 "NibbleTrunk$Shelf" "sizes" "[I") (by decide +kernel)
  have hw3 := hts (.fieldLink RX5 17 "NibbleTrunk$Shelf" "cells" "[[I") (by decide +kernel)
  rw [fX5_make] at hF
  refine lv_aload_n hx hb dX5_make_0 rfl (lv_at hl 0 rfl) ?_
  refine lv_iload_n hx hb dX5_make_1 rfl (lv_at hl 1 rfl) ?_
  obtain ⟨q_2, hc, hF⟩ := gb_some hF
  refine gcVzG (ci := 5) (pl := gG g_t_cells cI l_t_cells m_t_cells n_t_cells) (As := [.int x1]) (rest := []) (pre := [gO h_t 5 [.int v_t_limit, .ref h_t_cells, .ref h_t_sizes], gA h_t_sizes cI n_t_sizes c_t_sizes]) (post := [gO h_t 5 [.int v_t_limit, .ref h_t_cells, .ref h_t_sizes], gA h_t_sizes cI n_t_sizes c_t_sizes]) (wr := [gR h_t_cells cG n_t_cells (fun k => some (g_t_cells k))]) ⟨hx, hb, hml, hown, hts⟩ (kX5_names l D cI cZ cD cG h_t v_t_limit h_t_cells h_t_sizes n_t_sizes c_t_sizes x1 q_2 hc) (cwV 1 hts gX5_make_X5_names rfl rfl rfl (by decide +kernel) ⟨Nat.le_of_ble_eq_true rfl, Nat.le_of_ble_eq_true rfl⟩) hK hP hD hS hA [0, 1] [2] rfl rfl (by decide) (by decide) (by decide) 0 rfl rfl rfl hl.1 rfl (Nat.le_of_ble_eq_true rfl) dX5_make_2 ⟨Nat.zero_le _, Nat.zero_le _⟩ (fun H locs hnq_2 hP hD hS => ?_)
  have hP : va_P D vwCl ([gR h_t_cells cG n_t_cells (fun k => some (g_t_cells k)), gO h_t 5 [.int v_t_limit, .ref h_t_cells, .ref h_t_sizes], gA h_t_sizes cI n_t_sizes c_t_sizes] ++ gG g_t_cells cI l_t_cells m_t_cells n_t_cells) H := hP
  have hD : va_D A ([gR h_t_cells cG n_t_cells (fun k => some (g_t_cells k)), gO h_t 5 [.int v_t_limit, .ref h_t_cells, .ref h_t_sizes], gA h_t_sizes cI n_t_sizes c_t_sizes] ++ gG g_t_cells cI l_t_cells m_t_cells n_t_cells) := hD
  refine lv_if_eq (tgt := 20) hx hb dX5_make_5 (by decide) (fun cc => ?_) (fun cc => ?_)
  · have hF := gi_pos hF cc
    obtain rfl := Option.some.inj hF
    exact hQ _ _ _ _ (hP.part [1, 2, 0] rfl) (hD.part [1, 2, 0] (by decide) rfl) hS dX5_make_20
  · have hF := gi_neg hF cc
    refine lv_iload_n hx hb dX5_make_8 rfl (lv_at hl 2 rfl) ?_
    refine lv_if_lt (tgt := 20) hx hb dX5_make_9 (by decide) (fun cc => ?_) (fun cc => ?_)
    · have hF := gi_pos hF cc
      obtain rfl := Option.some.inj hF
      exact hQ _ _ _ _ (hP.part [1, 2, 0] rfl) (hD.part [1, 2, 0] (by decide) rfl) hS dX5_make_20
    · have hF := gi_neg hF cc
      refine lv_iload_n hx hb dX5_make_12 rfl (lv_at hl 2 rfl) ?_
      refine lv_aload_n hx hb dX5_make_13 rfl (lv_at hl 0 rfl) ?_
      refine va_get (D := D) (ci := 5) (v := .int v_t_limit) (C := RX5) (T := TX5) (N := 3) hx hb hts hinX5 hown hK hP 1 rfl rfl 0 (by decide) hw0 (fun _ h9 => h9) rfl dX5_make_14 ?_
      refine lv_icmp_le (tgt := 21) hx hb dX5_make_17 (by decide) (fun cc => ?_) (fun cc => ?_)
      · have hF := gi_pos hF cc
        refine lv_aload_n hx hb dX5_make_21 rfl (lv_at hl 0 rfl) ?_
        refine va_get (D := D) (ci := 5) (v := .ref h_t_sizes) (C := RX5) (T := TX5) (N := 3) hx hb hts hinX5 hown hK hP 1 rfl rfl 2 (by decide) hw2 (fun _ h9 => h9) rfl dX5_make_22 ?_
        refine lv_iload_n hx hb dX5_make_25 rfl (lv_at hl 1 rfl) ?_
        refine lv_iload_n hx hb dX5_make_26 rfl (lv_at hl 2 rfl) ?_
        obtain ⟨hin, hF⟩ := gx_some hF
        refine va_iast hx hb hK hP hD hS 2 0 rfl rfl hin dX5_make_27 (fun H locs hP hD hS => ?_)
        have hP : va_P D vwCl ([gR h_t_cells cG n_t_cells (fun k => some (g_t_cells k)), gO h_t 5 [.int v_t_limit, .ref h_t_cells, .ref h_t_sizes], gA h_t_sizes cI n_t_sizes (upd c_t_sizes (x1).toNatClampNeg x2)] ++ gG g_t_cells cI l_t_cells m_t_cells n_t_cells) H := hP
        have hD : va_D A ([gR h_t_cells cG n_t_cells (fun k => some (g_t_cells k)), gO h_t 5 [.int v_t_limit, .ref h_t_cells, .ref h_t_sizes], gA h_t_sizes cI n_t_sizes (upd c_t_sizes (x1).toNatClampNeg x2)] ++ gG g_t_cells cI l_t_cells m_t_cells n_t_cells) := hD
        refine lv_iconst (v := 0) hx hb dX5_make_28 (by decide) ?_
        refine lv_istore (lv' := [(4, .int (0 : Int32)), (0, .ref h_t), (1, .int x1), (2, .int x2), (3, .int x3)]) hx hb dX5_make_29 hl (by decide) rfl (fun ls hl => ?_)
        obtain ⟨q_31, hR, hF⟩ := gb_some hF
        have En_31 : ∀ (H : Heap) (locs : List Loc) (ls : Array Slot), va_P D vwCl ([gR h_t_cells cG n_t_cells (fun k => some (g_t_cells k)), gO h_t 5 [.int v_t_limit, .ref h_t_cells, .ref h_t_sizes], gA h_t_sizes cI n_t_sizes (upd c_t_sizes (x1).toNatClampNeg x2)] ++ gG g_t_cells cI l_t_cells q_31 n_t_cells) H → va_D A ([gR h_t_cells cG n_t_cells (fun k => some (g_t_cells k)), gO h_t 5 [.int v_t_limit, .ref h_t_cells, .ref h_t_sizes], gA h_t_sizes cI n_t_sizes (upd c_t_sizes (x1).toNatClampNeg x2)] ++ gG g_t_cells cI l_t_cells q_31 n_t_cells) → va_S A s.heap H locs → lv_has ls 5 [] → W p l e rmX5_make s m args below meth c H locs 0 0 Q (F0 m 53 ls []) := by
          intro H locs ls hP hD hS hl
          obtain rfl := Option.some.inj hF
          exact hQ _ _ _ _ (hP.part [1, 2, 0] rfl) (hD.part [1, 2, 0] (by decide) rfl) hS dX5_make_53
        clear hF
        have Ln_31 : ∀ (n_31 : Nat) (x4_31 : Int32) (m_t_cells_31 : Nat → Nat → Int32) (H : Heap) (locs : List Loc) (ls : Array Slot), fX5_make_L31 x2 x1 n_t_cells l_t_cells x3 n_31 x4_31 m_t_cells_31 = some q_31 → va_P D vwCl ([gR h_t_cells cG n_t_cells (fun k => some (g_t_cells k)), gO h_t 5 [.int v_t_limit, .ref h_t_cells, .ref h_t_sizes], gA h_t_sizes cI n_t_sizes (upd c_t_sizes (x1).toNatClampNeg x2)] ++ gG g_t_cells cI l_t_cells m_t_cells_31 n_t_cells) H → va_D A ([gR h_t_cells cG n_t_cells (fun k => some (g_t_cells k)), gO h_t 5 [.int v_t_limit, .ref h_t_cells, .ref h_t_sizes], gA h_t_sizes cI n_t_sizes (upd c_t_sizes (x1).toNatClampNeg x2)] ++ gG g_t_cells cI l_t_cells m_t_cells_31 n_t_cells) → va_S A s.heap H locs → lv_has ls 5 [(0, .ref h_t), (1, .int x1), (2, .int x2), (3, .int x3), (4, .int x4_31)] → W p l e rmX5_make s m args below meth c H locs 0 0 Q (F0 m 31 ls []) := by
          intro n_31
          induction n_31 with
          | zero =>
            intro x4_31 m_t_cells_31 H locs ls hF
            rw [fX5_make_L31] at hF
            cases hF
          | succ n_31 ih31 =>
            intro x4_31 m_t_cells_31 H locs ls hF hP hD hS hl
            rw [fX5_make_L31] at hF
            refine lv_iload hx hb dX5_make_31 (lv_at hl 4 rfl) ?_
            refine lv_iload_n hx hb dX5_make_33 rfl (lv_at hl 2 rfl) ?_
            refine lv_icmp_ge (tgt := 53) hx hb dX5_make_34 (by decide) (fun cc => ?_) (fun cc => ?_)
            · have hF := gi_pos hF cc
              obtain rfl := Option.some.inj hF
              exact En_31 _ _ _ hP hD hS (lv_sub hl [] rfl)
            · have hF := gi_neg hF cc
              refine lv_aload_n hx hb dX5_make_37 rfl (lv_at hl 0 rfl) ?_
              refine va_get (D := D) (ci := 5) (v := .ref h_t_cells) (C := RX5) (T := TX5) (N := 3) hx hb hts hinX5 hown hK hP 1 rfl rfl 1 (by decide) hw3 (fun _ h9 => h9) rfl dX5_make_38 ?_
              refine lv_iload_n hx hb dX5_make_41 rfl (lv_at hl 1 rfl) ?_
              obtain ⟨hr_42, hF⟩ := gx_some hF
              refine va_aldg hx hb hK hP 0 3 rfl rfl hr_42 dX5_make_42 ?_
              refine lv_iload hx hb dX5_make_43 (lv_at hl 4 rfl) ?_
              refine lv_iload_n hx hb dX5_make_45 rfl (lv_at hl 3 rfl) ?_
              obtain ⟨hin, hF⟩ := gx_some hF
              refine va_iast hx hb hK hP hD hS (3 + (x1).toNatClampNeg) 0 (gG_get rfl (vp_lt hr_42)) rfl hin dX5_make_46 (fun H locs hP hD hS => ?_)
              have hP : va_P D vwCl ([gR h_t_cells cG n_t_cells (fun k => some (g_t_cells k)), gO h_t 5 [.int v_t_limit, .ref h_t_cells, .ref h_t_sizes], gA h_t_sizes cI n_t_sizes (upd c_t_sizes (x1).toNatClampNeg x2)] ++ gG g_t_cells cI l_t_cells (gmu m_t_cells_31 (x1).toNatClampNeg (upd (m_t_cells_31 (x1).toNatClampNeg) (x4_31).toNatClampNeg x3)) n_t_cells) H := gP_set (b := 3) rfl (vp_lt hr_42) hP
              have hD : va_D A ([gR h_t_cells cG n_t_cells (fun k => some (g_t_cells k)), gO h_t 5 [.int v_t_limit, .ref h_t_cells, .ref h_t_sizes], gA h_t_sizes cI n_t_sizes (upd c_t_sizes (x1).toNatClampNeg x2)] ++ gG g_t_cells cI l_t_cells (gmu m_t_cells_31 (x1).toNatClampNeg (upd (m_t_cells_31 (x1).toNatClampNeg) (x4_31).toNatClampNeg x3)) n_t_cells) := gD_set (b := 3) rfl (vp_lt hr_42) hD
              obtain ⟨x4_47, ex⟩ : ∃ y : Int32, y = (x4_31 + 1) := ⟨_, rfl⟩
              have hF := gl_some hF ex
              refine lv_iinc (v := x4_47) (lv' := [(4, .int x4_47), (0, .ref h_t), (1, .int x1), (2, .int x2), (3, .int x3)]) hx hb dX5_make_47 hl (k := 4) rfl (by rw [ex]; rfl) (by decide) rfl (fun ls hl => ?_)
              refine lv_goto (tgt := 31) hx hb dX5_make_50 (by decide) ?_
              exact ih31 x4_47 (gmu m_t_cells_31 (x1).toNatClampNeg (upd (m_t_cells_31 (x1).toNatClampNeg) (x4_31).toNatClampNeg x3)) _ _ _ hF hP hD hS (lv_sub hl [1, 2, 3, 4, 0] rfl)
        exact Ln_31 gF (0 : Int32) m_t_cells _ _ _ hR hP hD hS (lv_sub hl [1, 2, 3, 4, 0] rfl)
      · have hF := gi_neg hF cc
        obtain rfl := Option.some.inj hF
        exact hQ _ _ _ _ (hP.part [1, 2, 0] rfl) (hD.part [1, 2, 0] (by decide) rfl) hS dX5_make_20

abbrev rmX5_drop : Room := { frames := 1, cells := 0, slots := 0, locals := 21 }
def fX5_drop (x1 : Int32) (n_t_sizes : Nat) (c_t_sizes : Nat → Int32) : Option ((Nat → Int32)) := (Option.bind (fX5_names x1 n_t_sizes) (fun q_2 => (if q_2 = 0 then (some c_t_sizes) else (gx x1 n_t_sizes (some (upd c_t_sizes (x1).toNatClampNeg (-1 : Int32)))))))
set_option maxHeartbeats 4000000 in
set_option maxRecDepth 100000 in
theorem kX5_drop (l : Launch) (D : va_G) (cI cZ cD cG : ClassId) (h_t : Nat) (v_t_limit : Int32) (h_t_cells : Nat) (h_t_sizes : Nat) (n_t_sizes : Nat) (c_t_sizes : Nat → Int32) (x1 : Int32) (res : (Nat → Int32)) (hF : fX5_drop x1 n_t_sizes c_t_sizes = some res) : gMv l D (gty cI cZ cD cG) yX5_drop wsX5_drop rmX5_drop [.ref h_t, .int x1] [gO h_t 5 [.int v_t_limit, .ref h_t_cells, .ref h_t_sizes], gA h_t_sizes cI n_t_sizes c_t_sizes] [gO h_t 5 [.int v_t_limit, .ref h_t_cells, .ref h_t_sizes], gA h_t_sizes cI n_t_sizes res] := by
  refine gMv.of (cc := cX5_drop) (maxL := 2) (by decide) rfl (Nat.le_of_ble_eq_true rfl) ?_
  intro p e s m args below meth c A ls Q hx hb hts hown hml hK hA hP hD hS hQ hl
  have hown : s.vm.findClass RX5 = some m.cls := hown
  have hl : lv_has ls 2 [(0, .ref h_t), (1, .int x1)] := hl
  have hw0 := hts (.fieldLink RX5 20 "NibbleTrunk$Shelf" "sizes" "[I") (by decide +kernel)
  have hinX5 : ∀ w ∈ wsX50, w ∈ wsX5_drop := by decide +kernel
  rw [fX5_drop] at hF
  refine lv_aload_n hx hb dX5_drop_0 rfl (lv_at hl 0 rfl) ?_
  refine lv_iload_n hx hb dX5_drop_1 rfl (lv_at hl 1 rfl) ?_
  obtain ⟨q_2, hc, hF⟩ := gb_some hF
  refine gcVz (ci := 5) (As := [.int x1]) (rest := []) (pre := [gO h_t 5 [.int v_t_limit, .ref h_t_cells, .ref h_t_sizes], gA h_t_sizes cI n_t_sizes c_t_sizes]) (post := [gO h_t 5 [.int v_t_limit, .ref h_t_cells, .ref h_t_sizes], gA h_t_sizes cI n_t_sizes c_t_sizes]) (wr := []) ⟨hx, hb, hml, hown, hts⟩ (kX5_names l D cI cZ cD cG h_t v_t_limit h_t_cells h_t_sizes n_t_sizes c_t_sizes x1 q_2 hc) (cwV 1 hts gX5_drop_X5_names rfl rfl rfl (by decide +kernel) ⟨Nat.le_of_ble_eq_true rfl, Nat.le_of_ble_eq_true rfl⟩) hK hP hD hS hA [0, 1] [] rfl rfl (by decide) (by decide) (by decide) 0 rfl rfl rfl hl.1 rfl (Nat.le_of_ble_eq_true rfl) dX5_drop_2 ⟨Nat.zero_le _, Nat.zero_le _⟩ (fun H locs hnq_2 hP hD hS => ?_)
  have hP : va_P D vwCl [gO h_t 5 [.int v_t_limit, .ref h_t_cells, .ref h_t_sizes], gA h_t_sizes cI n_t_sizes c_t_sizes] H := hP
  have hD : va_D A [gO h_t 5 [.int v_t_limit, .ref h_t_cells, .ref h_t_sizes], gA h_t_sizes cI n_t_sizes c_t_sizes] := hD
  refine lv_if_eq (tgt := 15) hx hb dX5_drop_5 (by decide) (fun cc => ?_) (fun cc => ?_)
  · have hF := gi_pos hF cc
    obtain rfl := Option.some.inj hF
    exact hQ _ _ _ _ hP hD hS dX5_drop_15
  · have hF := gi_neg hF cc
    refine lv_aload_n hx hb dX5_drop_8 rfl (lv_at hl 0 rfl) ?_
    refine va_get (D := D) (ci := 5) (v := .ref h_t_sizes) (C := RX5) (T := TX5) (N := 3) hx hb hts hinX5 hown hK hP 0 rfl rfl 2 (by decide) hw0 (fun _ h9 => h9) rfl dX5_drop_9 ?_
    refine lv_iload_n hx hb dX5_drop_12 rfl (lv_at hl 1 rfl) ?_
    refine lv_iconst (v := (-1)) hx hb dX5_drop_13 (by decide) ?_
    obtain ⟨hin, hF⟩ := gx_some hF
    refine va_iast hx hb hK hP hD hS 1 0 rfl rfl hin dX5_drop_14 (fun H locs hP hD hS => ?_)
    have hP : va_P D vwCl [gO h_t 5 [.int v_t_limit, .ref h_t_cells, .ref h_t_sizes], gA h_t_sizes cI n_t_sizes (upd c_t_sizes (x1).toNatClampNeg (-1 : Int32))] H := hP
    have hD : va_D A [gO h_t 5 [.int v_t_limit, .ref h_t_cells, .ref h_t_sizes], gA h_t_sizes cI n_t_sizes (upd c_t_sizes (x1).toNatClampNeg (-1 : Int32))] := hD
    obtain rfl := Option.some.inj hF
    exact hQ _ _ _ _ hP hD hS dX5_drop_15

abbrev rmX5_move : Room := { frames := 3, cells := 0, slots := 0, locals := 66 }
def fX5_move (x1 : Int32) (x2 : Int32) (x3 : Int32) (x4 : Int32) (x5 : Int32) (n_t_sizes : Nat) (c_t_sizes : Nat → Int32) (n_t_cells : Nat) (l_t_cells : Nat) (m_t_cells : Nat → Nat → Int32) : Option ((Nat → Nat → Int32)) := (Option.bind (fX5_spans x1 x2 x5 n_t_sizes c_t_sizes) (fun q_5 => (if q_5 = 0 then (some m_t_cells) else (Option.bind (fX5_spans x3 x4 x5 n_t_sizes c_t_sizes) (fun q_17 => (if q_17 = 0 then (some m_t_cells) else (gx x1 n_t_cells (gx x3 n_t_cells (gcp x2 x4 x5 l_t_cells l_t_cells (some (gmu m_t_cells (x3).toNatClampNeg (va_cpy (m_t_cells (x1).toNatClampNeg) (m_t_cells (x3).toNatClampNeg) (x2).toNatClampNeg (x4).toNatClampNeg (x5).toNatClampNeg))))))))))))
set_option maxHeartbeats 4000000 in
set_option maxRecDepth 100000 in
theorem kX5_move (l : Launch) (D : va_G) (cI cZ cD cG : ClassId) (h_t : Nat) (v_t_limit : Int32) (h_t_cells : Nat) (h_t_sizes : Nat) (n_t_sizes : Nat) (c_t_sizes : Nat → Int32) (n_t_cells : Nat) (g_t_cells : Nat → Nat) (l_t_cells : Nat) (m_t_cells : Nat → Nat → Int32) (x1 : Int32) (x2 : Int32) (x3 : Int32) (x4 : Int32) (x5 : Int32) (res : (Nat → Nat → Int32)) (hF : fX5_move x1 x2 x3 x4 x5 n_t_sizes c_t_sizes n_t_cells l_t_cells m_t_cells = some res) : gMv l D (gty cI cZ cD cG) yX5_move wsX5_move rmX5_move [.ref h_t, .int x1, .int x2, .int x3, .int x4, .int x5] ([gO h_t 5 [.int v_t_limit, .ref h_t_cells, .ref h_t_sizes], gA h_t_sizes cI n_t_sizes c_t_sizes, gR h_t_cells cG n_t_cells (fun k => some (g_t_cells k))] ++ gG g_t_cells cI l_t_cells m_t_cells n_t_cells) ([gO h_t 5 [.int v_t_limit, .ref h_t_cells, .ref h_t_sizes], gA h_t_sizes cI n_t_sizes c_t_sizes, gR h_t_cells cG n_t_cells (fun k => some (g_t_cells k))] ++ gG g_t_cells cI l_t_cells res n_t_cells) := by
  refine gMv.of (cc := cX5_move) (maxL := 6) (by decide) rfl (Nat.le_of_ble_eq_true rfl) ?_
  intro p e s m args below meth c A ls Q hx hb hts hown hml hK hA hP hD hS hQ hl
  have hown : s.vm.findClass RX5 = some m.cls := hown
  have hl : lv_has ls 6 [(0, .ref h_t), (1, .int x1), (2, .int x2), (3, .int x3), (4, .int x4), (5, .int x5)] := hl
  have hw0 := hts (.fieldLink RX5 17 "NibbleTrunk$Shelf" "cells" "[[I") (by decide +kernel)
  have hinX5 : ∀ w ∈ wsX50, w ∈ wsX5_move := by decide +kernel
  have hw2 := hts (.methodLink RX5 40 arraycopyName) (by decide +kernel)
  have hw3 := hts (.native arraycopyName) (by decide +kernel)
  have hw4 := hts (.static arraycopyName) (by decide +kernel)
  have hw5 := hts (.initialized "java/lang/System") (by decide +kernel)
  rw [fX5_move] at hF
  refine lv_aload_n hx hb dX5_move_0 rfl (lv_at hl 0 rfl) ?_
  refine lv_iload_n hx hb dX5_move_1 rfl (lv_at hl 1 rfl) ?_
  refine lv_iload_n hx hb dX5_move_2 rfl (lv_at hl 2 rfl) ?_
  refine lv_iload hx hb dX5_move_3 (lv_at hl 5 rfl) ?_
  obtain ⟨q_5, hc, hF⟩ := gb_some hF
  refine gcVzG (ci := 5) (pl := gG g_t_cells cI l_t_cells m_t_cells n_t_cells) (As := [.int x1, .int x2, .int x5]) (rest := []) (pre := [gO h_t 5 [.int v_t_limit, .ref h_t_cells, .ref h_t_sizes], gA h_t_sizes cI n_t_sizes c_t_sizes]) (post := [gO h_t 5 [.int v_t_limit, .ref h_t_cells, .ref h_t_sizes], gA h_t_sizes cI n_t_sizes c_t_sizes]) (wr := [gR h_t_cells cG n_t_cells (fun k => some (g_t_cells k))]) ⟨hx, hb, hml, hown, hts⟩ (kX5_spans l D cI cZ cD cG h_t v_t_limit h_t_cells h_t_sizes n_t_sizes c_t_sizes x1 x2 x5 q_5 hc) (cwV 3 hts gX5_move_X5_spans rfl rfl rfl (by decide +kernel) ⟨Nat.le_of_ble_eq_true rfl, Nat.le_of_ble_eq_true rfl⟩) hK hP hD hS hA [0, 1] [2] rfl rfl (by decide) (by decide) (by decide) 0 rfl rfl rfl hl.1 rfl (Nat.le_of_ble_eq_true rfl) dX5_move_5 ⟨Nat.zero_le _, Nat.zero_le _⟩ (fun H locs hnq_5 hP hD hS => ?_)
  have hP : va_P D vwCl ([gR h_t_cells cG n_t_cells (fun k => some (g_t_cells k)), gO h_t 5 [.int v_t_limit, .ref h_t_cells, .ref h_t_sizes], gA h_t_sizes cI n_t_sizes c_t_sizes] ++ gG g_t_cells cI l_t_cells m_t_cells n_t_cells) H := hP
  have hD : va_D A ([gR h_t_cells cG n_t_cells (fun k => some (g_t_cells k)), gO h_t 5 [.int v_t_limit, .ref h_t_cells, .ref h_t_sizes], gA h_t_sizes cI n_t_sizes c_t_sizes] ++ gG g_t_cells cI l_t_cells m_t_cells n_t_cells) := hD
  refine lv_if_eq (tgt := 43) hx hb dX5_move_8 (by decide) (fun cc => ?_) (fun cc => ?_)
  · have hF := gi_pos hF cc
    obtain rfl := Option.some.inj hF
    exact hQ _ _ _ _ (hP.part [1, 2, 0] rfl) (hD.part [1, 2, 0] (by decide) rfl) hS dX5_move_43
  · have hF := gi_neg hF cc
    refine lv_aload_n hx hb dX5_move_11 rfl (lv_at hl 0 rfl) ?_
    refine lv_iload_n hx hb dX5_move_12 rfl (lv_at hl 3 rfl) ?_
    refine lv_iload hx hb dX5_move_13 (lv_at hl 4 rfl) ?_
    refine lv_iload hx hb dX5_move_15 (lv_at hl 5 rfl) ?_
    obtain ⟨q_17, hc, hF⟩ := gb_some hF
    refine gcVzG (ci := 5) (pl := gG g_t_cells cI l_t_cells m_t_cells n_t_cells) (As := [.int x3, .int x4, .int x5]) (rest := []) (pre := [gO h_t 5 [.int v_t_limit, .ref h_t_cells, .ref h_t_sizes], gA h_t_sizes cI n_t_sizes c_t_sizes]) (post := [gO h_t 5 [.int v_t_limit, .ref h_t_cells, .ref h_t_sizes], gA h_t_sizes cI n_t_sizes c_t_sizes]) (wr := [gR h_t_cells cG n_t_cells (fun k => some (g_t_cells k))]) ⟨hx, hb, hml, hown, hts⟩ (kX5_spans l D cI cZ cD cG h_t v_t_limit h_t_cells h_t_sizes n_t_sizes c_t_sizes x3 x4 x5 q_17 hc) (cwV 3 hts gX5_move_X5_spans rfl rfl rfl (by decide +kernel) ⟨Nat.le_of_ble_eq_true rfl, Nat.le_of_ble_eq_true rfl⟩) hK hP hD hS hA [1, 2] [0] rfl rfl (by decide) (by decide) (by decide) 0 rfl rfl rfl hl.1 rfl (Nat.le_of_ble_eq_true rfl) dX5_move_17 ⟨Nat.zero_le _, Nat.zero_le _⟩ (fun H locs hnq_17 hP hD hS => ?_)
    have hP : va_P D vwCl ([gR h_t_cells cG n_t_cells (fun k => some (g_t_cells k)), gO h_t 5 [.int v_t_limit, .ref h_t_cells, .ref h_t_sizes], gA h_t_sizes cI n_t_sizes c_t_sizes] ++ gG g_t_cells cI l_t_cells m_t_cells n_t_cells) H := hP
    have hD : va_D A ([gR h_t_cells cG n_t_cells (fun k => some (g_t_cells k)), gO h_t 5 [.int v_t_limit, .ref h_t_cells, .ref h_t_sizes], gA h_t_sizes cI n_t_sizes c_t_sizes] ++ gG g_t_cells cI l_t_cells m_t_cells n_t_cells) := hD
    refine lv_if_eq (tgt := 43) hx hb dX5_move_20 (by decide) (fun cc => ?_) (fun cc => ?_)
    · have hF := gi_pos hF cc
      obtain rfl := Option.some.inj hF
      exact hQ _ _ _ _ (hP.part [1, 2, 0] rfl) (hD.part [1, 2, 0] (by decide) rfl) hS dX5_move_43
    · have hF := gi_neg hF cc
      refine lv_aload_n hx hb dX5_move_23 rfl (lv_at hl 0 rfl) ?_
      refine va_get (D := D) (ci := 5) (v := .ref h_t_cells) (C := RX5) (T := TX5) (N := 3) hx hb hts hinX5 hown hK hP 1 rfl rfl 1 (by decide) hw0 (fun _ h9 => h9) rfl dX5_move_24 ?_
      refine lv_iload_n hx hb dX5_move_27 rfl (lv_at hl 1 rfl) ?_
      obtain ⟨hr_28, hF⟩ := gx_some hF
      refine va_aldg hx hb hK hP 0 3 rfl rfl hr_28 dX5_move_28 ?_
      refine lv_iload_n hx hb dX5_move_29 rfl (lv_at hl 2 rfl) ?_
      refine lv_aload_n hx hb dX5_move_30 rfl (lv_at hl 0 rfl) ?_
      refine va_get (D := D) (ci := 5) (v := .ref h_t_cells) (C := RX5) (T := TX5) (N := 3) hx hb hts hinX5 hown hK hP 1 rfl rfl 1 (by decide) hw0 (fun _ h9 => h9) rfl dX5_move_31 ?_
      refine lv_iload_n hx hb dX5_move_34 rfl (lv_at hl 3 rfl) ?_
      obtain ⟨hr_35, hF⟩ := gx_some hF
      refine va_aldg hx hb hK hP 0 3 rfl rfl hr_35 dX5_move_35 ?_
      refine lv_iload hx hb dX5_move_36 (lv_at hl 4 rfl) ?_
      refine lv_iload hx hb dX5_move_38 (lv_at hl 5 rfl) ?_
      obtain ⟨h1, h2, h3, h4, h5, hF⟩ := gcp_some hF
      refine va_copyi hx hb (hml.trans hl.1.symm) hown hw2 hw3 hw4 hw5 hK hP hD hS (3 + (x1).toNatClampNeg) (3 + (x3).toNatClampNeg) 0 0 (gG_get rfl (vp_lt hr_28)) (gG_get rfl (vp_lt hr_35)) rfl rfl rfl h1 h2 h3 h4 h5 (fun _ _ => rfl) (Nat.le_of_ble_eq_true rfl) (Nat.le_of_ble_eq_true rfl) dX5_move_40 (fun H locs hP hD hS => ?_)
      have hP : va_P D vwCl ([gR h_t_cells cG n_t_cells (fun k => some (g_t_cells k)), gO h_t 5 [.int v_t_limit, .ref h_t_cells, .ref h_t_sizes], gA h_t_sizes cI n_t_sizes c_t_sizes] ++ gG g_t_cells cI l_t_cells (gmu m_t_cells (x3).toNatClampNeg (va_cpy (m_t_cells (x1).toNatClampNeg) (m_t_cells (x3).toNatClampNeg) (x2).toNatClampNeg (x4).toNatClampNeg (x5).toNatClampNeg)) n_t_cells) H := gP_set (b := 3) rfl (vp_lt hr_35) hP
      have hD : va_D A ([gR h_t_cells cG n_t_cells (fun k => some (g_t_cells k)), gO h_t 5 [.int v_t_limit, .ref h_t_cells, .ref h_t_sizes], gA h_t_sizes cI n_t_sizes c_t_sizes] ++ gG g_t_cells cI l_t_cells (gmu m_t_cells (x3).toNatClampNeg (va_cpy (m_t_cells (x1).toNatClampNeg) (m_t_cells (x3).toNatClampNeg) (x2).toNatClampNeg (x4).toNatClampNeg (x5).toNatClampNeg)) n_t_cells) := gD_set (b := 3) rfl (vp_lt hr_35) hD
      obtain rfl := Option.some.inj hF
      exact hQ _ _ _ _ (hP.part [1, 2, 0] rfl) (hD.part [1, 2, 0] (by decide) rfl) hS dX5_move_43

abbrev rmX5_sum : Room := { frames := 2, cells := 0, slots := 0, locals := 42 }
def fX5_sum_L5 (x1 : Int32) (n_t_sizes : Nat) (c_t_sizes : Nat → Int32) (n_t_cells : Nat) (l_t_cells : Nat) (m_t_cells : Nat → Nat → Int32) : Nat → Int64 → Int32 → Option (Int64)
  | 0, _, _ => none
  | n_5 + 1, x2_5, x4_5 => (Option.bind (fX5_size x1 n_t_sizes c_t_sizes) (fun q_9 => (if q_9 ≤ x4_5 then (some x2_5) else (gx x1 n_t_cells (gx x4_5 l_t_cells (gl (x2_5 + (((m_t_cells (x1).toNatClampNeg (x4_5).toNatClampNeg)).toInt64)) (fun x2_27 => (gl (x4_5 + 1) (fun x4_28 => (fX5_sum_L5 x1 n_t_sizes c_t_sizes n_t_cells l_t_cells m_t_cells n_5 x2_27 x4_28))))))))))
def fX5_sum (x1 : Int32) (n_t_sizes : Nat) (c_t_sizes : Nat → Int32) (n_t_cells : Nat) (l_t_cells : Nat) (m_t_cells : Nat → Nat → Int32) : Option (Int64) := (Option.bind (fX5_sum_L5 x1 n_t_sizes c_t_sizes n_t_cells l_t_cells m_t_cells gF (0 : Int64) (0 : Int32)) (fun q_5 => (some q_5)))
set_option maxHeartbeats 4000000 in
set_option maxRecDepth 100000 in
theorem kX5_sum (l : Launch) (D : va_G) (cI cZ cD cG : ClassId) (h_t : Nat) (v_t_limit : Int32) (h_t_cells : Nat) (h_t_sizes : Nat) (n_t_sizes : Nat) (c_t_sizes : Nat → Int32) (n_t_cells : Nat) (g_t_cells : Nat → Nat) (l_t_cells : Nat) (m_t_cells : Nat → Nat → Int32) (x1 : Int32) (res : Int64) (hF : fX5_sum x1 n_t_sizes c_t_sizes n_t_cells l_t_cells m_t_cells = some res) : gMl l D (gty cI cZ cD cG) yX5_sum wsX5_sum rmX5_sum [.ref h_t, .int x1] ([gO h_t 5 [.int v_t_limit, .ref h_t_cells, .ref h_t_sizes], gA h_t_sizes cI n_t_sizes c_t_sizes, gR h_t_cells cG n_t_cells (fun k => some (g_t_cells k))] ++ gG g_t_cells cI l_t_cells m_t_cells n_t_cells) res ([gO h_t 5 [.int v_t_limit, .ref h_t_cells, .ref h_t_sizes], gA h_t_sizes cI n_t_sizes c_t_sizes, gR h_t_cells cG n_t_cells (fun k => some (g_t_cells k))] ++ gG g_t_cells cI l_t_cells m_t_cells n_t_cells) := by
  refine gMl.of (cc := cX5_sum) (maxL := 5) (by decide) rfl (Nat.le_of_ble_eq_true rfl) ?_
  intro p e s m args below meth c A ls Q hx hb hts hown hml hK hA hP hD hS hQ hl
  have hown : s.vm.findClass RX5 = some m.cls := hown
  have hl : lv_has ls 5 [(0, .ref h_t), (1, .int x1)] := hl
  have hw0 := hts (.fieldLink RX5 17 "NibbleTrunk$Shelf" "cells" "[[I") (by decide +kernel)
  have hinX5 : ∀ w ∈ wsX50, w ∈ wsX5_sum := by decide +kernel
  rw [fX5_sum] at hF
  refine lv_lconst (v := 0) hx hb dX5_sum_0 (by decide) ?_
  refine lv_lstore_n (lv' := [(2, .long (0 : Int64)), (0, .ref h_t), (1, .int x1)]) hx hb dX5_sum_1 rfl hl (by decide) rfl (fun ls hl => ?_)
  refine lv_iconst (v := 0) hx hb dX5_sum_2 (by decide) ?_
  refine lv_istore (lv' := [(4, .int (0 : Int32)), (2, .long (0 : Int64)), (0, .ref h_t), (1, .int x1)]) hx hb dX5_sum_3 hl (by decide) rfl (fun ls hl => ?_)
  obtain ⟨q_5, hR, hF⟩ := gb_some hF
  have En_5 : ∀ (H : Heap) (locs : List Loc) (ls : Array Slot), va_P D vwCl ([gO h_t 5 [.int v_t_limit, .ref h_t_cells, .ref h_t_sizes], gA h_t_sizes cI n_t_sizes c_t_sizes, gR h_t_cells cG n_t_cells (fun k => some (g_t_cells k))] ++ gG g_t_cells cI l_t_cells m_t_cells n_t_cells) H → va_D A ([gO h_t 5 [.int v_t_limit, .ref h_t_cells, .ref h_t_sizes], gA h_t_sizes cI n_t_sizes c_t_sizes, gR h_t_cells cG n_t_cells (fun k => some (g_t_cells k))] ++ gG g_t_cells cI l_t_cells m_t_cells n_t_cells) → va_S A s.heap H locs → lv_has ls 5 [(2, .long q_5)] → W p l e rmX5_sum s m args below meth c H locs 0 0 Q (F0 m 34 ls []) := by
    intro H locs ls hP hD hS hl
    refine lv_lload_n hx hb dX5_sum_34 rfl (lv_at hl 0 rfl) ?_
    obtain rfl := Option.some.inj hF
    exact hQ _ _ _ _ _ hP hD hS rfl dX5_sum_35
  clear hF
  have Ln_5 : ∀ (n_5 : Nat) (x2_5 : Int64) (x4_5 : Int32) (H : Heap) (locs : List Loc) (ls : Array Slot), fX5_sum_L5 x1 n_t_sizes c_t_sizes n_t_cells l_t_cells m_t_cells n_5 x2_5 x4_5 = some q_5 → va_P D vwCl ([gO h_t 5 [.int v_t_limit, .ref h_t_cells, .ref h_t_sizes], gA h_t_sizes cI n_t_sizes c_t_sizes, gR h_t_cells cG n_t_cells (fun k => some (g_t_cells k))] ++ gG g_t_cells cI l_t_cells m_t_cells n_t_cells) H → va_D A ([gO h_t 5 [.int v_t_limit, .ref h_t_cells, .ref h_t_sizes], gA h_t_sizes cI n_t_sizes c_t_sizes, gR h_t_cells cG n_t_cells (fun k => some (g_t_cells k))] ++ gG g_t_cells cI l_t_cells m_t_cells n_t_cells) → va_S A s.heap H locs → lv_has ls 5 [(0, .ref h_t), (1, .int x1), (2, .long x2_5), (4, .int x4_5)] → W p l e rmX5_sum s m args below meth c H locs 0 0 Q (F0 m 5 ls []) := by
    intro n_5
    induction n_5 with
    | zero =>
      intro x2_5 x4_5 H locs ls hF
      rw [fX5_sum_L5] at hF
      cases hF
    | succ n_5 ih5 =>
      intro x2_5 x4_5 H locs ls hF hP hD hS hl
      rw [fX5_sum_L5] at hF
      refine lv_iload hx hb dX5_sum_5 (lv_at hl 3 rfl) ?_
      refine lv_aload_n hx hb dX5_sum_7 rfl (lv_at hl 0 rfl) ?_
      refine lv_iload_n hx hb dX5_sum_8 rfl (lv_at hl 1 rfl) ?_
      obtain ⟨q_9, hc, hF⟩ := gb_some hF
      refine gcViG (ci := 5) (pl := gG g_t_cells cI l_t_cells m_t_cells n_t_cells) (As := [.int x1]) (rest := [.int x4_5]) (pre := [gO h_t 5 [.int v_t_limit, .ref h_t_cells, .ref h_t_sizes], gA h_t_sizes cI n_t_sizes c_t_sizes]) (post := [gO h_t 5 [.int v_t_limit, .ref h_t_cells, .ref h_t_sizes], gA h_t_sizes cI n_t_sizes c_t_sizes]) (wr := [gR h_t_cells cG n_t_cells (fun k => some (g_t_cells k))]) ⟨hx, hb, hml, hown, hts⟩ (kX5_size l D cI cZ cD cG h_t v_t_limit h_t_cells h_t_sizes n_t_sizes c_t_sizes x1 q_9 hc) (cwV 1 hts gX5_sum_X5_size rfl rfl rfl (by decide +kernel) ⟨Nat.le_of_ble_eq_true rfl, Nat.le_of_ble_eq_true rfl⟩) hK hP hD hS hA [0, 1] [2] rfl rfl (by decide) (by decide) (by decide) 0 rfl rfl rfl hl.1 rfl (Nat.le_of_ble_eq_true rfl) dX5_sum_9 ⟨Nat.zero_le _, Nat.zero_le _⟩ (fun H locs hP hD hS => ?_)
      have hP : va_P D vwCl ([gR h_t_cells cG n_t_cells (fun k => some (g_t_cells k)), gO h_t 5 [.int v_t_limit, .ref h_t_cells, .ref h_t_sizes], gA h_t_sizes cI n_t_sizes c_t_sizes] ++ gG g_t_cells cI l_t_cells m_t_cells n_t_cells) H := hP
      have hD : va_D A ([gR h_t_cells cG n_t_cells (fun k => some (g_t_cells k)), gO h_t 5 [.int v_t_limit, .ref h_t_cells, .ref h_t_sizes], gA h_t_sizes cI n_t_sizes c_t_sizes] ++ gG g_t_cells cI l_t_cells m_t_cells n_t_cells) := hD
      refine lv_icmp_ge (tgt := 34) hx hb dX5_sum_12 (by decide) (fun cc => ?_) (fun cc => ?_)
      · have hF := gi_pos hF cc
        obtain rfl := Option.some.inj hF
        exact En_5 _ _ _ (hP.part [1, 2, 0] rfl) (hD.part [1, 2, 0] (by decide) rfl) hS (lv_sub hl [2] rfl)
      · have hF := gi_neg hF cc
        refine lv_lload_n hx hb dX5_sum_15 rfl (lv_at hl 2 rfl) ?_
        refine lv_aload_n hx hb dX5_sum_16 rfl (lv_at hl 0 rfl) ?_
        refine va_get (D := D) (ci := 5) (v := .ref h_t_cells) (C := RX5) (T := TX5) (N := 3) hx hb hts hinX5 hown hK hP 1 rfl rfl 1 (by decide) hw0 (fun _ h9 => h9) rfl dX5_sum_17 ?_
        refine lv_iload_n hx hb dX5_sum_20 rfl (lv_at hl 1 rfl) ?_
        obtain ⟨hr_21, hF⟩ := gx_some hF
        refine va_aldg hx hb hK hP 0 3 rfl rfl hr_21 dX5_sum_21 ?_
        refine lv_iload hx hb dX5_sum_22 (lv_at hl 3 rfl) ?_
        obtain ⟨hin, hF⟩ := gx_some hF
        refine va_iald hx hb hK hP (3 + (x1).toNatClampNeg) 0 (gG_get rfl (vp_lt hr_21)) rfl hin dX5_sum_24 ?_
        refine lv_i2l hx hb dX5_sum_25 rfl ?_
        refine lv_ladd hx hb dX5_sum_26 ?_
        refine lv_topl (fun x2_27 ex => ?_)
        have hF := gl_some hF ex
        refine lv_lstore_n (lv' := [(2, .long x2_27), (0, .ref h_t), (1, .int x1), (4, .int x4_5)]) hx hb dX5_sum_27 rfl hl (by decide) rfl (fun ls hl => ?_)
        obtain ⟨x4_28, ex⟩ : ∃ y : Int32, y = (x4_5 + 1) := ⟨_, rfl⟩
        have hF := gl_some hF ex
        refine lv_iinc (v := x4_28) (lv' := [(4, .int x4_28), (2, .long x2_27), (0, .ref h_t), (1, .int x1)]) hx hb dX5_sum_28 hl (k := 3) rfl (by rw [ex]; rfl) (by decide) rfl (fun ls hl => ?_)
        refine lv_goto (tgt := 5) hx hb dX5_sum_31 (by decide) ?_
        exact ih5 x2_27 x4_28 _ _ _ hF (hP.part [1, 2, 0] rfl) (hD.part [1, 2, 0] (by decide) rfl) hS (lv_sub hl [2, 3, 1, 0] rfl)
  exact Ln_5 gF (0 : Int64) (0 : Int32) _ _ _ hR hP hD hS (lv_sub hl [2, 3, 1, 0] rfl)

abbrev rmX5_held : Room := { frames := 0, cells := 0, slots := 0, locals := 0 }
def fX5_held_L4 (n_t_sizes : Nat) (c_t_sizes : Nat → Int32) : Nat → Int32 → Int32 → Option (Int32)
  | 0, _, _ => none
  | n_4 + 1, x1_4, x2_4 => (if (Int32.ofNat n_t_sizes) ≤ x2_4 then (some x1_4) else (gx x2_4 n_t_sizes (Option.bind (α := Int32) (if (c_t_sizes (x2_4).toNatClampNeg) = (-1 : Int32) then (some x1_4) else (gl (x1_4 + 1) (fun x1_23 => (some x1_23)))) (fun q_26 => (gl (x2_4 + 1) (fun x2_26 => (fX5_held_L4 n_t_sizes c_t_sizes n_4 q_26 x2_26)))))))
def fX5_held (n_t_sizes : Nat) (c_t_sizes : Nat → Int32) : Option (Int32) := (Option.bind (fX5_held_L4 n_t_sizes c_t_sizes gF (0 : Int32) (0 : Int32)) (fun q_4 => (some q_4)))
set_option maxHeartbeats 4000000 in
set_option maxRecDepth 100000 in
theorem kX5_held (l : Launch) (D : va_G) (cI cZ cD cG : ClassId) (h_t : Nat) (v_t_limit : Int32) (h_t_cells : Nat) (h_t_sizes : Nat) (n_t_sizes : Nat) (c_t_sizes : Nat → Int32) (res : Int32) (hF : fX5_held n_t_sizes c_t_sizes = some res) : gMi l D (gty cI cZ cD cG) yX5_held wsX5_held rmX5_held [.ref h_t] [gO h_t 5 [.int v_t_limit, .ref h_t_cells, .ref h_t_sizes], gA h_t_sizes cI n_t_sizes c_t_sizes] res [gO h_t 5 [.int v_t_limit, .ref h_t_cells, .ref h_t_sizes], gA h_t_sizes cI n_t_sizes c_t_sizes] := by
  refine gMi.of (cc := cX5_held) (maxL := 3) (by decide) rfl (Nat.le_of_ble_eq_true rfl) ?_
  intro p e s m args below meth c A ls Q hx hb hts hown hml hK hA hP hD hS hQ hl
  have hown : s.vm.findClass RX5 = some m.cls := hown
  have hl : lv_has ls 3 [(0, .ref h_t)] := hl
  have hw0 := hts (.fieldLink RX5 20 "NibbleTrunk$Shelf" "sizes" "[I") (by decide +kernel)
  have hinX5 : ∀ w ∈ wsX50, w ∈ wsX5_held := by decide +kernel
  rw [fX5_held] at hF
  refine lv_iconst (v := 0) hx hb dX5_held_0 (by decide) ?_
  refine lv_istore_n (lv' := [(1, .int (0 : Int32)), (0, .ref h_t)]) hx hb dX5_held_1 rfl hl (by decide) rfl (fun ls hl => ?_)
  refine lv_iconst (v := 0) hx hb dX5_held_2 (by decide) ?_
  refine lv_istore_n (lv' := [(2, .int (0 : Int32)), (1, .int (0 : Int32)), (0, .ref h_t)]) hx hb dX5_held_3 rfl hl (by decide) rfl (fun ls hl => ?_)
  obtain ⟨q_4, hR, hF⟩ := gb_some hF
  have En_4 : ∀ (H : Heap) (locs : List Loc) (ls : Array Slot), va_P D vwCl [gO h_t 5 [.int v_t_limit, .ref h_t_cells, .ref h_t_sizes], gA h_t_sizes cI n_t_sizes c_t_sizes] H → va_D A [gO h_t 5 [.int v_t_limit, .ref h_t_cells, .ref h_t_sizes], gA h_t_sizes cI n_t_sizes c_t_sizes] → va_S A s.heap H locs → lv_has ls 3 [(1, .int q_4)] → W p l e rmX5_held s m args below meth c H locs 0 0 Q (F0 m 32 ls []) := by
    intro H locs ls hP hD hS hl
    refine lv_iload_n hx hb dX5_held_32 rfl (lv_at hl 0 rfl) ?_
    obtain rfl := Option.some.inj hF
    exact hQ _ _ _ _ _ hP hD hS rfl dX5_held_33
  clear hF
  have Ln_4 : ∀ (n_4 : Nat) (x1_4 : Int32) (x2_4 : Int32) (H : Heap) (locs : List Loc) (ls : Array Slot), fX5_held_L4 n_t_sizes c_t_sizes n_4 x1_4 x2_4 = some q_4 → va_P D vwCl [gO h_t 5 [.int v_t_limit, .ref h_t_cells, .ref h_t_sizes], gA h_t_sizes cI n_t_sizes c_t_sizes] H → va_D A [gO h_t 5 [.int v_t_limit, .ref h_t_cells, .ref h_t_sizes], gA h_t_sizes cI n_t_sizes c_t_sizes] → va_S A s.heap H locs → lv_has ls 3 [(0, .ref h_t), (1, .int x1_4), (2, .int x2_4)] → W p l e rmX5_held s m args below meth c H locs 0 0 Q (F0 m 4 ls []) := by
    intro n_4
    induction n_4 with
    | zero =>
      intro x1_4 x2_4 H locs ls hF
      rw [fX5_held_L4] at hF
      cases hF
    | succ n_4 ih4 =>
      intro x1_4 x2_4 H locs ls hF hP hD hS hl
      rw [fX5_held_L4] at hF
      refine lv_iload_n hx hb dX5_held_4 rfl (lv_at hl 2 rfl) ?_
      refine lv_aload_n hx hb dX5_held_5 rfl (lv_at hl 0 rfl) ?_
      refine va_get (D := D) (ci := 5) (v := .ref h_t_sizes) (C := RX5) (T := TX5) (N := 3) hx hb hts hinX5 hown hK hP 0 rfl rfl 2 (by decide) hw0 (fun _ h9 => h9) rfl dX5_held_6 ?_
      refine va_alen hx hb hK hP 1 0 rfl rfl (v := (Int32.ofNat n_t_sizes)) rfl dX5_held_9 ?_
      refine lv_icmp_ge (tgt := 32) hx hb dX5_held_10 (by decide) (fun cc => ?_) (fun cc => ?_)
      · have hF := gi_pos hF cc
        obtain rfl := Option.some.inj hF
        exact En_4 _ _ _ hP hD hS (lv_sub hl [1] rfl)
      · have hF := gi_neg hF cc
        refine lv_aload_n hx hb dX5_held_13 rfl (lv_at hl 0 rfl) ?_
        refine va_get (D := D) (ci := 5) (v := .ref h_t_sizes) (C := RX5) (T := TX5) (N := 3) hx hb hts hinX5 hown hK hP 0 rfl rfl 2 (by decide) hw0 (fun _ h9 => h9) rfl dX5_held_14 ?_
        refine lv_iload_n hx hb dX5_held_17 rfl (lv_at hl 2 rfl) ?_
        obtain ⟨hin, hF⟩ := gx_some hF
        refine va_iald hx hb hK hP 1 0 rfl rfl hin dX5_held_18 ?_
        refine lv_iconst (v := (-1)) hx hb dX5_held_19 (by decide) ?_
        obtain ⟨q_26, hR, hF⟩ := gb_some hF
        have Jn_26 : ∀ (H : Heap) (locs : List Loc) (ls : Array Slot), va_P D vwCl [gO h_t 5 [.int v_t_limit, .ref h_t_cells, .ref h_t_sizes], gA h_t_sizes cI n_t_sizes c_t_sizes] H → va_D A [gO h_t 5 [.int v_t_limit, .ref h_t_cells, .ref h_t_sizes], gA h_t_sizes cI n_t_sizes c_t_sizes] → va_S A s.heap H locs → lv_has ls 3 [(0, .ref h_t), (1, .int q_26), (2, .int x2_4)] → W p l e rmX5_held s m args below meth c H locs 0 0 Q (F0 m 26 ls []) := by
          intro H locs ls hP hD hS hl
          obtain ⟨x2_26, ex⟩ : ∃ y : Int32, y = (x2_4 + 1) := ⟨_, rfl⟩
          have hF := gl_some hF ex
          refine lv_iinc (v := x2_26) (lv' := [(2, .int x2_26), (0, .ref h_t), (1, .int q_26)]) hx hb dX5_held_26 hl (k := 2) rfl (by rw [ex]; rfl) (by decide) rfl (fun ls hl => ?_)
          refine lv_goto (tgt := 4) hx hb dX5_held_29 (by decide) ?_
          exact ih4 q_26 x2_26 _ _ _ hF hP hD hS (lv_sub hl [1, 2, 0] rfl)
        clear hF
        have hF := hR
        refine lv_icmp_eq (tgt := 26) hx hb dX5_held_20 (by decide) (fun cc => ?_) (fun cc => ?_)
        · have hF := gi_pos hF cc
          obtain rfl := Option.some.inj hF
          exact Jn_26 _ _ _ hP hD hS (lv_sub hl [0, 1, 2] rfl)
        · have hF := gi_neg hF cc
          obtain ⟨x1_23, ex⟩ : ∃ y : Int32, y = (x1_4 + 1) := ⟨_, rfl⟩
          have hF := gl_some hF ex
          refine lv_iinc (v := x1_23) (lv' := [(1, .int x1_23), (0, .ref h_t), (2, .int x2_4)]) hx hb dX5_held_23 hl (k := 1) rfl (by rw [ex]; rfl) (by decide) rfl (fun ls hl => ?_)
          obtain rfl := Option.some.inj hF
          exact Jn_26 _ _ _ hP hD hS (lv_sub hl [1, 0, 2] rfl)
  exact Ln_4 gF (0 : Int32) (0 : Int32) _ _ _ hR hP hD hS (lv_sub hl [2, 1, 0] rfl)

abbrev rmX5_mixInto : Room := { frames := 0, cells := 0, slots := 0, locals := 0 }
def fX5_mixInto_L28 (x3_2 : Int32) (n_t_sizes : Nat) (c_t_sizes : Nat → Int32) (n_t_cells : Nat) (l_t_cells : Nat) (m_t_cells : Nat → Nat → Int32) : Nat → Int64 → Int32 → Option (Int64)
  | 0, _, _ => none
  | n_28 + 1, x1_28, x4_28 => (gx x3_2 n_t_sizes (if (c_t_sizes (x3_2).toNatClampNeg) ≤ x4_28 then (some x1_28) else (gx x3_2 n_t_cells (gx x4_28 l_t_cells (gl (((31 : Int64) * x1_28) + (((m_t_cells (x3_2).toNatClampNeg (x4_28).toNatClampNeg)).toInt64)) (fun x1_55 => (gl (x4_28 + 1) (fun x4_56 => (fX5_mixInto_L28 x3_2 n_t_sizes c_t_sizes n_t_cells l_t_cells m_t_cells n_28 x1_55 x4_56)))))))))
def fX5_mixInto_L2 (n_t_sizes : Nat) (c_t_sizes : Nat → Int32) (n_t_cells : Nat) (l_t_cells : Nat) (m_t_cells : Nat → Nat → Int32) : Nat → Int64 → Int32 → Option (Int64)
  | 0, _, _ => none
  | n_2 + 1, x1_2, x3_2 => (if (Int32.ofNat n_t_sizes) ≤ x3_2 then (some x1_2) else (gx x3_2 n_t_sizes (gl (((31 : Int64) * x1_2) + (((c_t_sizes (x3_2).toNatClampNeg)).toInt64)) (fun x1_24 => (Option.bind (fX5_mixInto_L28 x3_2 n_t_sizes c_t_sizes n_t_cells l_t_cells m_t_cells gF x1_24 (0 : Int32)) (fun q_28 => (gl (x3_2 + 1) (fun x3_62 => (fX5_mixInto_L2 n_t_sizes c_t_sizes n_t_cells l_t_cells m_t_cells n_2 q_28 x3_62)))))))))
def fX5_mixInto (x1 : Int64) (n_t_sizes : Nat) (c_t_sizes : Nat → Int32) (n_t_cells : Nat) (l_t_cells : Nat) (m_t_cells : Nat → Nat → Int32) : Option (Int64) := (Option.bind (fX5_mixInto_L2 n_t_sizes c_t_sizes n_t_cells l_t_cells m_t_cells gF x1 (0 : Int32)) (fun q_2 => (some q_2)))
set_option maxHeartbeats 4000000 in
set_option maxRecDepth 100000 in
theorem kX5_mixInto (l : Launch) (D : va_G) (cI cZ cD cG : ClassId) (h_t : Nat) (v_t_limit : Int32) (h_t_cells : Nat) (h_t_sizes : Nat) (n_t_sizes : Nat) (c_t_sizes : Nat → Int32) (n_t_cells : Nat) (g_t_cells : Nat → Nat) (l_t_cells : Nat) (m_t_cells : Nat → Nat → Int32) (x1 : Int64) (res : Int64) (hF : fX5_mixInto x1 n_t_sizes c_t_sizes n_t_cells l_t_cells m_t_cells = some res) : gMl l D (gty cI cZ cD cG) yX5_mixInto wsX5_mixInto rmX5_mixInto [.ref h_t, .long x1] ([gO h_t 5 [.int v_t_limit, .ref h_t_cells, .ref h_t_sizes], gA h_t_sizes cI n_t_sizes c_t_sizes, gR h_t_cells cG n_t_cells (fun k => some (g_t_cells k))] ++ gG g_t_cells cI l_t_cells m_t_cells n_t_cells) res ([gO h_t 5 [.int v_t_limit, .ref h_t_cells, .ref h_t_sizes], gA h_t_sizes cI n_t_sizes c_t_sizes, gR h_t_cells cG n_t_cells (fun k => some (g_t_cells k))] ++ gG g_t_cells cI l_t_cells m_t_cells n_t_cells) := by
  refine gMl.of (cc := cX5_mixInto) (maxL := 5) (by decide) rfl (Nat.le_of_ble_eq_true rfl) ?_
  intro p e s m args below meth c A ls Q hx hb hts hown hml hK hA hP hD hS hQ hl
  have hown : s.vm.findClass RX5 = some m.cls := hown
  have hl : lv_has ls 5 [(0, .ref h_t), (1, .long x1)] := hl
  have hw0 := hts (.fieldLink RX5 20 "NibbleTrunk$Shelf" "sizes" "[I") (by decide +kernel)
  have hinX5 : ∀ w ∈ wsX50, w ∈ wsX5_mixInto := by decide +kernel
  have hw2 := hts (.constantLong RX5 52 (31)) (by decide +kernel)
  have hw3 := hts (.fieldLink RX5 17 "NibbleTrunk$Shelf" "cells" "[[I") (by decide +kernel)
  rw [fX5_mixInto] at hF
  refine lv_iconst (v := 0) hx hb dX5_mixInto_0 (by decide) ?_
  refine lv_istore_n (lv' := [(3, .int (0 : Int32)), (0, .ref h_t), (1, .long x1)]) hx hb dX5_mixInto_1 rfl hl (by decide) rfl (fun ls hl => ?_)
  obtain ⟨q_2, hR, hF⟩ := gb_some hF
  have En_2 : ∀ (H : Heap) (locs : List Loc) (ls : Array Slot), va_P D vwCl ([gO h_t 5 [.int v_t_limit, .ref h_t_cells, .ref h_t_sizes], gA h_t_sizes cI n_t_sizes c_t_sizes, gR h_t_cells cG n_t_cells (fun k => some (g_t_cells k))] ++ gG g_t_cells cI l_t_cells m_t_cells n_t_cells) H → va_D A ([gO h_t 5 [.int v_t_limit, .ref h_t_cells, .ref h_t_sizes], gA h_t_sizes cI n_t_sizes c_t_sizes, gR h_t_cells cG n_t_cells (fun k => some (g_t_cells k))] ++ gG g_t_cells cI l_t_cells m_t_cells n_t_cells) → va_S A s.heap H locs → lv_has ls 5 [(1, .long q_2)] → W p l e rmX5_mixInto s m args below meth c H locs 0 0 Q (F0 m 68 ls []) := by
    intro H locs ls hP hD hS hl
    refine lv_lload_n hx hb dX5_mixInto_68 rfl (lv_at hl 0 rfl) ?_
    obtain rfl := Option.some.inj hF
    exact hQ _ _ _ _ _ hP hD hS rfl dX5_mixInto_69
  clear hF
  have Ln_2 : ∀ (n_2 : Nat) (x1_2 : Int64) (x3_2 : Int32) (H : Heap) (locs : List Loc) (ls : Array Slot), fX5_mixInto_L2 n_t_sizes c_t_sizes n_t_cells l_t_cells m_t_cells n_2 x1_2 x3_2 = some q_2 → va_P D vwCl ([gO h_t 5 [.int v_t_limit, .ref h_t_cells, .ref h_t_sizes], gA h_t_sizes cI n_t_sizes c_t_sizes, gR h_t_cells cG n_t_cells (fun k => some (g_t_cells k))] ++ gG g_t_cells cI l_t_cells m_t_cells n_t_cells) H → va_D A ([gO h_t 5 [.int v_t_limit, .ref h_t_cells, .ref h_t_sizes], gA h_t_sizes cI n_t_sizes c_t_sizes, gR h_t_cells cG n_t_cells (fun k => some (g_t_cells k))] ++ gG g_t_cells cI l_t_cells m_t_cells n_t_cells) → va_S A s.heap H locs → lv_has ls 5 [(0, .ref h_t), (1, .long x1_2), (3, .int x3_2)] → W p l e rmX5_mixInto s m args below meth c H locs 0 0 Q (F0 m 2 ls []) := by
    intro n_2
    induction n_2 with
    | zero =>
      intro x1_2 x3_2 H locs ls hF
      rw [fX5_mixInto_L2] at hF
      cases hF
    | succ n_2 ih2 =>
      intro x1_2 x3_2 H locs ls hF hP hD hS hl
      rw [fX5_mixInto_L2] at hF
      refine lv_iload_n hx hb dX5_mixInto_2 rfl (lv_at hl 2 rfl) ?_
      refine lv_aload_n hx hb dX5_mixInto_3 rfl (lv_at hl 0 rfl) ?_
      refine va_get (D := D) (ci := 5) (v := .ref h_t_sizes) (C := RX5) (T := TX5) (N := 3) hx hb hts hinX5 hown hK hP 0 rfl rfl 2 (by decide) hw0 (fun _ h9 => h9) rfl dX5_mixInto_4 ?_
      refine va_alen hx hb hK hP 1 0 rfl rfl (v := (Int32.ofNat n_t_sizes)) rfl dX5_mixInto_7 ?_
      refine lv_icmp_ge (tgt := 68) hx hb dX5_mixInto_8 (by decide) (fun cc => ?_) (fun cc => ?_)
      · have hF := gi_pos hF cc
        obtain rfl := Option.some.inj hF
        exact En_2 _ _ _ hP hD hS (lv_sub hl [1] rfl)
      · have hF := gi_neg hF cc
        refine lv_ldc2 (v := (31)) hx hb hown hw2 dX5_mixInto_11 ?_
        refine lv_lload_n hx hb dX5_mixInto_14 rfl (lv_at hl 1 rfl) ?_
        refine lv_lmul hx hb dX5_mixInto_15 ?_
        refine lv_aload_n hx hb dX5_mixInto_16 rfl (lv_at hl 0 rfl) ?_
        refine va_get (D := D) (ci := 5) (v := .ref h_t_sizes) (C := RX5) (T := TX5) (N := 3) hx hb hts hinX5 hown hK hP 0 rfl rfl 2 (by decide) hw0 (fun _ h9 => h9) rfl dX5_mixInto_17 ?_
        refine lv_iload_n hx hb dX5_mixInto_20 rfl (lv_at hl 2 rfl) ?_
        obtain ⟨hin, hF⟩ := gx_some hF
        refine va_iald hx hb hK hP 1 0 rfl rfl hin dX5_mixInto_21 ?_
        refine lv_i2l hx hb dX5_mixInto_22 rfl ?_
        refine lv_ladd hx hb dX5_mixInto_23 ?_
        refine lv_topl (fun x1_24 ex => ?_)
        have hF := gl_some hF ex
        refine lv_lstore_n (lv' := [(1, .long x1_24), (0, .ref h_t), (3, .int x3_2)]) hx hb dX5_mixInto_24 rfl hl (by decide) rfl (fun ls hl => ?_)
        refine lv_iconst (v := 0) hx hb dX5_mixInto_25 (by decide) ?_
        refine lv_istore (lv' := [(4, .int (0 : Int32)), (1, .long x1_24), (0, .ref h_t), (3, .int x3_2)]) hx hb dX5_mixInto_26 hl (by decide) rfl (fun ls hl => ?_)
        obtain ⟨q_28, hR, hF⟩ := gb_some hF
        have En_28 : ∀ (H : Heap) (locs : List Loc) (ls : Array Slot), va_P D vwCl ([gO h_t 5 [.int v_t_limit, .ref h_t_cells, .ref h_t_sizes], gA h_t_sizes cI n_t_sizes c_t_sizes, gR h_t_cells cG n_t_cells (fun k => some (g_t_cells k))] ++ gG g_t_cells cI l_t_cells m_t_cells n_t_cells) H → va_D A ([gO h_t 5 [.int v_t_limit, .ref h_t_cells, .ref h_t_sizes], gA h_t_sizes cI n_t_sizes c_t_sizes, gR h_t_cells cG n_t_cells (fun k => some (g_t_cells k))] ++ gG g_t_cells cI l_t_cells m_t_cells n_t_cells) → va_S A s.heap H locs → lv_has ls 5 [(0, .ref h_t), (1, .long q_28), (3, .int x3_2)] → W p l e rmX5_mixInto s m args below meth c H locs 0 0 Q (F0 m 62 ls []) := by
          intro H locs ls hP hD hS hl
          obtain ⟨x3_62, ex⟩ : ∃ y : Int32, y = (x3_2 + 1) := ⟨_, rfl⟩
          have hF := gl_some hF ex
          refine lv_iinc (v := x3_62) (lv' := [(3, .int x3_62), (0, .ref h_t), (1, .long q_28)]) hx hb dX5_mixInto_62 hl (k := 2) rfl (by rw [ex]; rfl) (by decide) rfl (fun ls hl => ?_)
          refine lv_goto (tgt := 2) hx hb dX5_mixInto_65 (by decide) ?_
          exact ih2 q_28 x3_62 _ _ _ hF hP hD hS (lv_sub hl [1, 2, 0] rfl)
        clear hF
        have Ln_28 : ∀ (n_28 : Nat) (x1_28 : Int64) (x4_28 : Int32) (H : Heap) (locs : List Loc) (ls : Array Slot), fX5_mixInto_L28 x3_2 n_t_sizes c_t_sizes n_t_cells l_t_cells m_t_cells n_28 x1_28 x4_28 = some q_28 → va_P D vwCl ([gO h_t 5 [.int v_t_limit, .ref h_t_cells, .ref h_t_sizes], gA h_t_sizes cI n_t_sizes c_t_sizes, gR h_t_cells cG n_t_cells (fun k => some (g_t_cells k))] ++ gG g_t_cells cI l_t_cells m_t_cells n_t_cells) H → va_D A ([gO h_t 5 [.int v_t_limit, .ref h_t_cells, .ref h_t_sizes], gA h_t_sizes cI n_t_sizes c_t_sizes, gR h_t_cells cG n_t_cells (fun k => some (g_t_cells k))] ++ gG g_t_cells cI l_t_cells m_t_cells n_t_cells) → va_S A s.heap H locs → lv_has ls 5 [(0, .ref h_t), (1, .long x1_28), (3, .int x3_2), (4, .int x4_28)] → W p l e rmX5_mixInto s m args below meth c H locs 0 0 Q (F0 m 28 ls []) := by
          intro n_28
          induction n_28 with
          | zero =>
            intro x1_28 x4_28 H locs ls hF
            rw [fX5_mixInto_L28] at hF
            cases hF
          | succ n_28 ih28 =>
            intro x1_28 x4_28 H locs ls hF hP hD hS hl
            rw [fX5_mixInto_L28] at hF
            refine lv_iload hx hb dX5_mixInto_28 (lv_at hl 3 rfl) ?_
            refine lv_aload_n hx hb dX5_mixInto_30 rfl (lv_at hl 0 rfl) ?_
            refine va_get (D := D) (ci := 5) (v := .ref h_t_sizes) (C := RX5) (T := TX5) (N := 3) hx hb hts hinX5 hown hK hP 0 rfl rfl 2 (by decide) hw0 (fun _ h9 => h9) rfl dX5_mixInto_31 ?_
            refine lv_iload_n hx hb dX5_mixInto_34 rfl (lv_at hl 2 rfl) ?_
            obtain ⟨hin, hF⟩ := gx_some hF
            refine va_iald hx hb hK hP 1 0 rfl rfl hin dX5_mixInto_35 ?_
            refine lv_icmp_ge (tgt := 62) hx hb dX5_mixInto_36 (by decide) (fun cc => ?_) (fun cc => ?_)
            · have hF := gi_pos hF cc
              obtain rfl := Option.some.inj hF
              exact En_28 _ _ _ hP hD hS (lv_sub hl [0, 1, 2] rfl)
            · have hF := gi_neg hF cc
              refine lv_ldc2 (v := (31)) hx hb hown hw2 dX5_mixInto_39 ?_
              refine lv_lload_n hx hb dX5_mixInto_42 rfl (lv_at hl 1 rfl) ?_
              refine lv_lmul hx hb dX5_mixInto_43 ?_
              refine lv_aload_n hx hb dX5_mixInto_44 rfl (lv_at hl 0 rfl) ?_
              refine va_get (D := D) (ci := 5) (v := .ref h_t_cells) (C := RX5) (T := TX5) (N := 3) hx hb hts hinX5 hown hK hP 0 rfl rfl 1 (by decide) hw3 (fun _ h9 => h9) rfl dX5_mixInto_45 ?_
              refine lv_iload_n hx hb dX5_mixInto_48 rfl (lv_at hl 2 rfl) ?_
              obtain ⟨hr_49, hF⟩ := gx_some hF
              refine va_aldg hx hb hK hP 2 3 rfl rfl hr_49 dX5_mixInto_49 ?_
              refine lv_iload hx hb dX5_mixInto_50 (lv_at hl 3 rfl) ?_
              obtain ⟨hin, hF⟩ := gx_some hF
              refine va_iald hx hb hK hP (3 + (x3_2).toNatClampNeg) 0 (gG_get rfl (vp_lt hr_49)) rfl hin dX5_mixInto_52 ?_
              refine lv_i2l hx hb dX5_mixInto_53 rfl ?_
              refine lv_ladd hx hb dX5_mixInto_54 ?_
              refine lv_topl (fun x1_55 ex => ?_)
              have hF := gl_some hF ex
              refine lv_lstore_n (lv' := [(1, .long x1_55), (0, .ref h_t), (3, .int x3_2), (4, .int x4_28)]) hx hb dX5_mixInto_55 rfl hl (by decide) rfl (fun ls hl => ?_)
              obtain ⟨x4_56, ex⟩ : ∃ y : Int32, y = (x4_28 + 1) := ⟨_, rfl⟩
              have hF := gl_some hF ex
              refine lv_iinc (v := x4_56) (lv' := [(4, .int x4_56), (1, .long x1_55), (0, .ref h_t), (3, .int x3_2)]) hx hb dX5_mixInto_56 hl (k := 3) rfl (by rw [ex]; rfl) (by decide) rfl (fun ls hl => ?_)
              refine lv_goto (tgt := 28) hx hb dX5_mixInto_59 (by decide) ?_
              exact ih28 x1_55 x4_56 _ _ _ hF hP hD hS (lv_sub hl [2, 1, 3, 0] rfl)
        exact Ln_28 gF x1_24 (0 : Int32) _ _ _ hR hP hD hS (lv_sub hl [2, 1, 3, 0] rfl)
  exact Ln_2 gF x1 (0 : Int32) _ _ _ hR hP hD hS (lv_sub hl [1, 2, 0] rfl)

