abbrev rmX3_grow (d : Nat) : Room := { frames := 2 + d, cells := 0, slots := 0, locals := 44 + d * 31 }
def fX3_grow_L149 (x3 : Int32) (v_p1_size : Int32) (c_p1_words : Nat → Int32) (q_40 : Int32) (v_t_size : Int32) (rec_f : Int32 → Int32 → Int32 → Int32 → Int32 → Int32 → (Nat → Int32) → (Nat → Int32) → (Nat → Int32) → (Nat → Int32) → (Nat → Int32) → (Nat → Int32) → (Nat → Int32) → Option (Int32 × (Nat → Int32) × (Nat → Int32) × (Nat → Int32) × (Nat → Int32) × (Nat → Int32) × (Nat → Int32))) (x5 : Int32) : Nat → Int32 → Int32 → Int32 → (Nat → Int32) → (Nat → Int32) → (Nat → Int32) → (Nat → Int32) → (Nat → Int32) → (Nat → Int32) → Option (Int32 × (Nat → Int32) × (Nat → Int32) × (Nat → Int32) × (Nat → Int32) × (Nat → Int32) × (Nat → Int32))
  | 0, _, _, _, _, _, _, _, _, _ => none
  | n_149 + 1, x9_149, x10_149, v_t_size_149, c_t_paths_149, c_t_prefixes_149, c_t_depths_149, c_t_froms_149, c_t_tills_149, c_t_children_149 => (if x3 < x10_149 then (some (v_t_size_149, c_t_paths_149, c_t_prefixes_149, c_t_depths_149, c_t_froms_149, c_t_tills_149, c_t_children_149)) else (Option.bind (fX1_word x9_149 v_p1_size c_p1_words) (fun q_158 => (Option.bind (fX6_figure q_158 q_40) (fun q_163 => (Option.bind (α := Int32 × Int32 × (Nat → Int32) × (Nat → Int32) × (Nat → Int32) × (Nat → Int32) × (Nat → Int32) × (Nat → Int32)) (if x10_149 = x3 then (gx v_t_size 48 (gx v_t_size 48 (Option.bind (rec_f x9_149 x10_149 q_40 (x5 + (1 : Int32)) v_t_size_149 v_p1_size c_p1_words c_t_paths_149 c_t_prefixes_149 c_t_depths_149 c_t_froms_149 c_t_tills_149 (upd c_t_children_149 (v_t_size).toNatClampNeg ((c_t_children_149 (v_t_size).toNatClampNeg) ||| ((1 : Int32) <<< (q_163 &&& 31))))) (fun q_216 => (some (x10_149, q_216.1, q_216.2.1, q_216.2.2.1, q_216.2.2.2.1, q_216.2.2.2.2.1, q_216.2.2.2.2.2.1, q_216.2.2.2.2.2.2)))))) else (Option.bind (fX1_word x10_149 v_p1_size c_p1_words) (fun q_177 => (Option.bind (fX6_figure q_177 q_40) (fun q_182 => (if q_182 = q_163 then (some (x9_149, v_t_size_149, c_t_paths_149, c_t_prefixes_149, c_t_depths_149, c_t_froms_149, c_t_tills_149, c_t_children_149)) else (gx v_t_size 48 (gx v_t_size 48 (Option.bind (rec_f x9_149 x10_149 q_40 (x5 + (1 : Int32)) v_t_size_149 v_p1_size c_p1_words c_t_paths_149 c_t_prefixes_149 c_t_depths_149 c_t_froms_149 c_t_tills_149 (upd c_t_children_149 (v_t_size).toNatClampNeg ((c_t_children_149 (v_t_size).toNatClampNeg) ||| ((1 : Int32) <<< (q_163 &&& 31))))) (fun q_216_a => (some (x10_149, q_216_a.1, q_216_a.2.1, q_216_a.2.2.1, q_216_a.2.2.2.1, q_216_a.2.2.2.2.1, q_216_a.2.2.2.2.2.1, q_216_a.2.2.2.2.2.2)))))))))))) (fun q_223 => (gl (x10_149 + 1) (fun x10_223 => (fX3_grow_L149 x3 v_p1_size c_p1_words q_40 v_t_size rec_f x5 n_149 q_223.1 x10_223 q_223.2.1 q_223.2.2.1 q_223.2.2.2.1 q_223.2.2.2.2.1 q_223.2.2.2.2.2.1 q_223.2.2.2.2.2.2.1 q_223.2.2.2.2.2.2.2))))))))))
def fX3_grow : Nat → Int32 → Int32 → Int32 → Int32 → Int32 → Int32 → (Nat → Int32) → (Nat → Int32) → (Nat → Int32) → (Nat → Int32) → (Nat → Int32) → (Nat → Int32) → (Nat → Int32) → Option (Int32 × (Nat → Int32) × (Nat → Int32) × (Nat → Int32) × (Nat → Int32) × (Nat → Int32) × (Nat → Int32))
  | 0, _, _, _, _, _, _, _, _, _, _, _, _, _ => none
  | d + 1, x2, x3, x4, x5, v_t_size, v_p1_size, c_p1_words, c_t_paths, c_t_prefixes, c_t_depths, c_t_froms, c_t_tills, c_t_children => (if (x3 - x2) < (2 : Int32) then (some (v_t_size, c_t_paths, c_t_prefixes, c_t_depths, c_t_froms, c_t_tills, c_t_children)) else (if (6 : Int32) ≤ x5 then (some (v_t_size, c_t_paths, c_t_prefixes, c_t_depths, c_t_froms, c_t_tills, c_t_children)) else (if v_t_size < (48 : Int32) then (Option.bind (fX1_word x2 v_p1_size c_p1_words) (fun q_26 => (Option.bind (fX1_word (x3 - (1 : Int32)) v_p1_size c_p1_words) (fun q_37 => (Option.bind (fX6_sharedLength q_26 q_37) (fun q_40 => (gl (v_t_size + (1 : Int32)) (fun f_58 => (Option.bind (fX6_head q_26 q_40) (fun q_71 => (gx v_t_size 48 (gx v_t_size 48 (gx v_t_size 48 (gx v_t_size 48 (gx v_t_size 48 (gx v_t_size 48 (Option.bind (fX6_length q_26) (fun q_126 => (Option.bind (α := Int32) (if q_126 = q_40 then (some (x2 + (1 : Int32))) else (some x2)) (fun q_141 => (gl (q_141 + (1 : Int32)) (fun x10_147 => (Option.bind (fX3_grow_L149 x3 v_p1_size c_p1_words q_40 v_t_size (fX3_grow d) x5 gF q_141 x10_147 f_58 (upd c_t_paths (v_t_size).toNatClampNeg q_71) (upd c_t_prefixes (v_t_size).toNatClampNeg ((q_40 - x4) - (1 : Int32))) (upd c_t_depths (v_t_size).toNatClampNeg (x5 + (1 : Int32))) (upd c_t_froms (v_t_size).toNatClampNeg x2) (upd c_t_tills (v_t_size).toNatClampNeg x3) (upd c_t_children (v_t_size).toNatClampNeg (0 : Int32))) (fun q_149 => (some (q_149.1, q_149.2.1, q_149.2.2.1, q_149.2.2.2.1, q_149.2.2.2.2.1, q_149.2.2.2.2.2.1, q_149.2.2.2.2.2.2)))))))))))))))))))))))))) else (some (v_t_size, c_t_paths, c_t_prefixes, c_t_depths, c_t_froms, c_t_tills, c_t_children)))))
set_option maxHeartbeats 4000000 in
set_option maxRecDepth 100000 in
theorem kX3_grow (l : Launch) (D : va_G) (cI cZ cD cG : ClassId) : ∀ (d : Nat) (h_t : Nat) (h_p1 : Nat) (v_t_size : Int32) (h_t_paths : Nat) (h_t_children : Nat) (h_t_prefixes : Nat) (h_t_depths : Nat) (h_t_froms : Nat) (h_t_tills : Nat) (v_p1_size : Int32) (h_p1_words : Nat) (h_p1_values : Nat) (c_p1_words : Nat → Int32) (c_t_paths : Nat → Int32) (c_t_prefixes : Nat → Int32) (c_t_depths : Nat → Int32) (c_t_froms : Nat → Int32) (c_t_tills : Nat → Int32) (c_t_children : Nat → Int32) (x2 : Int32) (x3 : Int32) (x4 : Int32) (x5 : Int32) (res : Int32 × (Nat → Int32) × (Nat → Int32) × (Nat → Int32) × (Nat → Int32) × (Nat → Int32) × (Nat → Int32)) (hF : fX3_grow d x2 x3 x4 x5 v_t_size v_p1_size c_p1_words c_t_paths c_t_prefixes c_t_depths c_t_froms c_t_tills c_t_children = some res), gMv l D (gty cI cZ cD cG) yX3_grow wsX3_grow (rmX3_grow d) [.ref h_t, .ref h_p1, .int x2, .int x3, .int x4, .int x5] [gO h_t 3 [.int v_t_size, .ref h_t_paths, .ref h_t_children, .ref h_t_prefixes, .ref h_t_depths, .ref h_t_froms, .ref h_t_tills], gO h_p1 1 [.int v_p1_size, .ref h_p1_words, .ref h_p1_values], gA h_p1_words cI 48 c_p1_words, gA h_t_paths cI 48 c_t_paths, gA h_t_prefixes cI 48 c_t_prefixes, gA h_t_depths cI 48 c_t_depths, gA h_t_froms cI 48 c_t_froms, gA h_t_tills cI 48 c_t_tills, gA h_t_children cI 48 c_t_children] [gO h_t 3 [.int res.1, .ref h_t_paths, .ref h_t_children, .ref h_t_prefixes, .ref h_t_depths, .ref h_t_froms, .ref h_t_tills], gO h_p1 1 [.int v_p1_size, .ref h_p1_words, .ref h_p1_values], gA h_p1_words cI 48 c_p1_words, gA h_t_paths cI 48 res.2.1, gA h_t_prefixes cI 48 res.2.2.1, gA h_t_depths cI 48 res.2.2.2.1, gA h_t_froms cI 48 res.2.2.2.2.1, gA h_t_tills cI 48 res.2.2.2.2.2.1, gA h_t_children cI 48 res.2.2.2.2.2.2] := by
  intro d
  induction d with
  | zero =>
    intro h_t h_p1 v_t_size h_t_paths h_t_children h_t_prefixes h_t_depths h_t_froms h_t_tills v_p1_size h_p1_words h_p1_values c_p1_words c_t_paths c_t_prefixes c_t_depths c_t_froms c_t_tills c_t_children x2 x3 x4 x5 res hF
    rw [fX3_grow] at hF
    cases hF
  | succ d ihd =>
    intro h_t h_p1 v_t_size h_t_paths h_t_children h_t_prefixes h_t_depths h_t_froms h_t_tills v_p1_size h_p1_words h_p1_values c_p1_words c_t_paths c_t_prefixes c_t_depths c_t_froms c_t_tills c_t_children x2 x3 x4 x5 res hF
    refine gMv.of (cc := cX3_grow) (maxL := 12) (by decide) rfl (Nat.le_of_ble_eq_true rfl) ?_
    intro p e s m args below meth c A ls Q hx hb hts hown hml hK hA hP hD hS hQ hl
    have hown : s.vm.findClass RX3 = some m.cls := hown
    have hl : lv_has ls 12 [(0, .ref h_t), (1, .ref h_p1), (2, .int x2), (3, .int x3), (4, .int x4), (5, .int x5)] := hl
    have hw0 := hts (.fieldLink RX3 9 "NibbleTrunk$Nodes" "size" "I") (by decide +kernel)
    have hinX3 : ∀ w ∈ wsX30, w ∈ wsX3_grow := by decide +kernel
    have hw2 := hts (.fieldLink RX3 15 "NibbleTrunk$Nodes" "paths" "[I") (by decide +kernel)
    have hw3 := hts (.fieldLink RX3 22 "NibbleTrunk$Nodes" "prefixes" "[I") (by decide +kernel)
    have hw4 := hts (.fieldLink RX3 25 "NibbleTrunk$Nodes" "depths" "[I") (by decide +kernel)
    have hw5 := hts (.fieldLink RX3 28 "NibbleTrunk$Nodes" "froms" "[I") (by decide +kernel)
    have hw6 := hts (.fieldLink RX3 31 "NibbleTrunk$Nodes" "tills" "[I") (by decide +kernel)
    have hw7 := hts (.fieldLink RX3 19 "NibbleTrunk$Nodes" "children" "[I") (by decide +kernel)
    rw [fX3_grow] at hF
    refine lv_iload_n hx hb dX3_grow_0 rfl (lv_at hl 3 rfl) ?_
    refine lv_iload_n hx hb dX3_grow_1 rfl (lv_at hl 2 rfl) ?_
    refine lv_isub hx hb dX3_grow_2 ?_
    refine lv_iconst (v := 2) hx hb dX3_grow_3 (by decide) ?_
    refine lv_icmp_lt (tgt := 23) hx hb dX3_grow_4 (by decide) (fun cc => ?_) (fun cc => ?_)
    · have hF := gi_pos hF cc
      obtain rfl := Option.some.inj hF
      exact hQ _ _ _ _ hP hD hS dX3_grow_23
    · have hF := gi_neg hF cc
      refine lv_iload hx hb dX3_grow_7 (lv_at hl 5 rfl) ?_
      refine lv_bipush (v := 6) hx hb dX3_grow_9 (by decide) ?_
      refine lv_icmp_ge (tgt := 23) hx hb dX3_grow_11 (by decide) (fun cc => ?_) (fun cc => ?_)
      · have hF := gi_pos hF cc
        obtain rfl := Option.some.inj hF
        exact hQ _ _ _ _ hP hD hS dX3_grow_23
      · have hF := gi_neg hF cc
        refine lv_aload_n hx hb dX3_grow_14 rfl (lv_at hl 0 rfl) ?_
        refine va_get (D := D) (ci := 3) (v := .int v_t_size) (C := RX3) (T := TX3) (N := 7) hx hb hts hinX3 hown hK hP 0 rfl rfl 0 (by decide) hw0 (fun _ h9 => h9) rfl dX3_grow_15 ?_
        refine lv_bipush (v := 48) hx hb dX3_grow_18 (by decide) ?_
        refine lv_icmp_lt (tgt := 24) hx hb dX3_grow_20 (by decide) (fun cc => ?_) (fun cc => ?_)
        · have hF := gi_pos hF cc
          refine lv_aload_n hx hb dX3_grow_24 rfl (lv_at hl 1 rfl) ?_
          refine lv_iload_n hx hb dX3_grow_25 rfl (lv_at hl 2 rfl) ?_
          obtain ⟨q_26, hc, hF⟩ := gb_some hF
          refine gcVi (ci := 1) (As := [.int x2]) (rest := []) (pre := [gO h_p1 1 [.int v_p1_size, .ref h_p1_words, .ref h_p1_values], gA h_p1_words cI 48 c_p1_words]) (post := [gO h_p1 1 [.int v_p1_size, .ref h_p1_words, .ref h_p1_values], gA h_p1_words cI 48 c_p1_words]) (wr := [gO h_t 3 [.int v_t_size, .ref h_t_paths, .ref h_t_children, .ref h_t_prefixes, .ref h_t_depths, .ref h_t_froms, .ref h_t_tills], gA h_t_paths cI 48 c_t_paths, gA h_t_prefixes cI 48 c_t_prefixes, gA h_t_depths cI 48 c_t_depths, gA h_t_froms cI 48 c_t_froms, gA h_t_tills cI 48 c_t_tills, gA h_t_children cI 48 c_t_children]) ⟨hx, hb, hml, hown, hts⟩ (kX1_word l D cI cZ cD cG h_p1 v_p1_size h_p1_words h_p1_values c_p1_words x2 q_26 hc) (cwV 1 hts gX3_grow_X1_word rfl rfl rfl (by decide +kernel) ⟨by simp only [rmX3_grow, rmX1_word]; omega, by simp only [rmX3_grow, rmX1_word]; omega⟩) hK hP hD hS hA [1, 2] [0, 3, 4, 5, 6, 7, 8] rfl rfl (by decide) (by decide) (by decide) 0 rfl rfl rfl hl.1 rfl (Nat.le_of_ble_eq_true rfl) dX3_grow_26 ⟨Nat.zero_le _, Nat.zero_le _⟩ (fun H locs hP hD hS => ?_)
          have hP : va_P D vwCl [gO h_t 3 [.int v_t_size, .ref h_t_paths, .ref h_t_children, .ref h_t_prefixes, .ref h_t_depths, .ref h_t_froms, .ref h_t_tills], gA h_t_paths cI 48 c_t_paths, gA h_t_prefixes cI 48 c_t_prefixes, gA h_t_depths cI 48 c_t_depths, gA h_t_froms cI 48 c_t_froms, gA h_t_tills cI 48 c_t_tills, gA h_t_children cI 48 c_t_children, gO h_p1 1 [.int v_p1_size, .ref h_p1_words, .ref h_p1_values], gA h_p1_words cI 48 c_p1_words] H := hP
          have hD : va_D A [gO h_t 3 [.int v_t_size, .ref h_t_paths, .ref h_t_children, .ref h_t_prefixes, .ref h_t_depths, .ref h_t_froms, .ref h_t_tills], gA h_t_paths cI 48 c_t_paths, gA h_t_prefixes cI 48 c_t_prefixes, gA h_t_depths cI 48 c_t_depths, gA h_t_froms cI 48 c_t_froms, gA h_t_tills cI 48 c_t_tills, gA h_t_children cI 48 c_t_children, gO h_p1 1 [.int v_p1_size, .ref h_p1_words, .ref h_p1_values], gA h_p1_words cI 48 c_p1_words] := hD
          refine lv_istore (lv' := [(6, .int q_26), (0, .ref h_t), (1, .ref h_p1), (2, .int x2), (3, .int x3), (4, .int x4), (5, .int x5)]) hx hb dX3_grow_29 hl (by decide) rfl (fun ls hl => ?_)
          refine lv_iload hx hb dX3_grow_31 (lv_at hl 0 rfl) ?_
          refine lv_aload_n hx hb dX3_grow_33 rfl (lv_at hl 2 rfl) ?_
          refine lv_iload_n hx hb dX3_grow_34 rfl (lv_at hl 4 rfl) ?_
          refine lv_iconst (v := 1) hx hb dX3_grow_35 (by decide) ?_
          refine lv_isub hx hb dX3_grow_36 ?_
          obtain ⟨q_37, hc, hF⟩ := gb_some hF
          refine gcVi (ci := 1) (As := [.int (x3 - (1 : Int32))]) (rest := [.int q_26]) (pre := [gO h_p1 1 [.int v_p1_size, .ref h_p1_words, .ref h_p1_values], gA h_p1_words cI 48 c_p1_words]) (post := [gO h_p1 1 [.int v_p1_size, .ref h_p1_words, .ref h_p1_values], gA h_p1_words cI 48 c_p1_words]) (wr := [gO h_t 3 [.int v_t_size, .ref h_t_paths, .ref h_t_children, .ref h_t_prefixes, .ref h_t_depths, .ref h_t_froms, .ref h_t_tills], gA h_t_paths cI 48 c_t_paths, gA h_t_prefixes cI 48 c_t_prefixes, gA h_t_depths cI 48 c_t_depths, gA h_t_froms cI 48 c_t_froms, gA h_t_tills cI 48 c_t_tills, gA h_t_children cI 48 c_t_children]) ⟨hx, hb, hml, hown, hts⟩ (kX1_word l D cI cZ cD cG h_p1 v_p1_size h_p1_words h_p1_values c_p1_words (x3 - (1 : Int32)) q_37 hc) (cwV 1 hts gX3_grow_X1_word rfl rfl rfl (by decide +kernel) ⟨by simp only [rmX3_grow, rmX1_word]; omega, by simp only [rmX3_grow, rmX1_word]; omega⟩) hK hP hD hS hA [7, 8] [0, 1, 2, 3, 4, 5, 6] rfl rfl (by decide) (by decide) (by decide) 0 rfl rfl rfl hl.1 rfl (Nat.le_of_ble_eq_true rfl) dX3_grow_37 ⟨Nat.zero_le _, Nat.zero_le _⟩ (fun H locs hP hD hS => ?_)
          have hP : va_P D vwCl [gO h_t 3 [.int v_t_size, .ref h_t_paths, .ref h_t_children, .ref h_t_prefixes, .ref h_t_depths, .ref h_t_froms, .ref h_t_tills], gA h_t_paths cI 48 c_t_paths, gA h_t_prefixes cI 48 c_t_prefixes, gA h_t_depths cI 48 c_t_depths, gA h_t_froms cI 48 c_t_froms, gA h_t_tills cI 48 c_t_tills, gA h_t_children cI 48 c_t_children, gO h_p1 1 [.int v_p1_size, .ref h_p1_words, .ref h_p1_values], gA h_p1_words cI 48 c_p1_words] H := hP
          have hD : va_D A [gO h_t 3 [.int v_t_size, .ref h_t_paths, .ref h_t_children, .ref h_t_prefixes, .ref h_t_depths, .ref h_t_froms, .ref h_t_tills], gA h_t_paths cI 48 c_t_paths, gA h_t_prefixes cI 48 c_t_prefixes, gA h_t_depths cI 48 c_t_depths, gA h_t_froms cI 48 c_t_froms, gA h_t_tills cI 48 c_t_tills, gA h_t_children cI 48 c_t_children, gO h_p1 1 [.int v_p1_size, .ref h_p1_words, .ref h_p1_values], gA h_p1_words cI 48 c_p1_words] := hD
          obtain ⟨q_40, hc, hF⟩ := gb_some hF
          refine gcSi (As := [.int q_26, .int q_37]) (rest := []) (pre := []) (post := []) (wr := [gO h_t 3 [.int v_t_size, .ref h_t_paths, .ref h_t_children, .ref h_t_prefixes, .ref h_t_depths, .ref h_t_froms, .ref h_t_tills], gA h_t_paths cI 48 c_t_paths, gA h_t_prefixes cI 48 c_t_prefixes, gA h_t_depths cI 48 c_t_depths, gA h_t_froms cI 48 c_t_froms, gA h_t_tills cI 48 c_t_tills, gA h_t_children cI 48 c_t_children, gO h_p1 1 [.int v_p1_size, .ref h_p1_words, .ref h_p1_values], gA h_p1_words cI 48 c_p1_words]) ⟨hx, hb, hml, hown, hts⟩ (kX6_sharedLength l D cI cZ cD cG q_26 q_37 q_40 hc) (va_cwS 2 hts gX3_grow_X6_sharedLength rfl rfl rfl (by decide +kernel) ⟨by simp only [rmX3_grow, rmX6_sharedLength]; omega, by simp only [rmX3_grow, rmX6_sharedLength]; omega⟩) hK hP hD hS hA [] [0, 1, 2, 3, 4, 5, 6, 7, 8] rfl rfl (by decide) (by decide) (by decide) rfl hl.1 rfl (Nat.le_of_ble_eq_true rfl) dX3_grow_40 ⟨Nat.zero_le _, Nat.zero_le _⟩ (fun H locs hP hD hS => ?_)
          have hP : va_P D vwCl [gO h_t 3 [.int v_t_size, .ref h_t_paths, .ref h_t_children, .ref h_t_prefixes, .ref h_t_depths, .ref h_t_froms, .ref h_t_tills], gA h_t_paths cI 48 c_t_paths, gA h_t_prefixes cI 48 c_t_prefixes, gA h_t_depths cI 48 c_t_depths, gA h_t_froms cI 48 c_t_froms, gA h_t_tills cI 48 c_t_tills, gA h_t_children cI 48 c_t_children, gO h_p1 1 [.int v_p1_size, .ref h_p1_words, .ref h_p1_values], gA h_p1_words cI 48 c_p1_words] H := hP
          have hD : va_D A [gO h_t 3 [.int v_t_size, .ref h_t_paths, .ref h_t_children, .ref h_t_prefixes, .ref h_t_depths, .ref h_t_froms, .ref h_t_tills], gA h_t_paths cI 48 c_t_paths, gA h_t_prefixes cI 48 c_t_prefixes, gA h_t_depths cI 48 c_t_depths, gA h_t_froms cI 48 c_t_froms, gA h_t_tills cI 48 c_t_tills, gA h_t_children cI 48 c_t_children, gO h_p1 1 [.int v_p1_size, .ref h_p1_words, .ref h_p1_values], gA h_p1_words cI 48 c_p1_words] := hD
          refine lv_istore (lv' := [(7, .int q_40), (6, .int q_26), (0, .ref h_t), (1, .ref h_p1), (2, .int x2), (3, .int x3), (4, .int x4), (5, .int x5)]) hx hb dX3_grow_43 hl (by decide) rfl (fun ls hl => ?_)
          refine lv_aload_n hx hb dX3_grow_45 rfl (lv_at hl 2 rfl) ?_
          refine va_get (D := D) (ci := 3) (v := .int v_t_size) (C := RX3) (T := TX3) (N := 7) hx hb hts hinX3 hown hK hP 0 rfl rfl 0 (by decide) hw0 (fun _ h9 => h9) rfl dX3_grow_46 ?_
          refine lv_istore (lv' := [(8, .int v_t_size), (7, .int q_40), (6, .int q_26), (0, .ref h_t), (1, .ref h_p1), (2, .int x2), (3, .int x3), (4, .int x4), (5, .int x5)]) hx hb dX3_grow_49 hl (by decide) rfl (fun ls hl => ?_)
          refine lv_aload_n hx hb dX3_grow_51 rfl (lv_at hl 3 rfl) ?_
          refine lv_dup hx hb dX3_grow_52 rfl ?_
          refine va_get (D := D) (ci := 3) (v := .int v_t_size) (C := RX3) (T := TX3) (N := 7) hx hb hts hinX3 hown hK hP 0 rfl rfl 0 (by decide) hw0 (fun _ h9 => h9) rfl dX3_grow_53 ?_
          refine lv_iconst (v := 1) hx hb dX3_grow_56 (by decide) ?_
          refine lv_iadd hx hb dX3_grow_57 ?_
          refine lv_topi (fun f_58 ex => ?_)
          have hF := gl_some hF ex
          refine va_put (D := D) (ci := 3) (v := .int f_58) (ty := .int) (C := RX3) (T := TX3) (N := 7) hx hb hts hinX3 tyX3 tyX3_ok nmX3 hown hK hP hD hS 0 rfl rfl 0 (by decide) hw0 (fun _ h9 => h9) rfl (by decide +kernel) rfl rfl (Nat.le_of_ble_eq_true rfl) dX3_grow_58 (fun H locs hP hD hS => ?_)
          have hP : va_P D vwCl [gO h_t 3 [.int f_58, .ref h_t_paths, .ref h_t_children, .ref h_t_prefixes, .ref h_t_depths, .ref h_t_froms, .ref h_t_tills], gA h_t_paths cI 48 c_t_paths, gA h_t_prefixes cI 48 c_t_prefixes, gA h_t_depths cI 48 c_t_depths, gA h_t_froms cI 48 c_t_froms, gA h_t_tills cI 48 c_t_tills, gA h_t_children cI 48 c_t_children, gO h_p1 1 [.int v_p1_size, .ref h_p1_words, .ref h_p1_values], gA h_p1_words cI 48 c_p1_words] H := hP
          have hD : va_D A [gO h_t 3 [.int f_58, .ref h_t_paths, .ref h_t_children, .ref h_t_prefixes, .ref h_t_depths, .ref h_t_froms, .ref h_t_tills], gA h_t_paths cI 48 c_t_paths, gA h_t_prefixes cI 48 c_t_prefixes, gA h_t_depths cI 48 c_t_depths, gA h_t_froms cI 48 c_t_froms, gA h_t_tills cI 48 c_t_tills, gA h_t_children cI 48 c_t_children, gO h_p1 1 [.int v_p1_size, .ref h_p1_words, .ref h_p1_values], gA h_p1_words cI 48 c_p1_words] := hD
          refine lv_aload_n hx hb dX3_grow_61 rfl (lv_at hl 3 rfl) ?_
          refine va_get (D := D) (ci := 3) (v := .ref h_t_paths) (C := RX3) (T := TX3) (N := 7) hx hb hts hinX3 hown hK hP 0 rfl rfl 1 (by decide) hw2 (fun _ h9 => h9) rfl dX3_grow_62 ?_
          refine lv_iload hx hb dX3_grow_65 (lv_at hl 0 rfl) ?_
          refine lv_iload hx hb dX3_grow_67 (lv_at hl 2 rfl) ?_
          refine lv_iload hx hb dX3_grow_69 (lv_at hl 1 rfl) ?_
          obtain ⟨q_71, hc, hF⟩ := gb_some hF
          refine gcSi (As := [.int q_26, .int q_40]) (rest := [.int v_t_size, .ref h_t_paths]) (pre := []) (post := []) (wr := [gO h_t 3 [.int f_58, .ref h_t_paths, .ref h_t_children, .ref h_t_prefixes, .ref h_t_depths, .ref h_t_froms, .ref h_t_tills], gA h_t_paths cI 48 c_t_paths, gA h_t_prefixes cI 48 c_t_prefixes, gA h_t_depths cI 48 c_t_depths, gA h_t_froms cI 48 c_t_froms, gA h_t_tills cI 48 c_t_tills, gA h_t_children cI 48 c_t_children, gO h_p1 1 [.int v_p1_size, .ref h_p1_words, .ref h_p1_values], gA h_p1_words cI 48 c_p1_words]) ⟨hx, hb, hml, hown, hts⟩ (kX6_head l D cI cZ cD cG q_26 q_40 q_71 hc) (va_cwS 2 hts gX3_grow_X6_head rfl rfl rfl (by decide +kernel) ⟨by simp only [rmX3_grow, rmX6_head]; omega, by simp only [rmX3_grow, rmX6_head]; omega⟩) hK hP hD hS hA [] [0, 1, 2, 3, 4, 5, 6, 7, 8] rfl rfl (by decide) (by decide) (by decide) rfl hl.1 rfl (Nat.le_of_ble_eq_true rfl) dX3_grow_71 ⟨Nat.zero_le _, Nat.zero_le _⟩ (fun H locs hP hD hS => ?_)
          have hP : va_P D vwCl [gO h_t 3 [.int f_58, .ref h_t_paths, .ref h_t_children, .ref h_t_prefixes, .ref h_t_depths, .ref h_t_froms, .ref h_t_tills], gA h_t_paths cI 48 c_t_paths, gA h_t_prefixes cI 48 c_t_prefixes, gA h_t_depths cI 48 c_t_depths, gA h_t_froms cI 48 c_t_froms, gA h_t_tills cI 48 c_t_tills, gA h_t_children cI 48 c_t_children, gO h_p1 1 [.int v_p1_size, .ref h_p1_words, .ref h_p1_values], gA h_p1_words cI 48 c_p1_words] H := hP
          have hD : va_D A [gO h_t 3 [.int f_58, .ref h_t_paths, .ref h_t_children, .ref h_t_prefixes, .ref h_t_depths, .ref h_t_froms, .ref h_t_tills], gA h_t_paths cI 48 c_t_paths, gA h_t_prefixes cI 48 c_t_prefixes, gA h_t_depths cI 48 c_t_depths, gA h_t_froms cI 48 c_t_froms, gA h_t_tills cI 48 c_t_tills, gA h_t_children cI 48 c_t_children, gO h_p1 1 [.int v_p1_size, .ref h_p1_words, .ref h_p1_values], gA h_p1_words cI 48 c_p1_words] := hD
          obtain ⟨hin, hF⟩ := gx_some hF
          refine va_iast hx hb hK hP hD hS 1 0 rfl rfl hin dX3_grow_74 (fun H locs hP hD hS => ?_)
          have hP : va_P D vwCl [gO h_t 3 [.int f_58, .ref h_t_paths, .ref h_t_children, .ref h_t_prefixes, .ref h_t_depths, .ref h_t_froms, .ref h_t_tills], gA h_t_paths cI 48 (upd c_t_paths (v_t_size).toNatClampNeg q_71), gA h_t_prefixes cI 48 c_t_prefixes, gA h_t_depths cI 48 c_t_depths, gA h_t_froms cI 48 c_t_froms, gA h_t_tills cI 48 c_t_tills, gA h_t_children cI 48 c_t_children, gO h_p1 1 [.int v_p1_size, .ref h_p1_words, .ref h_p1_values], gA h_p1_words cI 48 c_p1_words] H := hP
          have hD : va_D A [gO h_t 3 [.int f_58, .ref h_t_paths, .ref h_t_children, .ref h_t_prefixes, .ref h_t_depths, .ref h_t_froms, .ref h_t_tills], gA h_t_paths cI 48 (upd c_t_paths (v_t_size).toNatClampNeg q_71), gA h_t_prefixes cI 48 c_t_prefixes, gA h_t_depths cI 48 c_t_depths, gA h_t_froms cI 48 c_t_froms, gA h_t_tills cI 48 c_t_tills, gA h_t_children cI 48 c_t_children, gO h_p1 1 [.int v_p1_size, .ref h_p1_words, .ref h_p1_values], gA h_p1_words cI 48 c_p1_words] := hD
          refine lv_aload_n hx hb dX3_grow_75 rfl (lv_at hl 3 rfl) ?_
          refine va_get (D := D) (ci := 3) (v := .ref h_t_prefixes) (C := RX3) (T := TX3) (N := 7) hx hb hts hinX3 hown hK hP 0 rfl rfl 3 (by decide) hw3 (fun _ h9 => h9) rfl dX3_grow_76 ?_
          refine lv_iload hx hb dX3_grow_79 (lv_at hl 0 rfl) ?_
          refine lv_iload hx hb dX3_grow_81 (lv_at hl 1 rfl) ?_
          refine lv_iload hx hb dX3_grow_83 (lv_at hl 7 rfl) ?_
          refine lv_isub hx hb dX3_grow_85 ?_
          refine lv_iconst (v := 1) hx hb dX3_grow_86 (by decide) ?_
          refine lv_isub hx hb dX3_grow_87 ?_
          obtain ⟨hin, hF⟩ := gx_some hF
          refine va_iast hx hb hK hP hD hS 2 0 rfl rfl hin dX3_grow_88 (fun H locs hP hD hS => ?_)
          have hP : va_P D vwCl [gO h_t 3 [.int f_58, .ref h_t_paths, .ref h_t_children, .ref h_t_prefixes, .ref h_t_depths, .ref h_t_froms, .ref h_t_tills], gA h_t_paths cI 48 (upd c_t_paths (v_t_size).toNatClampNeg q_71), gA h_t_prefixes cI 48 (upd c_t_prefixes (v_t_size).toNatClampNeg ((q_40 - x4) - (1 : Int32))), gA h_t_depths cI 48 c_t_depths, gA h_t_froms cI 48 c_t_froms, gA h_t_tills cI 48 c_t_tills, gA h_t_children cI 48 c_t_children, gO h_p1 1 [.int v_p1_size, .ref h_p1_words, .ref h_p1_values], gA h_p1_words cI 48 c_p1_words] H := hP
          have hD : va_D A [gO h_t 3 [.int f_58, .ref h_t_paths, .ref h_t_children, .ref h_t_prefixes, .ref h_t_depths, .ref h_t_froms, .ref h_t_tills], gA h_t_paths cI 48 (upd c_t_paths (v_t_size).toNatClampNeg q_71), gA h_t_prefixes cI 48 (upd c_t_prefixes (v_t_size).toNatClampNeg ((q_40 - x4) - (1 : Int32))), gA h_t_depths cI 48 c_t_depths, gA h_t_froms cI 48 c_t_froms, gA h_t_tills cI 48 c_t_tills, gA h_t_children cI 48 c_t_children, gO h_p1 1 [.int v_p1_size, .ref h_p1_words, .ref h_p1_values], gA h_p1_words cI 48 c_p1_words] := hD
          refine lv_aload_n hx hb dX3_grow_89 rfl (lv_at hl 3 rfl) ?_
          refine va_get (D := D) (ci := 3) (v := .ref h_t_depths) (C := RX3) (T := TX3) (N := 7) hx hb hts hinX3 hown hK hP 0 rfl rfl 4 (by decide) hw4 (fun _ h9 => h9) rfl dX3_grow_90 ?_
          refine lv_iload hx hb dX3_grow_93 (lv_at hl 0 rfl) ?_
          refine lv_iload hx hb dX3_grow_95 (lv_at hl 8 rfl) ?_
          refine lv_iconst (v := 1) hx hb dX3_grow_97 (by decide) ?_
          refine lv_iadd hx hb dX3_grow_98 ?_
          obtain ⟨hin, hF⟩ := gx_some hF
          refine va_iast hx hb hK hP hD hS 3 0 rfl rfl hin dX3_grow_99 (fun H locs hP hD hS => ?_)
          have hP : va_P D vwCl [gO h_t 3 [.int f_58, .ref h_t_paths, .ref h_t_children, .ref h_t_prefixes, .ref h_t_depths, .ref h_t_froms, .ref h_t_tills], gA h_t_paths cI 48 (upd c_t_paths (v_t_size).toNatClampNeg q_71), gA h_t_prefixes cI 48 (upd c_t_prefixes (v_t_size).toNatClampNeg ((q_40 - x4) - (1 : Int32))), gA h_t_depths cI 48 (upd c_t_depths (v_t_size).toNatClampNeg (x5 + (1 : Int32))), gA h_t_froms cI 48 c_t_froms, gA h_t_tills cI 48 c_t_tills, gA h_t_children cI 48 c_t_children, gO h_p1 1 [.int v_p1_size, .ref h_p1_words, .ref h_p1_values], gA h_p1_words cI 48 c_p1_words] H := hP
          have hD : va_D A [gO h_t 3 [.int f_58, .ref h_t_paths, .ref h_t_children, .ref h_t_prefixes, .ref h_t_depths, .ref h_t_froms, .ref h_t_tills], gA h_t_paths cI 48 (upd c_t_paths (v_t_size).toNatClampNeg q_71), gA h_t_prefixes cI 48 (upd c_t_prefixes (v_t_size).toNatClampNeg ((q_40 - x4) - (1 : Int32))), gA h_t_depths cI 48 (upd c_t_depths (v_t_size).toNatClampNeg (x5 + (1 : Int32))), gA h_t_froms cI 48 c_t_froms, gA h_t_tills cI 48 c_t_tills, gA h_t_children cI 48 c_t_children, gO h_p1 1 [.int v_p1_size, .ref h_p1_words, .ref h_p1_values], gA h_p1_words cI 48 c_p1_words] := hD
          refine lv_aload_n hx hb dX3_grow_100 rfl (lv_at hl 3 rfl) ?_
          refine va_get (D := D) (ci := 3) (v := .ref h_t_froms) (C := RX3) (T := TX3) (N := 7) hx hb hts hinX3 hown hK hP 0 rfl rfl 5 (by decide) hw5 (fun _ h9 => h9) rfl dX3_grow_101 ?_
          refine lv_iload hx hb dX3_grow_104 (lv_at hl 0 rfl) ?_
          refine lv_iload_n hx hb dX3_grow_106 rfl (lv_at hl 5 rfl) ?_
          obtain ⟨hin, hF⟩ := gx_some hF
          refine va_iast hx hb hK hP hD hS 4 0 rfl rfl hin dX3_grow_107 (fun H locs hP hD hS => ?_)
          have hP : va_P D vwCl [gO h_t 3 [.int f_58, .ref h_t_paths, .ref h_t_children, .ref h_t_prefixes, .ref h_t_depths, .ref h_t_froms, .ref h_t_tills], gA h_t_paths cI 48 (upd c_t_paths (v_t_size).toNatClampNeg q_71), gA h_t_prefixes cI 48 (upd c_t_prefixes (v_t_size).toNatClampNeg ((q_40 - x4) - (1 : Int32))), gA h_t_depths cI 48 (upd c_t_depths (v_t_size).toNatClampNeg (x5 + (1 : Int32))), gA h_t_froms cI 48 (upd c_t_froms (v_t_size).toNatClampNeg x2), gA h_t_tills cI 48 c_t_tills, gA h_t_children cI 48 c_t_children, gO h_p1 1 [.int v_p1_size, .ref h_p1_words, .ref h_p1_values], gA h_p1_words cI 48 c_p1_words] H := hP
          have hD : va_D A [gO h_t 3 [.int f_58, .ref h_t_paths, .ref h_t_children, .ref h_t_prefixes, .ref h_t_depths, .ref h_t_froms, .ref h_t_tills], gA h_t_paths cI 48 (upd c_t_paths (v_t_size).toNatClampNeg q_71), gA h_t_prefixes cI 48 (upd c_t_prefixes (v_t_size).toNatClampNeg ((q_40 - x4) - (1 : Int32))), gA h_t_depths cI 48 (upd c_t_depths (v_t_size).toNatClampNeg (x5 + (1 : Int32))), gA h_t_froms cI 48 (upd c_t_froms (v_t_size).toNatClampNeg x2), gA h_t_tills cI 48 c_t_tills, gA h_t_children cI 48 c_t_children, gO h_p1 1 [.int v_p1_size, .ref h_p1_words, .ref h_p1_values], gA h_p1_words cI 48 c_p1_words] := hD
          refine lv_aload_n hx hb dX3_grow_108 rfl (lv_at hl 3 rfl) ?_
          refine va_get (D := D) (ci := 3) (v := .ref h_t_tills) (C := RX3) (T := TX3) (N := 7) hx hb hts hinX3 hown hK hP 0 rfl rfl 6 (by decide) hw6 (fun _ h9 => h9) rfl dX3_grow_109 ?_
          refine lv_iload hx hb dX3_grow_112 (lv_at hl 0 rfl) ?_
          refine lv_iload_n hx hb dX3_grow_114 rfl (lv_at hl 6 rfl) ?_
          obtain ⟨hin, hF⟩ := gx_some hF
          refine va_iast hx hb hK hP hD hS 5 0 rfl rfl hin dX3_grow_115 (fun H locs hP hD hS => ?_)
          have hP : va_P D vwCl [gO h_t 3 [.int f_58, .ref h_t_paths, .ref h_t_children, .ref h_t_prefixes, .ref h_t_depths, .ref h_t_froms, .ref h_t_tills], gA h_t_paths cI 48 (upd c_t_paths (v_t_size).toNatClampNeg q_71), gA h_t_prefixes cI 48 (upd c_t_prefixes (v_t_size).toNatClampNeg ((q_40 - x4) - (1 : Int32))), gA h_t_depths cI 48 (upd c_t_depths (v_t_size).toNatClampNeg (x5 + (1 : Int32))), gA h_t_froms cI 48 (upd c_t_froms (v_t_size).toNatClampNeg x2), gA h_t_tills cI 48 (upd c_t_tills (v_t_size).toNatClampNeg x3), gA h_t_children cI 48 c_t_children, gO h_p1 1 [.int v_p1_size, .ref h_p1_words, .ref h_p1_values], gA h_p1_words cI 48 c_p1_words] H := hP
          have hD : va_D A [gO h_t 3 [.int f_58, .ref h_t_paths, .ref h_t_children, .ref h_t_prefixes, .ref h_t_depths, .ref h_t_froms, .ref h_t_tills], gA h_t_paths cI 48 (upd c_t_paths (v_t_size).toNatClampNeg q_71), gA h_t_prefixes cI 48 (upd c_t_prefixes (v_t_size).toNatClampNeg ((q_40 - x4) - (1 : Int32))), gA h_t_depths cI 48 (upd c_t_depths (v_t_size).toNatClampNeg (x5 + (1 : Int32))), gA h_t_froms cI 48 (upd c_t_froms (v_t_size).toNatClampNeg x2), gA h_t_tills cI 48 (upd c_t_tills (v_t_size).toNatClampNeg x3), gA h_t_children cI 48 c_t_children, gO h_p1 1 [.int v_p1_size, .ref h_p1_words, .ref h_p1_values], gA h_p1_words cI 48 c_p1_words] := hD
          refine lv_aload_n hx hb dX3_grow_116 rfl (lv_at hl 3 rfl) ?_
          refine va_get (D := D) (ci := 3) (v := .ref h_t_children) (C := RX3) (T := TX3) (N := 7) hx hb hts hinX3 hown hK hP 0 rfl rfl 2 (by decide) hw7 (fun _ h9 => h9) rfl dX3_grow_117 ?_
          refine lv_iload hx hb dX3_grow_120 (lv_at hl 0 rfl) ?_
          refine lv_iconst (v := 0) hx hb dX3_grow_122 (by decide) ?_
          obtain ⟨hin, hF⟩ := gx_some hF
          refine va_iast hx hb hK hP hD hS 6 0 rfl rfl hin dX3_grow_123 (fun H locs hP hD hS => ?_)
          have hP : va_P D vwCl [gO h_t 3 [.int f_58, .ref h_t_paths, .ref h_t_children, .ref h_t_prefixes, .ref h_t_depths, .ref h_t_froms, .ref h_t_tills], gA h_t_paths cI 48 (upd c_t_paths (v_t_size).toNatClampNeg q_71), gA h_t_prefixes cI 48 (upd c_t_prefixes (v_t_size).toNatClampNeg ((q_40 - x4) - (1 : Int32))), gA h_t_depths cI 48 (upd c_t_depths (v_t_size).toNatClampNeg (x5 + (1 : Int32))), gA h_t_froms cI 48 (upd c_t_froms (v_t_size).toNatClampNeg x2), gA h_t_tills cI 48 (upd c_t_tills (v_t_size).toNatClampNeg x3), gA h_t_children cI 48 (upd c_t_children (v_t_size).toNatClampNeg (0 : Int32)), gO h_p1 1 [.int v_p1_size, .ref h_p1_words, .ref h_p1_values], gA h_p1_words cI 48 c_p1_words] H := hP
          have hD : va_D A [gO h_t 3 [.int f_58, .ref h_t_paths, .ref h_t_children, .ref h_t_prefixes, .ref h_t_depths, .ref h_t_froms, .ref h_t_tills], gA h_t_paths cI 48 (upd c_t_paths (v_t_size).toNatClampNeg q_71), gA h_t_prefixes cI 48 (upd c_t_prefixes (v_t_size).toNatClampNeg ((q_40 - x4) - (1 : Int32))), gA h_t_depths cI 48 (upd c_t_depths (v_t_size).toNatClampNeg (x5 + (1 : Int32))), gA h_t_froms cI 48 (upd c_t_froms (v_t_size).toNatClampNeg x2), gA h_t_tills cI 48 (upd c_t_tills (v_t_size).toNatClampNeg x3), gA h_t_children cI 48 (upd c_t_children (v_t_size).toNatClampNeg (0 : Int32)), gO h_p1 1 [.int v_p1_size, .ref h_p1_words, .ref h_p1_values], gA h_p1_words cI 48 c_p1_words] := hD
          refine lv_iload hx hb dX3_grow_124 (lv_at hl 2 rfl) ?_
          obtain ⟨q_126, hc, hF⟩ := gb_some hF
          refine gcSi (As := [.int q_26]) (rest := []) (pre := []) (post := []) (wr := [gO h_t 3 [.int f_58, .ref h_t_paths, .ref h_t_children, .ref h_t_prefixes, .ref h_t_depths, .ref h_t_froms, .ref h_t_tills], gA h_t_paths cI 48 (upd c_t_paths (v_t_size).toNatClampNeg q_71), gA h_t_prefixes cI 48 (upd c_t_prefixes (v_t_size).toNatClampNeg ((q_40 - x4) - (1 : Int32))), gA h_t_depths cI 48 (upd c_t_depths (v_t_size).toNatClampNeg (x5 + (1 : Int32))), gA h_t_froms cI 48 (upd c_t_froms (v_t_size).toNatClampNeg x2), gA h_t_tills cI 48 (upd c_t_tills (v_t_size).toNatClampNeg x3), gA h_t_children cI 48 (upd c_t_children (v_t_size).toNatClampNeg (0 : Int32)), gO h_p1 1 [.int v_p1_size, .ref h_p1_words, .ref h_p1_values], gA h_p1_words cI 48 c_p1_words]) ⟨hx, hb, hml, hown, hts⟩ (kX6_length l D cI cZ cD cG q_26 q_126 hc) (va_cwS 1 hts gX3_grow_X6_length rfl rfl rfl (by decide +kernel) ⟨by simp only [rmX3_grow, rmX6_length]; omega, by simp only [rmX3_grow, rmX6_length]; omega⟩) hK hP hD hS hA [] [0, 1, 2, 3, 4, 5, 6, 7, 8] rfl rfl (by decide) (by decide) (by decide) rfl hl.1 rfl (Nat.le_of_ble_eq_true rfl) dX3_grow_126 ⟨Nat.zero_le _, Nat.zero_le _⟩ (fun H locs hP hD hS => ?_)
          have hP : va_P D vwCl [gO h_t 3 [.int f_58, .ref h_t_paths, .ref h_t_children, .ref h_t_prefixes, .ref h_t_depths, .ref h_t_froms, .ref h_t_tills], gA h_t_paths cI 48 (upd c_t_paths (v_t_size).toNatClampNeg q_71), gA h_t_prefixes cI 48 (upd c_t_prefixes (v_t_size).toNatClampNeg ((q_40 - x4) - (1 : Int32))), gA h_t_depths cI 48 (upd c_t_depths (v_t_size).toNatClampNeg (x5 + (1 : Int32))), gA h_t_froms cI 48 (upd c_t_froms (v_t_size).toNatClampNeg x2), gA h_t_tills cI 48 (upd c_t_tills (v_t_size).toNatClampNeg x3), gA h_t_children cI 48 (upd c_t_children (v_t_size).toNatClampNeg (0 : Int32)), gO h_p1 1 [.int v_p1_size, .ref h_p1_words, .ref h_p1_values], gA h_p1_words cI 48 c_p1_words] H := hP
          have hD : va_D A [gO h_t 3 [.int f_58, .ref h_t_paths, .ref h_t_children, .ref h_t_prefixes, .ref h_t_depths, .ref h_t_froms, .ref h_t_tills], gA h_t_paths cI 48 (upd c_t_paths (v_t_size).toNatClampNeg q_71), gA h_t_prefixes cI 48 (upd c_t_prefixes (v_t_size).toNatClampNeg ((q_40 - x4) - (1 : Int32))), gA h_t_depths cI 48 (upd c_t_depths (v_t_size).toNatClampNeg (x5 + (1 : Int32))), gA h_t_froms cI 48 (upd c_t_froms (v_t_size).toNatClampNeg x2), gA h_t_tills cI 48 (upd c_t_tills (v_t_size).toNatClampNeg x3), gA h_t_children cI 48 (upd c_t_children (v_t_size).toNatClampNeg (0 : Int32)), gO h_p1 1 [.int v_p1_size, .ref h_p1_words, .ref h_p1_values], gA h_p1_words cI 48 c_p1_words] := hD
          refine lv_iload hx hb dX3_grow_129 (lv_at hl 1 rfl) ?_
          obtain ⟨q_141, hR, hF⟩ := gb_some hF
          have Jn_141 : ∀ (H : Heap) (locs : List Loc) (ls : Array Slot), va_P D vwCl [gO h_t 3 [.int f_58, .ref h_t_paths, .ref h_t_children, .ref h_t_prefixes, .ref h_t_depths, .ref h_t_froms, .ref h_t_tills], gA h_t_paths cI 48 (upd c_t_paths (v_t_size).toNatClampNeg q_71), gA h_t_prefixes cI 48 (upd c_t_prefixes (v_t_size).toNatClampNeg ((q_40 - x4) - (1 : Int32))), gA h_t_depths cI 48 (upd c_t_depths (v_t_size).toNatClampNeg (x5 + (1 : Int32))), gA h_t_froms cI 48 (upd c_t_froms (v_t_size).toNatClampNeg x2), gA h_t_tills cI 48 (upd c_t_tills (v_t_size).toNatClampNeg x3), gA h_t_children cI 48 (upd c_t_children (v_t_size).toNatClampNeg (0 : Int32)), gO h_p1 1 [.int v_p1_size, .ref h_p1_words, .ref h_p1_values], gA h_p1_words cI 48 c_p1_words] H → va_D A [gO h_t 3 [.int f_58, .ref h_t_paths, .ref h_t_children, .ref h_t_prefixes, .ref h_t_depths, .ref h_t_froms, .ref h_t_tills], gA h_t_paths cI 48 (upd c_t_paths (v_t_size).toNatClampNeg q_71), gA h_t_prefixes cI 48 (upd c_t_prefixes (v_t_size).toNatClampNeg ((q_40 - x4) - (1 : Int32))), gA h_t_depths cI 48 (upd c_t_depths (v_t_size).toNatClampNeg (x5 + (1 : Int32))), gA h_t_froms cI 48 (upd c_t_froms (v_t_size).toNatClampNeg x2), gA h_t_tills cI 48 (upd c_t_tills (v_t_size).toNatClampNeg x3), gA h_t_children cI 48 (upd c_t_children (v_t_size).toNatClampNeg (0 : Int32)), gO h_p1 1 [.int v_p1_size, .ref h_p1_words, .ref h_p1_values], gA h_p1_words cI 48 c_p1_words] → va_S A s.heap H locs → lv_has ls 12 [(0, .ref h_t), (1, .ref h_p1), (3, .int x3), (5, .int x5), (7, .int q_40), (8, .int v_t_size)] → W p l e (rmX3_grow (d + 1)) s m args below meth c H locs 0 0 Q (F0 m 141 ls [.int q_141]) := by
            intro H locs ls hP hD hS hl
            refine lv_istore (lv' := [(9, .int q_141), (0, .ref h_t), (1, .ref h_p1), (3, .int x3), (5, .int x5), (7, .int q_40), (8, .int v_t_size)]) hx hb dX3_grow_141 hl (by decide) rfl (fun ls hl => ?_)
            refine lv_iload hx hb dX3_grow_143 (lv_at hl 0 rfl) ?_
            refine lv_iconst (v := 1) hx hb dX3_grow_145 (by decide) ?_
            refine lv_iadd hx hb dX3_grow_146 ?_
            refine lv_topi (fun x10_147 ex => ?_)
            have hF := gl_some hF ex
            refine lv_istore (lv' := [(10, .int x10_147), (9, .int q_141), (0, .ref h_t), (1, .ref h_p1), (3, .int x3), (5, .int x5), (7, .int q_40), (8, .int v_t_size)]) hx hb dX3_grow_147 hl (by decide) rfl (fun ls hl => ?_)
            obtain ⟨q_149, hR, hF⟩ := gb_some hF
            have En_149 : ∀ (H : Heap) (locs : List Loc) (ls : Array Slot), va_P D vwCl [gO h_t 3 [.int q_149.1, .ref h_t_paths, .ref h_t_children, .ref h_t_prefixes, .ref h_t_depths, .ref h_t_froms, .ref h_t_tills], gA h_t_paths cI 48 q_149.2.1, gA h_t_prefixes cI 48 q_149.2.2.1, gA h_t_depths cI 48 q_149.2.2.2.1, gA h_t_froms cI 48 q_149.2.2.2.2.1, gA h_t_tills cI 48 q_149.2.2.2.2.2.1, gA h_t_children cI 48 q_149.2.2.2.2.2.2, gO h_p1 1 [.int v_p1_size, .ref h_p1_words, .ref h_p1_values], gA h_p1_words cI 48 c_p1_words] H → va_D A [gO h_t 3 [.int q_149.1, .ref h_t_paths, .ref h_t_children, .ref h_t_prefixes, .ref h_t_depths, .ref h_t_froms, .ref h_t_tills], gA h_t_paths cI 48 q_149.2.1, gA h_t_prefixes cI 48 q_149.2.2.1, gA h_t_depths cI 48 q_149.2.2.2.1, gA h_t_froms cI 48 q_149.2.2.2.2.1, gA h_t_tills cI 48 q_149.2.2.2.2.2.1, gA h_t_children cI 48 q_149.2.2.2.2.2.2, gO h_p1 1 [.int v_p1_size, .ref h_p1_words, .ref h_p1_values], gA h_p1_words cI 48 c_p1_words] → va_S A s.heap H locs → lv_has ls 12 [] → W p l e (rmX3_grow (d + 1)) s m args below meth c H locs 0 0 Q (F0 m 229 ls []) := by
              intro H locs ls hP hD hS hl
              obtain rfl := Option.some.inj hF
              exact hQ _ _ _ _ (hP.sub [0, 7, 8, 1, 2, 3, 4, 5, 6] rfl) (hD.sub [0, 7, 8, 1, 2, 3, 4, 5, 6] (by decide) rfl) hS dX3_grow_229
            clear hF
            have Ln_149 : ∀ (n_149 : Nat) (x9_149 : Int32) (x10_149 : Int32) (v_t_size_149 : Int32) (c_t_paths_149 : Nat → Int32) (c_t_prefixes_149 : Nat → Int32) (c_t_depths_149 : Nat → Int32) (c_t_froms_149 : Nat → Int32) (c_t_tills_149 : Nat → Int32) (c_t_children_149 : Nat → Int32) (H : Heap) (locs : List Loc) (ls : Array Slot), fX3_grow_L149 x3 v_p1_size c_p1_words q_40 v_t_size (fX3_grow d) x5 n_149 x9_149 x10_149 v_t_size_149 c_t_paths_149 c_t_prefixes_149 c_t_depths_149 c_t_froms_149 c_t_tills_149 c_t_children_149 = some q_149 → va_P D vwCl [gO h_t 3 [.int v_t_size_149, .ref h_t_paths, .ref h_t_children, .ref h_t_prefixes, .ref h_t_depths, .ref h_t_froms, .ref h_t_tills], gA h_t_paths cI 48 c_t_paths_149, gA h_t_prefixes cI 48 c_t_prefixes_149, gA h_t_depths cI 48 c_t_depths_149, gA h_t_froms cI 48 c_t_froms_149, gA h_t_tills cI 48 c_t_tills_149, gA h_t_children cI 48 c_t_children_149, gO h_p1 1 [.int v_p1_size, .ref h_p1_words, .ref h_p1_values], gA h_p1_words cI 48 c_p1_words] H → va_D A [gO h_t 3 [.int v_t_size_149, .ref h_t_paths, .ref h_t_children, .ref h_t_prefixes, .ref h_t_depths, .ref h_t_froms, .ref h_t_tills], gA h_t_paths cI 48 c_t_paths_149, gA h_t_prefixes cI 48 c_t_prefixes_149, gA h_t_depths cI 48 c_t_depths_149, gA h_t_froms cI 48 c_t_froms_149, gA h_t_tills cI 48 c_t_tills_149, gA h_t_children cI 48 c_t_children_149, gO h_p1 1 [.int v_p1_size, .ref h_p1_words, .ref h_p1_values], gA h_p1_words cI 48 c_p1_words] → va_S A s.heap H locs → lv_has ls 12 [(0, .ref h_t), (1, .ref h_p1), (3, .int x3), (5, .int x5), (7, .int q_40), (8, .int v_t_size), (9, .int x9_149), (10, .int x10_149)] → W p l e (rmX3_grow (d + 1)) s m args below meth c H locs 0 0 Q (F0 m 149 ls []) := by
              intro n_149
              induction n_149 with
              | zero =>
                intro x9_149 x10_149 v_t_size_149 c_t_paths_149 c_t_prefixes_149 c_t_depths_149 c_t_froms_149 c_t_tills_149 c_t_children_149 H locs ls hF
                rw [fX3_grow_L149] at hF
                cases hF
              | succ n_149 ih149 =>
                intro x9_149 x10_149 v_t_size_149 c_t_paths_149 c_t_prefixes_149 c_t_depths_149 c_t_froms_149 c_t_tills_149 c_t_children_149 H locs ls hF hP hD hS hl
                rw [fX3_grow_L149] at hF
                refine lv_iload hx hb dX3_grow_149 (lv_at hl 7 rfl) ?_
                refine lv_iload_n hx hb dX3_grow_151 rfl (lv_at hl 2 rfl) ?_
                refine lv_icmp_gt (tgt := 229) hx hb dX3_grow_152 (by decide) (fun cc => ?_) (fun cc => ?_)
                · have hF := gi_pos hF cc
                  obtain rfl := Option.some.inj hF
                  exact En_149 _ _ _ hP hD hS (lv_sub hl [] rfl)
                · have hF := gi_neg hF cc
                  refine lv_aload_n hx hb dX3_grow_155 rfl (lv_at hl 1 rfl) ?_
                  refine lv_iload hx hb dX3_grow_156 (lv_at hl 6 rfl) ?_
                  obtain ⟨q_158, hc, hF⟩ := gb_some hF
                  refine gcVi (ci := 1) (As := [.int x9_149]) (rest := []) (pre := [gO h_p1 1 [.int v_p1_size, .ref h_p1_words, .ref h_p1_values], gA h_p1_words cI 48 c_p1_words]) (post := [gO h_p1 1 [.int v_p1_size, .ref h_p1_words, .ref h_p1_values], gA h_p1_words cI 48 c_p1_words]) (wr := [gO h_t 3 [.int v_t_size_149, .ref h_t_paths, .ref h_t_children, .ref h_t_prefixes, .ref h_t_depths, .ref h_t_froms, .ref h_t_tills], gA h_t_paths cI 48 c_t_paths_149, gA h_t_prefixes cI 48 c_t_prefixes_149, gA h_t_depths cI 48 c_t_depths_149, gA h_t_froms cI 48 c_t_froms_149, gA h_t_tills cI 48 c_t_tills_149, gA h_t_children cI 48 c_t_children_149]) ⟨hx, hb, hml, hown, hts⟩ (kX1_word l D cI cZ cD cG h_p1 v_p1_size h_p1_words h_p1_values c_p1_words x9_149 q_158 hc) (cwV 1 hts gX3_grow_X1_word rfl rfl rfl (by decide +kernel) ⟨by simp only [rmX3_grow, rmX1_word]; omega, by simp only [rmX3_grow, rmX1_word]; omega⟩) hK hP hD hS hA [7, 8] [0, 1, 2, 3, 4, 5, 6] rfl rfl (by decide) (by decide) (by decide) 0 rfl rfl rfl hl.1 rfl (Nat.le_of_ble_eq_true rfl) dX3_grow_158 ⟨Nat.zero_le _, Nat.zero_le _⟩ (fun H locs hP hD hS => ?_)
                  have hP : va_P D vwCl [gO h_t 3 [.int v_t_size_149, .ref h_t_paths, .ref h_t_children, .ref h_t_prefixes, .ref h_t_depths, .ref h_t_froms, .ref h_t_tills], gA h_t_paths cI 48 c_t_paths_149, gA h_t_prefixes cI 48 c_t_prefixes_149, gA h_t_depths cI 48 c_t_depths_149, gA h_t_froms cI 48 c_t_froms_149, gA h_t_tills cI 48 c_t_tills_149, gA h_t_children cI 48 c_t_children_149, gO h_p1 1 [.int v_p1_size, .ref h_p1_words, .ref h_p1_values], gA h_p1_words cI 48 c_p1_words] H := hP
                  have hD : va_D A [gO h_t 3 [.int v_t_size_149, .ref h_t_paths, .ref h_t_children, .ref h_t_prefixes, .ref h_t_depths, .ref h_t_froms, .ref h_t_tills], gA h_t_paths cI 48 c_t_paths_149, gA h_t_prefixes cI 48 c_t_prefixes_149, gA h_t_depths cI 48 c_t_depths_149, gA h_t_froms cI 48 c_t_froms_149, gA h_t_tills cI 48 c_t_tills_149, gA h_t_children cI 48 c_t_children_149, gO h_p1 1 [.int v_p1_size, .ref h_p1_words, .ref h_p1_values], gA h_p1_words cI 48 c_p1_words] := hD
                  refine lv_iload hx hb dX3_grow_161 (lv_at hl 4 rfl) ?_
                  obtain ⟨q_163, hc, hF⟩ := gb_some hF
                  refine gcSi (As := [.int q_158, .int q_40]) (rest := []) (pre := []) (post := []) (wr := [gO h_t 3 [.int v_t_size_149, .ref h_t_paths, .ref h_t_children, .ref h_t_prefixes, .ref h_t_depths, .ref h_t_froms, .ref h_t_tills], gA h_t_paths cI 48 c_t_paths_149, gA h_t_prefixes cI 48 c_t_prefixes_149, gA h_t_depths cI 48 c_t_depths_149, gA h_t_froms cI 48 c_t_froms_149, gA h_t_tills cI 48 c_t_tills_149, gA h_t_children cI 48 c_t_children_149, gO h_p1 1 [.int v_p1_size, .ref h_p1_words, .ref h_p1_values], gA h_p1_words cI 48 c_p1_words]) ⟨hx, hb, hml, hown, hts⟩ (kX6_figure l D cI cZ cD cG q_158 q_40 q_163 hc) (va_cwS 2 hts gX3_grow_X6_figure rfl rfl rfl (by decide +kernel) ⟨by simp only [rmX3_grow, rmX6_figure]; omega, by simp only [rmX3_grow, rmX6_figure]; omega⟩) hK hP hD hS hA [] [0, 1, 2, 3, 4, 5, 6, 7, 8] rfl rfl (by decide) (by decide) (by decide) rfl hl.1 rfl (Nat.le_of_ble_eq_true rfl) dX3_grow_163 ⟨Nat.zero_le _, Nat.zero_le _⟩ (fun H locs hP hD hS => ?_)
                  have hP : va_P D vwCl [gO h_t 3 [.int v_t_size_149, .ref h_t_paths, .ref h_t_children, .ref h_t_prefixes, .ref h_t_depths, .ref h_t_froms, .ref h_t_tills], gA h_t_paths cI 48 c_t_paths_149, gA h_t_prefixes cI 48 c_t_prefixes_149, gA h_t_depths cI 48 c_t_depths_149, gA h_t_froms cI 48 c_t_froms_149, gA h_t_tills cI 48 c_t_tills_149, gA h_t_children cI 48 c_t_children_149, gO h_p1 1 [.int v_p1_size, .ref h_p1_words, .ref h_p1_values], gA h_p1_words cI 48 c_p1_words] H := hP
                  have hD : va_D A [gO h_t 3 [.int v_t_size_149, .ref h_t_paths, .ref h_t_children, .ref h_t_prefixes, .ref h_t_depths, .ref h_t_froms, .ref h_t_tills], gA h_t_paths cI 48 c_t_paths_149, gA h_t_prefixes cI 48 c_t_prefixes_149, gA h_t_depths cI 48 c_t_depths_149, gA h_t_froms cI 48 c_t_froms_149, gA h_t_tills cI 48 c_t_tills_149, gA h_t_children cI 48 c_t_children_149, gO h_p1 1 [.int v_p1_size, .ref h_p1_words, .ref h_p1_values], gA h_p1_words cI 48 c_p1_words] := hD
                  refine lv_istore (lv' := [(11, .int q_163), (0, .ref h_t), (1, .ref h_p1), (3, .int x3), (5, .int x5), (7, .int q_40), (8, .int v_t_size), (9, .int x9_149), (10, .int x10_149)]) hx hb dX3_grow_166 hl (by decide) rfl (fun ls hl => ?_)
                  refine lv_iload hx hb dX3_grow_168 (lv_at hl 8 rfl) ?_
                  refine lv_iload_n hx hb dX3_grow_170 rfl (lv_at hl 3 rfl) ?_
                  obtain ⟨q_223, hR, hF⟩ := gb_some hF
                  have Jn_223 : ∀ (H : Heap) (locs : List Loc) (ls : Array Slot), va_P D vwCl [gO h_t 3 [.int q_223.2.1, .ref h_t_paths, .ref h_t_children, .ref h_t_prefixes, .ref h_t_depths, .ref h_t_froms, .ref h_t_tills], gA h_t_paths cI 48 q_223.2.2.1, gA h_t_prefixes cI 48 q_223.2.2.2.1, gA h_t_depths cI 48 q_223.2.2.2.2.1, gA h_t_froms cI 48 q_223.2.2.2.2.2.1, gA h_t_tills cI 48 q_223.2.2.2.2.2.2.1, gA h_t_children cI 48 q_223.2.2.2.2.2.2.2, gO h_p1 1 [.int v_p1_size, .ref h_p1_words, .ref h_p1_values], gA h_p1_words cI 48 c_p1_words] H → va_D A [gO h_t 3 [.int q_223.2.1, .ref h_t_paths, .ref h_t_children, .ref h_t_prefixes, .ref h_t_depths, .ref h_t_froms, .ref h_t_tills], gA h_t_paths cI 48 q_223.2.2.1, gA h_t_prefixes cI 48 q_223.2.2.2.1, gA h_t_depths cI 48 q_223.2.2.2.2.1, gA h_t_froms cI 48 q_223.2.2.2.2.2.1, gA h_t_tills cI 48 q_223.2.2.2.2.2.2.1, gA h_t_children cI 48 q_223.2.2.2.2.2.2.2, gO h_p1 1 [.int v_p1_size, .ref h_p1_words, .ref h_p1_values], gA h_p1_words cI 48 c_p1_words] → va_S A s.heap H locs → lv_has ls 12 [(0, .ref h_t), (1, .ref h_p1), (3, .int x3), (5, .int x5), (7, .int q_40), (8, .int v_t_size), (9, .int q_223.1), (10, .int x10_149)] → W p l e (rmX3_grow (d + 1)) s m args below meth c H locs 0 0 Q (F0 m 223 ls []) := by
                    intro H locs ls hP hD hS hl
                    obtain ⟨x10_223, ex⟩ : ∃ y : Int32, y = (x10_149 + 1) := ⟨_, rfl⟩
                    have hF := gl_some hF ex
                    refine lv_iinc (v := x10_223) (lv' := [(10, .int x10_223), (0, .ref h_t), (1, .ref h_p1), (3, .int x3), (5, .int x5), (7, .int q_40), (8, .int v_t_size), (9, .int q_223.1)]) hx hb dX3_grow_223 hl (k := 7) rfl (by rw [ex]; rfl) (by decide) rfl (fun ls hl => ?_)
                    refine lv_goto (tgt := 149) hx hb dX3_grow_226 (by decide) ?_
                    exact ih149 q_223.1 x10_223 q_223.2.1 q_223.2.2.1 q_223.2.2.2.1 q_223.2.2.2.2.1 q_223.2.2.2.2.2.1 q_223.2.2.2.2.2.2.1 q_223.2.2.2.2.2.2.2 _ _ _ hF hP hD hS (lv_sub hl [1, 2, 3, 4, 5, 6, 7, 0] rfl)
                  clear hF
                  have hF := hR
                  refine lv_icmp_eq (tgt := 190) hx hb dX3_grow_171 (by decide) (fun cc => ?_) (fun cc => ?_)
                  · have hF := gi_pos hF cc
                    refine lv_aload_n hx hb dX3_grow_190 rfl (lv_at hl 1 rfl) ?_
                    refine va_get (D := D) (ci := 3) (v := .ref h_t_children) (C := RX3) (T := TX3) (N := 7) hx hb hts hinX3 hown hK hP 0 rfl rfl 2 (by decide) hw7 (fun _ h9 => h9) rfl dX3_grow_191 ?_
                    refine lv_iload hx hb dX3_grow_194 (lv_at hl 6 rfl) ?_
                    refine lv_dup2_11 hx hb dX3_grow_196 rfl rfl ?_
                    obtain ⟨hin, hF⟩ := gx_some hF
                    refine va_iald hx hb hK hP 6 0 rfl rfl hin dX3_grow_197 ?_
                    refine lv_iconst (v := 1) hx hb dX3_grow_198 (by decide) ?_
                    refine lv_iload hx hb dX3_grow_199 (lv_at hl 0 rfl) ?_
                    refine lv_ishl hx hb dX3_grow_201 ?_
                    refine lv_ior hx hb dX3_grow_202 ?_
                    obtain ⟨hin, hF⟩ := gx_some hF
                    refine va_iast hx hb hK hP hD hS 6 0 rfl rfl hin dX3_grow_203 (fun H locs hP hD hS => ?_)
                    have hP : va_P D vwCl [gO h_t 3 [.int v_t_size_149, .ref h_t_paths, .ref h_t_children, .ref h_t_prefixes, .ref h_t_depths, .ref h_t_froms, .ref h_t_tills], gA h_t_paths cI 48 c_t_paths_149, gA h_t_prefixes cI 48 c_t_prefixes_149, gA h_t_depths cI 48 c_t_depths_149, gA h_t_froms cI 48 c_t_froms_149, gA h_t_tills cI 48 c_t_tills_149, gA h_t_children cI 48 (upd c_t_children_149 (v_t_size).toNatClampNeg ((c_t_children_149 (v_t_size).toNatClampNeg) ||| ((1 : Int32) <<< (q_163 &&& 31)))), gO h_p1 1 [.int v_p1_size, .ref h_p1_words, .ref h_p1_values], gA h_p1_words cI 48 c_p1_words] H := hP
                    have hD : va_D A [gO h_t 3 [.int v_t_size_149, .ref h_t_paths, .ref h_t_children, .ref h_t_prefixes, .ref h_t_depths, .ref h_t_froms, .ref h_t_tills], gA h_t_paths cI 48 c_t_paths_149, gA h_t_prefixes cI 48 c_t_prefixes_149, gA h_t_depths cI 48 c_t_depths_149, gA h_t_froms cI 48 c_t_froms_149, gA h_t_tills cI 48 c_t_tills_149, gA h_t_children cI 48 (upd c_t_children_149 (v_t_size).toNatClampNeg ((c_t_children_149 (v_t_size).toNatClampNeg) ||| ((1 : Int32) <<< (q_163 &&& 31)))), gO h_p1 1 [.int v_p1_size, .ref h_p1_words, .ref h_p1_values], gA h_p1_words cI 48 c_p1_words] := hD
                    refine lv_aload_n hx hb dX3_grow_204 rfl (lv_at hl 1 rfl) ?_
                    refine lv_aload_n hx hb dX3_grow_205 rfl (lv_at hl 2 rfl) ?_
                    refine lv_iload hx hb dX3_grow_206 (lv_at hl 7 rfl) ?_
                    refine lv_iload hx hb dX3_grow_208 (lv_at hl 8 rfl) ?_
                    refine lv_iload hx hb dX3_grow_210 (lv_at hl 5 rfl) ?_
                    refine lv_iload hx hb dX3_grow_212 (lv_at hl 4 rfl) ?_
                    refine lv_iconst (v := 1) hx hb dX3_grow_214 (by decide) ?_
                    refine lv_iadd hx hb dX3_grow_215 ?_
                    obtain ⟨q_216, hc, hF⟩ := gb_some hF
                    refine gcVv (ci := 3) (As := [.ref h_p1, .int x9_149, .int x10_149, .int q_40, .int (x5 + (1 : Int32))]) (rest := []) (pre := [gO h_t 3 [.int v_t_size_149, .ref h_t_paths, .ref h_t_children, .ref h_t_prefixes, .ref h_t_depths, .ref h_t_froms, .ref h_t_tills], gO h_p1 1 [.int v_p1_size, .ref h_p1_words, .ref h_p1_values], gA h_p1_words cI 48 c_p1_words, gA h_t_paths cI 48 c_t_paths_149, gA h_t_prefixes cI 48 c_t_prefixes_149, gA h_t_depths cI 48 c_t_depths_149, gA h_t_froms cI 48 c_t_froms_149, gA h_t_tills cI 48 c_t_tills_149, gA h_t_children cI 48 (upd c_t_children_149 (v_t_size).toNatClampNeg ((c_t_children_149 (v_t_size).toNatClampNeg) ||| ((1 : Int32) <<< (q_163 &&& 31))))]) (post := [gO h_t 3 [.int q_216.1, .ref h_t_paths, .ref h_t_children, .ref h_t_prefixes, .ref h_t_depths, .ref h_t_froms, .ref h_t_tills], gO h_p1 1 [.int v_p1_size, .ref h_p1_words, .ref h_p1_values], gA h_p1_words cI 48 c_p1_words, gA h_t_paths cI 48 q_216.2.1, gA h_t_prefixes cI 48 q_216.2.2.1, gA h_t_depths cI 48 q_216.2.2.2.1, gA h_t_froms cI 48 q_216.2.2.2.2.1, gA h_t_tills cI 48 q_216.2.2.2.2.2.1, gA h_t_children cI 48 q_216.2.2.2.2.2.2]) (wr := []) ⟨hx, hb, hml, hown, hts⟩ (ihd h_t h_p1 v_t_size_149 h_t_paths h_t_children h_t_prefixes h_t_depths h_t_froms h_t_tills v_p1_size h_p1_words h_p1_values c_p1_words c_t_paths_149 c_t_prefixes_149 c_t_depths_149 c_t_froms_149 c_t_tills_149 (upd c_t_children_149 (v_t_size).toNatClampNeg ((c_t_children_149 (v_t_size).toNatClampNeg) ||| ((1 : Int32) <<< (q_163 &&& 31)))) x9_149 x10_149 q_40 (x5 + (1 : Int32)) q_216 hc) (cwV 5 hts gX3_grow_X3_grow rfl rfl rfl (by decide +kernel) ⟨by simp only [rmX3_grow, rmX3_grow]; omega, by simp only [rmX3_grow, rmX3_grow]; omega⟩) hK hP hD hS hA [0, 7, 8, 1, 2, 3, 4, 5, 6] [] rfl rfl (by decide) (by decide) (by decide) 0 rfl rfl rfl hl.1 rfl (Nat.le_of_ble_eq_true rfl) dX3_grow_216 ⟨Nat.zero_le _, Nat.zero_le _⟩ (fun H locs hP hD hS => ?_)
                    have hP : va_P D vwCl [gO h_t 3 [.int q_216.1, .ref h_t_paths, .ref h_t_children, .ref h_t_prefixes, .ref h_t_depths, .ref h_t_froms, .ref h_t_tills], gO h_p1 1 [.int v_p1_size, .ref h_p1_words, .ref h_p1_values], gA h_p1_words cI 48 c_p1_words, gA h_t_paths cI 48 q_216.2.1, gA h_t_prefixes cI 48 q_216.2.2.1, gA h_t_depths cI 48 q_216.2.2.2.1, gA h_t_froms cI 48 q_216.2.2.2.2.1, gA h_t_tills cI 48 q_216.2.2.2.2.2.1, gA h_t_children cI 48 q_216.2.2.2.2.2.2] H := hP
                    have hD : va_D A [gO h_t 3 [.int q_216.1, .ref h_t_paths, .ref h_t_children, .ref h_t_prefixes, .ref h_t_depths, .ref h_t_froms, .ref h_t_tills], gO h_p1 1 [.int v_p1_size, .ref h_p1_words, .ref h_p1_values], gA h_p1_words cI 48 c_p1_words, gA h_t_paths cI 48 q_216.2.1, gA h_t_prefixes cI 48 q_216.2.2.1, gA h_t_depths cI 48 q_216.2.2.2.1, gA h_t_froms cI 48 q_216.2.2.2.2.1, gA h_t_tills cI 48 q_216.2.2.2.2.2.1, gA h_t_children cI 48 q_216.2.2.2.2.2.2] := hD
                    refine lv_iload hx hb dX3_grow_219 (lv_at hl 8 rfl) ?_
                    refine lv_istore (lv' := [(9, .int x10_149), (11, .int q_163), (0, .ref h_t), (1, .ref h_p1), (3, .int x3), (5, .int x5), (7, .int q_40), (8, .int v_t_size), (10, .int x10_149)]) hx hb dX3_grow_221 hl (by decide) rfl (fun ls hl => ?_)
                    obtain rfl := Option.some.inj hF
                    exact Jn_223 _ _ _ (hP.sub [0, 3, 4, 5, 6, 7, 8, 1, 2] rfl) (hD.sub [0, 3, 4, 5, 6, 7, 8, 1, 2] (by decide) rfl) hS (lv_sub hl [2, 3, 4, 5, 6, 7, 0, 8] rfl)
                  · have hF := gi_neg hF cc
                    refine lv_aload_n hx hb dX3_grow_174 rfl (lv_at hl 2 rfl) ?_
                    refine lv_iload hx hb dX3_grow_175 (lv_at hl 8 rfl) ?_
                    obtain ⟨q_177, hc, hF⟩ := gb_some hF
                    refine gcVi (ci := 1) (As := [.int x10_149]) (rest := []) (pre := [gO h_p1 1 [.int v_p1_size, .ref h_p1_words, .ref h_p1_values], gA h_p1_words cI 48 c_p1_words]) (post := [gO h_p1 1 [.int v_p1_size, .ref h_p1_words, .ref h_p1_values], gA h_p1_words cI 48 c_p1_words]) (wr := [gO h_t 3 [.int v_t_size_149, .ref h_t_paths, .ref h_t_children, .ref h_t_prefixes, .ref h_t_depths, .ref h_t_froms, .ref h_t_tills], gA h_t_paths cI 48 c_t_paths_149, gA h_t_prefixes cI 48 c_t_prefixes_149, gA h_t_depths cI 48 c_t_depths_149, gA h_t_froms cI 48 c_t_froms_149, gA h_t_tills cI 48 c_t_tills_149, gA h_t_children cI 48 c_t_children_149]) ⟨hx, hb, hml, hown, hts⟩ (kX1_word l D cI cZ cD cG h_p1 v_p1_size h_p1_words h_p1_values c_p1_words x10_149 q_177 hc) (cwV 1 hts gX3_grow_X1_word rfl rfl rfl (by decide +kernel) ⟨by simp only [rmX3_grow, rmX1_word]; omega, by simp only [rmX3_grow, rmX1_word]; omega⟩) hK hP hD hS hA [7, 8] [0, 1, 2, 3, 4, 5, 6] rfl rfl (by decide) (by decide) (by decide) 0 rfl rfl rfl hl.1 rfl (Nat.le_of_ble_eq_true rfl) dX3_grow_177 ⟨Nat.zero_le _, Nat.zero_le _⟩ (fun H locs hP hD hS => ?_)
                    have hP : va_P D vwCl [gO h_t 3 [.int v_t_size_149, .ref h_t_paths, .ref h_t_children, .ref h_t_prefixes, .ref h_t_depths, .ref h_t_froms, .ref h_t_tills], gA h_t_paths cI 48 c_t_paths_149, gA h_t_prefixes cI 48 c_t_prefixes_149, gA h_t_depths cI 48 c_t_depths_149, gA h_t_froms cI 48 c_t_froms_149, gA h_t_tills cI 48 c_t_tills_149, gA h_t_children cI 48 c_t_children_149, gO h_p1 1 [.int v_p1_size, .ref h_p1_words, .ref h_p1_values], gA h_p1_words cI 48 c_p1_words] H := hP
                    have hD : va_D A [gO h_t 3 [.int v_t_size_149, .ref h_t_paths, .ref h_t_children, .ref h_t_prefixes, .ref h_t_depths, .ref h_t_froms, .ref h_t_tills], gA h_t_paths cI 48 c_t_paths_149, gA h_t_prefixes cI 48 c_t_prefixes_149, gA h_t_depths cI 48 c_t_depths_149, gA h_t_froms cI 48 c_t_froms_149, gA h_t_tills cI 48 c_t_tills_149, gA h_t_children cI 48 c_t_children_149, gO h_p1 1 [.int v_p1_size, .ref h_p1_words, .ref h_p1_values], gA h_p1_words cI 48 c_p1_words] := hD
                    refine lv_iload hx hb dX3_grow_180 (lv_at hl 5 rfl) ?_
                    obtain ⟨q_182, hc, hF⟩ := gb_some hF
                    refine gcSi (As := [.int q_177, .int q_40]) (rest := []) (pre := []) (post := []) (wr := [gO h_t 3 [.int v_t_size_149, .ref h_t_paths, .ref h_t_children, .ref h_t_prefixes, .ref h_t_depths, .ref h_t_froms, .ref h_t_tills], gA h_t_paths cI 48 c_t_paths_149, gA h_t_prefixes cI 48 c_t_prefixes_149, gA h_t_depths cI 48 c_t_depths_149, gA h_t_froms cI 48 c_t_froms_149, gA h_t_tills cI 48 c_t_tills_149, gA h_t_children cI 48 c_t_children_149, gO h_p1 1 [.int v_p1_size, .ref h_p1_words, .ref h_p1_values], gA h_p1_words cI 48 c_p1_words]) ⟨hx, hb, hml, hown, hts⟩ (kX6_figure l D cI cZ cD cG q_177 q_40 q_182 hc) (va_cwS 2 hts gX3_grow_X6_figure rfl rfl rfl (by decide +kernel) ⟨by simp only [rmX3_grow, rmX6_figure]; omega, by simp only [rmX3_grow, rmX6_figure]; omega⟩) hK hP hD hS hA [] [0, 1, 2, 3, 4, 5, 6, 7, 8] rfl rfl (by decide) (by decide) (by decide) rfl hl.1 rfl (Nat.le_of_ble_eq_true rfl) dX3_grow_182 ⟨Nat.zero_le _, Nat.zero_le _⟩ (fun H locs hP hD hS => ?_)
                    have hP : va_P D vwCl [gO h_t 3 [.int v_t_size_149, .ref h_t_paths, .ref h_t_children, .ref h_t_prefixes, .ref h_t_depths, .ref h_t_froms, .ref h_t_tills], gA h_t_paths cI 48 c_t_paths_149, gA h_t_prefixes cI 48 c_t_prefixes_149, gA h_t_depths cI 48 c_t_depths_149, gA h_t_froms cI 48 c_t_froms_149, gA h_t_tills cI 48 c_t_tills_149, gA h_t_children cI 48 c_t_children_149, gO h_p1 1 [.int v_p1_size, .ref h_p1_words, .ref h_p1_values], gA h_p1_words cI 48 c_p1_words] H := hP
                    have hD : va_D A [gO h_t 3 [.int v_t_size_149, .ref h_t_paths, .ref h_t_children, .ref h_t_prefixes, .ref h_t_depths, .ref h_t_froms, .ref h_t_tills], gA h_t_paths cI 48 c_t_paths_149, gA h_t_prefixes cI 48 c_t_prefixes_149, gA h_t_depths cI 48 c_t_depths_149, gA h_t_froms cI 48 c_t_froms_149, gA h_t_tills cI 48 c_t_tills_149, gA h_t_children cI 48 c_t_children_149, gO h_p1 1 [.int v_p1_size, .ref h_p1_words, .ref h_p1_values], gA h_p1_words cI 48 c_p1_words] := hD
                    refine lv_iload hx hb dX3_grow_185 (lv_at hl 0 rfl) ?_
                    refine lv_icmp_eq (tgt := 223) hx hb dX3_grow_187 (by decide) (fun cc => ?_) (fun cc => ?_)
                    · have hF := gi_pos hF cc
                      obtain rfl := Option.some.inj hF
                      exact Jn_223 _ _ _ hP hD hS (lv_sub hl [1, 2, 3, 4, 5, 6, 7, 8] rfl)
                    · have hF := gi_neg hF cc
                      refine lv_aload_n hx hb dX3_grow_190 rfl (lv_at hl 1 rfl) ?_
                      refine va_get (D := D) (ci := 3) (v := .ref h_t_children) (C := RX3) (T := TX3) (N := 7) hx hb hts hinX3 hown hK hP 0 rfl rfl 2 (by decide) hw7 (fun _ h9 => h9) rfl dX3_grow_191 ?_
                      refine lv_iload hx hb dX3_grow_194 (lv_at hl 6 rfl) ?_
                      refine lv_dup2_11 hx hb dX3_grow_196 rfl rfl ?_
                      obtain ⟨hin, hF⟩ := gx_some hF
                      refine va_iald hx hb hK hP 6 0 rfl rfl hin dX3_grow_197 ?_
                      refine lv_iconst (v := 1) hx hb dX3_grow_198 (by decide) ?_
                      refine lv_iload hx hb dX3_grow_199 (lv_at hl 0 rfl) ?_
                      refine lv_ishl hx hb dX3_grow_201 ?_
                      refine lv_ior hx hb dX3_grow_202 ?_
                      obtain ⟨hin, hF⟩ := gx_some hF
                      refine va_iast hx hb hK hP hD hS 6 0 rfl rfl hin dX3_grow_203 (fun H locs hP hD hS => ?_)
                      have hP : va_P D vwCl [gO h_t 3 [.int v_t_size_149, .ref h_t_paths, .ref h_t_children, .ref h_t_prefixes, .ref h_t_depths, .ref h_t_froms, .ref h_t_tills], gA h_t_paths cI 48 c_t_paths_149, gA h_t_prefixes cI 48 c_t_prefixes_149, gA h_t_depths cI 48 c_t_depths_149, gA h_t_froms cI 48 c_t_froms_149, gA h_t_tills cI 48 c_t_tills_149, gA h_t_children cI 48 (upd c_t_children_149 (v_t_size).toNatClampNeg ((c_t_children_149 (v_t_size).toNatClampNeg) ||| ((1 : Int32) <<< (q_163 &&& 31)))), gO h_p1 1 [.int v_p1_size, .ref h_p1_words, .ref h_p1_values], gA h_p1_words cI 48 c_p1_words] H := hP
                      have hD : va_D A [gO h_t 3 [.int v_t_size_149, .ref h_t_paths, .ref h_t_children, .ref h_t_prefixes, .ref h_t_depths, .ref h_t_froms, .ref h_t_tills], gA h_t_paths cI 48 c_t_paths_149, gA h_t_prefixes cI 48 c_t_prefixes_149, gA h_t_depths cI 48 c_t_depths_149, gA h_t_froms cI 48 c_t_froms_149, gA h_t_tills cI 48 c_t_tills_149, gA h_t_children cI 48 (upd c_t_children_149 (v_t_size).toNatClampNeg ((c_t_children_149 (v_t_size).toNatClampNeg) ||| ((1 : Int32) <<< (q_163 &&& 31)))), gO h_p1 1 [.int v_p1_size, .ref h_p1_words, .ref h_p1_values], gA h_p1_words cI 48 c_p1_words] := hD
                      refine lv_aload_n hx hb dX3_grow_204 rfl (lv_at hl 1 rfl) ?_
                      refine lv_aload_n hx hb dX3_grow_205 rfl (lv_at hl 2 rfl) ?_
                      refine lv_iload hx hb dX3_grow_206 (lv_at hl 7 rfl) ?_
                      refine lv_iload hx hb dX3_grow_208 (lv_at hl 8 rfl) ?_
                      refine lv_iload hx hb dX3_grow_210 (lv_at hl 5 rfl) ?_
                      refine lv_iload hx hb dX3_grow_212 (lv_at hl 4 rfl) ?_
                      refine lv_iconst (v := 1) hx hb dX3_grow_214 (by decide) ?_
                      refine lv_iadd hx hb dX3_grow_215 ?_
                      obtain ⟨q_216_a, hc, hF⟩ := gb_some hF
                      refine gcVv (ci := 3) (As := [.ref h_p1, .int x9_149, .int x10_149, .int q_40, .int (x5 + (1 : Int32))]) (rest := []) (pre := [gO h_t 3 [.int v_t_size_149, .ref h_t_paths, .ref h_t_children, .ref h_t_prefixes, .ref h_t_depths, .ref h_t_froms, .ref h_t_tills], gO h_p1 1 [.int v_p1_size, .ref h_p1_words, .ref h_p1_values], gA h_p1_words cI 48 c_p1_words, gA h_t_paths cI 48 c_t_paths_149, gA h_t_prefixes cI 48 c_t_prefixes_149, gA h_t_depths cI 48 c_t_depths_149, gA h_t_froms cI 48 c_t_froms_149, gA h_t_tills cI 48 c_t_tills_149, gA h_t_children cI 48 (upd c_t_children_149 (v_t_size).toNatClampNeg ((c_t_children_149 (v_t_size).toNatClampNeg) ||| ((1 : Int32) <<< (q_163 &&& 31))))]) (post := [gO h_t 3 [.int q_216_a.1, .ref h_t_paths, .ref h_t_children, .ref h_t_prefixes, .ref h_t_depths, .ref h_t_froms, .ref h_t_tills], gO h_p1 1 [.int v_p1_size, .ref h_p1_words, .ref h_p1_values], gA h_p1_words cI 48 c_p1_words, gA h_t_paths cI 48 q_216_a.2.1, gA h_t_prefixes cI 48 q_216_a.2.2.1, gA h_t_depths cI 48 q_216_a.2.2.2.1, gA h_t_froms cI 48 q_216_a.2.2.2.2.1, gA h_t_tills cI 48 q_216_a.2.2.2.2.2.1, gA h_t_children cI 48 q_216_a.2.2.2.2.2.2]) (wr := []) ⟨hx, hb, hml, hown, hts⟩ (ihd h_t h_p1 v_t_size_149 h_t_paths h_t_children h_t_prefixes h_t_depths h_t_froms h_t_tills v_p1_size h_p1_words h_p1_values c_p1_words c_t_paths_149 c_t_prefixes_149 c_t_depths_149 c_t_froms_149 c_t_tills_149 (upd c_t_children_149 (v_t_size).toNatClampNeg ((c_t_children_149 (v_t_size).toNatClampNeg) ||| ((1 : Int32) <<< (q_163 &&& 31)))) x9_149 x10_149 q_40 (x5 + (1 : Int32)) q_216_a hc) (cwV 5 hts gX3_grow_X3_grow rfl rfl rfl (by decide +kernel) ⟨by simp only [rmX3_grow, rmX3_grow]; omega, by simp only [rmX3_grow, rmX3_grow]; omega⟩) hK hP hD hS hA [0, 7, 8, 1, 2, 3, 4, 5, 6] [] rfl rfl (by decide) (by decide) (by decide) 0 rfl rfl rfl hl.1 rfl (Nat.le_of_ble_eq_true rfl) dX3_grow_216 ⟨Nat.zero_le _, Nat.zero_le _⟩ (fun H locs hP hD hS => ?_)
                      have hP : va_P D vwCl [gO h_t 3 [.int q_216_a.1, .ref h_t_paths, .ref h_t_children, .ref h_t_prefixes, .ref h_t_depths, .ref h_t_froms, .ref h_t_tills], gO h_p1 1 [.int v_p1_size, .ref h_p1_words, .ref h_p1_values], gA h_p1_words cI 48 c_p1_words, gA h_t_paths cI 48 q_216_a.2.1, gA h_t_prefixes cI 48 q_216_a.2.2.1, gA h_t_depths cI 48 q_216_a.2.2.2.1, gA h_t_froms cI 48 q_216_a.2.2.2.2.1, gA h_t_tills cI 48 q_216_a.2.2.2.2.2.1, gA h_t_children cI 48 q_216_a.2.2.2.2.2.2] H := hP
                      have hD : va_D A [gO h_t 3 [.int q_216_a.1, .ref h_t_paths, .ref h_t_children, .ref h_t_prefixes, .ref h_t_depths, .ref h_t_froms, .ref h_t_tills], gO h_p1 1 [.int v_p1_size, .ref h_p1_words, .ref h_p1_values], gA h_p1_words cI 48 c_p1_words, gA h_t_paths cI 48 q_216_a.2.1, gA h_t_prefixes cI 48 q_216_a.2.2.1, gA h_t_depths cI 48 q_216_a.2.2.2.1, gA h_t_froms cI 48 q_216_a.2.2.2.2.1, gA h_t_tills cI 48 q_216_a.2.2.2.2.2.1, gA h_t_children cI 48 q_216_a.2.2.2.2.2.2] := hD
                      refine lv_iload hx hb dX3_grow_219 (lv_at hl 8 rfl) ?_
                      refine lv_istore (lv' := [(9, .int x10_149), (11, .int q_163), (0, .ref h_t), (1, .ref h_p1), (3, .int x3), (5, .int x5), (7, .int q_40), (8, .int v_t_size), (10, .int x10_149)]) hx hb dX3_grow_221 hl (by decide) rfl (fun ls hl => ?_)
                      obtain rfl := Option.some.inj hF
                      exact Jn_223 _ _ _ (hP.sub [0, 3, 4, 5, 6, 7, 8, 1, 2] rfl) (hD.sub [0, 3, 4, 5, 6, 7, 8, 1, 2] (by decide) rfl) hS (lv_sub hl [2, 3, 4, 5, 6, 7, 0, 8] rfl)
            exact Ln_149 gF q_141 x10_147 f_58 (upd c_t_paths (v_t_size).toNatClampNeg q_71) (upd c_t_prefixes (v_t_size).toNatClampNeg ((q_40 - x4) - (1 : Int32))) (upd c_t_depths (v_t_size).toNatClampNeg (x5 + (1 : Int32))) (upd c_t_froms (v_t_size).toNatClampNeg x2) (upd c_t_tills (v_t_size).toNatClampNeg x3) (upd c_t_children (v_t_size).toNatClampNeg (0 : Int32)) _ _ _ hR hP hD hS (lv_sub hl [2, 3, 4, 5, 6, 7, 1, 0] rfl)
          clear hF
          have hF := hR
          refine lv_icmp_ne (tgt := 140) hx hb dX3_grow_131 (by decide) (fun cc => ?_) (fun cc => ?_)
          · have hF := gi_neg hF cc
            refine lv_iload_n hx hb dX3_grow_140 rfl (lv_at hl 5 rfl) ?_
            obtain rfl := Option.some.inj hF
            exact Jn_141 _ _ _ hP hD hS (lv_sub hl [3, 4, 6, 8, 1, 0] rfl)
          · have hF := gi_pos hF cc
            refine lv_iload_n hx hb dX3_grow_134 rfl (lv_at hl 5 rfl) ?_
            refine lv_iconst (v := 1) hx hb dX3_grow_135 (by decide) ?_
            refine lv_iadd hx hb dX3_grow_136 ?_
            refine lv_goto (tgt := 141) hx hb dX3_grow_137 (by decide) ?_
            obtain rfl := Option.some.inj hF
            exact Jn_141 _ _ _ hP hD hS (lv_sub hl [3, 4, 6, 8, 1, 0] rfl)
        · have hF := gi_neg hF cc
          obtain rfl := Option.some.inj hF
          exact hQ _ _ _ _ hP hD hS dX3_grow_23

abbrev rmX3_build : Room := { frames := 10, cells := 0, slots := 0, locals := 292 }
def fX3_build (v_p1_size : Int32) (c_p1_words : Nat → Int32) (c_t_paths : Nat → Int32) (c_t_prefixes : Nat → Int32) (c_t_depths : Nat → Int32) (c_t_froms : Nat → Int32) (c_t_tills : Nat → Int32) (c_t_children : Nat → Int32) : Option (Int32 × (Nat → Int32) × (Nat → Int32) × (Nat → Int32) × (Nat → Int32) × (Nat → Int32) × (Nat → Int32)) := (Option.bind (fX3_grow 7 (0 : Int32) v_p1_size (-1 : Int32) (0 : Int32) (0 : Int32) v_p1_size c_p1_words c_t_paths c_t_prefixes c_t_depths c_t_froms c_t_tills c_t_children) (fun q_14 => (some (q_14.1, q_14.2.1, q_14.2.2.1, q_14.2.2.2.1, q_14.2.2.2.2.1, q_14.2.2.2.2.2.1, q_14.2.2.2.2.2.2))))
set_option maxHeartbeats 4000000 in
set_option maxRecDepth 100000 in
theorem kX3_build (l : Launch) (D : va_G) (cI cZ cD cG : ClassId) (h_t : Nat) (h_p1 : Nat) (v_t_size : Int32) (h_t_paths : Nat) (h_t_children : Nat) (h_t_prefixes : Nat) (h_t_depths : Nat) (h_t_froms : Nat) (h_t_tills : Nat) (v_p1_size : Int32) (h_p1_words : Nat) (h_p1_values : Nat) (c_p1_words : Nat → Int32) (c_t_paths : Nat → Int32) (c_t_prefixes : Nat → Int32) (c_t_depths : Nat → Int32) (c_t_froms : Nat → Int32) (c_t_tills : Nat → Int32) (c_t_children : Nat → Int32) (res : Int32 × (Nat → Int32) × (Nat → Int32) × (Nat → Int32) × (Nat → Int32) × (Nat → Int32) × (Nat → Int32)) (hF : fX3_build v_p1_size c_p1_words c_t_paths c_t_prefixes c_t_depths c_t_froms c_t_tills c_t_children = some res) : gMv l D (gty cI cZ cD cG) yX3_build wsX3_build rmX3_build [.ref h_t, .ref h_p1] [gO h_t 3 [.int v_t_size, .ref h_t_paths, .ref h_t_children, .ref h_t_prefixes, .ref h_t_depths, .ref h_t_froms, .ref h_t_tills], gO h_p1 1 [.int v_p1_size, .ref h_p1_words, .ref h_p1_values], gA h_p1_words cI 48 c_p1_words, gA h_t_paths cI 48 c_t_paths, gA h_t_prefixes cI 48 c_t_prefixes, gA h_t_depths cI 48 c_t_depths, gA h_t_froms cI 48 c_t_froms, gA h_t_tills cI 48 c_t_tills, gA h_t_children cI 48 c_t_children] [gO h_t 3 [.int res.1, .ref h_t_paths, .ref h_t_children, .ref h_t_prefixes, .ref h_t_depths, .ref h_t_froms, .ref h_t_tills], gO h_p1 1 [.int v_p1_size, .ref h_p1_words, .ref h_p1_values], gA h_p1_words cI 48 c_p1_words, gA h_t_paths cI 48 res.2.1, gA h_t_prefixes cI 48 res.2.2.1, gA h_t_depths cI 48 res.2.2.2.1, gA h_t_froms cI 48 res.2.2.2.2.1, gA h_t_tills cI 48 res.2.2.2.2.2.1, gA h_t_children cI 48 res.2.2.2.2.2.2] := by
  refine gMv.of (cc := cX3_build) (maxL := 2) (by decide) rfl (Nat.le_of_ble_eq_true rfl) ?_
  intro p e s m args below meth c A ls Q hx hb hts hown hml hK hA hP hD hS hQ hl
  have hown : s.vm.findClass RX3 = some m.cls := hown
  have hl : lv_has ls 2 [(0, .ref h_t), (1, .ref h_p1)] := hl
  have hw0 := hts (.fieldLink RX3 9 "NibbleTrunk$Nodes" "size" "I") (by decide +kernel)
  have hinX3 : ∀ w ∈ wsX30, w ∈ wsX3_build := by decide +kernel
  have hw2 := hts (.fieldLink RX3 34 "NibbleTrunk$Keys" "size" "I") (by decide +kernel)
  have hinX1 : ∀ w ∈ wsX10, w ∈ wsX3_build := by decide +kernel
  rw [fX3_build] at hF
  refine lv_aload_n hx hb dX3_build_0 rfl (lv_at hl 0 rfl) ?_
  refine lv_iconst (v := 0) hx hb dX3_build_1 (by decide) ?_
  refine va_put (D := D) (ci := 3) (v := .int (0 : Int32)) (ty := .int) (C := RX3) (T := TX3) (N := 7) hx hb hts hinX3 tyX3 tyX3_ok nmX3 hown hK hP hD hS 0 rfl rfl 0 (by decide) hw0 (fun _ h9 => h9) rfl (by decide +kernel) rfl rfl (Nat.le_of_ble_eq_true rfl) dX3_build_2 (fun H locs hP hD hS => ?_)
  have hP : va_P D vwCl [gO h_t 3 [.int (0 : Int32), .ref h_t_paths, .ref h_t_children, .ref h_t_prefixes, .ref h_t_depths, .ref h_t_froms, .ref h_t_tills], gO h_p1 1 [.int v_p1_size, .ref h_p1_words, .ref h_p1_values], gA h_p1_words cI 48 c_p1_words, gA h_t_paths cI 48 c_t_paths, gA h_t_prefixes cI 48 c_t_prefixes, gA h_t_depths cI 48 c_t_depths, gA h_t_froms cI 48 c_t_froms, gA h_t_tills cI 48 c_t_tills, gA h_t_children cI 48 c_t_children] H := hP
  have hD : va_D A [gO h_t 3 [.int (0 : Int32), .ref h_t_paths, .ref h_t_children, .ref h_t_prefixes, .ref h_t_depths, .ref h_t_froms, .ref h_t_tills], gO h_p1 1 [.int v_p1_size, .ref h_p1_words, .ref h_p1_values], gA h_p1_words cI 48 c_p1_words, gA h_t_paths cI 48 c_t_paths, gA h_t_prefixes cI 48 c_t_prefixes, gA h_t_depths cI 48 c_t_depths, gA h_t_froms cI 48 c_t_froms, gA h_t_tills cI 48 c_t_tills, gA h_t_children cI 48 c_t_children] := hD
  refine lv_aload_n hx hb dX3_build_5 rfl (lv_at hl 0 rfl) ?_
  refine lv_aload_n hx hb dX3_build_6 rfl (lv_at hl 1 rfl) ?_
  refine lv_iconst (v := 0) hx hb dX3_build_7 (by decide) ?_
  refine lv_aload_n hx hb dX3_build_8 rfl (lv_at hl 1 rfl) ?_
  refine va_get (D := D) (ci := 1) (v := .int v_p1_size) (C := RX1) (T := TX1) (N := 3) hx hb hts hinX1 hown hK hP 1 rfl rfl 0 (by decide) hw2 (fun _ h9 => h9) rfl dX3_build_9 ?_
  refine lv_iconst (v := (-1)) hx hb dX3_build_12 (by decide) ?_
  refine lv_iconst (v := 0) hx hb dX3_build_13 (by decide) ?_
  obtain ⟨q_14, hc, hF⟩ := gb_some hF
  refine gcVv (ci := 3) (As := [.ref h_p1, .int (0 : Int32), .int v_p1_size, .int (-1 : Int32), .int (0 : Int32)]) (rest := []) (pre := [gO h_t 3 [.int (0 : Int32), .ref h_t_paths, .ref h_t_children, .ref h_t_prefixes, .ref h_t_depths, .ref h_t_froms, .ref h_t_tills], gO h_p1 1 [.int v_p1_size, .ref h_p1_words, .ref h_p1_values], gA h_p1_words cI 48 c_p1_words, gA h_t_paths cI 48 c_t_paths, gA h_t_prefixes cI 48 c_t_prefixes, gA h_t_depths cI 48 c_t_depths, gA h_t_froms cI 48 c_t_froms, gA h_t_tills cI 48 c_t_tills, gA h_t_children cI 48 c_t_children]) (post := [gO h_t 3 [.int q_14.1, .ref h_t_paths, .ref h_t_children, .ref h_t_prefixes, .ref h_t_depths, .ref h_t_froms, .ref h_t_tills], gO h_p1 1 [.int v_p1_size, .ref h_p1_words, .ref h_p1_values], gA h_p1_words cI 48 c_p1_words, gA h_t_paths cI 48 q_14.2.1, gA h_t_prefixes cI 48 q_14.2.2.1, gA h_t_depths cI 48 q_14.2.2.2.1, gA h_t_froms cI 48 q_14.2.2.2.2.1, gA h_t_tills cI 48 q_14.2.2.2.2.2.1, gA h_t_children cI 48 q_14.2.2.2.2.2.2]) (wr := []) ⟨hx, hb, hml, hown, hts⟩ (kX3_grow l D cI cZ cD cG 7 h_t h_p1 (0 : Int32) h_t_paths h_t_children h_t_prefixes h_t_depths h_t_froms h_t_tills v_p1_size h_p1_words h_p1_values c_p1_words c_t_paths c_t_prefixes c_t_depths c_t_froms c_t_tills c_t_children (0 : Int32) v_p1_size (-1 : Int32) (0 : Int32) q_14 hc) (cwV 5 hts gX3_build_X3_grow rfl rfl rfl (by decide +kernel) ⟨Nat.le_of_ble_eq_true rfl, Nat.le_of_ble_eq_true rfl⟩) hK hP hD hS hA [0, 1, 2, 3, 4, 5, 6, 7, 8] [] rfl rfl (by decide) (by decide) (by decide) 0 rfl rfl rfl hl.1 rfl (Nat.le_of_ble_eq_true rfl) dX3_build_14 ⟨Nat.zero_le _, Nat.zero_le _⟩ (fun H locs hP hD hS => ?_)
  have hP : va_P D vwCl [gO h_t 3 [.int q_14.1, .ref h_t_paths, .ref h_t_children, .ref h_t_prefixes, .ref h_t_depths, .ref h_t_froms, .ref h_t_tills], gO h_p1 1 [.int v_p1_size, .ref h_p1_words, .ref h_p1_values], gA h_p1_words cI 48 c_p1_words, gA h_t_paths cI 48 q_14.2.1, gA h_t_prefixes cI 48 q_14.2.2.1, gA h_t_depths cI 48 q_14.2.2.2.1, gA h_t_froms cI 48 q_14.2.2.2.2.1, gA h_t_tills cI 48 q_14.2.2.2.2.2.1, gA h_t_children cI 48 q_14.2.2.2.2.2.2] H := hP
  have hD : va_D A [gO h_t 3 [.int q_14.1, .ref h_t_paths, .ref h_t_children, .ref h_t_prefixes, .ref h_t_depths, .ref h_t_froms, .ref h_t_tills], gO h_p1 1 [.int v_p1_size, .ref h_p1_words, .ref h_p1_values], gA h_p1_words cI 48 c_p1_words, gA h_t_paths cI 48 q_14.2.1, gA h_t_prefixes cI 48 q_14.2.2.1, gA h_t_depths cI 48 q_14.2.2.2.1, gA h_t_froms cI 48 q_14.2.2.2.2.1, gA h_t_tills cI 48 q_14.2.2.2.2.2.1, gA h_t_children cI 48 q_14.2.2.2.2.2.2] := hD
  obtain rfl := Option.some.inj hF
  exact hQ _ _ _ _ hP hD hS dX3_build_17

abbrev rmX3_placesFor : Room := { frames := 0, cells := 0, slots := 0, locals := 0 }
def fX3_placesFor (x0 : Int32) : Option (Int32) := (if (2 : Int32) < x0 then (if (4 : Int32) < x0 then (if (8 : Int32) < x0 then (some (16 : Int32)) else (some (8 : Int32))) else (some (4 : Int32))) else (some (2 : Int32)))
set_option maxHeartbeats 4000000 in
set_option maxRecDepth 100000 in
theorem kX3_placesFor (l : Launch) (D : va_G) (cI cZ cD cG : ClassId) (x0 : Int32) (res : Int32) (hF : fX3_placesFor x0 = some res) : gMi l D (gty cI cZ cD cG) yX3_placesFor wsX3_placesFor rmX3_placesFor [.int x0] [] res [] := by
  refine gMi.of (cc := cX3_placesFor) (maxL := 1) (by decide) rfl (Nat.le_of_ble_eq_true rfl) ?_
  intro p e s m args below meth c A ls Q hx hb hts hown hml hK hA hP hD hS hQ hl
  have hown : s.vm.findClass RX3 = some m.cls := hown
  have hl : lv_has ls 1 [(0, .int x0)] := hl
  rw [fX3_placesFor] at hF
  refine lv_iload_n hx hb dX3_placesFor_0 rfl (lv_at hl 0 rfl) ?_
  refine lv_iconst (v := 2) hx hb dX3_placesFor_1 (by decide) ?_
  refine lv_icmp_gt (tgt := 7) hx hb dX3_placesFor_2 (by decide) (fun cc => ?_) (fun cc => ?_)
  · have hF := gi_pos hF cc
    refine lv_iload_n hx hb dX3_placesFor_7 rfl (lv_at hl 0 rfl) ?_
    refine lv_iconst (v := 4) hx hb dX3_placesFor_8 (by decide) ?_
    refine lv_icmp_gt (tgt := 16) hx hb dX3_placesFor_9 (by decide) (fun cc => ?_) (fun cc => ?_)
    · have hF := gi_pos hF cc
      refine lv_iload_n hx hb dX3_placesFor_16 rfl (lv_at hl 0 rfl) ?_
      refine lv_bipush (v := 8) hx hb dX3_placesFor_17 (by decide) ?_
      refine lv_icmp_gt (tgt := 27) hx hb dX3_placesFor_19 (by decide) (fun cc => ?_) (fun cc => ?_)
      · have hF := gi_pos hF cc
        refine lv_bipush (v := 16) hx hb dX3_placesFor_27 (by decide) ?_
        obtain rfl := Option.some.inj hF
        exact hQ _ _ _ _ _ hP hD hS rfl dX3_placesFor_29
      · have hF := gi_neg hF cc
        refine lv_bipush (v := 8) hx hb dX3_placesFor_22 (by decide) ?_
        refine lv_goto (tgt := 29) hx hb dX3_placesFor_24 (by decide) ?_
        obtain rfl := Option.some.inj hF
        exact hQ _ _ _ _ _ hP hD hS rfl dX3_placesFor_29
    · have hF := gi_neg hF cc
      refine lv_iconst (v := 4) hx hb dX3_placesFor_12 (by decide) ?_
      refine lv_goto (tgt := 29) hx hb dX3_placesFor_13 (by decide) ?_
      obtain rfl := Option.some.inj hF
      exact hQ _ _ _ _ _ hP hD hS rfl dX3_placesFor_29
  · have hF := gi_neg hF cc
    refine lv_iconst (v := 2) hx hb dX3_placesFor_5 (by decide) ?_
    obtain rfl := Option.some.inj hF
    exact hQ _ _ _ _ _ hP hD hS rfl dX3_placesFor_6

abbrev rmX3_isOfSize : Room := { frames := 0, cells := 0, slots := 0, locals := 0 }
def fX3_isOfSize (x0 : Int32) (x1 : Int32) : Option (Int32) := (if x0 = x1 then (some (1 : Int32)) else (if x0 = (2 : Int32) then (if x1 = (1 : Int32) then (some (1 : Int32)) else (if x0 = (4 : Int32) then (if x1 = (3 : Int32) then (some (1 : Int32)) else (some (0 : Int32))) else (some (0 : Int32)))) else (if x0 = (4 : Int32) then (if x1 = (3 : Int32) then (some (1 : Int32)) else (some (0 : Int32))) else (some (0 : Int32)))))
set_option maxHeartbeats 4000000 in
set_option maxRecDepth 100000 in
theorem kX3_isOfSize (l : Launch) (D : va_G) (cI cZ cD cG : ClassId) (x0 : Int32) (x1 : Int32) (res : Int32) (hF : fX3_isOfSize x0 x1 = some res) : gMz l D (gty cI cZ cD cG) yX3_isOfSize wsX3_isOfSize rmX3_isOfSize [.int x0, .int x1] [] res [] := by
  refine gMz.of (cc := cX3_isOfSize) (maxL := 2) (by decide) rfl (Nat.le_of_ble_eq_true rfl) ?_
  intro p e s m args below meth c A ls Q hx hb hts hown hml hK hA hP hD hS hQ hl
  have hown : s.vm.findClass RX3 = some m.cls := hown
  have hl : lv_has ls 2 [(0, .int x0), (1, .int x1)] := hl
  rw [fX3_isOfSize] at hF
  refine lv_iload_n hx hb dX3_isOfSize_0 rfl (lv_at hl 0 rfl) ?_
  refine lv_iload_n hx hb dX3_isOfSize_1 rfl (lv_at hl 1 rfl) ?_
  refine lv_icmp_eq (tgt := 25) hx hb dX3_isOfSize_2 (by decide) (fun cc => ?_) (fun cc => ?_)
  · have hF := gi_pos hF cc
    refine lv_iconst (v := 1) hx hb dX3_isOfSize_25 (by decide) ?_
    refine lv_goto (tgt := 30) hx hb dX3_isOfSize_26 (by decide) ?_
    obtain rfl := Option.some.inj hF
    exact hQ _ _ _ _ _ hP hD hS rfl rfl dX3_isOfSize_30
  · have hF := gi_neg hF cc
    refine lv_iload_n hx hb dX3_isOfSize_5 rfl (lv_at hl 0 rfl) ?_
    refine lv_iconst (v := 2) hx hb dX3_isOfSize_6 (by decide) ?_
    refine lv_icmp_ne (tgt := 15) hx hb dX3_isOfSize_7 (by decide) (fun cc => ?_) (fun cc => ?_)
    · have hF := gi_neg hF cc
      refine lv_iload_n hx hb dX3_isOfSize_15 rfl (lv_at hl 0 rfl) ?_
      refine lv_iconst (v := 4) hx hb dX3_isOfSize_16 (by decide) ?_
      refine lv_icmp_ne (tgt := 29) hx hb dX3_isOfSize_17 (by decide) (fun cc => ?_) (fun cc => ?_)
      · have hF := gi_neg hF cc
        refine lv_iconst (v := 0) hx hb dX3_isOfSize_29 (by decide) ?_
        obtain rfl := Option.some.inj hF
        exact hQ _ _ _ _ _ hP hD hS rfl rfl dX3_isOfSize_30
      · have hF := gi_pos hF cc
        refine lv_iload_n hx hb dX3_isOfSize_20 rfl (lv_at hl 1 rfl) ?_
        refine lv_iconst (v := 3) hx hb dX3_isOfSize_21 (by decide) ?_
        refine lv_icmp_ne (tgt := 29) hx hb dX3_isOfSize_22 (by decide) (fun cc => ?_) (fun cc => ?_)
        · have hF := gi_neg hF cc
          refine lv_iconst (v := 0) hx hb dX3_isOfSize_29 (by decide) ?_
          obtain rfl := Option.some.inj hF
          exact hQ _ _ _ _ _ hP hD hS rfl rfl dX3_isOfSize_30
        · have hF := gi_pos hF cc
          refine lv_iconst (v := 1) hx hb dX3_isOfSize_25 (by decide) ?_
          refine lv_goto (tgt := 30) hx hb dX3_isOfSize_26 (by decide) ?_
          obtain rfl := Option.some.inj hF
          exact hQ _ _ _ _ _ hP hD hS rfl rfl dX3_isOfSize_30
    · have hF := gi_pos hF cc
      refine lv_iload_n hx hb dX3_isOfSize_10 rfl (lv_at hl 1 rfl) ?_
      refine lv_iconst (v := 1) hx hb dX3_isOfSize_11 (by decide) ?_
      refine lv_icmp_eq (tgt := 25) hx hb dX3_isOfSize_12 (by decide) (fun cc => ?_) (fun cc => ?_)
      · have hF := gi_pos hF cc
        refine lv_iconst (v := 1) hx hb dX3_isOfSize_25 (by decide) ?_
        refine lv_goto (tgt := 30) hx hb dX3_isOfSize_26 (by decide) ?_
        obtain rfl := Option.some.inj hF
        exact hQ _ _ _ _ _ hP hD hS rfl rfl dX3_isOfSize_30
      · have hF := gi_neg hF cc
        refine lv_iload_n hx hb dX3_isOfSize_15 rfl (lv_at hl 0 rfl) ?_
        refine lv_iconst (v := 4) hx hb dX3_isOfSize_16 (by decide) ?_
        refine lv_icmp_ne (tgt := 29) hx hb dX3_isOfSize_17 (by decide) (fun cc => ?_) (fun cc => ?_)
        · have hF := gi_neg hF cc
          refine lv_iconst (v := 0) hx hb dX3_isOfSize_29 (by decide) ?_
          obtain rfl := Option.some.inj hF
          exact hQ _ _ _ _ _ hP hD hS rfl rfl dX3_isOfSize_30
        · have hF := gi_pos hF cc
          refine lv_iload_n hx hb dX3_isOfSize_20 rfl (lv_at hl 1 rfl) ?_
          refine lv_iconst (v := 3) hx hb dX3_isOfSize_21 (by decide) ?_
          refine lv_icmp_ne (tgt := 29) hx hb dX3_isOfSize_22 (by decide) (fun cc => ?_) (fun cc => ?_)
          · have hF := gi_neg hF cc
            refine lv_iconst (v := 0) hx hb dX3_isOfSize_29 (by decide) ?_
            obtain rfl := Option.some.inj hF
            exact hQ _ _ _ _ _ hP hD hS rfl rfl dX3_isOfSize_30
          · have hF := gi_pos hF cc
            refine lv_iconst (v := 1) hx hb dX3_isOfSize_25 (by decide) ?_
            refine lv_goto (tgt := 30) hx hb dX3_isOfSize_26 (by decide) ?_
            obtain rfl := Option.some.inj hF
            exact hQ _ _ _ _ _ hP hD hS rfl rfl dX3_isOfSize_30

abbrev rmX3_isSeat : Room := { frames := 0, cells := 0, slots := 0, locals := 0 }
def fX3_isSeat (x1 : Int32) (v_t_size : Int32) : Option (Int32) := (if x1 < 0 then (some (0 : Int32)) else (if v_t_size ≤ x1 then (some (0 : Int32)) else (some (1 : Int32))))
set_option maxHeartbeats 4000000 in
set_option maxRecDepth 100000 in
theorem kX3_isSeat (l : Launch) (D : va_G) (cI cZ cD cG : ClassId) (h_t : Nat) (v_t_size : Int32) (h_t_paths : Nat) (h_t_children : Nat) (h_t_prefixes : Nat) (h_t_depths : Nat) (h_t_froms : Nat) (h_t_tills : Nat) (x1 : Int32) (res : Int32) (hF : fX3_isSeat x1 v_t_size = some res) : gMz l D (gty cI cZ cD cG) yX3_isSeat wsX3_isSeat rmX3_isSeat [.ref h_t, .int x1] [gO h_t 3 [.int v_t_size, .ref h_t_paths, .ref h_t_children, .ref h_t_prefixes, .ref h_t_depths, .ref h_t_froms, .ref h_t_tills]] res [gO h_t 3 [.int v_t_size, .ref h_t_paths, .ref h_t_children, .ref h_t_prefixes, .ref h_t_depths, .ref h_t_froms, .ref h_t_tills]] := by
  refine gMz.of (cc := cX3_isSeat) (maxL := 2) (by decide) rfl (Nat.le_of_ble_eq_true rfl) ?_
  intro p e s m args below meth c A ls Q hx hb hts hown hml hK hA hP hD hS hQ hl
  have hown : s.vm.findClass RX3 = some m.cls := hown
  have hl : lv_has ls 2 [(0, .ref h_t), (1, .int x1)] := hl
  have hw0 := hts (.fieldLink RX3 9 "NibbleTrunk$Nodes" "size" "I") (by decide +kernel)
  have hinX3 : ∀ w ∈ wsX30, w ∈ wsX3_isSeat := by decide +kernel
  rw [fX3_isSeat] at hF
  refine lv_iload_n hx hb dX3_isSeat_0 rfl (lv_at hl 1 rfl) ?_
  refine lv_if_lt (tgt := 16) hx hb dX3_isSeat_1 (by decide) (fun cc => ?_) (fun cc => ?_)
  · have hF := gi_pos hF cc
    refine lv_iconst (v := 0) hx hb dX3_isSeat_16 (by decide) ?_
    obtain rfl := Option.some.inj hF
    exact hQ _ _ _ _ _ hP hD hS rfl rfl dX3_isSeat_17
  · have hF := gi_neg hF cc
    refine lv_iload_n hx hb dX3_isSeat_4 rfl (lv_at hl 1 rfl) ?_
    refine lv_aload_n hx hb dX3_isSeat_5 rfl (lv_at hl 0 rfl) ?_
    refine va_get (D := D) (ci := 3) (v := .int v_t_size) (C := RX3) (T := TX3) (N := 7) hx hb hts hinX3 hown hK hP 0 rfl rfl 0 (by decide) hw0 (fun _ h9 => h9) rfl dX3_isSeat_6 ?_
    refine lv_icmp_ge (tgt := 16) hx hb dX3_isSeat_9 (by decide) (fun cc => ?_) (fun cc => ?_)
    · have hF := gi_pos hF cc
      refine lv_iconst (v := 0) hx hb dX3_isSeat_16 (by decide) ?_
      obtain rfl := Option.some.inj hF
      exact hQ _ _ _ _ _ hP hD hS rfl rfl dX3_isSeat_17
    · have hF := gi_neg hF cc
      refine lv_iconst (v := 1) hx hb dX3_isSeat_12 (by decide) ?_
      refine lv_goto (tgt := 17) hx hb dX3_isSeat_13 (by decide) ?_
      obtain rfl := Option.some.inj hF
      exact hQ _ _ _ _ _ hP hD hS rfl rfl dX3_isSeat_17

abbrev rmX3_childrenOf : Room := { frames := 1, cells := 0, slots := 0, locals := 21 }
def fX3_childrenOf (x1 : Int32) (v_t_size : Int32) (c_t_children : Nat → Int32) : Option (Int32) := (Option.bind (fX3_isSeat x1 v_t_size) (fun q_2 => (if q_2 = 0 then (some (0 : Int32)) else (gx x1 48 (some (c_t_children (x1).toNatClampNeg))))))
set_option maxHeartbeats 4000000 in
set_option maxRecDepth 100000 in
theorem kX3_childrenOf (l : Launch) (D : va_G) (cI cZ cD cG : ClassId) (h_t : Nat) (v_t_size : Int32) (h_t_paths : Nat) (h_t_children : Nat) (h_t_prefixes : Nat) (h_t_depths : Nat) (h_t_froms : Nat) (h_t_tills : Nat) (c_t_children : Nat → Int32) (x1 : Int32) (res : Int32) (hF : fX3_childrenOf x1 v_t_size c_t_children = some res) : gMi l D (gty cI cZ cD cG) yX3_childrenOf wsX3_childrenOf rmX3_childrenOf [.ref h_t, .int x1] [gO h_t 3 [.int v_t_size, .ref h_t_paths, .ref h_t_children, .ref h_t_prefixes, .ref h_t_depths, .ref h_t_froms, .ref h_t_tills], gA h_t_children cI 48 c_t_children] res [gO h_t 3 [.int v_t_size, .ref h_t_paths, .ref h_t_children, .ref h_t_prefixes, .ref h_t_depths, .ref h_t_froms, .ref h_t_tills], gA h_t_children cI 48 c_t_children] := by
  refine gMi.of (cc := cX3_childrenOf) (maxL := 2) (by decide) rfl (Nat.le_of_ble_eq_true rfl) ?_
  intro p e s m args below meth c A ls Q hx hb hts hown hml hK hA hP hD hS hQ hl
  have hown : s.vm.findClass RX3 = some m.cls := hown
  have hl : lv_has ls 2 [(0, .ref h_t), (1, .int x1)] := hl
  have hw0 := hts (.fieldLink RX3 19 "NibbleTrunk$Nodes" "children" "[I") (by decide +kernel)
  have hinX3 : ∀ w ∈ wsX30, w ∈ wsX3_childrenOf := by decide +kernel
  rw [fX3_childrenOf] at hF
  refine lv_aload_n hx hb dX3_childrenOf_0 rfl (lv_at hl 0 rfl) ?_
  refine lv_iload_n hx hb dX3_childrenOf_1 rfl (lv_at hl 1 rfl) ?_
  obtain ⟨q_2, hc, hF⟩ := gb_some hF
  refine gcVz (ci := 3) (As := [.int x1]) (rest := []) (pre := [gO h_t 3 [.int v_t_size, .ref h_t_paths, .ref h_t_children, .ref h_t_prefixes, .ref h_t_depths, .ref h_t_froms, .ref h_t_tills]]) (post := [gO h_t 3 [.int v_t_size, .ref h_t_paths, .ref h_t_children, .ref h_t_prefixes, .ref h_t_depths, .ref h_t_froms, .ref h_t_tills]]) (wr := [gA h_t_children cI 48 c_t_children]) ⟨hx, hb, hml, hown, hts⟩ (kX3_isSeat l D cI cZ cD cG h_t v_t_size h_t_paths h_t_children h_t_prefixes h_t_depths h_t_froms h_t_tills x1 q_2 hc) (cwV 1 hts gX3_childrenOf_X3_isSeat rfl rfl rfl (by decide +kernel) ⟨Nat.le_of_ble_eq_true rfl, Nat.le_of_ble_eq_true rfl⟩) hK hP hD hS hA [0] [1] rfl rfl (by decide) (by decide) (by decide) 0 rfl rfl rfl hl.1 rfl (Nat.le_of_ble_eq_true rfl) dX3_childrenOf_2 ⟨Nat.zero_le _, Nat.zero_le _⟩ (fun H locs hnq_2 hP hD hS => ?_)
  have hP : va_P D vwCl [gA h_t_children cI 48 c_t_children, gO h_t 3 [.int v_t_size, .ref h_t_paths, .ref h_t_children, .ref h_t_prefixes, .ref h_t_depths, .ref h_t_froms, .ref h_t_tills]] H := hP
  have hD : va_D A [gA h_t_children cI 48 c_t_children, gO h_t 3 [.int v_t_size, .ref h_t_paths, .ref h_t_children, .ref h_t_prefixes, .ref h_t_depths, .ref h_t_froms, .ref h_t_tills]] := hD
  refine lv_if_eq (tgt := 17) hx hb dX3_childrenOf_5 (by decide) (fun cc => ?_) (fun cc => ?_)
  · have hF := gi_pos hF cc
    refine lv_iconst (v := 0) hx hb dX3_childrenOf_17 (by decide) ?_
    obtain rfl := Option.some.inj hF
    exact hQ _ _ _ _ _ (hP.sub [1, 0] rfl) (hD.sub [1, 0] (by decide) rfl) hS rfl dX3_childrenOf_18
  · have hF := gi_neg hF cc
    refine lv_aload_n hx hb dX3_childrenOf_8 rfl (lv_at hl 0 rfl) ?_
    refine va_get (D := D) (ci := 3) (v := .ref h_t_children) (C := RX3) (T := TX3) (N := 7) hx hb hts hinX3 hown hK hP 1 rfl rfl 2 (by decide) hw0 (fun _ h9 => h9) rfl dX3_childrenOf_9 ?_
    refine lv_iload_n hx hb dX3_childrenOf_12 rfl (lv_at hl 1 rfl) ?_
    obtain ⟨hin, hF⟩ := gx_some hF
    refine va_iald hx hb hK hP 0 0 rfl rfl hin dX3_childrenOf_13 ?_
    refine lv_goto (tgt := 18) hx hb dX3_childrenOf_14 (by decide) ?_
    obtain rfl := Option.some.inj hF
    exact hQ _ _ _ _ _ (hP.sub [1, 0] rfl) (hD.sub [1, 0] (by decide) rfl) hS rfl dX3_childrenOf_18

abbrev rmX3_prefixOf : Room := { frames := 1, cells := 0, slots := 0, locals := 21 }
def fX3_prefixOf (x1 : Int32) (v_t_size : Int32) (c_t_prefixes : Nat → Int32) : Option (Int32) := (Option.bind (fX3_isSeat x1 v_t_size) (fun q_2 => (if q_2 = 0 then (some (0 : Int32)) else (gx x1 48 (some (c_t_prefixes (x1).toNatClampNeg))))))
set_option maxHeartbeats 4000000 in
set_option maxRecDepth 100000 in
theorem kX3_prefixOf (l : Launch) (D : va_G) (cI cZ cD cG : ClassId) (h_t : Nat) (v_t_size : Int32) (h_t_paths : Nat) (h_t_children : Nat) (h_t_prefixes : Nat) (h_t_depths : Nat) (h_t_froms : Nat) (h_t_tills : Nat) (c_t_prefixes : Nat → Int32) (x1 : Int32) (res : Int32) (hF : fX3_prefixOf x1 v_t_size c_t_prefixes = some res) : gMi l D (gty cI cZ cD cG) yX3_prefixOf wsX3_prefixOf rmX3_prefixOf [.ref h_t, .int x1] [gO h_t 3 [.int v_t_size, .ref h_t_paths, .ref h_t_children, .ref h_t_prefixes, .ref h_t_depths, .ref h_t_froms, .ref h_t_tills], gA h_t_prefixes cI 48 c_t_prefixes] res [gO h_t 3 [.int v_t_size, .ref h_t_paths, .ref h_t_children, .ref h_t_prefixes, .ref h_t_depths, .ref h_t_froms, .ref h_t_tills], gA h_t_prefixes cI 48 c_t_prefixes] := by
  refine gMi.of (cc := cX3_prefixOf) (maxL := 2) (by decide) rfl (Nat.le_of_ble_eq_true rfl) ?_
  intro p e s m args below meth c A ls Q hx hb hts hown hml hK hA hP hD hS hQ hl
  have hown : s.vm.findClass RX3 = some m.cls := hown
  have hl : lv_has ls 2 [(0, .ref h_t), (1, .int x1)] := hl
  have hw0 := hts (.fieldLink RX3 22 "NibbleTrunk$Nodes" "prefixes" "[I") (by decide +kernel)
  have hinX3 : ∀ w ∈ wsX30, w ∈ wsX3_prefixOf := by decide +kernel
  rw [fX3_prefixOf] at hF
  refine lv_aload_n hx hb dX3_prefixOf_0 rfl (lv_at hl 0 rfl) ?_
  refine lv_iload_n hx hb dX3_prefixOf_1 rfl (lv_at hl 1 rfl) ?_
  obtain ⟨q_2, hc, hF⟩ := gb_some hF
  refine gcVz (ci := 3) (As := [.int x1]) (rest := []) (pre := [gO h_t 3 [.int v_t_size, .ref h_t_paths, .ref h_t_children, .ref h_t_prefixes, .ref h_t_depths, .ref h_t_froms, .ref h_t_tills]]) (post := [gO h_t 3 [.int v_t_size, .ref h_t_paths, .ref h_t_children, .ref h_t_prefixes, .ref h_t_depths, .ref h_t_froms, .ref h_t_tills]]) (wr := [gA h_t_prefixes cI 48 c_t_prefixes]) ⟨hx, hb, hml, hown, hts⟩ (kX3_isSeat l D cI cZ cD cG h_t v_t_size h_t_paths h_t_children h_t_prefixes h_t_depths h_t_froms h_t_tills x1 q_2 hc) (cwV 1 hts gX3_prefixOf_X3_isSeat rfl rfl rfl (by decide +kernel) ⟨Nat.le_of_ble_eq_true rfl, Nat.le_of_ble_eq_true rfl⟩) hK hP hD hS hA [0] [1] rfl rfl (by decide) (by decide) (by decide) 0 rfl rfl rfl hl.1 rfl (Nat.le_of_ble_eq_true rfl) dX3_prefixOf_2 ⟨Nat.zero_le _, Nat.zero_le _⟩ (fun H locs hnq_2 hP hD hS => ?_)
  have hP : va_P D vwCl [gA h_t_prefixes cI 48 c_t_prefixes, gO h_t 3 [.int v_t_size, .ref h_t_paths, .ref h_t_children, .ref h_t_prefixes, .ref h_t_depths, .ref h_t_froms, .ref h_t_tills]] H := hP
  have hD : va_D A [gA h_t_prefixes cI 48 c_t_prefixes, gO h_t 3 [.int v_t_size, .ref h_t_paths, .ref h_t_children, .ref h_t_prefixes, .ref h_t_depths, .ref h_t_froms, .ref h_t_tills]] := hD
  refine lv_if_eq (tgt := 17) hx hb dX3_prefixOf_5 (by decide) (fun cc => ?_) (fun cc => ?_)
  · have hF := gi_pos hF cc
    refine lv_iconst (v := 0) hx hb dX3_prefixOf_17 (by decide) ?_
    obtain rfl := Option.some.inj hF
    exact hQ _ _ _ _ _ (hP.sub [1, 0] rfl) (hD.sub [1, 0] (by decide) rfl) hS rfl dX3_prefixOf_18
  · have hF := gi_neg hF cc
    refine lv_aload_n hx hb dX3_prefixOf_8 rfl (lv_at hl 0 rfl) ?_
    refine va_get (D := D) (ci := 3) (v := .ref h_t_prefixes) (C := RX3) (T := TX3) (N := 7) hx hb hts hinX3 hown hK hP 1 rfl rfl 3 (by decide) hw0 (fun _ h9 => h9) rfl dX3_prefixOf_9 ?_
    refine lv_iload_n hx hb dX3_prefixOf_12 rfl (lv_at hl 1 rfl) ?_
    obtain ⟨hin, hF⟩ := gx_some hF
    refine va_iald hx hb hK hP 0 0 rfl rfl hin dX3_prefixOf_13 ?_
    refine lv_goto (tgt := 18) hx hb dX3_prefixOf_14 (by decide) ?_
    obtain rfl := Option.some.inj hF
    exact hQ _ _ _ _ _ (hP.sub [1, 0] rfl) (hD.sub [1, 0] (by decide) rfl) hS rfl dX3_prefixOf_18

abbrev rmX3_keysBelow : Room := { frames := 1, cells := 0, slots := 0, locals := 21 }
def fX3_keysBelow (x1 : Int32) (v_t_size : Int32) (c_t_tills : Nat → Int32) (c_t_froms : Nat → Int32) : Option (Int32) := (Option.bind (fX3_isSeat x1 v_t_size) (fun q_2 => (if q_2 = 0 then (some (0 : Int32)) else (gx x1 48 (gx x1 48 (some ((c_t_tills (x1).toNatClampNeg) - (c_t_froms (x1).toNatClampNeg))))))))
set_option maxHeartbeats 4000000 in
set_option maxRecDepth 100000 in
theorem kX3_keysBelow (l : Launch) (D : va_G) (cI cZ cD cG : ClassId) (h_t : Nat) (v_t_size : Int32) (h_t_paths : Nat) (h_t_children : Nat) (h_t_prefixes : Nat) (h_t_depths : Nat) (h_t_froms : Nat) (h_t_tills : Nat) (c_t_tills : Nat → Int32) (c_t_froms : Nat → Int32) (x1 : Int32) (res : Int32) (hF : fX3_keysBelow x1 v_t_size c_t_tills c_t_froms = some res) : gMi l D (gty cI cZ cD cG) yX3_keysBelow wsX3_keysBelow rmX3_keysBelow [.ref h_t, .int x1] [gO h_t 3 [.int v_t_size, .ref h_t_paths, .ref h_t_children, .ref h_t_prefixes, .ref h_t_depths, .ref h_t_froms, .ref h_t_tills], gA h_t_tills cI 48 c_t_tills, gA h_t_froms cI 48 c_t_froms] res [gO h_t 3 [.int v_t_size, .ref h_t_paths, .ref h_t_children, .ref h_t_prefixes, .ref h_t_depths, .ref h_t_froms, .ref h_t_tills], gA h_t_tills cI 48 c_t_tills, gA h_t_froms cI 48 c_t_froms] := by
  refine gMi.of (cc := cX3_keysBelow) (maxL := 2) (by decide) rfl (Nat.le_of_ble_eq_true rfl) ?_
  intro p e s m args below meth c A ls Q hx hb hts hown hml hK hA hP hD hS hQ hl
  have hown : s.vm.findClass RX3 = some m.cls := hown
  have hl : lv_has ls 2 [(0, .ref h_t), (1, .int x1)] := hl
  have hw0 := hts (.fieldLink RX3 31 "NibbleTrunk$Nodes" "tills" "[I") (by decide +kernel)
  have hinX3 : ∀ w ∈ wsX30, w ∈ wsX3_keysBelow := by decide +kernel
  have hw2 := hts (.fieldLink RX3 28 "NibbleTrunk$Nodes" "froms" "[I") (by decide +kernel)
  rw [fX3_keysBelow] at hF
  refine lv_aload_n hx hb dX3_keysBelow_0 rfl (lv_at hl 0 rfl) ?_
  refine lv_iload_n hx hb dX3_keysBelow_1 rfl (lv_at hl 1 rfl) ?_
  obtain ⟨q_2, hc, hF⟩ := gb_some hF
  refine gcVz (ci := 3) (As := [.int x1]) (rest := []) (pre := [gO h_t 3 [.int v_t_size, .ref h_t_paths, .ref h_t_children, .ref h_t_prefixes, .ref h_t_depths, .ref h_t_froms, .ref h_t_tills]]) (post := [gO h_t 3 [.int v_t_size, .ref h_t_paths, .ref h_t_children, .ref h_t_prefixes, .ref h_t_depths, .ref h_t_froms, .ref h_t_tills]]) (wr := [gA h_t_tills cI 48 c_t_tills, gA h_t_froms cI 48 c_t_froms]) ⟨hx, hb, hml, hown, hts⟩ (kX3_isSeat l D cI cZ cD cG h_t v_t_size h_t_paths h_t_children h_t_prefixes h_t_depths h_t_froms h_t_tills x1 q_2 hc) (cwV 1 hts gX3_keysBelow_X3_isSeat rfl rfl rfl (by decide +kernel) ⟨Nat.le_of_ble_eq_true rfl, Nat.le_of_ble_eq_true rfl⟩) hK hP hD hS hA [0] [1, 2] rfl rfl (by decide) (by decide) (by decide) 0 rfl rfl rfl hl.1 rfl (Nat.le_of_ble_eq_true rfl) dX3_keysBelow_2 ⟨Nat.zero_le _, Nat.zero_le _⟩ (fun H locs hnq_2 hP hD hS => ?_)
  have hP : va_P D vwCl [gA h_t_tills cI 48 c_t_tills, gA h_t_froms cI 48 c_t_froms, gO h_t 3 [.int v_t_size, .ref h_t_paths, .ref h_t_children, .ref h_t_prefixes, .ref h_t_depths, .ref h_t_froms, .ref h_t_tills]] H := hP
  have hD : va_D A [gA h_t_tills cI 48 c_t_tills, gA h_t_froms cI 48 c_t_froms, gO h_t 3 [.int v_t_size, .ref h_t_paths, .ref h_t_children, .ref h_t_prefixes, .ref h_t_depths, .ref h_t_froms, .ref h_t_tills]] := hD
  refine lv_if_eq (tgt := 24) hx hb dX3_keysBelow_5 (by decide) (fun cc => ?_) (fun cc => ?_)
  · have hF := gi_pos hF cc
    refine lv_iconst (v := 0) hx hb dX3_keysBelow_24 (by decide) ?_
    obtain rfl := Option.some.inj hF
    exact hQ _ _ _ _ _ (hP.sub [2, 0, 1] rfl) (hD.sub [2, 0, 1] (by decide) rfl) hS rfl dX3_keysBelow_25
  · have hF := gi_neg hF cc
    refine lv_aload_n hx hb dX3_keysBelow_8 rfl (lv_at hl 0 rfl) ?_
    refine va_get (D := D) (ci := 3) (v := .ref h_t_tills) (C := RX3) (T := TX3) (N := 7) hx hb hts hinX3 hown hK hP 2 rfl rfl 6 (by decide) hw0 (fun _ h9 => h9) rfl dX3_keysBelow_9 ?_
    refine lv_iload_n hx hb dX3_keysBelow_12 rfl (lv_at hl 1 rfl) ?_
    obtain ⟨hin, hF⟩ := gx_some hF
    refine va_iald hx hb hK hP 0 0 rfl rfl hin dX3_keysBelow_13 ?_
    refine lv_aload_n hx hb dX3_keysBelow_14 rfl (lv_at hl 0 rfl) ?_
    refine va_get (D := D) (ci := 3) (v := .ref h_t_froms) (C := RX3) (T := TX3) (N := 7) hx hb hts hinX3 hown hK hP 2 rfl rfl 5 (by decide) hw2 (fun _ h9 => h9) rfl dX3_keysBelow_15 ?_
    refine lv_iload_n hx hb dX3_keysBelow_18 rfl (lv_at hl 1 rfl) ?_
    obtain ⟨hin, hF⟩ := gx_some hF
    refine va_iald hx hb hK hP 1 0 rfl rfl hin dX3_keysBelow_19 ?_
    refine lv_isub hx hb dX3_keysBelow_20 ?_
    refine lv_goto (tgt := 25) hx hb dX3_keysBelow_21 (by decide) ?_
    obtain rfl := Option.some.inj hF
    exact hQ _ _ _ _ _ (hP.sub [2, 0, 1] rfl) (hD.sub [2, 0, 1] (by decide) rfl) hS rfl dX3_keysBelow_25

abbrev rmX3_hasEnd : Room := { frames := 1, cells := 0, slots := 0, locals := 21 }
def fX3_hasEnd (x2 : Int32) (v_t_size : Int32) (c_t_froms : Nat → Int32) (v_p1_size : Int32) (c_p1_words : Nat → Int32) (c_t_paths : Nat → Int32) : Option (Int32) := (Option.bind (fX3_isSeat x2 v_t_size) (fun q_2 => (if q_2 = 0 then (some (0 : Int32)) else (gx x2 48 (Option.bind (fX1_word (c_t_froms (x2).toNatClampNeg) v_p1_size c_p1_words) (fun q_15 => (gx x2 48 (if q_15 = (c_t_paths (x2).toNatClampNeg) then (some (1 : Int32)) else (some (0 : Int32))))))))))
set_option maxHeartbeats 4000000 in
set_option maxRecDepth 100000 in
theorem kX3_hasEnd (l : Launch) (D : va_G) (cI cZ cD cG : ClassId) (h_t : Nat) (h_p1 : Nat) (v_t_size : Int32) (h_t_paths : Nat) (h_t_children : Nat) (h_t_prefixes : Nat) (h_t_depths : Nat) (h_t_froms : Nat) (h_t_tills : Nat) (c_t_froms : Nat → Int32) (v_p1_size : Int32) (h_p1_words : Nat) (h_p1_values : Nat) (c_p1_words : Nat → Int32) (c_t_paths : Nat → Int32) (x2 : Int32) (res : Int32) (hF : fX3_hasEnd x2 v_t_size c_t_froms v_p1_size c_p1_words c_t_paths = some res) : gMz l D (gty cI cZ cD cG) yX3_hasEnd wsX3_hasEnd rmX3_hasEnd [.ref h_t, .ref h_p1, .int x2] [gO h_t 3 [.int v_t_size, .ref h_t_paths, .ref h_t_children, .ref h_t_prefixes, .ref h_t_depths, .ref h_t_froms, .ref h_t_tills], gA h_t_froms cI 48 c_t_froms, gO h_p1 1 [.int v_p1_size, .ref h_p1_words, .ref h_p1_values], gA h_p1_words cI 48 c_p1_words, gA h_t_paths cI 48 c_t_paths] res [gO h_t 3 [.int v_t_size, .ref h_t_paths, .ref h_t_children, .ref h_t_prefixes, .ref h_t_depths, .ref h_t_froms, .ref h_t_tills], gA h_t_froms cI 48 c_t_froms, gO h_p1 1 [.int v_p1_size, .ref h_p1_words, .ref h_p1_values], gA h_p1_words cI 48 c_p1_words, gA h_t_paths cI 48 c_t_paths] := by
  refine gMz.of (cc := cX3_hasEnd) (maxL := 3) (by decide) rfl (Nat.le_of_ble_eq_true rfl) ?_
  intro p e s m args below meth c A ls Q hx hb hts hown hml hK hA hP hD hS hQ hl
  have hown : s.vm.findClass RX3 = some m.cls := hown
  have hl : lv_has ls 3 [(0, .ref h_t), (1, .ref h_p1), (2, .int x2)] := hl
  have hw0 := hts (.fieldLink RX3 28 "NibbleTrunk$Nodes" "froms" "[I") (by decide +kernel)
  have hinX3 : ∀ w ∈ wsX30, w ∈ wsX3_hasEnd := by decide +kernel
  have hw2 := hts (.fieldLink RX3 15 "NibbleTrunk$Nodes" "paths" "[I") (by decide +kernel)
  rw [fX3_hasEnd] at hF
  refine lv_aload_n hx hb dX3_hasEnd_0 rfl (lv_at hl 0 rfl) ?_
  refine lv_iload_n hx hb dX3_hasEnd_1 rfl (lv_at hl 2 rfl) ?_
  obtain ⟨q_2, hc, hF⟩ := gb_some hF
  refine gcVz (ci := 3) (As := [.int x2]) (rest := []) (pre := [gO h_t 3 [.int v_t_size, .ref h_t_paths, .ref h_t_children, .ref h_t_prefixes, .ref h_t_depths, .ref h_t_froms, .ref h_t_tills]]) (post := [gO h_t 3 [.int v_t_size, .ref h_t_paths, .ref h_t_children, .ref h_t_prefixes, .ref h_t_depths, .ref h_t_froms, .ref h_t_tills]]) (wr := [gA h_t_froms cI 48 c_t_froms, gO h_p1 1 [.int v_p1_size, .ref h_p1_words, .ref h_p1_values], gA h_p1_words cI 48 c_p1_words, gA h_t_paths cI 48 c_t_paths]) ⟨hx, hb, hml, hown, hts⟩ (kX3_isSeat l D cI cZ cD cG h_t v_t_size h_t_paths h_t_children h_t_prefixes h_t_depths h_t_froms h_t_tills x2 q_2 hc) (cwV 1 hts gX3_hasEnd_X3_isSeat rfl rfl rfl (by decide +kernel) ⟨Nat.le_of_ble_eq_true rfl, Nat.le_of_ble_eq_true rfl⟩) hK hP hD hS hA [0] [1, 2, 3, 4] rfl rfl (by decide) (by decide) (by decide) 0 rfl rfl rfl hl.1 rfl (Nat.le_of_ble_eq_true rfl) dX3_hasEnd_2 ⟨Nat.zero_le _, Nat.zero_le _⟩ (fun H locs hnq_2 hP hD hS => ?_)
  have hP : va_P D vwCl [gA h_t_froms cI 48 c_t_froms, gO h_p1 1 [.int v_p1_size, .ref h_p1_words, .ref h_p1_values], gA h_p1_words cI 48 c_p1_words, gA h_t_paths cI 48 c_t_paths, gO h_t 3 [.int v_t_size, .ref h_t_paths, .ref h_t_children, .ref h_t_prefixes, .ref h_t_depths, .ref h_t_froms, .ref h_t_tills]] H := hP
  have hD : va_D A [gA h_t_froms cI 48 c_t_froms, gO h_p1 1 [.int v_p1_size, .ref h_p1_words, .ref h_p1_values], gA h_p1_words cI 48 c_p1_words, gA h_t_paths cI 48 c_t_paths, gO h_t 3 [.int v_t_size, .ref h_t_paths, .ref h_t_children, .ref h_t_prefixes, .ref h_t_depths, .ref h_t_froms, .ref h_t_tills]] := hD
  refine lv_if_eq (tgt := 31) hx hb dX3_hasEnd_5 (by decide) (fun cc => ?_) (fun cc => ?_)
  · have hF := gi_pos hF cc
    refine lv_iconst (v := 0) hx hb dX3_hasEnd_31 (by decide) ?_
    obtain rfl := Option.some.inj hF
    exact hQ _ _ _ _ _ (hP.sub [4, 0, 1, 2, 3] rfl) (hD.sub [4, 0, 1, 2, 3] (by decide) rfl) hS rfl rfl dX3_hasEnd_32
  · have hF := gi_neg hF cc
    refine lv_aload_n hx hb dX3_hasEnd_8 rfl (lv_at hl 1 rfl) ?_
    refine lv_aload_n hx hb dX3_hasEnd_9 rfl (lv_at hl 0 rfl) ?_
    refine va_get (D := D) (ci := 3) (v := .ref h_t_froms) (C := RX3) (T := TX3) (N := 7) hx hb hts hinX3 hown hK hP 4 rfl rfl 5 (by decide) hw0 (fun _ h9 => h9) rfl dX3_hasEnd_10 ?_
    refine lv_iload_n hx hb dX3_hasEnd_13 rfl (lv_at hl 2 rfl) ?_
    obtain ⟨hin, hF⟩ := gx_some hF
    refine va_iald hx hb hK hP 0 0 rfl rfl hin dX3_hasEnd_14 ?_
    obtain ⟨q_15, hc, hF⟩ := gb_some hF
    refine gcVi (ci := 1) (As := [.int (c_t_froms (x2).toNatClampNeg)]) (rest := []) (pre := [gO h_p1 1 [.int v_p1_size, .ref h_p1_words, .ref h_p1_values], gA h_p1_words cI 48 c_p1_words]) (post := [gO h_p1 1 [.int v_p1_size, .ref h_p1_words, .ref h_p1_values], gA h_p1_words cI 48 c_p1_words]) (wr := [gA h_t_froms cI 48 c_t_froms, gA h_t_paths cI 48 c_t_paths, gO h_t 3 [.int v_t_size, .ref h_t_paths, .ref h_t_children, .ref h_t_prefixes, .ref h_t_depths, .ref h_t_froms, .ref h_t_tills]]) ⟨hx, hb, hml, hown, hts⟩ (kX1_word l D cI cZ cD cG h_p1 v_p1_size h_p1_words h_p1_values c_p1_words (c_t_froms (x2).toNatClampNeg) q_15 hc) (cwV 1 hts gX3_hasEnd_X1_word rfl rfl rfl (by decide +kernel) ⟨Nat.le_of_ble_eq_true rfl, Nat.le_of_ble_eq_true rfl⟩) hK hP hD hS hA [1, 2] [0, 3, 4] rfl rfl (by decide) (by decide) (by decide) 0 rfl rfl rfl hl.1 rfl (Nat.le_of_ble_eq_true rfl) dX3_hasEnd_15 ⟨Nat.zero_le _, Nat.zero_le _⟩ (fun H locs hP hD hS => ?_)
    have hP : va_P D vwCl [gA h_t_froms cI 48 c_t_froms, gA h_t_paths cI 48 c_t_paths, gO h_t 3 [.int v_t_size, .ref h_t_paths, .ref h_t_children, .ref h_t_prefixes, .ref h_t_depths, .ref h_t_froms, .ref h_t_tills], gO h_p1 1 [.int v_p1_size, .ref h_p1_words, .ref h_p1_values], gA h_p1_words cI 48 c_p1_words] H := hP
    have hD : va_D A [gA h_t_froms cI 48 c_t_froms, gA h_t_paths cI 48 c_t_paths, gO h_t 3 [.int v_t_size, .ref h_t_paths, .ref h_t_children, .ref h_t_prefixes, .ref h_t_depths, .ref h_t_froms, .ref h_t_tills], gO h_p1 1 [.int v_p1_size, .ref h_p1_words, .ref h_p1_values], gA h_p1_words cI 48 c_p1_words] := hD
    refine lv_aload_n hx hb dX3_hasEnd_18 rfl (lv_at hl 0 rfl) ?_
    refine va_get (D := D) (ci := 3) (v := .ref h_t_paths) (C := RX3) (T := TX3) (N := 7) hx hb hts hinX3 hown hK hP 2 rfl rfl 1 (by decide) hw2 (fun _ h9 => h9) rfl dX3_hasEnd_19 ?_
    refine lv_iload_n hx hb dX3_hasEnd_22 rfl (lv_at hl 2 rfl) ?_
    obtain ⟨hin, hF⟩ := gx_some hF
    refine va_iald hx hb hK hP 1 0 rfl rfl hin dX3_hasEnd_23 ?_
    refine lv_icmp_ne (tgt := 31) hx hb dX3_hasEnd_24 (by decide) (fun cc => ?_) (fun cc => ?_)
    · have hF := gi_neg hF cc
      refine lv_iconst (v := 0) hx hb dX3_hasEnd_31 (by decide) ?_
      obtain rfl := Option.some.inj hF
      exact hQ _ _ _ _ _ (hP.sub [2, 0, 3, 4, 1] rfl) (hD.sub [2, 0, 3, 4, 1] (by decide) rfl) hS rfl rfl dX3_hasEnd_32
    · have hF := gi_pos hF cc
      refine lv_iconst (v := 1) hx hb dX3_hasEnd_27 (by decide) ?_
      refine lv_goto (tgt := 32) hx hb dX3_hasEnd_28 (by decide) ?_
      obtain rfl := Option.some.inj hF
      exact hQ _ _ _ _ _ (hP.sub [2, 0, 3, 4, 1] rfl) (hD.sub [2, 0, 3, 4, 1] (by decide) rfl) hS rfl rfl dX3_hasEnd_32

abbrev rmX3_placesOf : Room := { frames := 1, cells := 0, slots := 0, locals := 21 }
def fX3_placesOf (x1 : Int32) (v_t_size : Int32) (c_t_children : Nat → Int32) : Option (Int32) := (Option.bind (fX3_isSeat x1 v_t_size) (fun q_2 => (if q_2 = 0 then (some (0 : Int32)) else (gx x1 48 (Option.bind (fJ6_bitCount_0f7a4 (c_t_children (x1).toNatClampNeg)) (fun q_14 => (Option.bind (fX3_placesFor q_14) (fun q_17 => (some q_17)))))))))
set_option maxHeartbeats 4000000 in
set_option maxRecDepth 100000 in
theorem kX3_placesOf (l : Launch) (D : va_G) (cI cZ cD cG : ClassId) (h_t : Nat) (v_t_size : Int32) (h_t_paths : Nat) (h_t_children : Nat) (h_t_prefixes : Nat) (h_t_depths : Nat) (h_t_froms : Nat) (h_t_tills : Nat) (c_t_children : Nat → Int32) (x1 : Int32) (res : Int32) (hF : fX3_placesOf x1 v_t_size c_t_children = some res) : gMi l D (gty cI cZ cD cG) yX3_placesOf wsX3_placesOf rmX3_placesOf [.ref h_t, .int x1] [gO h_t 3 [.int v_t_size, .ref h_t_paths, .ref h_t_children, .ref h_t_prefixes, .ref h_t_depths, .ref h_t_froms, .ref h_t_tills], gA h_t_children cI 48 c_t_children] res [gO h_t 3 [.int v_t_size, .ref h_t_paths, .ref h_t_children, .ref h_t_prefixes, .ref h_t_depths, .ref h_t_froms, .ref h_t_tills], gA h_t_children cI 48 c_t_children] := by
  refine gMi.of (cc := cX3_placesOf) (maxL := 2) (by decide) rfl (Nat.le_of_ble_eq_true rfl) ?_
  intro p e s m args below meth c A ls Q hx hb hts hown hml hK hA hP hD hS hQ hl
  have hown : s.vm.findClass RX3 = some m.cls := hown
  have hl : lv_has ls 2 [(0, .ref h_t), (1, .int x1)] := hl
  have hw0 := hts (.fieldLink RX3 19 "NibbleTrunk$Nodes" "children" "[I") (by decide +kernel)
  have hinX3 : ∀ w ∈ wsX30, w ∈ wsX3_placesOf := by decide +kernel
  rw [fX3_placesOf] at hF
  refine lv_aload_n hx hb dX3_placesOf_0 rfl (lv_at hl 0 rfl) ?_
  refine lv_iload_n hx hb dX3_placesOf_1 rfl (lv_at hl 1 rfl) ?_
  obtain ⟨q_2, hc, hF⟩ := gb_some hF
  refine gcVz (ci := 3) (As := [.int x1]) (rest := []) (pre := [gO h_t 3 [.int v_t_size, .ref h_t_paths, .ref h_t_children, .ref h_t_prefixes, .ref h_t_depths, .ref h_t_froms, .ref h_t_tills]]) (post := [gO h_t 3 [.int v_t_size, .ref h_t_paths, .ref h_t_children, .ref h_t_prefixes, .ref h_t_depths, .ref h_t_froms, .ref h_t_tills]]) (wr := [gA h_t_children cI 48 c_t_children]) ⟨hx, hb, hml, hown, hts⟩ (kX3_isSeat l D cI cZ cD cG h_t v_t_size h_t_paths h_t_children h_t_prefixes h_t_depths h_t_froms h_t_tills x1 q_2 hc) (cwV 1 hts gX3_placesOf_X3_isSeat rfl rfl rfl (by decide +kernel) ⟨Nat.le_of_ble_eq_true rfl, Nat.le_of_ble_eq_true rfl⟩) hK hP hD hS hA [0] [1] rfl rfl (by decide) (by decide) (by decide) 0 rfl rfl rfl hl.1 rfl (Nat.le_of_ble_eq_true rfl) dX3_placesOf_2 ⟨Nat.zero_le _, Nat.zero_le _⟩ (fun H locs hnq_2 hP hD hS => ?_)
  have hP : va_P D vwCl [gA h_t_children cI 48 c_t_children, gO h_t 3 [.int v_t_size, .ref h_t_paths, .ref h_t_children, .ref h_t_prefixes, .ref h_t_depths, .ref h_t_froms, .ref h_t_tills]] H := hP
  have hD : va_D A [gA h_t_children cI 48 c_t_children, gO h_t 3 [.int v_t_size, .ref h_t_paths, .ref h_t_children, .ref h_t_prefixes, .ref h_t_depths, .ref h_t_froms, .ref h_t_tills]] := hD
  refine lv_if_eq (tgt := 23) hx hb dX3_placesOf_5 (by decide) (fun cc => ?_) (fun cc => ?_)
  · have hF := gi_pos hF cc
    refine lv_iconst (v := 0) hx hb dX3_placesOf_23 (by decide) ?_
    obtain rfl := Option.some.inj hF
    exact hQ _ _ _ _ _ (hP.sub [1, 0] rfl) (hD.sub [1, 0] (by decide) rfl) hS rfl dX3_placesOf_24
  · have hF := gi_neg hF cc
    refine lv_aload_n hx hb dX3_placesOf_8 rfl (lv_at hl 0 rfl) ?_
    refine va_get (D := D) (ci := 3) (v := .ref h_t_children) (C := RX3) (T := TX3) (N := 7) hx hb hts hinX3 hown hK hP 1 rfl rfl 2 (by decide) hw0 (fun _ h9 => h9) rfl dX3_placesOf_9 ?_
    refine lv_iload_n hx hb dX3_placesOf_12 rfl (lv_at hl 1 rfl) ?_
    obtain ⟨hin, hF⟩ := gx_some hF
    refine va_iald hx hb hK hP 0 0 rfl rfl hin dX3_placesOf_13 ?_
    obtain ⟨q_14, hc, hF⟩ := gb_some hF
    refine gcSi (As := [.int (c_t_children (x1).toNatClampNeg)]) (rest := []) (pre := []) (post := []) (wr := [gA h_t_children cI 48 c_t_children, gO h_t 3 [.int v_t_size, .ref h_t_paths, .ref h_t_children, .ref h_t_prefixes, .ref h_t_depths, .ref h_t_froms, .ref h_t_tills]]) ⟨hx, hb, hml, hown, hts⟩ (kJ6_bitCount_0f7a4 l D cI cZ cD cG (c_t_children (x1).toNatClampNeg) q_14 hc) (va_cwS 1 hts gX3_placesOf_J6_bitCount_0f7a4 rfl rfl rfl (by decide +kernel) ⟨Nat.le_of_ble_eq_true rfl, Nat.le_of_ble_eq_true rfl⟩) hK hP hD hS hA [] [0, 1] rfl rfl (by decide) (by decide) (by decide) rfl hl.1 rfl (Nat.le_of_ble_eq_true rfl) dX3_placesOf_14 ⟨Nat.zero_le _, Nat.zero_le _⟩ (fun H locs hP hD hS => ?_)
    have hP : va_P D vwCl [gA h_t_children cI 48 c_t_children, gO h_t 3 [.int v_t_size, .ref h_t_paths, .ref h_t_children, .ref h_t_prefixes, .ref h_t_depths, .ref h_t_froms, .ref h_t_tills]] H := hP
    have hD : va_D A [gA h_t_children cI 48 c_t_children, gO h_t 3 [.int v_t_size, .ref h_t_paths, .ref h_t_children, .ref h_t_prefixes, .ref h_t_depths, .ref h_t_froms, .ref h_t_tills]] := hD
    obtain ⟨q_17, hc, hF⟩ := gb_some hF
    refine gcSi (As := [.int q_14]) (rest := []) (pre := []) (post := []) (wr := [gA h_t_children cI 48 c_t_children, gO h_t 3 [.int v_t_size, .ref h_t_paths, .ref h_t_children, .ref h_t_prefixes, .ref h_t_depths, .ref h_t_froms, .ref h_t_tills]]) ⟨hx, hb, hml, hown, hts⟩ (kX3_placesFor l D cI cZ cD cG q_14 q_17 hc) (va_cwS 1 hts gX3_placesOf_X3_placesFor rfl rfl rfl (by decide +kernel) ⟨Nat.le_of_ble_eq_true rfl, Nat.le_of_ble_eq_true rfl⟩) hK hP hD hS hA [] [0, 1] rfl rfl (by decide) (by decide) (by decide) rfl hl.1 rfl (Nat.le_of_ble_eq_true rfl) dX3_placesOf_17 ⟨Nat.zero_le _, Nat.zero_le _⟩ (fun H locs hP hD hS => ?_)
    have hP : va_P D vwCl [gA h_t_children cI 48 c_t_children, gO h_t 3 [.int v_t_size, .ref h_t_paths, .ref h_t_children, .ref h_t_prefixes, .ref h_t_depths, .ref h_t_froms, .ref h_t_tills]] H := hP
    have hD : va_D A [gA h_t_children cI 48 c_t_children, gO h_t 3 [.int v_t_size, .ref h_t_paths, .ref h_t_children, .ref h_t_prefixes, .ref h_t_depths, .ref h_t_froms, .ref h_t_tills]] := hD
    refine lv_goto (tgt := 24) hx hb dX3_placesOf_20 (by decide) ?_
    obtain rfl := Option.some.inj hF
    exact hQ _ _ _ _ _ (hP.sub [1, 0] rfl) (hD.sub [1, 0] (by decide) rfl) hS rfl dX3_placesOf_24

abbrev rmX3_sizeOf : Room := { frames := 2, cells := 0, slots := 0, locals := 42 }
def fX3_sizeOf (x1 : Int32) (v_t_size : Int32) (c_t_children : Nat → Int32) : Option (Int32) := (Option.bind (fX3_placesOf x1 v_t_size c_t_children) (fun q_2 => (if q_2 = (2 : Int32) then (some (1 : Int32)) else (if q_2 = (4 : Int32) then (some (2 : Int32)) else (if q_2 = (8 : Int32) then (some (3 : Int32)) else (some (4 : Int32)))))))
set_option maxHeartbeats 4000000 in
set_option maxRecDepth 100000 in
theorem kX3_sizeOf (l : Launch) (D : va_G) (cI cZ cD cG : ClassId) (h_t : Nat) (v_t_size : Int32) (h_t_paths : Nat) (h_t_children : Nat) (h_t_prefixes : Nat) (h_t_depths : Nat) (h_t_froms : Nat) (h_t_tills : Nat) (c_t_children : Nat → Int32) (x1 : Int32) (res : Int32) (hF : fX3_sizeOf x1 v_t_size c_t_children = some res) : gMi l D (gty cI cZ cD cG) yX3_sizeOf wsX3_sizeOf rmX3_sizeOf [.ref h_t, .int x1] [gO h_t 3 [.int v_t_size, .ref h_t_paths, .ref h_t_children, .ref h_t_prefixes, .ref h_t_depths, .ref h_t_froms, .ref h_t_tills], gA h_t_children cI 48 c_t_children] res [gO h_t 3 [.int v_t_size, .ref h_t_paths, .ref h_t_children, .ref h_t_prefixes, .ref h_t_depths, .ref h_t_froms, .ref h_t_tills], gA h_t_children cI 48 c_t_children] := by
  refine gMi.of (cc := cX3_sizeOf) (maxL := 2) (by decide) rfl (Nat.le_of_ble_eq_true rfl) ?_
  intro p e s m args below meth c A ls Q hx hb hts hown hml hK hA hP hD hS hQ hl
  have hown : s.vm.findClass RX3 = some m.cls := hown
  have hl : lv_has ls 2 [(0, .ref h_t), (1, .int x1)] := hl
  rw [fX3_sizeOf] at hF
  refine lv_aload_n hx hb dX3_sizeOf_0 rfl (lv_at hl 0 rfl) ?_
  refine lv_iload_n hx hb dX3_sizeOf_1 rfl (lv_at hl 1 rfl) ?_
  obtain ⟨q_2, hc, hF⟩ := gb_some hF
  refine gcVi (ci := 3) (As := [.int x1]) (rest := []) (pre := [gO h_t 3 [.int v_t_size, .ref h_t_paths, .ref h_t_children, .ref h_t_prefixes, .ref h_t_depths, .ref h_t_froms, .ref h_t_tills], gA h_t_children cI 48 c_t_children]) (post := [gO h_t 3 [.int v_t_size, .ref h_t_paths, .ref h_t_children, .ref h_t_prefixes, .ref h_t_depths, .ref h_t_froms, .ref h_t_tills], gA h_t_children cI 48 c_t_children]) (wr := []) ⟨hx, hb, hml, hown, hts⟩ (kX3_placesOf l D cI cZ cD cG h_t v_t_size h_t_paths h_t_children h_t_prefixes h_t_depths h_t_froms h_t_tills c_t_children x1 q_2 hc) (cwV 1 hts gX3_sizeOf_X3_placesOf rfl rfl rfl (by decide +kernel) ⟨Nat.le_of_ble_eq_true rfl, Nat.le_of_ble_eq_true rfl⟩) hK hP hD hS hA [0, 1] [] rfl rfl (by decide) (by decide) (by decide) 0 rfl rfl rfl hl.1 rfl (Nat.le_of_ble_eq_true rfl) dX3_sizeOf_2 ⟨Nat.zero_le _, Nat.zero_le _⟩ (fun H locs hP hD hS => ?_)
  have hP : va_P D vwCl [gO h_t 3 [.int v_t_size, .ref h_t_paths, .ref h_t_children, .ref h_t_prefixes, .ref h_t_depths, .ref h_t_froms, .ref h_t_tills], gA h_t_children cI 48 c_t_children] H := hP
  have hD : va_D A [gO h_t 3 [.int v_t_size, .ref h_t_paths, .ref h_t_children, .ref h_t_prefixes, .ref h_t_depths, .ref h_t_froms, .ref h_t_tills], gA h_t_children cI 48 c_t_children] := hD
  by_cases cc0 : q_2 = (2 : Int32)
  · have hF := gi_pos hF cc0
    refine lv_lookup (tgt := 40) hx hb dX3_sizeOf_5 (by decide) (by rw [cc0]; first | done | rfl) (by decide) ?_
    refine lv_iconst (v := 1) hx hb dX3_sizeOf_40 (by decide) ?_
    obtain rfl := Option.some.inj hF
    exact hQ _ _ _ _ _ hP hD hS rfl dX3_sizeOf_41
  · have hF := gi_neg hF cc0
    by_cases cc1 : q_2 = (4 : Int32)
    · have hF := gi_pos hF cc1
      refine lv_lookup (tgt := 42) hx hb dX3_sizeOf_5 (by decide) (by rw [cc1]; first | done | rfl) (by decide) ?_
      refine lv_iconst (v := 2) hx hb dX3_sizeOf_42 (by decide) ?_
      obtain rfl := Option.some.inj hF
      exact hQ _ _ _ _ _ hP hD hS rfl dX3_sizeOf_43
    · have hF := gi_neg hF cc1
      by_cases cc2 : q_2 = (8 : Int32)
      · have hF := gi_pos hF cc2
        refine lv_lookup (tgt := 44) hx hb dX3_sizeOf_5 (by decide) (by rw [cc2]; first | done | rfl) (by decide) ?_
        refine lv_iconst (v := 3) hx hb dX3_sizeOf_44 (by decide) ?_
        obtain rfl := Option.some.inj hF
        exact hQ _ _ _ _ _ hP hD hS rfl dX3_sizeOf_45
      · have hF := gi_neg hF cc2
        refine lv_lookup (tgt := 46) (off := 41) hx hb dX3_sizeOf_5 (by decide) (by show Op.lookupswitch.offset [(2, 35), (4, 37), (8, 39)] _ _ = _; rw [lv_osw cc0 (by decide), lv_osw cc1 (by decide), lv_osw cc2 (by decide)]; first | done | rfl) (by decide) ?_
        refine lv_iconst (v := 4) hx hb dX3_sizeOf_46 (by decide) ?_
        obtain rfl := Option.some.inj hF
        exact hQ _ _ _ _ _ hP hD hS rfl dX3_sizeOf_47

abbrev rmX3_markOf : Room := { frames := 2, cells := 0, slots := 0, locals := 42 }
def fX3_markOf (x1 : Int32) (x2 : Int32) (v_t_size : Int32) (c_t_children : Nat → Int32) : Option (Int32) := (Option.bind (fX3_childrenOf x1 v_t_size c_t_children) (fun q_2 => (Option.bind (fJ6_numberOfTrailingZeros_0f7a4 q_2) (fun q_7 => (Option.bind (fJ6_numberOfLeadingZeros_0f7a4 q_2) (fun q_15 => (gl ((31 : Int32) - q_15) (fun x5_19 => (if x2 = (1 : Int32) then (some q_7) else (if x2 = (2 : Int32) then (Option.bind (fJ6_bitCount_0f7a4 q_2) (fun q_59 => (some (((x5_19 - q_7) + (1 : Int32)) - q_59)))) else (if x2 = (3 : Int32) then (Option.bind (fX3_placesOf x1 v_t_size c_t_children) (fun q_66 => (Option.bind (fJ6_bitCount_0f7a4 q_2) (fun q_70 => (some (q_66 - q_70)))))) else (some x5_19))))))))))))
set_option maxHeartbeats 4000000 in
set_option maxRecDepth 100000 in
theorem kX3_markOf (l : Launch) (D : va_G) (cI cZ cD cG : ClassId) (h_t : Nat) (v_t_size : Int32) (h_t_paths : Nat) (h_t_children : Nat) (h_t_prefixes : Nat) (h_t_depths : Nat) (h_t_froms : Nat) (h_t_tills : Nat) (c_t_children : Nat → Int32) (x1 : Int32) (x2 : Int32) (res : Int32) (hF : fX3_markOf x1 x2 v_t_size c_t_children = some res) : gMi l D (gty cI cZ cD cG) yX3_markOf wsX3_markOf rmX3_markOf [.ref h_t, .int x1, .int x2] [gO h_t 3 [.int v_t_size, .ref h_t_paths, .ref h_t_children, .ref h_t_prefixes, .ref h_t_depths, .ref h_t_froms, .ref h_t_tills], gA h_t_children cI 48 c_t_children] res [gO h_t 3 [.int v_t_size, .ref h_t_paths, .ref h_t_children, .ref h_t_prefixes, .ref h_t_depths, .ref h_t_froms, .ref h_t_tills], gA h_t_children cI 48 c_t_children] := by
  refine gMi.of (cc := cX3_markOf) (maxL := 6) (by decide) rfl (Nat.le_of_ble_eq_true rfl) ?_
  intro p e s m args below meth c A ls Q hx hb hts hown hml hK hA hP hD hS hQ hl
  have hown : s.vm.findClass RX3 = some m.cls := hown
  have hl : lv_has ls 6 [(0, .ref h_t), (1, .int x1), (2, .int x2)] := hl
  rw [fX3_markOf] at hF
  refine lv_aload_n hx hb dX3_markOf_0 rfl (lv_at hl 0 rfl) ?_
  refine lv_iload_n hx hb dX3_markOf_1 rfl (lv_at hl 1 rfl) ?_
  obtain ⟨q_2, hc, hF⟩ := gb_some hF
  refine gcVi (ci := 3) (As := [.int x1]) (rest := []) (pre := [gO h_t 3 [.int v_t_size, .ref h_t_paths, .ref h_t_children, .ref h_t_prefixes, .ref h_t_depths, .ref h_t_froms, .ref h_t_tills], gA h_t_children cI 48 c_t_children]) (post := [gO h_t 3 [.int v_t_size, .ref h_t_paths, .ref h_t_children, .ref h_t_prefixes, .ref h_t_depths, .ref h_t_froms, .ref h_t_tills], gA h_t_children cI 48 c_t_children]) (wr := []) ⟨hx, hb, hml, hown, hts⟩ (kX3_childrenOf l D cI cZ cD cG h_t v_t_size h_t_paths h_t_children h_t_prefixes h_t_depths h_t_froms h_t_tills c_t_children x1 q_2 hc) (cwV 1 hts gX3_markOf_X3_childrenOf rfl rfl rfl (by decide +kernel) ⟨Nat.le_of_ble_eq_true rfl, Nat.le_of_ble_eq_true rfl⟩) hK hP hD hS hA [0, 1] [] rfl rfl (by decide) (by decide) (by decide) 0 rfl rfl rfl hl.1 rfl (Nat.le_of_ble_eq_true rfl) dX3_markOf_2 ⟨Nat.zero_le _, Nat.zero_le _⟩ (fun H locs hP hD hS => ?_)
  have hP : va_P D vwCl [gO h_t 3 [.int v_t_size, .ref h_t_paths, .ref h_t_children, .ref h_t_prefixes, .ref h_t_depths, .ref h_t_froms, .ref h_t_tills], gA h_t_children cI 48 c_t_children] H := hP
  have hD : va_D A [gO h_t 3 [.int v_t_size, .ref h_t_paths, .ref h_t_children, .ref h_t_prefixes, .ref h_t_depths, .ref h_t_froms, .ref h_t_tills], gA h_t_children cI 48 c_t_children] := hD
  refine lv_istore_n (lv' := [(3, .int q_2), (0, .ref h_t), (1, .int x1), (2, .int x2)]) hx hb dX3_markOf_5 rfl hl (by decide) rfl (fun ls hl => ?_)
  refine lv_iload_n hx hb dX3_markOf_6 rfl (lv_at hl 0 rfl) ?_
  obtain ⟨q_7, hc, hF⟩ := gb_some hF
  refine gcSi (As := [.int q_2]) (rest := []) (pre := []) (post := []) (wr := [gO h_t 3 [.int v_t_size, .ref h_t_paths, .ref h_t_children, .ref h_t_prefixes, .ref h_t_depths, .ref h_t_froms, .ref h_t_tills], gA h_t_children cI 48 c_t_children]) ⟨hx, hb, hml, hown, hts⟩ (kJ6_numberOfTrailingZeros_0f7a4 l D cI cZ cD cG q_2 q_7 hc) (va_cwS 1 hts gX3_markOf_J6_numberOfTrailingZeros_0f7a4 rfl rfl rfl (by decide +kernel) ⟨Nat.le_of_ble_eq_true rfl, Nat.le_of_ble_eq_true rfl⟩) hK hP hD hS hA [] [0, 1] rfl rfl (by decide) (by decide) (by decide) rfl hl.1 rfl (Nat.le_of_ble_eq_true rfl) dX3_markOf_7 ⟨Nat.zero_le _, Nat.zero_le _⟩ (fun H locs hP hD hS => ?_)
  have hP : va_P D vwCl [gO h_t 3 [.int v_t_size, .ref h_t_paths, .ref h_t_children, .ref h_t_prefixes, .ref h_t_depths, .ref h_t_froms, .ref h_t_tills], gA h_t_children cI 48 c_t_children] H := hP
  have hD : va_D A [gO h_t 3 [.int v_t_size, .ref h_t_paths, .ref h_t_children, .ref h_t_prefixes, .ref h_t_depths, .ref h_t_froms, .ref h_t_tills], gA h_t_children cI 48 c_t_children] := hD
  refine lv_istore (lv' := [(4, .int q_7), (3, .int q_2), (0, .ref h_t), (1, .int x1), (2, .int x2)]) hx hb dX3_markOf_10 hl (by decide) rfl (fun ls hl => ?_)
  refine lv_bipush (v := 31) hx hb dX3_markOf_12 (by decide) ?_
  refine lv_iload_n hx hb dX3_markOf_14 rfl (lv_at hl 1 rfl) ?_
  obtain ⟨q_15, hc, hF⟩ := gb_some hF
  refine gcSi (As := [.int q_2]) (rest := [.int (31 : Int32)]) (pre := []) (post := []) (wr := [gO h_t 3 [.int v_t_size, .ref h_t_paths, .ref h_t_children, .ref h_t_prefixes, .ref h_t_depths, .ref h_t_froms, .ref h_t_tills], gA h_t_children cI 48 c_t_children]) ⟨hx, hb, hml, hown, hts⟩ (kJ6_numberOfLeadingZeros_0f7a4 l D cI cZ cD cG q_2 q_15 hc) (va_cwS 1 hts gX3_markOf_J6_numberOfLeadingZeros_0f7a4 rfl rfl rfl (by decide +kernel) ⟨Nat.le_of_ble_eq_true rfl, Nat.le_of_ble_eq_true rfl⟩) hK hP hD hS hA [] [0, 1] rfl rfl (by decide) (by decide) (by decide) rfl hl.1 rfl (Nat.le_of_ble_eq_true rfl) dX3_markOf_15 ⟨Nat.zero_le _, Nat.zero_le _⟩ (fun H locs hP hD hS => ?_)
  have hP : va_P D vwCl [gO h_t 3 [.int v_t_size, .ref h_t_paths, .ref h_t_children, .ref h_t_prefixes, .ref h_t_depths, .ref h_t_froms, .ref h_t_tills], gA h_t_children cI 48 c_t_children] H := hP
  have hD : va_D A [gO h_t 3 [.int v_t_size, .ref h_t_paths, .ref h_t_children, .ref h_t_prefixes, .ref h_t_depths, .ref h_t_froms, .ref h_t_tills], gA h_t_children cI 48 c_t_children] := hD
  refine lv_isub hx hb dX3_markOf_18 ?_
  refine lv_topi (fun x5_19 ex => ?_)
  have hF := gl_some hF ex
  refine lv_istore (lv' := [(5, .int x5_19), (4, .int q_7), (3, .int q_2), (0, .ref h_t), (1, .int x1), (2, .int x2)]) hx hb dX3_markOf_19 hl (by decide) rfl (fun ls hl => ?_)
  refine lv_iload_n hx hb dX3_markOf_21 rfl (lv_at hl 5 rfl) ?_
  by_cases cc0 : x2 = (1 : Int32)
  · have hF := gi_pos hF cc0
    refine lv_tableIn (tgt := 48) hx hb dX3_markOf_22 (by rw [cc0]; decide) (by rw [cc0]; decide) (by rw [cc0]; rfl) (by decide) ?_
    refine lv_iload hx hb dX3_markOf_48 (lv_at hl 1 rfl) ?_
    obtain rfl := Option.some.inj hF
    exact hQ _ _ _ _ _ hP hD hS rfl dX3_markOf_50
  · have hF := gi_neg hF cc0
    by_cases cc1 : x2 = (2 : Int32)
    · have hF := gi_pos hF cc1
      refine lv_tableIn (tgt := 51) hx hb dX3_markOf_22 (by rw [cc1]; decide) (by rw [cc1]; decide) (by rw [cc1]; rfl) (by decide) ?_
      refine lv_iload hx hb dX3_markOf_51 (lv_at hl 0 rfl) ?_
      refine lv_iload hx hb dX3_markOf_53 (lv_at hl 1 rfl) ?_
      refine lv_isub hx hb dX3_markOf_55 ?_
      refine lv_iconst (v := 1) hx hb dX3_markOf_56 (by decide) ?_
      refine lv_iadd hx hb dX3_markOf_57 ?_
      refine lv_iload_n hx hb dX3_markOf_58 rfl (lv_at hl 2 rfl) ?_
      obtain ⟨q_59, hc, hF⟩ := gb_some hF
      refine gcSi (As := [.int q_2]) (rest := [.int ((x5_19 - q_7) + (1 : Int32))]) (pre := []) (post := []) (wr := [gO h_t 3 [.int v_t_size, .ref h_t_paths, .ref h_t_children, .ref h_t_prefixes, .ref h_t_depths, .ref h_t_froms, .ref h_t_tills], gA h_t_children cI 48 c_t_children]) ⟨hx, hb, hml, hown, hts⟩ (kJ6_bitCount_0f7a4 l D cI cZ cD cG q_2 q_59 hc) (va_cwS 1 hts gX3_markOf_J6_bitCount_0f7a4 rfl rfl rfl (by decide +kernel) ⟨Nat.le_of_ble_eq_true rfl, Nat.le_of_ble_eq_true rfl⟩) hK hP hD hS hA [] [0, 1] rfl rfl (by decide) (by decide) (by decide) rfl hl.1 rfl (Nat.le_of_ble_eq_true rfl) dX3_markOf_59 ⟨Nat.zero_le _, Nat.zero_le _⟩ (fun H locs hP hD hS => ?_)
      have hP : va_P D vwCl [gO h_t 3 [.int v_t_size, .ref h_t_paths, .ref h_t_children, .ref h_t_prefixes, .ref h_t_depths, .ref h_t_froms, .ref h_t_tills], gA h_t_children cI 48 c_t_children] H := hP
      have hD : va_D A [gO h_t 3 [.int v_t_size, .ref h_t_paths, .ref h_t_children, .ref h_t_prefixes, .ref h_t_depths, .ref h_t_froms, .ref h_t_tills], gA h_t_children cI 48 c_t_children] := hD
      refine lv_isub hx hb dX3_markOf_62 ?_
      obtain rfl := Option.some.inj hF
      exact hQ _ _ _ _ _ hP hD hS rfl dX3_markOf_63
    · have hF := gi_neg hF cc1
      by_cases cc2 : x2 = (3 : Int32)
      · have hF := gi_pos hF cc2
        refine lv_tableIn (tgt := 64) hx hb dX3_markOf_22 (by rw [cc2]; decide) (by rw [cc2]; decide) (by rw [cc2]; rfl) (by decide) ?_
        refine lv_aload_n hx hb dX3_markOf_64 rfl (lv_at hl 3 rfl) ?_
        refine lv_iload_n hx hb dX3_markOf_65 rfl (lv_at hl 4 rfl) ?_
        obtain ⟨q_66, hc, hF⟩ := gb_some hF
        refine gcVi (ci := 3) (As := [.int x1]) (rest := []) (pre := [gO h_t 3 [.int v_t_size, .ref h_t_paths, .ref h_t_children, .ref h_t_prefixes, .ref h_t_depths, .ref h_t_froms, .ref h_t_tills], gA h_t_children cI 48 c_t_children]) (post := [gO h_t 3 [.int v_t_size, .ref h_t_paths, .ref h_t_children, .ref h_t_prefixes, .ref h_t_depths, .ref h_t_froms, .ref h_t_tills], gA h_t_children cI 48 c_t_children]) (wr := []) ⟨hx, hb, hml, hown, hts⟩ (kX3_placesOf l D cI cZ cD cG h_t v_t_size h_t_paths h_t_children h_t_prefixes h_t_depths h_t_froms h_t_tills c_t_children x1 q_66 hc) (cwV 1 hts gX3_markOf_X3_placesOf rfl rfl rfl (by decide +kernel) ⟨Nat.le_of_ble_eq_true rfl, Nat.le_of_ble_eq_true rfl⟩) hK hP hD hS hA [0, 1] [] rfl rfl (by decide) (by decide) (by decide) 0 rfl rfl rfl hl.1 rfl (Nat.le_of_ble_eq_true rfl) dX3_markOf_66 ⟨Nat.zero_le _, Nat.zero_le _⟩ (fun H locs hP hD hS => ?_)
        have hP : va_P D vwCl [gO h_t 3 [.int v_t_size, .ref h_t_paths, .ref h_t_children, .ref h_t_prefixes, .ref h_t_depths, .ref h_t_froms, .ref h_t_tills], gA h_t_children cI 48 c_t_children] H := hP
        have hD : va_D A [gO h_t 3 [.int v_t_size, .ref h_t_paths, .ref h_t_children, .ref h_t_prefixes, .ref h_t_depths, .ref h_t_froms, .ref h_t_tills], gA h_t_children cI 48 c_t_children] := hD
        refine lv_iload_n hx hb dX3_markOf_69 rfl (lv_at hl 2 rfl) ?_
        obtain ⟨q_70, hc, hF⟩ := gb_some hF
        refine gcSi (As := [.int q_2]) (rest := [.int q_66]) (pre := []) (post := []) (wr := [gO h_t 3 [.int v_t_size, .ref h_t_paths, .ref h_t_children, .ref h_t_prefixes, .ref h_t_depths, .ref h_t_froms, .ref h_t_tills], gA h_t_children cI 48 c_t_children]) ⟨hx, hb, hml, hown, hts⟩ (kJ6_bitCount_0f7a4 l D cI cZ cD cG q_2 q_70 hc) (va_cwS 1 hts gX3_markOf_J6_bitCount_0f7a4 rfl rfl rfl (by decide +kernel) ⟨Nat.le_of_ble_eq_true rfl, Nat.le_of_ble_eq_true rfl⟩) hK hP hD hS hA [] [0, 1] rfl rfl (by decide) (by decide) (by decide) rfl hl.1 rfl (Nat.le_of_ble_eq_true rfl) dX3_markOf_70 ⟨Nat.zero_le _, Nat.zero_le _⟩ (fun H locs hP hD hS => ?_)
        have hP : va_P D vwCl [gO h_t 3 [.int v_t_size, .ref h_t_paths, .ref h_t_children, .ref h_t_prefixes, .ref h_t_depths, .ref h_t_froms, .ref h_t_tills], gA h_t_children cI 48 c_t_children] H := hP
        have hD : va_D A [gO h_t 3 [.int v_t_size, .ref h_t_paths, .ref h_t_children, .ref h_t_prefixes, .ref h_t_depths, .ref h_t_froms, .ref h_t_tills], gA h_t_children cI 48 c_t_children] := hD
        refine lv_isub hx hb dX3_markOf_73 ?_
        obtain rfl := Option.some.inj hF
        exact hQ _ _ _ _ _ hP hD hS rfl dX3_markOf_74
      · have hF := gi_neg hF cc2
        refine lv_tableOut (tgt := 75) hx hb dX3_markOf_22 (by have z : ∀ k : Int32, ¬ x2 = k → x2.toInt ≠ k.toInt := fun k hk e => hk (Int32.toInt_inj.mp e); have z0 : x2.toInt ≠ 1 := z 1 cc0; have z1 : x2.toInt ≠ 2 := z 2 cc1; have z2 : x2.toInt ≠ 3 := z 3 cc2; omega) (by decide) ?_
        refine lv_iload hx hb dX3_markOf_75 (lv_at hl 0 rfl) ?_
        obtain rfl := Option.some.inj hF
        exact hQ _ _ _ _ _ hP hD hS rfl dX3_markOf_77

abbrev rmX3_seatOf : Room := { frames := 0, cells := 0, slots := 0, locals := 0 }
def fX3_seatOf_L2 (v_t_size : Int32) (c_t_paths : Nat → Int32) (x1 : Int32) : Nat → Int32 → Option (Int32)
  | 0, _ => none
  | n_2 + 1, x2_2 => (if v_t_size ≤ x2_2 then (some (-1 : Int32)) else (gx x2_2 48 (if (c_t_paths (x2_2).toNatClampNeg) = x1 then (some x2_2) else (gl (x2_2 + 1) (fun x2_22 => (fX3_seatOf_L2 v_t_size c_t_paths x1 n_2 x2_22))))))
def fX3_seatOf (x1 : Int32) (v_t_size : Int32) (c_t_paths : Nat → Int32) : Option (Int32) := (fX3_seatOf_L2 v_t_size c_t_paths x1 gF (0 : Int32))
set_option maxHeartbeats 4000000 in
set_option maxRecDepth 100000 in
theorem kX3_seatOf (l : Launch) (D : va_G) (cI cZ cD cG : ClassId) (h_t : Nat) (v_t_size : Int32) (h_t_paths : Nat) (h_t_children : Nat) (h_t_prefixes : Nat) (h_t_depths : Nat) (h_t_froms : Nat) (h_t_tills : Nat) (c_t_paths : Nat → Int32) (x1 : Int32) (res : Int32) (hF : fX3_seatOf x1 v_t_size c_t_paths = some res) : gMi l D (gty cI cZ cD cG) yX3_seatOf wsX3_seatOf rmX3_seatOf [.ref h_t, .int x1] [gO h_t 3 [.int v_t_size, .ref h_t_paths, .ref h_t_children, .ref h_t_prefixes, .ref h_t_depths, .ref h_t_froms, .ref h_t_tills], gA h_t_paths cI 48 c_t_paths] res [gO h_t 3 [.int v_t_size, .ref h_t_paths, .ref h_t_children, .ref h_t_prefixes, .ref h_t_depths, .ref h_t_froms, .ref h_t_tills], gA h_t_paths cI 48 c_t_paths] := by
  refine gMi.of (cc := cX3_seatOf) (maxL := 3) (by decide) rfl (Nat.le_of_ble_eq_true rfl) ?_
  intro p e s m args below meth c A ls Q hx hb hts hown hml hK hA hP hD hS hQ hl
  have hown : s.vm.findClass RX3 = some m.cls := hown
  have hl : lv_has ls 3 [(0, .ref h_t), (1, .int x1)] := hl
  have hw0 := hts (.fieldLink RX3 9 "NibbleTrunk$Nodes" "size" "I") (by decide +kernel)
  have hinX3 : ∀ w ∈ wsX30, w ∈ wsX3_seatOf := by decide +kernel
  have hw2 := hts (.fieldLink RX3 15 "NibbleTrunk$Nodes" "paths" "[I") (by decide +kernel)
  rw [fX3_seatOf] at hF
  refine lv_iconst (v := 0) hx hb dX3_seatOf_0 (by decide) ?_
  refine lv_istore_n (lv' := [(2, .int (0 : Int32)), (0, .ref h_t), (1, .int x1)]) hx hb dX3_seatOf_1 rfl hl (by decide) rfl (fun ls hl => ?_)
  have Ln_2 : ∀ (n_2 : Nat) (x2_2 : Int32) (H : Heap) (locs : List Loc) (ls : Array Slot), fX3_seatOf_L2 v_t_size c_t_paths x1 n_2 x2_2 = some res → va_P D vwCl [gO h_t 3 [.int v_t_size, .ref h_t_paths, .ref h_t_children, .ref h_t_prefixes, .ref h_t_depths, .ref h_t_froms, .ref h_t_tills], gA h_t_paths cI 48 c_t_paths] H → va_D A [gO h_t 3 [.int v_t_size, .ref h_t_paths, .ref h_t_children, .ref h_t_prefixes, .ref h_t_depths, .ref h_t_froms, .ref h_t_tills], gA h_t_paths cI 48 c_t_paths] → va_S A s.heap H locs → lv_has ls 3 [(0, .ref h_t), (1, .int x1), (2, .int x2_2)] → W p l e rmX3_seatOf s m args below meth c H locs 0 0 Q (F0 m 2 ls []) := by
    intro n_2
    induction n_2 with
    | zero =>
      intro x2_2 H locs ls hF
      rw [fX3_seatOf_L2] at hF
      cases hF
    | succ n_2 ih2 =>
      intro x2_2 H locs ls hF hP hD hS hl
      rw [fX3_seatOf_L2] at hF
      refine lv_iload_n hx hb dX3_seatOf_2 rfl (lv_at hl 2 rfl) ?_
      refine lv_aload_n hx hb dX3_seatOf_3 rfl (lv_at hl 0 rfl) ?_
      refine va_get (D := D) (ci := 3) (v := .int v_t_size) (C := RX3) (T := TX3) (N := 7) hx hb hts hinX3 hown hK hP 0 rfl rfl 0 (by decide) hw0 (fun _ h9 => h9) rfl dX3_seatOf_4 ?_
      refine lv_icmp_ge (tgt := 28) hx hb dX3_seatOf_7 (by decide) (fun cc => ?_) (fun cc => ?_)
      · have hF := gi_pos hF cc
        refine lv_iconst (v := (-1)) hx hb dX3_seatOf_28 (by decide) ?_
        obtain rfl := Option.some.inj hF
        exact hQ _ _ _ _ _ hP hD hS rfl dX3_seatOf_29
      · have hF := gi_neg hF cc
        refine lv_aload_n hx hb dX3_seatOf_10 rfl (lv_at hl 0 rfl) ?_
        refine va_get (D := D) (ci := 3) (v := .ref h_t_paths) (C := RX3) (T := TX3) (N := 7) hx hb hts hinX3 hown hK hP 0 rfl rfl 1 (by decide) hw2 (fun _ h9 => h9) rfl dX3_seatOf_11 ?_
        refine lv_iload_n hx hb dX3_seatOf_14 rfl (lv_at hl 2 rfl) ?_
        obtain ⟨hin, hF⟩ := gx_some hF
        refine va_iald hx hb hK hP 1 0 rfl rfl hin dX3_seatOf_15 ?_
        refine lv_iload_n hx hb dX3_seatOf_16 rfl (lv_at hl 1 rfl) ?_
        refine lv_icmp_ne (tgt := 22) hx hb dX3_seatOf_17 (by decide) (fun cc => ?_) (fun cc => ?_)
        · have hF := gi_neg hF cc
          obtain ⟨x2_22, ex⟩ : ∃ y : Int32, y = (x2_2 + 1) := ⟨_, rfl⟩
          have hF := gl_some hF ex
          refine lv_iinc (v := x2_22) (lv' := [(2, .int x2_22), (0, .ref h_t), (1, .int x1)]) hx hb dX3_seatOf_22 hl (k := 2) rfl (by rw [ex]; rfl) (by decide) rfl (fun ls hl => ?_)
          refine lv_goto (tgt := 2) hx hb dX3_seatOf_25 (by decide) ?_
          exact ih2 x2_22 _ _ _ hF hP hD hS (lv_sub hl [1, 2, 0] rfl)
        · have hF := gi_pos hF cc
          refine lv_iload_n hx hb dX3_seatOf_20 rfl (lv_at hl 2 rfl) ?_
          obtain rfl := Option.some.inj hF
          exact hQ _ _ _ _ _ hP hD hS rfl dX3_seatOf_21
  exact Ln_2 gF (0 : Int32) _ _ _ hF hP hD hS (lv_sub hl [1, 2, 0] rfl)

abbrev rmX3_countOnWayTo : Room := { frames := 2, cells := 0, slots := 0, locals := 42 }
def fX3_countOnWayTo_L4 (v_t_size : Int32) (c_t_paths : Nat → Int32) (x1 : Int32) : Nat → Int32 → Int32 → Option (Int32)
  | 0, _, _ => none
  | n_4 + 1, x2_4, x3_4 => (if v_t_size ≤ x3_4 then (some x2_4) else (gx x3_4 48 (Option.bind (fX6_isHeadOf (c_t_paths (x3_4).toNatClampNeg) x1) (fun q_19 => (Option.bind (α := Int32) (if q_19 = 0 then (some x2_4) else (gl (x2_4 + 1) (fun x2_25 => (some x2_25)))) (fun q_28 => (gl (x3_4 + 1) (fun x3_28 => (fX3_countOnWayTo_L4 v_t_size c_t_paths x1 n_4 q_28 x3_28)))))))))
def fX3_countOnWayTo (x1 : Int32) (v_t_size : Int32) (c_t_paths : Nat → Int32) : Option (Int32) := (Option.bind (fX3_countOnWayTo_L4 v_t_size c_t_paths x1 gF (0 : Int32) (0 : Int32)) (fun q_4 => (some q_4)))
set_option maxHeartbeats 4000000 in
set_option maxRecDepth 100000 in
theorem kX3_countOnWayTo (l : Launch) (D : va_G) (cI cZ cD cG : ClassId) (h_t : Nat) (v_t_size : Int32) (h_t_paths : Nat) (h_t_children : Nat) (h_t_prefixes : Nat) (h_t_depths : Nat) (h_t_froms : Nat) (h_t_tills : Nat) (c_t_paths : Nat → Int32) (x1 : Int32) (res : Int32) (hF : fX3_countOnWayTo x1 v_t_size c_t_paths = some res) : gMi l D (gty cI cZ cD cG) yX3_countOnWayTo wsX3_countOnWayTo rmX3_countOnWayTo [.ref h_t, .int x1] [gO h_t 3 [.int v_t_size, .ref h_t_paths, .ref h_t_children, .ref h_t_prefixes, .ref h_t_depths, .ref h_t_froms, .ref h_t_tills], gA h_t_paths cI 48 c_t_paths] res [gO h_t 3 [.int v_t_size, .ref h_t_paths, .ref h_t_children, .ref h_t_prefixes, .ref h_t_depths, .ref h_t_froms, .ref h_t_tills], gA h_t_paths cI 48 c_t_paths] := by
  refine gMi.of (cc := cX3_countOnWayTo) (maxL := 4) (by decide) rfl (Nat.le_of_ble_eq_true rfl) ?_
  intro p e s m args below meth c A ls Q hx hb hts hown hml hK hA hP hD hS hQ hl
  have hown : s.vm.findClass RX3 = some m.cls := hown
  have hl : lv_has ls 4 [(0, .ref h_t), (1, .int x1)] := hl
  have hw0 := hts (.fieldLink RX3 9 "NibbleTrunk$Nodes" "size" "I") (by decide +kernel)
  have hinX3 : ∀ w ∈ wsX30, w ∈ wsX3_countOnWayTo := by decide +kernel
  have hw2 := hts (.fieldLink RX3 15 "NibbleTrunk$Nodes" "paths" "[I") (by decide +kernel)
  rw [fX3_countOnWayTo] at hF
  refine lv_iconst (v := 0) hx hb dX3_countOnWayTo_0 (by decide) ?_
  refine lv_istore_n (lv' := [(2, .int (0 : Int32)), (0, .ref h_t), (1, .int x1)]) hx hb dX3_countOnWayTo_1 rfl hl (by decide) rfl (fun ls hl => ?_)
  refine lv_iconst (v := 0) hx hb dX3_countOnWayTo_2 (by decide) ?_
  refine lv_istore_n (lv' := [(3, .int (0 : Int32)), (2, .int (0 : Int32)), (0, .ref h_t), (1, .int x1)]) hx hb dX3_countOnWayTo_3 rfl hl (by decide) rfl (fun ls hl => ?_)
  obtain ⟨q_4, hR, hF⟩ := gb_some hF
  have En_4 : ∀ (H : Heap) (locs : List Loc) (ls : Array Slot), va_P D vwCl [gO h_t 3 [.int v_t_size, .ref h_t_paths, .ref h_t_children, .ref h_t_prefixes, .ref h_t_depths, .ref h_t_froms, .ref h_t_tills], gA h_t_paths cI 48 c_t_paths] H → va_D A [gO h_t 3 [.int v_t_size, .ref h_t_paths, .ref h_t_children, .ref h_t_prefixes, .ref h_t_depths, .ref h_t_froms, .ref h_t_tills], gA h_t_paths cI 48 c_t_paths] → va_S A s.heap H locs → lv_has ls 4 [(2, .int q_4)] → W p l e rmX3_countOnWayTo s m args below meth c H locs 0 0 Q (F0 m 34 ls []) := by
    intro H locs ls hP hD hS hl
    refine lv_iload_n hx hb dX3_countOnWayTo_34 rfl (lv_at hl 0 rfl) ?_
    obtain rfl := Option.some.inj hF
    exact hQ _ _ _ _ _ hP hD hS rfl dX3_countOnWayTo_35
  clear hF
  have Ln_4 : ∀ (n_4 : Nat) (x2_4 : Int32) (x3_4 : Int32) (H : Heap) (locs : List Loc) (ls : Array Slot), fX3_countOnWayTo_L4 v_t_size c_t_paths x1 n_4 x2_4 x3_4 = some q_4 → va_P D vwCl [gO h_t 3 [.int v_t_size, .ref h_t_paths, .ref h_t_children, .ref h_t_prefixes, .ref h_t_depths, .ref h_t_froms, .ref h_t_tills], gA h_t_paths cI 48 c_t_paths] H → va_D A [gO h_t 3 [.int v_t_size, .ref h_t_paths, .ref h_t_children, .ref h_t_prefixes, .ref h_t_depths, .ref h_t_froms, .ref h_t_tills], gA h_t_paths cI 48 c_t_paths] → va_S A s.heap H locs → lv_has ls 4 [(0, .ref h_t), (1, .int x1), (2, .int x2_4), (3, .int x3_4)] → W p l e rmX3_countOnWayTo s m args below meth c H locs 0 0 Q (F0 m 4 ls []) := by
    intro n_4
    induction n_4 with
    | zero =>
      intro x2_4 x3_4 H locs ls hF
      rw [fX3_countOnWayTo_L4] at hF
      cases hF
    | succ n_4 ih4 =>
      intro x2_4 x3_4 H locs ls hF hP hD hS hl
      rw [fX3_countOnWayTo_L4] at hF
      refine lv_iload_n hx hb dX3_countOnWayTo_4 rfl (lv_at hl 3 rfl) ?_
      refine lv_aload_n hx hb dX3_countOnWayTo_5 rfl (lv_at hl 0 rfl) ?_
      refine va_get (D := D) (ci := 3) (v := .int v_t_size) (C := RX3) (T := TX3) (N := 7) hx hb hts hinX3 hown hK hP 0 rfl rfl 0 (by decide) hw0 (fun _ h9 => h9) rfl dX3_countOnWayTo_6 ?_
      refine lv_icmp_ge (tgt := 34) hx hb dX3_countOnWayTo_9 (by decide) (fun cc => ?_) (fun cc => ?_)
      · have hF := gi_pos hF cc
        obtain rfl := Option.some.inj hF
        exact En_4 _ _ _ hP hD hS (lv_sub hl [2] rfl)
      · have hF := gi_neg hF cc
        refine lv_aload_n hx hb dX3_countOnWayTo_12 rfl (lv_at hl 0 rfl) ?_
        refine va_get (D := D) (ci := 3) (v := .ref h_t_paths) (C := RX3) (T := TX3) (N := 7) hx hb hts hinX3 hown hK hP 0 rfl rfl 1 (by decide) hw2 (fun _ h9 => h9) rfl dX3_countOnWayTo_13 ?_
        refine lv_iload_n hx hb dX3_countOnWayTo_16 rfl (lv_at hl 3 rfl) ?_
        obtain ⟨hin, hF⟩ := gx_some hF
        refine va_iald hx hb hK hP 1 0 rfl rfl hin dX3_countOnWayTo_17 ?_
        refine lv_iload_n hx hb dX3_countOnWayTo_18 rfl (lv_at hl 1 rfl) ?_
        obtain ⟨q_19, hc, hF⟩ := gb_some hF
        refine gcSz (As := [.int (c_t_paths (x3_4).toNatClampNeg), .int x1]) (rest := []) (pre := []) (post := []) (wr := [gO h_t 3 [.int v_t_size, .ref h_t_paths, .ref h_t_children, .ref h_t_prefixes, .ref h_t_depths, .ref h_t_froms, .ref h_t_tills], gA h_t_paths cI 48 c_t_paths]) ⟨hx, hb, hml, hown, hts⟩ (kX6_isHeadOf l D cI cZ cD cG (c_t_paths (x3_4).toNatClampNeg) x1 q_19 hc) (va_cwS 2 hts gX3_countOnWayTo_X6_isHeadOf rfl rfl rfl (by decide +kernel) ⟨Nat.le_of_ble_eq_true rfl, Nat.le_of_ble_eq_true rfl⟩) hK hP hD hS hA [] [0, 1] rfl rfl (by decide) (by decide) (by decide) rfl hl.1 rfl (Nat.le_of_ble_eq_true rfl) dX3_countOnWayTo_19 ⟨Nat.zero_le _, Nat.zero_le _⟩ (fun H locs hnq_19 hP hD hS => ?_)
        have hP : va_P D vwCl [gO h_t 3 [.int v_t_size, .ref h_t_paths, .ref h_t_children, .ref h_t_prefixes, .ref h_t_depths, .ref h_t_froms, .ref h_t_tills], gA h_t_paths cI 48 c_t_paths] H := hP
        have hD : va_D A [gO h_t 3 [.int v_t_size, .ref h_t_paths, .ref h_t_children, .ref h_t_prefixes, .ref h_t_depths, .ref h_t_froms, .ref h_t_tills], gA h_t_paths cI 48 c_t_paths] := hD
        obtain ⟨q_28, hR, hF⟩ := gb_some hF
        have Jn_28 : ∀ (H : Heap) (locs : List Loc) (ls : Array Slot), va_P D vwCl [gO h_t 3 [.int v_t_size, .ref h_t_paths, .ref h_t_children, .ref h_t_prefixes, .ref h_t_depths, .ref h_t_froms, .ref h_t_tills], gA h_t_paths cI 48 c_t_paths] H → va_D A [gO h_t 3 [.int v_t_size, .ref h_t_paths, .ref h_t_children, .ref h_t_prefixes, .ref h_t_depths, .ref h_t_froms, .ref h_t_tills], gA h_t_paths cI 48 c_t_paths] → va_S A s.heap H locs → lv_has ls 4 [(0, .ref h_t), (1, .int x1), (2, .int q_28), (3, .int x3_4)] → W p l e rmX3_countOnWayTo s m args below meth c H locs 0 0 Q (F0 m 28 ls []) := by
          intro H locs ls hP hD hS hl
          obtain ⟨x3_28, ex⟩ : ∃ y : Int32, y = (x3_4 + 1) := ⟨_, rfl⟩
          have hF := gl_some hF ex
          refine lv_iinc (v := x3_28) (lv' := [(3, .int x3_28), (0, .ref h_t), (1, .int x1), (2, .int q_28)]) hx hb dX3_countOnWayTo_28 hl (k := 3) rfl (by rw [ex]; rfl) (by decide) rfl (fun ls hl => ?_)
          refine lv_goto (tgt := 4) hx hb dX3_countOnWayTo_31 (by decide) ?_
          exact ih4 q_28 x3_28 _ _ _ hF hP hD hS (lv_sub hl [1, 2, 3, 0] rfl)
        clear hF
        have hF := hR
        refine lv_if_eq (tgt := 28) hx hb dX3_countOnWayTo_22 (by decide) (fun cc => ?_) (fun cc => ?_)
        · have hF := gi_pos hF cc
          obtain rfl := Option.some.inj hF
          exact Jn_28 _ _ _ hP hD hS (lv_sub hl [0, 1, 2, 3] rfl)
        · have hF := gi_neg hF cc
          obtain ⟨x2_25, ex⟩ : ∃ y : Int32, y = (x2_4 + 1) := ⟨_, rfl⟩
          have hF := gl_some hF ex
          refine lv_iinc (v := x2_25) (lv' := [(2, .int x2_25), (0, .ref h_t), (1, .int x1), (3, .int x3_4)]) hx hb dX3_countOnWayTo_25 hl (k := 2) rfl (by rw [ex]; rfl) (by decide) rfl (fun ls hl => ?_)
          obtain rfl := Option.some.inj hF
          exact Jn_28 _ _ _ hP hD hS (lv_sub hl [1, 2, 0, 3] rfl)
  exact Ln_4 gF (0 : Int32) (0 : Int32) _ _ _ hR hP hD hS (lv_sub hl [2, 3, 1, 0] rfl)

abbrev rmX3_countOfSize : Room := { frames := 3, cells := 0, slots := 0, locals := 63 }
def fX3_countOfSize_L4 (v_t_size : Int32) (c_t_children : Nat → Int32) (x1 : Int32) : Nat → Int32 → Int32 → Option (Int32)
  | 0, _, _ => none
  | n_4 + 1, x2_4, x3_4 => (if v_t_size ≤ x3_4 then (some x2_4) else (Option.bind (fX3_sizeOf x3_4 v_t_size c_t_children) (fun q_14 => (Option.bind (α := Int32) (if q_14 = x1 then (gl (x2_4 + 1) (fun x2_21 => (some x2_21))) else (some x2_4)) (fun q_24 => (gl (x3_4 + 1) (fun x3_24 => (fX3_countOfSize_L4 v_t_size c_t_children x1 n_4 q_24 x3_24))))))))
def fX3_countOfSize (x1 : Int32) (v_t_size : Int32) (c_t_children : Nat → Int32) : Option (Int32) := (Option.bind (fX3_countOfSize_L4 v_t_size c_t_children x1 gF (0 : Int32) (0 : Int32)) (fun q_4 => (some q_4)))
set_option maxHeartbeats 4000000 in
set_option maxRecDepth 100000 in
theorem kX3_countOfSize (l : Launch) (D : va_G) (cI cZ cD cG : ClassId) (h_t : Nat) (v_t_size : Int32) (h_t_paths : Nat) (h_t_children : Nat) (h_t_prefixes : Nat) (h_t_depths : Nat) (h_t_froms : Nat) (h_t_tills : Nat) (c_t_children : Nat → Int32) (x1 : Int32) (res : Int32) (hF : fX3_countOfSize x1 v_t_size c_t_children = some res) : gMi l D (gty cI cZ cD cG) yX3_countOfSize wsX3_countOfSize rmX3_countOfSize [.ref h_t, .int x1] [gO h_t 3 [.int v_t_size, .ref h_t_paths, .ref h_t_children, .ref h_t_prefixes, .ref h_t_depths, .ref h_t_froms, .ref h_t_tills], gA h_t_children cI 48 c_t_children] res [gO h_t 3 [.int v_t_size, .ref h_t_paths, .ref h_t_children, .ref h_t_prefixes, .ref h_t_depths, .ref h_t_froms, .ref h_t_tills], gA h_t_children cI 48 c_t_children] := by
  refine gMi.of (cc := cX3_countOfSize) (maxL := 4) (by decide) rfl (Nat.le_of_ble_eq_true rfl) ?_
  intro p e s m args below meth c A ls Q hx hb hts hown hml hK hA hP hD hS hQ hl
  have hown : s.vm.findClass RX3 = some m.cls := hown
  have hl : lv_has ls 4 [(0, .ref h_t), (1, .int x1)] := hl
  have hw0 := hts (.fieldLink RX3 9 "NibbleTrunk$Nodes" "size" "I") (by decide +kernel)
  have hinX3 : ∀ w ∈ wsX30, w ∈ wsX3_countOfSize := by decide +kernel
  rw [fX3_countOfSize] at hF
  refine lv_iconst (v := 0) hx hb dX3_countOfSize_0 (by decide) ?_
  refine lv_istore_n (lv' := [(2, .int (0 : Int32)), (0, .ref h_t), (1, .int x1)]) hx hb dX3_countOfSize_1 rfl hl (by decide) rfl (fun ls hl => ?_)
  refine lv_iconst (v := 0) hx hb dX3_countOfSize_2 (by decide) ?_
  refine lv_istore_n (lv' := [(3, .int (0 : Int32)), (2, .int (0 : Int32)), (0, .ref h_t), (1, .int x1)]) hx hb dX3_countOfSize_3 rfl hl (by decide) rfl (fun ls hl => ?_)
  obtain ⟨q_4, hR, hF⟩ := gb_some hF
  have En_4 : ∀ (H : Heap) (locs : List Loc) (ls : Array Slot), va_P D vwCl [gO h_t 3 [.int v_t_size, .ref h_t_paths, .ref h_t_children, .ref h_t_prefixes, .ref h_t_depths, .ref h_t_froms, .ref h_t_tills], gA h_t_children cI 48 c_t_children] H → va_D A [gO h_t 3 [.int v_t_size, .ref h_t_paths, .ref h_t_children, .ref h_t_prefixes, .ref h_t_depths, .ref h_t_froms, .ref h_t_tills], gA h_t_children cI 48 c_t_children] → va_S A s.heap H locs → lv_has ls 4 [(2, .int q_4)] → W p l e rmX3_countOfSize s m args below meth c H locs 0 0 Q (F0 m 30 ls []) := by
    intro H locs ls hP hD hS hl
    refine lv_iload_n hx hb dX3_countOfSize_30 rfl (lv_at hl 0 rfl) ?_
    obtain rfl := Option.some.inj hF
    exact hQ _ _ _ _ _ hP hD hS rfl dX3_countOfSize_31
  clear hF
  have Ln_4 : ∀ (n_4 : Nat) (x2_4 : Int32) (x3_4 : Int32) (H : Heap) (locs : List Loc) (ls : Array Slot), fX3_countOfSize_L4 v_t_size c_t_children x1 n_4 x2_4 x3_4 = some q_4 → va_P D vwCl [gO h_t 3 [.int v_t_size, .ref h_t_paths, .ref h_t_children, .ref h_t_prefixes, .ref h_t_depths, .ref h_t_froms, .ref h_t_tills], gA h_t_children cI 48 c_t_children] H → va_D A [gO h_t 3 [.int v_t_size, .ref h_t_paths, .ref h_t_children, .ref h_t_prefixes, .ref h_t_depths, .ref h_t_froms, .ref h_t_tills], gA h_t_children cI 48 c_t_children] → va_S A s.heap H locs → lv_has ls 4 [(0, .ref h_t), (1, .int x1), (2, .int x2_4), (3, .int x3_4)] → W p l e rmX3_countOfSize s m args below meth c H locs 0 0 Q (F0 m 4 ls []) := by
    intro n_4
    induction n_4 with
    | zero =>
      intro x2_4 x3_4 H locs ls hF
      rw [fX3_countOfSize_L4] at hF
      cases hF
    | succ n_4 ih4 =>
      intro x2_4 x3_4 H locs ls hF hP hD hS hl
      rw [fX3_countOfSize_L4] at hF
      refine lv_iload_n hx hb dX3_countOfSize_4 rfl (lv_at hl 3 rfl) ?_
      refine lv_aload_n hx hb dX3_countOfSize_5 rfl (lv_at hl 0 rfl) ?_
      refine va_get (D := D) (ci := 3) (v := .int v_t_size) (C := RX3) (T := TX3) (N := 7) hx hb hts hinX3 hown hK hP 0 rfl rfl 0 (by decide) hw0 (fun _ h9 => h9) rfl dX3_countOfSize_6 ?_
      refine lv_icmp_ge (tgt := 30) hx hb dX3_countOfSize_9 (by decide) (fun cc => ?_) (fun cc => ?_)
      · have hF := gi_pos hF cc
        obtain rfl := Option.some.inj hF
        exact En_4 _ _ _ hP hD hS (lv_sub hl [2] rfl)
      · have hF := gi_neg hF cc
        refine lv_aload_n hx hb dX3_countOfSize_12 rfl (lv_at hl 0 rfl) ?_
        refine lv_iload_n hx hb dX3_countOfSize_13 rfl (lv_at hl 3 rfl) ?_
        obtain ⟨q_14, hc, hF⟩ := gb_some hF
        refine gcVi (ci := 3) (As := [.int x3_4]) (rest := []) (pre := [gO h_t 3 [.int v_t_size, .ref h_t_paths, .ref h_t_children, .ref h_t_prefixes, .ref h_t_depths, .ref h_t_froms, .ref h_t_tills], gA h_t_children cI 48 c_t_children]) (post := [gO h_t 3 [.int v_t_size, .ref h_t_paths, .ref h_t_children, .ref h_t_prefixes, .ref h_t_depths, .ref h_t_froms, .ref h_t_tills], gA h_t_children cI 48 c_t_children]) (wr := []) ⟨hx, hb, hml, hown, hts⟩ (kX3_sizeOf l D cI cZ cD cG h_t v_t_size h_t_paths h_t_children h_t_prefixes h_t_depths h_t_froms h_t_tills c_t_children x3_4 q_14 hc) (cwV 1 hts gX3_countOfSize_X3_sizeOf rfl rfl rfl (by decide +kernel) ⟨Nat.le_of_ble_eq_true rfl, Nat.le_of_ble_eq_true rfl⟩) hK hP hD hS hA [0, 1] [] rfl rfl (by decide) (by decide) (by decide) 0 rfl rfl rfl hl.1 rfl (Nat.le_of_ble_eq_true rfl) dX3_countOfSize_14 ⟨Nat.zero_le _, Nat.zero_le _⟩ (fun H locs hP hD hS => ?_)
        have hP : va_P D vwCl [gO h_t 3 [.int v_t_size, .ref h_t_paths, .ref h_t_children, .ref h_t_prefixes, .ref h_t_depths, .ref h_t_froms, .ref h_t_tills], gA h_t_children cI 48 c_t_children] H := hP
        have hD : va_D A [gO h_t 3 [.int v_t_size, .ref h_t_paths, .ref h_t_children, .ref h_t_prefixes, .ref h_t_depths, .ref h_t_froms, .ref h_t_tills], gA h_t_children cI 48 c_t_children] := hD
        refine lv_iload_n hx hb dX3_countOfSize_17 rfl (lv_at hl 1 rfl) ?_
        obtain ⟨q_24, hR, hF⟩ := gb_some hF
        have Jn_24 : ∀ (H : Heap) (locs : List Loc) (ls : Array Slot), va_P D vwCl [gO h_t 3 [.int v_t_size, .ref h_t_paths, .ref h_t_children, .ref h_t_prefixes, .ref h_t_depths, .ref h_t_froms, .ref h_t_tills], gA h_t_children cI 48 c_t_children] H → va_D A [gO h_t 3 [.int v_t_size, .ref h_t_paths, .ref h_t_children, .ref h_t_prefixes, .ref h_t_depths, .ref h_t_froms, .ref h_t_tills], gA h_t_children cI 48 c_t_children] → va_S A s.heap H locs → lv_has ls 4 [(0, .ref h_t), (1, .int x1), (2, .int q_24), (3, .int x3_4)] → W p l e rmX3_countOfSize s m args below meth c H locs 0 0 Q (F0 m 24 ls []) := by
          intro H locs ls hP hD hS hl
          obtain ⟨x3_24, ex⟩ : ∃ y : Int32, y = (x3_4 + 1) := ⟨_, rfl⟩
          have hF := gl_some hF ex
          refine lv_iinc (v := x3_24) (lv' := [(3, .int x3_24), (0, .ref h_t), (1, .int x1), (2, .int q_24)]) hx hb dX3_countOfSize_24 hl (k := 3) rfl (by rw [ex]; rfl) (by decide) rfl (fun ls hl => ?_)
          refine lv_goto (tgt := 4) hx hb dX3_countOfSize_27 (by decide) ?_
          exact ih4 q_24 x3_24 _ _ _ hF hP hD hS (lv_sub hl [1, 2, 3, 0] rfl)
        clear hF
        have hF := hR
        refine lv_icmp_ne (tgt := 24) hx hb dX3_countOfSize_18 (by decide) (fun cc => ?_) (fun cc => ?_)
        · have hF := gi_neg hF cc
          obtain rfl := Option.some.inj hF
          exact Jn_24 _ _ _ hP hD hS (lv_sub hl [0, 1, 2, 3] rfl)
        · have hF := gi_pos hF cc
          obtain ⟨x2_21, ex⟩ : ∃ y : Int32, y = (x2_4 + 1) := ⟨_, rfl⟩
          have hF := gl_some hF ex
          refine lv_iinc (v := x2_21) (lv' := [(2, .int x2_21), (0, .ref h_t), (1, .int x1), (3, .int x3_4)]) hx hb dX3_countOfSize_21 hl (k := 2) rfl (by rw [ex]; rfl) (by decide) rfl (fun ls hl => ?_)
          obtain rfl := Option.some.inj hF
          exact Jn_24 _ _ _ hP hD hS (lv_sub hl [1, 2, 0, 3] rfl)
  exact Ln_4 gF (0 : Int32) (0 : Int32) _ _ _ hR hP hD hS (lv_sub hl [2, 3, 1, 0] rfl)

abbrev rmX3_allPlaces : Room := { frames := 2, cells := 0, slots := 0, locals := 42 }
def fX3_allPlaces_L4 (v_t_size : Int32) (c_t_children : Nat → Int32) : Nat → Int32 → Int32 → Option (Int32)
  | 0, _, _ => none
  | n_4 + 1, x1_4, x2_4 => (if v_t_size ≤ x2_4 then (some x1_4) else (Option.bind (fX3_placesOf x2_4 v_t_size c_t_children) (fun q_15 => (gl (x1_4 + q_15) (fun x1_19 => (gl (x2_4 + 1) (fun x2_20 => (fX3_allPlaces_L4 v_t_size c_t_children n_4 x1_19 x2_20))))))))
def fX3_allPlaces (v_t_size : Int32) (c_t_children : Nat → Int32) : Option (Int32) := (Option.bind (fX3_allPlaces_L4 v_t_size c_t_children gF (0 : Int32) (0 : Int32)) (fun q_4 => (some q_4)))
set_option maxHeartbeats 4000000 in
set_option maxRecDepth 100000 in
theorem kX3_allPlaces (l : Launch) (D : va_G) (cI cZ cD cG : ClassId) (h_t : Nat) (v_t_size : Int32) (h_t_paths : Nat) (h_t_children : Nat) (h_t_prefixes : Nat) (h_t_depths : Nat) (h_t_froms : Nat) (h_t_tills : Nat) (c_t_children : Nat → Int32) (res : Int32) (hF : fX3_allPlaces v_t_size c_t_children = some res) : gMi l D (gty cI cZ cD cG) yX3_allPlaces wsX3_allPlaces rmX3_allPlaces [.ref h_t] [gO h_t 3 [.int v_t_size, .ref h_t_paths, .ref h_t_children, .ref h_t_prefixes, .ref h_t_depths, .ref h_t_froms, .ref h_t_tills], gA h_t_children cI 48 c_t_children] res [gO h_t 3 [.int v_t_size, .ref h_t_paths, .ref h_t_children, .ref h_t_prefixes, .ref h_t_depths, .ref h_t_froms, .ref h_t_tills], gA h_t_children cI 48 c_t_children] := by
  refine gMi.of (cc := cX3_allPlaces) (maxL := 3) (by decide) rfl (Nat.le_of_ble_eq_true rfl) ?_
  intro p e s m args below meth c A ls Q hx hb hts hown hml hK hA hP hD hS hQ hl
  have hown : s.vm.findClass RX3 = some m.cls := hown
  have hl : lv_has ls 3 [(0, .ref h_t)] := hl
  have hw0 := hts (.fieldLink RX3 9 "NibbleTrunk$Nodes" "size" "I") (by decide +kernel)
  have hinX3 : ∀ w ∈ wsX30, w ∈ wsX3_allPlaces := by decide +kernel
  rw [fX3_allPlaces] at hF
  refine lv_iconst (v := 0) hx hb dX3_allPlaces_0 (by decide) ?_
  refine lv_istore_n (lv' := [(1, .int (0 : Int32)), (0, .ref h_t)]) hx hb dX3_allPlaces_1 rfl hl (by decide) rfl (fun ls hl => ?_)
  refine lv_iconst (v := 0) hx hb dX3_allPlaces_2 (by decide) ?_
  refine lv_istore_n (lv' := [(2, .int (0 : Int32)), (1, .int (0 : Int32)), (0, .ref h_t)]) hx hb dX3_allPlaces_3 rfl hl (by decide) rfl (fun ls hl => ?_)
  obtain ⟨q_4, hR, hF⟩ := gb_some hF
  have En_4 : ∀ (H : Heap) (locs : List Loc) (ls : Array Slot), va_P D vwCl [gO h_t 3 [.int v_t_size, .ref h_t_paths, .ref h_t_children, .ref h_t_prefixes, .ref h_t_depths, .ref h_t_froms, .ref h_t_tills], gA h_t_children cI 48 c_t_children] H → va_D A [gO h_t 3 [.int v_t_size, .ref h_t_paths, .ref h_t_children, .ref h_t_prefixes, .ref h_t_depths, .ref h_t_froms, .ref h_t_tills], gA h_t_children cI 48 c_t_children] → va_S A s.heap H locs → lv_has ls 3 [(1, .int q_4)] → W p l e rmX3_allPlaces s m args below meth c H locs 0 0 Q (F0 m 26 ls []) := by
    intro H locs ls hP hD hS hl
    refine lv_iload_n hx hb dX3_allPlaces_26 rfl (lv_at hl 0 rfl) ?_
    obtain rfl := Option.some.inj hF
    exact hQ _ _ _ _ _ hP hD hS rfl dX3_allPlaces_27
  clear hF
  have Ln_4 : ∀ (n_4 : Nat) (x1_4 : Int32) (x2_4 : Int32) (H : Heap) (locs : List Loc) (ls : Array Slot), fX3_allPlaces_L4 v_t_size c_t_children n_4 x1_4 x2_4 = some q_4 → va_P D vwCl [gO h_t 3 [.int v_t_size, .ref h_t_paths, .ref h_t_children, .ref h_t_prefixes, .ref h_t_depths, .ref h_t_froms, .ref h_t_tills], gA h_t_children cI 48 c_t_children] H → va_D A [gO h_t 3 [.int v_t_size, .ref h_t_paths, .ref h_t_children, .ref h_t_prefixes, .ref h_t_depths, .ref h_t_froms, .ref h_t_tills], gA h_t_children cI 48 c_t_children] → va_S A s.heap H locs → lv_has ls 3 [(0, .ref h_t), (1, .int x1_4), (2, .int x2_4)] → W p l e rmX3_allPlaces s m args below meth c H locs 0 0 Q (F0 m 4 ls []) := by
    intro n_4
    induction n_4 with
    | zero =>
      intro x1_4 x2_4 H locs ls hF
      rw [fX3_allPlaces_L4] at hF
      cases hF
    | succ n_4 ih4 =>
      intro x1_4 x2_4 H locs ls hF hP hD hS hl
      rw [fX3_allPlaces_L4] at hF
      refine lv_iload_n hx hb dX3_allPlaces_4 rfl (lv_at hl 2 rfl) ?_
      refine lv_aload_n hx hb dX3_allPlaces_5 rfl (lv_at hl 0 rfl) ?_
      refine va_get (D := D) (ci := 3) (v := .int v_t_size) (C := RX3) (T := TX3) (N := 7) hx hb hts hinX3 hown hK hP 0 rfl rfl 0 (by decide) hw0 (fun _ h9 => h9) rfl dX3_allPlaces_6 ?_
      refine lv_icmp_ge (tgt := 26) hx hb dX3_allPlaces_9 (by decide) (fun cc => ?_) (fun cc => ?_)
      · have hF := gi_pos hF cc
        obtain rfl := Option.some.inj hF
        exact En_4 _ _ _ hP hD hS (lv_sub hl [1] rfl)
      · have hF := gi_neg hF cc
        refine lv_iload_n hx hb dX3_allPlaces_12 rfl (lv_at hl 1 rfl) ?_
        refine lv_aload_n hx hb dX3_allPlaces_13 rfl (lv_at hl 0 rfl) ?_
        refine lv_iload_n hx hb dX3_allPlaces_14 rfl (lv_at hl 2 rfl) ?_
        obtain ⟨q_15, hc, hF⟩ := gb_some hF
        refine gcVi (ci := 3) (As := [.int x2_4]) (rest := [.int x1_4]) (pre := [gO h_t 3 [.int v_t_size, .ref h_t_paths, .ref h_t_children, .ref h_t_prefixes, .ref h_t_depths, .ref h_t_froms, .ref h_t_tills], gA h_t_children cI 48 c_t_children]) (post := [gO h_t 3 [.int v_t_size, .ref h_t_paths, .ref h_t_children, .ref h_t_prefixes, .ref h_t_depths, .ref h_t_froms, .ref h_t_tills], gA h_t_children cI 48 c_t_children]) (wr := []) ⟨hx, hb, hml, hown, hts⟩ (kX3_placesOf l D cI cZ cD cG h_t v_t_size h_t_paths h_t_children h_t_prefixes h_t_depths h_t_froms h_t_tills c_t_children x2_4 q_15 hc) (cwV 1 hts gX3_allPlaces_X3_placesOf rfl rfl rfl (by decide +kernel) ⟨Nat.le_of_ble_eq_true rfl, Nat.le_of_ble_eq_true rfl⟩) hK hP hD hS hA [0, 1] [] rfl rfl (by decide) (by decide) (by decide) 0 rfl rfl rfl hl.1 rfl (Nat.le_of_ble_eq_true rfl) dX3_allPlaces_15 ⟨Nat.zero_le _, Nat.zero_le _⟩ (fun H locs hP hD hS => ?_)
        have hP : va_P D vwCl [gO h_t 3 [.int v_t_size, .ref h_t_paths, .ref h_t_children, .ref h_t_prefixes, .ref h_t_depths, .ref h_t_froms, .ref h_t_tills], gA h_t_children cI 48 c_t_children] H := hP
        have hD : va_D A [gO h_t 3 [.int v_t_size, .ref h_t_paths, .ref h_t_children, .ref h_t_prefixes, .ref h_t_depths, .ref h_t_froms, .ref h_t_tills], gA h_t_children cI 48 c_t_children] := hD
        refine lv_iadd hx hb dX3_allPlaces_18 ?_
        refine lv_topi (fun x1_19 ex => ?_)
        have hF := gl_some hF ex
        refine lv_istore_n (lv' := [(1, .int x1_19), (0, .ref h_t), (2, .int x2_4)]) hx hb dX3_allPlaces_19 rfl hl (by decide) rfl (fun ls hl => ?_)
        obtain ⟨x2_20, ex⟩ : ∃ y : Int32, y = (x2_4 + 1) := ⟨_, rfl⟩
        have hF := gl_some hF ex
        refine lv_iinc (v := x2_20) (lv' := [(2, .int x2_20), (1, .int x1_19), (0, .ref h_t)]) hx hb dX3_allPlaces_20 hl (k := 2) rfl (by rw [ex]; rfl) (by decide) rfl (fun ls hl => ?_)
        refine lv_goto (tgt := 4) hx hb dX3_allPlaces_23 (by decide) ?_
        exact ih4 x1_19 x2_20 _ _ _ hF hP hD hS (lv_sub hl [2, 1, 0] rfl)
  exact Ln_4 gF (0 : Int32) (0 : Int32) _ _ _ hR hP hD hS (lv_sub hl [2, 1, 0] rfl)

abbrev rmX3_deepest : Room := { frames := 1, cells := 0, slots := 0, locals := 21 }
def fX3_deepest_L4 (v_t_size : Int32) (c_t_depths : Nat → Int32) : Nat → Int32 → Int32 → Option (Int32)
  | 0, _, _ => none
  | n_4 + 1, x1_4, x2_4 => (if v_t_size ≤ x2_4 then (some x1_4) else (gx x2_4 48 (gl (if x1_4 < (c_t_depths (x2_4).toNatClampNeg) then (c_t_depths (x2_4).toNatClampNeg) else x1_4) (fun x1_22 => (gl (x2_4 + 1) (fun x2_23 => (fX3_deepest_L4 v_t_size c_t_depths n_4 x1_22 x2_23)))))))
def fX3_deepest (v_t_size : Int32) (c_t_depths : Nat → Int32) : Option (Int32) := (Option.bind (fX3_deepest_L4 v_t_size c_t_depths gF (0 : Int32) (0 : Int32)) (fun q_4 => (some q_4)))
set_option maxHeartbeats 4000000 in
set_option maxRecDepth 100000 in
theorem kX3_deepest (l : Launch) (D : va_G) (cI cZ cD cG : ClassId) (h_t : Nat) (v_t_size : Int32) (h_t_paths : Nat) (h_t_children : Nat) (h_t_prefixes : Nat) (h_t_depths : Nat) (h_t_froms : Nat) (h_t_tills : Nat) (c_t_depths : Nat → Int32) (res : Int32) (hF : fX3_deepest v_t_size c_t_depths = some res) : gMi l D (gty cI cZ cD cG) yX3_deepest wsX3_deepest rmX3_deepest [.ref h_t] [gO h_t 3 [.int v_t_size, .ref h_t_paths, .ref h_t_children, .ref h_t_prefixes, .ref h_t_depths, .ref h_t_froms, .ref h_t_tills], gA h_t_depths cI 48 c_t_depths] res [gO h_t 3 [.int v_t_size, .ref h_t_paths, .ref h_t_children, .ref h_t_prefixes, .ref h_t_depths, .ref h_t_froms, .ref h_t_tills], gA h_t_depths cI 48 c_t_depths] := by
  refine gMi.of (cc := cX3_deepest) (maxL := 3) (by decide) rfl (Nat.le_of_ble_eq_true rfl) ?_
  intro p e s m args below meth c A ls Q hx hb hts hown hml hK hA hP hD hS hQ hl
  have hown : s.vm.findClass RX3 = some m.cls := hown
  have hl : lv_has ls 3 [(0, .ref h_t)] := hl
  have hw0 := hts (.fieldLink RX3 9 "NibbleTrunk$Nodes" "size" "I") (by decide +kernel)
  have hinX3 : ∀ w ∈ wsX30, w ∈ wsX3_deepest := by decide +kernel
  have hw2 := hts (.fieldLink RX3 25 "NibbleTrunk$Nodes" "depths" "[I") (by decide +kernel)
  have hw3 := hts (.methodLink RX3 91 Lib.Math.max.name) (by decide +kernel)
  have hw4 := hts (.static Lib.Math.max.name) (by decide +kernel)
  have hw5 := hts (.initialized "java/lang/Math") (by decide +kernel)
  have hw6 := hts (.code Lib.Math.max.name Lib.Math.max.code 2 (some .int)) (by decide +kernel)
  rw [fX3_deepest] at hF
  refine lv_iconst (v := 0) hx hb dX3_deepest_0 (by decide) ?_
  refine lv_istore_n (lv' := [(1, .int (0 : Int32)), (0, .ref h_t)]) hx hb dX3_deepest_1 rfl hl (by decide) rfl (fun ls hl => ?_)
  refine lv_iconst (v := 0) hx hb dX3_deepest_2 (by decide) ?_
  refine lv_istore_n (lv' := [(2, .int (0 : Int32)), (1, .int (0 : Int32)), (0, .ref h_t)]) hx hb dX3_deepest_3 rfl hl (by decide) rfl (fun ls hl => ?_)
  obtain ⟨q_4, hR, hF⟩ := gb_some hF
  have En_4 : ∀ (H : Heap) (locs : List Loc) (ls : Array Slot), va_P D vwCl [gO h_t 3 [.int v_t_size, .ref h_t_paths, .ref h_t_children, .ref h_t_prefixes, .ref h_t_depths, .ref h_t_froms, .ref h_t_tills], gA h_t_depths cI 48 c_t_depths] H → va_D A [gO h_t 3 [.int v_t_size, .ref h_t_paths, .ref h_t_children, .ref h_t_prefixes, .ref h_t_depths, .ref h_t_froms, .ref h_t_tills], gA h_t_depths cI 48 c_t_depths] → va_S A s.heap H locs → lv_has ls 3 [(1, .int q_4)] → W p l e rmX3_deepest s m args below meth c H locs 0 0 Q (F0 m 29 ls []) := by
    intro H locs ls hP hD hS hl
    refine lv_iload_n hx hb dX3_deepest_29 rfl (lv_at hl 0 rfl) ?_
    obtain rfl := Option.some.inj hF
    exact hQ _ _ _ _ _ hP hD hS rfl dX3_deepest_30
  clear hF
  have Ln_4 : ∀ (n_4 : Nat) (x1_4 : Int32) (x2_4 : Int32) (H : Heap) (locs : List Loc) (ls : Array Slot), fX3_deepest_L4 v_t_size c_t_depths n_4 x1_4 x2_4 = some q_4 → va_P D vwCl [gO h_t 3 [.int v_t_size, .ref h_t_paths, .ref h_t_children, .ref h_t_prefixes, .ref h_t_depths, .ref h_t_froms, .ref h_t_tills], gA h_t_depths cI 48 c_t_depths] H → va_D A [gO h_t 3 [.int v_t_size, .ref h_t_paths, .ref h_t_children, .ref h_t_prefixes, .ref h_t_depths, .ref h_t_froms, .ref h_t_tills], gA h_t_depths cI 48 c_t_depths] → va_S A s.heap H locs → lv_has ls 3 [(0, .ref h_t), (1, .int x1_4), (2, .int x2_4)] → W p l e rmX3_deepest s m args below meth c H locs 0 0 Q (F0 m 4 ls []) := by
    intro n_4
    induction n_4 with
    | zero =>
      intro x1_4 x2_4 H locs ls hF
      rw [fX3_deepest_L4] at hF
      cases hF
    | succ n_4 ih4 =>
      intro x1_4 x2_4 H locs ls hF hP hD hS hl
      rw [fX3_deepest_L4] at hF
      refine lv_iload_n hx hb dX3_deepest_4 rfl (lv_at hl 2 rfl) ?_
      refine lv_aload_n hx hb dX3_deepest_5 rfl (lv_at hl 0 rfl) ?_
      refine va_get (D := D) (ci := 3) (v := .int v_t_size) (C := RX3) (T := TX3) (N := 7) hx hb hts hinX3 hown hK hP 0 rfl rfl 0 (by decide) hw0 (fun _ h9 => h9) rfl dX3_deepest_6 ?_
      refine lv_icmp_ge (tgt := 29) hx hb dX3_deepest_9 (by decide) (fun cc => ?_) (fun cc => ?_)
      · have hF := gi_pos hF cc
        obtain rfl := Option.some.inj hF
        exact En_4 _ _ _ hP hD hS (lv_sub hl [1] rfl)
      · have hF := gi_neg hF cc
        refine lv_iload_n hx hb dX3_deepest_12 rfl (lv_at hl 1 rfl) ?_
        refine lv_aload_n hx hb dX3_deepest_13 rfl (lv_at hl 0 rfl) ?_
        refine va_get (D := D) (ci := 3) (v := .ref h_t_depths) (C := RX3) (T := TX3) (N := 7) hx hb hts hinX3 hown hK hP 0 rfl rfl 4 (by decide) hw2 (fun _ h9 => h9) rfl dX3_deepest_14 ?_
        refine lv_iload_n hx hb dX3_deepest_17 rfl (lv_at hl 2 rfl) ?_
        obtain ⟨hin, hF⟩ := gx_some hF
        refine va_iald hx hb hK hP 1 0 rfl rfl hin dX3_deepest_18 ?_
        refine va_mmax hx hb (hml.trans hl.1.symm) hown hw3 hw4 hw5 hw6 (Nat.le_of_ble_eq_true rfl) (Nat.le_of_ble_eq_true rfl) (Nat.zero_le _) (Nat.zero_le _) dX3_deepest_19 ?_
        refine lv_topi (fun x1_22 ex => ?_)
        have hF := gl_some hF ex
        refine lv_istore_n (lv' := [(1, .int x1_22), (0, .ref h_t), (2, .int x2_4)]) hx hb dX3_deepest_22 rfl hl (by decide) rfl (fun ls hl => ?_)
        obtain ⟨x2_23, ex⟩ : ∃ y : Int32, y = (x2_4 + 1) := ⟨_, rfl⟩
        have hF := gl_some hF ex
        refine lv_iinc (v := x2_23) (lv' := [(2, .int x2_23), (1, .int x1_22), (0, .ref h_t)]) hx hb dX3_deepest_23 hl (k := 2) rfl (by rw [ex]; rfl) (by decide) rfl (fun ls hl => ?_)
        refine lv_goto (tgt := 4) hx hb dX3_deepest_26 (by decide) ?_
        exact ih4 x1_22 x2_23 _ _ _ hF hP hD hS (lv_sub hl [2, 1, 0] rfl)
  exact Ln_4 gF (0 : Int32) (0 : Int32) _ _ _ hR hP hD hS (lv_sub hl [2, 1, 0] rfl)

abbrev rmX3_longestPrefix : Room := { frames := 1, cells := 0, slots := 0, locals := 21 }
def fX3_longestPrefix_L4 (v_t_size : Int32) (c_t_prefixes : Nat → Int32) : Nat → Int32 → Int32 → Option (Int32)
  | 0, _, _ => none
  | n_4 + 1, x1_4, x2_4 => (if v_t_size ≤ x2_4 then (some x1_4) else (gx x2_4 48 (gl (if x1_4 < (c_t_prefixes (x2_4).toNatClampNeg) then (c_t_prefixes (x2_4).toNatClampNeg) else x1_4) (fun x1_22 => (gl (x2_4 + 1) (fun x2_23 => (fX3_longestPrefix_L4 v_t_size c_t_prefixes n_4 x1_22 x2_23)))))))
def fX3_longestPrefix (v_t_size : Int32) (c_t_prefixes : Nat → Int32) : Option (Int32) := (Option.bind (fX3_longestPrefix_L4 v_t_size c_t_prefixes gF (0 : Int32) (0 : Int32)) (fun q_4 => (some q_4)))
set_option maxHeartbeats 4000000 in
set_option maxRecDepth 100000 in
theorem kX3_longestPrefix (l : Launch) (D : va_G) (cI cZ cD cG : ClassId) (h_t : Nat) (v_t_size : Int32) (h_t_paths : Nat) (h_t_children : Nat) (h_t_prefixes : Nat) (h_t_depths : Nat) (h_t_froms : Nat) (h_t_tills : Nat) (c_t_prefixes : Nat → Int32) (res : Int32) (hF : fX3_longestPrefix v_t_size c_t_prefixes = some res) : gMi l D (gty cI cZ cD cG) yX3_longestPrefix wsX3_longestPrefix rmX3_longestPrefix [.ref h_t] [gO h_t 3 [.int v_t_size, .ref h_t_paths, .ref h_t_children, .ref h_t_prefixes, .ref h_t_depths, .ref h_t_froms, .ref h_t_tills], gA h_t_prefixes cI 48 c_t_prefixes] res [gO h_t 3 [.int v_t_size, .ref h_t_paths, .ref h_t_children, .ref h_t_prefixes, .ref h_t_depths, .ref h_t_froms, .ref h_t_tills], gA h_t_prefixes cI 48 c_t_prefixes] := by
  refine gMi.of (cc := cX3_longestPrefix) (maxL := 3) (by decide) rfl (Nat.le_of_ble_eq_true rfl) ?_
  intro p e s m args below meth c A ls Q hx hb hts hown hml hK hA hP hD hS hQ hl
  have hown : s.vm.findClass RX3 = some m.cls := hown
  have hl : lv_has ls 3 [(0, .ref h_t)] := hl
  have hw0 := hts (.fieldLink RX3 9 "NibbleTrunk$Nodes" "size" "I") (by decide +kernel)
  have hinX3 : ∀ w ∈ wsX30, w ∈ wsX3_longestPrefix := by decide +kernel
  have hw2 := hts (.fieldLink RX3 22 "NibbleTrunk$Nodes" "prefixes" "[I") (by decide +kernel)
  have hw3 := hts (.methodLink RX3 91 Lib.Math.max.name) (by decide +kernel)
  have hw4 := hts (.static Lib.Math.max.name) (by decide +kernel)
  have hw5 := hts (.initialized "java/lang/Math") (by decide +kernel)
  have hw6 := hts (.code Lib.Math.max.name Lib.Math.max.code 2 (some .int)) (by decide +kernel)
  rw [fX3_longestPrefix] at hF
  refine lv_iconst (v := 0) hx hb dX3_longestPrefix_0 (by decide) ?_
  refine lv_istore_n (lv' := [(1, .int (0 : Int32)), (0, .ref h_t)]) hx hb dX3_longestPrefix_1 rfl hl (by decide) rfl (fun ls hl => ?_)
  refine lv_iconst (v := 0) hx hb dX3_longestPrefix_2 (by decide) ?_
  refine lv_istore_n (lv' := [(2, .int (0 : Int32)), (1, .int (0 : Int32)), (0, .ref h_t)]) hx hb dX3_longestPrefix_3 rfl hl (by decide) rfl (fun ls hl => ?_)
  obtain ⟨q_4, hR, hF⟩ := gb_some hF
  have En_4 : ∀ (H : Heap) (locs : List Loc) (ls : Array Slot), va_P D vwCl [gO h_t 3 [.int v_t_size, .ref h_t_paths, .ref h_t_children, .ref h_t_prefixes, .ref h_t_depths, .ref h_t_froms, .ref h_t_tills], gA h_t_prefixes cI 48 c_t_prefixes] H → va_D A [gO h_t 3 [.int v_t_size, .ref h_t_paths, .ref h_t_children, .ref h_t_prefixes, .ref h_t_depths, .ref h_t_froms, .ref h_t_tills], gA h_t_prefixes cI 48 c_t_prefixes] → va_S A s.heap H locs → lv_has ls 3 [(1, .int q_4)] → W p l e rmX3_longestPrefix s m args below meth c H locs 0 0 Q (F0 m 29 ls []) := by
    intro H locs ls hP hD hS hl
    refine lv_iload_n hx hb dX3_longestPrefix_29 rfl (lv_at hl 0 rfl) ?_
    obtain rfl := Option.some.inj hF
    exact hQ _ _ _ _ _ hP hD hS rfl dX3_longestPrefix_30
  clear hF
  have Ln_4 : ∀ (n_4 : Nat) (x1_4 : Int32) (x2_4 : Int32) (H : Heap) (locs : List Loc) (ls : Array Slot), fX3_longestPrefix_L4 v_t_size c_t_prefixes n_4 x1_4 x2_4 = some q_4 → va_P D vwCl [gO h_t 3 [.int v_t_size, .ref h_t_paths, .ref h_t_children, .ref h_t_prefixes, .ref h_t_depths, .ref h_t_froms, .ref h_t_tills], gA h_t_prefixes cI 48 c_t_prefixes] H → va_D A [gO h_t 3 [.int v_t_size, .ref h_t_paths, .ref h_t_children, .ref h_t_prefixes, .ref h_t_depths, .ref h_t_froms, .ref h_t_tills], gA h_t_prefixes cI 48 c_t_prefixes] → va_S A s.heap H locs → lv_has ls 3 [(0, .ref h_t), (1, .int x1_4), (2, .int x2_4)] → W p l e rmX3_longestPrefix s m args below meth c H locs 0 0 Q (F0 m 4 ls []) := by
    intro n_4
    induction n_4 with
    | zero =>
      intro x1_4 x2_4 H locs ls hF
      rw [fX3_longestPrefix_L4] at hF
      cases hF
    | succ n_4 ih4 =>
      intro x1_4 x2_4 H locs ls hF hP hD hS hl
      rw [fX3_longestPrefix_L4] at hF
      refine lv_iload_n hx hb dX3_longestPrefix_4 rfl (lv_at hl 2 rfl) ?_
      refine lv_aload_n hx hb dX3_longestPrefix_5 rfl (lv_at hl 0 rfl) ?_
      refine va_get (D := D) (ci := 3) (v := .int v_t_size) (C := RX3) (T := TX3) (N := 7) hx hb hts hinX3 hown hK hP 0 rfl rfl 0 (by decide) hw0 (fun _ h9 => h9) rfl dX3_longestPrefix_6 ?_
      refine lv_icmp_ge (tgt := 29) hx hb dX3_longestPrefix_9 (by decide) (fun cc => ?_) (fun cc => ?_)
      · have hF := gi_pos hF cc
        obtain rfl := Option.some.inj hF
        exact En_4 _ _ _ hP hD hS (lv_sub hl [1] rfl)
      · have hF := gi_neg hF cc
        refine lv_iload_n hx hb dX3_longestPrefix_12 rfl (lv_at hl 1 rfl) ?_
        refine lv_aload_n hx hb dX3_longestPrefix_13 rfl (lv_at hl 0 rfl) ?_
        refine va_get (D := D) (ci := 3) (v := .ref h_t_prefixes) (C := RX3) (T := TX3) (N := 7) hx hb hts hinX3 hown hK hP 0 rfl rfl 3 (by decide) hw2 (fun _ h9 => h9) rfl dX3_longestPrefix_14 ?_
        refine lv_iload_n hx hb dX3_longestPrefix_17 rfl (lv_at hl 2 rfl) ?_
        obtain ⟨hin, hF⟩ := gx_some hF
        refine va_iald hx hb hK hP 1 0 rfl rfl hin dX3_longestPrefix_18 ?_
        refine va_mmax hx hb (hml.trans hl.1.symm) hown hw3 hw4 hw5 hw6 (Nat.le_of_ble_eq_true rfl) (Nat.le_of_ble_eq_true rfl) (Nat.zero_le _) (Nat.zero_le _) dX3_longestPrefix_19 ?_
        refine lv_topi (fun x1_22 ex => ?_)
        have hF := gl_some hF ex
        refine lv_istore_n (lv' := [(1, .int x1_22), (0, .ref h_t), (2, .int x2_4)]) hx hb dX3_longestPrefix_22 rfl hl (by decide) rfl (fun ls hl => ?_)
        obtain ⟨x2_23, ex⟩ : ∃ y : Int32, y = (x2_4 + 1) := ⟨_, rfl⟩
        have hF := gl_some hF ex
        refine lv_iinc (v := x2_23) (lv' := [(2, .int x2_23), (1, .int x1_22), (0, .ref h_t)]) hx hb dX3_longestPrefix_23 hl (k := 2) rfl (by rw [ex]; rfl) (by decide) rfl (fun ls hl => ?_)
        refine lv_goto (tgt := 4) hx hb dX3_longestPrefix_26 (by decide) ?_
        exact ih4 x1_22 x2_23 _ _ _ hF hP hD hS (lv_sub hl [2, 1, 0] rfl)
  exact Ln_4 gF (0 : Int32) (0 : Int32) _ _ _ hR hP hD hS (lv_sub hl [2, 1, 0] rfl)

abbrev rmX3_tellChanges : Room := { frames := 2, cells := 0, slots := 0, locals := 42 }
def fX3_tellChanges_L18 (v_t_size : Int32) (c_t_paths : Nat → Int32) (v_p1_size : Int32) (c_p1_paths : Nat → Int32) (c_p1_children : Nat → Int32) (c_t_children : Nat → Int32) : Nat → Int32 → Int32 → Int32 → Int32 → Option (Int32 × Int32 × Int32)
  | 0, _, _, _, _ => none
  | n_18 + 1, x3_18, x4_18, x5_18, x6_18 => (if v_t_size ≤ x6_18 then (some (x3_18, x4_18, x5_18)) else (gx x6_18 48 (Option.bind (fX3_seatOf (c_t_paths (x6_18).toNatClampNeg) v_p1_size c_p1_paths) (fun q_36 => (Option.bind (fX3_placesOf q_36 v_p1_size c_p1_children) (fun q_39 => (Option.bind (α := Int32 × Int32 × Int32) (if q_39 = 0 then (some (x3_18, x4_18, x5_18)) else (gl (x3_18 + 1) (fun x3_49 => (Option.bind (fX3_placesOf x6_18 v_t_size c_t_children) (fun q_57 => (Option.bind (α := Int32) (if q_57 ≤ q_39 then (some (0 : Int32)) else (some (1 : Int32))) (fun q_70 => (gl (x4_18 + q_70) (fun x4_71 => (Option.bind (fX3_placesOf x6_18 v_t_size c_t_children) (fun q_78 => (Option.bind (α := Int32) (if q_39 ≤ q_78 then (some (0 : Int32)) else (some (1 : Int32))) (fun q_91 => (gl (x5_18 + q_91) (fun x5_92 => (some (x3_49, x4_71, x5_92))))))))))))))))) (fun q_94 => (gl (x6_18 + 1) (fun x6_94 => (fX3_tellChanges_L18 v_t_size c_t_paths v_p1_size c_p1_paths c_p1_children c_t_children n_18 q_94.1 q_94.2.1 q_94.2.2 x6_94)))))))))))
def fX3_tellChanges (n_p2 : Nat) (c_p2 : Nat → Int32) (v_t_size : Int32) (c_t_paths : Nat → Int32) (v_p1_size : Int32) (c_p1_paths : Nat → Int32) (c_p1_children : Nat → Int32) (c_t_children : Nat → Int32) : Option ((Nat → Int32)) := (if (4 : Int32) ≤ (Int32.ofNat n_p2) then (Option.bind (fX3_tellChanges_L18 v_t_size c_t_paths v_p1_size c_p1_paths c_p1_children c_t_children gF (0 : Int32) (0 : Int32) (0 : Int32) (0 : Int32)) (fun q_18 => (gx (0 : Int32) n_p2 (gx (1 : Int32) n_p2 (gx (2 : Int32) n_p2 (gx (3 : Int32) n_p2 (some (upd (upd (upd (upd c_p2 ((0 : Int32)).toNatClampNeg (v_t_size - q_18.1)) ((1 : Int32)).toNatClampNeg (v_p1_size - q_18.1)) ((2 : Int32)).toNatClampNeg q_18.2.1) ((3 : Int32)).toNatClampNeg q_18.2.2)))))))) else (some c_p2))
set_option maxHeartbeats 4000000 in
set_option maxRecDepth 100000 in
theorem kX3_tellChanges (l : Launch) (D : va_G) (cI cZ cD cG : ClassId) (h_t : Nat) (h_p1 : Nat) (h_p2 : Nat) (n_p2 : Nat) (c_p2 : Nat → Int32) (v_t_size : Int32) (h_t_paths : Nat) (h_t_children : Nat) (h_t_prefixes : Nat) (h_t_depths : Nat) (h_t_froms : Nat) (h_t_tills : Nat) (c_t_paths : Nat → Int32) (v_p1_size : Int32) (h_p1_paths : Nat) (h_p1_children : Nat) (h_p1_prefixes : Nat) (h_p1_depths : Nat) (h_p1_froms : Nat) (h_p1_tills : Nat) (c_p1_paths : Nat → Int32) (c_p1_children : Nat → Int32) (c_t_children : Nat → Int32) (res : (Nat → Int32)) (hF : fX3_tellChanges n_p2 c_p2 v_t_size c_t_paths v_p1_size c_p1_paths c_p1_children c_t_children = some res) : gMv l D (gty cI cZ cD cG) yX3_tellChanges wsX3_tellChanges rmX3_tellChanges [.ref h_t, .ref h_p1, .ref h_p2] [gA h_p2 cI n_p2 c_p2, gO h_t 3 [.int v_t_size, .ref h_t_paths, .ref h_t_children, .ref h_t_prefixes, .ref h_t_depths, .ref h_t_froms, .ref h_t_tills], gA h_t_paths cI 48 c_t_paths, gO h_p1 3 [.int v_p1_size, .ref h_p1_paths, .ref h_p1_children, .ref h_p1_prefixes, .ref h_p1_depths, .ref h_p1_froms, .ref h_p1_tills], gA h_p1_paths cI 48 c_p1_paths, gA h_p1_children cI 48 c_p1_children, gA h_t_children cI 48 c_t_children] [gA h_p2 cI n_p2 res, gO h_t 3 [.int v_t_size, .ref h_t_paths, .ref h_t_children, .ref h_t_prefixes, .ref h_t_depths, .ref h_t_froms, .ref h_t_tills], gA h_t_paths cI 48 c_t_paths, gO h_p1 3 [.int v_p1_size, .ref h_p1_paths, .ref h_p1_children, .ref h_p1_prefixes, .ref h_p1_depths, .ref h_p1_froms, .ref h_p1_tills], gA h_p1_paths cI 48 c_p1_paths, gA h_p1_children cI 48 c_p1_children, gA h_t_children cI 48 c_t_children] := by
  refine gMv.of (cc := cX3_tellChanges) (maxL := 8) (by decide) rfl (Nat.le_of_ble_eq_true rfl) ?_
  intro p e s m args below meth c A ls Q hx hb hts hown hml hK hA hP hD hS hQ hl
  have hown : s.vm.findClass RX3 = some m.cls := hown
  have hl : lv_has ls 8 [(0, .ref h_t), (1, .ref h_p1), (2, .ref h_p2)] := hl
  have hw0 := hts (.fieldLink RX3 9 "NibbleTrunk$Nodes" "size" "I") (by decide +kernel)
  have hinX3 : ∀ w ∈ wsX30, w ∈ wsX3_tellChanges := by decide +kernel
  have hw2 := hts (.fieldLink RX3 15 "NibbleTrunk$Nodes" "paths" "[I") (by decide +kernel)
  rw [fX3_tellChanges] at hF
  refine lv_aload_n hx hb dX3_tellChanges_0 rfl (lv_at hl 2 rfl) ?_
  refine va_alen hx hb hK hP 0 0 rfl rfl (v := (Int32.ofNat n_p2)) rfl dX3_tellChanges_1 ?_
  refine lv_iconst (v := 4) hx hb dX3_tellChanges_2 (by decide) ?_
  refine lv_icmp_ge (tgt := 7) hx hb dX3_tellChanges_3 (by decide) (fun cc => ?_) (fun cc => ?_)
  · have hF := gi_pos hF cc
    refine lv_iconst (v := 0) hx hb dX3_tellChanges_7 (by decide) ?_
    refine lv_istore_n (lv' := [(3, .int (0 : Int32)), (0, .ref h_t), (1, .ref h_p1), (2, .ref h_p2)]) hx hb dX3_tellChanges_8 rfl hl (by decide) rfl (fun ls hl => ?_)
    refine lv_iconst (v := 0) hx hb dX3_tellChanges_9 (by decide) ?_
    refine lv_istore (lv' := [(4, .int (0 : Int32)), (3, .int (0 : Int32)), (0, .ref h_t), (1, .ref h_p1), (2, .ref h_p2)]) hx hb dX3_tellChanges_10 hl (by decide) rfl (fun ls hl => ?_)
    refine lv_iconst (v := 0) hx hb dX3_tellChanges_12 (by decide) ?_
    refine lv_istore (lv' := [(5, .int (0 : Int32)), (4, .int (0 : Int32)), (3, .int (0 : Int32)), (0, .ref h_t), (1, .ref h_p1), (2, .ref h_p2)]) hx hb dX3_tellChanges_13 hl (by decide) rfl (fun ls hl => ?_)
    refine lv_iconst (v := 0) hx hb dX3_tellChanges_15 (by decide) ?_
    refine lv_istore (lv' := [(6, .int (0 : Int32)), (5, .int (0 : Int32)), (4, .int (0 : Int32)), (3, .int (0 : Int32)), (0, .ref h_t), (1, .ref h_p1), (2, .ref h_p2)]) hx hb dX3_tellChanges_16 hl (by decide) rfl (fun ls hl => ?_)
    obtain ⟨q_18, hR, hF⟩ := gb_some hF
    have En_18 : ∀ (H : Heap) (locs : List Loc) (ls : Array Slot), va_P D vwCl [gA h_p2 cI n_p2 c_p2, gO h_t 3 [.int v_t_size, .ref h_t_paths, .ref h_t_children, .ref h_t_prefixes, .ref h_t_depths, .ref h_t_froms, .ref h_t_tills], gA h_t_paths cI 48 c_t_paths, gO h_p1 3 [.int v_p1_size, .ref h_p1_paths, .ref h_p1_children, .ref h_p1_prefixes, .ref h_p1_depths, .ref h_p1_froms, .ref h_p1_tills], gA h_p1_paths cI 48 c_p1_paths, gA h_p1_children cI 48 c_p1_children, gA h_t_children cI 48 c_t_children] H → va_D A [gA h_p2 cI n_p2 c_p2, gO h_t 3 [.int v_t_size, .ref h_t_paths, .ref h_t_children, .ref h_t_prefixes, .ref h_t_depths, .ref h_t_froms, .ref h_t_tills], gA h_t_paths cI 48 c_t_paths, gO h_p1 3 [.int v_p1_size, .ref h_p1_paths, .ref h_p1_children, .ref h_p1_prefixes, .ref h_p1_depths, .ref h_p1_froms, .ref h_p1_tills], gA h_p1_paths cI 48 c_p1_paths, gA h_p1_children cI 48 c_p1_children, gA h_t_children cI 48 c_t_children] → va_S A s.heap H locs → lv_has ls 8 [(0, .ref h_t), (1, .ref h_p1), (2, .ref h_p2), (3, .int q_18.1), (4, .int q_18.2.1), (5, .int q_18.2.2)] → W p l e rmX3_tellChanges s m args below meth c H locs 0 0 Q (F0 m 100 ls []) := by
      intro H locs ls hP hD hS hl
      refine lv_aload_n hx hb dX3_tellChanges_100 rfl (lv_at hl 2 rfl) ?_
      refine lv_iconst (v := 0) hx hb dX3_tellChanges_101 (by decide) ?_
      refine lv_aload_n hx hb dX3_tellChanges_102 rfl (lv_at hl 0 rfl) ?_
      refine va_get (D := D) (ci := 3) (v := .int v_t_size) (C := RX3) (T := TX3) (N := 7) hx hb hts hinX3 hown hK hP 1 rfl rfl 0 (by decide) hw0 (fun _ h9 => h9) rfl dX3_tellChanges_103 ?_
      refine lv_iload_n hx hb dX3_tellChanges_106 rfl (lv_at hl 3 rfl) ?_
      refine lv_isub hx hb dX3_tellChanges_107 ?_
      obtain ⟨hin, hF⟩ := gx_some hF
      refine va_iast hx hb hK hP hD hS 0 0 rfl rfl hin dX3_tellChanges_108 (fun H locs hP hD hS => ?_)
      have hP : va_P D vwCl [gA h_p2 cI n_p2 (upd c_p2 ((0 : Int32)).toNatClampNeg (v_t_size - q_18.1)), gO h_t 3 [.int v_t_size, .ref h_t_paths, .ref h_t_children, .ref h_t_prefixes, .ref h_t_depths, .ref h_t_froms, .ref h_t_tills], gA h_t_paths cI 48 c_t_paths, gO h_p1 3 [.int v_p1_size, .ref h_p1_paths, .ref h_p1_children, .ref h_p1_prefixes, .ref h_p1_depths, .ref h_p1_froms, .ref h_p1_tills], gA h_p1_paths cI 48 c_p1_paths, gA h_p1_children cI 48 c_p1_children, gA h_t_children cI 48 c_t_children] H := hP
      have hD : va_D A [gA h_p2 cI n_p2 (upd c_p2 ((0 : Int32)).toNatClampNeg (v_t_size - q_18.1)), gO h_t 3 [.int v_t_size, .ref h_t_paths, .ref h_t_children, .ref h_t_prefixes, .ref h_t_depths, .ref h_t_froms, .ref h_t_tills], gA h_t_paths cI 48 c_t_paths, gO h_p1 3 [.int v_p1_size, .ref h_p1_paths, .ref h_p1_children, .ref h_p1_prefixes, .ref h_p1_depths, .ref h_p1_froms, .ref h_p1_tills], gA h_p1_paths cI 48 c_p1_paths, gA h_p1_children cI 48 c_p1_children, gA h_t_children cI 48 c_t_children] := hD
      refine lv_aload_n hx hb dX3_tellChanges_109 rfl (lv_at hl 2 rfl) ?_
      refine lv_iconst (v := 1) hx hb dX3_tellChanges_110 (by decide) ?_
      refine lv_aload_n hx hb dX3_tellChanges_111 rfl (lv_at hl 1 rfl) ?_
      refine va_get (D := D) (ci := 3) (v := .int v_p1_size) (C := RX3) (T := TX3) (N := 7) hx hb hts hinX3 hown hK hP 3 rfl rfl 0 (by decide) hw0 (fun _ h9 => h9) rfl dX3_tellChanges_112 ?_
      refine lv_iload_n hx hb dX3_tellChanges_115 rfl (lv_at hl 3 rfl) ?_
      refine lv_isub hx hb dX3_tellChanges_116 ?_
      obtain ⟨hin, hF⟩ := gx_some hF
      refine va_iast hx hb hK hP hD hS 0 0 rfl rfl hin dX3_tellChanges_117 (fun H locs hP hD hS => ?_)
      have hP : va_P D vwCl [gA h_p2 cI n_p2 (upd (upd c_p2 ((0 : Int32)).toNatClampNeg (v_t_size - q_18.1)) ((1 : Int32)).toNatClampNeg (v_p1_size - q_18.1)), gO h_t 3 [.int v_t_size, .ref h_t_paths, .ref h_t_children, .ref h_t_prefixes, .ref h_t_depths, .ref h_t_froms, .ref h_t_tills], gA h_t_paths cI 48 c_t_paths, gO h_p1 3 [.int v_p1_size, .ref h_p1_paths, .ref h_p1_children, .ref h_p1_prefixes, .ref h_p1_depths, .ref h_p1_froms, .ref h_p1_tills], gA h_p1_paths cI 48 c_p1_paths, gA h_p1_children cI 48 c_p1_children, gA h_t_children cI 48 c_t_children] H := hP
      have hD : va_D A [gA h_p2 cI n_p2 (upd (upd c_p2 ((0 : Int32)).toNatClampNeg (v_t_size - q_18.1)) ((1 : Int32)).toNatClampNeg (v_p1_size - q_18.1)), gO h_t 3 [.int v_t_size, .ref h_t_paths, .ref h_t_children, .ref h_t_prefixes, .ref h_t_depths, .ref h_t_froms, .ref h_t_tills], gA h_t_paths cI 48 c_t_paths, gO h_p1 3 [.int v_p1_size, .ref h_p1_paths, .ref h_p1_children, .ref h_p1_prefixes, .ref h_p1_depths, .ref h_p1_froms, .ref h_p1_tills], gA h_p1_paths cI 48 c_p1_paths, gA h_p1_children cI 48 c_p1_children, gA h_t_children cI 48 c_t_children] := hD
      refine lv_aload_n hx hb dX3_tellChanges_118 rfl (lv_at hl 2 rfl) ?_
      refine lv_iconst (v := 2) hx hb dX3_tellChanges_119 (by decide) ?_
      refine lv_iload hx hb dX3_tellChanges_120 (lv_at hl 4 rfl) ?_
      obtain ⟨hin, hF⟩ := gx_some hF
      refine va_iast hx hb hK hP hD hS 0 0 rfl rfl hin dX3_tellChanges_122 (fun H locs hP hD hS => ?_)
      have hP : va_P D vwCl [gA h_p2 cI n_p2 (upd (upd (upd c_p2 ((0 : Int32)).toNatClampNeg (v_t_size - q_18.1)) ((1 : Int32)).toNatClampNeg (v_p1_size - q_18.1)) ((2 : Int32)).toNatClampNeg q_18.2.1), gO h_t 3 [.int v_t_size, .ref h_t_paths, .ref h_t_children, .ref h_t_prefixes, .ref h_t_depths, .ref h_t_froms, .ref h_t_tills], gA h_t_paths cI 48 c_t_paths, gO h_p1 3 [.int v_p1_size, .ref h_p1_paths, .ref h_p1_children, .ref h_p1_prefixes, .ref h_p1_depths, .ref h_p1_froms, .ref h_p1_tills], gA h_p1_paths cI 48 c_p1_paths, gA h_p1_children cI 48 c_p1_children, gA h_t_children cI 48 c_t_children] H := hP
      have hD : va_D A [gA h_p2 cI n_p2 (upd (upd (upd c_p2 ((0 : Int32)).toNatClampNeg (v_t_size - q_18.1)) ((1 : Int32)).toNatClampNeg (v_p1_size - q_18.1)) ((2 : Int32)).toNatClampNeg q_18.2.1), gO h_t 3 [.int v_t_size, .ref h_t_paths, .ref h_t_children, .ref h_t_prefixes, .ref h_t_depths, .ref h_t_froms, .ref h_t_tills], gA h_t_paths cI 48 c_t_paths, gO h_p1 3 [.int v_p1_size, .ref h_p1_paths, .ref h_p1_children, .ref h_p1_prefixes, .ref h_p1_depths, .ref h_p1_froms, .ref h_p1_tills], gA h_p1_paths cI 48 c_p1_paths, gA h_p1_children cI 48 c_p1_children, gA h_t_children cI 48 c_t_children] := hD
      refine lv_aload_n hx hb dX3_tellChanges_123 rfl (lv_at hl 2 rfl) ?_
      refine lv_iconst (v := 3) hx hb dX3_tellChanges_124 (by decide) ?_
      refine lv_iload hx hb dX3_tellChanges_125 (lv_at hl 5 rfl) ?_
      obtain ⟨hin, hF⟩ := gx_some hF
      refine va_iast hx hb hK hP hD hS 0 0 rfl rfl hin dX3_tellChanges_127 (fun H locs hP hD hS => ?_)
      have hP : va_P D vwCl [gA h_p2 cI n_p2 (upd (upd (upd (upd c_p2 ((0 : Int32)).toNatClampNeg (v_t_size - q_18.1)) ((1 : Int32)).toNatClampNeg (v_p1_size - q_18.1)) ((2 : Int32)).toNatClampNeg q_18.2.1) ((3 : Int32)).toNatClampNeg q_18.2.2), gO h_t 3 [.int v_t_size, .ref h_t_paths, .ref h_t_children, .ref h_t_prefixes, .ref h_t_depths, .ref h_t_froms, .ref h_t_tills], gA h_t_paths cI 48 c_t_paths, gO h_p1 3 [.int v_p1_size, .ref h_p1_paths, .ref h_p1_children, .ref h_p1_prefixes, .ref h_p1_depths, .ref h_p1_froms, .ref h_p1_tills], gA h_p1_paths cI 48 c_p1_paths, gA h_p1_children cI 48 c_p1_children, gA h_t_children cI 48 c_t_children] H := hP
      have hD : va_D A [gA h_p2 cI n_p2 (upd (upd (upd (upd c_p2 ((0 : Int32)).toNatClampNeg (v_t_size - q_18.1)) ((1 : Int32)).toNatClampNeg (v_p1_size - q_18.1)) ((2 : Int32)).toNatClampNeg q_18.2.1) ((3 : Int32)).toNatClampNeg q_18.2.2), gO h_t 3 [.int v_t_size, .ref h_t_paths, .ref h_t_children, .ref h_t_prefixes, .ref h_t_depths, .ref h_t_froms, .ref h_t_tills], gA h_t_paths cI 48 c_t_paths, gO h_p1 3 [.int v_p1_size, .ref h_p1_paths, .ref h_p1_children, .ref h_p1_prefixes, .ref h_p1_depths, .ref h_p1_froms, .ref h_p1_tills], gA h_p1_paths cI 48 c_p1_paths, gA h_p1_children cI 48 c_p1_children, gA h_t_children cI 48 c_t_children] := hD
      obtain rfl := Option.some.inj hF
      exact hQ _ _ _ _ hP hD hS dX3_tellChanges_128
    clear hF
    have Ln_18 : ∀ (n_18 : Nat) (x3_18 : Int32) (x4_18 : Int32) (x5_18 : Int32) (x6_18 : Int32) (H : Heap) (locs : List Loc) (ls : Array Slot), fX3_tellChanges_L18 v_t_size c_t_paths v_p1_size c_p1_paths c_p1_children c_t_children n_18 x3_18 x4_18 x5_18 x6_18 = some q_18 → va_P D vwCl [gA h_p2 cI n_p2 c_p2, gO h_t 3 [.int v_t_size, .ref h_t_paths, .ref h_t_children, .ref h_t_prefixes, .ref h_t_depths, .ref h_t_froms, .ref h_t_tills], gA h_t_paths cI 48 c_t_paths, gO h_p1 3 [.int v_p1_size, .ref h_p1_paths, .ref h_p1_children, .ref h_p1_prefixes, .ref h_p1_depths, .ref h_p1_froms, .ref h_p1_tills], gA h_p1_paths cI 48 c_p1_paths, gA h_p1_children cI 48 c_p1_children, gA h_t_children cI 48 c_t_children] H → va_D A [gA h_p2 cI n_p2 c_p2, gO h_t 3 [.int v_t_size, .ref h_t_paths, .ref h_t_children, .ref h_t_prefixes, .ref h_t_depths, .ref h_t_froms, .ref h_t_tills], gA h_t_paths cI 48 c_t_paths, gO h_p1 3 [.int v_p1_size, .ref h_p1_paths, .ref h_p1_children, .ref h_p1_prefixes, .ref h_p1_depths, .ref h_p1_froms, .ref h_p1_tills], gA h_p1_paths cI 48 c_p1_paths, gA h_p1_children cI 48 c_p1_children, gA h_t_children cI 48 c_t_children] → va_S A s.heap H locs → lv_has ls 8 [(0, .ref h_t), (1, .ref h_p1), (2, .ref h_p2), (3, .int x3_18), (4, .int x4_18), (5, .int x5_18), (6, .int x6_18)] → W p l e rmX3_tellChanges s m args below meth c H locs 0 0 Q (F0 m 18 ls []) := by
      intro n_18
      induction n_18 with
      | zero =>
        intro x3_18 x4_18 x5_18 x6_18 H locs ls hF
        rw [fX3_tellChanges_L18] at hF
        cases hF
      | succ n_18 ih18 =>
        intro x3_18 x4_18 x5_18 x6_18 H locs ls hF hP hD hS hl
        rw [fX3_tellChanges_L18] at hF
        refine lv_iload hx hb dX3_tellChanges_18 (lv_at hl 6 rfl) ?_
        refine lv_aload_n hx hb dX3_tellChanges_20 rfl (lv_at hl 0 rfl) ?_
        refine va_get (D := D) (ci := 3) (v := .int v_t_size) (C := RX3) (T := TX3) (N := 7) hx hb hts hinX3 hown hK hP 1 rfl rfl 0 (by decide) hw0 (fun _ h9 => h9) rfl dX3_tellChanges_21 ?_
        refine lv_icmp_ge (tgt := 100) hx hb dX3_tellChanges_24 (by decide) (fun cc => ?_) (fun cc => ?_)
        · have hF := gi_pos hF cc
          obtain rfl := Option.some.inj hF
          exact En_18 _ _ _ hP hD hS (lv_sub hl [0, 1, 2, 3, 4, 5] rfl)
        · have hF := gi_neg hF cc
          refine lv_aload_n hx hb dX3_tellChanges_27 rfl (lv_at hl 1 rfl) ?_
          refine lv_aload_n hx hb dX3_tellChanges_28 rfl (lv_at hl 1 rfl) ?_
          refine lv_aload_n hx hb dX3_tellChanges_29 rfl (lv_at hl 0 rfl) ?_
          refine va_get (D := D) (ci := 3) (v := .ref h_t_paths) (C := RX3) (T := TX3) (N := 7) hx hb hts hinX3 hown hK hP 1 rfl rfl 1 (by decide) hw2 (fun _ h9 => h9) rfl dX3_tellChanges_30 ?_
          refine lv_iload hx hb dX3_tellChanges_33 (lv_at hl 6 rfl) ?_
          obtain ⟨hin, hF⟩ := gx_some hF
          refine va_iald hx hb hK hP 2 0 rfl rfl hin dX3_tellChanges_35 ?_
          obtain ⟨q_36, hc, hF⟩ := gb_some hF
          refine gcVi (ci := 3) (As := [.int (c_t_paths (x6_18).toNatClampNeg)]) (rest := [.ref h_p1]) (pre := [gO h_p1 3 [.int v_p1_size, .ref h_p1_paths, .ref h_p1_children, .ref h_p1_prefixes, .ref h_p1_depths, .ref h_p1_froms, .ref h_p1_tills], gA h_p1_paths cI 48 c_p1_paths]) (post := [gO h_p1 3 [.int v_p1_size, .ref h_p1_paths, .ref h_p1_children, .ref h_p1_prefixes, .ref h_p1_depths, .ref h_p1_froms, .ref h_p1_tills], gA h_p1_paths cI 48 c_p1_paths]) (wr := [gA h_p2 cI n_p2 c_p2, gO h_t 3 [.int v_t_size, .ref h_t_paths, .ref h_t_children, .ref h_t_prefixes, .ref h_t_depths, .ref h_t_froms, .ref h_t_tills], gA h_t_paths cI 48 c_t_paths, gA h_p1_children cI 48 c_p1_children, gA h_t_children cI 48 c_t_children]) ⟨hx, hb, hml, hown, hts⟩ (kX3_seatOf l D cI cZ cD cG h_p1 v_p1_size h_p1_paths h_p1_children h_p1_prefixes h_p1_depths h_p1_froms h_p1_tills c_p1_paths (c_t_paths (x6_18).toNatClampNeg) q_36 hc) (cwV 1 hts gX3_tellChanges_X3_seatOf rfl rfl rfl (by decide +kernel) ⟨Nat.le_of_ble_eq_true rfl, Nat.le_of_ble_eq_true rfl⟩) hK hP hD hS hA [3, 4] [0, 1, 2, 5, 6] rfl rfl (by decide) (by decide) (by decide) 0 rfl rfl rfl hl.1 rfl (Nat.le_of_ble_eq_true rfl) dX3_tellChanges_36 ⟨Nat.zero_le _, Nat.zero_le _⟩ (fun H locs hP hD hS => ?_)
          have hP : va_P D vwCl [gA h_p2 cI n_p2 c_p2, gO h_t 3 [.int v_t_size, .ref h_t_paths, .ref h_t_children, .ref h_t_prefixes, .ref h_t_depths, .ref h_t_froms, .ref h_t_tills], gA h_t_paths cI 48 c_t_paths, gA h_p1_children cI 48 c_p1_children, gA h_t_children cI 48 c_t_children, gO h_p1 3 [.int v_p1_size, .ref h_p1_paths, .ref h_p1_children, .ref h_p1_prefixes, .ref h_p1_depths, .ref h_p1_froms, .ref h_p1_tills], gA h_p1_paths cI 48 c_p1_paths] H := hP
          have hD : va_D A [gA h_p2 cI n_p2 c_p2, gO h_t 3 [.int v_t_size, .ref h_t_paths, .ref h_t_children, .ref h_t_prefixes, .ref h_t_depths, .ref h_t_froms, .ref h_t_tills], gA h_t_paths cI 48 c_t_paths, gA h_p1_children cI 48 c_p1_children, gA h_t_children cI 48 c_t_children, gO h_p1 3 [.int v_p1_size, .ref h_p1_paths, .ref h_p1_children, .ref h_p1_prefixes, .ref h_p1_depths, .ref h_p1_froms, .ref h_p1_tills], gA h_p1_paths cI 48 c_p1_paths] := hD
          obtain ⟨q_39, hc, hF⟩ := gb_some hF
          refine gcVi (ci := 3) (As := [.int q_36]) (rest := []) (pre := [gO h_p1 3 [.int v_p1_size, .ref h_p1_paths, .ref h_p1_children, .ref h_p1_prefixes, .ref h_p1_depths, .ref h_p1_froms, .ref h_p1_tills], gA h_p1_children cI 48 c_p1_children]) (post := [gO h_p1 3 [.int v_p1_size, .ref h_p1_paths, .ref h_p1_children, .ref h_p1_prefixes, .ref h_p1_depths, .ref h_p1_froms, .ref h_p1_tills], gA h_p1_children cI 48 c_p1_children]) (wr := [gA h_p2 cI n_p2 c_p2, gO h_t 3 [.int v_t_size, .ref h_t_paths, .ref h_t_children, .ref h_t_prefixes, .ref h_t_depths, .ref h_t_froms, .ref h_t_tills], gA h_t_paths cI 48 c_t_paths, gA h_t_children cI 48 c_t_children, gA h_p1_paths cI 48 c_p1_paths]) ⟨hx, hb, hml, hown, hts⟩ (kX3_placesOf l D cI cZ cD cG h_p1 v_p1_size h_p1_paths h_p1_children h_p1_prefixes h_p1_depths h_p1_froms h_p1_tills c_p1_children q_36 q_39 hc) (cwV 1 hts gX3_tellChanges_X3_placesOf rfl rfl rfl (by decide +kernel) ⟨Nat.le_of_ble_eq_true rfl, Nat.le_of_ble_eq_true rfl⟩) hK hP hD hS hA [5, 3] [0, 1, 2, 4, 6] rfl rfl (by decide) (by decide) (by decide) 0 rfl rfl rfl hl.1 rfl (Nat.le_of_ble_eq_true rfl) dX3_tellChanges_39 ⟨Nat.zero_le _, Nat.zero_le _⟩ (fun H locs hP hD hS => ?_)
          have hP : va_P D vwCl [gA h_p2 cI n_p2 c_p2, gO h_t 3 [.int v_t_size, .ref h_t_paths, .ref h_t_children, .ref h_t_prefixes, .ref h_t_depths, .ref h_t_froms, .ref h_t_tills], gA h_t_paths cI 48 c_t_paths, gA h_t_children cI 48 c_t_children, gA h_p1_paths cI 48 c_p1_paths, gO h_p1 3 [.int v_p1_size, .ref h_p1_paths, .ref h_p1_children, .ref h_p1_prefixes, .ref h_p1_depths, .ref h_p1_froms, .ref h_p1_tills], gA h_p1_children cI 48 c_p1_children] H := hP
          have hD : va_D A [gA h_p2 cI n_p2 c_p2, gO h_t 3 [.int v_t_size, .ref h_t_paths, .ref h_t_children, .ref h_t_prefixes, .ref h_t_depths, .ref h_t_froms, .ref h_t_tills], gA h_t_paths cI 48 c_t_paths, gA h_t_children cI 48 c_t_children, gA h_p1_paths cI 48 c_p1_paths, gO h_p1 3 [.int v_p1_size, .ref h_p1_paths, .ref h_p1_children, .ref h_p1_prefixes, .ref h_p1_depths, .ref h_p1_froms, .ref h_p1_tills], gA h_p1_children cI 48 c_p1_children] := hD
          refine lv_istore (lv' := [(7, .int q_39), (0, .ref h_t), (1, .ref h_p1), (2, .ref h_p2), (3, .int x3_18), (4, .int x4_18), (5, .int x5_18), (6, .int x6_18)]) hx hb dX3_tellChanges_42 hl (by decide) rfl (fun ls hl => ?_)
          refine lv_iload hx hb dX3_tellChanges_44 (lv_at hl 0 rfl) ?_
          obtain ⟨q_94, hR, hF⟩ := gb_some hF
          have Jn_94 : ∀ (H : Heap) (locs : List Loc) (ls : Array Slot), va_P D vwCl [gA h_p2 cI n_p2 c_p2, gO h_t 3 [.int v_t_size, .ref h_t_paths, .ref h_t_children, .ref h_t_prefixes, .ref h_t_depths, .ref h_t_froms, .ref h_t_tills], gA h_t_paths cI 48 c_t_paths, gA h_t_children cI 48 c_t_children, gA h_p1_paths cI 48 c_p1_paths, gO h_p1 3 [.int v_p1_size, .ref h_p1_paths, .ref h_p1_children, .ref h_p1_prefixes, .ref h_p1_depths, .ref h_p1_froms, .ref h_p1_tills], gA h_p1_children cI 48 c_p1_children] H → va_D A [gA h_p2 cI n_p2 c_p2, gO h_t 3 [.int v_t_size, .ref h_t_paths, .ref h_t_children, .ref h_t_prefixes, .ref h_t_depths, .ref h_t_froms, .ref h_t_tills], gA h_t_paths cI 48 c_t_paths, gA h_t_children cI 48 c_t_children, gA h_p1_paths cI 48 c_p1_paths, gO h_p1 3 [.int v_p1_size, .ref h_p1_paths, .ref h_p1_children, .ref h_p1_prefixes, .ref h_p1_depths, .ref h_p1_froms, .ref h_p1_tills], gA h_p1_children cI 48 c_p1_children] → va_S A s.heap H locs → lv_has ls 8 [(0, .ref h_t), (1, .ref h_p1), (2, .ref h_p2), (3, .int q_94.1), (4, .int q_94.2.1), (5, .int q_94.2.2), (6, .int x6_18)] → W p l e rmX3_tellChanges s m args below meth c H locs 0 0 Q (F0 m 94 ls []) := by
            intro H locs ls hP hD hS hl
            obtain ⟨x6_94, ex⟩ : ∃ y : Int32, y = (x6_18 + 1) := ⟨_, rfl⟩
            have hF := gl_some hF ex
            refine lv_iinc (v := x6_94) (lv' := [(6, .int x6_94), (0, .ref h_t), (1, .ref h_p1), (2, .ref h_p2), (3, .int q_94.1), (4, .int q_94.2.1), (5, .int q_94.2.2)]) hx hb dX3_tellChanges_94 hl (k := 6) rfl (by rw [ex]; rfl) (by decide) rfl (fun ls hl => ?_)
            refine lv_goto (tgt := 18) hx hb dX3_tellChanges_97 (by decide) ?_
            exact ih18 q_94.1 q_94.2.1 q_94.2.2 x6_94 _ _ _ hF (hP.sub [0, 1, 2, 5, 4, 6, 3] rfl) (hD.sub [0, 1, 2, 5, 4, 6, 3] (by decide) rfl) hS (lv_sub hl [1, 2, 3, 4, 5, 6, 0] rfl)
          clear hF
          have hF := hR
          refine lv_if_eq (tgt := 94) hx hb dX3_tellChanges_46 (by decide) (fun cc => ?_) (fun cc => ?_)
          · have hF := gi_pos hF cc
            obtain rfl := Option.some.inj hF
            exact Jn_94 _ _ _ hP hD hS (lv_sub hl [1, 2, 3, 4, 5, 6, 7] rfl)
          · have hF := gi_neg hF cc
            obtain ⟨x3_49, ex⟩ : ∃ y : Int32, y = (x3_18 + 1) := ⟨_, rfl⟩
            have hF := gl_some hF ex
            refine lv_iinc (v := x3_49) (lv' := [(3, .int x3_49), (7, .int q_39), (0, .ref h_t), (1, .ref h_p1), (2, .ref h_p2), (4, .int x4_18), (5, .int x5_18), (6, .int x6_18)]) hx hb dX3_tellChanges_49 hl (k := 4) rfl (by rw [ex]; rfl) (by decide) rfl (fun ls hl => ?_)
            refine lv_iload hx hb dX3_tellChanges_52 (lv_at hl 5 rfl) ?_
            refine lv_aload_n hx hb dX3_tellChanges_54 rfl (lv_at hl 2 rfl) ?_
            refine lv_iload hx hb dX3_tellChanges_55 (lv_at hl 7 rfl) ?_
            obtain ⟨q_57, hc, hF⟩ := gb_some hF
            refine gcVi (ci := 3) (As := [.int x6_18]) (rest := [.int x4_18]) (pre := [gO h_t 3 [.int v_t_size, .ref h_t_paths, .ref h_t_children, .ref h_t_prefixes, .ref h_t_depths, .ref h_t_froms, .ref h_t_tills], gA h_t_children cI 48 c_t_children]) (post := [gO h_t 3 [.int v_t_size, .ref h_t_paths, .ref h_t_children, .ref h_t_prefixes, .ref h_t_depths, .ref h_t_froms, .ref h_t_tills], gA h_t_children cI 48 c_t_children]) (wr := [gA h_p2 cI n_p2 c_p2, gA h_t_paths cI 48 c_t_paths, gA h_p1_paths cI 48 c_p1_paths, gO h_p1 3 [.int v_p1_size, .ref h_p1_paths, .ref h_p1_children, .ref h_p1_prefixes, .ref h_p1_depths, .ref h_p1_froms, .ref h_p1_tills], gA h_p1_children cI 48 c_p1_children]) ⟨hx, hb, hml, hown, hts⟩ (kX3_placesOf l D cI cZ cD cG h_t v_t_size h_t_paths h_t_children h_t_prefixes h_t_depths h_t_froms h_t_tills c_t_children x6_18 q_57 hc) (cwV 1 hts gX3_tellChanges_X3_placesOf rfl rfl rfl (by decide +kernel) ⟨Nat.le_of_ble_eq_true rfl, Nat.le_of_ble_eq_true rfl⟩) hK hP hD hS hA [1, 3] [0, 2, 4, 5, 6] rfl rfl (by decide) (by decide) (by decide) 0 rfl rfl rfl hl.1 rfl (Nat.le_of_ble_eq_true rfl) dX3_tellChanges_57 ⟨Nat.zero_le _, Nat.zero_le _⟩ (fun H locs hP hD hS => ?_)
            have hP : va_P D vwCl [gA h_p2 cI n_p2 c_p2, gA h_t_paths cI 48 c_t_paths, gA h_p1_paths cI 48 c_p1_paths, gO h_p1 3 [.int v_p1_size, .ref h_p1_paths, .ref h_p1_children, .ref h_p1_prefixes, .ref h_p1_depths, .ref h_p1_froms, .ref h_p1_tills], gA h_p1_children cI 48 c_p1_children, gO h_t 3 [.int v_t_size, .ref h_t_paths, .ref h_t_children, .ref h_t_prefixes, .ref h_t_depths, .ref h_t_froms, .ref h_t_tills], gA h_t_children cI 48 c_t_children] H := hP
            have hD : va_D A [gA h_p2 cI n_p2 c_p2, gA h_t_paths cI 48 c_t_paths, gA h_p1_paths cI 48 c_p1_paths, gO h_p1 3 [.int v_p1_size, .ref h_p1_paths, .ref h_p1_children, .ref h_p1_prefixes, .ref h_p1_depths, .ref h_p1_froms, .ref h_p1_tills], gA h_p1_children cI 48 c_p1_children, gO h_t 3 [.int v_t_size, .ref h_t_paths, .ref h_t_children, .ref h_t_prefixes, .ref h_t_depths, .ref h_t_froms, .ref h_t_tills], gA h_t_children cI 48 c_t_children] := hD
            refine lv_iload hx hb dX3_tellChanges_60 (lv_at hl 1 rfl) ?_
            obtain ⟨q_70, hR, hF⟩ := gb_some hF
            have Jn_70 : ∀ (H : Heap) (locs : List Loc) (ls : Array Slot), va_P D vwCl [gA h_p2 cI n_p2 c_p2, gA h_t_paths cI 48 c_t_paths, gA h_p1_paths cI 48 c_p1_paths, gO h_p1 3 [.int v_p1_size, .ref h_p1_paths, .ref h_p1_children, .ref h_p1_prefixes, .ref h_p1_depths, .ref h_p1_froms, .ref h_p1_tills], gA h_p1_children cI 48 c_p1_children, gO h_t 3 [.int v_t_size, .ref h_t_paths, .ref h_t_children, .ref h_t_prefixes, .ref h_t_depths, .ref h_t_froms, .ref h_t_tills], gA h_t_children cI 48 c_t_children] H → va_D A [gA h_p2 cI n_p2 c_p2, gA h_t_paths cI 48 c_t_paths, gA h_p1_paths cI 48 c_p1_paths, gO h_p1 3 [.int v_p1_size, .ref h_p1_paths, .ref h_p1_children, .ref h_p1_prefixes, .ref h_p1_depths, .ref h_p1_froms, .ref h_p1_tills], gA h_p1_children cI 48 c_p1_children, gO h_t 3 [.int v_t_size, .ref h_t_paths, .ref h_t_children, .ref h_t_prefixes, .ref h_t_depths, .ref h_t_froms, .ref h_t_tills], gA h_t_children cI 48 c_t_children] → va_S A s.heap H locs → lv_has ls 8 [(0, .ref h_t), (1, .ref h_p1), (2, .ref h_p2), (3, .int x3_49), (5, .int x5_18), (6, .int x6_18), (7, .int q_39)] → W p l e rmX3_tellChanges s m args below meth c H locs 0 0 Q (F0 m 70 ls [.int q_70, .int x4_18]) := by
              intro H locs ls hP hD hS hl
              refine lv_iadd hx hb dX3_tellChanges_70 ?_
              refine lv_topi (fun x4_71 ex => ?_)
              have hF := gl_some hF ex
              refine lv_istore (lv' := [(4, .int x4_71), (0, .ref h_t), (1, .ref h_p1), (2, .ref h_p2), (3, .int x3_49), (5, .int x5_18), (6, .int x6_18), (7, .int q_39)]) hx hb dX3_tellChanges_71 hl (by decide) rfl (fun ls hl => ?_)
              refine lv_iload hx hb dX3_tellChanges_73 (lv_at hl 5 rfl) ?_
              refine lv_aload_n hx hb dX3_tellChanges_75 rfl (lv_at hl 1 rfl) ?_
              refine lv_iload hx hb dX3_tellChanges_76 (lv_at hl 6 rfl) ?_
              obtain ⟨q_78, hc, hF⟩ := gb_some hF
              refine gcVi (ci := 3) (As := [.int x6_18]) (rest := [.int x5_18]) (pre := [gO h_t 3 [.int v_t_size, .ref h_t_paths, .ref h_t_children, .ref h_t_prefixes, .ref h_t_depths, .ref h_t_froms, .ref h_t_tills], gA h_t_children cI 48 c_t_children]) (post := [gO h_t 3 [.int v_t_size, .ref h_t_paths, .ref h_t_children, .ref h_t_prefixes, .ref h_t_depths, .ref h_t_froms, .ref h_t_tills], gA h_t_children cI 48 c_t_children]) (wr := [gA h_p2 cI n_p2 c_p2, gA h_t_paths cI 48 c_t_paths, gA h_p1_paths cI 48 c_p1_paths, gO h_p1 3 [.int v_p1_size, .ref h_p1_paths, .ref h_p1_children, .ref h_p1_prefixes, .ref h_p1_depths, .ref h_p1_froms, .ref h_p1_tills], gA h_p1_children cI 48 c_p1_children]) ⟨hx, hb, hml, hown, hts⟩ (kX3_placesOf l D cI cZ cD cG h_t v_t_size h_t_paths h_t_children h_t_prefixes h_t_depths h_t_froms h_t_tills c_t_children x6_18 q_78 hc) (cwV 1 hts gX3_tellChanges_X3_placesOf rfl rfl rfl (by decide +kernel) ⟨Nat.le_of_ble_eq_true rfl, Nat.le_of_ble_eq_true rfl⟩) hK hP hD hS hA [5, 6] [0, 1, 2, 3, 4] rfl rfl (by decide) (by decide) (by decide) 0 rfl rfl rfl hl.1 rfl (Nat.le_of_ble_eq_true rfl) dX3_tellChanges_78 ⟨Nat.zero_le _, Nat.zero_le _⟩ (fun H locs hP hD hS => ?_)
              have hP : va_P D vwCl [gA h_p2 cI n_p2 c_p2, gA h_t_paths cI 48 c_t_paths, gA h_p1_paths cI 48 c_p1_paths, gO h_p1 3 [.int v_p1_size, .ref h_p1_paths, .ref h_p1_children, .ref h_p1_prefixes, .ref h_p1_depths, .ref h_p1_froms, .ref h_p1_tills], gA h_p1_children cI 48 c_p1_children, gO h_t 3 [.int v_t_size, .ref h_t_paths, .ref h_t_children, .ref h_t_prefixes, .ref h_t_depths, .ref h_t_froms, .ref h_t_tills], gA h_t_children cI 48 c_t_children] H := hP
              have hD : va_D A [gA h_p2 cI n_p2 c_p2, gA h_t_paths cI 48 c_t_paths, gA h_p1_paths cI 48 c_p1_paths, gO h_p1 3 [.int v_p1_size, .ref h_p1_paths, .ref h_p1_children, .ref h_p1_prefixes, .ref h_p1_depths, .ref h_p1_froms, .ref h_p1_tills], gA h_p1_children cI 48 c_p1_children, gO h_t 3 [.int v_t_size, .ref h_t_paths, .ref h_t_children, .ref h_t_prefixes, .ref h_t_depths, .ref h_t_froms, .ref h_t_tills], gA h_t_children cI 48 c_t_children] := hD
              refine lv_iload hx hb dX3_tellChanges_81 (lv_at hl 7 rfl) ?_
              obtain ⟨q_91, hR, hF⟩ := gb_some hF
              have Jn_91 : ∀ (H : Heap) (locs : List Loc) (ls : Array Slot), va_P D vwCl [gA h_p2 cI n_p2 c_p2, gA h_t_paths cI 48 c_t_paths, gA h_p1_paths cI 48 c_p1_paths, gO h_p1 3 [.int v_p1_size, .ref h_p1_paths, .ref h_p1_children, .ref h_p1_prefixes, .ref h_p1_depths, .ref h_p1_froms, .ref h_p1_tills], gA h_p1_children cI 48 c_p1_children, gO h_t 3 [.int v_t_size, .ref h_t_paths, .ref h_t_children, .ref h_t_prefixes, .ref h_t_depths, .ref h_t_froms, .ref h_t_tills], gA h_t_children cI 48 c_t_children] H → va_D A [gA h_p2 cI n_p2 c_p2, gA h_t_paths cI 48 c_t_paths, gA h_p1_paths cI 48 c_p1_paths, gO h_p1 3 [.int v_p1_size, .ref h_p1_paths, .ref h_p1_children, .ref h_p1_prefixes, .ref h_p1_depths, .ref h_p1_froms, .ref h_p1_tills], gA h_p1_children cI 48 c_p1_children, gO h_t 3 [.int v_t_size, .ref h_t_paths, .ref h_t_children, .ref h_t_prefixes, .ref h_t_depths, .ref h_t_froms, .ref h_t_tills], gA h_t_children cI 48 c_t_children] → va_S A s.heap H locs → lv_has ls 8 [(0, .ref h_t), (1, .ref h_p1), (2, .ref h_p2), (3, .int x3_49), (4, .int x4_71), (6, .int x6_18)] → W p l e rmX3_tellChanges s m args below meth c H locs 0 0 Q (F0 m 91 ls [.int q_91, .int x5_18]) := by
                intro H locs ls hP hD hS hl
                refine lv_iadd hx hb dX3_tellChanges_91 ?_
                refine lv_topi (fun x5_92 ex => ?_)
                have hF := gl_some hF ex
                refine lv_istore (lv' := [(5, .int x5_92), (0, .ref h_t), (1, .ref h_p1), (2, .ref h_p2), (3, .int x3_49), (4, .int x4_71), (6, .int x6_18)]) hx hb dX3_tellChanges_92 hl (by decide) rfl (fun ls hl => ?_)
                obtain rfl := Option.some.inj hF
                exact Jn_94 _ _ _ (hP.sub [0, 5, 1, 6, 2, 3, 4] rfl) (hD.sub [0, 5, 1, 6, 2, 3, 4] (by decide) rfl) hS (lv_sub hl [1, 2, 3, 4, 5, 0, 6] rfl)
              clear hF
              have hF := hR
              refine lv_icmp_ge (tgt := 90) hx hb dX3_tellChanges_83 (by decide) (fun cc => ?_) (fun cc => ?_)
              · have hF := gi_pos hF cc
                refine lv_iconst (v := 0) hx hb dX3_tellChanges_90 (by decide) ?_
                obtain rfl := Option.some.inj hF
                exact Jn_91 _ _ _ hP hD hS (lv_sub hl [1, 2, 3, 4, 0, 6] rfl)
              · have hF := gi_neg hF cc
                refine lv_iconst (v := 1) hx hb dX3_tellChanges_86 (by decide) ?_
                refine lv_goto (tgt := 91) hx hb dX3_tellChanges_87 (by decide) ?_
                obtain rfl := Option.some.inj hF
                exact Jn_91 _ _ _ hP hD hS (lv_sub hl [1, 2, 3, 4, 0, 6] rfl)
            clear hF
            have hF := hR
            refine lv_icmp_le (tgt := 69) hx hb dX3_tellChanges_62 (by decide) (fun cc => ?_) (fun cc => ?_)
            · have hF := gi_pos hF cc
              refine lv_iconst (v := 0) hx hb dX3_tellChanges_69 (by decide) ?_
              obtain rfl := Option.some.inj hF
              exact Jn_70 _ _ _ hP hD hS (lv_sub hl [2, 3, 4, 0, 6, 7, 1] rfl)
            · have hF := gi_neg hF cc
              refine lv_iconst (v := 1) hx hb dX3_tellChanges_65 (by decide) ?_
              refine lv_goto (tgt := 70) hx hb dX3_tellChanges_66 (by decide) ?_
              obtain rfl := Option.some.inj hF
              exact Jn_70 _ _ _ hP hD hS (lv_sub hl [2, 3, 4, 0, 6, 7, 1] rfl)
    exact Ln_18 gF (0 : Int32) (0 : Int32) (0 : Int32) (0 : Int32) _ _ _ hR hP hD hS (lv_sub hl [4, 5, 6, 3, 2, 1, 0] rfl)
  · have hF := gi_neg hF cc
    obtain rfl := Option.some.inj hF
    exact hQ _ _ _ _ hP hD hS dX3_tellChanges_6

abbrev rmX3_areTwins : Room := { frames := 2, cells := 0, slots := 0, locals := 42 }
def fX3_areTwins_L75 (q_2 : Int32) (x2 : Int32) (c_t_froms : Nat → Int32) (x3 : Int32) (v_p1_size : Int32) (c_p1_values : Nat → Int32) (c_p1_words : Nat → Int32) (q_56 : Int32) (q_67 : Int32) : Nat → Int32 → Option (Int32)
  | 0, _ => none
  | n_75 + 1, x7_75 => (if q_2 ≤ x7_75 then (some (1 : Int32)) else (gx x2 48 (gl ((c_t_froms (x2).toNatClampNeg) + x7_75) (fun x8_91 => (gx x3 48 (gl ((c_t_froms (x3).toNatClampNeg) + x7_75) (fun x9_102 => (Option.bind (fX1_value x8_91 v_p1_size c_p1_values) (fun q_107 => (Option.bind (fX1_value x9_102 v_p1_size c_p1_values) (fun q_113 => (if q_107 = q_113 then (Option.bind (fX1_word x8_91 v_p1_size c_p1_words) (fun q_122 => (Option.bind (fX6_tail q_122 q_56) (fun q_127 => (Option.bind (fX1_word x9_102 v_p1_size c_p1_words) (fun q_133 => (Option.bind (fX6_tail q_133 q_67) (fun q_138 => (if q_127 = q_138 then (gl (x7_75 + 1) (fun x7_146 => (fX3_areTwins_L75 q_2 x2 c_t_froms x3 v_p1_size c_p1_values c_p1_words q_56 q_67 n_75 x7_146))) else (some (0 : Int32))))))))))) else (some (0 : Int32))))))))))))))
def fX3_areTwins (x2 : Int32) (x3 : Int32) (v_t_size : Int32) (c_t_tills : Nat → Int32) (c_t_froms : Nat → Int32) (c_t_children : Nat → Int32) (c_t_paths : Nat → Int32) (v_p1_size : Int32) (c_p1_values : Nat → Int32) (c_p1_words : Nat → Int32) : Option (Int32) := (Option.bind (fX3_keysBelow x2 v_t_size c_t_tills c_t_froms) (fun q_2 => (Option.bind (fX3_isSeat x2 v_t_size) (fun q_9 => (if q_9 = 0 then (some (0 : Int32)) else (Option.bind (fX3_isSeat x3 v_t_size) (fun q_17 => (if q_17 = 0 then (some (0 : Int32)) else (Option.bind (fX3_keysBelow x3 v_t_size c_t_tills c_t_froms) (fun q_27 => (if q_2 = q_27 then (gx x2 48 (gx x3 48 (if (c_t_children (x2).toNatClampNeg) = (c_t_children (x3).toNatClampNeg) then (gx x2 48 (Option.bind (fX6_length (c_t_paths (x2).toNatClampNeg)) (fun q_56 => (gx x3 48 (Option.bind (fX6_length (c_t_paths (x3).toNatClampNeg)) (fun q_67 => (fX3_areTwins_L75 q_2 x2 c_t_froms x3 v_p1_size c_p1_values c_p1_words q_56 q_67 gF (0 : Int32)))))))) else (some (0 : Int32))))) else (some (0 : Int32)))))))))))))
set_option maxHeartbeats 4000000 in
set_option maxRecDepth 100000 in
theorem kX3_areTwins (l : Launch) (D : va_G) (cI cZ cD cG : ClassId) (h_t : Nat) (h_p1 : Nat) (v_t_size : Int32) (h_t_paths : Nat) (h_t_children : Nat) (h_t_prefixes : Nat) (h_t_depths : Nat) (h_t_froms : Nat) (h_t_tills : Nat) (c_t_tills : Nat → Int32) (c_t_froms : Nat → Int32) (c_t_children : Nat → Int32) (c_t_paths : Nat → Int32) (v_p1_size : Int32) (h_p1_words : Nat) (h_p1_values : Nat) (c_p1_values : Nat → Int32) (c_p1_words : Nat → Int32) (x2 : Int32) (x3 : Int32) (res : Int32) (hF : fX3_areTwins x2 x3 v_t_size c_t_tills c_t_froms c_t_children c_t_paths v_p1_size c_p1_values c_p1_words = some res) : gMz l D (gty cI cZ cD cG) yX3_areTwins wsX3_areTwins rmX3_areTwins [.ref h_t, .ref h_p1, .int x2, .int x3] [gO h_t 3 [.int v_t_size, .ref h_t_paths, .ref h_t_children, .ref h_t_prefixes, .ref h_t_depths, .ref h_t_froms, .ref h_t_tills], gA h_t_tills cI 48 c_t_tills, gA h_t_froms cI 48 c_t_froms, gA h_t_children cI 48 c_t_children, gA h_t_paths cI 48 c_t_paths, gO h_p1 1 [.int v_p1_size, .ref h_p1_words, .ref h_p1_values], gA h_p1_values cI 48 c_p1_values, gA h_p1_words cI 48 c_p1_words] res [gO h_t 3 [.int v_t_size, .ref h_t_paths, .ref h_t_children, .ref h_t_prefixes, .ref h_t_depths, .ref h_t_froms, .ref h_t_tills], gA h_t_tills cI 48 c_t_tills, gA h_t_froms cI 48 c_t_froms, gA h_t_children cI 48 c_t_children, gA h_t_paths cI 48 c_t_paths, gO h_p1 1 [.int v_p1_size, .ref h_p1_words, .ref h_p1_values], gA h_p1_values cI 48 c_p1_values, gA h_p1_words cI 48 c_p1_words] := by
  refine gMz.of (cc := cX3_areTwins) (maxL := 10) (by decide) rfl (Nat.le_of_ble_eq_true rfl) ?_
  intro p e s m args below meth c A ls Q hx hb hts hown hml hK hA hP hD hS hQ hl
  have hown : s.vm.findClass RX3 = some m.cls := hown
  have hl : lv_has ls 10 [(0, .ref h_t), (1, .ref h_p1), (2, .int x2), (3, .int x3)] := hl
  have hw0 := hts (.fieldLink RX3 19 "NibbleTrunk$Nodes" "children" "[I") (by decide +kernel)
  have hinX3 : ∀ w ∈ wsX30, w ∈ wsX3_areTwins := by decide +kernel
  have hw2 := hts (.fieldLink RX3 15 "NibbleTrunk$Nodes" "paths" "[I") (by decide +kernel)
  have hw3 := hts (.fieldLink RX3 28 "NibbleTrunk$Nodes" "froms" "[I") (by decide +kernel)
  rw [fX3_areTwins] at hF
  refine lv_aload_n hx hb dX3_areTwins_0 rfl (lv_at hl 0 rfl) ?_
  refine lv_iload_n hx hb dX3_areTwins_1 rfl (lv_at hl 2 rfl) ?_
  obtain ⟨q_2, hc, hF⟩ := gb_some hF
  refine gcVi (ci := 3) (As := [.int x2]) (rest := []) (pre := [gO h_t 3 [.int v_t_size, .ref h_t_paths, .ref h_t_children, .ref h_t_prefixes, .ref h_t_depths, .ref h_t_froms, .ref h_t_tills], gA h_t_tills cI 48 c_t_tills, gA h_t_froms cI 48 c_t_froms]) (post := [gO h_t 3 [.int v_t_size, .ref h_t_paths, .ref h_t_children, .ref h_t_prefixes, .ref h_t_depths, .ref h_t_froms, .ref h_t_tills], gA h_t_tills cI 48 c_t_tills, gA h_t_froms cI 48 c_t_froms]) (wr := [gA h_t_children cI 48 c_t_children, gA h_t_paths cI 48 c_t_paths, gO h_p1 1 [.int v_p1_size, .ref h_p1_words, .ref h_p1_values], gA h_p1_values cI 48 c_p1_values, gA h_p1_words cI 48 c_p1_words]) ⟨hx, hb, hml, hown, hts⟩ (kX3_keysBelow l D cI cZ cD cG h_t v_t_size h_t_paths h_t_children h_t_prefixes h_t_depths h_t_froms h_t_tills c_t_tills c_t_froms x2 q_2 hc) (cwV 1 hts gX3_areTwins_X3_keysBelow rfl rfl rfl (by decide +kernel) ⟨Nat.le_of_ble_eq_true rfl, Nat.le_of_ble_eq_true rfl⟩) hK hP hD hS hA [0, 1, 2] [3, 4, 5, 6, 7] rfl rfl (by decide) (by decide) (by decide) 0 rfl rfl rfl hl.1 rfl (Nat.le_of_ble_eq_true rfl) dX3_areTwins_2 ⟨Nat.zero_le _, Nat.zero_le _⟩ (fun H locs hP hD hS => ?_)
  have hP : va_P D vwCl [gA h_t_children cI 48 c_t_children, gA h_t_paths cI 48 c_t_paths, gO h_p1 1 [.int v_p1_size, .ref h_p1_words, .ref h_p1_values], gA h_p1_values cI 48 c_p1_values, gA h_p1_words cI 48 c_p1_words, gO h_t 3 [.int v_t_size, .ref h_t_paths, .ref h_t_children, .ref h_t_prefixes, .ref h_t_depths, .ref h_t_froms, .ref h_t_tills], gA h_t_tills cI 48 c_t_tills, gA h_t_froms cI 48 c_t_froms] H := hP
  have hD : va_D A [gA h_t_children cI 48 c_t_children, gA h_t_paths cI 48 c_t_paths, gO h_p1 1 [.int v_p1_size, .ref h_p1_words, .ref h_p1_values], gA h_p1_values cI 48 c_p1_values, gA h_p1_words cI 48 c_p1_words, gO h_t 3 [.int v_t_size, .ref h_t_paths, .ref h_t_children, .ref h_t_prefixes, .ref h_t_depths, .ref h_t_froms, .ref h_t_tills], gA h_t_tills cI 48 c_t_tills, gA h_t_froms cI 48 c_t_froms] := hD
  refine lv_istore (lv' := [(4, .int q_2), (0, .ref h_t), (1, .ref h_p1), (2, .int x2), (3, .int x3)]) hx hb dX3_areTwins_5 hl (by decide) rfl (fun ls hl => ?_)
  refine lv_aload_n hx hb dX3_areTwins_7 rfl (lv_at hl 1 rfl) ?_
  refine lv_iload_n hx hb dX3_areTwins_8 rfl (lv_at hl 3 rfl) ?_
  obtain ⟨q_9, hc, hF⟩ := gb_some hF
  refine gcVz (ci := 3) (As := [.int x2]) (rest := []) (pre := [gO h_t 3 [.int v_t_size, .ref h_t_paths, .ref h_t_children, .ref h_t_prefixes, .ref h_t_depths, .ref h_t_froms, .ref h_t_tills]]) (post := [gO h_t 3 [.int v_t_size, .ref h_t_paths, .ref h_t_children, .ref h_t_prefixes, .ref h_t_depths, .ref h_t_froms, .ref h_t_tills]]) (wr := [gA h_t_children cI 48 c_t_children, gA h_t_paths cI 48 c_t_paths, gO h_p1 1 [.int v_p1_size, .ref h_p1_words, .ref h_p1_values], gA h_p1_values cI 48 c_p1_values, gA h_p1_words cI 48 c_p1_words, gA h_t_tills cI 48 c_t_tills, gA h_t_froms cI 48 c_t_froms]) ⟨hx, hb, hml, hown, hts⟩ (kX3_isSeat l D cI cZ cD cG h_t v_t_size h_t_paths h_t_children h_t_prefixes h_t_depths h_t_froms h_t_tills x2 q_9 hc) (cwV 1 hts gX3_areTwins_X3_isSeat rfl rfl rfl (by decide +kernel) ⟨Nat.le_of_ble_eq_true rfl, Nat.le_of_ble_eq_true rfl⟩) hK hP hD hS hA [5] [0, 1, 2, 3, 4, 6, 7] rfl rfl (by decide) (by decide) (by decide) 0 rfl rfl rfl hl.1 rfl (Nat.le_of_ble_eq_true rfl) dX3_areTwins_9 ⟨Nat.zero_le _, Nat.zero_le _⟩ (fun H locs hnq_9 hP hD hS => ?_)
  have hP : va_P D vwCl [gA h_t_children cI 48 c_t_children, gA h_t_paths cI 48 c_t_paths, gO h_p1 1 [.int v_p1_size, .ref h_p1_words, .ref h_p1_values], gA h_p1_values cI 48 c_p1_values, gA h_p1_words cI 48 c_p1_words, gA h_t_tills cI 48 c_t_tills, gA h_t_froms cI 48 c_t_froms, gO h_t 3 [.int v_t_size, .ref h_t_paths, .ref h_t_children, .ref h_t_prefixes, .ref h_t_depths, .ref h_t_froms, .ref h_t_tills]] H := hP
  have hD : va_D A [gA h_t_children cI 48 c_t_children, gA h_t_paths cI 48 c_t_paths, gO h_p1 1 [.int v_p1_size, .ref h_p1_words, .ref h_p1_values], gA h_p1_values cI 48 c_p1_values, gA h_p1_words cI 48 c_p1_words, gA h_t_tills cI 48 c_t_tills, gA h_t_froms cI 48 c_t_froms, gO h_t 3 [.int v_t_size, .ref h_t_paths, .ref h_t_children, .ref h_t_prefixes, .ref h_t_depths, .ref h_t_froms, .ref h_t_tills]] := hD
  refine lv_if_eq (tgt := 48) hx hb dX3_areTwins_12 (by decide) (fun cc => ?_) (fun cc => ?_)
  · have hF := gi_pos hF cc
    refine lv_iconst (v := 0) hx hb dX3_areTwins_48 (by decide) ?_
    obtain rfl := Option.some.inj hF
    exact hQ _ _ _ _ _ (hP.sub [7, 5, 6, 0, 1, 2, 3, 4] rfl) (hD.sub [7, 5, 6, 0, 1, 2, 3, 4] (by decide) rfl) hS rfl rfl dX3_areTwins_49
  · have hF := gi_neg hF cc
    refine lv_aload_n hx hb dX3_areTwins_15 rfl (lv_at hl 1 rfl) ?_
    refine lv_iload_n hx hb dX3_areTwins_16 rfl (lv_at hl 4 rfl) ?_
    obtain ⟨q_17, hc, hF⟩ := gb_some hF
    refine gcVz (ci := 3) (As := [.int x3]) (rest := []) (pre := [gO h_t 3 [.int v_t_size, .ref h_t_paths, .ref h_t_children, .ref h_t_prefixes, .ref h_t_depths, .ref h_t_froms, .ref h_t_tills]]) (post := [gO h_t 3 [.int v_t_size, .ref h_t_paths, .ref h_t_children, .ref h_t_prefixes, .ref h_t_depths, .ref h_t_froms, .ref h_t_tills]]) (wr := [gA h_t_children cI 48 c_t_children, gA h_t_paths cI 48 c_t_paths, gO h_p1 1 [.int v_p1_size, .ref h_p1_words, .ref h_p1_values], gA h_p1_values cI 48 c_p1_values, gA h_p1_words cI 48 c_p1_words, gA h_t_tills cI 48 c_t_tills, gA h_t_froms cI 48 c_t_froms]) ⟨hx, hb, hml, hown, hts⟩ (kX3_isSeat l D cI cZ cD cG h_t v_t_size h_t_paths h_t_children h_t_prefixes h_t_depths h_t_froms h_t_tills x3 q_17 hc) (cwV 1 hts gX3_areTwins_X3_isSeat rfl rfl rfl (by decide +kernel) ⟨Nat.le_of_ble_eq_true rfl, Nat.le_of_ble_eq_true rfl⟩) hK hP hD hS hA [7] [0, 1, 2, 3, 4, 5, 6] rfl rfl (by decide) (by decide) (by decide) 0 rfl rfl rfl hl.1 rfl (Nat.le_of_ble_eq_true rfl) dX3_areTwins_17 ⟨Nat.zero_le _, Nat.zero_le _⟩ (fun H locs hnq_17 hP hD hS => ?_)
    have hP : va_P D vwCl [gA h_t_children cI 48 c_t_children, gA h_t_paths cI 48 c_t_paths, gO h_p1 1 [.int v_p1_size, .ref h_p1_words, .ref h_p1_values], gA h_p1_values cI 48 c_p1_values, gA h_p1_words cI 48 c_p1_words, gA h_t_tills cI 48 c_t_tills, gA h_t_froms cI 48 c_t_froms, gO h_t 3 [.int v_t_size, .ref h_t_paths, .ref h_t_children, .ref h_t_prefixes, .ref h_t_depths, .ref h_t_froms, .ref h_t_tills]] H := hP
    have hD : va_D A [gA h_t_children cI 48 c_t_children, gA h_t_paths cI 48 c_t_paths, gO h_p1 1 [.int v_p1_size, .ref h_p1_words, .ref h_p1_values], gA h_p1_values cI 48 c_p1_values, gA h_p1_words cI 48 c_p1_words, gA h_t_tills cI 48 c_t_tills, gA h_t_froms cI 48 c_t_froms, gO h_t 3 [.int v_t_size, .ref h_t_paths, .ref h_t_children, .ref h_t_prefixes, .ref h_t_depths, .ref h_t_froms, .ref h_t_tills]] := hD
    refine lv_if_eq (tgt := 48) hx hb dX3_areTwins_20 (by decide) (fun cc => ?_) (fun cc => ?_)
    · have hF := gi_pos hF cc
      refine lv_iconst (v := 0) hx hb dX3_areTwins_48 (by decide) ?_
      obtain rfl := Option.some.inj hF
      exact hQ _ _ _ _ _ (hP.sub [7, 5, 6, 0, 1, 2, 3, 4] rfl) (hD.sub [7, 5, 6, 0, 1, 2, 3, 4] (by decide) rfl) hS rfl rfl dX3_areTwins_49
    · have hF := gi_neg hF cc
      refine lv_iload hx hb dX3_areTwins_23 (lv_at hl 0 rfl) ?_
      refine lv_aload_n hx hb dX3_areTwins_25 rfl (lv_at hl 1 rfl) ?_
      refine lv_iload_n hx hb dX3_areTwins_26 rfl (lv_at hl 4 rfl) ?_
      obtain ⟨q_27, hc, hF⟩ := gb_some hF
      refine gcVi (ci := 3) (As := [.int x3]) (rest := [.int q_2]) (pre := [gO h_t 3 [.int v_t_size, .ref h_t_paths, .ref h_t_children, .ref h_t_prefixes, .ref h_t_depths, .ref h_t_froms, .ref h_t_tills], gA h_t_tills cI 48 c_t_tills, gA h_t_froms cI 48 c_t_froms]) (post := [gO h_t 3 [.int v_t_size, .ref h_t_paths, .ref h_t_children, .ref h_t_prefixes, .ref h_t_depths, .ref h_t_froms, .ref h_t_tills], gA h_t_tills cI 48 c_t_tills, gA h_t_froms cI 48 c_t_froms]) (wr := [gA h_t_children cI 48 c_t_children, gA h_t_paths cI 48 c_t_paths, gO h_p1 1 [.int v_p1_size, .ref h_p1_words, .ref h_p1_values], gA h_p1_values cI 48 c_p1_values, gA h_p1_words cI 48 c_p1_words]) ⟨hx, hb, hml, hown, hts⟩ (kX3_keysBelow l D cI cZ cD cG h_t v_t_size h_t_paths h_t_children h_t_prefixes h_t_depths h_t_froms h_t_tills c_t_tills c_t_froms x3 q_27 hc) (cwV 1 hts gX3_areTwins_X3_keysBelow rfl rfl rfl (by decide +kernel) ⟨Nat.le_of_ble_eq_true rfl, Nat.le_of_ble_eq_true rfl⟩) hK hP hD hS hA [7, 5, 6] [0, 1, 2, 3, 4] rfl rfl (by decide) (by decide) (by decide) 0 rfl rfl rfl hl.1 rfl (Nat.le_of_ble_eq_true rfl) dX3_areTwins_27 ⟨Nat.zero_le _, Nat.zero_le _⟩ (fun H locs hP hD hS => ?_)
      have hP : va_P D vwCl [gA h_t_children cI 48 c_t_children, gA h_t_paths cI 48 c_t_paths, gO h_p1 1 [.int v_p1_size, .ref h_p1_words, .ref h_p1_values], gA h_p1_values cI 48 c_p1_values, gA h_p1_words cI 48 c_p1_words, gO h_t 3 [.int v_t_size, .ref h_t_paths, .ref h_t_children, .ref h_t_prefixes, .ref h_t_depths, .ref h_t_froms, .ref h_t_tills], gA h_t_tills cI 48 c_t_tills, gA h_t_froms cI 48 c_t_froms] H := hP
      have hD : va_D A [gA h_t_children cI 48 c_t_children, gA h_t_paths cI 48 c_t_paths, gO h_p1 1 [.int v_p1_size, .ref h_p1_words, .ref h_p1_values], gA h_p1_values cI 48 c_p1_values, gA h_p1_words cI 48 c_p1_words, gO h_t 3 [.int v_t_size, .ref h_t_paths, .ref h_t_children, .ref h_t_prefixes, .ref h_t_depths, .ref h_t_froms, .ref h_t_tills], gA h_t_tills cI 48 c_t_tills, gA h_t_froms cI 48 c_t_froms] := hD
      refine lv_icmp_ne (tgt := 48) hx hb dX3_areTwins_30 (by decide) (fun cc => ?_) (fun cc => ?_)
      · have hF := gi_neg hF cc
        refine lv_iconst (v := 0) hx hb dX3_areTwins_48 (by decide) ?_
        obtain rfl := Option.some.inj hF
        exact hQ _ _ _ _ _ (hP.sub [5, 6, 7, 0, 1, 2, 3, 4] rfl) (hD.sub [5, 6, 7, 0, 1, 2, 3, 4] (by decide) rfl) hS rfl rfl dX3_areTwins_49
      · have hF := gi_pos hF cc
        refine lv_aload_n hx hb dX3_areTwins_33 rfl (lv_at hl 1 rfl) ?_
        refine va_get (D := D) (ci := 3) (v := .ref h_t_children) (C := RX3) (T := TX3) (N := 7) hx hb hts hinX3 hown hK hP 5 rfl rfl 2 (by decide) hw0 (fun _ h9 => h9) rfl dX3_areTwins_34 ?_
        refine lv_iload_n hx hb dX3_areTwins_37 rfl (lv_at hl 3 rfl) ?_
        obtain ⟨hin, hF⟩ := gx_some hF
        refine va_iald hx hb hK hP 0 0 rfl rfl hin dX3_areTwins_38 ?_
        refine lv_aload_n hx hb dX3_areTwins_39 rfl (lv_at hl 1 rfl) ?_
        refine va_get (D := D) (ci := 3) (v := .ref h_t_children) (C := RX3) (T := TX3) (N := 7) hx hb hts hinX3 hown hK hP 5 rfl rfl 2 (by decide) hw0 (fun _ h9 => h9) rfl dX3_areTwins_40 ?_
        refine lv_iload_n hx hb dX3_areTwins_43 rfl (lv_at hl 4 rfl) ?_
        obtain ⟨hin, hF⟩ := gx_some hF
        refine va_iald hx hb hK hP 0 0 rfl rfl hin dX3_areTwins_44 ?_
        refine lv_icmp_eq (tgt := 50) hx hb dX3_areTwins_45 (by decide) (fun cc => ?_) (fun cc => ?_)
        · have hF := gi_pos hF cc
          refine lv_aload_n hx hb dX3_areTwins_50 rfl (lv_at hl 1 rfl) ?_
          refine va_get (D := D) (ci := 3) (v := .ref h_t_paths) (C := RX3) (T := TX3) (N := 7) hx hb hts hinX3 hown hK hP 5 rfl rfl 1 (by decide) hw2 (fun _ h9 => h9) rfl dX3_areTwins_51 ?_
          refine lv_iload_n hx hb dX3_areTwins_54 rfl (lv_at hl 3 rfl) ?_
          obtain ⟨hin, hF⟩ := gx_some hF
          refine va_iald hx hb hK hP 1 0 rfl rfl hin dX3_areTwins_55 ?_
          obtain ⟨q_56, hc, hF⟩ := gb_some hF
          refine gcSi (As := [.int (c_t_paths (x2).toNatClampNeg)]) (rest := []) (pre := []) (post := []) (wr := [gA h_t_children cI 48 c_t_children, gA h_t_paths cI 48 c_t_paths, gO h_p1 1 [.int v_p1_size, .ref h_p1_words, .ref h_p1_values], gA h_p1_values cI 48 c_p1_values, gA h_p1_words cI 48 c_p1_words, gO h_t 3 [.int v_t_size, .ref h_t_paths, .ref h_t_children, .ref h_t_prefixes, .ref h_t_depths, .ref h_t_froms, .ref h_t_tills], gA h_t_tills cI 48 c_t_tills, gA h_t_froms cI 48 c_t_froms]) ⟨hx, hb, hml, hown, hts⟩ (kX6_length l D cI cZ cD cG (c_t_paths (x2).toNatClampNeg) q_56 hc) (va_cwS 1 hts gX3_areTwins_X6_length rfl rfl rfl (by decide +kernel) ⟨Nat.le_of_ble_eq_true rfl, Nat.le_of_ble_eq_true rfl⟩) hK hP hD hS hA [] [0, 1, 2, 3, 4, 5, 6, 7] rfl rfl (by decide) (by decide) (by decide) rfl hl.1 rfl (Nat.le_of_ble_eq_true rfl) dX3_areTwins_56 ⟨Nat.zero_le _, Nat.zero_le _⟩ (fun H locs hP hD hS => ?_)
          have hP : va_P D vwCl [gA h_t_children cI 48 c_t_children, gA h_t_paths cI 48 c_t_paths, gO h_p1 1 [.int v_p1_size, .ref h_p1_words, .ref h_p1_values], gA h_p1_values cI 48 c_p1_values, gA h_p1_words cI 48 c_p1_words, gO h_t 3 [.int v_t_size, .ref h_t_paths, .ref h_t_children, .ref h_t_prefixes, .ref h_t_depths, .ref h_t_froms, .ref h_t_tills], gA h_t_tills cI 48 c_t_tills, gA h_t_froms cI 48 c_t_froms] H := hP
          have hD : va_D A [gA h_t_children cI 48 c_t_children, gA h_t_paths cI 48 c_t_paths, gO h_p1 1 [.int v_p1_size, .ref h_p1_words, .ref h_p1_values], gA h_p1_values cI 48 c_p1_values, gA h_p1_words cI 48 c_p1_words, gO h_t 3 [.int v_t_size, .ref h_t_paths, .ref h_t_children, .ref h_t_prefixes, .ref h_t_depths, .ref h_t_froms, .ref h_t_tills], gA h_t_tills cI 48 c_t_tills, gA h_t_froms cI 48 c_t_froms] := hD
          refine lv_istore (lv' := [(5, .int q_56), (4, .int q_2), (0, .ref h_t), (1, .ref h_p1), (2, .int x2), (3, .int x3)]) hx hb dX3_areTwins_59 hl (by decide) rfl (fun ls hl => ?_)
          refine lv_aload_n hx hb dX3_areTwins_61 rfl (lv_at hl 2 rfl) ?_
          refine va_get (D := D) (ci := 3) (v := .ref h_t_paths) (C := RX3) (T := TX3) (N := 7) hx hb hts hinX3 hown hK hP 5 rfl rfl 1 (by decide) hw2 (fun _ h9 => h9) rfl dX3_areTwins_62 ?_
          refine lv_iload_n hx hb dX3_areTwins_65 rfl (lv_at hl 5 rfl) ?_
          obtain ⟨hin, hF⟩ := gx_some hF
          refine va_iald hx hb hK hP 1 0 rfl rfl hin dX3_areTwins_66 ?_
          obtain ⟨q_67, hc, hF⟩ := gb_some hF
          refine gcSi (As := [.int (c_t_paths (x3).toNatClampNeg)]) (rest := []) (pre := []) (post := []) (wr := [gA h_t_children cI 48 c_t_children, gA h_t_paths cI 48 c_t_paths, gO h_p1 1 [.int v_p1_size, .ref h_p1_words, .ref h_p1_values], gA h_p1_values cI 48 c_p1_values, gA h_p1_words cI 48 c_p1_words, gO h_t 3 [.int v_t_size, .ref h_t_paths, .ref h_t_children, .ref h_t_prefixes, .ref h_t_depths, .ref h_t_froms, .ref h_t_tills], gA h_t_tills cI 48 c_t_tills, gA h_t_froms cI 48 c_t_froms]) ⟨hx, hb, hml, hown, hts⟩ (kX6_length l D cI cZ cD cG (c_t_paths (x3).toNatClampNeg) q_67 hc) (va_cwS 1 hts gX3_areTwins_X6_length rfl rfl rfl (by decide +kernel) ⟨Nat.le_of_ble_eq_true rfl, Nat.le_of_ble_eq_true rfl⟩) hK hP hD hS hA [] [0, 1, 2, 3, 4, 5, 6, 7] rfl rfl (by decide) (by decide) (by decide) rfl hl.1 rfl (Nat.le_of_ble_eq_true rfl) dX3_areTwins_67 ⟨Nat.zero_le _, Nat.zero_le _⟩ (fun H locs hP hD hS => ?_)
          have hP : va_P D vwCl [gA h_t_children cI 48 c_t_children, gA h_t_paths cI 48 c_t_paths, gO h_p1 1 [.int v_p1_size, .ref h_p1_words, .ref h_p1_values], gA h_p1_values cI 48 c_p1_values, gA h_p1_words cI 48 c_p1_words, gO h_t 3 [.int v_t_size, .ref h_t_paths, .ref h_t_children, .ref h_t_prefixes, .ref h_t_depths, .ref h_t_froms, .ref h_t_tills], gA h_t_tills cI 48 c_t_tills, gA h_t_froms cI 48 c_t_froms] H := hP
          have hD : va_D A [gA h_t_children cI 48 c_t_children, gA h_t_paths cI 48 c_t_paths, gO h_p1 1 [.int v_p1_size, .ref h_p1_words, .ref h_p1_values], gA h_p1_values cI 48 c_p1_values, gA h_p1_words cI 48 c_p1_words, gO h_t 3 [.int v_t_size, .ref h_t_paths, .ref h_t_children, .ref h_t_prefixes, .ref h_t_depths, .ref h_t_froms, .ref h_t_tills], gA h_t_tills cI 48 c_t_tills, gA h_t_froms cI 48 c_t_froms] := hD
          refine lv_istore (lv' := [(6, .int q_67), (5, .int q_56), (4, .int q_2), (0, .ref h_t), (1, .ref h_p1), (2, .int x2), (3, .int x3)]) hx hb dX3_areTwins_70 hl (by decide) rfl (fun ls hl => ?_)
          refine lv_iconst (v := 0) hx hb dX3_areTwins_72 (by decide) ?_
          refine lv_istore (lv' := [(7, .int (0 : Int32)), (6, .int q_67), (5, .int q_56), (4, .int q_2), (0, .ref h_t), (1, .ref h_p1), (2, .int x2), (3, .int x3)]) hx hb dX3_areTwins_73 hl (by decide) rfl (fun ls hl => ?_)
          have Ln_75 : ∀ (n_75 : Nat) (x7_75 : Int32) (H : Heap) (locs : List Loc) (ls : Array Slot), fX3_areTwins_L75 q_2 x2 c_t_froms x3 v_p1_size c_p1_values c_p1_words q_56 q_67 n_75 x7_75 = some res → va_P D vwCl [gA h_t_children cI 48 c_t_children, gA h_t_paths cI 48 c_t_paths, gO h_p1 1 [.int v_p1_size, .ref h_p1_words, .ref h_p1_values], gA h_p1_values cI 48 c_p1_values, gA h_p1_words cI 48 c_p1_words, gO h_t 3 [.int v_t_size, .ref h_t_paths, .ref h_t_children, .ref h_t_prefixes, .ref h_t_depths, .ref h_t_froms, .ref h_t_tills], gA h_t_tills cI 48 c_t_tills, gA h_t_froms cI 48 c_t_froms] H → va_D A [gA h_t_children cI 48 c_t_children, gA h_t_paths cI 48 c_t_paths, gO h_p1 1 [.int v_p1_size, .ref h_p1_words, .ref h_p1_values], gA h_p1_values cI 48 c_p1_values, gA h_p1_words cI 48 c_p1_words, gO h_t 3 [.int v_t_size, .ref h_t_paths, .ref h_t_children, .ref h_t_prefixes, .ref h_t_depths, .ref h_t_froms, .ref h_t_tills], gA h_t_tills cI 48 c_t_tills, gA h_t_froms cI 48 c_t_froms] → va_S A s.heap H locs → lv_has ls 10 [(0, .ref h_t), (1, .ref h_p1), (2, .int x2), (3, .int x3), (4, .int q_2), (5, .int q_56), (6, .int q_67), (7, .int x7_75)] → W p l e rmX3_areTwins s m args below meth c H locs 0 0 Q (F0 m 75 ls []) := by
            intro n_75
            induction n_75 with
            | zero =>
              intro x7_75 H locs ls hF
              rw [fX3_areTwins_L75] at hF
              cases hF
            | succ n_75 ih75 =>
              intro x7_75 H locs ls hF hP hD hS hl
              rw [fX3_areTwins_L75] at hF
              refine lv_iload hx hb dX3_areTwins_75 (lv_at hl 7 rfl) ?_
              refine lv_iload hx hb dX3_areTwins_77 (lv_at hl 4 rfl) ?_
              refine lv_icmp_ge (tgt := 152) hx hb dX3_areTwins_79 (by decide) (fun cc => ?_) (fun cc => ?_)
              · have hF := gi_pos hF cc
                refine lv_iconst (v := 1) hx hb dX3_areTwins_152 (by decide) ?_
                obtain rfl := Option.some.inj hF
                exact hQ _ _ _ _ _ (hP.sub [5, 6, 7, 0, 1, 2, 3, 4] rfl) (hD.sub [5, 6, 7, 0, 1, 2, 3, 4] (by decide) rfl) hS rfl rfl dX3_areTwins_153
              · have hF := gi_neg hF cc
                refine lv_aload_n hx hb dX3_areTwins_82 rfl (lv_at hl 0 rfl) ?_
                refine va_get (D := D) (ci := 3) (v := .ref h_t_froms) (C := RX3) (T := TX3) (N := 7) hx hb hts hinX3 hown hK hP 5 rfl rfl 5 (by decide) hw3 (fun _ h9 => h9) rfl dX3_areTwins_83 ?_
                refine lv_iload_n hx hb dX3_areTwins_86 rfl (lv_at hl 2 rfl) ?_
                obtain ⟨hin, hF⟩ := gx_some hF
                refine va_iald hx hb hK hP 7 0 rfl rfl hin dX3_areTwins_87 ?_
                refine lv_iload hx hb dX3_areTwins_88 (lv_at hl 7 rfl) ?_
                refine lv_iadd hx hb dX3_areTwins_90 ?_
                refine lv_topi (fun x8_91 ex => ?_)
                have hF := gl_some hF ex
                refine lv_istore (lv' := [(8, .int x8_91), (0, .ref h_t), (1, .ref h_p1), (2, .int x2), (3, .int x3), (4, .int q_2), (5, .int q_56), (6, .int q_67), (7, .int x7_75)]) hx hb dX3_areTwins_91 hl (by decide) rfl (fun ls hl => ?_)
                refine lv_aload_n hx hb dX3_areTwins_93 rfl (lv_at hl 1 rfl) ?_
                refine va_get (D := D) (ci := 3) (v := .ref h_t_froms) (C := RX3) (T := TX3) (N := 7) hx hb hts hinX3 hown hK hP 5 rfl rfl 5 (by decide) hw3 (fun _ h9 => h9) rfl dX3_areTwins_94 ?_
                refine lv_iload_n hx hb dX3_areTwins_97 rfl (lv_at hl 4 rfl) ?_
                obtain ⟨hin, hF⟩ := gx_some hF
                refine va_iald hx hb hK hP 7 0 rfl rfl hin dX3_areTwins_98 ?_
                refine lv_iload hx hb dX3_areTwins_99 (lv_at hl 8 rfl) ?_
                refine lv_iadd hx hb dX3_areTwins_101 ?_
                refine lv_topi (fun x9_102 ex => ?_)
                have hF := gl_some hF ex
                refine lv_istore (lv' := [(9, .int x9_102), (8, .int x8_91), (0, .ref h_t), (1, .ref h_p1), (2, .int x2), (3, .int x3), (4, .int q_2), (5, .int q_56), (6, .int q_67), (7, .int x7_75)]) hx hb dX3_areTwins_102 hl (by decide) rfl (fun ls hl => ?_)
                refine lv_aload_n hx hb dX3_areTwins_104 rfl (lv_at hl 3 rfl) ?_
                refine lv_iload hx hb dX3_areTwins_105 (lv_at hl 1 rfl) ?_
                obtain ⟨q_107, hc, hF⟩ := gb_some hF
                refine gcVi (ci := 1) (As := [.int x8_91]) (rest := []) (pre := [gO h_p1 1 [.int v_p1_size, .ref h_p1_words, .ref h_p1_values], gA h_p1_values cI 48 c_p1_values]) (post := [gO h_p1 1 [.int v_p1_size, .ref h_p1_words, .ref h_p1_values], gA h_p1_values cI 48 c_p1_values]) (wr := [gA h_t_children cI 48 c_t_children, gA h_t_paths cI 48 c_t_paths, gA h_p1_words cI 48 c_p1_words, gO h_t 3 [.int v_t_size, .ref h_t_paths, .ref h_t_children, .ref h_t_prefixes, .ref h_t_depths, .ref h_t_froms, .ref h_t_tills], gA h_t_tills cI 48 c_t_tills, gA h_t_froms cI 48 c_t_froms]) ⟨hx, hb, hml, hown, hts⟩ (kX1_value l D cI cZ cD cG h_p1 v_p1_size h_p1_words h_p1_values c_p1_values x8_91 q_107 hc) (cwV 1 hts gX3_areTwins_X1_value rfl rfl rfl (by decide +kernel) ⟨Nat.le_of_ble_eq_true rfl, Nat.le_of_ble_eq_true rfl⟩) hK hP hD hS hA [2, 3] [0, 1, 4, 5, 6, 7] rfl rfl (by decide) (by decide) (by decide) 0 rfl rfl rfl hl.1 rfl (Nat.le_of_ble_eq_true rfl) dX3_areTwins_107 ⟨Nat.zero_le _, Nat.zero_le _⟩ (fun H locs hP hD hS => ?_)
                have hP : va_P D vwCl [gA h_t_children cI 48 c_t_children, gA h_t_paths cI 48 c_t_paths, gA h_p1_words cI 48 c_p1_words, gO h_t 3 [.int v_t_size, .ref h_t_paths, .ref h_t_children, .ref h_t_prefixes, .ref h_t_depths, .ref h_t_froms, .ref h_t_tills], gA h_t_tills cI 48 c_t_tills, gA h_t_froms cI 48 c_t_froms, gO h_p1 1 [.int v_p1_size, .ref h_p1_words, .ref h_p1_values], gA h_p1_values cI 48 c_p1_values] H := hP
                have hD : va_D A [gA h_t_children cI 48 c_t_children, gA h_t_paths cI 48 c_t_paths, gA h_p1_words cI 48 c_p1_words, gO h_t 3 [.int v_t_size, .ref h_t_paths, .ref h_t_children, .ref h_t_prefixes, .ref h_t_depths, .ref h_t_froms, .ref h_t_tills], gA h_t_tills cI 48 c_t_tills, gA h_t_froms cI 48 c_t_froms, gO h_p1 1 [.int v_p1_size, .ref h_p1_words, .ref h_p1_values], gA h_p1_values cI 48 c_p1_values] := hD
                refine lv_aload_n hx hb dX3_areTwins_110 rfl (lv_at hl 3 rfl) ?_
                refine lv_iload hx hb dX3_areTwins_111 (lv_at hl 0 rfl) ?_
                obtain ⟨q_113, hc, hF⟩ := gb_some hF
                refine gcVi (ci := 1) (As := [.int x9_102]) (rest := [.int q_107]) (pre := [gO h_p1 1 [.int v_p1_size, .ref h_p1_words, .ref h_p1_values], gA h_p1_values cI 48 c_p1_values]) (post := [gO h_p1 1 [.int v_p1_size, .ref h_p1_words, .ref h_p1_values], gA h_p1_values cI 48 c_p1_values]) (wr := [gA h_t_children cI 48 c_t_children, gA h_t_paths cI 48 c_t_paths, gA h_p1_words cI 48 c_p1_words, gO h_t 3 [.int v_t_size, .ref h_t_paths, .ref h_t_children, .ref h_t_prefixes, .ref h_t_depths, .ref h_t_froms, .ref h_t_tills], gA h_t_tills cI 48 c_t_tills, gA h_t_froms cI 48 c_t_froms]) ⟨hx, hb, hml, hown, hts⟩ (kX1_value l D cI cZ cD cG h_p1 v_p1_size h_p1_words h_p1_values c_p1_values x9_102 q_113 hc) (cwV 1 hts gX3_areTwins_X1_value rfl rfl rfl (by decide +kernel) ⟨Nat.le_of_ble_eq_true rfl, Nat.le_of_ble_eq_true rfl⟩) hK hP hD hS hA [6, 7] [0, 1, 2, 3, 4, 5] rfl rfl (by decide) (by decide) (by decide) 0 rfl rfl rfl hl.1 rfl (Nat.le_of_ble_eq_true rfl) dX3_areTwins_113 ⟨Nat.zero_le _, Nat.zero_le _⟩ (fun H locs hP hD hS => ?_)
                have hP : va_P D vwCl [gA h_t_children cI 48 c_t_children, gA h_t_paths cI 48 c_t_paths, gA h_p1_words cI 48 c_p1_words, gO h_t 3 [.int v_t_size, .ref h_t_paths, .ref h_t_children, .ref h_t_prefixes, .ref h_t_depths, .ref h_t_froms, .ref h_t_tills], gA h_t_tills cI 48 c_t_tills, gA h_t_froms cI 48 c_t_froms, gO h_p1 1 [.int v_p1_size, .ref h_p1_words, .ref h_p1_values], gA h_p1_values cI 48 c_p1_values] H := hP
                have hD : va_D A [gA h_t_children cI 48 c_t_children, gA h_t_paths cI 48 c_t_paths, gA h_p1_words cI 48 c_p1_words, gO h_t 3 [.int v_t_size, .ref h_t_paths, .ref h_t_children, .ref h_t_prefixes, .ref h_t_depths, .ref h_t_froms, .ref h_t_tills], gA h_t_tills cI 48 c_t_tills, gA h_t_froms cI 48 c_t_froms, gO h_p1 1 [.int v_p1_size, .ref h_p1_words, .ref h_p1_values], gA h_p1_values cI 48 c_p1_values] := hD
                refine lv_icmp_ne (tgt := 144) hx hb dX3_areTwins_116 (by decide) (fun cc => ?_) (fun cc => ?_)
                · have hF := gi_neg hF cc
                  refine lv_iconst (v := 0) hx hb dX3_areTwins_144 (by decide) ?_
                  obtain rfl := Option.some.inj hF
                  exact hQ _ _ _ _ _ (hP.sub [3, 4, 5, 0, 1, 6, 7, 2] rfl) (hD.sub [3, 4, 5, 0, 1, 6, 7, 2] (by decide) rfl) hS rfl rfl dX3_areTwins_145
                · have hF := gi_pos hF cc
                  refine lv_aload_n hx hb dX3_areTwins_119 rfl (lv_at hl 3 rfl) ?_
                  refine lv_iload hx hb dX3_areTwins_120 (lv_at hl 1 rfl) ?_
                  obtain ⟨q_122, hc, hF⟩ := gb_some hF
                  refine gcVi (ci := 1) (As := [.int x8_91]) (rest := []) (pre := [gO h_p1 1 [.int v_p1_size, .ref h_p1_words, .ref h_p1_values], gA h_p1_words cI 48 c_p1_words]) (post := [gO h_p1 1 [.int v_p1_size, .ref h_p1_words, .ref h_p1_values], gA h_p1_words cI 48 c_p1_words]) (wr := [gA h_t_children cI 48 c_t_children, gA h_t_paths cI 48 c_t_paths, gO h_t 3 [.int v_t_size, .ref h_t_paths, .ref h_t_children, .ref h_t_prefixes, .ref h_t_depths, .ref h_t_froms, .ref h_t_tills], gA h_t_tills cI 48 c_t_tills, gA h_t_froms cI 48 c_t_froms, gA h_p1_values cI 48 c_p1_values]) ⟨hx, hb, hml, hown, hts⟩ (kX1_word l D cI cZ cD cG h_p1 v_p1_size h_p1_words h_p1_values c_p1_words x8_91 q_122 hc) (cwV 1 hts gX3_areTwins_X1_word rfl rfl rfl (by decide +kernel) ⟨Nat.le_of_ble_eq_true rfl, Nat.le_of_ble_eq_true rfl⟩) hK hP hD hS hA [6, 2] [0, 1, 3, 4, 5, 7] rfl rfl (by decide) (by decide) (by decide) 0 rfl rfl rfl hl.1 rfl (Nat.le_of_ble_eq_true rfl) dX3_areTwins_122 ⟨Nat.zero_le _, Nat.zero_le _⟩ (fun H locs hP hD hS => ?_)
                  have hP : va_P D vwCl [gA h_t_children cI 48 c_t_children, gA h_t_paths cI 48 c_t_paths, gO h_t 3 [.int v_t_size, .ref h_t_paths, .ref h_t_children, .ref h_t_prefixes, .ref h_t_depths, .ref h_t_froms, .ref h_t_tills], gA h_t_tills cI 48 c_t_tills, gA h_t_froms cI 48 c_t_froms, gA h_p1_values cI 48 c_p1_values, gO h_p1 1 [.int v_p1_size, .ref h_p1_words, .ref h_p1_values], gA h_p1_words cI 48 c_p1_words] H := hP
                  have hD : va_D A [gA h_t_children cI 48 c_t_children, gA h_t_paths cI 48 c_t_paths, gO h_t 3 [.int v_t_size, .ref h_t_paths, .ref h_t_children, .ref h_t_prefixes, .ref h_t_depths, .ref h_t_froms, .ref h_t_tills], gA h_t_tills cI 48 c_t_tills, gA h_t_froms cI 48 c_t_froms, gA h_p1_values cI 48 c_p1_values, gO h_p1 1 [.int v_p1_size, .ref h_p1_words, .ref h_p1_values], gA h_p1_words cI 48 c_p1_words] := hD
                  refine lv_iload hx hb dX3_areTwins_125 (lv_at hl 7 rfl) ?_
                  obtain ⟨q_127, hc, hF⟩ := gb_some hF
                  refine gcSi (As := [.int q_122, .int q_56]) (rest := []) (pre := []) (post := []) (wr := [gA h_t_children cI 48 c_t_children, gA h_t_paths cI 48 c_t_paths, gO h_t 3 [.int v_t_size, .ref h_t_paths, .ref h_t_children, .ref h_t_prefixes, .ref h_t_depths, .ref h_t_froms, .ref h_t_tills], gA h_t_tills cI 48 c_t_tills, gA h_t_froms cI 48 c_t_froms, gA h_p1_values cI 48 c_p1_values, gO h_p1 1 [.int v_p1_size, .ref h_p1_words, .ref h_p1_values], gA h_p1_words cI 48 c_p1_words]) ⟨hx, hb, hml, hown, hts⟩ (kX6_tail l D cI cZ cD cG q_122 q_56 q_127 hc) (va_cwS 2 hts gX3_areTwins_X6_tail rfl rfl rfl (by decide +kernel) ⟨Nat.le_of_ble_eq_true rfl, Nat.le_of_ble_eq_true rfl⟩) hK hP hD hS hA [] [0, 1, 2, 3, 4, 5, 6, 7] rfl rfl (by decide) (by decide) (by decide) rfl hl.1 rfl (Nat.le_of_ble_eq_true rfl) dX3_areTwins_127 ⟨Nat.zero_le _, Nat.zero_le _⟩ (fun H locs hP hD hS => ?_)
                  have hP : va_P D vwCl [gA h_t_children cI 48 c_t_children, gA h_t_paths cI 48 c_t_paths, gO h_t 3 [.int v_t_size, .ref h_t_paths, .ref h_t_children, .ref h_t_prefixes, .ref h_t_depths, .ref h_t_froms, .ref h_t_tills], gA h_t_tills cI 48 c_t_tills, gA h_t_froms cI 48 c_t_froms, gA h_p1_values cI 48 c_p1_values, gO h_p1 1 [.int v_p1_size, .ref h_p1_words, .ref h_p1_values], gA h_p1_words cI 48 c_p1_words] H := hP
                  have hD : va_D A [gA h_t_children cI 48 c_t_children, gA h_t_paths cI 48 c_t_paths, gO h_t 3 [.int v_t_size, .ref h_t_paths, .ref h_t_children, .ref h_t_prefixes, .ref h_t_depths, .ref h_t_froms, .ref h_t_tills], gA h_t_tills cI 48 c_t_tills, gA h_t_froms cI 48 c_t_froms, gA h_p1_values cI 48 c_p1_values, gO h_p1 1 [.int v_p1_size, .ref h_p1_words, .ref h_p1_values], gA h_p1_words cI 48 c_p1_words] := hD
                  refine lv_aload_n hx hb dX3_areTwins_130 rfl (lv_at hl 3 rfl) ?_
                  refine lv_iload hx hb dX3_areTwins_131 (lv_at hl 0 rfl) ?_
                  obtain ⟨q_133, hc, hF⟩ := gb_some hF
                  refine gcVi (ci := 1) (As := [.int x9_102]) (rest := [.int q_127]) (pre := [gO h_p1 1 [.int v_p1_size, .ref h_p1_words, .ref h_p1_values], gA h_p1_words cI 48 c_p1_words]) (post := [gO h_p1 1 [.int v_p1_size, .ref h_p1_words, .ref h_p1_values], gA h_p1_words cI 48 c_p1_words]) (wr := [gA h_t_children cI 48 c_t_children, gA h_t_paths cI 48 c_t_paths, gO h_t 3 [.int v_t_size, .ref h_t_paths, .ref h_t_children, .ref h_t_prefixes, .ref h_t_depths, .ref h_t_froms, .ref h_t_tills], gA h_t_tills cI 48 c_t_tills, gA h_t_froms cI 48 c_t_froms, gA h_p1_values cI 48 c_p1_values]) ⟨hx, hb, hml, hown, hts⟩ (kX1_word l D cI cZ cD cG h_p1 v_p1_size h_p1_words h_p1_values c_p1_words x9_102 q_133 hc) (cwV 1 hts gX3_areTwins_X1_word rfl rfl rfl (by decide +kernel) ⟨Nat.le_of_ble_eq_true rfl, Nat.le_of_ble_eq_true rfl⟩) hK hP hD hS hA [6, 7] [0, 1, 2, 3, 4, 5] rfl rfl (by decide) (by decide) (by decide) 0 rfl rfl rfl hl.1 rfl (Nat.le_of_ble_eq_true rfl) dX3_areTwins_133 ⟨Nat.zero_le _, Nat.zero_le _⟩ (fun H locs hP hD hS => ?_)
                  have hP : va_P D vwCl [gA h_t_children cI 48 c_t_children, gA h_t_paths cI 48 c_t_paths, gO h_t 3 [.int v_t_size, .ref h_t_paths, .ref h_t_children, .ref h_t_prefixes, .ref h_t_depths, .ref h_t_froms, .ref h_t_tills], gA h_t_tills cI 48 c_t_tills, gA h_t_froms cI 48 c_t_froms, gA h_p1_values cI 48 c_p1_values, gO h_p1 1 [.int v_p1_size, .ref h_p1_words, .ref h_p1_values], gA h_p1_words cI 48 c_p1_words] H := hP
                  have hD : va_D A [gA h_t_children cI 48 c_t_children, gA h_t_paths cI 48 c_t_paths, gO h_t 3 [.int v_t_size, .ref h_t_paths, .ref h_t_children, .ref h_t_prefixes, .ref h_t_depths, .ref h_t_froms, .ref h_t_tills], gA h_t_tills cI 48 c_t_tills, gA h_t_froms cI 48 c_t_froms, gA h_p1_values cI 48 c_p1_values, gO h_p1 1 [.int v_p1_size, .ref h_p1_words, .ref h_p1_values], gA h_p1_words cI 48 c_p1_words] := hD
                  refine lv_iload hx hb dX3_areTwins_136 (lv_at hl 8 rfl) ?_
                  obtain ⟨q_138, hc, hF⟩ := gb_some hF
                  refine gcSi (As := [.int q_133, .int q_67]) (rest := [.int q_127]) (pre := []) (post := []) (wr := [gA h_t_children cI 48 c_t_children, gA h_t_paths cI 48 c_t_paths, gO h_t 3 [.int v_t_size, .ref h_t_paths, .ref h_t_children, .ref h_t_prefixes, .ref h_t_depths, .ref h_t_froms, .ref h_t_tills], gA h_t_tills cI 48 c_t_tills, gA h_t_froms cI 48 c_t_froms, gA h_p1_values cI 48 c_p1_values, gO h_p1 1 [.int v_p1_size, .ref h_p1_words, .ref h_p1_values], gA h_p1_words cI 48 c_p1_words]) ⟨hx, hb, hml, hown, hts⟩ (kX6_tail l D cI cZ cD cG q_133 q_67 q_138 hc) (va_cwS 2 hts gX3_areTwins_X6_tail rfl rfl rfl (by decide +kernel) ⟨Nat.le_of_ble_eq_true rfl, Nat.le_of_ble_eq_true rfl⟩) hK hP hD hS hA [] [0, 1, 2, 3, 4, 5, 6, 7] rfl rfl (by decide) (by decide) (by decide) rfl hl.1 rfl (Nat.le_of_ble_eq_true rfl) dX3_areTwins_138 ⟨Nat.zero_le _, Nat.zero_le _⟩ (fun H locs hP hD hS => ?_)
                  have hP : va_P D vwCl [gA h_t_children cI 48 c_t_children, gA h_t_paths cI 48 c_t_paths, gO h_t 3 [.int v_t_size, .ref h_t_paths, .ref h_t_children, .ref h_t_prefixes, .ref h_t_depths, .ref h_t_froms, .ref h_t_tills], gA h_t_tills cI 48 c_t_tills, gA h_t_froms cI 48 c_t_froms, gA h_p1_values cI 48 c_p1_values, gO h_p1 1 [.int v_p1_size, .ref h_p1_words, .ref h_p1_values], gA h_p1_words cI 48 c_p1_words] H := hP
                  have hD : va_D A [gA h_t_children cI 48 c_t_children, gA h_t_paths cI 48 c_t_paths, gO h_t 3 [.int v_t_size, .ref h_t_paths, .ref h_t_children, .ref h_t_prefixes, .ref h_t_depths, .ref h_t_froms, .ref h_t_tills], gA h_t_tills cI 48 c_t_tills, gA h_t_froms cI 48 c_t_froms, gA h_p1_values cI 48 c_p1_values, gO h_p1 1 [.int v_p1_size, .ref h_p1_words, .ref h_p1_values], gA h_p1_words cI 48 c_p1_words] := hD
                  refine lv_icmp_eq (tgt := 146) hx hb dX3_areTwins_141 (by decide) (fun cc => ?_) (fun cc => ?_)
                  · have hF := gi_pos hF cc
                    obtain ⟨x7_146, ex⟩ : ∃ y : Int32, y = (x7_75 + 1) := ⟨_, rfl⟩
                    have hF := gl_some hF ex
                    refine lv_iinc (v := x7_146) (lv' := [(7, .int x7_146), (9, .int x9_102), (8, .int x8_91), (0, .ref h_t), (1, .ref h_p1), (2, .int x2), (3, .int x3), (4, .int q_2), (5, .int q_56), (6, .int q_67)]) hx hb dX3_areTwins_146 hl (k := 9) rfl (by rw [ex]; rfl) (by decide) rfl (fun ls hl => ?_)
                    refine lv_goto (tgt := 75) hx hb dX3_areTwins_149 (by decide) ?_
                    exact ih75 x7_146 _ _ _ hF (hP.sub [0, 1, 6, 5, 7, 2, 3, 4] rfl) (hD.sub [0, 1, 6, 5, 7, 2, 3, 4] (by decide) rfl) hS (lv_sub hl [3, 4, 5, 6, 7, 8, 9, 0] rfl)
                  · have hF := gi_neg hF cc
                    refine lv_iconst (v := 0) hx hb dX3_areTwins_144 (by decide) ?_
                    obtain rfl := Option.some.inj hF
                    exact hQ _ _ _ _ _ (hP.sub [2, 3, 4, 0, 1, 6, 5, 7] rfl) (hD.sub [2, 3, 4, 0, 1, 6, 5, 7] (by decide) rfl) hS rfl rfl dX3_areTwins_145
          exact Ln_75 gF (0 : Int32) _ _ _ hF hP hD hS (lv_sub hl [4, 5, 6, 7, 3, 2, 1, 0] rfl)
        · have hF := gi_neg hF cc
          refine lv_iconst (v := 0) hx hb dX3_areTwins_48 (by decide) ?_
          obtain rfl := Option.some.inj hF
          exact hQ _ _ _ _ _ (hP.sub [5, 6, 7, 0, 1, 2, 3, 4] rfl) (hD.sub [5, 6, 7, 0, 1, 2, 3, 4] (by decide) rfl) hS rfl rfl dX3_areTwins_49

abbrev rmX3_firstTwin : Room := { frames := 3, cells := 0, slots := 0, locals := 71 }
def fX3_firstTwin_L7 (v_t_size : Int32) (x2 : Int32) (c_t_tills : Nat → Int32) (c_t_froms : Nat → Int32) (c_t_children : Nat → Int32) (c_t_paths : Nat → Int32) (v_p1_size : Int32) (c_p1_values : Nat → Int32) (c_p1_words : Nat → Int32) : Nat → Int32 → Option (Int32)
  | 0, _ => none
  | n_7 + 1, x4_7 => (if v_t_size ≤ x4_7 then (some (-1 : Int32)) else (Option.bind (fX3_areTwins x2 x4_7 v_t_size c_t_tills c_t_froms c_t_children c_t_paths v_p1_size c_p1_values c_p1_words) (fun q_21 => (if q_21 = 0 then (gl (x4_7 + 1) (fun x4_30 => (fX3_firstTwin_L7 v_t_size x2 c_t_tills c_t_froms c_t_children c_t_paths v_p1_size c_p1_values c_p1_words n_7 x4_30))) else (some x4_7)))))
def fX3_firstTwin (x2 : Int32) (x3 : Int32) (v_t_size : Int32) (c_t_tills : Nat → Int32) (c_t_froms : Nat → Int32) (c_t_children : Nat → Int32) (c_t_paths : Nat → Int32) (v_p1_size : Int32) (c_p1_values : Nat → Int32) (c_p1_words : Nat → Int32) : Option (Int32) := (gl (if x3 < (0 : Int32) then (0 : Int32) else x3) (fun x4_5 => (fX3_firstTwin_L7 v_t_size x2 c_t_tills c_t_froms c_t_children c_t_paths v_p1_size c_p1_values c_p1_words gF x4_5)))
set_option maxHeartbeats 4000000 in
set_option maxRecDepth 100000 in
theorem kX3_firstTwin (l : Launch) (D : va_G) (cI cZ cD cG : ClassId) (h_t : Nat) (h_p1 : Nat) (v_t_size : Int32) (h_t_paths : Nat) (h_t_children : Nat) (h_t_prefixes : Nat) (h_t_depths : Nat) (h_t_froms : Nat) (h_t_tills : Nat) (c_t_tills : Nat → Int32) (c_t_froms : Nat → Int32) (c_t_children : Nat → Int32) (c_t_paths : Nat → Int32) (v_p1_size : Int32) (h_p1_words : Nat) (h_p1_values : Nat) (c_p1_values : Nat → Int32) (c_p1_words : Nat → Int32) (x2 : Int32) (x3 : Int32) (res : Int32) (hF : fX3_firstTwin x2 x3 v_t_size c_t_tills c_t_froms c_t_children c_t_paths v_p1_size c_p1_values c_p1_words = some res) : gMi l D (gty cI cZ cD cG) yX3_firstTwin wsX3_firstTwin rmX3_firstTwin [.ref h_t, .ref h_p1, .int x2, .int x3] [gO h_t 3 [.int v_t_size, .ref h_t_paths, .ref h_t_children, .ref h_t_prefixes, .ref h_t_depths, .ref h_t_froms, .ref h_t_tills], gA h_t_tills cI 48 c_t_tills, gA h_t_froms cI 48 c_t_froms, gA h_t_children cI 48 c_t_children, gA h_t_paths cI 48 c_t_paths, gO h_p1 1 [.int v_p1_size, .ref h_p1_words, .ref h_p1_values], gA h_p1_values cI 48 c_p1_values, gA h_p1_words cI 48 c_p1_words] res [gO h_t 3 [.int v_t_size, .ref h_t_paths, .ref h_t_children, .ref h_t_prefixes, .ref h_t_depths, .ref h_t_froms, .ref h_t_tills], gA h_t_tills cI 48 c_t_tills, gA h_t_froms cI 48 c_t_froms, gA h_t_children cI 48 c_t_children, gA h_t_paths cI 48 c_t_paths, gO h_p1 1 [.int v_p1_size, .ref h_p1_words, .ref h_p1_values], gA h_p1_values cI 48 c_p1_values, gA h_p1_words cI 48 c_p1_words] := by
  refine gMi.of (cc := cX3_firstTwin) (maxL := 5) (by decide) rfl (Nat.le_of_ble_eq_true rfl) ?_
  intro p e s m args below meth c A ls Q hx hb hts hown hml hK hA hP hD hS hQ hl
  have hown : s.vm.findClass RX3 = some m.cls := hown
  have hl : lv_has ls 5 [(0, .ref h_t), (1, .ref h_p1), (2, .int x2), (3, .int x3)] := hl
  have hw0 := hts (.methodLink RX3 91 Lib.Math.max.name) (by decide +kernel)
  have hw1 := hts (.static Lib.Math.max.name) (by decide +kernel)
  have hw2 := hts (.initialized "java/lang/Math") (by decide +kernel)
  have hw3 := hts (.code Lib.Math.max.name Lib.Math.max.code 2 (some .int)) (by decide +kernel)
  have hw4 := hts (.fieldLink RX3 9 "NibbleTrunk$Nodes" "size" "I") (by decide +kernel)
  have hinX3 : ∀ w ∈ wsX30, w ∈ wsX3_firstTwin := by decide +kernel
  rw [fX3_firstTwin] at hF
  refine lv_iload_n hx hb dX3_firstTwin_0 rfl (lv_at hl 3 rfl) ?_
  refine lv_iconst (v := 0) hx hb dX3_firstTwin_1 (by decide) ?_
  refine va_mmax hx hb (hml.trans hl.1.symm) hown hw0 hw1 hw2 hw3 (Nat.le_of_ble_eq_true rfl) (Nat.le_of_ble_eq_true rfl) (Nat.zero_le _) (Nat.zero_le _) dX3_firstTwin_2 ?_
  refine lv_topi (fun x4_5 ex => ?_)
  have hF := gl_some hF ex
  refine lv_istore (lv' := [(4, .int x4_5), (0, .ref h_t), (1, .ref h_p1), (2, .int x2), (3, .int x3)]) hx hb dX3_firstTwin_5 hl (by decide) rfl (fun ls hl => ?_)
  have Ln_7 : ∀ (n_7 : Nat) (x4_7 : Int32) (H : Heap) (locs : List Loc) (ls : Array Slot), fX3_firstTwin_L7 v_t_size x2 c_t_tills c_t_froms c_t_children c_t_paths v_p1_size c_p1_values c_p1_words n_7 x4_7 = some res → va_P D vwCl [gO h_t 3 [.int v_t_size, .ref h_t_paths, .ref h_t_children, .ref h_t_prefixes, .ref h_t_depths, .ref h_t_froms, .ref h_t_tills], gA h_t_tills cI 48 c_t_tills, gA h_t_froms cI 48 c_t_froms, gA h_t_children cI 48 c_t_children, gA h_t_paths cI 48 c_t_paths, gO h_p1 1 [.int v_p1_size, .ref h_p1_words, .ref h_p1_values], gA h_p1_values cI 48 c_p1_values, gA h_p1_words cI 48 c_p1_words] H → va_D A [gO h_t 3 [.int v_t_size, .ref h_t_paths, .ref h_t_children, .ref h_t_prefixes, .ref h_t_depths, .ref h_t_froms, .ref h_t_tills], gA h_t_tills cI 48 c_t_tills, gA h_t_froms cI 48 c_t_froms, gA h_t_children cI 48 c_t_children, gA h_t_paths cI 48 c_t_paths, gO h_p1 1 [.int v_p1_size, .ref h_p1_words, .ref h_p1_values], gA h_p1_values cI 48 c_p1_values, gA h_p1_words cI 48 c_p1_words] → va_S A s.heap H locs → lv_has ls 5 [(0, .ref h_t), (1, .ref h_p1), (2, .int x2), (4, .int x4_7)] → W p l e rmX3_firstTwin s m args below meth c H locs 0 0 Q (F0 m 7 ls []) := by
    intro n_7
    induction n_7 with
    | zero =>
      intro x4_7 H locs ls hF
      rw [fX3_firstTwin_L7] at hF
      cases hF
    | succ n_7 ih7 =>
      intro x4_7 H locs ls hF hP hD hS hl
      rw [fX3_firstTwin_L7] at hF
      refine lv_iload hx hb dX3_firstTwin_7 (lv_at hl 3 rfl) ?_
      refine lv_aload_n hx hb dX3_firstTwin_9 rfl (lv_at hl 0 rfl) ?_
      refine va_get (D := D) (ci := 3) (v := .int v_t_size) (C := RX3) (T := TX3) (N := 7) hx hb hts hinX3 hown hK hP 0 rfl rfl 0 (by decide) hw4 (fun _ h9 => h9) rfl dX3_firstTwin_10 ?_
      refine lv_icmp_ge (tgt := 36) hx hb dX3_firstTwin_13 (by decide) (fun cc => ?_) (fun cc => ?_)
      · have hF := gi_pos hF cc
        refine lv_iconst (v := (-1)) hx hb dX3_firstTwin_36 (by decide) ?_
        obtain rfl := Option.some.inj hF
        exact hQ _ _ _ _ _ hP hD hS rfl dX3_firstTwin_37
      · have hF := gi_neg hF cc
        refine lv_aload_n hx hb dX3_firstTwin_16 rfl (lv_at hl 0 rfl) ?_
        refine lv_aload_n hx hb dX3_firstTwin_17 rfl (lv_at hl 1 rfl) ?_
        refine lv_iload_n hx hb dX3_firstTwin_18 rfl (lv_at hl 2 rfl) ?_
        refine lv_iload hx hb dX3_firstTwin_19 (lv_at hl 3 rfl) ?_
        obtain ⟨q_21, hc, hF⟩ := gb_some hF
        refine gcVz (ci := 3) (As := [.ref h_p1, .int x2, .int x4_7]) (rest := []) (pre := [gO h_t 3 [.int v_t_size, .ref h_t_paths, .ref h_t_children, .ref h_t_prefixes, .ref h_t_depths, .ref h_t_froms, .ref h_t_tills], gA h_t_tills cI 48 c_t_tills, gA h_t_froms cI 48 c_t_froms, gA h_t_children cI 48 c_t_children, gA h_t_paths cI 48 c_t_paths, gO h_p1 1 [.int v_p1_size, .ref h_p1_words, .ref h_p1_values], gA h_p1_values cI 48 c_p1_values, gA h_p1_words cI 48 c_p1_words]) (post := [gO h_t 3 [.int v_t_size, .ref h_t_paths, .ref h_t_children, .ref h_t_prefixes, .ref h_t_depths, .ref h_t_froms, .ref h_t_tills], gA h_t_tills cI 48 c_t_tills, gA h_t_froms cI 48 c_t_froms, gA h_t_children cI 48 c_t_children, gA h_t_paths cI 48 c_t_paths, gO h_p1 1 [.int v_p1_size, .ref h_p1_words, .ref h_p1_values], gA h_p1_values cI 48 c_p1_values, gA h_p1_words cI 48 c_p1_words]) (wr := []) ⟨hx, hb, hml, hown, hts⟩ (kX3_areTwins l D cI cZ cD cG h_t h_p1 v_t_size h_t_paths h_t_children h_t_prefixes h_t_depths h_t_froms h_t_tills c_t_tills c_t_froms c_t_children c_t_paths v_p1_size h_p1_words h_p1_values c_p1_values c_p1_words x2 x4_7 q_21 hc) (cwV 3 hts gX3_firstTwin_X3_areTwins rfl rfl rfl (by decide +kernel) ⟨Nat.le_of_ble_eq_true rfl, Nat.le_of_ble_eq_true rfl⟩) hK hP hD hS hA [0, 1, 2, 3, 4, 5, 6, 7] [] rfl rfl (by decide) (by decide) (by decide) 0 rfl rfl rfl hl.1 rfl (Nat.le_of_ble_eq_true rfl) dX3_firstTwin_21 ⟨Nat.zero_le _, Nat.zero_le _⟩ (fun H locs hnq_21 hP hD hS => ?_)
        have hP : va_P D vwCl [gO h_t 3 [.int v_t_size, .ref h_t_paths, .ref h_t_children, .ref h_t_prefixes, .ref h_t_depths, .ref h_t_froms, .ref h_t_tills], gA h_t_tills cI 48 c_t_tills, gA h_t_froms cI 48 c_t_froms, gA h_t_children cI 48 c_t_children, gA h_t_paths cI 48 c_t_paths, gO h_p1 1 [.int v_p1_size, .ref h_p1_words, .ref h_p1_values], gA h_p1_values cI 48 c_p1_values, gA h_p1_words cI 48 c_p1_words] H := hP
        have hD : va_D A [gO h_t 3 [.int v_t_size, .ref h_t_paths, .ref h_t_children, .ref h_t_prefixes, .ref h_t_depths, .ref h_t_froms, .ref h_t_tills], gA h_t_tills cI 48 c_t_tills, gA h_t_froms cI 48 c_t_froms, gA h_t_children cI 48 c_t_children, gA h_t_paths cI 48 c_t_paths, gO h_p1 1 [.int v_p1_size, .ref h_p1_words, .ref h_p1_values], gA h_p1_values cI 48 c_p1_values, gA h_p1_words cI 48 c_p1_words] := hD
        refine lv_if_eq (tgt := 30) hx hb dX3_firstTwin_24 (by decide) (fun cc => ?_) (fun cc => ?_)
        · have hF := gi_pos hF cc
          obtain ⟨x4_30, ex⟩ : ∃ y : Int32, y = (x4_7 + 1) := ⟨_, rfl⟩
          have hF := gl_some hF ex
          refine lv_iinc (v := x4_30) (lv' := [(4, .int x4_30), (0, .ref h_t), (1, .ref h_p1), (2, .int x2)]) hx hb dX3_firstTwin_30 hl (k := 3) rfl (by rw [ex]; rfl) (by decide) rfl (fun ls hl => ?_)
          refine lv_goto (tgt := 7) hx hb dX3_firstTwin_33 (by decide) ?_
          exact ih7 x4_30 _ _ _ hF hP hD hS (lv_sub hl [1, 2, 3, 0] rfl)
        · have hF := gi_neg hF cc
          refine lv_iload hx hb dX3_firstTwin_27 (lv_at hl 3 rfl) ?_
          obtain rfl := Option.some.inj hF
          exact hQ _ _ _ _ _ hP hD hS rfl dX3_firstTwin_29
  exact Ln_7 gF x4_5 _ _ _ hF hP hD hS (lv_sub hl [1, 2, 3, 0] rfl)

abbrev rmX3_lowestOver : Room := { frames := 0, cells := 0, slots := 0, locals := 0 }
def fX3_lowestOver_L7 (x1 : Int32) (c_t_froms : Nat → Int32) (c_t_tills : Nat → Int32) : Nat → Int32 → Option (Int32)
  | 0, _ => none
  | n_7 + 1, x2_7 => (if x2_7 < 0 then (some (-1 : Int32)) else (gx x2_7 48 (if x1 < (c_t_froms (x2_7).toNatClampNeg) then (gl (x2_7 + (-1)) (fun x2_33 => (fX3_lowestOver_L7 x1 c_t_froms c_t_tills n_7 x2_33))) else (gx x2_7 48 (if (c_t_tills (x2_7).toNatClampNeg) ≤ x1 then (gl (x2_7 + (-1)) (fun x2_33_a => (fX3_lowestOver_L7 x1 c_t_froms c_t_tills n_7 x2_33_a))) else (some x2_7))))))
def fX3_lowestOver (x1 : Int32) (v_t_size : Int32) (c_t_froms : Nat → Int32) (c_t_tills : Nat → Int32) : Option (Int32) := (gl (v_t_size - (1 : Int32)) (fun x2_6 => (fX3_lowestOver_L7 x1 c_t_froms c_t_tills gF x2_6)))
set_option maxHeartbeats 4000000 in
set_option maxRecDepth 100000 in
theorem kX3_lowestOver (l : Launch) (D : va_G) (cI cZ cD cG : ClassId) (h_t : Nat) (v_t_size : Int32) (h_t_paths : Nat) (h_t_children : Nat) (h_t_prefixes : Nat) (h_t_depths : Nat) (h_t_froms : Nat) (h_t_tills : Nat) (c_t_froms : Nat → Int32) (c_t_tills : Nat → Int32) (x1 : Int32) (res : Int32) (hF : fX3_lowestOver x1 v_t_size c_t_froms c_t_tills = some res) : gMi l D (gty cI cZ cD cG) yX3_lowestOver wsX3_lowestOver rmX3_lowestOver [.ref h_t, .int x1] [gO h_t 3 [.int v_t_size, .ref h_t_paths, .ref h_t_children, .ref h_t_prefixes, .ref h_t_depths, .ref h_t_froms, .ref h_t_tills], gA h_t_froms cI 48 c_t_froms, gA h_t_tills cI 48 c_t_tills] res [gO h_t 3 [.int v_t_size, .ref h_t_paths, .ref h_t_children, .ref h_t_prefixes, .ref h_t_depths, .ref h_t_froms, .ref h_t_tills], gA h_t_froms cI 48 c_t_froms, gA h_t_tills cI 48 c_t_tills] := by
  refine gMi.of (cc := cX3_lowestOver) (maxL := 3) (by decide) rfl (Nat.le_of_ble_eq_true rfl) ?_
  intro p e s m args below meth c A ls Q hx hb hts hown hml hK hA hP hD hS hQ hl
  have hown : s.vm.findClass RX3 = some m.cls := hown
  have hl : lv_has ls 3 [(0, .ref h_t), (1, .int x1)] := hl
  have hw0 := hts (.fieldLink RX3 9 "NibbleTrunk$Nodes" "size" "I") (by decide +kernel)
  have hinX3 : ∀ w ∈ wsX30, w ∈ wsX3_lowestOver := by decide +kernel
  have hw2 := hts (.fieldLink RX3 28 "NibbleTrunk$Nodes" "froms" "[I") (by decide +kernel)
  have hw3 := hts (.fieldLink RX3 31 "NibbleTrunk$Nodes" "tills" "[I") (by decide +kernel)
  rw [fX3_lowestOver] at hF
  refine lv_aload_n hx hb dX3_lowestOver_0 rfl (lv_at hl 0 rfl) ?_
  refine va_get (D := D) (ci := 3) (v := .int v_t_size) (C := RX3) (T := TX3) (N := 7) hx hb hts hinX3 hown hK hP 0 rfl rfl 0 (by decide) hw0 (fun _ h9 => h9) rfl dX3_lowestOver_1 ?_
  refine lv_iconst (v := 1) hx hb dX3_lowestOver_4 (by decide) ?_
  refine lv_isub hx hb dX3_lowestOver_5 ?_
  refine lv_topi (fun x2_6 ex => ?_)
  have hF := gl_some hF ex
  refine lv_istore_n (lv' := [(2, .int x2_6), (0, .ref h_t), (1, .int x1)]) hx hb dX3_lowestOver_6 rfl hl (by decide) rfl (fun ls hl => ?_)
  have Ln_7 : ∀ (n_7 : Nat) (x2_7 : Int32) (H : Heap) (locs : List Loc) (ls : Array Slot), fX3_lowestOver_L7 x1 c_t_froms c_t_tills n_7 x2_7 = some res → va_P D vwCl [gO h_t 3 [.int v_t_size, .ref h_t_paths, .ref h_t_children, .ref h_t_prefixes, .ref h_t_depths, .ref h_t_froms, .ref h_t_tills], gA h_t_froms cI 48 c_t_froms, gA h_t_tills cI 48 c_t_tills] H → va_D A [gO h_t 3 [.int v_t_size, .ref h_t_paths, .ref h_t_children, .ref h_t_prefixes, .ref h_t_depths, .ref h_t_froms, .ref h_t_tills], gA h_t_froms cI 48 c_t_froms, gA h_t_tills cI 48 c_t_tills] → va_S A s.heap H locs → lv_has ls 3 [(0, .ref h_t), (1, .int x1), (2, .int x2_7)] → W p l e rmX3_lowestOver s m args below meth c H locs 0 0 Q (F0 m 7 ls []) := by
    intro n_7
    induction n_7 with
    | zero =>
      intro x2_7 H locs ls hF
      rw [fX3_lowestOver_L7] at hF
      cases hF
    | succ n_7 ih7 =>
      intro x2_7 H locs ls hF hP hD hS hl
      rw [fX3_lowestOver_L7] at hF
      refine lv_iload_n hx hb dX3_lowestOver_7 rfl (lv_at hl 2 rfl) ?_
      refine lv_if_lt (tgt := 39) hx hb dX3_lowestOver_8 (by decide) (fun cc => ?_) (fun cc => ?_)
      · have hF := gi_pos hF cc
        refine lv_iconst (v := (-1)) hx hb dX3_lowestOver_39 (by decide) ?_
        obtain rfl := Option.some.inj hF
        exact hQ _ _ _ _ _ hP hD hS rfl dX3_lowestOver_40
      · have hF := gi_neg hF cc
        refine lv_aload_n hx hb dX3_lowestOver_11 rfl (lv_at hl 0 rfl) ?_
        refine va_get (D := D) (ci := 3) (v := .ref h_t_froms) (C := RX3) (T := TX3) (N := 7) hx hb hts hinX3 hown hK hP 0 rfl rfl 5 (by decide) hw2 (fun _ h9 => h9) rfl dX3_lowestOver_12 ?_
        refine lv_iload_n hx hb dX3_lowestOver_15 rfl (lv_at hl 2 rfl) ?_
        obtain ⟨hin, hF⟩ := gx_some hF
        refine va_iald hx hb hK hP 1 0 rfl rfl hin dX3_lowestOver_16 ?_
        refine lv_iload_n hx hb dX3_lowestOver_17 rfl (lv_at hl 1 rfl) ?_
        refine lv_icmp_gt (tgt := 33) hx hb dX3_lowestOver_18 (by decide) (fun cc => ?_) (fun cc => ?_)
        · have hF := gi_pos hF cc
          obtain ⟨x2_33, ex⟩ : ∃ y : Int32, y = (x2_7 + (-1)) := ⟨_, rfl⟩
          have hF := gl_some hF ex
          refine lv_iinc (v := x2_33) (lv' := [(2, .int x2_33), (0, .ref h_t), (1, .int x1)]) hx hb dX3_lowestOver_33 hl (k := 2) rfl (by rw [ex]; rfl) (by decide) rfl (fun ls hl => ?_)
          refine lv_goto (tgt := 7) hx hb dX3_lowestOver_36 (by decide) ?_
          exact ih7 x2_33 _ _ _ hF hP hD hS (lv_sub hl [1, 2, 0] rfl)
        · have hF := gi_neg hF cc
          refine lv_iload_n hx hb dX3_lowestOver_21 rfl (lv_at hl 1 rfl) ?_
          refine lv_aload_n hx hb dX3_lowestOver_22 rfl (lv_at hl 0 rfl) ?_
          refine va_get (D := D) (ci := 3) (v := .ref h_t_tills) (C := RX3) (T := TX3) (N := 7) hx hb hts hinX3 hown hK hP 0 rfl rfl 6 (by decide) hw3 (fun _ h9 => h9) rfl dX3_lowestOver_23 ?_
          refine lv_iload_n hx hb dX3_lowestOver_26 rfl (lv_at hl 2 rfl) ?_
          obtain ⟨hin, hF⟩ := gx_some hF
          refine va_iald hx hb hK hP 2 0 rfl rfl hin dX3_lowestOver_27 ?_
          refine lv_icmp_ge (tgt := 33) hx hb dX3_lowestOver_28 (by decide) (fun cc => ?_) (fun cc => ?_)
          · have hF := gi_pos hF cc
            obtain ⟨x2_33_a, ex⟩ : ∃ y : Int32, y = (x2_7 + (-1)) := ⟨_, rfl⟩
            have hF := gl_some hF ex
            refine lv_iinc (v := x2_33_a) (lv' := [(2, .int x2_33_a), (0, .ref h_t), (1, .int x1)]) hx hb dX3_lowestOver_33 hl (k := 2) rfl (by rw [ex]; rfl) (by decide) rfl (fun ls hl => ?_)
            refine lv_goto (tgt := 7) hx hb dX3_lowestOver_36 (by decide) ?_
            exact ih7 x2_33_a _ _ _ hF hP hD hS (lv_sub hl [1, 2, 0] rfl)
          · have hF := gi_neg hF cc
            refine lv_iload_n hx hb dX3_lowestOver_31 rfl (lv_at hl 2 rfl) ?_
            obtain rfl := Option.some.inj hF
            exact hQ _ _ _ _ _ hP hD hS rfl dX3_lowestOver_32
  exact Ln_7 gF x2_6 _ _ _ hF hP hD hS (lv_sub hl [1, 2, 0] rfl)

abbrev rmX3_placesSaved : Room := { frames := 2, cells := 0, slots := 0, locals := 43 }
def fX3_placesSaved (x2 : Int32) (v_t_size : Int32) (c_t_froms : Nat → Int32) (c_t_tills : Nat → Int32) (v_p1_size : Int32) (c_p1_words : Nat → Int32) (c_t_paths : Nat → Int32) (c_t_children : Nat → Int32) : Option (Int32) := (Option.bind (fX3_lowestOver x2 v_t_size c_t_froms c_t_tills) (fun q_2 => (if q_2 = (-1 : Int32) then (some (0 : Int32)) else (Option.bind (fX1_word x2 v_p1_size c_p1_words) (fun q_15 => (gx q_2 48 (Option.bind (α := Int32) (if q_15 = (c_t_paths (q_2).toNatClampNeg) then (some (1 : Int32)) else (some (0 : Int32))) (fun q_32 => (gx q_2 48 (Option.bind (fJ6_bitCount_0f7a4 (c_t_children (q_2).toNatClampNeg)) (fun q_40 => (Option.bind (α := Int32) (if q_32 = 0 then (some (1 : Int32)) else (some (0 : Int32))) (fun q_53 => (gl (q_40 - q_53) (fun x5_54 => (Option.bind (fX3_hasEnd q_2 v_t_size c_t_froms v_p1_size c_p1_words c_t_paths) (fun q_59 => (Option.bind (α := Int32) (if q_59 = 0 then (some (0 : Int32)) else (if q_32 = 0 then (some (1 : Int32)) else (some (0 : Int32)))) (fun q_75 => (Option.bind (α := Int32) (if (2 : Int32) ≤ x5_54 then (some (1 : Int32)) else (if x5_54 = (1 : Int32) then (if q_75 = 0 then (some (0 : Int32)) else (some (1 : Int32))) else (some (0 : Int32)))) (fun q_99 => (Option.bind (fX3_placesOf q_2 v_t_size c_t_children) (fun q_103 => (if q_99 = 0 then (some (q_103 - (0 : Int32))) else (Option.bind (fX3_placesFor x5_54) (fun q_113 => (some (q_103 - q_113))))))))))))))))))))))))))))
set_option maxHeartbeats 4000000 in
set_option maxRecDepth 100000 in
theorem kX3_placesSaved (l : Launch) (D : va_G) (cI cZ cD cG : ClassId) (h_t : Nat) (h_p1 : Nat) (v_t_size : Int32) (h_t_paths : Nat) (h_t_children : Nat) (h_t_prefixes : Nat) (h_t_depths : Nat) (h_t_froms : Nat) (h_t_tills : Nat) (c_t_froms : Nat → Int32) (c_t_tills : Nat → Int32) (v_p1_size : Int32) (h_p1_words : Nat) (h_p1_values : Nat) (c_p1_words : Nat → Int32) (c_t_paths : Nat → Int32) (c_t_children : Nat → Int32) (x2 : Int32) (res : Int32) (hF : fX3_placesSaved x2 v_t_size c_t_froms c_t_tills v_p1_size c_p1_words c_t_paths c_t_children = some res) : gMi l D (gty cI cZ cD cG) yX3_placesSaved wsX3_placesSaved rmX3_placesSaved [.ref h_t, .ref h_p1, .int x2] [gO h_t 3 [.int v_t_size, .ref h_t_paths, .ref h_t_children, .ref h_t_prefixes, .ref h_t_depths, .ref h_t_froms, .ref h_t_tills], gA h_t_froms cI 48 c_t_froms, gA h_t_tills cI 48 c_t_tills, gO h_p1 1 [.int v_p1_size, .ref h_p1_words, .ref h_p1_values], gA h_p1_words cI 48 c_p1_words, gA h_t_paths cI 48 c_t_paths, gA h_t_children cI 48 c_t_children] res [gO h_t 3 [.int v_t_size, .ref h_t_paths, .ref h_t_children, .ref h_t_prefixes, .ref h_t_depths, .ref h_t_froms, .ref h_t_tills], gA h_t_froms cI 48 c_t_froms, gA h_t_tills cI 48 c_t_tills, gO h_p1 1 [.int v_p1_size, .ref h_p1_words, .ref h_p1_values], gA h_p1_words cI 48 c_p1_words, gA h_t_paths cI 48 c_t_paths, gA h_t_children cI 48 c_t_children] := by
  refine gMi.of (cc := cX3_placesSaved) (maxL := 8) (by decide) rfl (Nat.le_of_ble_eq_true rfl) ?_
  intro p e s m args below meth c A ls Q hx hb hts hown hml hK hA hP hD hS hQ hl
  have hown : s.vm.findClass RX3 = some m.cls := hown
  have hl : lv_has ls 8 [(0, .ref h_t), (1, .ref h_p1), (2, .int x2)] := hl
  have hw0 := hts (.fieldLink RX3 15 "NibbleTrunk$Nodes" "paths" "[I") (by decide +kernel)
  have hinX3 : ∀ w ∈ wsX30, w ∈ wsX3_placesSaved := by decide +kernel
  have hw2 := hts (.fieldLink RX3 19 "NibbleTrunk$Nodes" "children" "[I") (by decide +kernel)
  rw [fX3_placesSaved] at hF
  refine lv_aload_n hx hb dX3_placesSaved_0 rfl (lv_at hl 0 rfl) ?_
  refine lv_iload_n hx hb dX3_placesSaved_1 rfl (lv_at hl 2 rfl) ?_
  obtain ⟨q_2, hc, hF⟩ := gb_some hF
  refine gcVi (ci := 3) (As := [.int x2]) (rest := []) (pre := [gO h_t 3 [.int v_t_size, .ref h_t_paths, .ref h_t_children, .ref h_t_prefixes, .ref h_t_depths, .ref h_t_froms, .ref h_t_tills], gA h_t_froms cI 48 c_t_froms, gA h_t_tills cI 48 c_t_tills]) (post := [gO h_t 3 [.int v_t_size, .ref h_t_paths, .ref h_t_children, .ref h_t_prefixes, .ref h_t_depths, .ref h_t_froms, .ref h_t_tills], gA h_t_froms cI 48 c_t_froms, gA h_t_tills cI 48 c_t_tills]) (wr := [gO h_p1 1 [.int v_p1_size, .ref h_p1_words, .ref h_p1_values], gA h_p1_words cI 48 c_p1_words, gA h_t_paths cI 48 c_t_paths, gA h_t_children cI 48 c_t_children]) ⟨hx, hb, hml, hown, hts⟩ (kX3_lowestOver l D cI cZ cD cG h_t v_t_size h_t_paths h_t_children h_t_prefixes h_t_depths h_t_froms h_t_tills c_t_froms c_t_tills x2 q_2 hc) (cwV 1 hts gX3_placesSaved_X3_lowestOver rfl rfl rfl (by decide +kernel) ⟨Nat.le_of_ble_eq_true rfl, Nat.le_of_ble_eq_true rfl⟩) hK hP hD hS hA [0, 1, 2] [3, 4, 5, 6] rfl rfl (by decide) (by decide) (by decide) 0 rfl rfl rfl hl.1 rfl (Nat.le_of_ble_eq_true rfl) dX3_placesSaved_2 ⟨Nat.zero_le _, Nat.zero_le _⟩ (fun H locs hP hD hS => ?_)
  have hP : va_P D vwCl [gO h_p1 1 [.int v_p1_size, .ref h_p1_words, .ref h_p1_values], gA h_p1_words cI 48 c_p1_words, gA h_t_paths cI 48 c_t_paths, gA h_t_children cI 48 c_t_children, gO h_t 3 [.int v_t_size, .ref h_t_paths, .ref h_t_children, .ref h_t_prefixes, .ref h_t_depths, .ref h_t_froms, .ref h_t_tills], gA h_t_froms cI 48 c_t_froms, gA h_t_tills cI 48 c_t_tills] H := hP
  have hD : va_D A [gO h_p1 1 [.int v_p1_size, .ref h_p1_words, .ref h_p1_values], gA h_p1_words cI 48 c_p1_words, gA h_t_paths cI 48 c_t_paths, gA h_t_children cI 48 c_t_children, gO h_t 3 [.int v_t_size, .ref h_t_paths, .ref h_t_children, .ref h_t_prefixes, .ref h_t_depths, .ref h_t_froms, .ref h_t_tills], gA h_t_froms cI 48 c_t_froms, gA h_t_tills cI 48 c_t_tills] := hD
  refine lv_istore_n (lv' := [(3, .int q_2), (0, .ref h_t), (1, .ref h_p1), (2, .int x2)]) hx hb dX3_placesSaved_5 rfl hl (by decide) rfl (fun ls hl => ?_)
  refine lv_iload_n hx hb dX3_placesSaved_6 rfl (lv_at hl 0 rfl) ?_
  refine lv_iconst (v := (-1)) hx hb dX3_placesSaved_7 (by decide) ?_
  refine lv_icmp_ne (tgt := 13) hx hb dX3_placesSaved_8 (by decide) (fun cc => ?_) (fun cc => ?_)
  · have hF := gi_neg hF cc
    refine lv_aload_n hx hb dX3_placesSaved_13 rfl (lv_at hl 2 rfl) ?_
    refine lv_iload_n hx hb dX3_placesSaved_14 rfl (lv_at hl 3 rfl) ?_
    obtain ⟨q_15, hc, hF⟩ := gb_some hF
    refine gcVi (ci := 1) (As := [.int x2]) (rest := []) (pre := [gO h_p1 1 [.int v_p1_size, .ref h_p1_words, .ref h_p1_values], gA h_p1_words cI 48 c_p1_words]) (post := [gO h_p1 1 [.int v_p1_size, .ref h_p1_words, .ref h_p1_values], gA h_p1_words cI 48 c_p1_words]) (wr := [gA h_t_paths cI 48 c_t_paths, gA h_t_children cI 48 c_t_children, gO h_t 3 [.int v_t_size, .ref h_t_paths, .ref h_t_children, .ref h_t_prefixes, .ref h_t_depths, .ref h_t_froms, .ref h_t_tills], gA h_t_froms cI 48 c_t_froms, gA h_t_tills cI 48 c_t_tills]) ⟨hx, hb, hml, hown, hts⟩ (kX1_word l D cI cZ cD cG h_p1 v_p1_size h_p1_words h_p1_values c_p1_words x2 q_15 hc) (cwV 1 hts gX3_placesSaved_X1_word rfl rfl rfl (by decide +kernel) ⟨Nat.le_of_ble_eq_true rfl, Nat.le_of_ble_eq_true rfl⟩) hK hP hD hS hA [0, 1] [2, 3, 4, 5, 6] rfl rfl (by decide) (by decide) (by decide) 0 rfl rfl rfl hl.1 rfl (Nat.le_of_ble_eq_true rfl) dX3_placesSaved_15 ⟨Nat.zero_le _, Nat.zero_le _⟩ (fun H locs hP hD hS => ?_)
    have hP : va_P D vwCl [gA h_t_paths cI 48 c_t_paths, gA h_t_children cI 48 c_t_children, gO h_t 3 [.int v_t_size, .ref h_t_paths, .ref h_t_children, .ref h_t_prefixes, .ref h_t_depths, .ref h_t_froms, .ref h_t_tills], gA h_t_froms cI 48 c_t_froms, gA h_t_tills cI 48 c_t_tills, gO h_p1 1 [.int v_p1_size, .ref h_p1_words, .ref h_p1_values], gA h_p1_words cI 48 c_p1_words] H := hP
    have hD : va_D A [gA h_t_paths cI 48 c_t_paths, gA h_t_children cI 48 c_t_children, gO h_t 3 [.int v_t_size, .ref h_t_paths, .ref h_t_children, .ref h_t_prefixes, .ref h_t_depths, .ref h_t_froms, .ref h_t_tills], gA h_t_froms cI 48 c_t_froms, gA h_t_tills cI 48 c_t_tills, gO h_p1 1 [.int v_p1_size, .ref h_p1_words, .ref h_p1_values], gA h_p1_words cI 48 c_p1_words] := hD
    refine lv_aload_n hx hb dX3_placesSaved_18 rfl (lv_at hl 1 rfl) ?_
    refine va_get (D := D) (ci := 3) (v := .ref h_t_paths) (C := RX3) (T := TX3) (N := 7) hx hb hts hinX3 hown hK hP 2 rfl rfl 1 (by decide) hw0 (fun _ h9 => h9) rfl dX3_placesSaved_19 ?_
    refine lv_iload_n hx hb dX3_placesSaved_22 rfl (lv_at hl 0 rfl) ?_
    obtain ⟨hin, hF⟩ := gx_some hF
    refine va_iald hx hb hK hP 0 0 rfl rfl hin dX3_placesSaved_23 ?_
    obtain ⟨q_32, hR, hF⟩ := gb_some hF
    have Jn_32 : ∀ (H : Heap) (locs : List Loc) (ls : Array Slot), va_P D vwCl [gA h_t_paths cI 48 c_t_paths, gA h_t_children cI 48 c_t_children, gO h_t 3 [.int v_t_size, .ref h_t_paths, .ref h_t_children, .ref h_t_prefixes, .ref h_t_depths, .ref h_t_froms, .ref h_t_tills], gA h_t_froms cI 48 c_t_froms, gA h_t_tills cI 48 c_t_tills, gO h_p1 1 [.int v_p1_size, .ref h_p1_words, .ref h_p1_values], gA h_p1_words cI 48 c_p1_words] H → va_D A [gA h_t_paths cI 48 c_t_paths, gA h_t_children cI 48 c_t_children, gO h_t 3 [.int v_t_size, .ref h_t_paths, .ref h_t_children, .ref h_t_prefixes, .ref h_t_depths, .ref h_t_froms, .ref h_t_tills], gA h_t_froms cI 48 c_t_froms, gA h_t_tills cI 48 c_t_tills, gO h_p1 1 [.int v_p1_size, .ref h_p1_words, .ref h_p1_values], gA h_p1_words cI 48 c_p1_words] → va_S A s.heap H locs → lv_has ls 8 [(0, .ref h_t), (1, .ref h_p1), (3, .int q_2)] → W p l e rmX3_placesSaved s m args below meth c H locs 0 0 Q (F0 m 32 ls [.int q_32]) := by
      intro H locs ls hP hD hS hl
      refine lv_istore (lv' := [(4, .int q_32), (0, .ref h_t), (1, .ref h_p1), (3, .int q_2)]) hx hb dX3_placesSaved_32 hl (by decide) rfl (fun ls hl => ?_)
      refine lv_aload_n hx hb dX3_placesSaved_34 rfl (lv_at hl 1 rfl) ?_
      refine va_get (D := D) (ci := 3) (v := .ref h_t_children) (C := RX3) (T := TX3) (N := 7) hx hb hts hinX3 hown hK hP 2 rfl rfl 2 (by decide) hw2 (fun _ h9 => h9) rfl dX3_placesSaved_35 ?_
      refine lv_iload_n hx hb dX3_placesSaved_38 rfl (lv_at hl 3 rfl) ?_
      obtain ⟨hin, hF⟩ := gx_some hF
      refine va_iald hx hb hK hP 1 0 rfl rfl hin dX3_placesSaved_39 ?_
      obtain ⟨q_40, hc, hF⟩ := gb_some hF
      refine gcSi (As := [.int (c_t_children (q_2).toNatClampNeg)]) (rest := []) (pre := []) (post := []) (wr := [gA h_t_paths cI 48 c_t_paths, gA h_t_children cI 48 c_t_children, gO h_t 3 [.int v_t_size, .ref h_t_paths, .ref h_t_children, .ref h_t_prefixes, .ref h_t_depths, .ref h_t_froms, .ref h_t_tills], gA h_t_froms cI 48 c_t_froms, gA h_t_tills cI 48 c_t_tills, gO h_p1 1 [.int v_p1_size, .ref h_p1_words, .ref h_p1_values], gA h_p1_words cI 48 c_p1_words]) ⟨hx, hb, hml, hown, hts⟩ (kJ6_bitCount_0f7a4 l D cI cZ cD cG (c_t_children (q_2).toNatClampNeg) q_40 hc) (va_cwS 1 hts gX3_placesSaved_J6_bitCount_0f7a4 rfl rfl rfl (by decide +kernel) ⟨Nat.le_of_ble_eq_true rfl, Nat.le_of_ble_eq_true rfl⟩) hK hP hD hS hA [] [0, 1, 2, 3, 4, 5, 6] rfl rfl (by decide) (by decide) (by decide) rfl hl.1 rfl (Nat.le_of_ble_eq_true rfl) dX3_placesSaved_40 ⟨Nat.zero_le _, Nat.zero_le _⟩ (fun H locs hP hD hS => ?_)
      have hP : va_P D vwCl [gA h_t_paths cI 48 c_t_paths, gA h_t_children cI 48 c_t_children, gO h_t 3 [.int v_t_size, .ref h_t_paths, .ref h_t_children, .ref h_t_prefixes, .ref h_t_depths, .ref h_t_froms, .ref h_t_tills], gA h_t_froms cI 48 c_t_froms, gA h_t_tills cI 48 c_t_tills, gO h_p1 1 [.int v_p1_size, .ref h_p1_words, .ref h_p1_values], gA h_p1_words cI 48 c_p1_words] H := hP
      have hD : va_D A [gA h_t_paths cI 48 c_t_paths, gA h_t_children cI 48 c_t_children, gO h_t 3 [.int v_t_size, .ref h_t_paths, .ref h_t_children, .ref h_t_prefixes, .ref h_t_depths, .ref h_t_froms, .ref h_t_tills], gA h_t_froms cI 48 c_t_froms, gA h_t_tills cI 48 c_t_tills, gO h_p1 1 [.int v_p1_size, .ref h_p1_words, .ref h_p1_values], gA h_p1_words cI 48 c_p1_words] := hD
      refine lv_iload hx hb dX3_placesSaved_43 (lv_at hl 0 rfl) ?_
      obtain ⟨q_53, hR, hF⟩ := gb_some hF
      have Jn_53 : ∀ (H : Heap) (locs : List Loc) (ls : Array Slot), va_P D vwCl [gA h_t_paths cI 48 c_t_paths, gA h_t_children cI 48 c_t_children, gO h_t 3 [.int v_t_size, .ref h_t_paths, .ref h_t_children, .ref h_t_prefixes, .ref h_t_depths, .ref h_t_froms, .ref h_t_tills], gA h_t_froms cI 48 c_t_froms, gA h_t_tills cI 48 c_t_tills, gO h_p1 1 [.int v_p1_size, .ref h_p1_words, .ref h_p1_values], gA h_p1_words cI 48 c_p1_words] H → va_D A [gA h_t_paths cI 48 c_t_paths, gA h_t_children cI 48 c_t_children, gO h_t 3 [.int v_t_size, .ref h_t_paths, .ref h_t_children, .ref h_t_prefixes, .ref h_t_depths, .ref h_t_froms, .ref h_t_tills], gA h_t_froms cI 48 c_t_froms, gA h_t_tills cI 48 c_t_tills, gO h_p1 1 [.int v_p1_size, .ref h_p1_words, .ref h_p1_values], gA h_p1_words cI 48 c_p1_words] → va_S A s.heap H locs → lv_has ls 8 [(0, .ref h_t), (1, .ref h_p1), (3, .int q_2), (4, .int q_32)] → W p l e rmX3_placesSaved s m args below meth c H locs 0 0 Q (F0 m 53 ls [.int q_53, .int q_40]) := by
        intro H locs ls hP hD hS hl
        refine lv_isub hx hb dX3_placesSaved_53 ?_
        refine lv_topi (fun x5_54 ex => ?_)
        have hF := gl_some hF ex
        refine lv_istore (lv' := [(5, .int x5_54), (0, .ref h_t), (1, .ref h_p1), (3, .int q_2), (4, .int q_32)]) hx hb dX3_placesSaved_54 hl (by decide) rfl (fun ls hl => ?_)
        refine lv_aload_n hx hb dX3_placesSaved_56 rfl (lv_at hl 1 rfl) ?_
        refine lv_aload_n hx hb dX3_placesSaved_57 rfl (lv_at hl 2 rfl) ?_
        refine lv_iload_n hx hb dX3_placesSaved_58 rfl (lv_at hl 3 rfl) ?_
        obtain ⟨q_59, hc, hF⟩ := gb_some hF
        refine gcVz (ci := 3) (As := [.ref h_p1, .int q_2]) (rest := []) (pre := [gO h_t 3 [.int v_t_size, .ref h_t_paths, .ref h_t_children, .ref h_t_prefixes, .ref h_t_depths, .ref h_t_froms, .ref h_t_tills], gA h_t_froms cI 48 c_t_froms, gO h_p1 1 [.int v_p1_size, .ref h_p1_words, .ref h_p1_values], gA h_p1_words cI 48 c_p1_words, gA h_t_paths cI 48 c_t_paths]) (post := [gO h_t 3 [.int v_t_size, .ref h_t_paths, .ref h_t_children, .ref h_t_prefixes, .ref h_t_depths, .ref h_t_froms, .ref h_t_tills], gA h_t_froms cI 48 c_t_froms, gO h_p1 1 [.int v_p1_size, .ref h_p1_words, .ref h_p1_values], gA h_p1_words cI 48 c_p1_words, gA h_t_paths cI 48 c_t_paths]) (wr := [gA h_t_children cI 48 c_t_children, gA h_t_tills cI 48 c_t_tills]) ⟨hx, hb, hml, hown, hts⟩ (kX3_hasEnd l D cI cZ cD cG h_t h_p1 v_t_size h_t_paths h_t_children h_t_prefixes h_t_depths h_t_froms h_t_tills c_t_froms v_p1_size h_p1_words h_p1_values c_p1_words c_t_paths q_2 q_59 hc) (cwV 2 hts gX3_placesSaved_X3_hasEnd rfl rfl rfl (by decide +kernel) ⟨Nat.le_of_ble_eq_true rfl, Nat.le_of_ble_eq_true rfl⟩) hK hP hD hS hA [2, 3, 5, 6, 0] [1, 4] rfl rfl (by decide) (by decide) (by decide) 0 rfl rfl rfl hl.1 rfl (Nat.le_of_ble_eq_true rfl) dX3_placesSaved_59 ⟨Nat.zero_le _, Nat.zero_le _⟩ (fun H locs hnq_59 hP hD hS => ?_)
        have hP : va_P D vwCl [gA h_t_children cI 48 c_t_children, gA h_t_tills cI 48 c_t_tills, gO h_t 3 [.int v_t_size, .ref h_t_paths, .ref h_t_children, .ref h_t_prefixes, .ref h_t_depths, .ref h_t_froms, .ref h_t_tills], gA h_t_froms cI 48 c_t_froms, gO h_p1 1 [.int v_p1_size, .ref h_p1_words, .ref h_p1_values], gA h_p1_words cI 48 c_p1_words, gA h_t_paths cI 48 c_t_paths] H := hP
        have hD : va_D A [gA h_t_children cI 48 c_t_children, gA h_t_tills cI 48 c_t_tills, gO h_t 3 [.int v_t_size, .ref h_t_paths, .ref h_t_children, .ref h_t_prefixes, .ref h_t_depths, .ref h_t_froms, .ref h_t_tills], gA h_t_froms cI 48 c_t_froms, gO h_p1 1 [.int v_p1_size, .ref h_p1_words, .ref h_p1_values], gA h_p1_words cI 48 c_p1_words, gA h_t_paths cI 48 c_t_paths] := hD
        obtain ⟨q_75, hR, hF⟩ := gb_some hF
        have Jn_75 : ∀ (H : Heap) (locs : List Loc) (ls : Array Slot), va_P D vwCl [gA h_t_children cI 48 c_t_children, gA h_t_tills cI 48 c_t_tills, gO h_t 3 [.int v_t_size, .ref h_t_paths, .ref h_t_children, .ref h_t_prefixes, .ref h_t_depths, .ref h_t_froms, .ref h_t_tills], gA h_t_froms cI 48 c_t_froms, gO h_p1 1 [.int v_p1_size, .ref h_p1_words, .ref h_p1_values], gA h_p1_words cI 48 c_p1_words, gA h_t_paths cI 48 c_t_paths] H → va_D A [gA h_t_children cI 48 c_t_children, gA h_t_tills cI 48 c_t_tills, gO h_t 3 [.int v_t_size, .ref h_t_paths, .ref h_t_children, .ref h_t_prefixes, .ref h_t_depths, .ref h_t_froms, .ref h_t_tills], gA h_t_froms cI 48 c_t_froms, gO h_p1 1 [.int v_p1_size, .ref h_p1_words, .ref h_p1_values], gA h_p1_words cI 48 c_p1_words, gA h_t_paths cI 48 c_t_paths] → va_S A s.heap H locs → lv_has ls 8 [(0, .ref h_t), (3, .int q_2), (5, .int x5_54)] → W p l e rmX3_placesSaved s m args below meth c H locs 0 0 Q (F0 m 75 ls [.int q_75]) := by
          intro H locs ls hP hD hS hl
          refine lv_istore (lv' := [(6, .int q_75), (0, .ref h_t), (3, .int q_2), (5, .int x5_54)]) hx hb dX3_placesSaved_75 hl (by decide) rfl (fun ls hl => ?_)
          refine lv_iload hx hb dX3_placesSaved_77 (lv_at hl 3 rfl) ?_
          refine lv_iconst (v := 2) hx hb dX3_placesSaved_79 (by decide) ?_
          obtain ⟨q_99, hR, hF⟩ := gb_some hF
          have Jn_99 : ∀ (H : Heap) (locs : List Loc) (ls : Array Slot), va_P D vwCl [gA h_t_children cI 48 c_t_children, gA h_t_tills cI 48 c_t_tills, gO h_t 3 [.int v_t_size, .ref h_t_paths, .ref h_t_children, .ref h_t_prefixes, .ref h_t_depths, .ref h_t_froms, .ref h_t_tills], gA h_t_froms cI 48 c_t_froms, gO h_p1 1 [.int v_p1_size, .ref h_p1_words, .ref h_p1_values], gA h_p1_words cI 48 c_p1_words, gA h_t_paths cI 48 c_t_paths] H → va_D A [gA h_t_children cI 48 c_t_children, gA h_t_tills cI 48 c_t_tills, gO h_t 3 [.int v_t_size, .ref h_t_paths, .ref h_t_children, .ref h_t_prefixes, .ref h_t_depths, .ref h_t_froms, .ref h_t_tills], gA h_t_froms cI 48 c_t_froms, gO h_p1 1 [.int v_p1_size, .ref h_p1_words, .ref h_p1_values], gA h_p1_words cI 48 c_p1_words, gA h_t_paths cI 48 c_t_paths] → va_S A s.heap H locs → lv_has ls 8 [(0, .ref h_t), (3, .int q_2), (5, .int x5_54)] → W p l e rmX3_placesSaved s m args below meth c H locs 0 0 Q (F0 m 99 ls [.int q_99]) := by
            intro H locs ls hP hD hS hl
            refine lv_istore (lv' := [(7, .int q_99), (0, .ref h_t), (3, .int q_2), (5, .int x5_54)]) hx hb dX3_placesSaved_99 hl (by decide) rfl (fun ls hl => ?_)
            refine lv_aload_n hx hb dX3_placesSaved_101 rfl (lv_at hl 1 rfl) ?_
            refine lv_iload_n hx hb dX3_placesSaved_102 rfl (lv_at hl 2 rfl) ?_
            obtain ⟨q_103, hc, hF⟩ := gb_some hF
            refine gcVi (ci := 3) (As := [.int q_2]) (rest := []) (pre := [gO h_t 3 [.int v_t_size, .ref h_t_paths, .ref h_t_children, .ref h_t_prefixes, .ref h_t_depths, .ref h_t_froms, .ref h_t_tills], gA h_t_children cI 48 c_t_children]) (post := [gO h_t 3 [.int v_t_size, .ref h_t_paths, .ref h_t_children, .ref h_t_prefixes, .ref h_t_depths, .ref h_t_froms, .ref h_t_tills], gA h_t_children cI 48 c_t_children]) (wr := [gA h_t_tills cI 48 c_t_tills, gA h_t_froms cI 48 c_t_froms, gO h_p1 1 [.int v_p1_size, .ref h_p1_words, .ref h_p1_values], gA h_p1_words cI 48 c_p1_words, gA h_t_paths cI 48 c_t_paths]) ⟨hx, hb, hml, hown, hts⟩ (kX3_placesOf l D cI cZ cD cG h_t v_t_size h_t_paths h_t_children h_t_prefixes h_t_depths h_t_froms h_t_tills c_t_children q_2 q_103 hc) (cwV 1 hts gX3_placesSaved_X3_placesOf rfl rfl rfl (by decide +kernel) ⟨Nat.le_of_ble_eq_true rfl, Nat.le_of_ble_eq_true rfl⟩) hK hP hD hS hA [2, 0] [1, 3, 4, 5, 6] rfl rfl (by decide) (by decide) (by decide) 0 rfl rfl rfl hl.1 rfl (Nat.le_of_ble_eq_true rfl) dX3_placesSaved_103 ⟨Nat.zero_le _, Nat.zero_le _⟩ (fun H locs hP hD hS => ?_)
            have hP : va_P D vwCl [gA h_t_tills cI 48 c_t_tills, gA h_t_froms cI 48 c_t_froms, gO h_p1 1 [.int v_p1_size, .ref h_p1_words, .ref h_p1_values], gA h_p1_words cI 48 c_p1_words, gA h_t_paths cI 48 c_t_paths, gO h_t 3 [.int v_t_size, .ref h_t_paths, .ref h_t_children, .ref h_t_prefixes, .ref h_t_depths, .ref h_t_froms, .ref h_t_tills], gA h_t_children cI 48 c_t_children] H := hP
            have hD : va_D A [gA h_t_tills cI 48 c_t_tills, gA h_t_froms cI 48 c_t_froms, gO h_p1 1 [.int v_p1_size, .ref h_p1_words, .ref h_p1_values], gA h_p1_words cI 48 c_p1_words, gA h_t_paths cI 48 c_t_paths, gO h_t 3 [.int v_t_size, .ref h_t_paths, .ref h_t_children, .ref h_t_prefixes, .ref h_t_depths, .ref h_t_froms, .ref h_t_tills], gA h_t_children cI 48 c_t_children] := hD
            refine lv_iload hx hb dX3_placesSaved_106 (lv_at hl 0 rfl) ?_
            refine lv_if_eq (tgt := 119) hx hb dX3_placesSaved_108 (by decide) (fun cc => ?_) (fun cc => ?_)
            · have hF := gi_pos hF cc
              refine lv_iconst (v := 0) hx hb dX3_placesSaved_119 (by decide) ?_
              refine lv_isub hx hb dX3_placesSaved_120 ?_
              obtain rfl := Option.some.inj hF
              exact hQ _ _ _ _ _ (hP.sub [5, 1, 0, 2, 3, 4, 6] rfl) (hD.sub [5, 1, 0, 2, 3, 4, 6] (by decide) rfl) hS rfl dX3_placesSaved_121
            · have hF := gi_neg hF cc
              refine lv_iload hx hb dX3_placesSaved_111 (lv_at hl 3 rfl) ?_
              obtain ⟨q_113, hc, hF⟩ := gb_some hF
              refine gcSi (As := [.int x5_54]) (rest := [.int q_103]) (pre := []) (post := []) (wr := [gA h_t_tills cI 48 c_t_tills, gA h_t_froms cI 48 c_t_froms, gO h_p1 1 [.int v_p1_size, .ref h_p1_words, .ref h_p1_values], gA h_p1_words cI 48 c_p1_words, gA h_t_paths cI 48 c_t_paths, gO h_t 3 [.int v_t_size, .ref h_t_paths, .ref h_t_children, .ref h_t_prefixes, .ref h_t_depths, .ref h_t_froms, .ref h_t_tills], gA h_t_children cI 48 c_t_children]) ⟨hx, hb, hml, hown, hts⟩ (kX3_placesFor l D cI cZ cD cG x5_54 q_113 hc) (va_cwS 1 hts gX3_placesSaved_X3_placesFor rfl rfl rfl (by decide +kernel) ⟨Nat.le_of_ble_eq_true rfl, Nat.le_of_ble_eq_true rfl⟩) hK hP hD hS hA [] [0, 1, 2, 3, 4, 5, 6] rfl rfl (by decide) (by decide) (by decide) rfl hl.1 rfl (Nat.le_of_ble_eq_true rfl) dX3_placesSaved_113 ⟨Nat.zero_le _, Nat.zero_le _⟩ (fun H locs hP hD hS => ?_)
              have hP : va_P D vwCl [gA h_t_tills cI 48 c_t_tills, gA h_t_froms cI 48 c_t_froms, gO h_p1 1 [.int v_p1_size, .ref h_p1_words, .ref h_p1_values], gA h_p1_words cI 48 c_p1_words, gA h_t_paths cI 48 c_t_paths, gO h_t 3 [.int v_t_size, .ref h_t_paths, .ref h_t_children, .ref h_t_prefixes, .ref h_t_depths, .ref h_t_froms, .ref h_t_tills], gA h_t_children cI 48 c_t_children] H := hP
              have hD : va_D A [gA h_t_tills cI 48 c_t_tills, gA h_t_froms cI 48 c_t_froms, gO h_p1 1 [.int v_p1_size, .ref h_p1_words, .ref h_p1_values], gA h_p1_words cI 48 c_p1_words, gA h_t_paths cI 48 c_t_paths, gO h_t 3 [.int v_t_size, .ref h_t_paths, .ref h_t_children, .ref h_t_prefixes, .ref h_t_depths, .ref h_t_froms, .ref h_t_tills], gA h_t_children cI 48 c_t_children] := hD
              refine lv_goto (tgt := 120) hx hb dX3_placesSaved_116 (by decide) ?_
              refine lv_isub hx hb dX3_placesSaved_120 ?_
              obtain rfl := Option.some.inj hF
              exact hQ _ _ _ _ _ (hP.sub [5, 1, 0, 2, 3, 4, 6] rfl) (hD.sub [5, 1, 0, 2, 3, 4, 6] (by decide) rfl) hS rfl dX3_placesSaved_121
          clear hF
          have hF := hR
          refine lv_icmp_ge (tgt := 94) hx hb dX3_placesSaved_80 (by decide) (fun cc => ?_) (fun cc => ?_)
          · have hF := gi_pos hF cc
            refine lv_iconst (v := 1) hx hb dX3_placesSaved_94 (by decide) ?_
            refine lv_goto (tgt := 99) hx hb dX3_placesSaved_95 (by decide) ?_
            obtain rfl := Option.some.inj hF
            exact Jn_99 _ _ _ hP hD hS (lv_sub hl [1, 2, 3] rfl)
          · have hF := gi_neg hF cc
            refine lv_iload hx hb dX3_placesSaved_83 (lv_at hl 3 rfl) ?_
            refine lv_iconst (v := 1) hx hb dX3_placesSaved_85 (by decide) ?_
            refine lv_icmp_ne (tgt := 98) hx hb dX3_placesSaved_86 (by decide) (fun cc => ?_) (fun cc => ?_)
            · have hF := gi_neg hF cc
              refine lv_iconst (v := 0) hx hb dX3_placesSaved_98 (by decide) ?_
              obtain rfl := Option.some.inj hF
              exact Jn_99 _ _ _ hP hD hS (lv_sub hl [1, 2, 3] rfl)
            · have hF := gi_pos hF cc
              refine lv_iload hx hb dX3_placesSaved_89 (lv_at hl 0 rfl) ?_
              refine lv_if_eq (tgt := 98) hx hb dX3_placesSaved_91 (by decide) (fun cc => ?_) (fun cc => ?_)
              · have hF := gi_pos hF cc
                refine lv_iconst (v := 0) hx hb dX3_placesSaved_98 (by decide) ?_
                obtain rfl := Option.some.inj hF
                exact Jn_99 _ _ _ hP hD hS (lv_sub hl [1, 2, 3] rfl)
              · have hF := gi_neg hF cc
                refine lv_iconst (v := 1) hx hb dX3_placesSaved_94 (by decide) ?_
                refine lv_goto (tgt := 99) hx hb dX3_placesSaved_95 (by decide) ?_
                obtain rfl := Option.some.inj hF
                exact Jn_99 _ _ _ hP hD hS (lv_sub hl [1, 2, 3] rfl)
        clear hF
        have hF := hR
        refine lv_if_eq (tgt := 74) hx hb dX3_placesSaved_62 (by decide) (fun cc => ?_) (fun cc => ?_)
        · have hF := gi_pos hF cc
          refine lv_iconst (v := 0) hx hb dX3_placesSaved_74 (by decide) ?_
          obtain rfl := Option.some.inj hF
          exact Jn_75 _ _ _ hP hD hS (lv_sub hl [1, 3, 0] rfl)
        · have hF := gi_neg hF cc
          refine lv_iload hx hb dX3_placesSaved_65 (lv_at hl 4 rfl) ?_
          refine lv_if_ne (tgt := 74) hx hb dX3_placesSaved_67 (by decide) (fun cc => ?_) (fun cc => ?_)
          · have hF := gi_neg hF cc
            refine lv_iconst (v := 0) hx hb dX3_placesSaved_74 (by decide) ?_
            obtain rfl := Option.some.inj hF
            exact Jn_75 _ _ _ hP hD hS (lv_sub hl [1, 3, 0] rfl)
          · have hF := gi_pos hF cc
            refine lv_iconst (v := 1) hx hb dX3_placesSaved_70 (by decide) ?_
            refine lv_goto (tgt := 75) hx hb dX3_placesSaved_71 (by decide) ?_
            obtain rfl := Option.some.inj hF
            exact Jn_75 _ _ _ hP hD hS (lv_sub hl [1, 3, 0] rfl)
      clear hF
      have hF := hR
      refine lv_if_eq (tgt := 52) hx hb dX3_placesSaved_45 (by decide) (fun cc => ?_) (fun cc => ?_)
      · have hF := gi_pos hF cc
        refine lv_iconst (v := 1) hx hb dX3_placesSaved_52 (by decide) ?_
        obtain rfl := Option.some.inj hF
        exact Jn_53 _ _ _ hP hD hS (lv_sub hl [1, 2, 3, 0] rfl)
      · have hF := gi_neg hF cc
        refine lv_iconst (v := 0) hx hb dX3_placesSaved_48 (by decide) ?_
        refine lv_goto (tgt := 53) hx hb dX3_placesSaved_49 (by decide) ?_
        obtain rfl := Option.some.inj hF
        exact Jn_53 _ _ _ hP hD hS (lv_sub hl [1, 2, 3, 0] rfl)
    clear hF
    have hF := hR
    refine lv_icmp_ne (tgt := 31) hx hb dX3_placesSaved_24 (by decide) (fun cc => ?_) (fun cc => ?_)
    · have hF := gi_neg hF cc
      refine lv_iconst (v := 0) hx hb dX3_placesSaved_31 (by decide) ?_
      obtain rfl := Option.some.inj hF
      exact Jn_32 _ _ _ hP hD hS (lv_sub hl [1, 2, 0] rfl)
    · have hF := gi_pos hF cc
      refine lv_iconst (v := 1) hx hb dX3_placesSaved_27 (by decide) ?_
      refine lv_goto (tgt := 32) hx hb dX3_placesSaved_28 (by decide) ?_
      obtain rfl := Option.some.inj hF
      exact Jn_32 _ _ _ hP hD hS (lv_sub hl [1, 2, 0] rfl)
  · have hF := gi_pos hF cc
    refine lv_iconst (v := 0) hx hb dX3_placesSaved_11 (by decide) ?_
    obtain rfl := Option.some.inj hF
    exact hQ _ _ _ _ _ (hP.sub [4, 5, 6, 0, 1, 2, 3] rfl) (hD.sub [4, 5, 6, 0, 1, 2, 3] (by decide) rfl) hS rfl dX3_placesSaved_12

