set_option maxHeartbeats 4000000 in
set_option maxRecDepth 100000 in
theorem c33_J0_length_8abf5 (l : Launch) (hfl : l.stackTraces = false) (D : va_G) (cA : Nat → ClassId) (g : gv_T) : CT l yJ0_length_8abf5 cJ0_length_8abf5 1 (some .int) (RM 1 0 0 20) D cA g [.ref (g.2.1 0)] [] (fun q => some (.int 3)) (fun q => []) := by
  refine CT.of (by decide +kernel) (Nat.le_of_ble_eq_true rfl) ?_
  intro p e s m args below meth c A ls hx hb hr hml hown hG hlocks hnm hA hS hP hK hD hGV hl
  have hown : s.vm.findClass RJ0 = some m.cls := hown
  have hl : lv_has ls 1 [(0, .ref (g.2.1 0))] := hl
  have hSF : CF p m c cJ0_length_8abf5 1 s args RJ0 := ⟨hx, hb, hml, hown, hG⟩
  refine lv_aload_n hx hb dJ0_length_8abf5_0 rfl (lv_at hl 0 rfl) ?_
  refine k_svalue hx hb hG hGV hS hown gw1891 dJ0_length_8abf5_1 ?_
  refine k_slen hx hb hGV hS dJ0_length_8abf5_4 ?_
  refine lv_aload_n hx hb dJ0_length_8abf5_5 rfl (lv_at hl 0 rfl) ?_
  refine ct_V (wr := []) hSF hl.1 hP hD hS hA hK hGV (c32_J0_coder_7d493 l hfl D cA g) goV_J0_335 pd_J0_coder_7d493 ⟨(Nat.le_of_ble_eq_true rfl), (Nat.le_of_ble_eq_true rfl)⟩ ⟨(Nat.le_of_ble_eq_true rfl), (Nat.le_of_ble_eq_true rfl)⟩ (vk_recv (N := 1) (adK := fun _ => g.2.1 0) (i := 0) hGV.2.2.1.2 (by decide) hS) dJ0_length_8abf5_6 rfl (Nat.le_of_ble_eq_true rfl) [] [] rfl (by decide) rfl (by decide) (by decide) (fun q => []) (fun _ => rfl) (fun q1 H locs hP hD hS => ?_)
  refine W.eq (g2 := F0 m 9 ls [.int 0, .int 3]) rfl ?_
  refine k_ishr (v := 3) hx hb dJ0_length_8abf5_9 (by decide) ?_
  exact e_i (fun _ => 0) hx hb hr hlocks rfl rfl hP hD hS (Nat.le_of_ble_eq_true rfl) (Nat.le_of_ble_eq_true rfl) dJ0_length_8abf5_10
set_option maxHeartbeats 4000000 in
set_option maxRecDepth 100000 in
theorem c34_J1_canEncode_9a6ad (l : Launch) (hfl : l.stackTraces = false) (D : va_G) (cA : Nat → ClassId) (g : gv_T) (p0 : Int32) (k0 : ¬ p0 < 0) (k1 : 255 < p0) : CT l yJ1_canEncode_9a6ad cJ1_canEncode_9a6ad 1 (some .boolean) (RM 0 0 0 0) D cA g [.int p0] [] (fun q => some (.int 0)) (fun q => []) := by
  refine CT.of (by decide +kernel) (Nat.le_of_ble_eq_true rfl) ?_
  intro p e s m args below meth c A ls hx hb hr hml hown hG hlocks hnm hA hS hP hK hD hGV hl
  have hown : s.vm.findClass RJ1 = some m.cls := hown
  have hl : lv_has ls 1 [(0, .int p0)] := hl
  have hSF : CF p m c cJ1_canEncode_9a6ad 1 s args RJ1 := ⟨hx, hb, hml, hown, hG⟩
  refine lv_iload_n hx hb dJ1_canEncode_9a6ad_0 rfl (lv_at hl 0 rfl) ?_
  refine k_if_lt_f (tgt := 15) hx hb dJ1_canEncode_9a6ad_1 k0 (by decide) ?_
  refine lv_iload_n hx hb dJ1_canEncode_9a6ad_4 rfl (lv_at hl 0 rfl) ?_
  refine lv_sipush (v := 255) hx hb dJ1_canEncode_9a6ad_5 (by decide) ?_
  refine k_icmp_gt_t (tgt := 15) hx hb dJ1_canEncode_9a6ad_8 k1 (by decide) ?_
  refine lv_iconst (v := 0) hx hb dJ1_canEncode_9a6ad_15 (by decide) ?_
  exact e_i (fun _ => 0) hx hb hr hlocks rfl rfl hP hD hS (Nat.le_of_ble_eq_true rfl) (Nat.le_of_ble_eq_true rfl) dJ1_canEncode_9a6ad_16
set_option maxHeartbeats 4000000 in
set_option maxRecDepth 100000 in
theorem c35_J1_indexOf_4cfef (l : Launch) (hfl : l.stackTraces = false) (D : va_G) (cA : Nat → ClassId) (g : gv_T) (p0 : Int32) (k0 : ¬ p0 < 0) (k1 : 255 < p0) : CT l yJ1_indexOf_4cfef cJ1_indexOf_4cfef 4 (some .int) (RM 1 0 0 20) D cA g [.ref g.2.2, .int p0, .int 0, .int 3] [] (fun q => some (.int (-1))) (fun q => []) := by
  refine CT.of (by decide +kernel) (Nat.le_of_ble_eq_true rfl) ?_
  intro p e s m args below meth c A ls hx hb hr hml hown hG hlocks hnm hA hS hP hK hD hGV hl
  have hown : s.vm.findClass RJ1 = some m.cls := hown
  have hl : lv_has ls 4 [(0, .ref g.2.2), (1, .int p0), (2, .int 0), (3, .int 3)] := hl
  have hSF : CF p m c cJ1_indexOf_4cfef 4 s args RJ1 := ⟨hx, hb, hml, hown, hG⟩
  refine lv_iload_n hx hb dJ1_indexOf_4cfef_0 rfl (lv_at hl 1 rfl) ?_
  refine ct_S (wr := []) hSF hl.1 hP hD hS hA hK hGV (c34_J1_canEncode_9a6ad l hfl D cA g (p0) k0 k1) goS_J1_88 pd_J1_canEncode_9a6ad.2 ⟨(Nat.le_of_ble_eq_true rfl), (Nat.le_of_ble_eq_true rfl)⟩ ⟨(Nat.le_of_ble_eq_true rfl), (Nat.le_of_ble_eq_true rfl)⟩ dJ1_indexOf_4cfef_1 rfl (Nat.le_of_ble_eq_true rfl) [] [] rfl (by decide) rfl (by decide) (by decide) (fun q => []) (fun _ => rfl) (fun q1 H locs hP hD hS => ?_)
  refine W.eq (g2 := F0 m 4 ls [.int 0]) rfl ?_
  refine k_if_ne_f (tgt := 9) hx hb dJ1_indexOf_4cfef_4 (by decide) (by decide) ?_
  refine lv_iconst (v := (-1)) hx hb dJ1_indexOf_4cfef_7 (by decide) ?_
  exact e_i (fun _ => 0) hx hb hr hlocks rfl rfl hP hD hS (Nat.le_of_ble_eq_true rfl) (Nat.le_of_ble_eq_true rfl) dJ1_indexOf_4cfef_8
set_option maxHeartbeats 4000000 in
set_option maxRecDepth 100000 in
theorem c36_J0_indexOf_7cf53 (l : Launch) (hfl : l.stackTraces = false) (D : va_G) (cA : Nat → ClassId) (g : gv_T) (p0 : Int32) (k0 : ¬ p0 < 0) (k1 : 255 < p0) : CT l yJ0_indexOf_7cf53 cJ0_indexOf_7cf53 3 (some .int) (RM 2 0 0 43) D cA g [.ref (g.2.1 0), .int p0, .int 0] [] (fun q => some (.int (-1))) (fun q => []) := by
  refine CT.of (by decide +kernel) (Nat.le_of_ble_eq_true rfl) ?_
  intro p e s m args below meth c A ls hx hb hr hml hown hG hlocks hnm hA hS hP hK hD hGV hl
  have hown : s.vm.findClass RJ0 = some m.cls := hown
  have hl : lv_has ls 3 [(0, .ref (g.2.1 0)), (1, .int p0), (2, .int 0)] := hl
  have hSF : CF p m c cJ0_indexOf_7cf53 3 s args RJ0 := ⟨hx, hb, hml, hown, hG⟩
  refine lv_aload_n hx hb dJ0_indexOf_7cf53_0 rfl (lv_at hl 0 rfl) ?_
  refine ct_V (wr := []) hSF hl.1 hP hD hS hA hK hGV (c31_J0_isLatin1_aae02 l hfl D cA g) goV_J0_492 pd_J0_isLatin1_aae02 ⟨(Nat.le_of_ble_eq_true rfl), (Nat.le_of_ble_eq_true rfl)⟩ ⟨(Nat.le_of_ble_eq_true rfl), (Nat.le_of_ble_eq_true rfl)⟩ (vk_recv (N := 1) (adK := fun _ => g.2.1 0) (i := 0) hGV.2.2.1.2 (by decide) hS) dJ0_indexOf_7cf53_1 rfl (Nat.le_of_ble_eq_true rfl) [] [] rfl (by decide) rfl (by decide) (by decide) (fun q => []) (fun _ => rfl) (fun q1 H locs hP hD hS => ?_)
  refine W.eq (g2 := F0 m 4 ls [.int 1]) rfl ?_
  refine k_if_eq_f (tgt := 23) hx hb dJ0_indexOf_7cf53_4 (by decide) (by decide) ?_
  refine lv_aload_n hx hb dJ0_indexOf_7cf53_7 rfl (lv_at hl 0 rfl) ?_
  refine k_svalue hx hb hG hGV hS hown gw1891 dJ0_indexOf_7cf53_8 ?_
  refine lv_iload_n hx hb dJ0_indexOf_7cf53_11 rfl (lv_at hl 1 rfl) ?_
  refine lv_iload_n hx hb dJ0_indexOf_7cf53_12 rfl (lv_at hl 2 rfl) ?_
  refine lv_aload_n hx hb dJ0_indexOf_7cf53_13 rfl (lv_at hl 0 rfl) ?_
  refine ct_V (wr := []) hSF hl.1 hP hD hS hA hK hGV (c33_J0_length_8abf5 l hfl D cA g) goV_J0_505 pd_J0_length_8abf5 ⟨(Nat.le_of_ble_eq_true rfl), (Nat.le_of_ble_eq_true rfl)⟩ ⟨(Nat.le_of_ble_eq_true rfl), (Nat.le_of_ble_eq_true rfl)⟩ (vk_recv (N := 1) (adK := fun _ => g.2.1 0) (i := 0) hGV.2.2.1.2 (by decide) hS) dJ0_indexOf_7cf53_14 rfl (Nat.le_of_ble_eq_true rfl) [] [] rfl (by decide) rfl (by decide) (by decide) (fun q => []) (fun _ => rfl) (fun q2 H locs hP hD hS => ?_)
  refine W.eq (g2 := F0 m 17 ls [.int 3, .int 0, .int p0, .ref g.2.2]) rfl ?_
  refine ct_S (wr := []) hSF hl.1 hP hD hS hA hK hGV (c35_J1_indexOf_4cfef l hfl D cA g (p0) k0 k1) goS_J0_637 pd_J1_indexOf_4cfef.2 ⟨(Nat.le_of_ble_eq_true rfl), (Nat.le_of_ble_eq_true rfl)⟩ ⟨(Nat.le_of_ble_eq_true rfl), (Nat.le_of_ble_eq_true rfl)⟩ dJ0_indexOf_7cf53_17 rfl (Nat.le_of_ble_eq_true rfl) [] [] rfl (by decide) rfl (by decide) (by decide) (fun q => []) (fun _ => rfl) (fun q3 H locs hP hD hS => ?_)
  refine W.eq (g2 := F0 m 20 ls [.int (-1)]) rfl ?_
  refine lv_goto (tgt := 36) hx hb dJ0_indexOf_7cf53_20 (by decide) ?_
  exact e_i (fun _ => 0) hx hb hr hlocks rfl rfl hP hD hS (Nat.le_of_ble_eq_true rfl) (Nat.le_of_ble_eq_true rfl) dJ0_indexOf_7cf53_36
set_option maxHeartbeats 4000000 in
set_option maxRecDepth 100000 in
theorem c37_J0_indexOf_0f7a4 (l : Launch) (hfl : l.stackTraces = false) (D : va_G) (cA : Nat → ClassId) (g : gv_T) (p0 : Int32) (k0 : ¬ p0 < 0) (k1 : 255 < p0) : CT l yJ0_indexOf_0f7a4 cJ0_indexOf_0f7a4 2 (some .int) (RM 3 0 0 65) D cA g [.ref (g.2.1 0), .int p0] [] (fun q => some (.int (-1))) (fun q => []) := by
  refine CT.of (by decide +kernel) (Nat.le_of_ble_eq_true rfl) ?_
  intro p e s m args below meth c A ls hx hb hr hml hown hG hlocks hnm hA hS hP hK hD hGV hl
  have hown : s.vm.findClass RJ0 = some m.cls := hown
  have hl : lv_has ls 2 [(0, .ref (g.2.1 0)), (1, .int p0)] := hl
  have hSF : CF p m c cJ0_indexOf_0f7a4 2 s args RJ0 := ⟨hx, hb, hml, hown, hG⟩
  refine lv_aload_n hx hb dJ0_indexOf_0f7a4_0 rfl (lv_at hl 0 rfl) ?_
  refine lv_iload_n hx hb dJ0_indexOf_0f7a4_1 rfl (lv_at hl 1 rfl) ?_
  refine lv_iconst (v := 0) hx hb dJ0_indexOf_0f7a4_2 (by decide) ?_
  refine ct_V (wr := []) hSF hl.1 hP hD hS hA hK hGV (c36_J0_indexOf_7cf53 l hfl D cA g (p0) k0 k1) goV_J0_633 pd_J0_indexOf_7cf53 ⟨(Nat.le_of_ble_eq_true rfl), (Nat.le_of_ble_eq_true rfl)⟩ ⟨(Nat.le_of_ble_eq_true rfl), (Nat.le_of_ble_eq_true rfl)⟩ (vk_recv (N := 1) (adK := fun _ => g.2.1 0) (i := 0) hGV.2.2.1.2 (by decide) hS) dJ0_indexOf_0f7a4_3 rfl (Nat.le_of_ble_eq_true rfl) [] [] rfl (by decide) rfl (by decide) (by decide) (fun q => []) (fun _ => rfl) (fun q1 H locs hP hD hS => ?_)
  refine W.eq (g2 := F0 m 6 ls [.int (-1)]) rfl ?_
  exact e_i (fun _ => 0) hx hb hr hlocks rfl rfl hP hD hS (Nat.le_of_ble_eq_true rfl) (Nat.le_of_ble_eq_true rfl) dJ0_indexOf_0f7a4_6
set_option maxHeartbeats 4000000 in
set_option maxRecDepth 100000 in
theorem c38_X6_node (l : Launch) (hfl : l.stackTraces = false) (D : va_G) (cA : Nat → ClassId) (g : gv_T) (h0 : Nat) (p0 : Int32) (p1 : Int32) (p2 : Int32) (k0 : ¬ p0 < 0) (k1 : ¬ 30 < p0) (k2 : ¬ p1 < 0) (k3 : ¬ 30 < p1) (k4 : ¬ p2 < 0) (k5 : 255 < p2) : CX l yX6_node cX6_node 4 (some .int) (RM 6 1 6 95) D cA g [.ref h0, .int p0, .int p1, .int p2] [] "java/lang/IllegalArgumentException" (fun q => []) := by
  refine CX.of (by decide +kernel) (Nat.le_of_ble_eq_true rfl) ?_
  intro p e s m args below meth c A ls hx hb hr hml hown hG hlocks htab hA hS hP hK hD hGV hl
  have hown : s.vm.findClass RX6 = some m.cls := hown
  have hl : lv_has ls 4 [(0, .ref h0), (1, .int p0), (2, .int p1), (3, .int p2)] := hl
  have hSF : CF p m c cX6_node 4 s args RX6 := ⟨hx, hb, hml, hown, hG⟩
  refine lv_iload_n hx hb dX6_node_0 rfl (lv_at hl 1 rfl) ?_
  refine lv_iconst (v := 0) hx hb dX6_node_1 (by decide) ?_
  refine lv_bipush (v := 30) hx hb dX6_node_2 (by decide) ?_
  refine ct_S (wr := []) hSF hl.1 hP hD hS hA hK hGV (c23_X6_isWithin l hfl D cA g (p0) k0 k1) goS_X6_44 pd_X6_isWithin.2 ⟨(Nat.le_of_ble_eq_true rfl), (Nat.le_of_ble_eq_true rfl)⟩ ⟨(Nat.le_of_ble_eq_true rfl), (Nat.le_of_ble_eq_true rfl)⟩ dX6_node_4 rfl (Nat.le_of_ble_eq_true rfl) [] [] rfl (by decide) rfl (by decide) (by decide) (fun q => []) (fun _ => rfl) (fun q1 H locs hP hD hS => ?_)
  refine W.eq (g2 := F0 m 7 ls [.int 1]) rfl ?_
  refine k_if_eq_f (tgt := 29) hx hb dX6_node_7 (by decide) (by decide) ?_
  refine lv_iload_n hx hb dX6_node_10 rfl (lv_at hl 2 rfl) ?_
  refine lv_iconst (v := 0) hx hb dX6_node_11 (by decide) ?_
  refine lv_bipush (v := 30) hx hb dX6_node_12 (by decide) ?_
  refine ct_S (wr := []) hSF hl.1 hP hD hS hA hK hGV (c23_X6_isWithin l hfl D cA g (p1) k2 k3) goS_X6_44 pd_X6_isWithin.2 ⟨(Nat.le_of_ble_eq_true rfl), (Nat.le_of_ble_eq_true rfl)⟩ ⟨(Nat.le_of_ble_eq_true rfl), (Nat.le_of_ble_eq_true rfl)⟩ dX6_node_14 rfl (Nat.le_of_ble_eq_true rfl) [] [] rfl (by decide) rfl (by decide) (by decide) (fun q => []) (fun _ => rfl) (fun q2 H locs hP hD hS => ?_)
  refine W.eq (g2 := F0 m 17 ls [.int 1]) rfl ?_
  refine k_if_eq_f (tgt := 29) hx hb dX6_node_17 (by decide) (by decide) ?_
  refine k_ldcS hx hb hGV 0 rfl hown dX6_node_20 ?_
  refine lv_iload_n hx hb dX6_node_22 rfl (lv_at hl 3 rfl) ?_
  refine ct_V (wr := []) hSF hl.1 hP hD hS hA hK hGV (c37_J0_indexOf_0f7a4 l hfl D cA g (p2) k4 k5) goV_X6_50 pd_J0_indexOf_0f7a4 ⟨(Nat.le_of_ble_eq_true rfl), (Nat.le_of_ble_eq_true rfl)⟩ ⟨(Nat.le_of_ble_eq_true rfl), (Nat.le_of_ble_eq_true rfl)⟩ (vk_recv (N := 1) (adK := fun _ => g.2.1 0) (i := 0) hGV.2.2.1.2 (by decide) hS) dX6_node_23 rfl (Nat.le_of_ble_eq_true rfl) [] [] rfl (by decide) rfl (by decide) (by decide) (fun q => []) (fun _ => rfl) (fun q3 H locs hP hD hS => ?_)
  refine W.eq (g2 := F0 m 26 ls [.int (-1)]) rfl ?_
  refine k_if_ge_f (tgt := 39) hx hb dX6_node_26 (by decide) (by decide) ?_
  exact e_throw (fun _ => 0) (names := ["java/lang/RuntimeException", "java/lang/Exception"]) 1 hx hb hfl hown hG hGV htab hlocks (hl.1.trans hml.symm) (by decide +kernel) (by decide +kernel) gw668 gw95 rfl xat_X6_60 hP hD hS dX6_node_29 dX6_node_32 dX6_node_33 dX6_node_35 dX6_node_38 (Nat.le_of_ble_eq_true rfl) (Nat.le_of_ble_eq_true rfl) (Nat.le_of_ble_eq_true rfl) (Nat.le_of_ble_eq_true rfl) (Nat.le_of_ble_eq_true rfl) (Nat.le_of_ble_eq_true rfl)
set_option maxHeartbeats 4000000 in
set_option maxRecDepth 100000 in
theorem c39_L_node (l : Launch) (hfl : l.stackTraces = false) (D : va_G) (cA : Nat → ClassId) (g : gv_T) (h0 h1 h2 h3 h4 h5 h6 : Nat) (p0 : Int32) (p1 : Int32) (p2 : Int32) (k0 : ¬ p0 < 0) (k1 : ¬ 30 < p0) (k2 : ¬ p1 < 0) (k3 : ¬ 30 < p1) (k4 : ¬ p2 < 0) (k5 : 255 < p2) : CW l yL_node cL_node 6 (some .int) [(0, 12, 15, 13), (0, 12, 19, 15)] (RM 7 1 6 118) D cA g [.ref h0, .int p0, .int p1, .int p2, .ref h1] [(h0, .inr (9, [.ref h2, .ref h3, .ref h4, .ref h5, .ref h6]))] (fun q => some (.int 1)) (fun q => [(h0, .inr (9, [.ref h2, .ref h3, .ref h4, .ref h5, .ref h6]))]) := by
  refine CW.of (by decide +kernel) (Nat.le_of_ble_eq_true rfl) ?_
  intro p e s m args below meth c A ls hx hb hr hml hown hG hlocks htab hA hS hP hK hD hGV hl
  have hown : s.vm.findClass RL = some m.cls := hown
  have hl : lv_has ls 6 [(0, .ref h0), (1, .int p0), (2, .int p1), (3, .int p2), (4, .ref h1)] := hl
  have hSF : CF p m c cL_node 6 s args RL := ⟨hx, hb, hml, hown, hG⟩
  refine lv_aload hx hb dL_node_0 (lv_at hl 4 rfl) ?_
  refine lv_iconst (v := 0) hx hb dL_node_2 (by decide) ?_
  refine lv_aload_n hx hb dL_node_3 rfl (lv_at hl 0 rfl) ?_
  refine lv_iload_n hx hb dL_node_4 rfl (lv_at hl 1 rfl) ?_
  refine lv_iload_n hx hb dL_node_5 rfl (lv_at hl 2 rfl) ?_
  refine lv_iload_n hx hb dL_node_6 rfl (lv_at hl 3 rfl) ?_
  refine cx_V (wr := [(h0, .inr (9, [.ref h2, .ref h3, .ref h4, .ref h5, .ref h6]))]) hSF hl.1 hP hD hS hA hK hGV (c38_X6_node l hfl D cA g h0 (p0) (p1) (p2) k0 k1 k2 k3 k4 k5) goV_L_7 pd_X6_node ⟨(Nat.le_of_ble_eq_true rfl), (Nat.le_of_ble_eq_true rfl)⟩ ⟨(Nat.le_of_ble_eq_true rfl), (Nat.le_of_ble_eq_true rfl)⟩ (va_recv hK hP (ci := 9) (q0 := 0) rfl rfl) dL_node_7 rfl (Nat.le_of_ble_eq_true rfl) [] [0] rfl (by decide) rfl (by decide) (by decide) (fun q => [(h0, .inr (9, [.ref h2, .ref h3, .ref h4, .ref h5, .ref h6]))]) (fun _ => rfl) (fun q1 H locs x9 ce9 hP hD hS h9 hv9 hcl9 => ?_)
  refine vx_catch (own := RL) (name := "java/lang/IllegalArgumentException") hown [] { startPc := 0, endPc := 12, handlerPc := 15, catchType := 13 } [{ startPc := 0, endPc := 12, handlerPc := 19, catchType := 15 }] (htab.trans rfl) (fun z hz => nomatch hz) rfl (by decide) (hG _ gw572) (va_Nw.use rfl (hGV.2.2.2.2.1 _ gw670)) h9 hv9 hcl9 ?_
  refine W.eq (g2 := F0 m 15 ls [.ref x9]) rfl ?_
  refine lv_astore (lv' := [(5, .ref x9), (0, .ref h0), (1, .int p0), (2, .int p1), (3, .int p2), (4, .ref h1)]) hx hb dL_node_15 hl (by decide) rfl (fun ls hl => ?_)
  refine lv_iconst (v := 1) hx hb dL_node_17 (by decide) ?_
  exact e_i (fun _ => 0) hx hb hr hlocks rfl rfl hP hD hS (Nat.le_of_ble_eq_true rfl) (Nat.le_of_ble_eq_true rfl) dL_node_18
set_option maxHeartbeats 4000000 in
set_option maxRecDepth 100000 in
theorem c40_X12_node (l : Launch) (hfl : l.stackTraces = false) (D : va_G) (cA : Nat → ClassId) (g : gv_T) (h0 h1 h2 h3 h4 h5 h6 h7 h8 h9 h10 h11 h12 h13 h14 h15 h16 h17 h18 : Nat) (p0 : Int32) (p1 : Int32) (p2 : Int32) (k0 : ¬ (lg_cmp p0.toInt64 0) < 0) (k1 : ¬ 0 < (lg_cmp p0.toInt64 30)) (k2 : ¬ (lg_cmp p1.toInt64 0) < 0) (k3 : ¬ 0 < (lg_cmp p1.toInt64 30)) (k4 : ¬ p2 = 45) (k5 : ¬ p2 = 112) (k6 : ¬ p2 = 114) : CT l yX12_node cX12_node 4 (some .int) (RM 1 0 0 23) D cA g [.ref h0, .int p0, .int p1, .int p2] [(h0, .inr (15, [.ref h1, .ref h2, .ref h3, .ref h4, .ref h5, .ref h6, .ref h7, .ref h8, .ref h9, .ref h10, .ref h11, .ref h12, .ref h13, .ref h14, .ref h15, .ref h16, .ref h17, .ref h18, .long 0, .int 0, .int 2, .int 0, .int 0, .int 0, .int 0, .int 0, .int 0]))] (fun q => some (.int 0)) (fun q => [(h0, .inr (15, [.ref h1, .ref h2, .ref h3, .ref h4, .ref h5, .ref h6, .ref h7, .ref h8, .ref h9, .ref h10, .ref h11, .ref h12, .ref h13, .ref h14, .ref h15, .ref h16, .ref h17, .ref h18, .long 0, .int 1, .int 2, .int 0, .int 0, .int 0, .int 0, .int 0, .int 0]))]) := by
  refine CT.of (by decide +kernel) (Nat.le_of_ble_eq_true rfl) ?_
  intro p e s m args below meth c A ls hx hb hr hml hown hG hlocks hnm hA hS hP hK hD hGV hl
  have hown : s.vm.findClass RX12 = some m.cls := hown
  have hl : lv_has ls 4 [(0, .ref h0), (1, .int p0), (2, .int p1), (3, .int p2)] := hl
  have hSF : CF p m c cX12_node 4 s args RX12 := ⟨hx, hb, hml, hown, hG⟩
  refine lv_iload_n hx hb dX12_node_0 rfl (lv_at hl 1 rfl) ?_
  refine lv_i2l (v := p0.toInt64) hx hb dX12_node_1 rfl ?_
  refine lv_iconst (v := 0) hx hb dX12_node_2 (by decide) ?_
  refine lv_bipush (v := 30) hx hb dX12_node_3 (by decide) ?_
  refine ct_S (wr := [(h0, .inr (15, [.ref h1, .ref h2, .ref h3, .ref h4, .ref h5, .ref h6, .ref h7, .ref h8, .ref h9, .ref h10, .ref h11, .ref h12, .ref h13, .ref h14, .ref h15, .ref h16, .ref h17, .ref h18, .long 0, .int 0, .int 2, .int 0, .int 0, .int 0, .int 0, .int 0, .int 0]))]) hSF hl.1 hP hD hS hA hK hGV (c26_X12_in l hfl D cA g (p0.toInt64) k0 k1) goS_X12_285 pd_X12_in.2 ⟨(Nat.le_of_ble_eq_true rfl), (Nat.le_of_ble_eq_true rfl)⟩ ⟨(Nat.le_of_ble_eq_true rfl), (Nat.le_of_ble_eq_true rfl)⟩ dX12_node_5 rfl (Nat.le_of_ble_eq_true rfl) [] [0] rfl (by decide) rfl (by decide) (by decide) (fun q => [(h0, .inr (15, [.ref h1, .ref h2, .ref h3, .ref h4, .ref h5, .ref h6, .ref h7, .ref h8, .ref h9, .ref h10, .ref h11, .ref h12, .ref h13, .ref h14, .ref h15, .ref h16, .ref h17, .ref h18, .long 0, .int 0, .int 2, .int 0, .int 0, .int 0, .int 0, .int 0, .int 0]))]) (fun _ => rfl) (fun q1 H locs hP hD hS => ?_)
  refine W.eq (g2 := F0 m 8 ls [.int 1]) rfl ?_
  refine k_if_eq_f (tgt := 40) hx hb dX12_node_8 (by decide) (by decide) ?_
  refine lv_iload_n hx hb dX12_node_11 rfl (lv_at hl 2 rfl) ?_
  refine lv_i2l (v := p1.toInt64) hx hb dX12_node_12 rfl ?_
  refine lv_iconst (v := 0) hx hb dX12_node_13 (by decide) ?_
  refine lv_bipush (v := 30) hx hb dX12_node_14 (by decide) ?_
  refine ct_S (wr := [(h0, .inr (15, [.ref h1, .ref h2, .ref h3, .ref h4, .ref h5, .ref h6, .ref h7, .ref h8, .ref h9, .ref h10, .ref h11, .ref h12, .ref h13, .ref h14, .ref h15, .ref h16, .ref h17, .ref h18, .long 0, .int 0, .int 2, .int 0, .int 0, .int 0, .int 0, .int 0, .int 0]))]) hSF hl.1 hP hD hS hA hK hGV (c26_X12_in l hfl D cA g (p1.toInt64) k2 k3) goS_X12_285 pd_X12_in.2 ⟨(Nat.le_of_ble_eq_true rfl), (Nat.le_of_ble_eq_true rfl)⟩ ⟨(Nat.le_of_ble_eq_true rfl), (Nat.le_of_ble_eq_true rfl)⟩ dX12_node_16 rfl (Nat.le_of_ble_eq_true rfl) [] [0] rfl (by decide) rfl (by decide) (by decide) (fun q => [(h0, .inr (15, [.ref h1, .ref h2, .ref h3, .ref h4, .ref h5, .ref h6, .ref h7, .ref h8, .ref h9, .ref h10, .ref h11, .ref h12, .ref h13, .ref h14, .ref h15, .ref h16, .ref h17, .ref h18, .long 0, .int 0, .int 2, .int 0, .int 0, .int 0, .int 0, .int 0, .int 0]))]) (fun _ => rfl) (fun q2 H locs hP hD hS => ?_)
  refine W.eq (g2 := F0 m 19 ls [.int 1]) rfl ?_
  refine k_if_eq_f (tgt := 40) hx hb dX12_node_19 (by decide) (by decide) ?_
  refine lv_iload_n hx hb dX12_node_22 rfl (lv_at hl 3 rfl) ?_
  refine lv_bipush (v := 45) hx hb dX12_node_23 (by decide) ?_
  refine k_icmp_eq_f (tgt := 46) hx hb dX12_node_25 k4 (by decide) ?_
  refine lv_iload_n hx hb dX12_node_28 rfl (lv_at hl 3 rfl) ?_
  refine lv_bipush (v := 112) hx hb dX12_node_29 (by decide) ?_
  refine k_icmp_eq_f (tgt := 46) hx hb dX12_node_31 k5 (by decide) ?_
  refine lv_iload_n hx hb dX12_node_34 rfl (lv_at hl 3 rfl) ?_
  refine lv_bipush (v := 114) hx hb dX12_node_35 (by decide) ?_
  refine k_icmp_eq_f (tgt := 46) hx hb dX12_node_37 k6 (by decide) ?_
  refine lv_aload_n hx hb dX12_node_40 rfl (lv_at hl 0 rfl) ?_
  refine lv_iconst (v := 1) hx hb dX12_node_41 (by decide) ?_
  refine ct_V (wr := []) hSF hl.1 hP hD hS hA hK hGV (c15_X12_fails l hfl D cA g h0 h1 h2 h3 h4 h5 h6 h7 h8 h9 h10 h11 h12 h13 h14 h15 h16 h17 h18) goV_X12_289 pd_X12_fails ⟨(Nat.le_of_ble_eq_true rfl), (Nat.le_of_ble_eq_true rfl)⟩ ⟨(Nat.le_of_ble_eq_true rfl), (Nat.le_of_ble_eq_true rfl)⟩ (va_recv hK hP (ci := 15) (q0 := 0) rfl rfl) dX12_node_42 rfl (Nat.le_of_ble_eq_true rfl) [0] [] rfl (by decide) rfl (by decide) (by decide) (fun q => [(h0, .inr (15, [.ref h1, .ref h2, .ref h3, .ref h4, .ref h5, .ref h6, .ref h7, .ref h8, .ref h9, .ref h10, .ref h11, .ref h12, .ref h13, .ref h14, .ref h15, .ref h16, .ref h17, .ref h18, .long 0, .int 1, .int 2, .int 0, .int 0, .int 0, .int 0, .int 0, .int 0]))]) (fun _ => rfl) (fun q3 H locs hP hD hS => ?_)
  refine W.eq (g2 := F0 m 45 ls [.int 0]) rfl ?_
  exact e_i (fun _ => 0) hx hb hr hlocks rfl rfl hP hD hS (Nat.le_of_ble_eq_true rfl) (Nat.le_of_ble_eq_true rfl) dX12_node_45
set_option maxHeartbeats 4000000 in
set_option maxRecDepth 100000 in
theorem c41_J1_canEncode_9a6ad (l : Launch) (hfl : l.stackTraces = false) (D : va_G) (cA : Nat → ClassId) (g : gv_T) (p0 : Int32) (k0 : ¬ p0 < 0) (k1 : ¬ 255 < p0) : CT l yJ1_canEncode_9a6ad cJ1_canEncode_9a6ad 1 (some .boolean) (RM 0 0 0 0) D cA g [.int p0] [] (fun q => some (.int 1)) (fun q => []) := by
  refine CT.of (by decide +kernel) (Nat.le_of_ble_eq_true rfl) ?_
  intro p e s m args below meth c A ls hx hb hr hml hown hG hlocks hnm hA hS hP hK hD hGV hl
  have hown : s.vm.findClass RJ1 = some m.cls := hown
  have hl : lv_has ls 1 [(0, .int p0)] := hl
  have hSF : CF p m c cJ1_canEncode_9a6ad 1 s args RJ1 := ⟨hx, hb, hml, hown, hG⟩
  refine lv_iload_n hx hb dJ1_canEncode_9a6ad_0 rfl (lv_at hl 0 rfl) ?_
  refine k_if_lt_f (tgt := 15) hx hb dJ1_canEncode_9a6ad_1 k0 (by decide) ?_
  refine lv_iload_n hx hb dJ1_canEncode_9a6ad_4 rfl (lv_at hl 0 rfl) ?_
  refine lv_sipush (v := 255) hx hb dJ1_canEncode_9a6ad_5 (by decide) ?_
  refine k_icmp_gt_f (tgt := 15) hx hb dJ1_canEncode_9a6ad_8 k1 (by decide) ?_
  refine lv_iconst (v := 1) hx hb dJ1_canEncode_9a6ad_11 (by decide) ?_
  refine lv_goto (tgt := 16) hx hb dJ1_canEncode_9a6ad_12 (by decide) ?_
  exact e_i (fun _ => 0) hx hb hr hlocks rfl rfl hP hD hS (Nat.le_of_ble_eq_true rfl) (Nat.le_of_ble_eq_true rfl) dJ1_canEncode_9a6ad_16
set_option maxHeartbeats 4000000 in
set_option maxRecDepth 100000 in
theorem c42_J1_indexOfChar_4cfef (l : Launch) (hfl : l.stackTraces = false) (D : va_G) (cA : Nat → ClassId) (g : gv_T) (p0 : Int32) (k0 : ¬ 45 = (p0).toInt8.toInt32) (k1 : ¬ 112 = (p0).toInt8.toInt32) (k2 : ¬ 114 = (p0).toInt8.toInt32) : CT l yJ1_indexOfChar_4cfef cJ1_indexOfChar_4cfef 6 (some .int) (RM 0 0 0 0) D cA g [.ref g.2.2, .int p0, .int 0, .int 3] [] (fun q => some (.int (-1))) (fun q => []) := by
  refine CT.of (by decide +kernel) (Nat.le_of_ble_eq_true rfl) ?_
  intro p e s m args below meth c A ls hx hb hr hml hown hG hlocks hnm hA hS hP hK hD hGV hl
  have hown : s.vm.findClass RJ1 = some m.cls := hown
  have hl : lv_has ls 6 [(0, .ref g.2.2), (1, .int p0), (2, .int 0), (3, .int 3)] := hl
  have hSF : CF p m c cJ1_indexOfChar_4cfef 6 s args RJ1 := ⟨hx, hb, hml, hown, hG⟩
  refine lv_iload_n hx hb dJ1_indexOfChar_4cfef_0 rfl (lv_at hl 1 rfl) ?_
  refine lv_i2b (v := (p0).toInt8.toInt32) hx hb dJ1_indexOfChar_4cfef_1 rfl ?_
  refine lv_istore (lv' := [(4, .int ((p0).toInt8.toInt32)), (0, .ref g.2.2), (1, .int p0), (2, .int 0), (3, .int 3)]) hx hb dJ1_indexOfChar_4cfef_2 hl (by decide) rfl (fun ls hl => ?_)
  refine lv_iload_n hx hb dJ1_indexOfChar_4cfef_4 rfl (lv_at hl 3 rfl) ?_
  refine lv_istore (lv' := [(5, .int 0), (4, .int ((p0).toInt8.toInt32)), (0, .ref g.2.2), (1, .int p0), (2, .int 0), (3, .int 3)]) hx hb dJ1_indexOfChar_4cfef_5 hl (by decide) rfl (fun ls hl => ?_)
  refine lv_iload hx hb dJ1_indexOfChar_4cfef_7 (lv_at hl 0 rfl) ?_
  refine lv_iload_n hx hb dJ1_indexOfChar_4cfef_9 rfl (lv_at hl 5 rfl) ?_
  refine k_icmp_ge_f (tgt := 31) hx hb dJ1_indexOfChar_4cfef_10 (by decide) (by decide) ?_
  refine lv_aload_n hx hb dJ1_indexOfChar_4cfef_13 rfl (lv_at hl 2 rfl) ?_
  refine lv_iload hx hb dJ1_indexOfChar_4cfef_14 (lv_at hl 0 rfl) ?_
  refine k_sld (v := 45) hx hb hGV hS (by unfold vp_in; decide) rfl dJ1_indexOfChar_4cfef_16 ?_
  refine lv_iload hx hb dJ1_indexOfChar_4cfef_17 (lv_at hl 1 rfl) ?_
  refine k_icmp_ne_t (tgt := 25) hx hb dJ1_indexOfChar_4cfef_19 k0 (by decide) ?_
  refine lv_iinc (v := 1) (lv' := [(5, .int 1), (4, .int ((p0).toInt8.toInt32)), (0, .ref g.2.2), (1, .int p0), (2, .int 0), (3, .int 3)]) hx hb dJ1_indexOfChar_4cfef_25 hl (k := 0) rfl (by decide) (by decide) rfl (fun ls hl => ?_)
  refine lv_goto (tgt := 7) hx hb dJ1_indexOfChar_4cfef_28 (by decide) ?_
  refine lv_iload hx hb dJ1_indexOfChar_4cfef_7 (lv_at hl 0 rfl) ?_
  refine lv_iload_n hx hb dJ1_indexOfChar_4cfef_9 rfl (lv_at hl 5 rfl) ?_
  refine k_icmp_ge_f (tgt := 31) hx hb dJ1_indexOfChar_4cfef_10 (by decide) (by decide) ?_
  refine lv_aload_n hx hb dJ1_indexOfChar_4cfef_13 rfl (lv_at hl 2 rfl) ?_
  refine lv_iload hx hb dJ1_indexOfChar_4cfef_14 (lv_at hl 0 rfl) ?_
  refine k_sld (v := 112) hx hb hGV hS (by unfold vp_in; decide) rfl dJ1_indexOfChar_4cfef_16 ?_
  refine lv_iload hx hb dJ1_indexOfChar_4cfef_17 (lv_at hl 1 rfl) ?_
  refine k_icmp_ne_t (tgt := 25) hx hb dJ1_indexOfChar_4cfef_19 k1 (by decide) ?_
  refine lv_iinc (v := 2) (lv' := [(5, .int 2), (4, .int ((p0).toInt8.toInt32)), (0, .ref g.2.2), (1, .int p0), (2, .int 0), (3, .int 3)]) hx hb dJ1_indexOfChar_4cfef_25 hl (k := 0) rfl (by decide) (by decide) rfl (fun ls hl => ?_)
  refine lv_goto (tgt := 7) hx hb dJ1_indexOfChar_4cfef_28 (by decide) ?_
  refine lv_iload hx hb dJ1_indexOfChar_4cfef_7 (lv_at hl 0 rfl) ?_
  refine lv_iload_n hx hb dJ1_indexOfChar_4cfef_9 rfl (lv_at hl 5 rfl) ?_
  refine k_icmp_ge_f (tgt := 31) hx hb dJ1_indexOfChar_4cfef_10 (by decide) (by decide) ?_
  refine lv_aload_n hx hb dJ1_indexOfChar_4cfef_13 rfl (lv_at hl 2 rfl) ?_
  refine lv_iload hx hb dJ1_indexOfChar_4cfef_14 (lv_at hl 0 rfl) ?_
  refine k_sld (v := 114) hx hb hGV hS (by unfold vp_in; decide) rfl dJ1_indexOfChar_4cfef_16 ?_
  refine lv_iload hx hb dJ1_indexOfChar_4cfef_17 (lv_at hl 1 rfl) ?_
  refine k_icmp_ne_t (tgt := 25) hx hb dJ1_indexOfChar_4cfef_19 k2 (by decide) ?_
  refine lv_iinc (v := 3) (lv' := [(5, .int 3), (4, .int ((p0).toInt8.toInt32)), (0, .ref g.2.2), (1, .int p0), (2, .int 0), (3, .int 3)]) hx hb dJ1_indexOfChar_4cfef_25 hl (k := 0) rfl (by decide) (by decide) rfl (fun ls hl => ?_)
  refine lv_goto (tgt := 7) hx hb dJ1_indexOfChar_4cfef_28 (by decide) ?_
  refine lv_iload hx hb dJ1_indexOfChar_4cfef_7 (lv_at hl 0 rfl) ?_
  refine lv_iload_n hx hb dJ1_indexOfChar_4cfef_9 rfl (lv_at hl 5 rfl) ?_
  refine k_icmp_ge_t (tgt := 31) hx hb dJ1_indexOfChar_4cfef_10 (by decide) (by decide) ?_
  refine lv_iconst (v := (-1)) hx hb dJ1_indexOfChar_4cfef_31 (by decide) ?_
  exact e_i (fun _ => 0) hx hb hr hlocks rfl rfl hP hD hS (Nat.le_of_ble_eq_true rfl) (Nat.le_of_ble_eq_true rfl) dJ1_indexOfChar_4cfef_32
set_option maxHeartbeats 4000000 in
set_option maxRecDepth 100000 in
theorem c43_J1_indexOf_4cfef (l : Launch) (hfl : l.stackTraces = false) (D : va_G) (cA : Nat → ClassId) (g : gv_T) (p0 : Int32) (k0 : ¬ p0 < 0) (k1 : ¬ 255 < p0) (k2 : ¬ 45 = (p0).toInt8.toInt32) (k3 : ¬ 112 = (p0).toInt8.toInt32) (k4 : ¬ 114 = (p0).toInt8.toInt32) : CT l yJ1_indexOf_4cfef cJ1_indexOf_4cfef 4 (some .int) (RM 1 0 0 30) D cA g [.ref g.2.2, .int p0, .int 0, .int 3] [] (fun q => some (.int (-1))) (fun q => []) := by
  refine CT.of (by decide +kernel) (Nat.le_of_ble_eq_true rfl) ?_
  intro p e s m args below meth c A ls hx hb hr hml hown hG hlocks hnm hA hS hP hK hD hGV hl
  have hown : s.vm.findClass RJ1 = some m.cls := hown
  have hl : lv_has ls 4 [(0, .ref g.2.2), (1, .int p0), (2, .int 0), (3, .int 3)] := hl
  have hSF : CF p m c cJ1_indexOf_4cfef 4 s args RJ1 := ⟨hx, hb, hml, hown, hG⟩
  refine lv_iload_n hx hb dJ1_indexOf_4cfef_0 rfl (lv_at hl 1 rfl) ?_
  refine ct_S (wr := []) hSF hl.1 hP hD hS hA hK hGV (c41_J1_canEncode_9a6ad l hfl D cA g (p0) k0 k1) goS_J1_88 pd_J1_canEncode_9a6ad.2 ⟨(Nat.le_of_ble_eq_true rfl), (Nat.le_of_ble_eq_true rfl)⟩ ⟨(Nat.le_of_ble_eq_true rfl), (Nat.le_of_ble_eq_true rfl)⟩ dJ1_indexOf_4cfef_1 rfl (Nat.le_of_ble_eq_true rfl) [] [] rfl (by decide) rfl (by decide) (by decide) (fun q => []) (fun _ => rfl) (fun q1 H locs hP hD hS => ?_)
  refine W.eq (g2 := F0 m 4 ls [.int 1]) rfl ?_
  refine k_if_ne_t (tgt := 9) hx hb dJ1_indexOf_4cfef_4 (by decide) (by decide) ?_
  refine lv_iload_n hx hb dJ1_indexOf_4cfef_9 rfl (lv_at hl 2 rfl) ?_
  refine lv_iconst (v := 0) hx hb dJ1_indexOf_4cfef_10 (by decide) ?_
  refine k_mmax (v := 0) hx hb (hml.trans hl.1.symm) hown (hG _ gw610) (hG _ gw611) (hG _ gw88) (hG _ gw612) (Nat.le_of_ble_eq_true rfl) (Nat.le_of_ble_eq_true rfl) (Nat.le_of_ble_eq_true rfl) (Nat.le_of_ble_eq_true rfl) dJ1_indexOf_4cfef_11 (by decide +kernel) ?_
  refine lv_istore_n (lv' := [(2, .int 0), (0, .ref g.2.2), (1, .int p0), (3, .int 3)]) hx hb dJ1_indexOf_4cfef_14 rfl hl (by decide) rfl (fun ls hl => ?_)
  refine lv_iload_n hx hb dJ1_indexOf_4cfef_15 rfl (lv_at hl 3 rfl) ?_
  refine lv_aload_n hx hb dJ1_indexOf_4cfef_16 rfl (lv_at hl 1 rfl) ?_
  refine k_slen hx hb hGV hS dJ1_indexOf_4cfef_17 ?_
  refine k_mmin (v := 3) hx hb (hml.trans hl.1.symm) hown (hG _ gw613) (hG _ gw614) (hG _ gw88) (hG _ gw615) (Nat.le_of_ble_eq_true rfl) (Nat.le_of_ble_eq_true rfl) (Nat.le_of_ble_eq_true rfl) (Nat.le_of_ble_eq_true rfl) dJ1_indexOf_4cfef_18 (by decide +kernel) ?_
  refine lv_istore_n (lv' := [(3, .int 3), (2, .int 0), (0, .ref g.2.2), (1, .int p0)]) hx hb dJ1_indexOf_4cfef_21 rfl hl (by decide) rfl (fun ls hl => ?_)
  refine lv_iload_n hx hb dJ1_indexOf_4cfef_22 rfl (lv_at hl 1 rfl) ?_
  refine lv_iload_n hx hb dJ1_indexOf_4cfef_23 rfl (lv_at hl 0 rfl) ?_
  refine k_icmp_lt_t (tgt := 29) hx hb dJ1_indexOf_4cfef_24 (by decide) (by decide) ?_
  refine lv_aload_n hx hb dJ1_indexOf_4cfef_29 rfl (lv_at hl 2 rfl) ?_
  refine lv_iload_n hx hb dJ1_indexOf_4cfef_30 rfl (lv_at hl 3 rfl) ?_
  refine lv_iload_n hx hb dJ1_indexOf_4cfef_31 rfl (lv_at hl 1 rfl) ?_
  refine lv_iload_n hx hb dJ1_indexOf_4cfef_32 rfl (lv_at hl 0 rfl) ?_
  refine ct_S (wr := []) hSF hl.1 hP hD hS hA hK hGV (c42_J1_indexOfChar_4cfef l hfl D cA g (p0) k2 k3 k4) goS_J1_95 pd_J1_indexOfChar_4cfef.2 ⟨(Nat.le_of_ble_eq_true rfl), (Nat.le_of_ble_eq_true rfl)⟩ ⟨(Nat.le_of_ble_eq_true rfl), (Nat.le_of_ble_eq_true rfl)⟩ dJ1_indexOf_4cfef_33 rfl (Nat.le_of_ble_eq_true rfl) [] [] rfl (by decide) rfl (by decide) (by decide) (fun q => []) (fun _ => rfl) (fun q2 H locs hP hD hS => ?_)
  refine W.eq (g2 := F0 m 36 ls [.int (-1)]) rfl ?_
  exact e_i (fun _ => 0) hx hb hr hlocks rfl rfl hP hD hS (Nat.le_of_ble_eq_true rfl) (Nat.le_of_ble_eq_true rfl) dJ1_indexOf_4cfef_36
set_option maxHeartbeats 4000000 in
set_option maxRecDepth 100000 in
theorem c44_J0_indexOf_7cf53 (l : Launch) (hfl : l.stackTraces = false) (D : va_G) (cA : Nat → ClassId) (g : gv_T) (p0 : Int32) (k0 : ¬ p0 < 0) (k1 : ¬ 255 < p0) (k2 : ¬ 45 = (p0).toInt8.toInt32) (k3 : ¬ 112 = (p0).toInt8.toInt32) (k4 : ¬ 114 = (p0).toInt8.toInt32) : CT l yJ0_indexOf_7cf53 cJ0_indexOf_7cf53 3 (some .int) (RM 2 0 0 53) D cA g [.ref (g.2.1 0), .int p0, .int 0] [] (fun q => some (.int (-1))) (fun q => []) := by
  refine CT.of (by decide +kernel) (Nat.le_of_ble_eq_true rfl) ?_
  intro p e s m args below meth c A ls hx hb hr hml hown hG hlocks hnm hA hS hP hK hD hGV hl
  have hown : s.vm.findClass RJ0 = some m.cls := hown
  have hl : lv_has ls 3 [(0, .ref (g.2.1 0)), (1, .int p0), (2, .int 0)] := hl
  have hSF : CF p m c cJ0_indexOf_7cf53 3 s args RJ0 := ⟨hx, hb, hml, hown, hG⟩
  refine lv_aload_n hx hb dJ0_indexOf_7cf53_0 rfl (lv_at hl 0 rfl) ?_
  refine ct_V (wr := []) hSF hl.1 hP hD hS hA hK hGV (c31_J0_isLatin1_aae02 l hfl D cA g) goV_J0_492 pd_J0_isLatin1_aae02 ⟨(Nat.le_of_ble_eq_true rfl), (Nat.le_of_ble_eq_true rfl)⟩ ⟨(Nat.le_of_ble_eq_true rfl), (Nat.le_of_ble_eq_true rfl)⟩ (vk_recv (N := 1) (adK := fun _ => g.2.1 0) (i := 0) hGV.2.2.1.2 (by decide) hS) dJ0_indexOf_7cf53_1 rfl (Nat.le_of_ble_eq_true rfl) [] [] rfl (by decide) rfl (by decide) (by decide) (fun q => []) (fun _ => rfl) (fun q1 H locs hP hD hS => ?_)
  refine W.eq (g2 := F0 m 4 ls [.int 1]) rfl ?_
  refine k_if_eq_f (tgt := 23) hx hb dJ0_indexOf_7cf53_4 (by decide) (by decide) ?_
  refine lv_aload_n hx hb dJ0_indexOf_7cf53_7 rfl (lv_at hl 0 rfl) ?_
  refine k_svalue hx hb hG hGV hS hown gw1891 dJ0_indexOf_7cf53_8 ?_
  refine lv_iload_n hx hb dJ0_indexOf_7cf53_11 rfl (lv_at hl 1 rfl) ?_
  refine lv_iload_n hx hb dJ0_indexOf_7cf53_12 rfl (lv_at hl 2 rfl) ?_
  refine lv_aload_n hx hb dJ0_indexOf_7cf53_13 rfl (lv_at hl 0 rfl) ?_
  refine ct_V (wr := []) hSF hl.1 hP hD hS hA hK hGV (c33_J0_length_8abf5 l hfl D cA g) goV_J0_505 pd_J0_length_8abf5 ⟨(Nat.le_of_ble_eq_true rfl), (Nat.le_of_ble_eq_true rfl)⟩ ⟨(Nat.le_of_ble_eq_true rfl), (Nat.le_of_ble_eq_true rfl)⟩ (vk_recv (N := 1) (adK := fun _ => g.2.1 0) (i := 0) hGV.2.2.1.2 (by decide) hS) dJ0_indexOf_7cf53_14 rfl (Nat.le_of_ble_eq_true rfl) [] [] rfl (by decide) rfl (by decide) (by decide) (fun q => []) (fun _ => rfl) (fun q2 H locs hP hD hS => ?_)
  refine W.eq (g2 := F0 m 17 ls [.int 3, .int 0, .int p0, .ref g.2.2]) rfl ?_
  refine ct_S (wr := []) hSF hl.1 hP hD hS hA hK hGV (c43_J1_indexOf_4cfef l hfl D cA g (p0) k0 k1 k2 k3 k4) goS_J0_637 pd_J1_indexOf_4cfef.2 ⟨(Nat.le_of_ble_eq_true rfl), (Nat.le_of_ble_eq_true rfl)⟩ ⟨(Nat.le_of_ble_eq_true rfl), (Nat.le_of_ble_eq_true rfl)⟩ dJ0_indexOf_7cf53_17 rfl (Nat.le_of_ble_eq_true rfl) [] [] rfl (by decide) rfl (by decide) (by decide) (fun q => []) (fun _ => rfl) (fun q3 H locs hP hD hS => ?_)
  refine W.eq (g2 := F0 m 20 ls [.int (-1)]) rfl ?_
  refine lv_goto (tgt := 36) hx hb dJ0_indexOf_7cf53_20 (by decide) ?_
  exact e_i (fun _ => 0) hx hb hr hlocks rfl rfl hP hD hS (Nat.le_of_ble_eq_true rfl) (Nat.le_of_ble_eq_true rfl) dJ0_indexOf_7cf53_36
set_option maxHeartbeats 4000000 in
set_option maxRecDepth 100000 in
theorem c45_J0_indexOf_0f7a4 (l : Launch) (hfl : l.stackTraces = false) (D : va_G) (cA : Nat → ClassId) (g : gv_T) (p0 : Int32) (k0 : ¬ p0 < 0) (k1 : ¬ 255 < p0) (k2 : ¬ 45 = (p0).toInt8.toInt32) (k3 : ¬ 112 = (p0).toInt8.toInt32) (k4 : ¬ 114 = (p0).toInt8.toInt32) : CT l yJ0_indexOf_0f7a4 cJ0_indexOf_0f7a4 2 (some .int) (RM 3 0 0 75) D cA g [.ref (g.2.1 0), .int p0] [] (fun q => some (.int (-1))) (fun q => []) := by
  refine CT.of (by decide +kernel) (Nat.le_of_ble_eq_true rfl) ?_
  intro p e s m args below meth c A ls hx hb hr hml hown hG hlocks hnm hA hS hP hK hD hGV hl
  have hown : s.vm.findClass RJ0 = some m.cls := hown
  have hl : lv_has ls 2 [(0, .ref (g.2.1 0)), (1, .int p0)] := hl
  have hSF : CF p m c cJ0_indexOf_0f7a4 2 s args RJ0 := ⟨hx, hb, hml, hown, hG⟩
  refine lv_aload_n hx hb dJ0_indexOf_0f7a4_0 rfl (lv_at hl 0 rfl) ?_
  refine lv_iload_n hx hb dJ0_indexOf_0f7a4_1 rfl (lv_at hl 1 rfl) ?_
  refine lv_iconst (v := 0) hx hb dJ0_indexOf_0f7a4_2 (by decide) ?_
  refine ct_V (wr := []) hSF hl.1 hP hD hS hA hK hGV (c44_J0_indexOf_7cf53 l hfl D cA g (p0) k0 k1 k2 k3 k4) goV_J0_633 pd_J0_indexOf_7cf53 ⟨(Nat.le_of_ble_eq_true rfl), (Nat.le_of_ble_eq_true rfl)⟩ ⟨(Nat.le_of_ble_eq_true rfl), (Nat.le_of_ble_eq_true rfl)⟩ (vk_recv (N := 1) (adK := fun _ => g.2.1 0) (i := 0) hGV.2.2.1.2 (by decide) hS) dJ0_indexOf_0f7a4_3 rfl (Nat.le_of_ble_eq_true rfl) [] [] rfl (by decide) rfl (by decide) (by decide) (fun q => []) (fun _ => rfl) (fun q1 H locs hP hD hS => ?_)
  refine W.eq (g2 := F0 m 6 ls [.int (-1)]) rfl ?_
  exact e_i (fun _ => 0) hx hb hr hlocks rfl rfl hP hD hS (Nat.le_of_ble_eq_true rfl) (Nat.le_of_ble_eq_true rfl) dJ0_indexOf_0f7a4_6
set_option maxHeartbeats 4000000 in
set_option maxRecDepth 100000 in
theorem c46_X6_node (l : Launch) (hfl : l.stackTraces = false) (D : va_G) (cA : Nat → ClassId) (g : gv_T) (h0 : Nat) (p0 : Int32) (p1 : Int32) (p2 : Int32) (k0 : ¬ p0 < 0) (k1 : ¬ 30 < p0) (k2 : ¬ p1 < 0) (k3 : ¬ 30 < p1) (k4 : ¬ p2 < 0) (k5 : ¬ 255 < p2) (k6 : ¬ 45 = (p2).toInt8.toInt32) (k7 : ¬ 112 = (p2).toInt8.toInt32) (k8 : ¬ 114 = (p2).toInt8.toInt32) : CX l yX6_node cX6_node 4 (some .int) (RM 6 1 6 96) D cA g [.ref h0, .int p0, .int p1, .int p2] [] "java/lang/IllegalArgumentException" (fun q => []) := by
  refine CX.of (by decide +kernel) (Nat.le_of_ble_eq_true rfl) ?_
  intro p e s m args below meth c A ls hx hb hr hml hown hG hlocks htab hA hS hP hK hD hGV hl
  have hown : s.vm.findClass RX6 = some m.cls := hown
  have hl : lv_has ls 4 [(0, .ref h0), (1, .int p0), (2, .int p1), (3, .int p2)] := hl
  have hSF : CF p m c cX6_node 4 s args RX6 := ⟨hx, hb, hml, hown, hG⟩
  refine lv_iload_n hx hb dX6_node_0 rfl (lv_at hl 1 rfl) ?_
  refine lv_iconst (v := 0) hx hb dX6_node_1 (by decide) ?_
  refine lv_bipush (v := 30) hx hb dX6_node_2 (by decide) ?_
  refine ct_S (wr := []) hSF hl.1 hP hD hS hA hK hGV (c23_X6_isWithin l hfl D cA g (p0) k0 k1) goS_X6_44 pd_X6_isWithin.2 ⟨(Nat.le_of_ble_eq_true rfl), (Nat.le_of_ble_eq_true rfl)⟩ ⟨(Nat.le_of_ble_eq_true rfl), (Nat.le_of_ble_eq_true rfl)⟩ dX6_node_4 rfl (Nat.le_of_ble_eq_true rfl) [] [] rfl (by decide) rfl (by decide) (by decide) (fun q => []) (fun _ => rfl) (fun q1 H locs hP hD hS => ?_)
  refine W.eq (g2 := F0 m 7 ls [.int 1]) rfl ?_
  refine k_if_eq_f (tgt := 29) hx hb dX6_node_7 (by decide) (by decide) ?_
  refine lv_iload_n hx hb dX6_node_10 rfl (lv_at hl 2 rfl) ?_
  refine lv_iconst (v := 0) hx hb dX6_node_11 (by decide) ?_
  refine lv_bipush (v := 30) hx hb dX6_node_12 (by decide) ?_
  refine ct_S (wr := []) hSF hl.1 hP hD hS hA hK hGV (c23_X6_isWithin l hfl D cA g (p1) k2 k3) goS_X6_44 pd_X6_isWithin.2 ⟨(Nat.le_of_ble_eq_true rfl), (Nat.le_of_ble_eq_true rfl)⟩ ⟨(Nat.le_of_ble_eq_true rfl), (Nat.le_of_ble_eq_true rfl)⟩ dX6_node_14 rfl (Nat.le_of_ble_eq_true rfl) [] [] rfl (by decide) rfl (by decide) (by decide) (fun q => []) (fun _ => rfl) (fun q2 H locs hP hD hS => ?_)
  refine W.eq (g2 := F0 m 17 ls [.int 1]) rfl ?_
  refine k_if_eq_f (tgt := 29) hx hb dX6_node_17 (by decide) (by decide) ?_
  refine k_ldcS hx hb hGV 0 rfl hown dX6_node_20 ?_
  refine lv_iload_n hx hb dX6_node_22 rfl (lv_at hl 3 rfl) ?_
  refine ct_V (wr := []) hSF hl.1 hP hD hS hA hK hGV (c45_J0_indexOf_0f7a4 l hfl D cA g (p2) k4 k5 k6 k7 k8) goV_X6_50 pd_J0_indexOf_0f7a4 ⟨(Nat.le_of_ble_eq_true rfl), (Nat.le_of_ble_eq_true rfl)⟩ ⟨(Nat.le_of_ble_eq_true rfl), (Nat.le_of_ble_eq_true rfl)⟩ (vk_recv (N := 1) (adK := fun _ => g.2.1 0) (i := 0) hGV.2.2.1.2 (by decide) hS) dX6_node_23 rfl (Nat.le_of_ble_eq_true rfl) [] [] rfl (by decide) rfl (by decide) (by decide) (fun q => []) (fun _ => rfl) (fun q3 H locs hP hD hS => ?_)
  refine W.eq (g2 := F0 m 26 ls [.int (-1)]) rfl ?_
  refine k_if_ge_f (tgt := 39) hx hb dX6_node_26 (by decide) (by decide) ?_
  exact e_throw (fun _ => 0) (names := ["java/lang/RuntimeException", "java/lang/Exception"]) 1 hx hb hfl hown hG hGV htab hlocks (hl.1.trans hml.symm) (by decide +kernel) (by decide +kernel) gw668 gw95 rfl xat_X6_60 hP hD hS dX6_node_29 dX6_node_32 dX6_node_33 dX6_node_35 dX6_node_38 (Nat.le_of_ble_eq_true rfl) (Nat.le_of_ble_eq_true rfl) (Nat.le_of_ble_eq_true rfl) (Nat.le_of_ble_eq_true rfl) (Nat.le_of_ble_eq_true rfl) (Nat.le_of_ble_eq_true rfl)
set_option maxHeartbeats 4000000 in
set_option maxRecDepth 100000 in
theorem c47_L_node (l : Launch) (hfl : l.stackTraces = false) (D : va_G) (cA : Nat → ClassId) (g : gv_T) (h0 h1 h2 h3 h4 h5 h6 : Nat) (p0 : Int32) (p1 : Int32) (p2 : Int32) (k0 : ¬ p0 < 0) (k1 : ¬ 30 < p0) (k2 : ¬ p1 < 0) (k3 : ¬ 30 < p1) (k4 : ¬ p2 < 0) (k5 : ¬ 255 < p2) (k6 : ¬ 45 = (p2).toInt8.toInt32) (k7 : ¬ 112 = (p2).toInt8.toInt32) (k8 : ¬ 114 = (p2).toInt8.toInt32) : CW l yL_node cL_node 6 (some .int) [(0, 12, 15, 13), (0, 12, 19, 15)] (RM 7 1 6 119) D cA g [.ref h0, .int p0, .int p1, .int p2, .ref h1] [(h0, .inr (9, [.ref h2, .ref h3, .ref h4, .ref h5, .ref h6]))] (fun q => some (.int 1)) (fun q => [(h0, .inr (9, [.ref h2, .ref h3, .ref h4, .ref h5, .ref h6]))]) := by
  refine CW.of (by decide +kernel) (Nat.le_of_ble_eq_true rfl) ?_
  intro p e s m args below meth c A ls hx hb hr hml hown hG hlocks htab hA hS hP hK hD hGV hl
  have hown : s.vm.findClass RL = some m.cls := hown
  have hl : lv_has ls 6 [(0, .ref h0), (1, .int p0), (2, .int p1), (3, .int p2), (4, .ref h1)] := hl
  have hSF : CF p m c cL_node 6 s args RL := ⟨hx, hb, hml, hown, hG⟩
  refine lv_aload hx hb dL_node_0 (lv_at hl 4 rfl) ?_
  refine lv_iconst (v := 0) hx hb dL_node_2 (by decide) ?_
  refine lv_aload_n hx hb dL_node_3 rfl (lv_at hl 0 rfl) ?_
  refine lv_iload_n hx hb dL_node_4 rfl (lv_at hl 1 rfl) ?_
  refine lv_iload_n hx hb dL_node_5 rfl (lv_at hl 2 rfl) ?_
  refine lv_iload_n hx hb dL_node_6 rfl (lv_at hl 3 rfl) ?_
  refine cx_V (wr := [(h0, .inr (9, [.ref h2, .ref h3, .ref h4, .ref h5, .ref h6]))]) hSF hl.1 hP hD hS hA hK hGV (c46_X6_node l hfl D cA g h0 (p0) (p1) (p2) k0 k1 k2 k3 k4 k5 k6 k7 k8) goV_L_7 pd_X6_node ⟨(Nat.le_of_ble_eq_true rfl), (Nat.le_of_ble_eq_true rfl)⟩ ⟨(Nat.le_of_ble_eq_true rfl), (Nat.le_of_ble_eq_true rfl)⟩ (va_recv hK hP (ci := 9) (q0 := 0) rfl rfl) dL_node_7 rfl (Nat.le_of_ble_eq_true rfl) [] [0] rfl (by decide) rfl (by decide) (by decide) (fun q => [(h0, .inr (9, [.ref h2, .ref h3, .ref h4, .ref h5, .ref h6]))]) (fun _ => rfl) (fun q1 H locs x9 ce9 hP hD hS h9 hv9 hcl9 => ?_)
  refine vx_catch (own := RL) (name := "java/lang/IllegalArgumentException") hown [] { startPc := 0, endPc := 12, handlerPc := 15, catchType := 13 } [{ startPc := 0, endPc := 12, handlerPc := 19, catchType := 15 }] (htab.trans rfl) (fun z hz => nomatch hz) rfl (by decide) (hG _ gw572) (va_Nw.use rfl (hGV.2.2.2.2.1 _ gw670)) h9 hv9 hcl9 ?_
  refine W.eq (g2 := F0 m 15 ls [.ref x9]) rfl ?_
  refine lv_astore (lv' := [(5, .ref x9), (0, .ref h0), (1, .int p0), (2, .int p1), (3, .int p2), (4, .ref h1)]) hx hb dL_node_15 hl (by decide) rfl (fun ls hl => ?_)
  refine lv_iconst (v := 1) hx hb dL_node_17 (by decide) ?_
  exact e_i (fun _ => 0) hx hb hr hlocks rfl rfl hP hD hS (Nat.le_of_ble_eq_true rfl) (Nat.le_of_ble_eq_true rfl) dL_node_18
set_option maxHeartbeats 4000000 in
set_option maxRecDepth 100000 in
theorem c48_J1_canEncode_9a6ad (l : Launch) (hfl : l.stackTraces = false) (D : va_G) (cA : Nat → ClassId) (g : gv_T) : CT l yJ1_canEncode_9a6ad cJ1_canEncode_9a6ad 1 (some .boolean) (RM 0 0 0 0) D cA g [.int 45] [] (fun q => some (.int 1)) (fun q => []) := by
  refine CT.of (by decide +kernel) (Nat.le_of_ble_eq_true rfl) ?_
  intro p e s m args below meth c A ls hx hb hr hml hown hG hlocks hnm hA hS hP hK hD hGV hl
  have hown : s.vm.findClass RJ1 = some m.cls := hown
  have hl : lv_has ls 1 [(0, .int 45)] := hl
  have hSF : CF p m c cJ1_canEncode_9a6ad 1 s args RJ1 := ⟨hx, hb, hml, hown, hG⟩
  refine lv_iload_n hx hb dJ1_canEncode_9a6ad_0 rfl (lv_at hl 0 rfl) ?_
  refine k_if_lt_f (tgt := 15) hx hb dJ1_canEncode_9a6ad_1 (by decide) (by decide) ?_
  refine lv_iload_n hx hb dJ1_canEncode_9a6ad_4 rfl (lv_at hl 0 rfl) ?_
  refine lv_sipush (v := 255) hx hb dJ1_canEncode_9a6ad_5 (by decide) ?_
  refine k_icmp_gt_f (tgt := 15) hx hb dJ1_canEncode_9a6ad_8 (by decide) (by decide) ?_
  refine lv_iconst (v := 1) hx hb dJ1_canEncode_9a6ad_11 (by decide) ?_
  refine lv_goto (tgt := 16) hx hb dJ1_canEncode_9a6ad_12 (by decide) ?_
  exact e_i (fun _ => 0) hx hb hr hlocks rfl rfl hP hD hS (Nat.le_of_ble_eq_true rfl) (Nat.le_of_ble_eq_true rfl) dJ1_canEncode_9a6ad_16
set_option maxHeartbeats 4000000 in
set_option maxRecDepth 100000 in
theorem c49_J1_indexOfChar_4cfef (l : Launch) (hfl : l.stackTraces = false) (D : va_G) (cA : Nat → ClassId) (g : gv_T) : CT l yJ1_indexOfChar_4cfef cJ1_indexOfChar_4cfef 6 (some .int) (RM 0 0 0 0) D cA g [.ref g.2.2, .int 45, .int 0, .int 3] [] (fun q => some (.int 0)) (fun q => []) := by
  refine CT.of (by decide +kernel) (Nat.le_of_ble_eq_true rfl) ?_
  intro p e s m args below meth c A ls hx hb hr hml hown hG hlocks hnm hA hS hP hK hD hGV hl
  have hown : s.vm.findClass RJ1 = some m.cls := hown
  have hl : lv_has ls 6 [(0, .ref g.2.2), (1, .int 45), (2, .int 0), (3, .int 3)] := hl
  have hSF : CF p m c cJ1_indexOfChar_4cfef 6 s args RJ1 := ⟨hx, hb, hml, hown, hG⟩
  refine lv_iload_n hx hb dJ1_indexOfChar_4cfef_0 rfl (lv_at hl 1 rfl) ?_
  refine lv_i2b (v := 45) hx hb dJ1_indexOfChar_4cfef_1 (by decide +kernel) ?_
  refine lv_istore (lv' := [(4, .int 45), (0, .ref g.2.2), (1, .int 45), (2, .int 0), (3, .int 3)]) hx hb dJ1_indexOfChar_4cfef_2 hl (by decide) rfl (fun ls hl => ?_)
  refine lv_iload_n hx hb dJ1_indexOfChar_4cfef_4 rfl (lv_at hl 3 rfl) ?_
  refine lv_istore (lv' := [(5, .int 0), (4, .int 45), (0, .ref g.2.2), (1, .int 45), (2, .int 0), (3, .int 3)]) hx hb dJ1_indexOfChar_4cfef_5 hl (by decide) rfl (fun ls hl => ?_)
  refine lv_iload hx hb dJ1_indexOfChar_4cfef_7 (lv_at hl 0 rfl) ?_
  refine lv_iload_n hx hb dJ1_indexOfChar_4cfef_9 rfl (lv_at hl 5 rfl) ?_
  refine k_icmp_ge_f (tgt := 31) hx hb dJ1_indexOfChar_4cfef_10 (by decide) (by decide) ?_
  refine lv_aload_n hx hb dJ1_indexOfChar_4cfef_13 rfl (lv_at hl 2 rfl) ?_
  refine lv_iload hx hb dJ1_indexOfChar_4cfef_14 (lv_at hl 0 rfl) ?_
  refine k_sld (v := 45) hx hb hGV hS (by unfold vp_in; decide) rfl dJ1_indexOfChar_4cfef_16 ?_
  refine lv_iload hx hb dJ1_indexOfChar_4cfef_17 (lv_at hl 1 rfl) ?_
  refine k_icmp_ne_f (tgt := 25) hx hb dJ1_indexOfChar_4cfef_19 (by decide) (by decide) ?_
  refine lv_iload hx hb dJ1_indexOfChar_4cfef_22 (lv_at hl 0 rfl) ?_
  exact e_i (fun _ => 0) hx hb hr hlocks rfl rfl hP hD hS (Nat.le_of_ble_eq_true rfl) (Nat.le_of_ble_eq_true rfl) dJ1_indexOfChar_4cfef_24
set_option maxHeartbeats 4000000 in
set_option maxRecDepth 100000 in
theorem c50_J1_indexOf_4cfef (l : Launch) (hfl : l.stackTraces = false) (D : va_G) (cA : Nat → ClassId) (g : gv_T) : CT l yJ1_indexOf_4cfef cJ1_indexOf_4cfef 4 (some .int) (RM 1 0 0 30) D cA g [.ref g.2.2, .int 45, .int 0, .int 3] [] (fun q => some (.int 0)) (fun q => []) := by
  refine CT.of (by decide +kernel) (Nat.le_of_ble_eq_true rfl) ?_
  intro p e s m args below meth c A ls hx hb hr hml hown hG hlocks hnm hA hS hP hK hD hGV hl
  have hown : s.vm.findClass RJ1 = some m.cls := hown
  have hl : lv_has ls 4 [(0, .ref g.2.2), (1, .int 45), (2, .int 0), (3, .int 3)] := hl
  have hSF : CF p m c cJ1_indexOf_4cfef 4 s args RJ1 := ⟨hx, hb, hml, hown, hG⟩
  refine lv_iload_n hx hb dJ1_indexOf_4cfef_0 rfl (lv_at hl 1 rfl) ?_
  refine ct_S (wr := []) hSF hl.1 hP hD hS hA hK hGV (c48_J1_canEncode_9a6ad l hfl D cA g) goS_J1_88 pd_J1_canEncode_9a6ad.2 ⟨(Nat.le_of_ble_eq_true rfl), (Nat.le_of_ble_eq_true rfl)⟩ ⟨(Nat.le_of_ble_eq_true rfl), (Nat.le_of_ble_eq_true rfl)⟩ dJ1_indexOf_4cfef_1 rfl (Nat.le_of_ble_eq_true rfl) [] [] rfl (by decide) rfl (by decide) (by decide) (fun q => []) (fun _ => rfl) (fun q1 H locs hP hD hS => ?_)
  refine W.eq (g2 := F0 m 4 ls [.int 1]) rfl ?_
  refine k_if_ne_t (tgt := 9) hx hb dJ1_indexOf_4cfef_4 (by decide) (by decide) ?_
  refine lv_iload_n hx hb dJ1_indexOf_4cfef_9 rfl (lv_at hl 2 rfl) ?_
  refine lv_iconst (v := 0) hx hb dJ1_indexOf_4cfef_10 (by decide) ?_
  refine k_mmax (v := 0) hx hb (hml.trans hl.1.symm) hown (hG _ gw610) (hG _ gw611) (hG _ gw88) (hG _ gw612) (Nat.le_of_ble_eq_true rfl) (Nat.le_of_ble_eq_true rfl) (Nat.le_of_ble_eq_true rfl) (Nat.le_of_ble_eq_true rfl) dJ1_indexOf_4cfef_11 (by decide +kernel) ?_
  refine lv_istore_n (lv' := [(2, .int 0), (0, .ref g.2.2), (1, .int 45), (3, .int 3)]) hx hb dJ1_indexOf_4cfef_14 rfl hl (by decide) rfl (fun ls hl => ?_)
  refine lv_iload_n hx hb dJ1_indexOf_4cfef_15 rfl (lv_at hl 3 rfl) ?_
  refine lv_aload_n hx hb dJ1_indexOf_4cfef_16 rfl (lv_at hl 1 rfl) ?_
  refine k_slen hx hb hGV hS dJ1_indexOf_4cfef_17 ?_
  refine k_mmin (v := 3) hx hb (hml.trans hl.1.symm) hown (hG _ gw613) (hG _ gw614) (hG _ gw88) (hG _ gw615) (Nat.le_of_ble_eq_true rfl) (Nat.le_of_ble_eq_true rfl) (Nat.le_of_ble_eq_true rfl) (Nat.le_of_ble_eq_true rfl) dJ1_indexOf_4cfef_18 (by decide +kernel) ?_
  refine lv_istore_n (lv' := [(3, .int 3), (2, .int 0), (0, .ref g.2.2), (1, .int 45)]) hx hb dJ1_indexOf_4cfef_21 rfl hl (by decide) rfl (fun ls hl => ?_)
  refine lv_iload_n hx hb dJ1_indexOf_4cfef_22 rfl (lv_at hl 1 rfl) ?_
  refine lv_iload_n hx hb dJ1_indexOf_4cfef_23 rfl (lv_at hl 0 rfl) ?_
  refine k_icmp_lt_t (tgt := 29) hx hb dJ1_indexOf_4cfef_24 (by decide) (by decide) ?_
  refine lv_aload_n hx hb dJ1_indexOf_4cfef_29 rfl (lv_at hl 2 rfl) ?_
  refine lv_iload_n hx hb dJ1_indexOf_4cfef_30 rfl (lv_at hl 3 rfl) ?_
  refine lv_iload_n hx hb dJ1_indexOf_4cfef_31 rfl (lv_at hl 1 rfl) ?_
  refine lv_iload_n hx hb dJ1_indexOf_4cfef_32 rfl (lv_at hl 0 rfl) ?_
  refine ct_S (wr := []) hSF hl.1 hP hD hS hA hK hGV (c49_J1_indexOfChar_4cfef l hfl D cA g) goS_J1_95 pd_J1_indexOfChar_4cfef.2 ⟨(Nat.le_of_ble_eq_true rfl), (Nat.le_of_ble_eq_true rfl)⟩ ⟨(Nat.le_of_ble_eq_true rfl), (Nat.le_of_ble_eq_true rfl)⟩ dJ1_indexOf_4cfef_33 rfl (Nat.le_of_ble_eq_true rfl) [] [] rfl (by decide) rfl (by decide) (by decide) (fun q => []) (fun _ => rfl) (fun q2 H locs hP hD hS => ?_)
  refine W.eq (g2 := F0 m 36 ls [.int 0]) rfl ?_
  exact e_i (fun _ => 0) hx hb hr hlocks rfl rfl hP hD hS (Nat.le_of_ble_eq_true rfl) (Nat.le_of_ble_eq_true rfl) dJ1_indexOf_4cfef_36
set_option maxHeartbeats 4000000 in
set_option maxRecDepth 100000 in
theorem c51_J0_indexOf_7cf53 (l : Launch) (hfl : l.stackTraces = false) (D : va_G) (cA : Nat → ClassId) (g : gv_T) : CT l yJ0_indexOf_7cf53 cJ0_indexOf_7cf53 3 (some .int) (RM 2 0 0 53) D cA g [.ref (g.2.1 0), .int 45, .int 0] [] (fun q => some (.int 0)) (fun q => []) := by
  refine CT.of (by decide +kernel) (Nat.le_of_ble_eq_true rfl) ?_
  intro p e s m args below meth c A ls hx hb hr hml hown hG hlocks hnm hA hS hP hK hD hGV hl
  have hown : s.vm.findClass RJ0 = some m.cls := hown
  have hl : lv_has ls 3 [(0, .ref (g.2.1 0)), (1, .int 45), (2, .int 0)] := hl
  have hSF : CF p m c cJ0_indexOf_7cf53 3 s args RJ0 := ⟨hx, hb, hml, hown, hG⟩
  refine lv_aload_n hx hb dJ0_indexOf_7cf53_0 rfl (lv_at hl 0 rfl) ?_
  refine ct_V (wr := []) hSF hl.1 hP hD hS hA hK hGV (c31_J0_isLatin1_aae02 l hfl D cA g) goV_J0_492 pd_J0_isLatin1_aae02 ⟨(Nat.le_of_ble_eq_true rfl), (Nat.le_of_ble_eq_true rfl)⟩ ⟨(Nat.le_of_ble_eq_true rfl), (Nat.le_of_ble_eq_true rfl)⟩ (vk_recv (N := 1) (adK := fun _ => g.2.1 0) (i := 0) hGV.2.2.1.2 (by decide) hS) dJ0_indexOf_7cf53_1 rfl (Nat.le_of_ble_eq_true rfl) [] [] rfl (by decide) rfl (by decide) (by decide) (fun q => []) (fun _ => rfl) (fun q1 H locs hP hD hS => ?_)
  refine W.eq (g2 := F0 m 4 ls [.int 1]) rfl ?_
  refine k_if_eq_f (tgt := 23) hx hb dJ0_indexOf_7cf53_4 (by decide) (by decide) ?_
  refine lv_aload_n hx hb dJ0_indexOf_7cf53_7 rfl (lv_at hl 0 rfl) ?_
  refine k_svalue hx hb hG hGV hS hown gw1891 dJ0_indexOf_7cf53_8 ?_
  refine lv_iload_n hx hb dJ0_indexOf_7cf53_11 rfl (lv_at hl 1 rfl) ?_
  refine lv_iload_n hx hb dJ0_indexOf_7cf53_12 rfl (lv_at hl 2 rfl) ?_
  refine lv_aload_n hx hb dJ0_indexOf_7cf53_13 rfl (lv_at hl 0 rfl) ?_
  refine ct_V (wr := []) hSF hl.1 hP hD hS hA hK hGV (c33_J0_length_8abf5 l hfl D cA g) goV_J0_505 pd_J0_length_8abf5 ⟨(Nat.le_of_ble_eq_true rfl), (Nat.le_of_ble_eq_true rfl)⟩ ⟨(Nat.le_of_ble_eq_true rfl), (Nat.le_of_ble_eq_true rfl)⟩ (vk_recv (N := 1) (adK := fun _ => g.2.1 0) (i := 0) hGV.2.2.1.2 (by decide) hS) dJ0_indexOf_7cf53_14 rfl (Nat.le_of_ble_eq_true rfl) [] [] rfl (by decide) rfl (by decide) (by decide) (fun q => []) (fun _ => rfl) (fun q2 H locs hP hD hS => ?_)
  refine W.eq (g2 := F0 m 17 ls [.int 3, .int 0, .int 45, .ref g.2.2]) rfl ?_
  refine ct_S (wr := []) hSF hl.1 hP hD hS hA hK hGV (c50_J1_indexOf_4cfef l hfl D cA g) goS_J0_637 pd_J1_indexOf_4cfef.2 ⟨(Nat.le_of_ble_eq_true rfl), (Nat.le_of_ble_eq_true rfl)⟩ ⟨(Nat.le_of_ble_eq_true rfl), (Nat.le_of_ble_eq_true rfl)⟩ dJ0_indexOf_7cf53_17 rfl (Nat.le_of_ble_eq_true rfl) [] [] rfl (by decide) rfl (by decide) (by decide) (fun q => []) (fun _ => rfl) (fun q3 H locs hP hD hS => ?_)
  refine W.eq (g2 := F0 m 20 ls [.int 0]) rfl ?_
  refine lv_goto (tgt := 36) hx hb dJ0_indexOf_7cf53_20 (by decide) ?_
  exact e_i (fun _ => 0) hx hb hr hlocks rfl rfl hP hD hS (Nat.le_of_ble_eq_true rfl) (Nat.le_of_ble_eq_true rfl) dJ0_indexOf_7cf53_36
set_option maxHeartbeats 4000000 in
set_option maxRecDepth 100000 in
theorem c52_J0_indexOf_0f7a4 (l : Launch) (hfl : l.stackTraces = false) (D : va_G) (cA : Nat → ClassId) (g : gv_T) : CT l yJ0_indexOf_0f7a4 cJ0_indexOf_0f7a4 2 (some .int) (RM 3 0 0 75) D cA g [.ref (g.2.1 0), .int 45] [] (fun q => some (.int 0)) (fun q => []) := by
  refine CT.of (by decide +kernel) (Nat.le_of_ble_eq_true rfl) ?_
  intro p e s m args below meth c A ls hx hb hr hml hown hG hlocks hnm hA hS hP hK hD hGV hl
  have hown : s.vm.findClass RJ0 = some m.cls := hown
  have hl : lv_has ls 2 [(0, .ref (g.2.1 0)), (1, .int 45)] := hl
  have hSF : CF p m c cJ0_indexOf_0f7a4 2 s args RJ0 := ⟨hx, hb, hml, hown, hG⟩
  refine lv_aload_n hx hb dJ0_indexOf_0f7a4_0 rfl (lv_at hl 0 rfl) ?_
  refine lv_iload_n hx hb dJ0_indexOf_0f7a4_1 rfl (lv_at hl 1 rfl) ?_
  refine lv_iconst (v := 0) hx hb dJ0_indexOf_0f7a4_2 (by decide) ?_
  refine ct_V (wr := []) hSF hl.1 hP hD hS hA hK hGV (c51_J0_indexOf_7cf53 l hfl D cA g) goV_J0_633 pd_J0_indexOf_7cf53 ⟨(Nat.le_of_ble_eq_true rfl), (Nat.le_of_ble_eq_true rfl)⟩ ⟨(Nat.le_of_ble_eq_true rfl), (Nat.le_of_ble_eq_true rfl)⟩ (vk_recv (N := 1) (adK := fun _ => g.2.1 0) (i := 0) hGV.2.2.1.2 (by decide) hS) dJ0_indexOf_0f7a4_3 rfl (Nat.le_of_ble_eq_true rfl) [] [] rfl (by decide) rfl (by decide) (by decide) (fun q => []) (fun _ => rfl) (fun q1 H locs hP hD hS => ?_)
  refine W.eq (g2 := F0 m 6 ls [.int 0]) rfl ?_
  exact e_i (fun _ => 0) hx hb hr hlocks rfl rfl hP hD hS (Nat.le_of_ble_eq_true rfl) (Nat.le_of_ble_eq_true rfl) dJ0_indexOf_0f7a4_6
set_option maxHeartbeats 4000000 in
set_option maxRecDepth 100000 in
theorem c53_X2_addNode (l : Launch) (hfl : l.stackTraces = false) (D : va_G) (cA : Nat → ClassId) (g : gv_T) (h0 h1 h2 h3 h4 h5 h6 h7 h8 h9 h10 : Nat) (p0 : Int32) (p1 : Int32) : CT l yX2_addNode cX2_addNode 5 (some .int) (RM 0 0 0 0) D cA g [.ref h0, .int p0, .int p1, .int 45] [(h0, .inr (5, [.int 0, .int 0, .ref h1, .ref h2, .ref h3, .ref h4, .ref h5, .ref h6, .ref h7, .ref h8, .ref h9, .ref h10])), (h1, .inl (cA 0, 16, .inl (fun _ => 0))), (h4, .inl (cA 2, 8, .inl (fun _ => 0)))] (fun q => some (.int 0)) (fun q => [(h0, .inr (5, [.int 1, .int 0, .ref h1, .ref h2, .ref h3, .ref h4, .ref h5, .ref h6, .ref h7, .ref h8, .ref h9, .ref h10])), (h1, .inl (cA 0, 16, .inl (upd (upd (fun _ => 0) 0 p0) 1 p1))), (h4, .inl (cA 2, 8, .inl (upd (fun _ => 0) 0 45)))]) := by
  refine CT.of (by decide +kernel) (Nat.le_of_ble_eq_true rfl) ?_
  intro p e s m args below meth c A ls hx hb hr hml hown hG hlocks hnm hA hS hP hK hD hGV hl
  have hown : s.vm.findClass RX2 = some m.cls := hown
  have hl : lv_has ls 5 [(0, .ref h0), (1, .int p0), (2, .int p1), (3, .int 45)] := hl
  have hSF : CF p m c cX2_addNode 5 s args RX2 := ⟨hx, hb, hml, hown, hG⟩
  refine lv_aload_n hx hb dX2_addNode_0 rfl (lv_at hl 0 rfl) ?_
  refine k_get (ci := 5) (C := RX2) (T := TX2) (N := 12) (v := .int 0) hx hb hG inX2 hown hK hP 0 rfl rfl 0 (by decide) gw126 rfl dX2_addNode_1 ?_
  refine lv_istore (lv' := [(4, .int 0), (0, .ref h0), (1, .int p0), (2, .int p1), (3, .int 45)]) hx hb dX2_addNode_4 hl (by decide) rfl (fun ls hl => ?_)
  refine lv_aload_n hx hb dX2_addNode_6 rfl (lv_at hl 1 rfl) ?_
  refine k_get (ci := 5) (C := RX2) (T := TX2) (N := 12) (v := .ref h1) hx hb hG inX2 hown hK hP 0 rfl rfl 2 (by decide) gw134 rfl dX2_addNode_7 ?_
  refine lv_iconst (v := 2) hx hb dX2_addNode_10 (by decide) ?_
  refine lv_iload hx hb dX2_addNode_11 (lv_at hl 0 rfl) ?_
  refine k_imul (v := 0) hx hb dX2_addNode_13 (by decide) ?_
  refine lv_iconst (v := 0) hx hb dX2_addNode_14 (by decide) ?_
  refine k_iadd (v := 0) hx hb dX2_addNode_15 (by decide) ?_
  refine lv_iload_n hx hb dX2_addNode_16 rfl (lv_at hl 2 rfl) ?_
  refine k_iast (ws1 := [(h0, .inr (5, [.int 0, .int 0, .ref h1, .ref h2, .ref h3, .ref h4, .ref h5, .ref h6, .ref h7, .ref h8, .ref h9, .ref h10])), (h1, .inl (cA 0, 16, .inl (upd (fun _ => 0) 0 p0))), (h4, .inl (cA 2, 8, .inl (fun _ => 0)))]) hx hb hK hP hD hS 1 rfl rfl (by unfold vp_in; decide) dX2_addNode_17 (fun H locs hP hD hS => ?_)
  refine lv_aload_n hx hb dX2_addNode_18 rfl (lv_at hl 1 rfl) ?_
  refine k_get (ci := 5) (C := RX2) (T := TX2) (N := 12) (v := .ref h1) hx hb hG inX2 hown hK hP 0 rfl rfl 2 (by decide) gw134 rfl dX2_addNode_19 ?_
  refine lv_iconst (v := 2) hx hb dX2_addNode_22 (by decide) ?_
  refine lv_iload hx hb dX2_addNode_23 (lv_at hl 0 rfl) ?_
  refine k_imul (v := 0) hx hb dX2_addNode_25 (by decide) ?_
  refine lv_iconst (v := 1) hx hb dX2_addNode_26 (by decide) ?_
  refine k_iadd (v := 1) hx hb dX2_addNode_27 (by decide) ?_
  refine lv_iload_n hx hb dX2_addNode_28 rfl (lv_at hl 3 rfl) ?_
  refine k_iast (ws1 := [(h0, .inr (5, [.int 0, .int 0, .ref h1, .ref h2, .ref h3, .ref h4, .ref h5, .ref h6, .ref h7, .ref h8, .ref h9, .ref h10])), (h1, .inl (cA 0, 16, .inl (upd (upd (fun _ => 0) 0 p0) 1 p1))), (h4, .inl (cA 2, 8, .inl (fun _ => 0)))]) hx hb hK hP hD hS 1 rfl rfl (by unfold vp_in; decide) dX2_addNode_29 (fun H locs hP hD hS => ?_)
  refine lv_aload_n hx hb dX2_addNode_30 rfl (lv_at hl 1 rfl) ?_
  refine k_get (ci := 5) (C := RX2) (T := TX2) (N := 12) (v := .ref h4) hx hb hG inX2 hown hK hP 0 rfl rfl 5 (by decide) gw139 rfl dX2_addNode_31 ?_
  refine lv_iload hx hb dX2_addNode_34 (lv_at hl 0 rfl) ?_
  refine lv_iload_n hx hb dX2_addNode_36 rfl (lv_at hl 4 rfl) ?_
  refine k_cast (ws1 := [(h0, .inr (5, [.int 0, .int 0, .ref h1, .ref h2, .ref h3, .ref h4, .ref h5, .ref h6, .ref h7, .ref h8, .ref h9, .ref h10])), (h1, .inl (cA 0, 16, .inl (upd (upd (fun _ => 0) 0 p0) 1 p1))), (h4, .inl (cA 2, 8, .inl (upd (fun _ => 0) 0 45)))]) hx hb hK hP hD hS 2 rfl rfl (by unfold vp_in; decide) dX2_addNode_37 (fun H locs hP hD hS => ?_)
  refine lv_aload_n hx hb dX2_addNode_38 rfl (lv_at hl 1 rfl) ?_
  refine lv_iload hx hb dX2_addNode_39 (lv_at hl 0 rfl) ?_
  refine lv_iconst (v := 1) hx hb dX2_addNode_41 (by decide) ?_
  refine k_iadd (v := 1) hx hb dX2_addNode_42 (by decide) ?_
  refine k_put (ci := 5) (C := RX2) (T := TX2) (N := 12) (v := .int 1) (ws1 := [(h0, .inr (5, [.int 1, .int 0, .ref h1, .ref h2, .ref h3, .ref h4, .ref h5, .ref h6, .ref h7, .ref h8, .ref h9, .ref h10])), (h1, .inl (cA 0, 16, .inl (upd (upd (fun _ => 0) 0 p0) 1 p1))), (h4, .inl (cA 2, 8, .inl (upd (fun _ => 0) 0 45)))]) hx hb hG inX2 tyX2 tyX2_ok nmX2 hown hK hP hD hS 0 rfl rfl 0 (by decide) gw126 rfl ⟨rfl, rfl⟩ rfl (Nat.le_of_ble_eq_true rfl) dX2_addNode_43 (fun H locs hP hD hS => ?_)
  refine lv_iload hx hb dX2_addNode_46 (lv_at hl 0 rfl) ?_
  exact e_i (fun _ => 0) hx hb hr hlocks rfl rfl hP hD hS (Nat.le_of_ble_eq_true rfl) (Nat.le_of_ble_eq_true rfl) dX2_addNode_48
set_option maxHeartbeats 4000000 in
set_option maxRecDepth 100000 in
theorem c54_X6_node (l : Launch) (hfl : l.stackTraces = false) (D : va_G) (cA : Nat → ClassId) (g : gv_T) (h0 h1 h2 h3 h4 h5 h6 h7 h8 h9 h10 h11 h12 h13 h14 h15 h16 h17 h18 h19 h20 h21 h22 h23 h24 h25 h26 h27 h28 h29 : Nat) (p0 : Int32) (p1 : Int32) (k0 : ¬ p0 < 0) (k1 : ¬ 30 < p0) (k2 : ¬ p1 < 0) (k3 : ¬ 30 < p1) : CT l yX6_node cX6_node 4 (some .int) (RM 4 0 0 96) D cA g [.ref h0, .int p0, .int p1, .int 45] [(h0, .inr (9, [.ref h1, .ref h2, .ref h3, .ref h4, .ref h5])), (h1, .inr (5, [.int 0, .int 0, .ref h6, .ref h7, .ref h8, .ref h9, .ref h10, .ref h11, .ref h12, .ref h13, .ref h14, .ref h15])), (h2, .inr (4, [.int 0, .int 0, .long 0, .ref h16, .ref h17, .ref h18, .ref h19, .ref h20, .ref h21, .ref h22, .ref h23, .ref h24, .ref h25, .ref h26, .ref h27, .ref h28, .ref h29])), (h6, .inl (cA 0, 16, .inl (fun _ => 0))), (h9, .inl (cA 2, 8, .inl (fun _ => 0)))] (fun q => some (.int 0)) (fun q => [(h0, .inr (9, [.ref h1, .ref h2, .ref h3, .ref h4, .ref h5])), (h1, .inr (5, [.int 1, .int 0, .ref h6, .ref h7, .ref h8, .ref h9, .ref h10, .ref h11, .ref h12, .ref h13, .ref h14, .ref h15])), (h2, .inr (4, [.int 0, .int 0, .long 0, .ref h16, .ref h17, .ref h18, .ref h19, .ref h20, .ref h21, .ref h22, .ref h23, .ref h24, .ref h25, .ref h26, .ref h27, .ref h28, .ref h29])), (h6, .inl (cA 0, 16, .inl (upd (upd (fun _ => 0) 0 p0) 1 p1))), (h9, .inl (cA 2, 8, .inl (upd (fun _ => 0) 0 45)))]) := by
  refine CT.of (by decide +kernel) (Nat.le_of_ble_eq_true rfl) ?_
  intro p e s m args below meth c A ls hx hb hr hml hown hG hlocks hnm hA hS hP hK hD hGV hl
  have hown : s.vm.findClass RX6 = some m.cls := hown
  have hl : lv_has ls 4 [(0, .ref h0), (1, .int p0), (2, .int p1), (3, .int 45)] := hl
  have hSF : CF p m c cX6_node 4 s args RX6 := ⟨hx, hb, hml, hown, hG⟩
  refine lv_iload_n hx hb dX6_node_0 rfl (lv_at hl 1 rfl) ?_
  refine lv_iconst (v := 0) hx hb dX6_node_1 (by decide) ?_
  refine lv_bipush (v := 30) hx hb dX6_node_2 (by decide) ?_
  refine ct_S (wr := [(h0, .inr (9, [.ref h1, .ref h2, .ref h3, .ref h4, .ref h5])), (h1, .inr (5, [.int 0, .int 0, .ref h6, .ref h7, .ref h8, .ref h9, .ref h10, .ref h11, .ref h12, .ref h13, .ref h14, .ref h15])), (h2, .inr (4, [.int 0, .int 0, .long 0, .ref h16, .ref h17, .ref h18, .ref h19, .ref h20, .ref h21, .ref h22, .ref h23, .ref h24, .ref h25, .ref h26, .ref h27, .ref h28, .ref h29])), (h6, .inl (cA 0, 16, .inl (fun _ => 0))), (h9, .inl (cA 2, 8, .inl (fun _ => 0)))]) hSF hl.1 hP hD hS hA hK hGV (c23_X6_isWithin l hfl D cA g (p0) k0 k1) goS_X6_44 pd_X6_isWithin.2 ⟨(Nat.le_of_ble_eq_true rfl), (Nat.le_of_ble_eq_true rfl)⟩ ⟨(Nat.le_of_ble_eq_true rfl), (Nat.le_of_ble_eq_true rfl)⟩ dX6_node_4 rfl (Nat.le_of_ble_eq_true rfl) [] [0, 1, 2, 3, 4] rfl (by decide) rfl (by decide) (by decide) (fun q => [(h0, .inr (9, [.ref h1, .ref h2, .ref h3, .ref h4, .ref h5])), (h1, .inr (5, [.int 0, .int 0, .ref h6, .ref h7, .ref h8, .ref h9, .ref h10, .ref h11, .ref h12, .ref h13, .ref h14, .ref h15])), (h2, .inr (4, [.int 0, .int 0, .long 0, .ref h16, .ref h17, .ref h18, .ref h19, .ref h20, .ref h21, .ref h22, .ref h23, .ref h24, .ref h25, .ref h26, .ref h27, .ref h28, .ref h29])), (h6, .inl (cA 0, 16, .inl (fun _ => 0))), (h9, .inl (cA 2, 8, .inl (fun _ => 0)))]) (fun _ => rfl) (fun q1 H locs hP hD hS => ?_)
  refine W.eq (g2 := F0 m 7 ls [.int 1]) rfl ?_
  refine k_if_eq_f (tgt := 29) hx hb dX6_node_7 (by decide) (by decide) ?_
  refine lv_iload_n hx hb dX6_node_10 rfl (lv_at hl 2 rfl) ?_
  refine lv_iconst (v := 0) hx hb dX6_node_11 (by decide) ?_
  refine lv_bipush (v := 30) hx hb dX6_node_12 (by decide) ?_
  refine ct_S (wr := [(h0, .inr (9, [.ref h1, .ref h2, .ref h3, .ref h4, .ref h5])), (h1, .inr (5, [.int 0, .int 0, .ref h6, .ref h7, .ref h8, .ref h9, .ref h10, .ref h11, .ref h12, .ref h13, .ref h14, .ref h15])), (h2, .inr (4, [.int 0, .int 0, .long 0, .ref h16, .ref h17, .ref h18, .ref h19, .ref h20, .ref h21, .ref h22, .ref h23, .ref h24, .ref h25, .ref h26, .ref h27, .ref h28, .ref h29])), (h6, .inl (cA 0, 16, .inl (fun _ => 0))), (h9, .inl (cA 2, 8, .inl (fun _ => 0)))]) hSF hl.1 hP hD hS hA hK hGV (c23_X6_isWithin l hfl D cA g (p1) k2 k3) goS_X6_44 pd_X6_isWithin.2 ⟨(Nat.le_of_ble_eq_true rfl), (Nat.le_of_ble_eq_true rfl)⟩ ⟨(Nat.le_of_ble_eq_true rfl), (Nat.le_of_ble_eq_true rfl)⟩ dX6_node_14 rfl (Nat.le_of_ble_eq_true rfl) [] [0, 1, 2, 3, 4] rfl (by decide) rfl (by decide) (by decide) (fun q => [(h0, .inr (9, [.ref h1, .ref h2, .ref h3, .ref h4, .ref h5])), (h1, .inr (5, [.int 0, .int 0, .ref h6, .ref h7, .ref h8, .ref h9, .ref h10, .ref h11, .ref h12, .ref h13, .ref h14, .ref h15])), (h2, .inr (4, [.int 0, .int 0, .long 0, .ref h16, .ref h17, .ref h18, .ref h19, .ref h20, .ref h21, .ref h22, .ref h23, .ref h24, .ref h25, .ref h26, .ref h27, .ref h28, .ref h29])), (h6, .inl (cA 0, 16, .inl (fun _ => 0))), (h9, .inl (cA 2, 8, .inl (fun _ => 0)))]) (fun _ => rfl) (fun q2 H locs hP hD hS => ?_)
  refine W.eq (g2 := F0 m 17 ls [.int 1]) rfl ?_
  refine k_if_eq_f (tgt := 29) hx hb dX6_node_17 (by decide) (by decide) ?_
  refine k_ldcS hx hb hGV 0 rfl hown dX6_node_20 ?_
  refine lv_iload_n hx hb dX6_node_22 rfl (lv_at hl 3 rfl) ?_
  refine ct_V (wr := [(h0, .inr (9, [.ref h1, .ref h2, .ref h3, .ref h4, .ref h5])), (h1, .inr (5, [.int 0, .int 0, .ref h6, .ref h7, .ref h8, .ref h9, .ref h10, .ref h11, .ref h12, .ref h13, .ref h14, .ref h15])), (h2, .inr (4, [.int 0, .int 0, .long 0, .ref h16, .ref h17, .ref h18, .ref h19, .ref h20, .ref h21, .ref h22, .ref h23, .ref h24, .ref h25, .ref h26, .ref h27, .ref h28, .ref h29])), (h6, .inl (cA 0, 16, .inl (fun _ => 0))), (h9, .inl (cA 2, 8, .inl (fun _ => 0)))]) hSF hl.1 hP hD hS hA hK hGV (c52_J0_indexOf_0f7a4 l hfl D cA g) goV_X6_50 pd_J0_indexOf_0f7a4 ⟨(Nat.le_of_ble_eq_true rfl), (Nat.le_of_ble_eq_true rfl)⟩ ⟨(Nat.le_of_ble_eq_true rfl), (Nat.le_of_ble_eq_true rfl)⟩ (vk_recv (N := 1) (adK := fun _ => g.2.1 0) (i := 0) hGV.2.2.1.2 (by decide) hS) dX6_node_23 rfl (Nat.le_of_ble_eq_true rfl) [] [0, 1, 2, 3, 4] rfl (by decide) rfl (by decide) (by decide) (fun q => [(h0, .inr (9, [.ref h1, .ref h2, .ref h3, .ref h4, .ref h5])), (h1, .inr (5, [.int 0, .int 0, .ref h6, .ref h7, .ref h8, .ref h9, .ref h10, .ref h11, .ref h12, .ref h13, .ref h14, .ref h15])), (h2, .inr (4, [.int 0, .int 0, .long 0, .ref h16, .ref h17, .ref h18, .ref h19, .ref h20, .ref h21, .ref h22, .ref h23, .ref h24, .ref h25, .ref h26, .ref h27, .ref h28, .ref h29])), (h6, .inl (cA 0, 16, .inl (fun _ => 0))), (h9, .inl (cA 2, 8, .inl (fun _ => 0)))]) (fun _ => rfl) (fun q3 H locs hP hD hS => ?_)
  refine W.eq (g2 := F0 m 26 ls [.int 0]) rfl ?_
  refine k_if_ge_t (tgt := 39) hx hb dX6_node_26 (by decide) (by decide) ?_
  refine lv_aload_n hx hb dX6_node_39 rfl (lv_at hl 0 rfl) ?_
  refine k_get (ci := 9) (C := RX6) (T := TX6) (N := 5) (v := .ref h1) hx hb hG inX6 hown hK hP 0 rfl rfl 0 (by decide) gw363 rfl dX6_node_40 ?_
  refine k_get (ci := 5) (C := RX2) (T := TX2) (N := 12) (v := .int 0) hx hb hG inX2 hown hK hP 1 rfl rfl 0 (by decide) gw127 rfl dX6_node_43 ?_
  refine lv_bipush (v := 8) hx hb dX6_node_46 (by decide) ?_
  refine k_icmp_lt_t (tgt := 61) hx hb dX6_node_48 (by decide) (by decide) ?_
  refine lv_aload_n hx hb dX6_node_61 rfl (lv_at hl 0 rfl) ?_
  refine k_get (ci := 9) (C := RX6) (T := TX6) (N := 5) (v := .ref h2) hx hb hG inX6 hown hK hP 0 rfl rfl 1 (by decide) gw364 rfl dX6_node_62 ?_
  refine lv_iconst (v := 0) hx hb dX6_node_65 (by decide) ?_
  refine k_put (ci := 4) (C := RX1) (T := TX1) (N := 17) (v := .int 0) (ws1 := [(h0, .inr (9, [.ref h1, .ref h2, .ref h3, .ref h4, .ref h5])), (h1, .inr (5, [.int 0, .int 0, .ref h6, .ref h7, .ref h8, .ref h9, .ref h10, .ref h11, .ref h12, .ref h13, .ref h14, .ref h15])), (h2, .inr (4, [.int 0, .int 0, .long 0, .ref h16, .ref h17, .ref h18, .ref h19, .ref h20, .ref h21, .ref h22, .ref h23, .ref h24, .ref h25, .ref h26, .ref h27, .ref h28, .ref h29])), (h6, .inl (cA 0, 16, .inl (fun _ => 0))), (h9, .inl (cA 2, 8, .inl (fun _ => 0)))]) hx hb hG inX1 tyX1 tyX1_ok nmX1 hown hK hP hD hS 2 rfl rfl 0 (by decide) gw197 rfl ⟨rfl, rfl⟩ rfl (Nat.le_of_ble_eq_true rfl) dX6_node_66 (fun H locs hP hD hS => ?_)
  refine lv_aload_n hx hb dX6_node_69 rfl (lv_at hl 0 rfl) ?_
  refine k_get (ci := 9) (C := RX6) (T := TX6) (N := 5) (v := .ref h1) hx hb hG inX6 hown hK hP 0 rfl rfl 0 (by decide) gw363 rfl dX6_node_70 ?_
  refine lv_iload_n hx hb dX6_node_73 rfl (lv_at hl 1 rfl) ?_
  refine lv_iload_n hx hb dX6_node_74 rfl (lv_at hl 2 rfl) ?_
  refine lv_iload_n hx hb dX6_node_75 rfl (lv_at hl 3 rfl) ?_
  refine ct_V (wr := [(h0, .inr (9, [.ref h1, .ref h2, .ref h3, .ref h4, .ref h5])), (h2, .inr (4, [.int 0, .int 0, .long 0, .ref h16, .ref h17, .ref h18, .ref h19, .ref h20, .ref h21, .ref h22, .ref h23, .ref h24, .ref h25, .ref h26, .ref h27, .ref h28, .ref h29]))]) hSF hl.1 hP hD hS hA hK hGV (c53_X2_addNode l hfl D cA g h1 h6 h7 h8 h9 h10 h11 h12 h13 h14 h15 (p0) (p1)) goV_X6_76 pd_X2_addNode ⟨(Nat.le_of_ble_eq_true rfl), (Nat.le_of_ble_eq_true rfl)⟩ ⟨(Nat.le_of_ble_eq_true rfl), (Nat.le_of_ble_eq_true rfl)⟩ (va_recv hK hP (ci := 5) (q0 := 1) rfl rfl) dX6_node_76 rfl (Nat.le_of_ble_eq_true rfl) [1, 3, 4] [0, 2] rfl (by decide) rfl (by decide) (by decide) (fun q => [(h0, .inr (9, [.ref h1, .ref h2, .ref h3, .ref h4, .ref h5])), (h2, .inr (4, [.int 0, .int 0, .long 0, .ref h16, .ref h17, .ref h18, .ref h19, .ref h20, .ref h21, .ref h22, .ref h23, .ref h24, .ref h25, .ref h26, .ref h27, .ref h28, .ref h29])), (h1, .inr (5, [.int 1, .int 0, .ref h6, .ref h7, .ref h8, .ref h9, .ref h10, .ref h11, .ref h12, .ref h13, .ref h14, .ref h15])), (h6, .inl (cA 0, 16, .inl (upd (upd (fun _ => 0) 0 p0) 1 p1))), (h9, .inl (cA 2, 8, .inl (upd (fun _ => 0) 0 45)))]) (fun _ => rfl) (fun q4 H locs hP hD hS => ?_)
  refine W.eq (g2 := F0 m 79 ls [.int 0]) rfl ?_
  exact e_i (fun _ => 0) hx hb hr hlocks rfl rfl (hP.sub [0, 2, 1, 3, 4] rfl) (hD.sub [0, 2, 1, 3, 4] (by decide) rfl) hS (Nat.le_of_ble_eq_true rfl) (Nat.le_of_ble_eq_true rfl) dX6_node_79
set_option maxHeartbeats 4000000 in
set_option maxRecDepth 100000 in
theorem c55_L_node (l : Launch) (hfl : l.stackTraces = false) (D : va_G) (cA : Nat → ClassId) (g : gv_T) (h0 h1 h2 h3 h4 h5 h6 h7 h8 h9 h10 h11 h12 h13 h14 h15 h16 h17 h18 h19 h20 h21 h22 h23 h24 h25 h26 h27 h28 h29 h30 : Nat) (p0 : Int32) (p1 : Int32) (k0 : ¬ p0 < 0) (k1 : ¬ 30 < p0) (k2 : ¬ p1 < 0) (k3 : ¬ 30 < p1) : CW l yL_node cL_node 6 (some .int) [(0, 12, 15, 13), (0, 12, 19, 15)] (RM 5 0 0 119) D cA g [.ref h0, .int p0, .int p1, .int 45, .ref h1] [(h0, .inr (9, [.ref h2, .ref h3, .ref h4, .ref h5, .ref h6])), (h2, .inr (5, [.int 0, .int 0, .ref h7, .ref h8, .ref h9, .ref h10, .ref h11, .ref h12, .ref h13, .ref h14, .ref h15, .ref h16])), (h3, .inr (4, [.int 0, .int 0, .long 0, .ref h17, .ref h18, .ref h19, .ref h20, .ref h21, .ref h22, .ref h23, .ref h24, .ref h25, .ref h26, .ref h27, .ref h28, .ref h29, .ref h30])), (h7, .inl (cA 0, 16, .inl (fun _ => 0))), (h10, .inl (cA 2, 8, .inl (fun _ => 0))), (h1, .inl (cA 1, 1, .inr (.inl (fun _ => 0))))] (fun q => some (.int 0)) (fun q => [(h0, .inr (9, [.ref h2, .ref h3, .ref h4, .ref h5, .ref h6])), (h2, .inr (5, [.int 1, .int 0, .ref h7, .ref h8, .ref h9, .ref h10, .ref h11, .ref h12, .ref h13, .ref h14, .ref h15, .ref h16])), (h3, .inr (4, [.int 0, .int 0, .long 0, .ref h17, .ref h18, .ref h19, .ref h20, .ref h21, .ref h22, .ref h23, .ref h24, .ref h25, .ref h26, .ref h27, .ref h28, .ref h29, .ref h30])), (h7, .inl (cA 0, 16, .inl (upd (upd (fun _ => 0) 0 p0) 1 p1))), (h10, .inl (cA 2, 8, .inl (upd (fun _ => 0) 0 45))), (h1, .inl (cA 1, 1, .inr (.inl (vp_updL (fun _ => 0) 0 0))))]) := by
  refine CW.of (by decide +kernel) (Nat.le_of_ble_eq_true rfl) ?_
  intro p e s m args below meth c A ls hx hb hr hml hown hG hlocks htab hA hS hP hK hD hGV hl
  have hown : s.vm.findClass RL = some m.cls := hown
  have hl : lv_has ls 6 [(0, .ref h0), (1, .int p0), (2, .int p1), (3, .int 45), (4, .ref h1)] := hl
  have hSF : CF p m c cL_node 6 s args RL := ⟨hx, hb, hml, hown, hG⟩
  refine lv_aload hx hb dL_node_0 (lv_at hl 4 rfl) ?_
  refine lv_iconst (v := 0) hx hb dL_node_2 (by decide) ?_
  refine lv_aload_n hx hb dL_node_3 rfl (lv_at hl 0 rfl) ?_
  refine lv_iload_n hx hb dL_node_4 rfl (lv_at hl 1 rfl) ?_
  refine lv_iload_n hx hb dL_node_5 rfl (lv_at hl 2 rfl) ?_
  refine lv_iload_n hx hb dL_node_6 rfl (lv_at hl 3 rfl) ?_
  refine ct_V (wr := [(h1, .inl (cA 1, 1, .inr (.inl (fun _ => 0))))]) hSF hl.1 hP hD hS hA hK hGV (c54_X6_node l hfl D cA g h0 h2 h3 h4 h5 h6 h7 h8 h9 h10 h11 h12 h13 h14 h15 h16 h17 h18 h19 h20 h21 h22 h23 h24 h25 h26 h27 h28 h29 h30 (p0) (p1) k0 k1 k2 k3) goV_L_7 pd_X6_node ⟨(Nat.le_of_ble_eq_true rfl), (Nat.le_of_ble_eq_true rfl)⟩ ⟨(Nat.le_of_ble_eq_true rfl), (Nat.le_of_ble_eq_true rfl)⟩ (va_recv hK hP (ci := 9) (q0 := 0) rfl rfl) dL_node_7 rfl (Nat.le_of_ble_eq_true rfl) [0, 1, 2, 3, 4] [5] rfl (by decide) rfl (by decide) (by decide) (fun q => [(h1, .inl (cA 1, 1, .inr (.inl (fun _ => 0)))), (h0, .inr (9, [.ref h2, .ref h3, .ref h4, .ref h5, .ref h6])), (h2, .inr (5, [.int 1, .int 0, .ref h7, .ref h8, .ref h9, .ref h10, .ref h11, .ref h12, .ref h13, .ref h14, .ref h15, .ref h16])), (h3, .inr (4, [.int 0, .int 0, .long 0, .ref h17, .ref h18, .ref h19, .ref h20, .ref h21, .ref h22, .ref h23, .ref h24, .ref h25, .ref h26, .ref h27, .ref h28, .ref h29, .ref h30])), (h7, .inl (cA 0, 16, .inl (upd (upd (fun _ => 0) 0 p0) 1 p1))), (h10, .inl (cA 2, 8, .inl (upd (fun _ => 0) 0 45)))]) (fun _ => rfl) (fun q1 H locs hP hD hS => ?_)
  refine W.eq (g2 := F0 m 10 ls [.int 0, .int 0, .ref h1]) rfl ?_
  refine lv_i2l (v := 0) hx hb dL_node_10 (by decide +kernel) ?_
  refine k_last (ws1 := [(h1, .inl (cA 1, 1, .inr (.inl (vp_updL (fun _ => 0) 0 0)))), (h0, .inr (9, [.ref h2, .ref h3, .ref h4, .ref h5, .ref h6])), (h2, .inr (5, [.int 1, .int 0, .ref h7, .ref h8, .ref h9, .ref h10, .ref h11, .ref h12, .ref h13, .ref h14, .ref h15, .ref h16])), (h3, .inr (4, [.int 0, .int 0, .long 0, .ref h17, .ref h18, .ref h19, .ref h20, .ref h21, .ref h22, .ref h23, .ref h24, .ref h25, .ref h26, .ref h27, .ref h28, .ref h29, .ref h30])), (h7, .inl (cA 0, 16, .inl (upd (upd (fun _ => 0) 0 p0) 1 p1))), (h10, .inl (cA 2, 8, .inl (upd (fun _ => 0) 0 45)))]) hx hb hK hP hD hS 0 rfl rfl (by unfold vp_in; decide) dL_node_11 (fun H locs hP hD hS => ?_)
  refine lv_goto (tgt := 23) hx hb dL_node_12 (by decide) ?_
  refine lv_iconst (v := 0) hx hb dL_node_23 (by decide) ?_
  exact e_i (fun _ => 0) hx hb hr hlocks rfl rfl (hP.sub [1, 2, 3, 4, 5, 0] rfl) (hD.sub [1, 2, 3, 4, 5, 0] (by decide) rfl) hS (Nat.le_of_ble_eq_true rfl) (Nat.le_of_ble_eq_true rfl) dL_node_24
set_option maxHeartbeats 4000000 in
set_option maxRecDepth 100000 in
theorem c56_Jx4a65c_size_8abf5 (l : Launch) (hfl : l.stackTraces = false) (D : va_G) (cA : Nat → ClassId) (g : gv_T) (h0 : Nat) : CT l yJx4a65c_size_8abf5 cJx4a65c_size_8abf5 1 (some .int) (RM 0 0 0 0) D cA g [.ref h0] [(h0, .inr (2, [.int 0, .ref g.1, .int 0]))] (fun q => some (.int 0)) (fun q => [(h0, .inr (2, [.int 0, .ref g.1, .int 0]))]) := by
  refine CT.of (by decide +kernel) (Nat.le_of_ble_eq_true rfl) ?_
  intro p e s m args below meth c A ls hx hb hr hml hown hG hlocks hnm hA hS hP hK hD hGV hl
  have hown : s.vm.findClass RJx4a65c = some m.cls := hown
  have hl : lv_has ls 1 [(0, .ref h0)] := hl
  have hSF : CF p m c cJx4a65c_size_8abf5 1 s args RJx4a65c := ⟨hx, hb, hml, hown, hG⟩
  refine lv_aload_n hx hb dJx4a65c_size_8abf5_0 rfl (lv_at hl 0 rfl) ?_
  refine k_get (ci := 2) (C := RJx4a65c) (T := TJx4a65c) (N := 3) (v := .int 0) hx hb hG inJx4a65c hown hK hP 0 rfl rfl 2 (by decide) gw1208 rfl dJx4a65c_size_8abf5_1 ?_
  exact e_i (fun _ => 0) hx hb hr hlocks rfl rfl hP hD hS (Nat.le_of_ble_eq_true rfl) (Nat.le_of_ble_eq_true rfl) dJx4a65c_size_8abf5_4
set_option maxHeartbeats 4000000 in
set_option maxRecDepth 100000 in
theorem c57_X9_init (l : Launch) (hfl : l.stackTraces = false) (D : va_G) (cA : Nat → ClassId) (g : gv_T) (h0 : Nat) (p0 : Int32) (p1 : Int32) : CT l yX9_init cX9_init 4 none (RM 1 0 0 24) D cA g [.ref h0, .int p0, .int p1, .int 45] [(h0, .inr (12, [.int 0, .int 0, .int 0, .long 0, .long 0, .int 0]))] (fun q => none) (fun q => [(h0, .inr (12, [.int p0, .int p1, .int 45, .long 0, .long 0, .int 0]))]) := by
  refine CT.of (by decide +kernel) (Nat.le_of_ble_eq_true rfl) ?_
  intro p e s m args below meth c A ls hx hb hr hml hown hG hlocks hnm hA hS hP hK hD hGV hl
  have hown : s.vm.findClass RX9 = some m.cls := hown
  have hl : lv_has ls 4 [(0, .ref h0), (1, .int p0), (2, .int p1), (3, .int 45)] := hl
  have hSF : CF p m c cX9_init 4 s args RX9 := ⟨hx, hb, hml, hown, hG⟩
  refine lv_aload_n hx hb dX9_init_0 rfl (lv_at hl 0 rfl) ?_
  refine W.objInit hx hb hown (hG _ gw1325) (hG _ gw118) (hG _ gw119) rfl (hl.1.trans hml.symm) rfl dX9_init_1 (Nat.le_of_ble_eq_true rfl) (Nat.le_of_ble_eq_true rfl) ?_
  refine W.eq (g2 := F0 m 4 ls []) rfl ?_
  refine lv_aload_n hx hb dX9_init_4 rfl (lv_at hl 0 rfl) ?_
  refine lv_iload_n hx hb dX9_init_5 rfl (lv_at hl 1 rfl) ?_
  refine k_putF (ci := 12) (C := RX9) (T := TX9) (N := 6) (v := .int p0) (ws1 := [(h0, .inr (12, [.int p0, .int 0, .int 0, .long 0, .long 0, .int 0]))]) hx hb hG inX9 tyX9 tyX9_ok nmX9 hown hK hP hD hS 0 rfl rfl 0 (by decide) gw1326 rfl hnm rfl ⟨rfl, rfl⟩ rfl (Nat.le_of_ble_eq_true rfl) dX9_init_6 (fun H locs hP hD hS => ?_)
  refine lv_aload_n hx hb dX9_init_9 rfl (lv_at hl 0 rfl) ?_
  refine lv_iload_n hx hb dX9_init_10 rfl (lv_at hl 2 rfl) ?_
  refine k_putF (ci := 12) (C := RX9) (T := TX9) (N := 6) (v := .int p1) (ws1 := [(h0, .inr (12, [.int p0, .int p1, .int 0, .long 0, .long 0, .int 0]))]) hx hb hG inX9 tyX9 tyX9_ok nmX9 hown hK hP hD hS 0 rfl rfl 1 (by decide) gw1328 rfl hnm rfl ⟨rfl, rfl⟩ rfl (Nat.le_of_ble_eq_true rfl) dX9_init_11 (fun H locs hP hD hS => ?_)
  refine lv_aload_n hx hb dX9_init_14 rfl (lv_at hl 0 rfl) ?_
  refine lv_iload_n hx hb dX9_init_15 rfl (lv_at hl 3 rfl) ?_
  refine k_putF (ci := 12) (C := RX9) (T := TX9) (N := 6) (v := .int 45) (ws1 := [(h0, .inr (12, [.int p0, .int p1, .int 45, .long 0, .long 0, .int 0]))]) hx hb hG inX9 tyX9 tyX9_ok nmX9 hown hK hP hD hS 0 rfl rfl 2 (by decide) gw1330 rfl hnm rfl ⟨rfl, rfl⟩ rfl (Nat.le_of_ble_eq_true rfl) dX9_init_16 (fun H locs hP hD hS => ?_)
  exact e_v (fun _ => 0) hx hb hr hlocks rfl hP hD hS (Nat.le_of_ble_eq_true rfl) (Nat.le_of_ble_eq_true rfl) dX9_init_19
set_option maxHeartbeats 4000000 in
set_option maxRecDepth 100000 in
theorem c58_Jx4a65c_grow_92f84 (l : Launch) (hfl : l.stackTraces = false) (D : va_G) (cA : Nat → ClassId) (g : gv_T) (h0 : Nat) : CT l yJx4a65c_grow_92f84 cJx4a65c_grow_92f84 4 (some (.array (.object "java/lang/Object"))) (RM 1 1 10 30) D cA g [.ref h0, .int 1] [(h0, .inr (2, [.int 1, .ref g.1, .int 0]))] (fun q => some (.ref (q 0))) (fun q => [(h0, .inr (2, [.int 1, .ref (q 0), .int 0])), ((q 0), .inl (cA 4, 10, .inr (.inr (.inr (.inr (fun _ => none))))))]) := by
  refine CT.of (by decide +kernel) (Nat.le_of_ble_eq_true rfl) ?_
  intro p e s m args below meth c A ls hx hb hr hml hown hG hlocks hnm hA hS hP hK hD hGV hl
  have hown : s.vm.findClass RJx4a65c = some m.cls := hown
  have hl : lv_has ls 4 [(0, .ref h0), (1, .int 1)] := hl
  have hSF : CF p m c cJx4a65c_grow_92f84 4 s args RJx4a65c := ⟨hx, hb, hml, hown, hG⟩
  refine lv_aload_n hx hb dJx4a65c_grow_92f84_0 rfl (lv_at hl 0 rfl) ?_
  refine k_get (ci := 2) (C := RJx4a65c) (T := TJx4a65c) (N := 3) (v := .ref g.1) hx hb hG inJx4a65c hown hK hP 0 rfl rfl 1 (by decide) gw1207 rfl dJx4a65c_grow_92f84_1 ?_
  refine k_elen hx hb hGV hS dJx4a65c_grow_92f84_4 ?_
  refine lv_istore_n (lv' := [(2, .int 0), (0, .ref h0), (1, .int 1)]) hx hb dJx4a65c_grow_92f84_5 rfl hl (by decide) rfl (fun ls hl => ?_)
  refine lv_iload_n hx hb dJx4a65c_grow_92f84_6 rfl (lv_at hl 0 rfl) ?_
  refine k_if_gt_f (tgt := 20) hx hb dJx4a65c_grow_92f84_7 (by decide) (by decide) ?_
  refine lv_aload_n hx hb dJx4a65c_grow_92f84_10 rfl (lv_at hl 1 rfl) ?_
  refine k_get (ci := 2) (C := RJx4a65c) (T := TJx4a65c) (N := 3) (v := .ref g.1) hx hb hG inJx4a65c hown hK hP 0 rfl rfl 1 (by decide) gw1207 rfl dJx4a65c_grow_92f84_11 ?_
  refine k_getsE hx hb hG hGV hS hown gw1205 dJx4a65c_grow_92f84_14 ?_
  refine k_acmp_eq_t (tgt := 45) hx hb dJx4a65c_grow_92f84_17 rfl (by decide) ?_
  refine lv_aload_n hx hb dJx4a65c_grow_92f84_45 rfl (lv_at hl 1 rfl) ?_
  refine lv_bipush (v := 10) hx hb dJx4a65c_grow_92f84_46 (by decide) ?_
  refine lv_iload_n hx hb dJx4a65c_grow_92f84_48 rfl (lv_at hl 2 rfl) ?_
  refine k_mmax (v := 10) hx hb (hml.trans hl.1.symm) hown (hG _ gw1410) (hG _ gw611) (hG _ gw88) (hG _ gw612) (Nat.le_of_ble_eq_true rfl) (Nat.le_of_ble_eq_true rfl) (Nat.le_of_ble_eq_true rfl) (Nat.le_of_ble_eq_true rfl) dJx4a65c_grow_92f84_49 (by decide +kernel) ?_
  refine k_newq hx hb hG hown gw1411 hGV.2.2.2.2.2.2 hK hP hD hS hA 10 (by decide) (by decide) (Nat.le_of_ble_eq_true rfl) (Nat.le_of_ble_eq_true rfl) (Nat.le_of_ble_eq_true rfl) dJx4a65c_grow_92f84_52 (fun a1 H hP hD hS => ?_)
  have hP : va_P D vwCl [(h0, .inr (2, [.int 1, .ref g.1, .int 0])), (a1, .inl (cA 4, 10, .inr (.inr (.inr (.inr (fun _ => none))))))] H := hP
  have hD : va_D _ [(h0, .inr (2, [.int 1, .ref g.1, .int 0])), (a1, .inl (cA 4, 10, .inr (.inr (.inr (.inr (fun _ => none))))))] := hD
  refine lv_dup_x1 hx hb dJx4a65c_grow_92f84_55 rfl rfl ?_
  refine k_put (ci := 2) (C := RJx4a65c) (T := TJx4a65c) (N := 3) (v := .ref a1) (ws1 := [(h0, .inr (2, [.int 1, .ref a1, .int 0])), (a1, .inl (cA 4, 10, .inr (.inr (.inr (.inr (fun _ => none))))))]) hx hb hG inJx4a65c tyJx4a65c tyJx4a65c_ok nmJx4a65c hown hK hP hD hS 0 rfl rfl 1 (by decide) gw1207 rfl ⟨rfl, rfl⟩ rfl (Nat.le_of_ble_eq_true rfl) dJx4a65c_grow_92f84_56 (fun H locs hP hD hS => ?_)
  exact e_r (fun i => match i with | 0 => a1 | _ => 0) hx hb hr (by first | exact Or.inr ⟨_, rfl⟩ | exact Or.inl ⟨_, rfl⟩) hlocks rfl hP hD hS (Nat.le_of_ble_eq_true rfl) (Nat.le_of_ble_eq_true rfl) dJx4a65c_grow_92f84_59
set_option maxHeartbeats 4000000 in
set_option maxRecDepth 100000 in
theorem c59_Jx4a65c_grow_d5877 (l : Launch) (hfl : l.stackTraces = false) (D : va_G) (cA : Nat → ClassId) (g : gv_T) (h0 : Nat) : CT l yJx4a65c_grow_d5877 cJx4a65c_grow_d5877 1 (some (.array (.object "java/lang/Object"))) (RM 2 1 10 53) D cA g [.ref h0] [(h0, .inr (2, [.int 1, .ref g.1, .int 0]))] (fun q => some (.ref (q 0))) (fun q => [(h0, .inr (2, [.int 1, .ref (q 0), .int 0])), ((q 0), .inl (cA 4, 10, .inr (.inr (.inr (.inr (fun _ => none))))))]) := by
  refine CT.of (by decide +kernel) (Nat.le_of_ble_eq_true rfl) ?_
  intro p e s m args below meth c A ls hx hb hr hml hown hG hlocks hnm hA hS hP hK hD hGV hl
  have hown : s.vm.findClass RJx4a65c = some m.cls := hown
  have hl : lv_has ls 1 [(0, .ref h0)] := hl
  have hSF : CF p m c cJx4a65c_grow_d5877 1 s args RJx4a65c := ⟨hx, hb, hml, hown, hG⟩
  refine lv_aload_n hx hb dJx4a65c_grow_d5877_0 rfl (lv_at hl 0 rfl) ?_
  refine lv_aload_n hx hb dJx4a65c_grow_d5877_1 rfl (lv_at hl 0 rfl) ?_
  refine k_get (ci := 2) (C := RJx4a65c) (T := TJx4a65c) (N := 3) (v := .int 0) hx hb hG inJx4a65c hown hK hP 0 rfl rfl 2 (by decide) gw1208 rfl dJx4a65c_grow_d5877_2 ?_
  refine lv_iconst (v := 1) hx hb dJx4a65c_grow_d5877_5 (by decide) ?_
  refine k_iadd (v := 1) hx hb dJx4a65c_grow_d5877_6 (by decide) ?_
  refine ct_V (wr := []) hSF hl.1 hP hD hS hA hK hGV (c58_Jx4a65c_grow_92f84 l hfl D cA g h0) goV_Jx4a65c_69 pd_Jx4a65c_grow_92f84 ⟨(Nat.le_of_ble_eq_true rfl), (Nat.le_of_ble_eq_true rfl)⟩ ⟨(Nat.le_of_ble_eq_true rfl), (Nat.le_of_ble_eq_true rfl)⟩ (va_recv hK hP (ci := 2) (q0 := 0) rfl rfl) dJx4a65c_grow_d5877_7 rfl (Nat.le_of_ble_eq_true rfl) [0] [] rfl (by decide) rfl (by decide) (by decide) (fun q => [(h0, .inr (2, [.int 1, .ref (q 0), .int 0])), ((q 0), .inl (cA 4, 10, .inr (.inr (.inr (.inr (fun _ => none))))))]) (fun _ => rfl) (fun q1 H locs hP hD hS => ?_)
  refine W.eq (g2 := F0 m 10 ls [.ref (q1 0)]) rfl ?_
  exact e_r (fun i => match i with | 0 => (q1 0) | _ => 0) hx hb hr (by first | exact Or.inr ⟨_, rfl⟩ | exact Or.inl ⟨_, rfl⟩) hlocks rfl hP hD hS (Nat.le_of_ble_eq_true rfl) (Nat.le_of_ble_eq_true rfl) dJx4a65c_grow_d5877_10
set_option maxHeartbeats 4000000 in
set_option maxRecDepth 100000 in
theorem c60_Jx4a65c_add_72be8 (l : Launch) (hfl : l.stackTraces = false) (D : va_G) (cA : Nat → ClassId) (g : gv_T) (h0 h1 : Nat) (p0 : Int32) (p1 : Int32) : CT l yJx4a65c_add_72be8 cJx4a65c_add_72be8 4 none (RM 3 1 10 73) D cA g [.ref h0, .ref h1, .ref g.1, .int 0] [(h0, .inr (2, [.int 1, .ref g.1, .int 0])), (h1, .inr (12, [.int p0, .int p1, .int 45, .long 0, .long 0, .int 0]))] (fun q => none) (fun q => [(h0, .inr (2, [.int 1, .ref (q 0), .int 1])), (h1, .inr (12, [.int p0, .int p1, .int 45, .long 0, .long 0, .int 0])), ((q 0), .inl (cA 4, 10, .inr (.inr (.inr (.inr (va_up (fun _ => none) 0 (some h1)))))))]) := by
  refine CT.of (by decide +kernel) (Nat.le_of_ble_eq_true rfl) ?_
  intro p e s m args below meth c A ls hx hb hr hml hown hG hlocks hnm hA hS hP hK hD hGV hl
  have hown : s.vm.findClass RJx4a65c = some m.cls := hown
  have hl : lv_has ls 4 [(0, .ref h0), (1, .ref h1), (2, .ref g.1), (3, .int 0)] := hl
  have hSF : CF p m c cJx4a65c_add_72be8 4 s args RJx4a65c := ⟨hx, hb, hml, hown, hG⟩
  refine lv_iload_n hx hb dJx4a65c_add_72be8_0 rfl (lv_at hl 3 rfl) ?_
  refine lv_aload_n hx hb dJx4a65c_add_72be8_1 rfl (lv_at hl 2 rfl) ?_
  refine k_elen hx hb hGV hS dJx4a65c_add_72be8_2 ?_
  refine k_icmp_ne_f (tgt := 11) hx hb dJx4a65c_add_72be8_3 (by decide) (by decide) ?_
  refine lv_aload_n hx hb dJx4a65c_add_72be8_6 rfl (lv_at hl 0 rfl) ?_
  refine ct_V (wr := [(h1, .inr (12, [.int p0, .int p1, .int 45, .long 0, .long 0, .int 0]))]) hSF hl.1 hP hD hS hA hK hGV (c59_Jx4a65c_grow_d5877 l hfl D cA g h0) goV_Jx4a65c_129 pd_Jx4a65c_grow_d5877 ⟨(Nat.le_of_ble_eq_true rfl), (Nat.le_of_ble_eq_true rfl)⟩ ⟨(Nat.le_of_ble_eq_true rfl), (Nat.le_of_ble_eq_true rfl)⟩ (va_recv hK hP (ci := 2) (q0 := 0) rfl rfl) dJx4a65c_add_72be8_7 rfl (Nat.le_of_ble_eq_true rfl) [0] [1] rfl (by decide) rfl (by decide) (by decide) (fun q => [(h1, .inr (12, [.int p0, .int p1, .int 45, .long 0, .long 0, .int 0])), (h0, .inr (2, [.int 1, .ref (q 0), .int 0])), ((q 0), .inl (cA 4, 10, .inr (.inr (.inr (.inr (fun _ => none))))))]) (fun _ => rfl) (fun q1 H locs hP hD hS => ?_)
  refine W.eq (g2 := F0 m 10 ls [.ref (q1 0)]) rfl ?_
  refine lv_astore_n (lv' := [(2, .ref (q1 0)), (0, .ref h0), (1, .ref h1), (3, .int 0)]) hx hb dJx4a65c_add_72be8_10 rfl hl (by decide) rfl (fun ls hl => ?_)
  refine lv_aload_n hx hb dJx4a65c_add_72be8_11 rfl (lv_at hl 0 rfl) ?_
  refine lv_iload_n hx hb dJx4a65c_add_72be8_12 rfl (lv_at hl 3 rfl) ?_
  refine lv_aload_n hx hb dJx4a65c_add_72be8_13 rfl (lv_at hl 2 rfl) ?_
  refine k_astq (r := (RX9, TX9, 6)) (ws1 := [(h1, .inr (12, [.int p0, .int p1, .int 45, .long 0, .long 0, .int 0])), (h0, .inr (2, [.int 1, .ref (q1 0), .int 0])), ((q1 0), .inl (cA 4, 10, .inr (.inr (.inr (.inr (va_up (fun _ => none) 0 (some h1)))))))]) hx hb hK hP hD hS hGV.2.2.2.2.1 2 0 12 rfl gw1868 rfl rfl rfl (by unfold vp_in; decide) dJx4a65c_add_72be8_14 (fun H locs hP hD hS => ?_)
  refine lv_aload_n hx hb dJx4a65c_add_72be8_15 rfl (lv_at hl 1 rfl) ?_
  refine lv_iload_n hx hb dJx4a65c_add_72be8_16 rfl (lv_at hl 3 rfl) ?_
  refine lv_iconst (v := 1) hx hb dJx4a65c_add_72be8_17 (by decide) ?_
  refine k_iadd (v := 1) hx hb dJx4a65c_add_72be8_18 (by decide) ?_
  refine k_put (ci := 2) (C := RJx4a65c) (T := TJx4a65c) (N := 3) (v := .int 1) (ws1 := [(h1, .inr (12, [.int p0, .int p1, .int 45, .long 0, .long 0, .int 0])), (h0, .inr (2, [.int 1, .ref (q1 0), .int 1])), ((q1 0), .inl (cA 4, 10, .inr (.inr (.inr (.inr (va_up (fun _ => none) 0 (some h1)))))))]) hx hb hG inJx4a65c tyJx4a65c tyJx4a65c_ok nmJx4a65c hown hK hP hD hS 1 rfl rfl 2 (by decide) gw1208 rfl ⟨rfl, rfl⟩ rfl (Nat.le_of_ble_eq_true rfl) dJx4a65c_add_72be8_19 (fun H locs hP hD hS => ?_)
  exact e_v (fun i => match i with | 0 => (q1 0) | _ => 0) hx hb hr hlocks rfl (hP.sub [1, 0, 2] rfl) (hD.sub [1, 0, 2] (by decide) rfl) hS (Nat.le_of_ble_eq_true rfl) (Nat.le_of_ble_eq_true rfl) dJx4a65c_add_72be8_22
set_option maxHeartbeats 4000000 in
set_option maxRecDepth 100000 in
theorem c61_Jx4a65c_add_9ea2d (l : Launch) (hfl : l.stackTraces = false) (D : va_G) (cA : Nat → ClassId) (g : gv_T) (h0 h1 : Nat) (p0 : Int32) (p1 : Int32) : CT l yJx4a65c_add_9ea2d cJx4a65c_add_9ea2d 2 (some .boolean) (RM 4 1 10 96) D cA g [.ref h0, .ref h1] [(h0, .inr (2, [.int 0, .ref g.1, .int 0])), (h1, .inr (12, [.int p0, .int p1, .int 45, .long 0, .long 0, .int 0]))] (fun q => some (.int 1)) (fun q => [(h0, .inr (2, [.int 1, .ref (q 0), .int 1])), (h1, .inr (12, [.int p0, .int p1, .int 45, .long 0, .long 0, .int 0])), ((q 0), .inl (cA 4, 10, .inr (.inr (.inr (.inr (va_up (fun _ => none) 0 (some h1)))))))]) := by
  refine CT.of (by decide +kernel) (Nat.le_of_ble_eq_true rfl) ?_
  intro p e s m args below meth c A ls hx hb hr hml hown hG hlocks hnm hA hS hP hK hD hGV hl
  have hown : s.vm.findClass RJx4a65c = some m.cls := hown
  have hl : lv_has ls 2 [(0, .ref h0), (1, .ref h1)] := hl
  have hSF : CF p m c cJx4a65c_add_9ea2d 2 s args RJx4a65c := ⟨hx, hb, hml, hown, hG⟩
  refine lv_aload_n hx hb dJx4a65c_add_9ea2d_0 rfl (lv_at hl 0 rfl) ?_
  refine lv_dup hx hb dJx4a65c_add_9ea2d_1 rfl ?_
  refine k_getR (ci := 2) (C := RJx4a65c) (T := TJx4a65c) (N := 3) (v := .int 0) hx hb hG inJx4a65c hown hK hP 0 rfl rfl 0 (by decide) gw1210 gw1211 rfl dJx4a65c_add_9ea2d_2 ?_
  refine lv_iconst (v := 1) hx hb dJx4a65c_add_9ea2d_5 (by decide) ?_
  refine k_iadd (v := 1) hx hb dJx4a65c_add_9ea2d_6 (by decide) ?_
  refine k_putR (ci := 2) (C := RJx4a65c) (T := TJx4a65c) (N := 3) (v := .int 1) (ws1 := [(h0, .inr (2, [.int 1, .ref g.1, .int 0])), (h1, .inr (12, [.int p0, .int p1, .int 45, .long 0, .long 0, .int 0]))]) hx hb hG inJx4a65c tyJx4a65c tyJx4a65c_ok nmJx4a65c hown hK hP hD hS 0 rfl rfl 0 (by decide) gw1210 gw1211 rfl ⟨rfl, rfl⟩ rfl (Nat.le_of_ble_eq_true rfl) dJx4a65c_add_9ea2d_7 (fun H locs hP hD hS => ?_)
  refine lv_aload_n hx hb dJx4a65c_add_9ea2d_10 rfl (lv_at hl 0 rfl) ?_
  refine lv_aload_n hx hb dJx4a65c_add_9ea2d_11 rfl (lv_at hl 1 rfl) ?_
  refine lv_aload_n hx hb dJx4a65c_add_9ea2d_12 rfl (lv_at hl 0 rfl) ?_
  refine k_get (ci := 2) (C := RJx4a65c) (T := TJx4a65c) (N := 3) (v := .ref g.1) hx hb hG inJx4a65c hown hK hP 0 rfl rfl 1 (by decide) gw1207 rfl dJx4a65c_add_9ea2d_13 ?_
  refine lv_aload_n hx hb dJx4a65c_add_9ea2d_16 rfl (lv_at hl 0 rfl) ?_
  refine k_get (ci := 2) (C := RJx4a65c) (T := TJx4a65c) (N := 3) (v := .int 0) hx hb hG inJx4a65c hown hK hP 0 rfl rfl 2 (by decide) gw1208 rfl dJx4a65c_add_9ea2d_17 ?_
  refine ct_V (wr := []) hSF hl.1 hP hD hS hA hK hGV (c60_Jx4a65c_add_72be8 l hfl D cA g h0 h1 (p0) (p1)) goV_Jx4a65c_131 pd_Jx4a65c_add_72be8 ⟨(Nat.le_of_ble_eq_true rfl), (Nat.le_of_ble_eq_true rfl)⟩ ⟨(Nat.le_of_ble_eq_true rfl), (Nat.le_of_ble_eq_true rfl)⟩ (va_recv hK hP (ci := 2) (q0 := 0) rfl rfl) dJx4a65c_add_9ea2d_20 rfl (Nat.le_of_ble_eq_true rfl) [0, 1] [] rfl (by decide) rfl (by decide) (by decide) (fun q => [(h0, .inr (2, [.int 1, .ref (q 0), .int 1])), (h1, .inr (12, [.int p0, .int p1, .int 45, .long 0, .long 0, .int 0])), ((q 0), .inl (cA 4, 10, .inr (.inr (.inr (.inr (va_up (fun _ => none) 0 (some h1)))))))]) (fun _ => rfl) (fun q1 H locs hP hD hS => ?_)
  refine W.eq (g2 := F0 m 23 ls []) rfl ?_
  refine lv_iconst (v := 1) hx hb dJx4a65c_add_9ea2d_23 (by decide) ?_
  exact e_i (fun i => match i with | 0 => (q1 0) | _ => 0) hx hb hr hlocks rfl rfl hP hD hS (Nat.le_of_ble_eq_true rfl) (Nat.le_of_ble_eq_true rfl) dJx4a65c_add_9ea2d_24
set_option maxHeartbeats 4000000 in
set_option maxRecDepth 100000 in
theorem c62_X12_changes (l : Launch) (hfl : l.stackTraces = false) (D : va_G) (cA : Nat → ClassId) (g : gv_T) (h0 h1 h2 h3 h4 h5 h6 h7 h8 h9 h10 h11 h12 h13 h14 h15 h16 h17 h18 : Nat) : CT l yX12_changes cX12_changes 1 none (RM 0 0 0 0) D cA g [.ref h0] [(h0, .inr (15, [.ref h1, .ref h2, .ref h3, .ref h4, .ref h5, .ref h6, .ref h7, .ref h8, .ref h9, .ref h10, .ref h11, .ref h12, .ref h13, .ref h14, .ref h15, .ref h16, .ref h17, .ref h18, .long 0, .int 0, .int 2, .int 0, .int 0, .int 0, .int 0, .int 0, .int 0]))] (fun q => none) (fun q => [(h0, .inr (15, [.ref h1, .ref h2, .ref h3, .ref h4, .ref h5, .ref h6, .ref h7, .ref h8, .ref h9, .ref h10, .ref h11, .ref h12, .ref h13, .ref h14, .ref h15, .ref h16, .ref h17, .ref h18, .long 0, .int 0, .int 2, .int 0, .int 0, .int 0, .int 0, .int 0, .int 0]))]) := by
  refine CT.of (by decide +kernel) (Nat.le_of_ble_eq_true rfl) ?_
  intro p e s m args below meth c A ls hx hb hr hml hown hG hlocks hnm hA hS hP hK hD hGV hl
  have hown : s.vm.findClass RX12 = some m.cls := hown
  have hl : lv_has ls 1 [(0, .ref h0)] := hl
  have hSF : CF p m c cX12_changes 1 s args RX12 := ⟨hx, hb, hml, hown, hG⟩
  refine lv_aload_n hx hb dX12_changes_0 rfl (lv_at hl 0 rfl) ?_
  refine lv_iconst (v := 0) hx hb dX12_changes_1 (by decide) ?_
  refine k_put (ci := 15) (C := RX12) (T := TX12) (N := 27) (v := .int 0) (ws1 := [(h0, .inr (15, [.ref h1, .ref h2, .ref h3, .ref h4, .ref h5, .ref h6, .ref h7, .ref h8, .ref h9, .ref h10, .ref h11, .ref h12, .ref h13, .ref h14, .ref h15, .ref h16, .ref h17, .ref h18, .long 0, .int 0, .int 2, .int 0, .int 0, .int 0, .int 0, .int 0, .int 0]))]) hx hb hG inX12 tyX12 tyX12_ok nmX12 hown hK hP hD hS 0 rfl rfl 22 (by decide) gw1241 rfl ⟨rfl, rfl⟩ rfl (Nat.le_of_ble_eq_true rfl) dX12_changes_2 (fun H locs hP hD hS => ?_)
  refine lv_aload_n hx hb dX12_changes_5 rfl (lv_at hl 0 rfl) ?_
  refine lv_iconst (v := 0) hx hb dX12_changes_6 (by decide) ?_
  refine k_put (ci := 15) (C := RX12) (T := TX12) (N := 27) (v := .int 0) (ws1 := [(h0, .inr (15, [.ref h1, .ref h2, .ref h3, .ref h4, .ref h5, .ref h6, .ref h7, .ref h8, .ref h9, .ref h10, .ref h11, .ref h12, .ref h13, .ref h14, .ref h15, .ref h16, .ref h17, .ref h18, .long 0, .int 0, .int 2, .int 0, .int 0, .int 0, .int 0, .int 0, .int 0]))]) hx hb hG inX12 tyX12 tyX12_ok nmX12 hown hK hP hD hS 0 rfl rfl 24 (by decide) gw1243 rfl ⟨rfl, rfl⟩ rfl (Nat.le_of_ble_eq_true rfl) dX12_changes_7 (fun H locs hP hD hS => ?_)
  refine lv_aload_n hx hb dX12_changes_10 rfl (lv_at hl 0 rfl) ?_
  refine lv_iconst (v := 0) hx hb dX12_changes_11 (by decide) ?_
  refine k_put (ci := 15) (C := RX12) (T := TX12) (N := 27) (v := .int 0) (ws1 := [(h0, .inr (15, [.ref h1, .ref h2, .ref h3, .ref h4, .ref h5, .ref h6, .ref h7, .ref h8, .ref h9, .ref h10, .ref h11, .ref h12, .ref h13, .ref h14, .ref h15, .ref h16, .ref h17, .ref h18, .long 0, .int 0, .int 2, .int 0, .int 0, .int 0, .int 0, .int 0, .int 0]))]) hx hb hG inX12 tyX12 tyX12_ok nmX12 hown hK hP hD hS 0 rfl rfl 25 (by decide) gw1244 rfl ⟨rfl, rfl⟩ rfl (Nat.le_of_ble_eq_true rfl) dX12_changes_12 (fun H locs hP hD hS => ?_)
  exact e_v (fun _ => 0) hx hb hr hlocks rfl hP hD hS (Nat.le_of_ble_eq_true rfl) (Nat.le_of_ble_eq_true rfl) dX12_changes_15
set_option maxHeartbeats 4000000 in
set_option maxRecDepth 100000 in
theorem c63_Jx4a65c_size_8abf5 (l : Launch) (hfl : l.stackTraces = false) (D : va_G) (cA : Nat → ClassId) (g : gv_T) (h0 h1 : Nat) : CT l yJx4a65c_size_8abf5 cJx4a65c_size_8abf5 1 (some .int) (RM 0 0 0 0) D cA g [.ref h0] [(h0, .inr (2, [.int 1, .ref h1, .int 1]))] (fun q => some (.int 1)) (fun q => [(h0, .inr (2, [.int 1, .ref h1, .int 1]))]) := by
  refine CT.of (by decide +kernel) (Nat.le_of_ble_eq_true rfl) ?_
  intro p e s m args below meth c A ls hx hb hr hml hown hG hlocks hnm hA hS hP hK hD hGV hl
  have hown : s.vm.findClass RJx4a65c = some m.cls := hown
  have hl : lv_has ls 1 [(0, .ref h0)] := hl
  have hSF : CF p m c cJx4a65c_size_8abf5 1 s args RJx4a65c := ⟨hx, hb, hml, hown, hG⟩
  refine lv_aload_n hx hb dJx4a65c_size_8abf5_0 rfl (lv_at hl 0 rfl) ?_
  refine k_get (ci := 2) (C := RJx4a65c) (T := TJx4a65c) (N := 3) (v := .int 1) hx hb hG inJx4a65c hown hK hP 0 rfl rfl 2 (by decide) gw1208 rfl dJx4a65c_size_8abf5_1 ?_
  exact e_i (fun _ => 0) hx hb hr hlocks rfl rfl hP hD hS (Nat.le_of_ble_eq_true rfl) (Nat.le_of_ble_eq_true rfl) dJx4a65c_size_8abf5_4
set_option maxHeartbeats 4000000 in
set_option maxRecDepth 100000 in
theorem c64_X12_tell (l : Launch) (hfl : l.stackTraces = false) (D : va_G) (cA : Nat → ClassId) (g : gv_T) (h0 h1 h2 h3 h4 h5 h6 h7 h8 h9 h10 h11 h12 h13 h14 h15 h16 h17 h18 : Nat) : CT l yX12_tell cX12_tell 2 (some .int) (RM 0 0 0 0) D cA g [.ref h0, .int 0] [(h0, .inr (15, [.ref h1, .ref h2, .ref h3, .ref h4, .ref h5, .ref h6, .ref h7, .ref h8, .ref h9, .ref h10, .ref h11, .ref h12, .ref h13, .ref h14, .ref h15, .ref h16, .ref h17, .ref h18, .long 0, .int 0, .int 2, .int 0, .int 0, .int 0, .int 0, .int 0, .int 0]))] (fun q => some (.int 0)) (fun q => [(h0, .inr (15, [.ref h1, .ref h2, .ref h3, .ref h4, .ref h5, .ref h6, .ref h7, .ref h8, .ref h9, .ref h10, .ref h11, .ref h12, .ref h13, .ref h14, .ref h15, .ref h16, .ref h17, .ref h18, .long 0, .int 0, .int 2, .int 0, .int 0, .int 0, .int 0, .int 0, .int 0]))]) := by
  refine CT.of (by decide +kernel) (Nat.le_of_ble_eq_true rfl) ?_
  intro p e s m args below meth c A ls hx hb hr hml hown hG hlocks hnm hA hS hP hK hD hGV hl
  have hown : s.vm.findClass RX12 = some m.cls := hown
  have hl : lv_has ls 2 [(0, .ref h0), (1, .int 0)] := hl
  have hSF : CF p m c cX12_tell 2 s args RX12 := ⟨hx, hb, hml, hown, hG⟩
  refine lv_aload_n hx hb dX12_tell_0 rfl (lv_at hl 0 rfl) ?_
  refine lv_iconst (v := 0) hx hb dX12_tell_1 (by decide) ?_
  refine k_put (ci := 15) (C := RX12) (T := TX12) (N := 27) (v := .int 0) (ws1 := [(h0, .inr (15, [.ref h1, .ref h2, .ref h3, .ref h4, .ref h5, .ref h6, .ref h7, .ref h8, .ref h9, .ref h10, .ref h11, .ref h12, .ref h13, .ref h14, .ref h15, .ref h16, .ref h17, .ref h18, .long 0, .int 0, .int 2, .int 0, .int 0, .int 0, .int 0, .int 0, .int 0]))]) hx hb hG inX12 tyX12 tyX12_ok nmX12 hown hK hP hD hS 0 rfl rfl 19 (by decide) gw1238 rfl ⟨rfl, rfl⟩ rfl (Nat.le_of_ble_eq_true rfl) dX12_tell_2 (fun H locs hP hD hS => ?_)
  refine lv_iload_n hx hb dX12_tell_5 rfl (lv_at hl 1 rfl) ?_
  exact e_i (fun _ => 0) hx hb hr hlocks rfl rfl hP hD hS (Nat.le_of_ble_eq_true rfl) (Nat.le_of_ble_eq_true rfl) dX12_tell_6
set_option maxHeartbeats 4000000 in
set_option maxRecDepth 100000 in
theorem c65_X12_node (l : Launch) (hfl : l.stackTraces = false) (D : va_G) (cA : Nat → ClassId) (g : gv_T) (h0 h1 h2 h3 h4 h5 h6 h7 h8 h9 h10 h11 h12 h13 h14 h15 h16 h17 h18 : Nat) (p0 : Int32) (p1 : Int32) (k0 : ¬ (lg_cmp p0.toInt64 0) < 0) (k1 : ¬ 0 < (lg_cmp p0.toInt64 30)) (k2 : ¬ (lg_cmp p1.toInt64 0) < 0) (k3 : ¬ 0 < (lg_cmp p1.toInt64 30)) : CT l yX12_node cX12_node 4 (some .int) (RM 5 2 16 117) D cA g [.ref h0, .int p0, .int p1, .int 45] [(h0, .inr (15, [.ref h1, .ref h2, .ref h3, .ref h4, .ref h5, .ref h6, .ref h7, .ref h8, .ref h9, .ref h10, .ref h11, .ref h12, .ref h13, .ref h14, .ref h15, .ref h16, .ref h17, .ref h18, .long 0, .int 0, .int 2, .int 0, .int 0, .int 0, .int 0, .int 0, .int 0])), (h1, .inr (2, [.int 0, .ref g.1, .int 0]))] (fun q => some (.int 0)) (fun q => [(h0, .inr (15, [.ref h1, .ref h2, .ref h3, .ref h4, .ref h5, .ref h6, .ref h7, .ref h8, .ref h9, .ref h10, .ref h11, .ref h12, .ref h13, .ref h14, .ref h15, .ref h16, .ref h17, .ref h18, .long 0, .int 0, .int 2, .int 0, .int 0, .int 0, .int 0, .int 0, .int 0])), (h1, .inr (2, [.int 1, .ref (q 1), .int 1])), ((q 0), .inr (12, [.int p0, .int p1, .int 45, .long 0, .long 0, .int 0])), ((q 1), .inl (cA 4, 10, .inr (.inr (.inr (.inr (va_up (fun _ => none) 0 (some (q 0))))))))]) := by
  refine CT.of (by decide +kernel) (Nat.le_of_ble_eq_true rfl) ?_
  intro p e s m args below meth c A ls hx hb hr hml hown hG hlocks hnm hA hS hP hK hD hGV hl
  have hown : s.vm.findClass RX12 = some m.cls := hown
  have hl : lv_has ls 4 [(0, .ref h0), (1, .int p0), (2, .int p1), (3, .int 45)] := hl
  have hSF : CF p m c cX12_node 4 s args RX12 := ⟨hx, hb, hml, hown, hG⟩
  refine lv_iload_n hx hb dX12_node_0 rfl (lv_at hl 1 rfl) ?_
  refine lv_i2l (v := p0.toInt64) hx hb dX12_node_1 rfl ?_
  refine lv_iconst (v := 0) hx hb dX12_node_2 (by decide) ?_
  refine lv_bipush (v := 30) hx hb dX12_node_3 (by decide) ?_
  refine ct_S (wr := [(h0, .inr (15, [.ref h1, .ref h2, .ref h3, .ref h4, .ref h5, .ref h6, .ref h7, .ref h8, .ref h9, .ref h10, .ref h11, .ref h12, .ref h13, .ref h14, .ref h15, .ref h16, .ref h17, .ref h18, .long 0, .int 0, .int 2, .int 0, .int 0, .int 0, .int 0, .int 0, .int 0])), (h1, .inr (2, [.int 0, .ref g.1, .int 0]))]) hSF hl.1 hP hD hS hA hK hGV (c26_X12_in l hfl D cA g (p0.toInt64) k0 k1) goS_X12_285 pd_X12_in.2 ⟨(Nat.le_of_ble_eq_true rfl), (Nat.le_of_ble_eq_true rfl)⟩ ⟨(Nat.le_of_ble_eq_true rfl), (Nat.le_of_ble_eq_true rfl)⟩ dX12_node_5 rfl (Nat.le_of_ble_eq_true rfl) [] [0, 1] rfl (by decide) rfl (by decide) (by decide) (fun q => [(h0, .inr (15, [.ref h1, .ref h2, .ref h3, .ref h4, .ref h5, .ref h6, .ref h7, .ref h8, .ref h9, .ref h10, .ref h11, .ref h12, .ref h13, .ref h14, .ref h15, .ref h16, .ref h17, .ref h18, .long 0, .int 0, .int 2, .int 0, .int 0, .int 0, .int 0, .int 0, .int 0])), (h1, .inr (2, [.int 0, .ref g.1, .int 0]))]) (fun _ => rfl) (fun q1 H locs hP hD hS => ?_)
  refine W.eq (g2 := F0 m 8 ls [.int 1]) rfl ?_
  refine k_if_eq_f (tgt := 40) hx hb dX12_node_8 (by decide) (by decide) ?_
  refine lv_iload_n hx hb dX12_node_11 rfl (lv_at hl 2 rfl) ?_
  refine lv_i2l (v := p1.toInt64) hx hb dX12_node_12 rfl ?_
  refine lv_iconst (v := 0) hx hb dX12_node_13 (by decide) ?_
  refine lv_bipush (v := 30) hx hb dX12_node_14 (by decide) ?_
  refine ct_S (wr := [(h0, .inr (15, [.ref h1, .ref h2, .ref h3, .ref h4, .ref h5, .ref h6, .ref h7, .ref h8, .ref h9, .ref h10, .ref h11, .ref h12, .ref h13, .ref h14, .ref h15, .ref h16, .ref h17, .ref h18, .long 0, .int 0, .int 2, .int 0, .int 0, .int 0, .int 0, .int 0, .int 0])), (h1, .inr (2, [.int 0, .ref g.1, .int 0]))]) hSF hl.1 hP hD hS hA hK hGV (c26_X12_in l hfl D cA g (p1.toInt64) k2 k3) goS_X12_285 pd_X12_in.2 ⟨(Nat.le_of_ble_eq_true rfl), (Nat.le_of_ble_eq_true rfl)⟩ ⟨(Nat.le_of_ble_eq_true rfl), (Nat.le_of_ble_eq_true rfl)⟩ dX12_node_16 rfl (Nat.le_of_ble_eq_true rfl) [] [0, 1] rfl (by decide) rfl (by decide) (by decide) (fun q => [(h0, .inr (15, [.ref h1, .ref h2, .ref h3, .ref h4, .ref h5, .ref h6, .ref h7, .ref h8, .ref h9, .ref h10, .ref h11, .ref h12, .ref h13, .ref h14, .ref h15, .ref h16, .ref h17, .ref h18, .long 0, .int 0, .int 2, .int 0, .int 0, .int 0, .int 0, .int 0, .int 0])), (h1, .inr (2, [.int 0, .ref g.1, .int 0]))]) (fun _ => rfl) (fun q2 H locs hP hD hS => ?_)
  refine W.eq (g2 := F0 m 19 ls [.int 1]) rfl ?_
  refine k_if_eq_f (tgt := 40) hx hb dX12_node_19 (by decide) (by decide) ?_
  refine lv_iload_n hx hb dX12_node_22 rfl (lv_at hl 3 rfl) ?_
  refine lv_bipush (v := 45) hx hb dX12_node_23 (by decide) ?_
  refine k_icmp_eq_t (tgt := 46) hx hb dX12_node_25 (by decide) (by decide) ?_
  refine lv_aload_n hx hb dX12_node_46 rfl (lv_at hl 0 rfl) ?_
  refine k_get (ci := 15) (C := RX12) (T := TX12) (N := 27) (v := .ref h1) hx hb hG inX12 hown hK hP 0 rfl rfl 0 (by decide) gw1219 rfl dX12_node_47 ?_
  refine ct_V (wr := [(h0, .inr (15, [.ref h1, .ref h2, .ref h3, .ref h4, .ref h5, .ref h6, .ref h7, .ref h8, .ref h9, .ref h10, .ref h11, .ref h12, .ref h13, .ref h14, .ref h15, .ref h16, .ref h17, .ref h18, .long 0, .int 0, .int 2, .int 0, .int 0, .int 0, .int 0, .int 0, .int 0]))]) hSF hl.1 hP hD hS hA hK hGV (c56_Jx4a65c_size_8abf5 l hfl D cA g h1) goV_X12_125 pd_Jx4a65c_size_8abf5 ⟨(Nat.le_of_ble_eq_true rfl), (Nat.le_of_ble_eq_true rfl)⟩ ⟨(Nat.le_of_ble_eq_true rfl), (Nat.le_of_ble_eq_true rfl)⟩ (va_recv hK hP (ci := 2) (q0 := 1) rfl rfl) dX12_node_50 rfl (Nat.le_of_ble_eq_true rfl) [1] [0] rfl (by decide) rfl (by decide) (by decide) (fun q => [(h0, .inr (15, [.ref h1, .ref h2, .ref h3, .ref h4, .ref h5, .ref h6, .ref h7, .ref h8, .ref h9, .ref h10, .ref h11, .ref h12, .ref h13, .ref h14, .ref h15, .ref h16, .ref h17, .ref h18, .long 0, .int 0, .int 2, .int 0, .int 0, .int 0, .int 0, .int 0, .int 0])), (h1, .inr (2, [.int 0, .ref g.1, .int 0]))]) (fun _ => rfl) (fun q3 H locs hP hD hS => ?_)
  refine W.eq (g2 := F0 m 53 ls [.int 0]) rfl ?_
  refine lv_bipush (v := 8) hx hb dX12_node_53 (by decide) ?_
  refine k_icmp_ne_t (tgt := 64) hx hb dX12_node_55 (by decide) (by decide) ?_
  refine lv_aload_n hx hb dX12_node_64 rfl (lv_at hl 0 rfl) ?_
  refine k_get (ci := 15) (C := RX12) (T := TX12) (N := 27) (v := .ref h1) hx hb hG inX12 hown hK hP 0 rfl rfl 0 (by decide) gw1219 rfl dX12_node_65 ?_
  refine k_new (ci := 12) (C := RX9) (T := TX9) (N := 6) hx hb hG inX9 tyX9 tyX9_ok hown gw1320 gw1321 gw97 hK hP hD hS hA rfl [.int 0, .int 0, .int 0, .long 0, .long 0, .int 0] rfl (Nat.le_of_ble_eq_true rfl) (Nat.le_of_ble_eq_true rfl) dX12_node_68 (fun a19 H hP hD hS => ?_)
  have hP : va_P D vwCl [(h0, .inr (15, [.ref h1, .ref h2, .ref h3, .ref h4, .ref h5, .ref h6, .ref h7, .ref h8, .ref h9, .ref h10, .ref h11, .ref h12, .ref h13, .ref h14, .ref h15, .ref h16, .ref h17, .ref h18, .long 0, .int 0, .int 2, .int 0, .int 0, .int 0, .int 0, .int 0, .int 0])), (h1, .inr (2, [.int 0, .ref g.1, .int 0])), (a19, .inr (12, [.int 0, .int 0, .int 0, .long 0, .long 0, .int 0]))] H := hP
  have hD : va_D _ [(h0, .inr (15, [.ref h1, .ref h2, .ref h3, .ref h4, .ref h5, .ref h6, .ref h7, .ref h8, .ref h9, .ref h10, .ref h11, .ref h12, .ref h13, .ref h14, .ref h15, .ref h16, .ref h17, .ref h18, .long 0, .int 0, .int 2, .int 0, .int 0, .int 0, .int 0, .int 0, .int 0])), (h1, .inr (2, [.int 0, .ref g.1, .int 0])), (a19, .inr (12, [.int 0, .int 0, .int 0, .long 0, .long 0, .int 0]))] := hD
  refine lv_dup hx hb dX12_node_71 rfl ?_
  refine lv_iload_n hx hb dX12_node_72 rfl (lv_at hl 1 rfl) ?_
  refine lv_iload_n hx hb dX12_node_73 rfl (lv_at hl 2 rfl) ?_
  refine lv_iload_n hx hb dX12_node_74 rfl (lv_at hl 3 rfl) ?_
  refine ct_I (wr := [(h0, .inr (15, [.ref h1, .ref h2, .ref h3, .ref h4, .ref h5, .ref h6, .ref h7, .ref h8, .ref h9, .ref h10, .ref h11, .ref h12, .ref h13, .ref h14, .ref h15, .ref h16, .ref h17, .ref h18, .long 0, .int 0, .int 2, .int 0, .int 0, .int 0, .int 0, .int 0, .int 0])), (h1, .inr (2, [.int 0, .ref g.1, .int 0]))]) hSF hl.1 hP hD hS hA hK hGV (c57_X9_init l hfl D cA g a19 (p0) (p1)) gw1322 gw1323 gw97 gw1324 rfl pd_X9_init.2 ⟨(Nat.le_of_ble_eq_true rfl), (Nat.le_of_ble_eq_true rfl)⟩ ⟨(Nat.le_of_ble_eq_true rfl), (Nat.le_of_ble_eq_true rfl)⟩ dX12_node_75 rfl (Nat.le_of_ble_eq_true rfl) [2] [0, 1] rfl (by decide) rfl (by decide) (by decide) (fun q => [(h0, .inr (15, [.ref h1, .ref h2, .ref h3, .ref h4, .ref h5, .ref h6, .ref h7, .ref h8, .ref h9, .ref h10, .ref h11, .ref h12, .ref h13, .ref h14, .ref h15, .ref h16, .ref h17, .ref h18, .long 0, .int 0, .int 2, .int 0, .int 0, .int 0, .int 0, .int 0, .int 0])), (h1, .inr (2, [.int 0, .ref g.1, .int 0])), (a19, .inr (12, [.int p0, .int p1, .int 45, .long 0, .long 0, .int 0]))]) (fun _ => rfl) (fun q4 H locs hP hD hS => ?_)
  refine W.eq (g2 := F0 m 78 ls [.ref a19, .ref h1]) rfl ?_
  refine ct_V (wr := [(h0, .inr (15, [.ref h1, .ref h2, .ref h3, .ref h4, .ref h5, .ref h6, .ref h7, .ref h8, .ref h9, .ref h10, .ref h11, .ref h12, .ref h13, .ref h14, .ref h15, .ref h16, .ref h17, .ref h18, .long 0, .int 0, .int 2, .int 0, .int 0, .int 0, .int 0, .int 0, .int 0]))]) hSF hl.1 hP hD hS hA hK hGV (c61_Jx4a65c_add_9ea2d l hfl D cA g h1 a19 (p0) (p1)) goV_X12_295 pd_Jx4a65c_add_9ea2d ⟨(Nat.le_of_ble_eq_true rfl), (Nat.le_of_ble_eq_true rfl)⟩ ⟨(Nat.le_of_ble_eq_true rfl), (Nat.le_of_ble_eq_true rfl)⟩ (va_recv hK hP (ci := 2) (q0 := 1) rfl rfl) dX12_node_78 rfl (Nat.le_of_ble_eq_true rfl) [1, 2] [0] rfl (by decide) rfl (by decide) (by decide) (fun q => [(h0, .inr (15, [.ref h1, .ref h2, .ref h3, .ref h4, .ref h5, .ref h6, .ref h7, .ref h8, .ref h9, .ref h10, .ref h11, .ref h12, .ref h13, .ref h14, .ref h15, .ref h16, .ref h17, .ref h18, .long 0, .int 0, .int 2, .int 0, .int 0, .int 0, .int 0, .int 0, .int 0])), (h1, .inr (2, [.int 1, .ref (q 0), .int 1])), (a19, .inr (12, [.int p0, .int p1, .int 45, .long 0, .long 0, .int 0])), ((q 0), .inl (cA 4, 10, .inr (.inr (.inr (.inr (va_up (fun _ => none) 0 (some a19)))))))]) (fun _ => rfl) (fun q5 H locs hP hD hS => ?_)
  refine W.eq (g2 := F0 m 81 ls [.int 1]) rfl ?_
  refine lv_pop hx hb dX12_node_81 rfl ?_
  refine lv_aload_n hx hb dX12_node_82 rfl (lv_at hl 0 rfl) ?_
  refine ct_V (wr := [(h1, .inr (2, [.int 1, .ref (q5 0), .int 1])), (a19, .inr (12, [.int p0, .int p1, .int 45, .long 0, .long 0, .int 0])), ((q5 0), .inl (cA 4, 10, .inr (.inr (.inr (.inr (va_up (fun _ => none) 0 (some a19)))))))]) hSF hl.1 hP hD hS hA hK hGV (c62_X12_changes l hfl D cA g h0 h1 h2 h3 h4 h5 h6 h7 h8 h9 h10 h11 h12 h13 h14 h15 h16 h17 h18) goV_X12_299 pd_X12_changes ⟨(Nat.le_of_ble_eq_true rfl), (Nat.le_of_ble_eq_true rfl)⟩ ⟨(Nat.le_of_ble_eq_true rfl), (Nat.le_of_ble_eq_true rfl)⟩ (va_recv hK hP (ci := 15) (q0 := 0) rfl rfl) dX12_node_83 rfl (Nat.le_of_ble_eq_true rfl) [0] [1, 2, 3] rfl (by decide) rfl (by decide) (by decide) (fun q => [(h1, .inr (2, [.int 1, .ref (q5 0), .int 1])), (a19, .inr (12, [.int p0, .int p1, .int 45, .long 0, .long 0, .int 0])), ((q5 0), .inl (cA 4, 10, .inr (.inr (.inr (.inr (va_up (fun _ => none) 0 (some a19))))))), (h0, .inr (15, [.ref h1, .ref h2, .ref h3, .ref h4, .ref h5, .ref h6, .ref h7, .ref h8, .ref h9, .ref h10, .ref h11, .ref h12, .ref h13, .ref h14, .ref h15, .ref h16, .ref h17, .ref h18, .long 0, .int 0, .int 2, .int 0, .int 0, .int 0, .int 0, .int 0, .int 0]))]) (fun _ => rfl) (fun q6 H locs hP hD hS => ?_)
  refine W.eq (g2 := F0 m 86 ls []) rfl ?_
  refine lv_aload_n hx hb dX12_node_86 rfl (lv_at hl 0 rfl) ?_
  refine lv_aload_n hx hb dX12_node_87 rfl (lv_at hl 0 rfl) ?_
  refine k_get (ci := 15) (C := RX12) (T := TX12) (N := 27) (v := .ref h1) hx hb hG inX12 hown hK hP 3 rfl rfl 0 (by decide) gw1219 rfl dX12_node_88 ?_
  refine ct_V (wr := [(a19, .inr (12, [.int p0, .int p1, .int 45, .long 0, .long 0, .int 0])), ((q5 0), .inl (cA 4, 10, .inr (.inr (.inr (.inr (va_up (fun _ => none) 0 (some a19))))))), (h0, .inr (15, [.ref h1, .ref h2, .ref h3, .ref h4, .ref h5, .ref h6, .ref h7, .ref h8, .ref h9, .ref h10, .ref h11, .ref h12, .ref h13, .ref h14, .ref h15, .ref h16, .ref h17, .ref h18, .long 0, .int 0, .int 2, .int 0, .int 0, .int 0, .int 0, .int 0, .int 0]))]) hSF hl.1 hP hD hS hA hK hGV (c63_Jx4a65c_size_8abf5 l hfl D cA g h1 (q5 0)) goV_X12_125 pd_Jx4a65c_size_8abf5 ⟨(Nat.le_of_ble_eq_true rfl), (Nat.le_of_ble_eq_true rfl)⟩ ⟨(Nat.le_of_ble_eq_true rfl), (Nat.le_of_ble_eq_true rfl)⟩ (va_recv hK hP (ci := 2) (q0 := 0) rfl rfl) dX12_node_91 rfl (Nat.le_of_ble_eq_true rfl) [0] [1, 2, 3] rfl (by decide) rfl (by decide) (by decide) (fun q => [(a19, .inr (12, [.int p0, .int p1, .int 45, .long 0, .long 0, .int 0])), ((q5 0), .inl (cA 4, 10, .inr (.inr (.inr (.inr (va_up (fun _ => none) 0 (some a19))))))), (h0, .inr (15, [.ref h1, .ref h2, .ref h3, .ref h4, .ref h5, .ref h6, .ref h7, .ref h8, .ref h9, .ref h10, .ref h11, .ref h12, .ref h13, .ref h14, .ref h15, .ref h16, .ref h17, .ref h18, .long 0, .int 0, .int 2, .int 0, .int 0, .int 0, .int 0, .int 0, .int 0])), (h1, .inr (2, [.int 1, .ref (q5 0), .int 1]))]) (fun _ => rfl) (fun q7 H locs hP hD hS => ?_)
  refine W.eq (g2 := F0 m 94 ls [.int 1, .ref h0]) rfl ?_
  refine lv_iconst (v := 1) hx hb dX12_node_94 (by decide) ?_
  refine k_isub (v := 0) hx hb dX12_node_95 (by decide) ?_
  refine ct_V (wr := [(a19, .inr (12, [.int p0, .int p1, .int 45, .long 0, .long 0, .int 0])), ((q5 0), .inl (cA 4, 10, .inr (.inr (.inr (.inr (va_up (fun _ => none) 0 (some a19))))))), (h1, .inr (2, [.int 1, .ref (q5 0), .int 1]))]) hSF hl.1 hP hD hS hA hK hGV (c64_X12_tell l hfl D cA g h0 h1 h2 h3 h4 h5 h6 h7 h8 h9 h10 h11 h12 h13 h14 h15 h16 h17 h18) goV_X12_302 pd_X12_tell ⟨(Nat.le_of_ble_eq_true rfl), (Nat.le_of_ble_eq_true rfl)⟩ ⟨(Nat.le_of_ble_eq_true rfl), (Nat.le_of_ble_eq_true rfl)⟩ (va_recv hK hP (ci := 15) (q0 := 2) rfl rfl) dX12_node_96 rfl (Nat.le_of_ble_eq_true rfl) [2] [0, 1, 3] rfl (by decide) rfl (by decide) (by decide) (fun q => [(a19, .inr (12, [.int p0, .int p1, .int 45, .long 0, .long 0, .int 0])), ((q5 0), .inl (cA 4, 10, .inr (.inr (.inr (.inr (va_up (fun _ => none) 0 (some a19))))))), (h1, .inr (2, [.int 1, .ref (q5 0), .int 1])), (h0, .inr (15, [.ref h1, .ref h2, .ref h3, .ref h4, .ref h5, .ref h6, .ref h7, .ref h8, .ref h9, .ref h10, .ref h11, .ref h12, .ref h13, .ref h14, .ref h15, .ref h16, .ref h17, .ref h18, .long 0, .int 0, .int 2, .int 0, .int 0, .int 0, .int 0, .int 0, .int 0]))]) (fun _ => rfl) (fun q8 H locs hP hD hS => ?_)
  refine W.eq (g2 := F0 m 99 ls [.int 0]) rfl ?_
  exact e_i (fun i => match i with | 0 => a19 | 1 => (q5 0) | _ => 0) hx hb hr hlocks rfl rfl (hP.sub [3, 2, 0, 1] rfl) (hD.sub [3, 2, 0, 1] (by decide) rfl) hS (Nat.le_of_ble_eq_true rfl) (Nat.le_of_ble_eq_true rfl) dX12_node_99
set_option maxHeartbeats 4000000 in
set_option maxRecDepth 100000 in
theorem c66_X12_thrown (l : Launch) (hfl : l.stackTraces = false) (D : va_G) (cA : Nat → ClassId) (g : gv_T) (h0 h1 h2 h3 h4 h5 h6 h7 h8 h9 h10 h11 h12 h13 h14 h15 h16 h17 h18 : Nat) : CT l yX12_thrown cX12_thrown 1 (some .int) (RM 0 0 0 0) D cA g [.ref h0] [(h0, .inr (15, [.ref h1, .ref h2, .ref h3, .ref h4, .ref h5, .ref h6, .ref h7, .ref h8, .ref h9, .ref h10, .ref h11, .ref h12, .ref h13, .ref h14, .ref h15, .ref h16, .ref h17, .ref h18, .long 0, .int 0, .int 2, .int 0, .int 0, .int 0, .int 0, .int 0, .int 0]))] (fun q => some (.int 0)) (fun q => [(h0, .inr (15, [.ref h1, .ref h2, .ref h3, .ref h4, .ref h5, .ref h6, .ref h7, .ref h8, .ref h9, .ref h10, .ref h11, .ref h12, .ref h13, .ref h14, .ref h15, .ref h16, .ref h17, .ref h18, .long 0, .int 0, .int 2, .int 0, .int 0, .int 0, .int 0, .int 0, .int 0]))]) := by
  refine CT.of (by decide +kernel) (Nat.le_of_ble_eq_true rfl) ?_
  intro p e s m args below meth c A ls hx hb hr hml hown hG hlocks hnm hA hS hP hK hD hGV hl
  have hown : s.vm.findClass RX12 = some m.cls := hown
  have hl : lv_has ls 1 [(0, .ref h0)] := hl
  have hSF : CF p m c cX12_thrown 1 s args RX12 := ⟨hx, hb, hml, hown, hG⟩
  refine lv_aload_n hx hb dX12_thrown_0 rfl (lv_at hl 0 rfl) ?_
  refine k_get (ci := 15) (C := RX12) (T := TX12) (N := 27) (v := .int 0) hx hb hG inX12 hown hK hP 0 rfl rfl 19 (by decide) gw1238 rfl dX12_thrown_1 ?_
  exact e_i (fun _ => 0) hx hb hr hlocks rfl rfl hP hD hS (Nat.le_of_ble_eq_true rfl) (Nat.le_of_ble_eq_true rfl) dX12_thrown_4
set_option maxHeartbeats 4000000 in
set_option maxRecDepth 100000 in
theorem c67_J1_canEncode_9a6ad (l : Launch) (hfl : l.stackTraces = false) (D : va_G) (cA : Nat → ClassId) (g : gv_T) : CT l yJ1_canEncode_9a6ad cJ1_canEncode_9a6ad 1 (some .boolean) (RM 0 0 0 0) D cA g [.int 112] [] (fun q => some (.int 1)) (fun q => []) := by
  refine CT.of (by decide +kernel) (Nat.le_of_ble_eq_true rfl) ?_
  intro p e s m args below meth c A ls hx hb hr hml hown hG hlocks hnm hA hS hP hK hD hGV hl
  have hown : s.vm.findClass RJ1 = some m.cls := hown
  have hl : lv_has ls 1 [(0, .int 112)] := hl
  have hSF : CF p m c cJ1_canEncode_9a6ad 1 s args RJ1 := ⟨hx, hb, hml, hown, hG⟩
  refine lv_iload_n hx hb dJ1_canEncode_9a6ad_0 rfl (lv_at hl 0 rfl) ?_
  refine k_if_lt_f (tgt := 15) hx hb dJ1_canEncode_9a6ad_1 (by decide) (by decide) ?_
  refine lv_iload_n hx hb dJ1_canEncode_9a6ad_4 rfl (lv_at hl 0 rfl) ?_
  refine lv_sipush (v := 255) hx hb dJ1_canEncode_9a6ad_5 (by decide) ?_
  refine k_icmp_gt_f (tgt := 15) hx hb dJ1_canEncode_9a6ad_8 (by decide) (by decide) ?_
  refine lv_iconst (v := 1) hx hb dJ1_canEncode_9a6ad_11 (by decide) ?_
  refine lv_goto (tgt := 16) hx hb dJ1_canEncode_9a6ad_12 (by decide) ?_
  exact e_i (fun _ => 0) hx hb hr hlocks rfl rfl hP hD hS (Nat.le_of_ble_eq_true rfl) (Nat.le_of_ble_eq_true rfl) dJ1_canEncode_9a6ad_16
set_option maxHeartbeats 4000000 in
set_option maxRecDepth 100000 in
theorem c68_J1_indexOfChar_4cfef (l : Launch) (hfl : l.stackTraces = false) (D : va_G) (cA : Nat → ClassId) (g : gv_T) : CT l yJ1_indexOfChar_4cfef cJ1_indexOfChar_4cfef 6 (some .int) (RM 0 0 0 0) D cA g [.ref g.2.2, .int 112, .int 0, .int 3] [] (fun q => some (.int 1)) (fun q => []) := by
  refine CT.of (by decide +kernel) (Nat.le_of_ble_eq_true rfl) ?_
  intro p e s m args below meth c A ls hx hb hr hml hown hG hlocks hnm hA hS hP hK hD hGV hl
  have hown : s.vm.findClass RJ1 = some m.cls := hown
  have hl : lv_has ls 6 [(0, .ref g.2.2), (1, .int 112), (2, .int 0), (3, .int 3)] := hl
  have hSF : CF p m c cJ1_indexOfChar_4cfef 6 s args RJ1 := ⟨hx, hb, hml, hown, hG⟩
  refine lv_iload_n hx hb dJ1_indexOfChar_4cfef_0 rfl (lv_at hl 1 rfl) ?_
  refine lv_i2b (v := 112) hx hb dJ1_indexOfChar_4cfef_1 (by decide +kernel) ?_
  refine lv_istore (lv' := [(4, .int 112), (0, .ref g.2.2), (1, .int 112), (2, .int 0), (3, .int 3)]) hx hb dJ1_indexOfChar_4cfef_2 hl (by decide) rfl (fun ls hl => ?_)
  refine lv_iload_n hx hb dJ1_indexOfChar_4cfef_4 rfl (lv_at hl 3 rfl) ?_
  refine lv_istore (lv' := [(5, .int 0), (4, .int 112), (0, .ref g.2.2), (1, .int 112), (2, .int 0), (3, .int 3)]) hx hb dJ1_indexOfChar_4cfef_5 hl (by decide) rfl (fun ls hl => ?_)
  refine lv_iload hx hb dJ1_indexOfChar_4cfef_7 (lv_at hl 0 rfl) ?_
  refine lv_iload_n hx hb dJ1_indexOfChar_4cfef_9 rfl (lv_at hl 5 rfl) ?_
  refine k_icmp_ge_f (tgt := 31) hx hb dJ1_indexOfChar_4cfef_10 (by decide) (by decide) ?_
  refine lv_aload_n hx hb dJ1_indexOfChar_4cfef_13 rfl (lv_at hl 2 rfl) ?_
  refine lv_iload hx hb dJ1_indexOfChar_4cfef_14 (lv_at hl 0 rfl) ?_
  refine k_sld (v := 45) hx hb hGV hS (by unfold vp_in; decide) rfl dJ1_indexOfChar_4cfef_16 ?_
  refine lv_iload hx hb dJ1_indexOfChar_4cfef_17 (lv_at hl 1 rfl) ?_
  refine k_icmp_ne_t (tgt := 25) hx hb dJ1_indexOfChar_4cfef_19 (by decide) (by decide) ?_
  refine lv_iinc (v := 1) (lv' := [(5, .int 1), (4, .int 112), (0, .ref g.2.2), (1, .int 112), (2, .int 0), (3, .int 3)]) hx hb dJ1_indexOfChar_4cfef_25 hl (k := 0) rfl (by decide) (by decide) rfl (fun ls hl => ?_)
  refine lv_goto (tgt := 7) hx hb dJ1_indexOfChar_4cfef_28 (by decide) ?_
  refine lv_iload hx hb dJ1_indexOfChar_4cfef_7 (lv_at hl 0 rfl) ?_
  refine lv_iload_n hx hb dJ1_indexOfChar_4cfef_9 rfl (lv_at hl 5 rfl) ?_
  refine k_icmp_ge_f (tgt := 31) hx hb dJ1_indexOfChar_4cfef_10 (by decide) (by decide) ?_
  refine lv_aload_n hx hb dJ1_indexOfChar_4cfef_13 rfl (lv_at hl 2 rfl) ?_
  refine lv_iload hx hb dJ1_indexOfChar_4cfef_14 (lv_at hl 0 rfl) ?_
  refine k_sld (v := 112) hx hb hGV hS (by unfold vp_in; decide) rfl dJ1_indexOfChar_4cfef_16 ?_
  refine lv_iload hx hb dJ1_indexOfChar_4cfef_17 (lv_at hl 1 rfl) ?_
  refine k_icmp_ne_f (tgt := 25) hx hb dJ1_indexOfChar_4cfef_19 (by decide) (by decide) ?_
  refine lv_iload hx hb dJ1_indexOfChar_4cfef_22 (lv_at hl 0 rfl) ?_
  exact e_i (fun _ => 0) hx hb hr hlocks rfl rfl hP hD hS (Nat.le_of_ble_eq_true rfl) (Nat.le_of_ble_eq_true rfl) dJ1_indexOfChar_4cfef_24
set_option maxHeartbeats 4000000 in
set_option maxRecDepth 100000 in
theorem c69_J1_indexOf_4cfef (l : Launch) (hfl : l.stackTraces = false) (D : va_G) (cA : Nat → ClassId) (g : gv_T) : CT l yJ1_indexOf_4cfef cJ1_indexOf_4cfef 4 (some .int) (RM 1 0 0 30) D cA g [.ref g.2.2, .int 112, .int 0, .int 3] [] (fun q => some (.int 1)) (fun q => []) := by
  refine CT.of (by decide +kernel) (Nat.le_of_ble_eq_true rfl) ?_
  intro p e s m args below meth c A ls hx hb hr hml hown hG hlocks hnm hA hS hP hK hD hGV hl
  have hown : s.vm.findClass RJ1 = some m.cls := hown
  have hl : lv_has ls 4 [(0, .ref g.2.2), (1, .int 112), (2, .int 0), (3, .int 3)] := hl
  have hSF : CF p m c cJ1_indexOf_4cfef 4 s args RJ1 := ⟨hx, hb, hml, hown, hG⟩
  refine lv_iload_n hx hb dJ1_indexOf_4cfef_0 rfl (lv_at hl 1 rfl) ?_
  refine ct_S (wr := []) hSF hl.1 hP hD hS hA hK hGV (c67_J1_canEncode_9a6ad l hfl D cA g) goS_J1_88 pd_J1_canEncode_9a6ad.2 ⟨(Nat.le_of_ble_eq_true rfl), (Nat.le_of_ble_eq_true rfl)⟩ ⟨(Nat.le_of_ble_eq_true rfl), (Nat.le_of_ble_eq_true rfl)⟩ dJ1_indexOf_4cfef_1 rfl (Nat.le_of_ble_eq_true rfl) [] [] rfl (by decide) rfl (by decide) (by decide) (fun q => []) (fun _ => rfl) (fun q1 H locs hP hD hS => ?_)
  refine W.eq (g2 := F0 m 4 ls [.int 1]) rfl ?_
  refine k_if_ne_t (tgt := 9) hx hb dJ1_indexOf_4cfef_4 (by decide) (by decide) ?_
  refine lv_iload_n hx hb dJ1_indexOf_4cfef_9 rfl (lv_at hl 2 rfl) ?_
  refine lv_iconst (v := 0) hx hb dJ1_indexOf_4cfef_10 (by decide) ?_
  refine k_mmax (v := 0) hx hb (hml.trans hl.1.symm) hown (hG _ gw610) (hG _ gw611) (hG _ gw88) (hG _ gw612) (Nat.le_of_ble_eq_true rfl) (Nat.le_of_ble_eq_true rfl) (Nat.le_of_ble_eq_true rfl) (Nat.le_of_ble_eq_true rfl) dJ1_indexOf_4cfef_11 (by decide +kernel) ?_
  refine lv_istore_n (lv' := [(2, .int 0), (0, .ref g.2.2), (1, .int 112), (3, .int 3)]) hx hb dJ1_indexOf_4cfef_14 rfl hl (by decide) rfl (fun ls hl => ?_)
  refine lv_iload_n hx hb dJ1_indexOf_4cfef_15 rfl (lv_at hl 3 rfl) ?_
  refine lv_aload_n hx hb dJ1_indexOf_4cfef_16 rfl (lv_at hl 1 rfl) ?_
  refine k_slen hx hb hGV hS dJ1_indexOf_4cfef_17 ?_
  refine k_mmin (v := 3) hx hb (hml.trans hl.1.symm) hown (hG _ gw613) (hG _ gw614) (hG _ gw88) (hG _ gw615) (Nat.le_of_ble_eq_true rfl) (Nat.le_of_ble_eq_true rfl) (Nat.le_of_ble_eq_true rfl) (Nat.le_of_ble_eq_true rfl) dJ1_indexOf_4cfef_18 (by decide +kernel) ?_
  refine lv_istore_n (lv' := [(3, .int 3), (2, .int 0), (0, .ref g.2.2), (1, .int 112)]) hx hb dJ1_indexOf_4cfef_21 rfl hl (by decide) rfl (fun ls hl => ?_)
  refine lv_iload_n hx hb dJ1_indexOf_4cfef_22 rfl (lv_at hl 1 rfl) ?_
  refine lv_iload_n hx hb dJ1_indexOf_4cfef_23 rfl (lv_at hl 0 rfl) ?_
  refine k_icmp_lt_t (tgt := 29) hx hb dJ1_indexOf_4cfef_24 (by decide) (by decide) ?_
  refine lv_aload_n hx hb dJ1_indexOf_4cfef_29 rfl (lv_at hl 2 rfl) ?_
  refine lv_iload_n hx hb dJ1_indexOf_4cfef_30 rfl (lv_at hl 3 rfl) ?_
  refine lv_iload_n hx hb dJ1_indexOf_4cfef_31 rfl (lv_at hl 1 rfl) ?_
  refine lv_iload_n hx hb dJ1_indexOf_4cfef_32 rfl (lv_at hl 0 rfl) ?_
  refine ct_S (wr := []) hSF hl.1 hP hD hS hA hK hGV (c68_J1_indexOfChar_4cfef l hfl D cA g) goS_J1_95 pd_J1_indexOfChar_4cfef.2 ⟨(Nat.le_of_ble_eq_true rfl), (Nat.le_of_ble_eq_true rfl)⟩ ⟨(Nat.le_of_ble_eq_true rfl), (Nat.le_of_ble_eq_true rfl)⟩ dJ1_indexOf_4cfef_33 rfl (Nat.le_of_ble_eq_true rfl) [] [] rfl (by decide) rfl (by decide) (by decide) (fun q => []) (fun _ => rfl) (fun q2 H locs hP hD hS => ?_)
  refine W.eq (g2 := F0 m 36 ls [.int 1]) rfl ?_
  exact e_i (fun _ => 0) hx hb hr hlocks rfl rfl hP hD hS (Nat.le_of_ble_eq_true rfl) (Nat.le_of_ble_eq_true rfl) dJ1_indexOf_4cfef_36
set_option maxHeartbeats 4000000 in
set_option maxRecDepth 100000 in
theorem c70_J0_indexOf_7cf53 (l : Launch) (hfl : l.stackTraces = false) (D : va_G) (cA : Nat → ClassId) (g : gv_T) : CT l yJ0_indexOf_7cf53 cJ0_indexOf_7cf53 3 (some .int) (RM 2 0 0 53) D cA g [.ref (g.2.1 0), .int 112, .int 0] [] (fun q => some (.int 1)) (fun q => []) := by
  refine CT.of (by decide +kernel) (Nat.le_of_ble_eq_true rfl) ?_
  intro p e s m args below meth c A ls hx hb hr hml hown hG hlocks hnm hA hS hP hK hD hGV hl
  have hown : s.vm.findClass RJ0 = some m.cls := hown
  have hl : lv_has ls 3 [(0, .ref (g.2.1 0)), (1, .int 112), (2, .int 0)] := hl
  have hSF : CF p m c cJ0_indexOf_7cf53 3 s args RJ0 := ⟨hx, hb, hml, hown, hG⟩
  refine lv_aload_n hx hb dJ0_indexOf_7cf53_0 rfl (lv_at hl 0 rfl) ?_
  refine ct_V (wr := []) hSF hl.1 hP hD hS hA hK hGV (c31_J0_isLatin1_aae02 l hfl D cA g) goV_J0_492 pd_J0_isLatin1_aae02 ⟨(Nat.le_of_ble_eq_true rfl), (Nat.le_of_ble_eq_true rfl)⟩ ⟨(Nat.le_of_ble_eq_true rfl), (Nat.le_of_ble_eq_true rfl)⟩ (vk_recv (N := 1) (adK := fun _ => g.2.1 0) (i := 0) hGV.2.2.1.2 (by decide) hS) dJ0_indexOf_7cf53_1 rfl (Nat.le_of_ble_eq_true rfl) [] [] rfl (by decide) rfl (by decide) (by decide) (fun q => []) (fun _ => rfl) (fun q1 H locs hP hD hS => ?_)
  refine W.eq (g2 := F0 m 4 ls [.int 1]) rfl ?_
  refine k_if_eq_f (tgt := 23) hx hb dJ0_indexOf_7cf53_4 (by decide) (by decide) ?_
  refine lv_aload_n hx hb dJ0_indexOf_7cf53_7 rfl (lv_at hl 0 rfl) ?_
  refine k_svalue hx hb hG hGV hS hown gw1891 dJ0_indexOf_7cf53_8 ?_
  refine lv_iload_n hx hb dJ0_indexOf_7cf53_11 rfl (lv_at hl 1 rfl) ?_
  refine lv_iload_n hx hb dJ0_indexOf_7cf53_12 rfl (lv_at hl 2 rfl) ?_
  refine lv_aload_n hx hb dJ0_indexOf_7cf53_13 rfl (lv_at hl 0 rfl) ?_
  refine ct_V (wr := []) hSF hl.1 hP hD hS hA hK hGV (c33_J0_length_8abf5 l hfl D cA g) goV_J0_505 pd_J0_length_8abf5 ⟨(Nat.le_of_ble_eq_true rfl), (Nat.le_of_ble_eq_true rfl)⟩ ⟨(Nat.le_of_ble_eq_true rfl), (Nat.le_of_ble_eq_true rfl)⟩ (vk_recv (N := 1) (adK := fun _ => g.2.1 0) (i := 0) hGV.2.2.1.2 (by decide) hS) dJ0_indexOf_7cf53_14 rfl (Nat.le_of_ble_eq_true rfl) [] [] rfl (by decide) rfl (by decide) (by decide) (fun q => []) (fun _ => rfl) (fun q2 H locs hP hD hS => ?_)
  refine W.eq (g2 := F0 m 17 ls [.int 3, .int 0, .int 112, .ref g.2.2]) rfl ?_
  refine ct_S (wr := []) hSF hl.1 hP hD hS hA hK hGV (c69_J1_indexOf_4cfef l hfl D cA g) goS_J0_637 pd_J1_indexOf_4cfef.2 ⟨(Nat.le_of_ble_eq_true rfl), (Nat.le_of_ble_eq_true rfl)⟩ ⟨(Nat.le_of_ble_eq_true rfl), (Nat.le_of_ble_eq_true rfl)⟩ dJ0_indexOf_7cf53_17 rfl (Nat.le_of_ble_eq_true rfl) [] [] rfl (by decide) rfl (by decide) (by decide) (fun q => []) (fun _ => rfl) (fun q3 H locs hP hD hS => ?_)
  refine W.eq (g2 := F0 m 20 ls [.int 1]) rfl ?_
  refine lv_goto (tgt := 36) hx hb dJ0_indexOf_7cf53_20 (by decide) ?_
  exact e_i (fun _ => 0) hx hb hr hlocks rfl rfl hP hD hS (Nat.le_of_ble_eq_true rfl) (Nat.le_of_ble_eq_true rfl) dJ0_indexOf_7cf53_36
set_option maxHeartbeats 4000000 in
set_option maxRecDepth 100000 in
theorem c71_J0_indexOf_0f7a4 (l : Launch) (hfl : l.stackTraces = false) (D : va_G) (cA : Nat → ClassId) (g : gv_T) : CT l yJ0_indexOf_0f7a4 cJ0_indexOf_0f7a4 2 (some .int) (RM 3 0 0 75) D cA g [.ref (g.2.1 0), .int 112] [] (fun q => some (.int 1)) (fun q => []) := by
  refine CT.of (by decide +kernel) (Nat.le_of_ble_eq_true rfl) ?_
  intro p e s m args below meth c A ls hx hb hr hml hown hG hlocks hnm hA hS hP hK hD hGV hl
  have hown : s.vm.findClass RJ0 = some m.cls := hown
  have hl : lv_has ls 2 [(0, .ref (g.2.1 0)), (1, .int 112)] := hl
  have hSF : CF p m c cJ0_indexOf_0f7a4 2 s args RJ0 := ⟨hx, hb, hml, hown, hG⟩
  refine lv_aload_n hx hb dJ0_indexOf_0f7a4_0 rfl (lv_at hl 0 rfl) ?_
  refine lv_iload_n hx hb dJ0_indexOf_0f7a4_1 rfl (lv_at hl 1 rfl) ?_
  refine lv_iconst (v := 0) hx hb dJ0_indexOf_0f7a4_2 (by decide) ?_
  refine ct_V (wr := []) hSF hl.1 hP hD hS hA hK hGV (c70_J0_indexOf_7cf53 l hfl D cA g) goV_J0_633 pd_J0_indexOf_7cf53 ⟨(Nat.le_of_ble_eq_true rfl), (Nat.le_of_ble_eq_true rfl)⟩ ⟨(Nat.le_of_ble_eq_true rfl), (Nat.le_of_ble_eq_true rfl)⟩ (vk_recv (N := 1) (adK := fun _ => g.2.1 0) (i := 0) hGV.2.2.1.2 (by decide) hS) dJ0_indexOf_0f7a4_3 rfl (Nat.le_of_ble_eq_true rfl) [] [] rfl (by decide) rfl (by decide) (by decide) (fun q => []) (fun _ => rfl) (fun q1 H locs hP hD hS => ?_)
  refine W.eq (g2 := F0 m 6 ls [.int 1]) rfl ?_
  exact e_i (fun _ => 0) hx hb hr hlocks rfl rfl hP hD hS (Nat.le_of_ble_eq_true rfl) (Nat.le_of_ble_eq_true rfl) dJ0_indexOf_0f7a4_6
set_option maxHeartbeats 4000000 in
set_option maxRecDepth 100000 in
theorem c72_X2_addNode (l : Launch) (hfl : l.stackTraces = false) (D : va_G) (cA : Nat → ClassId) (g : gv_T) (h0 h1 h2 h3 h4 h5 h6 h7 h8 h9 h10 : Nat) (p0 : Int32) (p1 : Int32) : CT l yX2_addNode cX2_addNode 5 (some .int) (RM 0 0 0 0) D cA g [.ref h0, .int p0, .int p1, .int 112] [(h0, .inr (5, [.int 0, .int 0, .ref h1, .ref h2, .ref h3, .ref h4, .ref h5, .ref h6, .ref h7, .ref h8, .ref h9, .ref h10])), (h1, .inl (cA 0, 16, .inl (fun _ => 0))), (h4, .inl (cA 2, 8, .inl (fun _ => 0)))] (fun q => some (.int 0)) (fun q => [(h0, .inr (5, [.int 1, .int 0, .ref h1, .ref h2, .ref h3, .ref h4, .ref h5, .ref h6, .ref h7, .ref h8, .ref h9, .ref h10])), (h1, .inl (cA 0, 16, .inl (upd (upd (fun _ => 0) 0 p0) 1 p1))), (h4, .inl (cA 2, 8, .inl (upd (fun _ => 0) 0 112)))]) := by
  refine CT.of (by decide +kernel) (Nat.le_of_ble_eq_true rfl) ?_
  intro p e s m args below meth c A ls hx hb hr hml hown hG hlocks hnm hA hS hP hK hD hGV hl
  have hown : s.vm.findClass RX2 = some m.cls := hown
  have hl : lv_has ls 5 [(0, .ref h0), (1, .int p0), (2, .int p1), (3, .int 112)] := hl
  have hSF : CF p m c cX2_addNode 5 s args RX2 := ⟨hx, hb, hml, hown, hG⟩
  refine lv_aload_n hx hb dX2_addNode_0 rfl (lv_at hl 0 rfl) ?_
  refine k_get (ci := 5) (C := RX2) (T := TX2) (N := 12) (v := .int 0) hx hb hG inX2 hown hK hP 0 rfl rfl 0 (by decide) gw126 rfl dX2_addNode_1 ?_
  refine lv_istore (lv' := [(4, .int 0), (0, .ref h0), (1, .int p0), (2, .int p1), (3, .int 112)]) hx hb dX2_addNode_4 hl (by decide) rfl (fun ls hl => ?_)
  refine lv_aload_n hx hb dX2_addNode_6 rfl (lv_at hl 1 rfl) ?_
  refine k_get (ci := 5) (C := RX2) (T := TX2) (N := 12) (v := .ref h1) hx hb hG inX2 hown hK hP 0 rfl rfl 2 (by decide) gw134 rfl dX2_addNode_7 ?_
  refine lv_iconst (v := 2) hx hb dX2_addNode_10 (by decide) ?_
  refine lv_iload hx hb dX2_addNode_11 (lv_at hl 0 rfl) ?_
  refine k_imul (v := 0) hx hb dX2_addNode_13 (by decide) ?_
  refine lv_iconst (v := 0) hx hb dX2_addNode_14 (by decide) ?_
  refine k_iadd (v := 0) hx hb dX2_addNode_15 (by decide) ?_
  refine lv_iload_n hx hb dX2_addNode_16 rfl (lv_at hl 2 rfl) ?_
  refine k_iast (ws1 := [(h0, .inr (5, [.int 0, .int 0, .ref h1, .ref h2, .ref h3, .ref h4, .ref h5, .ref h6, .ref h7, .ref h8, .ref h9, .ref h10])), (h1, .inl (cA 0, 16, .inl (upd (fun _ => 0) 0 p0))), (h4, .inl (cA 2, 8, .inl (fun _ => 0)))]) hx hb hK hP hD hS 1 rfl rfl (by unfold vp_in; decide) dX2_addNode_17 (fun H locs hP hD hS => ?_)
  refine lv_aload_n hx hb dX2_addNode_18 rfl (lv_at hl 1 rfl) ?_
  refine k_get (ci := 5) (C := RX2) (T := TX2) (N := 12) (v := .ref h1) hx hb hG inX2 hown hK hP 0 rfl rfl 2 (by decide) gw134 rfl dX2_addNode_19 ?_
  refine lv_iconst (v := 2) hx hb dX2_addNode_22 (by decide) ?_
  refine lv_iload hx hb dX2_addNode_23 (lv_at hl 0 rfl) ?_
  refine k_imul (v := 0) hx hb dX2_addNode_25 (by decide) ?_
  refine lv_iconst (v := 1) hx hb dX2_addNode_26 (by decide) ?_
  refine k_iadd (v := 1) hx hb dX2_addNode_27 (by decide) ?_
  refine lv_iload_n hx hb dX2_addNode_28 rfl (lv_at hl 3 rfl) ?_
  refine k_iast (ws1 := [(h0, .inr (5, [.int 0, .int 0, .ref h1, .ref h2, .ref h3, .ref h4, .ref h5, .ref h6, .ref h7, .ref h8, .ref h9, .ref h10])), (h1, .inl (cA 0, 16, .inl (upd (upd (fun _ => 0) 0 p0) 1 p1))), (h4, .inl (cA 2, 8, .inl (fun _ => 0)))]) hx hb hK hP hD hS 1 rfl rfl (by unfold vp_in; decide) dX2_addNode_29 (fun H locs hP hD hS => ?_)
  refine lv_aload_n hx hb dX2_addNode_30 rfl (lv_at hl 1 rfl) ?_
  refine k_get (ci := 5) (C := RX2) (T := TX2) (N := 12) (v := .ref h4) hx hb hG inX2 hown hK hP 0 rfl rfl 5 (by decide) gw139 rfl dX2_addNode_31 ?_
  refine lv_iload hx hb dX2_addNode_34 (lv_at hl 0 rfl) ?_
  refine lv_iload_n hx hb dX2_addNode_36 rfl (lv_at hl 4 rfl) ?_
  refine k_cast (ws1 := [(h0, .inr (5, [.int 0, .int 0, .ref h1, .ref h2, .ref h3, .ref h4, .ref h5, .ref h6, .ref h7, .ref h8, .ref h9, .ref h10])), (h1, .inl (cA 0, 16, .inl (upd (upd (fun _ => 0) 0 p0) 1 p1))), (h4, .inl (cA 2, 8, .inl (upd (fun _ => 0) 0 112)))]) hx hb hK hP hD hS 2 rfl rfl (by unfold vp_in; decide) dX2_addNode_37 (fun H locs hP hD hS => ?_)
  refine lv_aload_n hx hb dX2_addNode_38 rfl (lv_at hl 1 rfl) ?_
  refine lv_iload hx hb dX2_addNode_39 (lv_at hl 0 rfl) ?_
  refine lv_iconst (v := 1) hx hb dX2_addNode_41 (by decide) ?_
  refine k_iadd (v := 1) hx hb dX2_addNode_42 (by decide) ?_
  refine k_put (ci := 5) (C := RX2) (T := TX2) (N := 12) (v := .int 1) (ws1 := [(h0, .inr (5, [.int 1, .int 0, .ref h1, .ref h2, .ref h3, .ref h4, .ref h5, .ref h6, .ref h7, .ref h8, .ref h9, .ref h10])), (h1, .inl (cA 0, 16, .inl (upd (upd (fun _ => 0) 0 p0) 1 p1))), (h4, .inl (cA 2, 8, .inl (upd (fun _ => 0) 0 112)))]) hx hb hG inX2 tyX2 tyX2_ok nmX2 hown hK hP hD hS 0 rfl rfl 0 (by decide) gw126 rfl ⟨rfl, rfl⟩ rfl (Nat.le_of_ble_eq_true rfl) dX2_addNode_43 (fun H locs hP hD hS => ?_)
  refine lv_iload hx hb dX2_addNode_46 (lv_at hl 0 rfl) ?_
  exact e_i (fun _ => 0) hx hb hr hlocks rfl rfl hP hD hS (Nat.le_of_ble_eq_true rfl) (Nat.le_of_ble_eq_true rfl) dX2_addNode_48
set_option maxHeartbeats 4000000 in
set_option maxRecDepth 100000 in
theorem c73_X6_node (l : Launch) (hfl : l.stackTraces = false) (D : va_G) (cA : Nat → ClassId) (g : gv_T) (h0 h1 h2 h3 h4 h5 h6 h7 h8 h9 h10 h11 h12 h13 h14 h15 h16 h17 h18 h19 h20 h21 h22 h23 h24 h25 h26 h27 h28 h29 : Nat) (p0 : Int32) (p1 : Int32) (k0 : ¬ p0 < 0) (k1 : ¬ 30 < p0) (k2 : ¬ p1 < 0) (k3 : ¬ 30 < p1) : CT l yX6_node cX6_node 4 (some .int) (RM 4 0 0 96) D cA g [.ref h0, .int p0, .int p1, .int 112] [(h0, .inr (9, [.ref h1, .ref h2, .ref h3, .ref h4, .ref h5])), (h1, .inr (5, [.int 0, .int 0, .ref h6, .ref h7, .ref h8, .ref h9, .ref h10, .ref h11, .ref h12, .ref h13, .ref h14, .ref h15])), (h2, .inr (4, [.int 0, .int 0, .long 0, .ref h16, .ref h17, .ref h18, .ref h19, .ref h20, .ref h21, .ref h22, .ref h23, .ref h24, .ref h25, .ref h26, .ref h27, .ref h28, .ref h29])), (h6, .inl (cA 0, 16, .inl (fun _ => 0))), (h9, .inl (cA 2, 8, .inl (fun _ => 0)))] (fun q => some (.int 0)) (fun q => [(h0, .inr (9, [.ref h1, .ref h2, .ref h3, .ref h4, .ref h5])), (h1, .inr (5, [.int 1, .int 0, .ref h6, .ref h7, .ref h8, .ref h9, .ref h10, .ref h11, .ref h12, .ref h13, .ref h14, .ref h15])), (h2, .inr (4, [.int 0, .int 0, .long 0, .ref h16, .ref h17, .ref h18, .ref h19, .ref h20, .ref h21, .ref h22, .ref h23, .ref h24, .ref h25, .ref h26, .ref h27, .ref h28, .ref h29])), (h6, .inl (cA 0, 16, .inl (upd (upd (fun _ => 0) 0 p0) 1 p1))), (h9, .inl (cA 2, 8, .inl (upd (fun _ => 0) 0 112)))]) := by
  refine CT.of (by decide +kernel) (Nat.le_of_ble_eq_true rfl) ?_
  intro p e s m args below meth c A ls hx hb hr hml hown hG hlocks hnm hA hS hP hK hD hGV hl
  have hown : s.vm.findClass RX6 = some m.cls := hown
  have hl : lv_has ls 4 [(0, .ref h0), (1, .int p0), (2, .int p1), (3, .int 112)] := hl
  have hSF : CF p m c cX6_node 4 s args RX6 := ⟨hx, hb, hml, hown, hG⟩
  refine lv_iload_n hx hb dX6_node_0 rfl (lv_at hl 1 rfl) ?_
  refine lv_iconst (v := 0) hx hb dX6_node_1 (by decide) ?_
  refine lv_bipush (v := 30) hx hb dX6_node_2 (by decide) ?_
  refine ct_S (wr := [(h0, .inr (9, [.ref h1, .ref h2, .ref h3, .ref h4, .ref h5])), (h1, .inr (5, [.int 0, .int 0, .ref h6, .ref h7, .ref h8, .ref h9, .ref h10, .ref h11, .ref h12, .ref h13, .ref h14, .ref h15])), (h2, .inr (4, [.int 0, .int 0, .long 0, .ref h16, .ref h17, .ref h18, .ref h19, .ref h20, .ref h21, .ref h22, .ref h23, .ref h24, .ref h25, .ref h26, .ref h27, .ref h28, .ref h29])), (h6, .inl (cA 0, 16, .inl (fun _ => 0))), (h9, .inl (cA 2, 8, .inl (fun _ => 0)))]) hSF hl.1 hP hD hS hA hK hGV (c23_X6_isWithin l hfl D cA g (p0) k0 k1) goS_X6_44 pd_X6_isWithin.2 ⟨(Nat.le_of_ble_eq_true rfl), (Nat.le_of_ble_eq_true rfl)⟩ ⟨(Nat.le_of_ble_eq_true rfl), (Nat.le_of_ble_eq_true rfl)⟩ dX6_node_4 rfl (Nat.le_of_ble_eq_true rfl) [] [0, 1, 2, 3, 4] rfl (by decide) rfl (by decide) (by decide) (fun q => [(h0, .inr (9, [.ref h1, .ref h2, .ref h3, .ref h4, .ref h5])), (h1, .inr (5, [.int 0, .int 0, .ref h6, .ref h7, .ref h8, .ref h9, .ref h10, .ref h11, .ref h12, .ref h13, .ref h14, .ref h15])), (h2, .inr (4, [.int 0, .int 0, .long 0, .ref h16, .ref h17, .ref h18, .ref h19, .ref h20, .ref h21, .ref h22, .ref h23, .ref h24, .ref h25, .ref h26, .ref h27, .ref h28, .ref h29])), (h6, .inl (cA 0, 16, .inl (fun _ => 0))), (h9, .inl (cA 2, 8, .inl (fun _ => 0)))]) (fun _ => rfl) (fun q1 H locs hP hD hS => ?_)
  refine W.eq (g2 := F0 m 7 ls [.int 1]) rfl ?_
  refine k_if_eq_f (tgt := 29) hx hb dX6_node_7 (by decide) (by decide) ?_
  refine lv_iload_n hx hb dX6_node_10 rfl (lv_at hl 2 rfl) ?_
  refine lv_iconst (v := 0) hx hb dX6_node_11 (by decide) ?_
  refine lv_bipush (v := 30) hx hb dX6_node_12 (by decide) ?_
  refine ct_S (wr := [(h0, .inr (9, [.ref h1, .ref h2, .ref h3, .ref h4, .ref h5])), (h1, .inr (5, [.int 0, .int 0, .ref h6, .ref h7, .ref h8, .ref h9, .ref h10, .ref h11, .ref h12, .ref h13, .ref h14, .ref h15])), (h2, .inr (4, [.int 0, .int 0, .long 0, .ref h16, .ref h17, .ref h18, .ref h19, .ref h20, .ref h21, .ref h22, .ref h23, .ref h24, .ref h25, .ref h26, .ref h27, .ref h28, .ref h29])), (h6, .inl (cA 0, 16, .inl (fun _ => 0))), (h9, .inl (cA 2, 8, .inl (fun _ => 0)))]) hSF hl.1 hP hD hS hA hK hGV (c23_X6_isWithin l hfl D cA g (p1) k2 k3) goS_X6_44 pd_X6_isWithin.2 ⟨(Nat.le_of_ble_eq_true rfl), (Nat.le_of_ble_eq_true rfl)⟩ ⟨(Nat.le_of_ble_eq_true rfl), (Nat.le_of_ble_eq_true rfl)⟩ dX6_node_14 rfl (Nat.le_of_ble_eq_true rfl) [] [0, 1, 2, 3, 4] rfl (by decide) rfl (by decide) (by decide) (fun q => [(h0, .inr (9, [.ref h1, .ref h2, .ref h3, .ref h4, .ref h5])), (h1, .inr (5, [.int 0, .int 0, .ref h6, .ref h7, .ref h8, .ref h9, .ref h10, .ref h11, .ref h12, .ref h13, .ref h14, .ref h15])), (h2, .inr (4, [.int 0, .int 0, .long 0, .ref h16, .ref h17, .ref h18, .ref h19, .ref h20, .ref h21, .ref h22, .ref h23, .ref h24, .ref h25, .ref h26, .ref h27, .ref h28, .ref h29])), (h6, .inl (cA 0, 16, .inl (fun _ => 0))), (h9, .inl (cA 2, 8, .inl (fun _ => 0)))]) (fun _ => rfl) (fun q2 H locs hP hD hS => ?_)
  refine W.eq (g2 := F0 m 17 ls [.int 1]) rfl ?_
  refine k_if_eq_f (tgt := 29) hx hb dX6_node_17 (by decide) (by decide) ?_
  refine k_ldcS hx hb hGV 0 rfl hown dX6_node_20 ?_
  refine lv_iload_n hx hb dX6_node_22 rfl (lv_at hl 3 rfl) ?_
  refine ct_V (wr := [(h0, .inr (9, [.ref h1, .ref h2, .ref h3, .ref h4, .ref h5])), (h1, .inr (5, [.int 0, .int 0, .ref h6, .ref h7, .ref h8, .ref h9, .ref h10, .ref h11, .ref h12, .ref h13, .ref h14, .ref h15])), (h2, .inr (4, [.int 0, .int 0, .long 0, .ref h16, .ref h17, .ref h18, .ref h19, .ref h20, .ref h21, .ref h22, .ref h23, .ref h24, .ref h25, .ref h26, .ref h27, .ref h28, .ref h29])), (h6, .inl (cA 0, 16, .inl (fun _ => 0))), (h9, .inl (cA 2, 8, .inl (fun _ => 0)))]) hSF hl.1 hP hD hS hA hK hGV (c71_J0_indexOf_0f7a4 l hfl D cA g) goV_X6_50 pd_J0_indexOf_0f7a4 ⟨(Nat.le_of_ble_eq_true rfl), (Nat.le_of_ble_eq_true rfl)⟩ ⟨(Nat.le_of_ble_eq_true rfl), (Nat.le_of_ble_eq_true rfl)⟩ (vk_recv (N := 1) (adK := fun _ => g.2.1 0) (i := 0) hGV.2.2.1.2 (by decide) hS) dX6_node_23 rfl (Nat.le_of_ble_eq_true rfl) [] [0, 1, 2, 3, 4] rfl (by decide) rfl (by decide) (by decide) (fun q => [(h0, .inr (9, [.ref h1, .ref h2, .ref h3, .ref h4, .ref h5])), (h1, .inr (5, [.int 0, .int 0, .ref h6, .ref h7, .ref h8, .ref h9, .ref h10, .ref h11, .ref h12, .ref h13, .ref h14, .ref h15])), (h2, .inr (4, [.int 0, .int 0, .long 0, .ref h16, .ref h17, .ref h18, .ref h19, .ref h20, .ref h21, .ref h22, .ref h23, .ref h24, .ref h25, .ref h26, .ref h27, .ref h28, .ref h29])), (h6, .inl (cA 0, 16, .inl (fun _ => 0))), (h9, .inl (cA 2, 8, .inl (fun _ => 0)))]) (fun _ => rfl) (fun q3 H locs hP hD hS => ?_)
  refine W.eq (g2 := F0 m 26 ls [.int 1]) rfl ?_
  refine k_if_ge_t (tgt := 39) hx hb dX6_node_26 (by decide) (by decide) ?_
  refine lv_aload_n hx hb dX6_node_39 rfl (lv_at hl 0 rfl) ?_
  refine k_get (ci := 9) (C := RX6) (T := TX6) (N := 5) (v := .ref h1) hx hb hG inX6 hown hK hP 0 rfl rfl 0 (by decide) gw363 rfl dX6_node_40 ?_
  refine k_get (ci := 5) (C := RX2) (T := TX2) (N := 12) (v := .int 0) hx hb hG inX2 hown hK hP 1 rfl rfl 0 (by decide) gw127 rfl dX6_node_43 ?_
  refine lv_bipush (v := 8) hx hb dX6_node_46 (by decide) ?_
  refine k_icmp_lt_t (tgt := 61) hx hb dX6_node_48 (by decide) (by decide) ?_
  refine lv_aload_n hx hb dX6_node_61 rfl (lv_at hl 0 rfl) ?_
  refine k_get (ci := 9) (C := RX6) (T := TX6) (N := 5) (v := .ref h2) hx hb hG inX6 hown hK hP 0 rfl rfl 1 (by decide) gw364 rfl dX6_node_62 ?_
  refine lv_iconst (v := 0) hx hb dX6_node_65 (by decide) ?_
  refine k_put (ci := 4) (C := RX1) (T := TX1) (N := 17) (v := .int 0) (ws1 := [(h0, .inr (9, [.ref h1, .ref h2, .ref h3, .ref h4, .ref h5])), (h1, .inr (5, [.int 0, .int 0, .ref h6, .ref h7, .ref h8, .ref h9, .ref h10, .ref h11, .ref h12, .ref h13, .ref h14, .ref h15])), (h2, .inr (4, [.int 0, .int 0, .long 0, .ref h16, .ref h17, .ref h18, .ref h19, .ref h20, .ref h21, .ref h22, .ref h23, .ref h24, .ref h25, .ref h26, .ref h27, .ref h28, .ref h29])), (h6, .inl (cA 0, 16, .inl (fun _ => 0))), (h9, .inl (cA 2, 8, .inl (fun _ => 0)))]) hx hb hG inX1 tyX1 tyX1_ok nmX1 hown hK hP hD hS 2 rfl rfl 0 (by decide) gw197 rfl ⟨rfl, rfl⟩ rfl (Nat.le_of_ble_eq_true rfl) dX6_node_66 (fun H locs hP hD hS => ?_)
  refine lv_aload_n hx hb dX6_node_69 rfl (lv_at hl 0 rfl) ?_
  refine k_get (ci := 9) (C := RX6) (T := TX6) (N := 5) (v := .ref h1) hx hb hG inX6 hown hK hP 0 rfl rfl 0 (by decide) gw363 rfl dX6_node_70 ?_
  refine lv_iload_n hx hb dX6_node_73 rfl (lv_at hl 1 rfl) ?_
  refine lv_iload_n hx hb dX6_node_74 rfl (lv_at hl 2 rfl) ?_
  refine lv_iload_n hx hb dX6_node_75 rfl (lv_at hl 3 rfl) ?_
  refine ct_V (wr := [(h0, .inr (9, [.ref h1, .ref h2, .ref h3, .ref h4, .ref h5])), (h2, .inr (4, [.int 0, .int 0, .long 0, .ref h16, .ref h17, .ref h18, .ref h19, .ref h20, .ref h21, .ref h22, .ref h23, .ref h24, .ref h25, .ref h26, .ref h27, .ref h28, .ref h29]))]) hSF hl.1 hP hD hS hA hK hGV (c72_X2_addNode l hfl D cA g h1 h6 h7 h8 h9 h10 h11 h12 h13 h14 h15 (p0) (p1)) goV_X6_76 pd_X2_addNode ⟨(Nat.le_of_ble_eq_true rfl), (Nat.le_of_ble_eq_true rfl)⟩ ⟨(Nat.le_of_ble_eq_true rfl), (Nat.le_of_ble_eq_true rfl)⟩ (va_recv hK hP (ci := 5) (q0 := 1) rfl rfl) dX6_node_76 rfl (Nat.le_of_ble_eq_true rfl) [1, 3, 4] [0, 2] rfl (by decide) rfl (by decide) (by decide) (fun q => [(h0, .inr (9, [.ref h1, .ref h2, .ref h3, .ref h4, .ref h5])), (h2, .inr (4, [.int 0, .int 0, .long 0, .ref h16, .ref h17, .ref h18, .ref h19, .ref h20, .ref h21, .ref h22, .ref h23, .ref h24, .ref h25, .ref h26, .ref h27, .ref h28, .ref h29])), (h1, .inr (5, [.int 1, .int 0, .ref h6, .ref h7, .ref h8, .ref h9, .ref h10, .ref h11, .ref h12, .ref h13, .ref h14, .ref h15])), (h6, .inl (cA 0, 16, .inl (upd (upd (fun _ => 0) 0 p0) 1 p1))), (h9, .inl (cA 2, 8, .inl (upd (fun _ => 0) 0 112)))]) (fun _ => rfl) (fun q4 H locs hP hD hS => ?_)
  refine W.eq (g2 := F0 m 79 ls [.int 0]) rfl ?_
  exact e_i (fun _ => 0) hx hb hr hlocks rfl rfl (hP.sub [0, 2, 1, 3, 4] rfl) (hD.sub [0, 2, 1, 3, 4] (by decide) rfl) hS (Nat.le_of_ble_eq_true rfl) (Nat.le_of_ble_eq_true rfl) dX6_node_79
set_option maxHeartbeats 4000000 in
set_option maxRecDepth 100000 in
theorem c74_L_node (l : Launch) (hfl : l.stackTraces = false) (D : va_G) (cA : Nat → ClassId) (g : gv_T) (h0 h1 h2 h3 h4 h5 h6 h7 h8 h9 h10 h11 h12 h13 h14 h15 h16 h17 h18 h19 h20 h21 h22 h23 h24 h25 h26 h27 h28 h29 h30 : Nat) (p0 : Int32) (p1 : Int32) (k0 : ¬ p0 < 0) (k1 : ¬ 30 < p0) (k2 : ¬ p1 < 0) (k3 : ¬ 30 < p1) : CW l yL_node cL_node 6 (some .int) [(0, 12, 15, 13), (0, 12, 19, 15)] (RM 5 0 0 119) D cA g [.ref h0, .int p0, .int p1, .int 112, .ref h1] [(h0, .inr (9, [.ref h2, .ref h3, .ref h4, .ref h5, .ref h6])), (h2, .inr (5, [.int 0, .int 0, .ref h7, .ref h8, .ref h9, .ref h10, .ref h11, .ref h12, .ref h13, .ref h14, .ref h15, .ref h16])), (h3, .inr (4, [.int 0, .int 0, .long 0, .ref h17, .ref h18, .ref h19, .ref h20, .ref h21, .ref h22, .ref h23, .ref h24, .ref h25, .ref h26, .ref h27, .ref h28, .ref h29, .ref h30])), (h7, .inl (cA 0, 16, .inl (fun _ => 0))), (h10, .inl (cA 2, 8, .inl (fun _ => 0))), (h1, .inl (cA 1, 1, .inr (.inl (fun _ => 0))))] (fun q => some (.int 0)) (fun q => [(h0, .inr (9, [.ref h2, .ref h3, .ref h4, .ref h5, .ref h6])), (h2, .inr (5, [.int 1, .int 0, .ref h7, .ref h8, .ref h9, .ref h10, .ref h11, .ref h12, .ref h13, .ref h14, .ref h15, .ref h16])), (h3, .inr (4, [.int 0, .int 0, .long 0, .ref h17, .ref h18, .ref h19, .ref h20, .ref h21, .ref h22, .ref h23, .ref h24, .ref h25, .ref h26, .ref h27, .ref h28, .ref h29, .ref h30])), (h7, .inl (cA 0, 16, .inl (upd (upd (fun _ => 0) 0 p0) 1 p1))), (h10, .inl (cA 2, 8, .inl (upd (fun _ => 0) 0 112))), (h1, .inl (cA 1, 1, .inr (.inl (vp_updL (fun _ => 0) 0 0))))]) := by
  refine CW.of (by decide +kernel) (Nat.le_of_ble_eq_true rfl) ?_
  intro p e s m args below meth c A ls hx hb hr hml hown hG hlocks htab hA hS hP hK hD hGV hl
  have hown : s.vm.findClass RL = some m.cls := hown
  have hl : lv_has ls 6 [(0, .ref h0), (1, .int p0), (2, .int p1), (3, .int 112), (4, .ref h1)] := hl
  have hSF : CF p m c cL_node 6 s args RL := ⟨hx, hb, hml, hown, hG⟩
  refine lv_aload hx hb dL_node_0 (lv_at hl 4 rfl) ?_
  refine lv_iconst (v := 0) hx hb dL_node_2 (by decide) ?_
  refine lv_aload_n hx hb dL_node_3 rfl (lv_at hl 0 rfl) ?_
  refine lv_iload_n hx hb dL_node_4 rfl (lv_at hl 1 rfl) ?_
  refine lv_iload_n hx hb dL_node_5 rfl (lv_at hl 2 rfl) ?_
  refine lv_iload_n hx hb dL_node_6 rfl (lv_at hl 3 rfl) ?_
  refine ct_V (wr := [(h1, .inl (cA 1, 1, .inr (.inl (fun _ => 0))))]) hSF hl.1 hP hD hS hA hK hGV (c73_X6_node l hfl D cA g h0 h2 h3 h4 h5 h6 h7 h8 h9 h10 h11 h12 h13 h14 h15 h16 h17 h18 h19 h20 h21 h22 h23 h24 h25 h26 h27 h28 h29 h30 (p0) (p1) k0 k1 k2 k3) goV_L_7 pd_X6_node ⟨(Nat.le_of_ble_eq_true rfl), (Nat.le_of_ble_eq_true rfl)⟩ ⟨(Nat.le_of_ble_eq_true rfl), (Nat.le_of_ble_eq_true rfl)⟩ (va_recv hK hP (ci := 9) (q0 := 0) rfl rfl) dL_node_7 rfl (Nat.le_of_ble_eq_true rfl) [0, 1, 2, 3, 4] [5] rfl (by decide) rfl (by decide) (by decide) (fun q => [(h1, .inl (cA 1, 1, .inr (.inl (fun _ => 0)))), (h0, .inr (9, [.ref h2, .ref h3, .ref h4, .ref h5, .ref h6])), (h2, .inr (5, [.int 1, .int 0, .ref h7, .ref h8, .ref h9, .ref h10, .ref h11, .ref h12, .ref h13, .ref h14, .ref h15, .ref h16])), (h3, .inr (4, [.int 0, .int 0, .long 0, .ref h17, .ref h18, .ref h19, .ref h20, .ref h21, .ref h22, .ref h23, .ref h24, .ref h25, .ref h26, .ref h27, .ref h28, .ref h29, .ref h30])), (h7, .inl (cA 0, 16, .inl (upd (upd (fun _ => 0) 0 p0) 1 p1))), (h10, .inl (cA 2, 8, .inl (upd (fun _ => 0) 0 112)))]) (fun _ => rfl) (fun q1 H locs hP hD hS => ?_)
  refine W.eq (g2 := F0 m 10 ls [.int 0, .int 0, .ref h1]) rfl ?_
  refine lv_i2l (v := 0) hx hb dL_node_10 (by decide +kernel) ?_
  refine k_last (ws1 := [(h1, .inl (cA 1, 1, .inr (.inl (vp_updL (fun _ => 0) 0 0)))), (h0, .inr (9, [.ref h2, .ref h3, .ref h4, .ref h5, .ref h6])), (h2, .inr (5, [.int 1, .int 0, .ref h7, .ref h8, .ref h9, .ref h10, .ref h11, .ref h12, .ref h13, .ref h14, .ref h15, .ref h16])), (h3, .inr (4, [.int 0, .int 0, .long 0, .ref h17, .ref h18, .ref h19, .ref h20, .ref h21, .ref h22, .ref h23, .ref h24, .ref h25, .ref h26, .ref h27, .ref h28, .ref h29, .ref h30])), (h7, .inl (cA 0, 16, .inl (upd (upd (fun _ => 0) 0 p0) 1 p1))), (h10, .inl (cA 2, 8, .inl (upd (fun _ => 0) 0 112)))]) hx hb hK hP hD hS 0 rfl rfl (by unfold vp_in; decide) dL_node_11 (fun H locs hP hD hS => ?_)
  refine lv_goto (tgt := 23) hx hb dL_node_12 (by decide) ?_
  refine lv_iconst (v := 0) hx hb dL_node_23 (by decide) ?_
  exact e_i (fun _ => 0) hx hb hr hlocks rfl rfl (hP.sub [1, 2, 3, 4, 5, 0] rfl) (hD.sub [1, 2, 3, 4, 5, 0] (by decide) rfl) hS (Nat.le_of_ble_eq_true rfl) (Nat.le_of_ble_eq_true rfl) dL_node_24
set_option maxHeartbeats 4000000 in
set_option maxRecDepth 100000 in
theorem c75_X9_init (l : Launch) (hfl : l.stackTraces = false) (D : va_G) (cA : Nat → ClassId) (g : gv_T) (h0 : Nat) (p0 : Int32) (p1 : Int32) : CT l yX9_init cX9_init 4 none (RM 1 0 0 24) D cA g [.ref h0, .int p0, .int p1, .int 112] [(h0, .inr (12, [.int 0, .int 0, .int 0, .long 0, .long 0, .int 0]))] (fun q => none) (fun q => [(h0, .inr (12, [.int p0, .int p1, .int 112, .long 0, .long 0, .int 0]))]) := by
  refine CT.of (by decide +kernel) (Nat.le_of_ble_eq_true rfl) ?_
  intro p e s m args below meth c A ls hx hb hr hml hown hG hlocks hnm hA hS hP hK hD hGV hl
  have hown : s.vm.findClass RX9 = some m.cls := hown
  have hl : lv_has ls 4 [(0, .ref h0), (1, .int p0), (2, .int p1), (3, .int 112)] := hl
  have hSF : CF p m c cX9_init 4 s args RX9 := ⟨hx, hb, hml, hown, hG⟩
  refine lv_aload_n hx hb dX9_init_0 rfl (lv_at hl 0 rfl) ?_
  refine W.objInit hx hb hown (hG _ gw1325) (hG _ gw118) (hG _ gw119) rfl (hl.1.trans hml.symm) rfl dX9_init_1 (Nat.le_of_ble_eq_true rfl) (Nat.le_of_ble_eq_true rfl) ?_
  refine W.eq (g2 := F0 m 4 ls []) rfl ?_
  refine lv_aload_n hx hb dX9_init_4 rfl (lv_at hl 0 rfl) ?_
  refine lv_iload_n hx hb dX9_init_5 rfl (lv_at hl 1 rfl) ?_
  refine k_putF (ci := 12) (C := RX9) (T := TX9) (N := 6) (v := .int p0) (ws1 := [(h0, .inr (12, [.int p0, .int 0, .int 0, .long 0, .long 0, .int 0]))]) hx hb hG inX9 tyX9 tyX9_ok nmX9 hown hK hP hD hS 0 rfl rfl 0 (by decide) gw1326 rfl hnm rfl ⟨rfl, rfl⟩ rfl (Nat.le_of_ble_eq_true rfl) dX9_init_6 (fun H locs hP hD hS => ?_)
  refine lv_aload_n hx hb dX9_init_9 rfl (lv_at hl 0 rfl) ?_
  refine lv_iload_n hx hb dX9_init_10 rfl (lv_at hl 2 rfl) ?_
  refine k_putF (ci := 12) (C := RX9) (T := TX9) (N := 6) (v := .int p1) (ws1 := [(h0, .inr (12, [.int p0, .int p1, .int 0, .long 0, .long 0, .int 0]))]) hx hb hG inX9 tyX9 tyX9_ok nmX9 hown hK hP hD hS 0 rfl rfl 1 (by decide) gw1328 rfl hnm rfl ⟨rfl, rfl⟩ rfl (Nat.le_of_ble_eq_true rfl) dX9_init_11 (fun H locs hP hD hS => ?_)
  refine lv_aload_n hx hb dX9_init_14 rfl (lv_at hl 0 rfl) ?_
  refine lv_iload_n hx hb dX9_init_15 rfl (lv_at hl 3 rfl) ?_
  refine k_putF (ci := 12) (C := RX9) (T := TX9) (N := 6) (v := .int 112) (ws1 := [(h0, .inr (12, [.int p0, .int p1, .int 112, .long 0, .long 0, .int 0]))]) hx hb hG inX9 tyX9 tyX9_ok nmX9 hown hK hP hD hS 0 rfl rfl 2 (by decide) gw1330 rfl hnm rfl ⟨rfl, rfl⟩ rfl (Nat.le_of_ble_eq_true rfl) dX9_init_16 (fun H locs hP hD hS => ?_)
  exact e_v (fun _ => 0) hx hb hr hlocks rfl hP hD hS (Nat.le_of_ble_eq_true rfl) (Nat.le_of_ble_eq_true rfl) dX9_init_19
set_option maxHeartbeats 4000000 in
set_option maxRecDepth 100000 in
theorem c76_Jx4a65c_add_72be8 (l : Launch) (hfl : l.stackTraces = false) (D : va_G) (cA : Nat → ClassId) (g : gv_T) (h0 h1 : Nat) (p0 : Int32) (p1 : Int32) : CT l yJx4a65c_add_72be8 cJx4a65c_add_72be8 4 none (RM 3 1 10 73) D cA g [.ref h0, .ref h1, .ref g.1, .int 0] [(h0, .inr (2, [.int 1, .ref g.1, .int 0])), (h1, .inr (12, [.int p0, .int p1, .int 112, .long 0, .long 0, .int 0]))] (fun q => none) (fun q => [(h0, .inr (2, [.int 1, .ref (q 0), .int 1])), (h1, .inr (12, [.int p0, .int p1, .int 112, .long 0, .long 0, .int 0])), ((q 0), .inl (cA 4, 10, .inr (.inr (.inr (.inr (va_up (fun _ => none) 0 (some h1)))))))]) := by
  refine CT.of (by decide +kernel) (Nat.le_of_ble_eq_true rfl) ?_
  intro p e s m args below meth c A ls hx hb hr hml hown hG hlocks hnm hA hS hP hK hD hGV hl
  have hown : s.vm.findClass RJx4a65c = some m.cls := hown
  have hl : lv_has ls 4 [(0, .ref h0), (1, .ref h1), (2, .ref g.1), (3, .int 0)] := hl
  have hSF : CF p m c cJx4a65c_add_72be8 4 s args RJx4a65c := ⟨hx, hb, hml, hown, hG⟩
  refine lv_iload_n hx hb dJx4a65c_add_72be8_0 rfl (lv_at hl 3 rfl) ?_
  refine lv_aload_n hx hb dJx4a65c_add_72be8_1 rfl (lv_at hl 2 rfl) ?_
  refine k_elen hx hb hGV hS dJx4a65c_add_72be8_2 ?_
  refine k_icmp_ne_f (tgt := 11) hx hb dJx4a65c_add_72be8_3 (by decide) (by decide) ?_
  refine lv_aload_n hx hb dJx4a65c_add_72be8_6 rfl (lv_at hl 0 rfl) ?_
  refine ct_V (wr := [(h1, .inr (12, [.int p0, .int p1, .int 112, .long 0, .long 0, .int 0]))]) hSF hl.1 hP hD hS hA hK hGV (c59_Jx4a65c_grow_d5877 l hfl D cA g h0) goV_Jx4a65c_129 pd_Jx4a65c_grow_d5877 ⟨(Nat.le_of_ble_eq_true rfl), (Nat.le_of_ble_eq_true rfl)⟩ ⟨(Nat.le_of_ble_eq_true rfl), (Nat.le_of_ble_eq_true rfl)⟩ (va_recv hK hP (ci := 2) (q0 := 0) rfl rfl) dJx4a65c_add_72be8_7 rfl (Nat.le_of_ble_eq_true rfl) [0] [1] rfl (by decide) rfl (by decide) (by decide) (fun q => [(h1, .inr (12, [.int p0, .int p1, .int 112, .long 0, .long 0, .int 0])), (h0, .inr (2, [.int 1, .ref (q 0), .int 0])), ((q 0), .inl (cA 4, 10, .inr (.inr (.inr (.inr (fun _ => none))))))]) (fun _ => rfl) (fun q1 H locs hP hD hS => ?_)
  refine W.eq (g2 := F0 m 10 ls [.ref (q1 0)]) rfl ?_
  refine lv_astore_n (lv' := [(2, .ref (q1 0)), (0, .ref h0), (1, .ref h1), (3, .int 0)]) hx hb dJx4a65c_add_72be8_10 rfl hl (by decide) rfl (fun ls hl => ?_)
  refine lv_aload_n hx hb dJx4a65c_add_72be8_11 rfl (lv_at hl 0 rfl) ?_
  refine lv_iload_n hx hb dJx4a65c_add_72be8_12 rfl (lv_at hl 3 rfl) ?_
  refine lv_aload_n hx hb dJx4a65c_add_72be8_13 rfl (lv_at hl 2 rfl) ?_
  refine k_astq (r := (RX9, TX9, 6)) (ws1 := [(h1, .inr (12, [.int p0, .int p1, .int 112, .long 0, .long 0, .int 0])), (h0, .inr (2, [.int 1, .ref (q1 0), .int 0])), ((q1 0), .inl (cA 4, 10, .inr (.inr (.inr (.inr (va_up (fun _ => none) 0 (some h1)))))))]) hx hb hK hP hD hS hGV.2.2.2.2.1 2 0 12 rfl gw1868 rfl rfl rfl (by unfold vp_in; decide) dJx4a65c_add_72be8_14 (fun H locs hP hD hS => ?_)
  refine lv_aload_n hx hb dJx4a65c_add_72be8_15 rfl (lv_at hl 1 rfl) ?_
  refine lv_iload_n hx hb dJx4a65c_add_72be8_16 rfl (lv_at hl 3 rfl) ?_
  refine lv_iconst (v := 1) hx hb dJx4a65c_add_72be8_17 (by decide) ?_
  refine k_iadd (v := 1) hx hb dJx4a65c_add_72be8_18 (by decide) ?_
  refine k_put (ci := 2) (C := RJx4a65c) (T := TJx4a65c) (N := 3) (v := .int 1) (ws1 := [(h1, .inr (12, [.int p0, .int p1, .int 112, .long 0, .long 0, .int 0])), (h0, .inr (2, [.int 1, .ref (q1 0), .int 1])), ((q1 0), .inl (cA 4, 10, .inr (.inr (.inr (.inr (va_up (fun _ => none) 0 (some h1)))))))]) hx hb hG inJx4a65c tyJx4a65c tyJx4a65c_ok nmJx4a65c hown hK hP hD hS 1 rfl rfl 2 (by decide) gw1208 rfl ⟨rfl, rfl⟩ rfl (Nat.le_of_ble_eq_true rfl) dJx4a65c_add_72be8_19 (fun H locs hP hD hS => ?_)
  exact e_v (fun i => match i with | 0 => (q1 0) | _ => 0) hx hb hr hlocks rfl (hP.sub [1, 0, 2] rfl) (hD.sub [1, 0, 2] (by decide) rfl) hS (Nat.le_of_ble_eq_true rfl) (Nat.le_of_ble_eq_true rfl) dJx4a65c_add_72be8_22
set_option maxHeartbeats 4000000 in
set_option maxRecDepth 100000 in
theorem c77_Jx4a65c_add_9ea2d (l : Launch) (hfl : l.stackTraces = false) (D : va_G) (cA : Nat → ClassId) (g : gv_T) (h0 h1 : Nat) (p0 : Int32) (p1 : Int32) : CT l yJx4a65c_add_9ea2d cJx4a65c_add_9ea2d 2 (some .boolean) (RM 4 1 10 96) D cA g [.ref h0, .ref h1] [(h0, .inr (2, [.int 0, .ref g.1, .int 0])), (h1, .inr (12, [.int p0, .int p1, .int 112, .long 0, .long 0, .int 0]))] (fun q => some (.int 1)) (fun q => [(h0, .inr (2, [.int 1, .ref (q 0), .int 1])), (h1, .inr (12, [.int p0, .int p1, .int 112, .long 0, .long 0, .int 0])), ((q 0), .inl (cA 4, 10, .inr (.inr (.inr (.inr (va_up (fun _ => none) 0 (some h1)))))))]) := by
  refine CT.of (by decide +kernel) (Nat.le_of_ble_eq_true rfl) ?_
  intro p e s m args below meth c A ls hx hb hr hml hown hG hlocks hnm hA hS hP hK hD hGV hl
  have hown : s.vm.findClass RJx4a65c = some m.cls := hown
  have hl : lv_has ls 2 [(0, .ref h0), (1, .ref h1)] := hl
  have hSF : CF p m c cJx4a65c_add_9ea2d 2 s args RJx4a65c := ⟨hx, hb, hml, hown, hG⟩
  refine lv_aload_n hx hb dJx4a65c_add_9ea2d_0 rfl (lv_at hl 0 rfl) ?_
  refine lv_dup hx hb dJx4a65c_add_9ea2d_1 rfl ?_
  refine k_getR (ci := 2) (C := RJx4a65c) (T := TJx4a65c) (N := 3) (v := .int 0) hx hb hG inJx4a65c hown hK hP 0 rfl rfl 0 (by decide) gw1210 gw1211 rfl dJx4a65c_add_9ea2d_2 ?_
  refine lv_iconst (v := 1) hx hb dJx4a65c_add_9ea2d_5 (by decide) ?_
  refine k_iadd (v := 1) hx hb dJx4a65c_add_9ea2d_6 (by decide) ?_
  refine k_putR (ci := 2) (C := RJx4a65c) (T := TJx4a65c) (N := 3) (v := .int 1) (ws1 := [(h0, .inr (2, [.int 1, .ref g.1, .int 0])), (h1, .inr (12, [.int p0, .int p1, .int 112, .long 0, .long 0, .int 0]))]) hx hb hG inJx4a65c tyJx4a65c tyJx4a65c_ok nmJx4a65c hown hK hP hD hS 0 rfl rfl 0 (by decide) gw1210 gw1211 rfl ⟨rfl, rfl⟩ rfl (Nat.le_of_ble_eq_true rfl) dJx4a65c_add_9ea2d_7 (fun H locs hP hD hS => ?_)
  refine lv_aload_n hx hb dJx4a65c_add_9ea2d_10 rfl (lv_at hl 0 rfl) ?_
  refine lv_aload_n hx hb dJx4a65c_add_9ea2d_11 rfl (lv_at hl 1 rfl) ?_
  refine lv_aload_n hx hb dJx4a65c_add_9ea2d_12 rfl (lv_at hl 0 rfl) ?_
  refine k_get (ci := 2) (C := RJx4a65c) (T := TJx4a65c) (N := 3) (v := .ref g.1) hx hb hG inJx4a65c hown hK hP 0 rfl rfl 1 (by decide) gw1207 rfl dJx4a65c_add_9ea2d_13 ?_
  refine lv_aload_n hx hb dJx4a65c_add_9ea2d_16 rfl (lv_at hl 0 rfl) ?_
  refine k_get (ci := 2) (C := RJx4a65c) (T := TJx4a65c) (N := 3) (v := .int 0) hx hb hG inJx4a65c hown hK hP 0 rfl rfl 2 (by decide) gw1208 rfl dJx4a65c_add_9ea2d_17 ?_
  refine ct_V (wr := []) hSF hl.1 hP hD hS hA hK hGV (c76_Jx4a65c_add_72be8 l hfl D cA g h0 h1 (p0) (p1)) goV_Jx4a65c_131 pd_Jx4a65c_add_72be8 ⟨(Nat.le_of_ble_eq_true rfl), (Nat.le_of_ble_eq_true rfl)⟩ ⟨(Nat.le_of_ble_eq_true rfl), (Nat.le_of_ble_eq_true rfl)⟩ (va_recv hK hP (ci := 2) (q0 := 0) rfl rfl) dJx4a65c_add_9ea2d_20 rfl (Nat.le_of_ble_eq_true rfl) [0, 1] [] rfl (by decide) rfl (by decide) (by decide) (fun q => [(h0, .inr (2, [.int 1, .ref (q 0), .int 1])), (h1, .inr (12, [.int p0, .int p1, .int 112, .long 0, .long 0, .int 0])), ((q 0), .inl (cA 4, 10, .inr (.inr (.inr (.inr (va_up (fun _ => none) 0 (some h1)))))))]) (fun _ => rfl) (fun q1 H locs hP hD hS => ?_)
  refine W.eq (g2 := F0 m 23 ls []) rfl ?_
  refine lv_iconst (v := 1) hx hb dJx4a65c_add_9ea2d_23 (by decide) ?_
  exact e_i (fun i => match i with | 0 => (q1 0) | _ => 0) hx hb hr hlocks rfl rfl hP hD hS (Nat.le_of_ble_eq_true rfl) (Nat.le_of_ble_eq_true rfl) dJx4a65c_add_9ea2d_24
set_option maxHeartbeats 4000000 in
set_option maxRecDepth 100000 in
theorem c78_X12_node (l : Launch) (hfl : l.stackTraces = false) (D : va_G) (cA : Nat → ClassId) (g : gv_T) (h0 h1 h2 h3 h4 h5 h6 h7 h8 h9 h10 h11 h12 h13 h14 h15 h16 h17 h18 : Nat) (p0 : Int32) (p1 : Int32) (k0 : ¬ (lg_cmp p0.toInt64 0) < 0) (k1 : ¬ 0 < (lg_cmp p0.toInt64 30)) (k2 : ¬ (lg_cmp p1.toInt64 0) < 0) (k3 : ¬ 0 < (lg_cmp p1.toInt64 30)) : CT l yX12_node cX12_node 4 (some .int) (RM 5 2 16 117) D cA g [.ref h0, .int p0, .int p1, .int 112] [(h0, .inr (15, [.ref h1, .ref h2, .ref h3, .ref h4, .ref h5, .ref h6, .ref h7, .ref h8, .ref h9, .ref h10, .ref h11, .ref h12, .ref h13, .ref h14, .ref h15, .ref h16, .ref h17, .ref h18, .long 0, .int 0, .int 2, .int 0, .int 0, .int 0, .int 0, .int 0, .int 0])), (h1, .inr (2, [.int 0, .ref g.1, .int 0]))] (fun q => some (.int 0)) (fun q => [(h0, .inr (15, [.ref h1, .ref h2, .ref h3, .ref h4, .ref h5, .ref h6, .ref h7, .ref h8, .ref h9, .ref h10, .ref h11, .ref h12, .ref h13, .ref h14, .ref h15, .ref h16, .ref h17, .ref h18, .long 0, .int 0, .int 2, .int 0, .int 0, .int 0, .int 0, .int 0, .int 0])), (h1, .inr (2, [.int 1, .ref (q 1), .int 1])), ((q 0), .inr (12, [.int p0, .int p1, .int 112, .long 0, .long 0, .int 0])), ((q 1), .inl (cA 4, 10, .inr (.inr (.inr (.inr (va_up (fun _ => none) 0 (some (q 0))))))))]) := by
  refine CT.of (by decide +kernel) (Nat.le_of_ble_eq_true rfl) ?_
  intro p e s m args below meth c A ls hx hb hr hml hown hG hlocks hnm hA hS hP hK hD hGV hl
  have hown : s.vm.findClass RX12 = some m.cls := hown
  have hl : lv_has ls 4 [(0, .ref h0), (1, .int p0), (2, .int p1), (3, .int 112)] := hl
  have hSF : CF p m c cX12_node 4 s args RX12 := ⟨hx, hb, hml, hown, hG⟩
  refine lv_iload_n hx hb dX12_node_0 rfl (lv_at hl 1 rfl) ?_
  refine lv_i2l (v := p0.toInt64) hx hb dX12_node_1 rfl ?_
  refine lv_iconst (v := 0) hx hb dX12_node_2 (by decide) ?_
  refine lv_bipush (v := 30) hx hb dX12_node_3 (by decide) ?_
  refine ct_S (wr := [(h0, .inr (15, [.ref h1, .ref h2, .ref h3, .ref h4, .ref h5, .ref h6, .ref h7, .ref h8, .ref h9, .ref h10, .ref h11, .ref h12, .ref h13, .ref h14, .ref h15, .ref h16, .ref h17, .ref h18, .long 0, .int 0, .int 2, .int 0, .int 0, .int 0, .int 0, .int 0, .int 0])), (h1, .inr (2, [.int 0, .ref g.1, .int 0]))]) hSF hl.1 hP hD hS hA hK hGV (c26_X12_in l hfl D cA g (p0.toInt64) k0 k1) goS_X12_285 pd_X12_in.2 ⟨(Nat.le_of_ble_eq_true rfl), (Nat.le_of_ble_eq_true rfl)⟩ ⟨(Nat.le_of_ble_eq_true rfl), (Nat.le_of_ble_eq_true rfl)⟩ dX12_node_5 rfl (Nat.le_of_ble_eq_true rfl) [] [0, 1] rfl (by decide) rfl (by decide) (by decide) (fun q => [(h0, .inr (15, [.ref h1, .ref h2, .ref h3, .ref h4, .ref h5, .ref h6, .ref h7, .ref h8, .ref h9, .ref h10, .ref h11, .ref h12, .ref h13, .ref h14, .ref h15, .ref h16, .ref h17, .ref h18, .long 0, .int 0, .int 2, .int 0, .int 0, .int 0, .int 0, .int 0, .int 0])), (h1, .inr (2, [.int 0, .ref g.1, .int 0]))]) (fun _ => rfl) (fun q1 H locs hP hD hS => ?_)
  refine W.eq (g2 := F0 m 8 ls [.int 1]) rfl ?_
  refine k_if_eq_f (tgt := 40) hx hb dX12_node_8 (by decide) (by decide) ?_
  refine lv_iload_n hx hb dX12_node_11 rfl (lv_at hl 2 rfl) ?_
  refine lv_i2l (v := p1.toInt64) hx hb dX12_node_12 rfl ?_
  refine lv_iconst (v := 0) hx hb dX12_node_13 (by decide) ?_
  refine lv_bipush (v := 30) hx hb dX12_node_14 (by decide) ?_
  refine ct_S (wr := [(h0, .inr (15, [.ref h1, .ref h2, .ref h3, .ref h4, .ref h5, .ref h6, .ref h7, .ref h8, .ref h9, .ref h10, .ref h11, .ref h12, .ref h13, .ref h14, .ref h15, .ref h16, .ref h17, .ref h18, .long 0, .int 0, .int 2, .int 0, .int 0, .int 0, .int 0, .int 0, .int 0])), (h1, .inr (2, [.int 0, .ref g.1, .int 0]))]) hSF hl.1 hP hD hS hA hK hGV (c26_X12_in l hfl D cA g (p1.toInt64) k2 k3) goS_X12_285 pd_X12_in.2 ⟨(Nat.le_of_ble_eq_true rfl), (Nat.le_of_ble_eq_true rfl)⟩ ⟨(Nat.le_of_ble_eq_true rfl), (Nat.le_of_ble_eq_true rfl)⟩ dX12_node_16 rfl (Nat.le_of_ble_eq_true rfl) [] [0, 1] rfl (by decide) rfl (by decide) (by decide) (fun q => [(h0, .inr (15, [.ref h1, .ref h2, .ref h3, .ref h4, .ref h5, .ref h6, .ref h7, .ref h8, .ref h9, .ref h10, .ref h11, .ref h12, .ref h13, .ref h14, .ref h15, .ref h16, .ref h17, .ref h18, .long 0, .int 0, .int 2, .int 0, .int 0, .int 0, .int 0, .int 0, .int 0])), (h1, .inr (2, [.int 0, .ref g.1, .int 0]))]) (fun _ => rfl) (fun q2 H locs hP hD hS => ?_)
  refine W.eq (g2 := F0 m 19 ls [.int 1]) rfl ?_
  refine k_if_eq_f (tgt := 40) hx hb dX12_node_19 (by decide) (by decide) ?_
  refine lv_iload_n hx hb dX12_node_22 rfl (lv_at hl 3 rfl) ?_
  refine lv_bipush (v := 45) hx hb dX12_node_23 (by decide) ?_
  refine k_icmp_eq_f (tgt := 46) hx hb dX12_node_25 (by decide) (by decide) ?_
  refine lv_iload_n hx hb dX12_node_28 rfl (lv_at hl 3 rfl) ?_
  refine lv_bipush (v := 112) hx hb dX12_node_29 (by decide) ?_
  refine k_icmp_eq_t (tgt := 46) hx hb dX12_node_31 (by decide) (by decide) ?_
  refine lv_aload_n hx hb dX12_node_46 rfl (lv_at hl 0 rfl) ?_
  refine k_get (ci := 15) (C := RX12) (T := TX12) (N := 27) (v := .ref h1) hx hb hG inX12 hown hK hP 0 rfl rfl 0 (by decide) gw1219 rfl dX12_node_47 ?_
  refine ct_V (wr := [(h0, .inr (15, [.ref h1, .ref h2, .ref h3, .ref h4, .ref h5, .ref h6, .ref h7, .ref h8, .ref h9, .ref h10, .ref h11, .ref h12, .ref h13, .ref h14, .ref h15, .ref h16, .ref h17, .ref h18, .long 0, .int 0, .int 2, .int 0, .int 0, .int 0, .int 0, .int 0, .int 0]))]) hSF hl.1 hP hD hS hA hK hGV (c56_Jx4a65c_size_8abf5 l hfl D cA g h1) goV_X12_125 pd_Jx4a65c_size_8abf5 ⟨(Nat.le_of_ble_eq_true rfl), (Nat.le_of_ble_eq_true rfl)⟩ ⟨(Nat.le_of_ble_eq_true rfl), (Nat.le_of_ble_eq_true rfl)⟩ (va_recv hK hP (ci := 2) (q0 := 1) rfl rfl) dX12_node_50 rfl (Nat.le_of_ble_eq_true rfl) [1] [0] rfl (by decide) rfl (by decide) (by decide) (fun q => [(h0, .inr (15, [.ref h1, .ref h2, .ref h3, .ref h4, .ref h5, .ref h6, .ref h7, .ref h8, .ref h9, .ref h10, .ref h11, .ref h12, .ref h13, .ref h14, .ref h15, .ref h16, .ref h17, .ref h18, .long 0, .int 0, .int 2, .int 0, .int 0, .int 0, .int 0, .int 0, .int 0])), (h1, .inr (2, [.int 0, .ref g.1, .int 0]))]) (fun _ => rfl) (fun q3 H locs hP hD hS => ?_)
  refine W.eq (g2 := F0 m 53 ls [.int 0]) rfl ?_
  refine lv_bipush (v := 8) hx hb dX12_node_53 (by decide) ?_
  refine k_icmp_ne_t (tgt := 64) hx hb dX12_node_55 (by decide) (by decide) ?_
  refine lv_aload_n hx hb dX12_node_64 rfl (lv_at hl 0 rfl) ?_
  refine k_get (ci := 15) (C := RX12) (T := TX12) (N := 27) (v := .ref h1) hx hb hG inX12 hown hK hP 0 rfl rfl 0 (by decide) gw1219 rfl dX12_node_65 ?_
  refine k_new (ci := 12) (C := RX9) (T := TX9) (N := 6) hx hb hG inX9 tyX9 tyX9_ok hown gw1320 gw1321 gw97 hK hP hD hS hA rfl [.int 0, .int 0, .int 0, .long 0, .long 0, .int 0] rfl (Nat.le_of_ble_eq_true rfl) (Nat.le_of_ble_eq_true rfl) dX12_node_68 (fun a19 H hP hD hS => ?_)
  have hP : va_P D vwCl [(h0, .inr (15, [.ref h1, .ref h2, .ref h3, .ref h4, .ref h5, .ref h6, .ref h7, .ref h8, .ref h9, .ref h10, .ref h11, .ref h12, .ref h13, .ref h14, .ref h15, .ref h16, .ref h17, .ref h18, .long 0, .int 0, .int 2, .int 0, .int 0, .int 0, .int 0, .int 0, .int 0])), (h1, .inr (2, [.int 0, .ref g.1, .int 0])), (a19, .inr (12, [.int 0, .int 0, .int 0, .long 0, .long 0, .int 0]))] H := hP
  have hD : va_D _ [(h0, .inr (15, [.ref h1, .ref h2, .ref h3, .ref h4, .ref h5, .ref h6, .ref h7, .ref h8, .ref h9, .ref h10, .ref h11, .ref h12, .ref h13, .ref h14, .ref h15, .ref h16, .ref h17, .ref h18, .long 0, .int 0, .int 2, .int 0, .int 0, .int 0, .int 0, .int 0, .int 0])), (h1, .inr (2, [.int 0, .ref g.1, .int 0])), (a19, .inr (12, [.int 0, .int 0, .int 0, .long 0, .long 0, .int 0]))] := hD
  refine lv_dup hx hb dX12_node_71 rfl ?_
  refine lv_iload_n hx hb dX12_node_72 rfl (lv_at hl 1 rfl) ?_
  refine lv_iload_n hx hb dX12_node_73 rfl (lv_at hl 2 rfl) ?_
  refine lv_iload_n hx hb dX12_node_74 rfl (lv_at hl 3 rfl) ?_
  refine ct_I (wr := [(h0, .inr (15, [.ref h1, .ref h2, .ref h3, .ref h4, .ref h5, .ref h6, .ref h7, .ref h8, .ref h9, .ref h10, .ref h11, .ref h12, .ref h13, .ref h14, .ref h15, .ref h16, .ref h17, .ref h18, .long 0, .int 0, .int 2, .int 0, .int 0, .int 0, .int 0, .int 0, .int 0])), (h1, .inr (2, [.int 0, .ref g.1, .int 0]))]) hSF hl.1 hP hD hS hA hK hGV (c75_X9_init l hfl D cA g a19 (p0) (p1)) gw1322 gw1323 gw97 gw1324 rfl pd_X9_init.2 ⟨(Nat.le_of_ble_eq_true rfl), (Nat.le_of_ble_eq_true rfl)⟩ ⟨(Nat.le_of_ble_eq_true rfl), (Nat.le_of_ble_eq_true rfl)⟩ dX12_node_75 rfl (Nat.le_of_ble_eq_true rfl) [2] [0, 1] rfl (by decide) rfl (by decide) (by decide) (fun q => [(h0, .inr (15, [.ref h1, .ref h2, .ref h3, .ref h4, .ref h5, .ref h6, .ref h7, .ref h8, .ref h9, .ref h10, .ref h11, .ref h12, .ref h13, .ref h14, .ref h15, .ref h16, .ref h17, .ref h18, .long 0, .int 0, .int 2, .int 0, .int 0, .int 0, .int 0, .int 0, .int 0])), (h1, .inr (2, [.int 0, .ref g.1, .int 0])), (a19, .inr (12, [.int p0, .int p1, .int 112, .long 0, .long 0, .int 0]))]) (fun _ => rfl) (fun q4 H locs hP hD hS => ?_)
  refine W.eq (g2 := F0 m 78 ls [.ref a19, .ref h1]) rfl ?_
  refine ct_V (wr := [(h0, .inr (15, [.ref h1, .ref h2, .ref h3, .ref h4, .ref h5, .ref h6, .ref h7, .ref h8, .ref h9, .ref h10, .ref h11, .ref h12, .ref h13, .ref h14, .ref h15, .ref h16, .ref h17, .ref h18, .long 0, .int 0, .int 2, .int 0, .int 0, .int 0, .int 0, .int 0, .int 0]))]) hSF hl.1 hP hD hS hA hK hGV (c77_Jx4a65c_add_9ea2d l hfl D cA g h1 a19 (p0) (p1)) goV_X12_295 pd_Jx4a65c_add_9ea2d ⟨(Nat.le_of_ble_eq_true rfl), (Nat.le_of_ble_eq_true rfl)⟩ ⟨(Nat.le_of_ble_eq_true rfl), (Nat.le_of_ble_eq_true rfl)⟩ (va_recv hK hP (ci := 2) (q0 := 1) rfl rfl) dX12_node_78 rfl (Nat.le_of_ble_eq_true rfl) [1, 2] [0] rfl (by decide) rfl (by decide) (by decide) (fun q => [(h0, .inr (15, [.ref h1, .ref h2, .ref h3, .ref h4, .ref h5, .ref h6, .ref h7, .ref h8, .ref h9, .ref h10, .ref h11, .ref h12, .ref h13, .ref h14, .ref h15, .ref h16, .ref h17, .ref h18, .long 0, .int 0, .int 2, .int 0, .int 0, .int 0, .int 0, .int 0, .int 0])), (h1, .inr (2, [.int 1, .ref (q 0), .int 1])), (a19, .inr (12, [.int p0, .int p1, .int 112, .long 0, .long 0, .int 0])), ((q 0), .inl (cA 4, 10, .inr (.inr (.inr (.inr (va_up (fun _ => none) 0 (some a19)))))))]) (fun _ => rfl) (fun q5 H locs hP hD hS => ?_)
  refine W.eq (g2 := F0 m 81 ls [.int 1]) rfl ?_
  refine lv_pop hx hb dX12_node_81 rfl ?_
  refine lv_aload_n hx hb dX12_node_82 rfl (lv_at hl 0 rfl) ?_
  refine ct_V (wr := [(h1, .inr (2, [.int 1, .ref (q5 0), .int 1])), (a19, .inr (12, [.int p0, .int p1, .int 112, .long 0, .long 0, .int 0])), ((q5 0), .inl (cA 4, 10, .inr (.inr (.inr (.inr (va_up (fun _ => none) 0 (some a19)))))))]) hSF hl.1 hP hD hS hA hK hGV (c62_X12_changes l hfl D cA g h0 h1 h2 h3 h4 h5 h6 h7 h8 h9 h10 h11 h12 h13 h14 h15 h16 h17 h18) goV_X12_299 pd_X12_changes ⟨(Nat.le_of_ble_eq_true rfl), (Nat.le_of_ble_eq_true rfl)⟩ ⟨(Nat.le_of_ble_eq_true rfl), (Nat.le_of_ble_eq_true rfl)⟩ (va_recv hK hP (ci := 15) (q0 := 0) rfl rfl) dX12_node_83 rfl (Nat.le_of_ble_eq_true rfl) [0] [1, 2, 3] rfl (by decide) rfl (by decide) (by decide) (fun q => [(h1, .inr (2, [.int 1, .ref (q5 0), .int 1])), (a19, .inr (12, [.int p0, .int p1, .int 112, .long 0, .long 0, .int 0])), ((q5 0), .inl (cA 4, 10, .inr (.inr (.inr (.inr (va_up (fun _ => none) 0 (some a19))))))), (h0, .inr (15, [.ref h1, .ref h2, .ref h3, .ref h4, .ref h5, .ref h6, .ref h7, .ref h8, .ref h9, .ref h10, .ref h11, .ref h12, .ref h13, .ref h14, .ref h15, .ref h16, .ref h17, .ref h18, .long 0, .int 0, .int 2, .int 0, .int 0, .int 0, .int 0, .int 0, .int 0]))]) (fun _ => rfl) (fun q6 H locs hP hD hS => ?_)
  refine W.eq (g2 := F0 m 86 ls []) rfl ?_
  refine lv_aload_n hx hb dX12_node_86 rfl (lv_at hl 0 rfl) ?_
  refine lv_aload_n hx hb dX12_node_87 rfl (lv_at hl 0 rfl) ?_
  refine k_get (ci := 15) (C := RX12) (T := TX12) (N := 27) (v := .ref h1) hx hb hG inX12 hown hK hP 3 rfl rfl 0 (by decide) gw1219 rfl dX12_node_88 ?_
  refine ct_V (wr := [(a19, .inr (12, [.int p0, .int p1, .int 112, .long 0, .long 0, .int 0])), ((q5 0), .inl (cA 4, 10, .inr (.inr (.inr (.inr (va_up (fun _ => none) 0 (some a19))))))), (h0, .inr (15, [.ref h1, .ref h2, .ref h3, .ref h4, .ref h5, .ref h6, .ref h7, .ref h8, .ref h9, .ref h10, .ref h11, .ref h12, .ref h13, .ref h14, .ref h15, .ref h16, .ref h17, .ref h18, .long 0, .int 0, .int 2, .int 0, .int 0, .int 0, .int 0, .int 0, .int 0]))]) hSF hl.1 hP hD hS hA hK hGV (c63_Jx4a65c_size_8abf5 l hfl D cA g h1 (q5 0)) goV_X12_125 pd_Jx4a65c_size_8abf5 ⟨(Nat.le_of_ble_eq_true rfl), (Nat.le_of_ble_eq_true rfl)⟩ ⟨(Nat.le_of_ble_eq_true rfl), (Nat.le_of_ble_eq_true rfl)⟩ (va_recv hK hP (ci := 2) (q0 := 0) rfl rfl) dX12_node_91 rfl (Nat.le_of_ble_eq_true rfl) [0] [1, 2, 3] rfl (by decide) rfl (by decide) (by decide) (fun q => [(a19, .inr (12, [.int p0, .int p1, .int 112, .long 0, .long 0, .int 0])), ((q5 0), .inl (cA 4, 10, .inr (.inr (.inr (.inr (va_up (fun _ => none) 0 (some a19))))))), (h0, .inr (15, [.ref h1, .ref h2, .ref h3, .ref h4, .ref h5, .ref h6, .ref h7, .ref h8, .ref h9, .ref h10, .ref h11, .ref h12, .ref h13, .ref h14, .ref h15, .ref h16, .ref h17, .ref h18, .long 0, .int 0, .int 2, .int 0, .int 0, .int 0, .int 0, .int 0, .int 0])), (h1, .inr (2, [.int 1, .ref (q5 0), .int 1]))]) (fun _ => rfl) (fun q7 H locs hP hD hS => ?_)
  refine W.eq (g2 := F0 m 94 ls [.int 1, .ref h0]) rfl ?_
  refine lv_iconst (v := 1) hx hb dX12_node_94 (by decide) ?_
  refine k_isub (v := 0) hx hb dX12_node_95 (by decide) ?_
  refine ct_V (wr := [(a19, .inr (12, [.int p0, .int p1, .int 112, .long 0, .long 0, .int 0])), ((q5 0), .inl (cA 4, 10, .inr (.inr (.inr (.inr (va_up (fun _ => none) 0 (some a19))))))), (h1, .inr (2, [.int 1, .ref (q5 0), .int 1]))]) hSF hl.1 hP hD hS hA hK hGV (c64_X12_tell l hfl D cA g h0 h1 h2 h3 h4 h5 h6 h7 h8 h9 h10 h11 h12 h13 h14 h15 h16 h17 h18) goV_X12_302 pd_X12_tell ⟨(Nat.le_of_ble_eq_true rfl), (Nat.le_of_ble_eq_true rfl)⟩ ⟨(Nat.le_of_ble_eq_true rfl), (Nat.le_of_ble_eq_true rfl)⟩ (va_recv hK hP (ci := 15) (q0 := 2) rfl rfl) dX12_node_96 rfl (Nat.le_of_ble_eq_true rfl) [2] [0, 1, 3] rfl (by decide) rfl (by decide) (by decide) (fun q => [(a19, .inr (12, [.int p0, .int p1, .int 112, .long 0, .long 0, .int 0])), ((q5 0), .inl (cA 4, 10, .inr (.inr (.inr (.inr (va_up (fun _ => none) 0 (some a19))))))), (h1, .inr (2, [.int 1, .ref (q5 0), .int 1])), (h0, .inr (15, [.ref h1, .ref h2, .ref h3, .ref h4, .ref h5, .ref h6, .ref h7, .ref h8, .ref h9, .ref h10, .ref h11, .ref h12, .ref h13, .ref h14, .ref h15, .ref h16, .ref h17, .ref h18, .long 0, .int 0, .int 2, .int 0, .int 0, .int 0, .int 0, .int 0, .int 0]))]) (fun _ => rfl) (fun q8 H locs hP hD hS => ?_)
  refine W.eq (g2 := F0 m 99 ls [.int 0]) rfl ?_
  exact e_i (fun i => match i with | 0 => a19 | 1 => (q5 0) | _ => 0) hx hb hr hlocks rfl rfl (hP.sub [3, 2, 0, 1] rfl) (hD.sub [3, 2, 0, 1] (by decide) rfl) hS (Nat.le_of_ble_eq_true rfl) (Nat.le_of_ble_eq_true rfl) dX12_node_99
set_option maxHeartbeats 4000000 in
set_option maxRecDepth 100000 in
theorem c79_J1_canEncode_9a6ad (l : Launch) (hfl : l.stackTraces = false) (D : va_G) (cA : Nat → ClassId) (g : gv_T) : CT l yJ1_canEncode_9a6ad cJ1_canEncode_9a6ad 1 (some .boolean) (RM 0 0 0 0) D cA g [.int 114] [] (fun q => some (.int 1)) (fun q => []) := by
  refine CT.of (by decide +kernel) (Nat.le_of_ble_eq_true rfl) ?_
  intro p e s m args below meth c A ls hx hb hr hml hown hG hlocks hnm hA hS hP hK hD hGV hl
  have hown : s.vm.findClass RJ1 = some m.cls := hown
  have hl : lv_has ls 1 [(0, .int 114)] := hl
  have hSF : CF p m c cJ1_canEncode_9a6ad 1 s args RJ1 := ⟨hx, hb, hml, hown, hG⟩
  refine lv_iload_n hx hb dJ1_canEncode_9a6ad_0 rfl (lv_at hl 0 rfl) ?_
  refine k_if_lt_f (tgt := 15) hx hb dJ1_canEncode_9a6ad_1 (by decide) (by decide) ?_
  refine lv_iload_n hx hb dJ1_canEncode_9a6ad_4 rfl (lv_at hl 0 rfl) ?_
  refine lv_sipush (v := 255) hx hb dJ1_canEncode_9a6ad_5 (by decide) ?_
  refine k_icmp_gt_f (tgt := 15) hx hb dJ1_canEncode_9a6ad_8 (by decide) (by decide) ?_
  refine lv_iconst (v := 1) hx hb dJ1_canEncode_9a6ad_11 (by decide) ?_
  refine lv_goto (tgt := 16) hx hb dJ1_canEncode_9a6ad_12 (by decide) ?_
  exact e_i (fun _ => 0) hx hb hr hlocks rfl rfl hP hD hS (Nat.le_of_ble_eq_true rfl) (Nat.le_of_ble_eq_true rfl) dJ1_canEncode_9a6ad_16
set_option maxHeartbeats 4000000 in
set_option maxRecDepth 100000 in
theorem c80_J1_indexOfChar_4cfef (l : Launch) (hfl : l.stackTraces = false) (D : va_G) (cA : Nat → ClassId) (g : gv_T) : CT l yJ1_indexOfChar_4cfef cJ1_indexOfChar_4cfef 6 (some .int) (RM 0 0 0 0) D cA g [.ref g.2.2, .int 114, .int 0, .int 3] [] (fun q => some (.int 2)) (fun q => []) := by
  refine CT.of (by decide +kernel) (Nat.le_of_ble_eq_true rfl) ?_
  intro p e s m args below meth c A ls hx hb hr hml hown hG hlocks hnm hA hS hP hK hD hGV hl
  have hown : s.vm.findClass RJ1 = some m.cls := hown
  have hl : lv_has ls 6 [(0, .ref g.2.2), (1, .int 114), (2, .int 0), (3, .int 3)] := hl
  have hSF : CF p m c cJ1_indexOfChar_4cfef 6 s args RJ1 := ⟨hx, hb, hml, hown, hG⟩
  refine lv_iload_n hx hb dJ1_indexOfChar_4cfef_0 rfl (lv_at hl 1 rfl) ?_
  refine lv_i2b (v := 114) hx hb dJ1_indexOfChar_4cfef_1 (by decide +kernel) ?_
  refine lv_istore (lv' := [(4, .int 114), (0, .ref g.2.2), (1, .int 114), (2, .int 0), (3, .int 3)]) hx hb dJ1_indexOfChar_4cfef_2 hl (by decide) rfl (fun ls hl => ?_)
  refine lv_iload_n hx hb dJ1_indexOfChar_4cfef_4 rfl (lv_at hl 3 rfl) ?_
  refine lv_istore (lv' := [(5, .int 0), (4, .int 114), (0, .ref g.2.2), (1, .int 114), (2, .int 0), (3, .int 3)]) hx hb dJ1_indexOfChar_4cfef_5 hl (by decide) rfl (fun ls hl => ?_)
  refine lv_iload hx hb dJ1_indexOfChar_4cfef_7 (lv_at hl 0 rfl) ?_
  refine lv_iload_n hx hb dJ1_indexOfChar_4cfef_9 rfl (lv_at hl 5 rfl) ?_
  refine k_icmp_ge_f (tgt := 31) hx hb dJ1_indexOfChar_4cfef_10 (by decide) (by decide) ?_
  refine lv_aload_n hx hb dJ1_indexOfChar_4cfef_13 rfl (lv_at hl 2 rfl) ?_
  refine lv_iload hx hb dJ1_indexOfChar_4cfef_14 (lv_at hl 0 rfl) ?_
  refine k_sld (v := 45) hx hb hGV hS (by unfold vp_in; decide) rfl dJ1_indexOfChar_4cfef_16 ?_
  refine lv_iload hx hb dJ1_indexOfChar_4cfef_17 (lv_at hl 1 rfl) ?_
  refine k_icmp_ne_t (tgt := 25) hx hb dJ1_indexOfChar_4cfef_19 (by decide) (by decide) ?_
  refine lv_iinc (v := 1) (lv' := [(5, .int 1), (4, .int 114), (0, .ref g.2.2), (1, .int 114), (2, .int 0), (3, .int 3)]) hx hb dJ1_indexOfChar_4cfef_25 hl (k := 0) rfl (by decide) (by decide) rfl (fun ls hl => ?_)
  refine lv_goto (tgt := 7) hx hb dJ1_indexOfChar_4cfef_28 (by decide) ?_
  refine lv_iload hx hb dJ1_indexOfChar_4cfef_7 (lv_at hl 0 rfl) ?_
  refine lv_iload_n hx hb dJ1_indexOfChar_4cfef_9 rfl (lv_at hl 5 rfl) ?_
  refine k_icmp_ge_f (tgt := 31) hx hb dJ1_indexOfChar_4cfef_10 (by decide) (by decide) ?_
  refine lv_aload_n hx hb dJ1_indexOfChar_4cfef_13 rfl (lv_at hl 2 rfl) ?_
  refine lv_iload hx hb dJ1_indexOfChar_4cfef_14 (lv_at hl 0 rfl) ?_
  refine k_sld (v := 112) hx hb hGV hS (by unfold vp_in; decide) rfl dJ1_indexOfChar_4cfef_16 ?_
  refine lv_iload hx hb dJ1_indexOfChar_4cfef_17 (lv_at hl 1 rfl) ?_
  refine k_icmp_ne_t (tgt := 25) hx hb dJ1_indexOfChar_4cfef_19 (by decide) (by decide) ?_
  refine lv_iinc (v := 2) (lv' := [(5, .int 2), (4, .int 114), (0, .ref g.2.2), (1, .int 114), (2, .int 0), (3, .int 3)]) hx hb dJ1_indexOfChar_4cfef_25 hl (k := 0) rfl (by decide) (by decide) rfl (fun ls hl => ?_)
  refine lv_goto (tgt := 7) hx hb dJ1_indexOfChar_4cfef_28 (by decide) ?_
  refine lv_iload hx hb dJ1_indexOfChar_4cfef_7 (lv_at hl 0 rfl) ?_
  refine lv_iload_n hx hb dJ1_indexOfChar_4cfef_9 rfl (lv_at hl 5 rfl) ?_
  refine k_icmp_ge_f (tgt := 31) hx hb dJ1_indexOfChar_4cfef_10 (by decide) (by decide) ?_
  refine lv_aload_n hx hb dJ1_indexOfChar_4cfef_13 rfl (lv_at hl 2 rfl) ?_
  refine lv_iload hx hb dJ1_indexOfChar_4cfef_14 (lv_at hl 0 rfl) ?_
  refine k_sld (v := 114) hx hb hGV hS (by unfold vp_in; decide) rfl dJ1_indexOfChar_4cfef_16 ?_
  refine lv_iload hx hb dJ1_indexOfChar_4cfef_17 (lv_at hl 1 rfl) ?_
  refine k_icmp_ne_f (tgt := 25) hx hb dJ1_indexOfChar_4cfef_19 (by decide) (by decide) ?_
  refine lv_iload hx hb dJ1_indexOfChar_4cfef_22 (lv_at hl 0 rfl) ?_
  exact e_i (fun _ => 0) hx hb hr hlocks rfl rfl hP hD hS (Nat.le_of_ble_eq_true rfl) (Nat.le_of_ble_eq_true rfl) dJ1_indexOfChar_4cfef_24
set_option maxHeartbeats 4000000 in
set_option maxRecDepth 100000 in
theorem c81_J1_indexOf_4cfef (l : Launch) (hfl : l.stackTraces = false) (D : va_G) (cA : Nat → ClassId) (g : gv_T) : CT l yJ1_indexOf_4cfef cJ1_indexOf_4cfef 4 (some .int) (RM 1 0 0 30) D cA g [.ref g.2.2, .int 114, .int 0, .int 3] [] (fun q => some (.int 2)) (fun q => []) := by
  refine CT.of (by decide +kernel) (Nat.le_of_ble_eq_true rfl) ?_
  intro p e s m args below meth c A ls hx hb hr hml hown hG hlocks hnm hA hS hP hK hD hGV hl
  have hown : s.vm.findClass RJ1 = some m.cls := hown
  have hl : lv_has ls 4 [(0, .ref g.2.2), (1, .int 114), (2, .int 0), (3, .int 3)] := hl
  have hSF : CF p m c cJ1_indexOf_4cfef 4 s args RJ1 := ⟨hx, hb, hml, hown, hG⟩
  refine lv_iload_n hx hb dJ1_indexOf_4cfef_0 rfl (lv_at hl 1 rfl) ?_
  refine ct_S (wr := []) hSF hl.1 hP hD hS hA hK hGV (c79_J1_canEncode_9a6ad l hfl D cA g) goS_J1_88 pd_J1_canEncode_9a6ad.2 ⟨(Nat.le_of_ble_eq_true rfl), (Nat.le_of_ble_eq_true rfl)⟩ ⟨(Nat.le_of_ble_eq_true rfl), (Nat.le_of_ble_eq_true rfl)⟩ dJ1_indexOf_4cfef_1 rfl (Nat.le_of_ble_eq_true rfl) [] [] rfl (by decide) rfl (by decide) (by decide) (fun q => []) (fun _ => rfl) (fun q1 H locs hP hD hS => ?_)
  refine W.eq (g2 := F0 m 4 ls [.int 1]) rfl ?_
  refine k_if_ne_t (tgt := 9) hx hb dJ1_indexOf_4cfef_4 (by decide) (by decide) ?_
  refine lv_iload_n hx hb dJ1_indexOf_4cfef_9 rfl (lv_at hl 2 rfl) ?_
  refine lv_iconst (v := 0) hx hb dJ1_indexOf_4cfef_10 (by decide) ?_
  refine k_mmax (v := 0) hx hb (hml.trans hl.1.symm) hown (hG _ gw610) (hG _ gw611) (hG _ gw88) (hG _ gw612) (Nat.le_of_ble_eq_true rfl) (Nat.le_of_ble_eq_true rfl) (Nat.le_of_ble_eq_true rfl) (Nat.le_of_ble_eq_true rfl) dJ1_indexOf_4cfef_11 (by decide +kernel) ?_
  refine lv_istore_n (lv' := [(2, .int 0), (0, .ref g.2.2), (1, .int 114), (3, .int 3)]) hx hb dJ1_indexOf_4cfef_14 rfl hl (by decide) rfl (fun ls hl => ?_)
  refine lv_iload_n hx hb dJ1_indexOf_4cfef_15 rfl (lv_at hl 3 rfl) ?_
  refine lv_aload_n hx hb dJ1_indexOf_4cfef_16 rfl (lv_at hl 1 rfl) ?_
  refine k_slen hx hb hGV hS dJ1_indexOf_4cfef_17 ?_
  refine k_mmin (v := 3) hx hb (hml.trans hl.1.symm) hown (hG _ gw613) (hG _ gw614) (hG _ gw88) (hG _ gw615) (Nat.le_of_ble_eq_true rfl) (Nat.le_of_ble_eq_true rfl) (Nat.le_of_ble_eq_true rfl) (Nat.le_of_ble_eq_true rfl) dJ1_indexOf_4cfef_18 (by decide +kernel) ?_
  refine lv_istore_n (lv' := [(3, .int 3), (2, .int 0), (0, .ref g.2.2), (1, .int 114)]) hx hb dJ1_indexOf_4cfef_21 rfl hl (by decide) rfl (fun ls hl => ?_)
  refine lv_iload_n hx hb dJ1_indexOf_4cfef_22 rfl (lv_at hl 1 rfl) ?_
  refine lv_iload_n hx hb dJ1_indexOf_4cfef_23 rfl (lv_at hl 0 rfl) ?_
  refine k_icmp_lt_t (tgt := 29) hx hb dJ1_indexOf_4cfef_24 (by decide) (by decide) ?_
  refine lv_aload_n hx hb dJ1_indexOf_4cfef_29 rfl (lv_at hl 2 rfl) ?_
  refine lv_iload_n hx hb dJ1_indexOf_4cfef_30 rfl (lv_at hl 3 rfl) ?_
  refine lv_iload_n hx hb dJ1_indexOf_4cfef_31 rfl (lv_at hl 1 rfl) ?_
  refine lv_iload_n hx hb dJ1_indexOf_4cfef_32 rfl (lv_at hl 0 rfl) ?_
  refine ct_S (wr := []) hSF hl.1 hP hD hS hA hK hGV (c80_J1_indexOfChar_4cfef l hfl D cA g) goS_J1_95 pd_J1_indexOfChar_4cfef.2 ⟨(Nat.le_of_ble_eq_true rfl), (Nat.le_of_ble_eq_true rfl)⟩ ⟨(Nat.le_of_ble_eq_true rfl), (Nat.le_of_ble_eq_true rfl)⟩ dJ1_indexOf_4cfef_33 rfl (Nat.le_of_ble_eq_true rfl) [] [] rfl (by decide) rfl (by decide) (by decide) (fun q => []) (fun _ => rfl) (fun q2 H locs hP hD hS => ?_)
  refine W.eq (g2 := F0 m 36 ls [.int 2]) rfl ?_
  exact e_i (fun _ => 0) hx hb hr hlocks rfl rfl hP hD hS (Nat.le_of_ble_eq_true rfl) (Nat.le_of_ble_eq_true rfl) dJ1_indexOf_4cfef_36
set_option maxHeartbeats 4000000 in
set_option maxRecDepth 100000 in
theorem c82_J0_indexOf_7cf53 (l : Launch) (hfl : l.stackTraces = false) (D : va_G) (cA : Nat → ClassId) (g : gv_T) : CT l yJ0_indexOf_7cf53 cJ0_indexOf_7cf53 3 (some .int) (RM 2 0 0 53) D cA g [.ref (g.2.1 0), .int 114, .int 0] [] (fun q => some (.int 2)) (fun q => []) := by
  refine CT.of (by decide +kernel) (Nat.le_of_ble_eq_true rfl) ?_
  intro p e s m args below meth c A ls hx hb hr hml hown hG hlocks hnm hA hS hP hK hD hGV hl
  have hown : s.vm.findClass RJ0 = some m.cls := hown
  have hl : lv_has ls 3 [(0, .ref (g.2.1 0)), (1, .int 114), (2, .int 0)] := hl
  have hSF : CF p m c cJ0_indexOf_7cf53 3 s args RJ0 := ⟨hx, hb, hml, hown, hG⟩
  refine lv_aload_n hx hb dJ0_indexOf_7cf53_0 rfl (lv_at hl 0 rfl) ?_
  refine ct_V (wr := []) hSF hl.1 hP hD hS hA hK hGV (c31_J0_isLatin1_aae02 l hfl D cA g) goV_J0_492 pd_J0_isLatin1_aae02 ⟨(Nat.le_of_ble_eq_true rfl), (Nat.le_of_ble_eq_true rfl)⟩ ⟨(Nat.le_of_ble_eq_true rfl), (Nat.le_of_ble_eq_true rfl)⟩ (vk_recv (N := 1) (adK := fun _ => g.2.1 0) (i := 0) hGV.2.2.1.2 (by decide) hS) dJ0_indexOf_7cf53_1 rfl (Nat.le_of_ble_eq_true rfl) [] [] rfl (by decide) rfl (by decide) (by decide) (fun q => []) (fun _ => rfl) (fun q1 H locs hP hD hS => ?_)
  refine W.eq (g2 := F0 m 4 ls [.int 1]) rfl ?_
  refine k_if_eq_f (tgt := 23) hx hb dJ0_indexOf_7cf53_4 (by decide) (by decide) ?_
  refine lv_aload_n hx hb dJ0_indexOf_7cf53_7 rfl (lv_at hl 0 rfl) ?_
  refine k_svalue hx hb hG hGV hS hown gw1891 dJ0_indexOf_7cf53_8 ?_
  refine lv_iload_n hx hb dJ0_indexOf_7cf53_11 rfl (lv_at hl 1 rfl) ?_
  refine lv_iload_n hx hb dJ0_indexOf_7cf53_12 rfl (lv_at hl 2 rfl) ?_
  refine lv_aload_n hx hb dJ0_indexOf_7cf53_13 rfl (lv_at hl 0 rfl) ?_
  refine ct_V (wr := []) hSF hl.1 hP hD hS hA hK hGV (c33_J0_length_8abf5 l hfl D cA g) goV_J0_505 pd_J0_length_8abf5 ⟨(Nat.le_of_ble_eq_true rfl), (Nat.le_of_ble_eq_true rfl)⟩ ⟨(Nat.le_of_ble_eq_true rfl), (Nat.le_of_ble_eq_true rfl)⟩ (vk_recv (N := 1) (adK := fun _ => g.2.1 0) (i := 0) hGV.2.2.1.2 (by decide) hS) dJ0_indexOf_7cf53_14 rfl (Nat.le_of_ble_eq_true rfl) [] [] rfl (by decide) rfl (by decide) (by decide) (fun q => []) (fun _ => rfl) (fun q2 H locs hP hD hS => ?_)
  refine W.eq (g2 := F0 m 17 ls [.int 3, .int 0, .int 114, .ref g.2.2]) rfl ?_
  refine ct_S (wr := []) hSF hl.1 hP hD hS hA hK hGV (c81_J1_indexOf_4cfef l hfl D cA g) goS_J0_637 pd_J1_indexOf_4cfef.2 ⟨(Nat.le_of_ble_eq_true rfl), (Nat.le_of_ble_eq_true rfl)⟩ ⟨(Nat.le_of_ble_eq_true rfl), (Nat.le_of_ble_eq_true rfl)⟩ dJ0_indexOf_7cf53_17 rfl (Nat.le_of_ble_eq_true rfl) [] [] rfl (by decide) rfl (by decide) (by decide) (fun q => []) (fun _ => rfl) (fun q3 H locs hP hD hS => ?_)
  refine W.eq (g2 := F0 m 20 ls [.int 2]) rfl ?_
  refine lv_goto (tgt := 36) hx hb dJ0_indexOf_7cf53_20 (by decide) ?_
  exact e_i (fun _ => 0) hx hb hr hlocks rfl rfl hP hD hS (Nat.le_of_ble_eq_true rfl) (Nat.le_of_ble_eq_true rfl) dJ0_indexOf_7cf53_36
set_option maxHeartbeats 4000000 in
set_option maxRecDepth 100000 in
theorem c83_J0_indexOf_0f7a4 (l : Launch) (hfl : l.stackTraces = false) (D : va_G) (cA : Nat → ClassId) (g : gv_T) : CT l yJ0_indexOf_0f7a4 cJ0_indexOf_0f7a4 2 (some .int) (RM 3 0 0 75) D cA g [.ref (g.2.1 0), .int 114] [] (fun q => some (.int 2)) (fun q => []) := by
  refine CT.of (by decide +kernel) (Nat.le_of_ble_eq_true rfl) ?_
  intro p e s m args below meth c A ls hx hb hr hml hown hG hlocks hnm hA hS hP hK hD hGV hl
  have hown : s.vm.findClass RJ0 = some m.cls := hown
  have hl : lv_has ls 2 [(0, .ref (g.2.1 0)), (1, .int 114)] := hl
  have hSF : CF p m c cJ0_indexOf_0f7a4 2 s args RJ0 := ⟨hx, hb, hml, hown, hG⟩
  refine lv_aload_n hx hb dJ0_indexOf_0f7a4_0 rfl (lv_at hl 0 rfl) ?_
  refine lv_iload_n hx hb dJ0_indexOf_0f7a4_1 rfl (lv_at hl 1 rfl) ?_
  refine lv_iconst (v := 0) hx hb dJ0_indexOf_0f7a4_2 (by decide) ?_
  refine ct_V (wr := []) hSF hl.1 hP hD hS hA hK hGV (c82_J0_indexOf_7cf53 l hfl D cA g) goV_J0_633 pd_J0_indexOf_7cf53 ⟨(Nat.le_of_ble_eq_true rfl), (Nat.le_of_ble_eq_true rfl)⟩ ⟨(Nat.le_of_ble_eq_true rfl), (Nat.le_of_ble_eq_true rfl)⟩ (vk_recv (N := 1) (adK := fun _ => g.2.1 0) (i := 0) hGV.2.2.1.2 (by decide) hS) dJ0_indexOf_0f7a4_3 rfl (Nat.le_of_ble_eq_true rfl) [] [] rfl (by decide) rfl (by decide) (by decide) (fun q => []) (fun _ => rfl) (fun q1 H locs hP hD hS => ?_)
  refine W.eq (g2 := F0 m 6 ls [.int 2]) rfl ?_
  exact e_i (fun _ => 0) hx hb hr hlocks rfl rfl hP hD hS (Nat.le_of_ble_eq_true rfl) (Nat.le_of_ble_eq_true rfl) dJ0_indexOf_0f7a4_6
set_option maxHeartbeats 4000000 in
set_option maxRecDepth 100000 in
theorem c84_X2_addNode (l : Launch) (hfl : l.stackTraces = false) (D : va_G) (cA : Nat → ClassId) (g : gv_T) (h0 h1 h2 h3 h4 h5 h6 h7 h8 h9 h10 : Nat) (p0 : Int32) (p1 : Int32) : CT l yX2_addNode cX2_addNode 5 (some .int) (RM 0 0 0 0) D cA g [.ref h0, .int p0, .int p1, .int 114] [(h0, .inr (5, [.int 0, .int 0, .ref h1, .ref h2, .ref h3, .ref h4, .ref h5, .ref h6, .ref h7, .ref h8, .ref h9, .ref h10])), (h1, .inl (cA 0, 16, .inl (fun _ => 0))), (h4, .inl (cA 2, 8, .inl (fun _ => 0)))] (fun q => some (.int 0)) (fun q => [(h0, .inr (5, [.int 1, .int 0, .ref h1, .ref h2, .ref h3, .ref h4, .ref h5, .ref h6, .ref h7, .ref h8, .ref h9, .ref h10])), (h1, .inl (cA 0, 16, .inl (upd (upd (fun _ => 0) 0 p0) 1 p1))), (h4, .inl (cA 2, 8, .inl (upd (fun _ => 0) 0 114)))]) := by
  refine CT.of (by decide +kernel) (Nat.le_of_ble_eq_true rfl) ?_
  intro p e s m args below meth c A ls hx hb hr hml hown hG hlocks hnm hA hS hP hK hD hGV hl
  have hown : s.vm.findClass RX2 = some m.cls := hown
  have hl : lv_has ls 5 [(0, .ref h0), (1, .int p0), (2, .int p1), (3, .int 114)] := hl
  have hSF : CF p m c cX2_addNode 5 s args RX2 := ⟨hx, hb, hml, hown, hG⟩
  refine lv_aload_n hx hb dX2_addNode_0 rfl (lv_at hl 0 rfl) ?_
  refine k_get (ci := 5) (C := RX2) (T := TX2) (N := 12) (v := .int 0) hx hb hG inX2 hown hK hP 0 rfl rfl 0 (by decide) gw126 rfl dX2_addNode_1 ?_
  refine lv_istore (lv' := [(4, .int 0), (0, .ref h0), (1, .int p0), (2, .int p1), (3, .int 114)]) hx hb dX2_addNode_4 hl (by decide) rfl (fun ls hl => ?_)
  refine lv_aload_n hx hb dX2_addNode_6 rfl (lv_at hl 1 rfl) ?_
  refine k_get (ci := 5) (C := RX2) (T := TX2) (N := 12) (v := .ref h1) hx hb hG inX2 hown hK hP 0 rfl rfl 2 (by decide) gw134 rfl dX2_addNode_7 ?_
  refine lv_iconst (v := 2) hx hb dX2_addNode_10 (by decide) ?_
  refine lv_iload hx hb dX2_addNode_11 (lv_at hl 0 rfl) ?_
  refine k_imul (v := 0) hx hb dX2_addNode_13 (by decide) ?_
  refine lv_iconst (v := 0) hx hb dX2_addNode_14 (by decide) ?_
  refine k_iadd (v := 0) hx hb dX2_addNode_15 (by decide) ?_
  refine lv_iload_n hx hb dX2_addNode_16 rfl (lv_at hl 2 rfl) ?_
  refine k_iast (ws1 := [(h0, .inr (5, [.int 0, .int 0, .ref h1, .ref h2, .ref h3, .ref h4, .ref h5, .ref h6, .ref h7, .ref h8, .ref h9, .ref h10])), (h1, .inl (cA 0, 16, .inl (upd (fun _ => 0) 0 p0))), (h4, .inl (cA 2, 8, .inl (fun _ => 0)))]) hx hb hK hP hD hS 1 rfl rfl (by unfold vp_in; decide) dX2_addNode_17 (fun H locs hP hD hS => ?_)
  refine lv_aload_n hx hb dX2_addNode_18 rfl (lv_at hl 1 rfl) ?_
  refine k_get (ci := 5) (C := RX2) (T := TX2) (N := 12) (v := .ref h1) hx hb hG inX2 hown hK hP 0 rfl rfl 2 (by decide) gw134 rfl dX2_addNode_19 ?_
  refine lv_iconst (v := 2) hx hb dX2_addNode_22 (by decide) ?_
  refine lv_iload hx hb dX2_addNode_23 (lv_at hl 0 rfl) ?_
  refine k_imul (v := 0) hx hb dX2_addNode_25 (by decide) ?_
  refine lv_iconst (v := 1) hx hb dX2_addNode_26 (by decide) ?_
  refine k_iadd (v := 1) hx hb dX2_addNode_27 (by decide) ?_
  refine lv_iload_n hx hb dX2_addNode_28 rfl (lv_at hl 3 rfl) ?_
  refine k_iast (ws1 := [(h0, .inr (5, [.int 0, .int 0, .ref h1, .ref h2, .ref h3, .ref h4, .ref h5, .ref h6, .ref h7, .ref h8, .ref h9, .ref h10])), (h1, .inl (cA 0, 16, .inl (upd (upd (fun _ => 0) 0 p0) 1 p1))), (h4, .inl (cA 2, 8, .inl (fun _ => 0)))]) hx hb hK hP hD hS 1 rfl rfl (by unfold vp_in; decide) dX2_addNode_29 (fun H locs hP hD hS => ?_)
  refine lv_aload_n hx hb dX2_addNode_30 rfl (lv_at hl 1 rfl) ?_
  refine k_get (ci := 5) (C := RX2) (T := TX2) (N := 12) (v := .ref h4) hx hb hG inX2 hown hK hP 0 rfl rfl 5 (by decide) gw139 rfl dX2_addNode_31 ?_
  refine lv_iload hx hb dX2_addNode_34 (lv_at hl 0 rfl) ?_
  refine lv_iload_n hx hb dX2_addNode_36 rfl (lv_at hl 4 rfl) ?_
  refine k_cast (ws1 := [(h0, .inr (5, [.int 0, .int 0, .ref h1, .ref h2, .ref h3, .ref h4, .ref h5, .ref h6, .ref h7, .ref h8, .ref h9, .ref h10])), (h1, .inl (cA 0, 16, .inl (upd (upd (fun _ => 0) 0 p0) 1 p1))), (h4, .inl (cA 2, 8, .inl (upd (fun _ => 0) 0 114)))]) hx hb hK hP hD hS 2 rfl rfl (by unfold vp_in; decide) dX2_addNode_37 (fun H locs hP hD hS => ?_)
  refine lv_aload_n hx hb dX2_addNode_38 rfl (lv_at hl 1 rfl) ?_
  refine lv_iload hx hb dX2_addNode_39 (lv_at hl 0 rfl) ?_
  refine lv_iconst (v := 1) hx hb dX2_addNode_41 (by decide) ?_
  refine k_iadd (v := 1) hx hb dX2_addNode_42 (by decide) ?_
  refine k_put (ci := 5) (C := RX2) (T := TX2) (N := 12) (v := .int 1) (ws1 := [(h0, .inr (5, [.int 1, .int 0, .ref h1, .ref h2, .ref h3, .ref h4, .ref h5, .ref h6, .ref h7, .ref h8, .ref h9, .ref h10])), (h1, .inl (cA 0, 16, .inl (upd (upd (fun _ => 0) 0 p0) 1 p1))), (h4, .inl (cA 2, 8, .inl (upd (fun _ => 0) 0 114)))]) hx hb hG inX2 tyX2 tyX2_ok nmX2 hown hK hP hD hS 0 rfl rfl 0 (by decide) gw126 rfl ⟨rfl, rfl⟩ rfl (Nat.le_of_ble_eq_true rfl) dX2_addNode_43 (fun H locs hP hD hS => ?_)
  refine lv_iload hx hb dX2_addNode_46 (lv_at hl 0 rfl) ?_
  exact e_i (fun _ => 0) hx hb hr hlocks rfl rfl hP hD hS (Nat.le_of_ble_eq_true rfl) (Nat.le_of_ble_eq_true rfl) dX2_addNode_48
set_option maxHeartbeats 4000000 in
set_option maxRecDepth 100000 in
theorem c85_X6_node (l : Launch) (hfl : l.stackTraces = false) (D : va_G) (cA : Nat → ClassId) (g : gv_T) (h0 h1 h2 h3 h4 h5 h6 h7 h8 h9 h10 h11 h12 h13 h14 h15 h16 h17 h18 h19 h20 h21 h22 h23 h24 h25 h26 h27 h28 h29 : Nat) (p0 : Int32) (p1 : Int32) (k0 : ¬ p0 < 0) (k1 : ¬ 30 < p0) (k2 : ¬ p1 < 0) (k3 : ¬ 30 < p1) : CT l yX6_node cX6_node 4 (some .int) (RM 4 0 0 96) D cA g [.ref h0, .int p0, .int p1, .int 114] [(h0, .inr (9, [.ref h1, .ref h2, .ref h3, .ref h4, .ref h5])), (h1, .inr (5, [.int 0, .int 0, .ref h6, .ref h7, .ref h8, .ref h9, .ref h10, .ref h11, .ref h12, .ref h13, .ref h14, .ref h15])), (h2, .inr (4, [.int 0, .int 0, .long 0, .ref h16, .ref h17, .ref h18, .ref h19, .ref h20, .ref h21, .ref h22, .ref h23, .ref h24, .ref h25, .ref h26, .ref h27, .ref h28, .ref h29])), (h6, .inl (cA 0, 16, .inl (fun _ => 0))), (h9, .inl (cA 2, 8, .inl (fun _ => 0)))] (fun q => some (.int 0)) (fun q => [(h0, .inr (9, [.ref h1, .ref h2, .ref h3, .ref h4, .ref h5])), (h1, .inr (5, [.int 1, .int 0, .ref h6, .ref h7, .ref h8, .ref h9, .ref h10, .ref h11, .ref h12, .ref h13, .ref h14, .ref h15])), (h2, .inr (4, [.int 0, .int 0, .long 0, .ref h16, .ref h17, .ref h18, .ref h19, .ref h20, .ref h21, .ref h22, .ref h23, .ref h24, .ref h25, .ref h26, .ref h27, .ref h28, .ref h29])), (h6, .inl (cA 0, 16, .inl (upd (upd (fun _ => 0) 0 p0) 1 p1))), (h9, .inl (cA 2, 8, .inl (upd (fun _ => 0) 0 114)))]) := by
  refine CT.of (by decide +kernel) (Nat.le_of_ble_eq_true rfl) ?_
  intro p e s m args below meth c A ls hx hb hr hml hown hG hlocks hnm hA hS hP hK hD hGV hl
  have hown : s.vm.findClass RX6 = some m.cls := hown
  have hl : lv_has ls 4 [(0, .ref h0), (1, .int p0), (2, .int p1), (3, .int 114)] := hl
  have hSF : CF p m c cX6_node 4 s args RX6 := ⟨hx, hb, hml, hown, hG⟩
  refine lv_iload_n hx hb dX6_node_0 rfl (lv_at hl 1 rfl) ?_
  refine lv_iconst (v := 0) hx hb dX6_node_1 (by decide) ?_
  refine lv_bipush (v := 30) hx hb dX6_node_2 (by decide) ?_
  refine ct_S (wr := [(h0, .inr (9, [.ref h1, .ref h2, .ref h3, .ref h4, .ref h5])), (h1, .inr (5, [.int 0, .int 0, .ref h6, .ref h7, .ref h8, .ref h9, .ref h10, .ref h11, .ref h12, .ref h13, .ref h14, .ref h15])), (h2, .inr (4, [.int 0, .int 0, .long 0, .ref h16, .ref h17, .ref h18, .ref h19, .ref h20, .ref h21, .ref h22, .ref h23, .ref h24, .ref h25, .ref h26, .ref h27, .ref h28, .ref h29])), (h6, .inl (cA 0, 16, .inl (fun _ => 0))), (h9, .inl (cA 2, 8, .inl (fun _ => 0)))]) hSF hl.1 hP hD hS hA hK hGV (c23_X6_isWithin l hfl D cA g (p0) k0 k1) goS_X6_44 pd_X6_isWithin.2 ⟨(Nat.le_of_ble_eq_true rfl), (Nat.le_of_ble_eq_true rfl)⟩ ⟨(Nat.le_of_ble_eq_true rfl), (Nat.le_of_ble_eq_true rfl)⟩ dX6_node_4 rfl (Nat.le_of_ble_eq_true rfl) [] [0, 1, 2, 3, 4] rfl (by decide) rfl (by decide) (by decide) (fun q => [(h0, .inr (9, [.ref h1, .ref h2, .ref h3, .ref h4, .ref h5])), (h1, .inr (5, [.int 0, .int 0, .ref h6, .ref h7, .ref h8, .ref h9, .ref h10, .ref h11, .ref h12, .ref h13, .ref h14, .ref h15])), (h2, .inr (4, [.int 0, .int 0, .long 0, .ref h16, .ref h17, .ref h18, .ref h19, .ref h20, .ref h21, .ref h22, .ref h23, .ref h24, .ref h25, .ref h26, .ref h27, .ref h28, .ref h29])), (h6, .inl (cA 0, 16, .inl (fun _ => 0))), (h9, .inl (cA 2, 8, .inl (fun _ => 0)))]) (fun _ => rfl) (fun q1 H locs hP hD hS => ?_)
  refine W.eq (g2 := F0 m 7 ls [.int 1]) rfl ?_
  refine k_if_eq_f (tgt := 29) hx hb dX6_node_7 (by decide) (by decide) ?_
  refine lv_iload_n hx hb dX6_node_10 rfl (lv_at hl 2 rfl) ?_
  refine lv_iconst (v := 0) hx hb dX6_node_11 (by decide) ?_
  refine lv_bipush (v := 30) hx hb dX6_node_12 (by decide) ?_
  refine ct_S (wr := [(h0, .inr (9, [.ref h1, .ref h2, .ref h3, .ref h4, .ref h5])), (h1, .inr (5, [.int 0, .int 0, .ref h6, .ref h7, .ref h8, .ref h9, .ref h10, .ref h11, .ref h12, .ref h13, .ref h14, .ref h15])), (h2, .inr (4, [.int 0, .int 0, .long 0, .ref h16, .ref h17, .ref h18, .ref h19, .ref h20, .ref h21, .ref h22, .ref h23, .ref h24, .ref h25, .ref h26, .ref h27, .ref h28, .ref h29])), (h6, .inl (cA 0, 16, .inl (fun _ => 0))), (h9, .inl (cA 2, 8, .inl (fun _ => 0)))]) hSF hl.1 hP hD hS hA hK hGV (c23_X6_isWithin l hfl D cA g (p1) k2 k3) goS_X6_44 pd_X6_isWithin.2 ⟨(Nat.le_of_ble_eq_true rfl), (Nat.le_of_ble_eq_true rfl)⟩ ⟨(Nat.le_of_ble_eq_true rfl), (Nat.le_of_ble_eq_true rfl)⟩ dX6_node_14 rfl (Nat.le_of_ble_eq_true rfl) [] [0, 1, 2, 3, 4] rfl (by decide) rfl (by decide) (by decide) (fun q => [(h0, .inr (9, [.ref h1, .ref h2, .ref h3, .ref h4, .ref h5])), (h1, .inr (5, [.int 0, .int 0, .ref h6, .ref h7, .ref h8, .ref h9, .ref h10, .ref h11, .ref h12, .ref h13, .ref h14, .ref h15])), (h2, .inr (4, [.int 0, .int 0, .long 0, .ref h16, .ref h17, .ref h18, .ref h19, .ref h20, .ref h21, .ref h22, .ref h23, .ref h24, .ref h25, .ref h26, .ref h27, .ref h28, .ref h29])), (h6, .inl (cA 0, 16, .inl (fun _ => 0))), (h9, .inl (cA 2, 8, .inl (fun _ => 0)))]) (fun _ => rfl) (fun q2 H locs hP hD hS => ?_)
  refine W.eq (g2 := F0 m 17 ls [.int 1]) rfl ?_
  refine k_if_eq_f (tgt := 29) hx hb dX6_node_17 (by decide) (by decide) ?_
  refine k_ldcS hx hb hGV 0 rfl hown dX6_node_20 ?_
  refine lv_iload_n hx hb dX6_node_22 rfl (lv_at hl 3 rfl) ?_
  refine ct_V (wr := [(h0, .inr (9, [.ref h1, .ref h2, .ref h3, .ref h4, .ref h5])), (h1, .inr (5, [.int 0, .int 0, .ref h6, .ref h7, .ref h8, .ref h9, .ref h10, .ref h11, .ref h12, .ref h13, .ref h14, .ref h15])), (h2, .inr (4, [.int 0, .int 0, .long 0, .ref h16, .ref h17, .ref h18, .ref h19, .ref h20, .ref h21, .ref h22, .ref h23, .ref h24, .ref h25, .ref h26, .ref h27, .ref h28, .ref h29])), (h6, .inl (cA 0, 16, .inl (fun _ => 0))), (h9, .inl (cA 2, 8, .inl (fun _ => 0)))]) hSF hl.1 hP hD hS hA hK hGV (c83_J0_indexOf_0f7a4 l hfl D cA g) goV_X6_50 pd_J0_indexOf_0f7a4 ⟨(Nat.le_of_ble_eq_true rfl), (Nat.le_of_ble_eq_true rfl)⟩ ⟨(Nat.le_of_ble_eq_true rfl), (Nat.le_of_ble_eq_true rfl)⟩ (vk_recv (N := 1) (adK := fun _ => g.2.1 0) (i := 0) hGV.2.2.1.2 (by decide) hS) dX6_node_23 rfl (Nat.le_of_ble_eq_true rfl) [] [0, 1, 2, 3, 4] rfl (by decide) rfl (by decide) (by decide) (fun q => [(h0, .inr (9, [.ref h1, .ref h2, .ref h3, .ref h4, .ref h5])), (h1, .inr (5, [.int 0, .int 0, .ref h6, .ref h7, .ref h8, .ref h9, .ref h10, .ref h11, .ref h12, .ref h13, .ref h14, .ref h15])), (h2, .inr (4, [.int 0, .int 0, .long 0, .ref h16, .ref h17, .ref h18, .ref h19, .ref h20, .ref h21, .ref h22, .ref h23, .ref h24, .ref h25, .ref h26, .ref h27, .ref h28, .ref h29])), (h6, .inl (cA 0, 16, .inl (fun _ => 0))), (h9, .inl (cA 2, 8, .inl (fun _ => 0)))]) (fun _ => rfl) (fun q3 H locs hP hD hS => ?_)
  refine W.eq (g2 := F0 m 26 ls [.int 2]) rfl ?_
  refine k_if_ge_t (tgt := 39) hx hb dX6_node_26 (by decide) (by decide) ?_
  refine lv_aload_n hx hb dX6_node_39 rfl (lv_at hl 0 rfl) ?_
  refine k_get (ci := 9) (C := RX6) (T := TX6) (N := 5) (v := .ref h1) hx hb hG inX6 hown hK hP 0 rfl rfl 0 (by decide) gw363 rfl dX6_node_40 ?_
  refine k_get (ci := 5) (C := RX2) (T := TX2) (N := 12) (v := .int 0) hx hb hG inX2 hown hK hP 1 rfl rfl 0 (by decide) gw127 rfl dX6_node_43 ?_
  refine lv_bipush (v := 8) hx hb dX6_node_46 (by decide) ?_
  refine k_icmp_lt_t (tgt := 61) hx hb dX6_node_48 (by decide) (by decide) ?_
  refine lv_aload_n hx hb dX6_node_61 rfl (lv_at hl 0 rfl) ?_
  refine k_get (ci := 9) (C := RX6) (T := TX6) (N := 5) (v := .ref h2) hx hb hG inX6 hown hK hP 0 rfl rfl 1 (by decide) gw364 rfl dX6_node_62 ?_
  refine lv_iconst (v := 0) hx hb dX6_node_65 (by decide) ?_
  refine k_put (ci := 4) (C := RX1) (T := TX1) (N := 17) (v := .int 0) (ws1 := [(h0, .inr (9, [.ref h1, .ref h2, .ref h3, .ref h4, .ref h5])), (h1, .inr (5, [.int 0, .int 0, .ref h6, .ref h7, .ref h8, .ref h9, .ref h10, .ref h11, .ref h12, .ref h13, .ref h14, .ref h15])), (h2, .inr (4, [.int 0, .int 0, .long 0, .ref h16, .ref h17, .ref h18, .ref h19, .ref h20, .ref h21, .ref h22, .ref h23, .ref h24, .ref h25, .ref h26, .ref h27, .ref h28, .ref h29])), (h6, .inl (cA 0, 16, .inl (fun _ => 0))), (h9, .inl (cA 2, 8, .inl (fun _ => 0)))]) hx hb hG inX1 tyX1 tyX1_ok nmX1 hown hK hP hD hS 2 rfl rfl 0 (by decide) gw197 rfl ⟨rfl, rfl⟩ rfl (Nat.le_of_ble_eq_true rfl) dX6_node_66 (fun H locs hP hD hS => ?_)
  refine lv_aload_n hx hb dX6_node_69 rfl (lv_at hl 0 rfl) ?_
  refine k_get (ci := 9) (C := RX6) (T := TX6) (N := 5) (v := .ref h1) hx hb hG inX6 hown hK hP 0 rfl rfl 0 (by decide) gw363 rfl dX6_node_70 ?_
  refine lv_iload_n hx hb dX6_node_73 rfl (lv_at hl 1 rfl) ?_
  refine lv_iload_n hx hb dX6_node_74 rfl (lv_at hl 2 rfl) ?_
  refine lv_iload_n hx hb dX6_node_75 rfl (lv_at hl 3 rfl) ?_
  refine ct_V (wr := [(h0, .inr (9, [.ref h1, .ref h2, .ref h3, .ref h4, .ref h5])), (h2, .inr (4, [.int 0, .int 0, .long 0, .ref h16, .ref h17, .ref h18, .ref h19, .ref h20, .ref h21, .ref h22, .ref h23, .ref h24, .ref h25, .ref h26, .ref h27, .ref h28, .ref h29]))]) hSF hl.1 hP hD hS hA hK hGV (c84_X2_addNode l hfl D cA g h1 h6 h7 h8 h9 h10 h11 h12 h13 h14 h15 (p0) (p1)) goV_X6_76 pd_X2_addNode ⟨(Nat.le_of_ble_eq_true rfl), (Nat.le_of_ble_eq_true rfl)⟩ ⟨(Nat.le_of_ble_eq_true rfl), (Nat.le_of_ble_eq_true rfl)⟩ (va_recv hK hP (ci := 5) (q0 := 1) rfl rfl) dX6_node_76 rfl (Nat.le_of_ble_eq_true rfl) [1, 3, 4] [0, 2] rfl (by decide) rfl (by decide) (by decide) (fun q => [(h0, .inr (9, [.ref h1, .ref h2, .ref h3, .ref h4, .ref h5])), (h2, .inr (4, [.int 0, .int 0, .long 0, .ref h16, .ref h17, .ref h18, .ref h19, .ref h20, .ref h21, .ref h22, .ref h23, .ref h24, .ref h25, .ref h26, .ref h27, .ref h28, .ref h29])), (h1, .inr (5, [.int 1, .int 0, .ref h6, .ref h7, .ref h8, .ref h9, .ref h10, .ref h11, .ref h12, .ref h13, .ref h14, .ref h15])), (h6, .inl (cA 0, 16, .inl (upd (upd (fun _ => 0) 0 p0) 1 p1))), (h9, .inl (cA 2, 8, .inl (upd (fun _ => 0) 0 114)))]) (fun _ => rfl) (fun q4 H locs hP hD hS => ?_)
  refine W.eq (g2 := F0 m 79 ls [.int 0]) rfl ?_
  exact e_i (fun _ => 0) hx hb hr hlocks rfl rfl (hP.sub [0, 2, 1, 3, 4] rfl) (hD.sub [0, 2, 1, 3, 4] (by decide) rfl) hS (Nat.le_of_ble_eq_true rfl) (Nat.le_of_ble_eq_true rfl) dX6_node_79
set_option maxHeartbeats 4000000 in
set_option maxRecDepth 100000 in
theorem c86_L_node (l : Launch) (hfl : l.stackTraces = false) (D : va_G) (cA : Nat → ClassId) (g : gv_T) (h0 h1 h2 h3 h4 h5 h6 h7 h8 h9 h10 h11 h12 h13 h14 h15 h16 h17 h18 h19 h20 h21 h22 h23 h24 h25 h26 h27 h28 h29 h30 : Nat) (p0 : Int32) (p1 : Int32) (k0 : ¬ p0 < 0) (k1 : ¬ 30 < p0) (k2 : ¬ p1 < 0) (k3 : ¬ 30 < p1) : CW l yL_node cL_node 6 (some .int) [(0, 12, 15, 13), (0, 12, 19, 15)] (RM 5 0 0 119) D cA g [.ref h0, .int p0, .int p1, .int 114, .ref h1] [(h0, .inr (9, [.ref h2, .ref h3, .ref h4, .ref h5, .ref h6])), (h2, .inr (5, [.int 0, .int 0, .ref h7, .ref h8, .ref h9, .ref h10, .ref h11, .ref h12, .ref h13, .ref h14, .ref h15, .ref h16])), (h3, .inr (4, [.int 0, .int 0, .long 0, .ref h17, .ref h18, .ref h19, .ref h20, .ref h21, .ref h22, .ref h23, .ref h24, .ref h25, .ref h26, .ref h27, .ref h28, .ref h29, .ref h30])), (h7, .inl (cA 0, 16, .inl (fun _ => 0))), (h10, .inl (cA 2, 8, .inl (fun _ => 0))), (h1, .inl (cA 1, 1, .inr (.inl (fun _ => 0))))] (fun q => some (.int 0)) (fun q => [(h0, .inr (9, [.ref h2, .ref h3, .ref h4, .ref h5, .ref h6])), (h2, .inr (5, [.int 1, .int 0, .ref h7, .ref h8, .ref h9, .ref h10, .ref h11, .ref h12, .ref h13, .ref h14, .ref h15, .ref h16])), (h3, .inr (4, [.int 0, .int 0, .long 0, .ref h17, .ref h18, .ref h19, .ref h20, .ref h21, .ref h22, .ref h23, .ref h24, .ref h25, .ref h26, .ref h27, .ref h28, .ref h29, .ref h30])), (h7, .inl (cA 0, 16, .inl (upd (upd (fun _ => 0) 0 p0) 1 p1))), (h10, .inl (cA 2, 8, .inl (upd (fun _ => 0) 0 114))), (h1, .inl (cA 1, 1, .inr (.inl (vp_updL (fun _ => 0) 0 0))))]) := by
  refine CW.of (by decide +kernel) (Nat.le_of_ble_eq_true rfl) ?_
  intro p e s m args below meth c A ls hx hb hr hml hown hG hlocks htab hA hS hP hK hD hGV hl
  have hown : s.vm.findClass RL = some m.cls := hown
  have hl : lv_has ls 6 [(0, .ref h0), (1, .int p0), (2, .int p1), (3, .int 114), (4, .ref h1)] := hl
  have hSF : CF p m c cL_node 6 s args RL := ⟨hx, hb, hml, hown, hG⟩
  refine lv_aload hx hb dL_node_0 (lv_at hl 4 rfl) ?_
  refine lv_iconst (v := 0) hx hb dL_node_2 (by decide) ?_
  refine lv_aload_n hx hb dL_node_3 rfl (lv_at hl 0 rfl) ?_
  refine lv_iload_n hx hb dL_node_4 rfl (lv_at hl 1 rfl) ?_
  refine lv_iload_n hx hb dL_node_5 rfl (lv_at hl 2 rfl) ?_
  refine lv_iload_n hx hb dL_node_6 rfl (lv_at hl 3 rfl) ?_
  refine ct_V (wr := [(h1, .inl (cA 1, 1, .inr (.inl (fun _ => 0))))]) hSF hl.1 hP hD hS hA hK hGV (c85_X6_node l hfl D cA g h0 h2 h3 h4 h5 h6 h7 h8 h9 h10 h11 h12 h13 h14 h15 h16 h17 h18 h19 h20 h21 h22 h23 h24 h25 h26 h27 h28 h29 h30 (p0) (p1) k0 k1 k2 k3) goV_L_7 pd_X6_node ⟨(Nat.le_of_ble_eq_true rfl), (Nat.le_of_ble_eq_true rfl)⟩ ⟨(Nat.le_of_ble_eq_true rfl), (Nat.le_of_ble_eq_true rfl)⟩ (va_recv hK hP (ci := 9) (q0 := 0) rfl rfl) dL_node_7 rfl (Nat.le_of_ble_eq_true rfl) [0, 1, 2, 3, 4] [5] rfl (by decide) rfl (by decide) (by decide) (fun q => [(h1, .inl (cA 1, 1, .inr (.inl (fun _ => 0)))), (h0, .inr (9, [.ref h2, .ref h3, .ref h4, .ref h5, .ref h6])), (h2, .inr (5, [.int 1, .int 0, .ref h7, .ref h8, .ref h9, .ref h10, .ref h11, .ref h12, .ref h13, .ref h14, .ref h15, .ref h16])), (h3, .inr (4, [.int 0, .int 0, .long 0, .ref h17, .ref h18, .ref h19, .ref h20, .ref h21, .ref h22, .ref h23, .ref h24, .ref h25, .ref h26, .ref h27, .ref h28, .ref h29, .ref h30])), (h7, .inl (cA 0, 16, .inl (upd (upd (fun _ => 0) 0 p0) 1 p1))), (h10, .inl (cA 2, 8, .inl (upd (fun _ => 0) 0 114)))]) (fun _ => rfl) (fun q1 H locs hP hD hS => ?_)
  refine W.eq (g2 := F0 m 10 ls [.int 0, .int 0, .ref h1]) rfl ?_
  refine lv_i2l (v := 0) hx hb dL_node_10 (by decide +kernel) ?_
  refine k_last (ws1 := [(h1, .inl (cA 1, 1, .inr (.inl (vp_updL (fun _ => 0) 0 0)))), (h0, .inr (9, [.ref h2, .ref h3, .ref h4, .ref h5, .ref h6])), (h2, .inr (5, [.int 1, .int 0, .ref h7, .ref h8, .ref h9, .ref h10, .ref h11, .ref h12, .ref h13, .ref h14, .ref h15, .ref h16])), (h3, .inr (4, [.int 0, .int 0, .long 0, .ref h17, .ref h18, .ref h19, .ref h20, .ref h21, .ref h22, .ref h23, .ref h24, .ref h25, .ref h26, .ref h27, .ref h28, .ref h29, .ref h30])), (h7, .inl (cA 0, 16, .inl (upd (upd (fun _ => 0) 0 p0) 1 p1))), (h10, .inl (cA 2, 8, .inl (upd (fun _ => 0) 0 114)))]) hx hb hK hP hD hS 0 rfl rfl (by unfold vp_in; decide) dL_node_11 (fun H locs hP hD hS => ?_)
  refine lv_goto (tgt := 23) hx hb dL_node_12 (by decide) ?_
  refine lv_iconst (v := 0) hx hb dL_node_23 (by decide) ?_
  exact e_i (fun _ => 0) hx hb hr hlocks rfl rfl (hP.sub [1, 2, 3, 4, 5, 0] rfl) (hD.sub [1, 2, 3, 4, 5, 0] (by decide) rfl) hS (Nat.le_of_ble_eq_true rfl) (Nat.le_of_ble_eq_true rfl) dL_node_24
set_option maxHeartbeats 4000000 in
set_option maxRecDepth 100000 in
theorem c87_X9_init (l : Launch) (hfl : l.stackTraces = false) (D : va_G) (cA : Nat → ClassId) (g : gv_T) (h0 : Nat) (p0 : Int32) (p1 : Int32) : CT l yX9_init cX9_init 4 none (RM 1 0 0 24) D cA g [.ref h0, .int p0, .int p1, .int 114] [(h0, .inr (12, [.int 0, .int 0, .int 0, .long 0, .long 0, .int 0]))] (fun q => none) (fun q => [(h0, .inr (12, [.int p0, .int p1, .int 114, .long 0, .long 0, .int 0]))]) := by
  refine CT.of (by decide +kernel) (Nat.le_of_ble_eq_true rfl) ?_
  intro p e s m args below meth c A ls hx hb hr hml hown hG hlocks hnm hA hS hP hK hD hGV hl
  have hown : s.vm.findClass RX9 = some m.cls := hown
  have hl : lv_has ls 4 [(0, .ref h0), (1, .int p0), (2, .int p1), (3, .int 114)] := hl
  have hSF : CF p m c cX9_init 4 s args RX9 := ⟨hx, hb, hml, hown, hG⟩
  refine lv_aload_n hx hb dX9_init_0 rfl (lv_at hl 0 rfl) ?_
  refine W.objInit hx hb hown (hG _ gw1325) (hG _ gw118) (hG _ gw119) rfl (hl.1.trans hml.symm) rfl dX9_init_1 (Nat.le_of_ble_eq_true rfl) (Nat.le_of_ble_eq_true rfl) ?_
  refine W.eq (g2 := F0 m 4 ls []) rfl ?_
  refine lv_aload_n hx hb dX9_init_4 rfl (lv_at hl 0 rfl) ?_
  refine lv_iload_n hx hb dX9_init_5 rfl (lv_at hl 1 rfl) ?_
  refine k_putF (ci := 12) (C := RX9) (T := TX9) (N := 6) (v := .int p0) (ws1 := [(h0, .inr (12, [.int p0, .int 0, .int 0, .long 0, .long 0, .int 0]))]) hx hb hG inX9 tyX9 tyX9_ok nmX9 hown hK hP hD hS 0 rfl rfl 0 (by decide) gw1326 rfl hnm rfl ⟨rfl, rfl⟩ rfl (Nat.le_of_ble_eq_true rfl) dX9_init_6 (fun H locs hP hD hS => ?_)
  refine lv_aload_n hx hb dX9_init_9 rfl (lv_at hl 0 rfl) ?_
  refine lv_iload_n hx hb dX9_init_10 rfl (lv_at hl 2 rfl) ?_
  refine k_putF (ci := 12) (C := RX9) (T := TX9) (N := 6) (v := .int p1) (ws1 := [(h0, .inr (12, [.int p0, .int p1, .int 0, .long 0, .long 0, .int 0]))]) hx hb hG inX9 tyX9 tyX9_ok nmX9 hown hK hP hD hS 0 rfl rfl 1 (by decide) gw1328 rfl hnm rfl ⟨rfl, rfl⟩ rfl (Nat.le_of_ble_eq_true rfl) dX9_init_11 (fun H locs hP hD hS => ?_)
  refine lv_aload_n hx hb dX9_init_14 rfl (lv_at hl 0 rfl) ?_
  refine lv_iload_n hx hb dX9_init_15 rfl (lv_at hl 3 rfl) ?_
  refine k_putF (ci := 12) (C := RX9) (T := TX9) (N := 6) (v := .int 114) (ws1 := [(h0, .inr (12, [.int p0, .int p1, .int 114, .long 0, .long 0, .int 0]))]) hx hb hG inX9 tyX9 tyX9_ok nmX9 hown hK hP hD hS 0 rfl rfl 2 (by decide) gw1330 rfl hnm rfl ⟨rfl, rfl⟩ rfl (Nat.le_of_ble_eq_true rfl) dX9_init_16 (fun H locs hP hD hS => ?_)
  exact e_v (fun _ => 0) hx hb hr hlocks rfl hP hD hS (Nat.le_of_ble_eq_true rfl) (Nat.le_of_ble_eq_true rfl) dX9_init_19
set_option maxHeartbeats 4000000 in
set_option maxRecDepth 100000 in
theorem c88_Jx4a65c_add_72be8 (l : Launch) (hfl : l.stackTraces = false) (D : va_G) (cA : Nat → ClassId) (g : gv_T) (h0 h1 : Nat) (p0 : Int32) (p1 : Int32) : CT l yJx4a65c_add_72be8 cJx4a65c_add_72be8 4 none (RM 3 1 10 73) D cA g [.ref h0, .ref h1, .ref g.1, .int 0] [(h0, .inr (2, [.int 1, .ref g.1, .int 0])), (h1, .inr (12, [.int p0, .int p1, .int 114, .long 0, .long 0, .int 0]))] (fun q => none) (fun q => [(h0, .inr (2, [.int 1, .ref (q 0), .int 1])), (h1, .inr (12, [.int p0, .int p1, .int 114, .long 0, .long 0, .int 0])), ((q 0), .inl (cA 4, 10, .inr (.inr (.inr (.inr (va_up (fun _ => none) 0 (some h1)))))))]) := by
  refine CT.of (by decide +kernel) (Nat.le_of_ble_eq_true rfl) ?_
  intro p e s m args below meth c A ls hx hb hr hml hown hG hlocks hnm hA hS hP hK hD hGV hl
  have hown : s.vm.findClass RJx4a65c = some m.cls := hown
  have hl : lv_has ls 4 [(0, .ref h0), (1, .ref h1), (2, .ref g.1), (3, .int 0)] := hl
  have hSF : CF p m c cJx4a65c_add_72be8 4 s args RJx4a65c := ⟨hx, hb, hml, hown, hG⟩
  refine lv_iload_n hx hb dJx4a65c_add_72be8_0 rfl (lv_at hl 3 rfl) ?_
  refine lv_aload_n hx hb dJx4a65c_add_72be8_1 rfl (lv_at hl 2 rfl) ?_
  refine k_elen hx hb hGV hS dJx4a65c_add_72be8_2 ?_
  refine k_icmp_ne_f (tgt := 11) hx hb dJx4a65c_add_72be8_3 (by decide) (by decide) ?_
  refine lv_aload_n hx hb dJx4a65c_add_72be8_6 rfl (lv_at hl 0 rfl) ?_
  refine ct_V (wr := [(h1, .inr (12, [.int p0, .int p1, .int 114, .long 0, .long 0, .int 0]))]) hSF hl.1 hP hD hS hA hK hGV (c59_Jx4a65c_grow_d5877 l hfl D cA g h0) goV_Jx4a65c_129 pd_Jx4a65c_grow_d5877 ⟨(Nat.le_of_ble_eq_true rfl), (Nat.le_of_ble_eq_true rfl)⟩ ⟨(Nat.le_of_ble_eq_true rfl), (Nat.le_of_ble_eq_true rfl)⟩ (va_recv hK hP (ci := 2) (q0 := 0) rfl rfl) dJx4a65c_add_72be8_7 rfl (Nat.le_of_ble_eq_true rfl) [0] [1] rfl (by decide) rfl (by decide) (by decide) (fun q => [(h1, .inr (12, [.int p0, .int p1, .int 114, .long 0, .long 0, .int 0])), (h0, .inr (2, [.int 1, .ref (q 0), .int 0])), ((q 0), .inl (cA 4, 10, .inr (.inr (.inr (.inr (fun _ => none))))))]) (fun _ => rfl) (fun q1 H locs hP hD hS => ?_)
  refine W.eq (g2 := F0 m 10 ls [.ref (q1 0)]) rfl ?_
  refine lv_astore_n (lv' := [(2, .ref (q1 0)), (0, .ref h0), (1, .ref h1), (3, .int 0)]) hx hb dJx4a65c_add_72be8_10 rfl hl (by decide) rfl (fun ls hl => ?_)
  refine lv_aload_n hx hb dJx4a65c_add_72be8_11 rfl (lv_at hl 0 rfl) ?_
  refine lv_iload_n hx hb dJx4a65c_add_72be8_12 rfl (lv_at hl 3 rfl) ?_
  refine lv_aload_n hx hb dJx4a65c_add_72be8_13 rfl (lv_at hl 2 rfl) ?_
  refine k_astq (r := (RX9, TX9, 6)) (ws1 := [(h1, .inr (12, [.int p0, .int p1, .int 114, .long 0, .long 0, .int 0])), (h0, .inr (2, [.int 1, .ref (q1 0), .int 0])), ((q1 0), .inl (cA 4, 10, .inr (.inr (.inr (.inr (va_up (fun _ => none) 0 (some h1)))))))]) hx hb hK hP hD hS hGV.2.2.2.2.1 2 0 12 rfl gw1868 rfl rfl rfl (by unfold vp_in; decide) dJx4a65c_add_72be8_14 (fun H locs hP hD hS => ?_)
  refine lv_aload_n hx hb dJx4a65c_add_72be8_15 rfl (lv_at hl 1 rfl) ?_
  refine lv_iload_n hx hb dJx4a65c_add_72be8_16 rfl (lv_at hl 3 rfl) ?_
  refine lv_iconst (v := 1) hx hb dJx4a65c_add_72be8_17 (by decide) ?_
  refine k_iadd (v := 1) hx hb dJx4a65c_add_72be8_18 (by decide) ?_
  refine k_put (ci := 2) (C := RJx4a65c) (T := TJx4a65c) (N := 3) (v := .int 1) (ws1 := [(h1, .inr (12, [.int p0, .int p1, .int 114, .long 0, .long 0, .int 0])), (h0, .inr (2, [.int 1, .ref (q1 0), .int 1])), ((q1 0), .inl (cA 4, 10, .inr (.inr (.inr (.inr (va_up (fun _ => none) 0 (some h1)))))))]) hx hb hG inJx4a65c tyJx4a65c tyJx4a65c_ok nmJx4a65c hown hK hP hD hS 1 rfl rfl 2 (by decide) gw1208 rfl ⟨rfl, rfl⟩ rfl (Nat.le_of_ble_eq_true rfl) dJx4a65c_add_72be8_19 (fun H locs hP hD hS => ?_)
  exact e_v (fun i => match i with | 0 => (q1 0) | _ => 0) hx hb hr hlocks rfl (hP.sub [1, 0, 2] rfl) (hD.sub [1, 0, 2] (by decide) rfl) hS (Nat.le_of_ble_eq_true rfl) (Nat.le_of_ble_eq_true rfl) dJx4a65c_add_72be8_22
set_option maxHeartbeats 4000000 in
set_option maxRecDepth 100000 in
theorem c89_Jx4a65c_add_9ea2d (l : Launch) (hfl : l.stackTraces = false) (D : va_G) (cA : Nat → ClassId) (g : gv_T) (h0 h1 : Nat) (p0 : Int32) (p1 : Int32) : CT l yJx4a65c_add_9ea2d cJx4a65c_add_9ea2d 2 (some .boolean) (RM 4 1 10 96) D cA g [.ref h0, .ref h1] [(h0, .inr (2, [.int 0, .ref g.1, .int 0])), (h1, .inr (12, [.int p0, .int p1, .int 114, .long 0, .long 0, .int 0]))] (fun q => some (.int 1)) (fun q => [(h0, .inr (2, [.int 1, .ref (q 0), .int 1])), (h1, .inr (12, [.int p0, .int p1, .int 114, .long 0, .long 0, .int 0])), ((q 0), .inl (cA 4, 10, .inr (.inr (.inr (.inr (va_up (fun _ => none) 0 (some h1)))))))]) := by
  refine CT.of (by decide +kernel) (Nat.le_of_ble_eq_true rfl) ?_
  intro p e s m args below meth c A ls hx hb hr hml hown hG hlocks hnm hA hS hP hK hD hGV hl
  have hown : s.vm.findClass RJx4a65c = some m.cls := hown
  have hl : lv_has ls 2 [(0, .ref h0), (1, .ref h1)] := hl
  have hSF : CF p m c cJx4a65c_add_9ea2d 2 s args RJx4a65c := ⟨hx, hb, hml, hown, hG⟩
  refine lv_aload_n hx hb dJx4a65c_add_9ea2d_0 rfl (lv_at hl 0 rfl) ?_
  refine lv_dup hx hb dJx4a65c_add_9ea2d_1 rfl ?_
  refine k_getR (ci := 2) (C := RJx4a65c) (T := TJx4a65c) (N := 3) (v := .int 0) hx hb hG inJx4a65c hown hK hP 0 rfl rfl 0 (by decide) gw1210 gw1211 rfl dJx4a65c_add_9ea2d_2 ?_
  refine lv_iconst (v := 1) hx hb dJx4a65c_add_9ea2d_5 (by decide) ?_
  refine k_iadd (v := 1) hx hb dJx4a65c_add_9ea2d_6 (by decide) ?_
  refine k_putR (ci := 2) (C := RJx4a65c) (T := TJx4a65c) (N := 3) (v := .int 1) (ws1 := [(h0, .inr (2, [.int 1, .ref g.1, .int 0])), (h1, .inr (12, [.int p0, .int p1, .int 114, .long 0, .long 0, .int 0]))]) hx hb hG inJx4a65c tyJx4a65c tyJx4a65c_ok nmJx4a65c hown hK hP hD hS 0 rfl rfl 0 (by decide) gw1210 gw1211 rfl ⟨rfl, rfl⟩ rfl (Nat.le_of_ble_eq_true rfl) dJx4a65c_add_9ea2d_7 (fun H locs hP hD hS => ?_)
  refine lv_aload_n hx hb dJx4a65c_add_9ea2d_10 rfl (lv_at hl 0 rfl) ?_
  refine lv_aload_n hx hb dJx4a65c_add_9ea2d_11 rfl (lv_at hl 1 rfl) ?_
  refine lv_aload_n hx hb dJx4a65c_add_9ea2d_12 rfl (lv_at hl 0 rfl) ?_
  refine k_get (ci := 2) (C := RJx4a65c) (T := TJx4a65c) (N := 3) (v := .ref g.1) hx hb hG inJx4a65c hown hK hP 0 rfl rfl 1 (by decide) gw1207 rfl dJx4a65c_add_9ea2d_13 ?_
  refine lv_aload_n hx hb dJx4a65c_add_9ea2d_16 rfl (lv_at hl 0 rfl) ?_
  refine k_get (ci := 2) (C := RJx4a65c) (T := TJx4a65c) (N := 3) (v := .int 0) hx hb hG inJx4a65c hown hK hP 0 rfl rfl 2 (by decide) gw1208 rfl dJx4a65c_add_9ea2d_17 ?_
  refine ct_V (wr := []) hSF hl.1 hP hD hS hA hK hGV (c88_Jx4a65c_add_72be8 l hfl D cA g h0 h1 (p0) (p1)) goV_Jx4a65c_131 pd_Jx4a65c_add_72be8 ⟨(Nat.le_of_ble_eq_true rfl), (Nat.le_of_ble_eq_true rfl)⟩ ⟨(Nat.le_of_ble_eq_true rfl), (Nat.le_of_ble_eq_true rfl)⟩ (va_recv hK hP (ci := 2) (q0 := 0) rfl rfl) dJx4a65c_add_9ea2d_20 rfl (Nat.le_of_ble_eq_true rfl) [0, 1] [] rfl (by decide) rfl (by decide) (by decide) (fun q => [(h0, .inr (2, [.int 1, .ref (q 0), .int 1])), (h1, .inr (12, [.int p0, .int p1, .int 114, .long 0, .long 0, .int 0])), ((q 0), .inl (cA 4, 10, .inr (.inr (.inr (.inr (va_up (fun _ => none) 0 (some h1)))))))]) (fun _ => rfl) (fun q1 H locs hP hD hS => ?_)
  refine W.eq (g2 := F0 m 23 ls []) rfl ?_
  refine lv_iconst (v := 1) hx hb dJx4a65c_add_9ea2d_23 (by decide) ?_
  exact e_i (fun i => match i with | 0 => (q1 0) | _ => 0) hx hb hr hlocks rfl rfl hP hD hS (Nat.le_of_ble_eq_true rfl) (Nat.le_of_ble_eq_true rfl) dJx4a65c_add_9ea2d_24
set_option maxHeartbeats 4000000 in
set_option maxRecDepth 100000 in
theorem c90_X12_node (l : Launch) (hfl : l.stackTraces = false) (D : va_G) (cA : Nat → ClassId) (g : gv_T) (h0 h1 h2 h3 h4 h5 h6 h7 h8 h9 h10 h11 h12 h13 h14 h15 h16 h17 h18 : Nat) (p0 : Int32) (p1 : Int32) (k0 : ¬ (lg_cmp p0.toInt64 0) < 0) (k1 : ¬ 0 < (lg_cmp p0.toInt64 30)) (k2 : ¬ (lg_cmp p1.toInt64 0) < 0) (k3 : ¬ 0 < (lg_cmp p1.toInt64 30)) : CT l yX12_node cX12_node 4 (some .int) (RM 5 2 16 117) D cA g [.ref h0, .int p0, .int p1, .int 114] [(h0, .inr (15, [.ref h1, .ref h2, .ref h3, .ref h4, .ref h5, .ref h6, .ref h7, .ref h8, .ref h9, .ref h10, .ref h11, .ref h12, .ref h13, .ref h14, .ref h15, .ref h16, .ref h17, .ref h18, .long 0, .int 0, .int 2, .int 0, .int 0, .int 0, .int 0, .int 0, .int 0])), (h1, .inr (2, [.int 0, .ref g.1, .int 0]))] (fun q => some (.int 0)) (fun q => [(h0, .inr (15, [.ref h1, .ref h2, .ref h3, .ref h4, .ref h5, .ref h6, .ref h7, .ref h8, .ref h9, .ref h10, .ref h11, .ref h12, .ref h13, .ref h14, .ref h15, .ref h16, .ref h17, .ref h18, .long 0, .int 0, .int 2, .int 0, .int 0, .int 0, .int 0, .int 0, .int 0])), (h1, .inr (2, [.int 1, .ref (q 1), .int 1])), ((q 0), .inr (12, [.int p0, .int p1, .int 114, .long 0, .long 0, .int 0])), ((q 1), .inl (cA 4, 10, .inr (.inr (.inr (.inr (va_up (fun _ => none) 0 (some (q 0))))))))]) := by
  refine CT.of (by decide +kernel) (Nat.le_of_ble_eq_true rfl) ?_
  intro p e s m args below meth c A ls hx hb hr hml hown hG hlocks hnm hA hS hP hK hD hGV hl
  have hown : s.vm.findClass RX12 = some m.cls := hown
  have hl : lv_has ls 4 [(0, .ref h0), (1, .int p0), (2, .int p1), (3, .int 114)] := hl
  have hSF : CF p m c cX12_node 4 s args RX12 := ⟨hx, hb, hml, hown, hG⟩
  refine lv_iload_n hx hb dX12_node_0 rfl (lv_at hl 1 rfl) ?_
  refine lv_i2l (v := p0.toInt64) hx hb dX12_node_1 rfl ?_
  refine lv_iconst (v := 0) hx hb dX12_node_2 (by decide) ?_
  refine lv_bipush (v := 30) hx hb dX12_node_3 (by decide) ?_
  refine ct_S (wr := [(h0, .inr (15, [.ref h1, .ref h2, .ref h3, .ref h4, .ref h5, .ref h6, .ref h7, .ref h8, .ref h9, .ref h10, .ref h11, .ref h12, .ref h13, .ref h14, .ref h15, .ref h16, .ref h17, .ref h18, .long 0, .int 0, .int 2, .int 0, .int 0, .int 0, .int 0, .int 0, .int 0])), (h1, .inr (2, [.int 0, .ref g.1, .int 0]))]) hSF hl.1 hP hD hS hA hK hGV (c26_X12_in l hfl D cA g (p0.toInt64) k0 k1) goS_X12_285 pd_X12_in.2 ⟨(Nat.le_of_ble_eq_true rfl), (Nat.le_of_ble_eq_true rfl)⟩ ⟨(Nat.le_of_ble_eq_true rfl), (Nat.le_of_ble_eq_true rfl)⟩ dX12_node_5 rfl (Nat.le_of_ble_eq_true rfl) [] [0, 1] rfl (by decide) rfl (by decide) (by decide) (fun q => [(h0, .inr (15, [.ref h1, .ref h2, .ref h3, .ref h4, .ref h5, .ref h6, .ref h7, .ref h8, .ref h9, .ref h10, .ref h11, .ref h12, .ref h13, .ref h14, .ref h15, .ref h16, .ref h17, .ref h18, .long 0, .int 0, .int 2, .int 0, .int 0, .int 0, .int 0, .int 0, .int 0])), (h1, .inr (2, [.int 0, .ref g.1, .int 0]))]) (fun _ => rfl) (fun q1 H locs hP hD hS => ?_)
  refine W.eq (g2 := F0 m 8 ls [.int 1]) rfl ?_
  refine k_if_eq_f (tgt := 40) hx hb dX12_node_8 (by decide) (by decide) ?_
  refine lv_iload_n hx hb dX12_node_11 rfl (lv_at hl 2 rfl) ?_
  refine lv_i2l (v := p1.toInt64) hx hb dX12_node_12 rfl ?_
  refine lv_iconst (v := 0) hx hb dX12_node_13 (by decide) ?_
  refine lv_bipush (v := 30) hx hb dX12_node_14 (by decide) ?_
  refine ct_S (wr := [(h0, .inr (15, [.ref h1, .ref h2, .ref h3, .ref h4, .ref h5, .ref h6, .ref h7, .ref h8, .ref h9, .ref h10, .ref h11, .ref h12, .ref h13, .ref h14, .ref h15, .ref h16, .ref h17, .ref h18, .long 0, .int 0, .int 2, .int 0, .int 0, .int 0, .int 0, .int 0, .int 0])), (h1, .inr (2, [.int 0, .ref g.1, .int 0]))]) hSF hl.1 hP hD hS hA hK hGV (c26_X12_in l hfl D cA g (p1.toInt64) k2 k3) goS_X12_285 pd_X12_in.2 ⟨(Nat.le_of_ble_eq_true rfl), (Nat.le_of_ble_eq_true rfl)⟩ ⟨(Nat.le_of_ble_eq_true rfl), (Nat.le_of_ble_eq_true rfl)⟩ dX12_node_16 rfl (Nat.le_of_ble_eq_true rfl) [] [0, 1] rfl (by decide) rfl (by decide) (by decide) (fun q => [(h0, .inr (15, [.ref h1, .ref h2, .ref h3, .ref h4, .ref h5, .ref h6, .ref h7, .ref h8, .ref h9, .ref h10, .ref h11, .ref h12, .ref h13, .ref h14, .ref h15, .ref h16, .ref h17, .ref h18, .long 0, .int 0, .int 2, .int 0, .int 0, .int 0, .int 0, .int 0, .int 0])), (h1, .inr (2, [.int 0, .ref g.1, .int 0]))]) (fun _ => rfl) (fun q2 H locs hP hD hS => ?_)
  refine W.eq (g2 := F0 m 19 ls [.int 1]) rfl ?_
  refine k_if_eq_f (tgt := 40) hx hb dX12_node_19 (by decide) (by decide) ?_
  refine lv_iload_n hx hb dX12_node_22 rfl (lv_at hl 3 rfl) ?_
  refine lv_bipush (v := 45) hx hb dX12_node_23 (by decide) ?_
  refine k_icmp_eq_f (tgt := 46) hx hb dX12_node_25 (by decide) (by decide) ?_
  refine lv_iload_n hx hb dX12_node_28 rfl (lv_at hl 3 rfl) ?_
  refine lv_bipush (v := 112) hx hb dX12_node_29 (by decide) ?_
  refine k_icmp_eq_f (tgt := 46) hx hb dX12_node_31 (by decide) (by decide) ?_
  refine lv_iload_n hx hb dX12_node_34 rfl (lv_at hl 3 rfl) ?_
  refine lv_bipush (v := 114) hx hb dX12_node_35 (by decide) ?_
  refine k_icmp_eq_t (tgt := 46) hx hb dX12_node_37 (by decide) (by decide) ?_
  refine lv_aload_n hx hb dX12_node_46 rfl (lv_at hl 0 rfl) ?_
  refine k_get (ci := 15) (C := RX12) (T := TX12) (N := 27) (v := .ref h1) hx hb hG inX12 hown hK hP 0 rfl rfl 0 (by decide) gw1219 rfl dX12_node_47 ?_
  refine ct_V (wr := [(h0, .inr (15, [.ref h1, .ref h2, .ref h3, .ref h4, .ref h5, .ref h6, .ref h7, .ref h8, .ref h9, .ref h10, .ref h11, .ref h12, .ref h13, .ref h14, .ref h15, .ref h16, .ref h17, .ref h18, .long 0, .int 0, .int 2, .int 0, .int 0, .int 0, .int 0, .int 0, .int 0]))]) hSF hl.1 hP hD hS hA hK hGV (c56_Jx4a65c_size_8abf5 l hfl D cA g h1) goV_X12_125 pd_Jx4a65c_size_8abf5 ⟨(Nat.le_of_ble_eq_true rfl), (Nat.le_of_ble_eq_true rfl)⟩ ⟨(Nat.le_of_ble_eq_true rfl), (Nat.le_of_ble_eq_true rfl)⟩ (va_recv hK hP (ci := 2) (q0 := 1) rfl rfl) dX12_node_50 rfl (Nat.le_of_ble_eq_true rfl) [1] [0] rfl (by decide) rfl (by decide) (by decide) (fun q => [(h0, .inr (15, [.ref h1, .ref h2, .ref h3, .ref h4, .ref h5, .ref h6, .ref h7, .ref h8, .ref h9, .ref h10, .ref h11, .ref h12, .ref h13, .ref h14, .ref h15, .ref h16, .ref h17, .ref h18, .long 0, .int 0, .int 2, .int 0, .int 0, .int 0, .int 0, .int 0, .int 0])), (h1, .inr (2, [.int 0, .ref g.1, .int 0]))]) (fun _ => rfl) (fun q3 H locs hP hD hS => ?_)
  refine W.eq (g2 := F0 m 53 ls [.int 0]) rfl ?_
  refine lv_bipush (v := 8) hx hb dX12_node_53 (by decide) ?_
  refine k_icmp_ne_t (tgt := 64) hx hb dX12_node_55 (by decide) (by decide) ?_
  refine lv_aload_n hx hb dX12_node_64 rfl (lv_at hl 0 rfl) ?_
  refine k_get (ci := 15) (C := RX12) (T := TX12) (N := 27) (v := .ref h1) hx hb hG inX12 hown hK hP 0 rfl rfl 0 (by decide) gw1219 rfl dX12_node_65 ?_
  refine k_new (ci := 12) (C := RX9) (T := TX9) (N := 6) hx hb hG inX9 tyX9 tyX9_ok hown gw1320 gw1321 gw97 hK hP hD hS hA rfl [.int 0, .int 0, .int 0, .long 0, .long 0, .int 0] rfl (Nat.le_of_ble_eq_true rfl) (Nat.le_of_ble_eq_true rfl) dX12_node_68 (fun a19 H hP hD hS => ?_)
  have hP : va_P D vwCl [(h0, .inr (15, [.ref h1, .ref h2, .ref h3, .ref h4, .ref h5, .ref h6, .ref h7, .ref h8, .ref h9, .ref h10, .ref h11, .ref h12, .ref h13, .ref h14, .ref h15, .ref h16, .ref h17, .ref h18, .long 0, .int 0, .int 2, .int 0, .int 0, .int 0, .int 0, .int 0, .int 0])), (h1, .inr (2, [.int 0, .ref g.1, .int 0])), (a19, .inr (12, [.int 0, .int 0, .int 0, .long 0, .long 0, .int 0]))] H := hP
  have hD : va_D _ [(h0, .inr (15, [.ref h1, .ref h2, .ref h3, .ref h4, .ref h5, .ref h6, .ref h7, .ref h8, .ref h9, .ref h10, .ref h11, .ref h12, .ref h13, .ref h14, .ref h15, .ref h16, .ref h17, .ref h18, .long 0, .int 0, .int 2, .int 0, .int 0, .int 0, .int 0, .int 0, .int 0])), (h1, .inr (2, [.int 0, .ref g.1, .int 0])), (a19, .inr (12, [.int 0, .int 0, .int 0, .long 0, .long 0, .int 0]))] := hD
  refine lv_dup hx hb dX12_node_71 rfl ?_
  refine lv_iload_n hx hb dX12_node_72 rfl (lv_at hl 1 rfl) ?_
  refine lv_iload_n hx hb dX12_node_73 rfl (lv_at hl 2 rfl) ?_
  refine lv_iload_n hx hb dX12_node_74 rfl (lv_at hl 3 rfl) ?_
  refine ct_I (wr := [(h0, .inr (15, [.ref h1, .ref h2, .ref h3, .ref h4, .ref h5, .ref h6, .ref h7, .ref h8, .ref h9, .ref h10, .ref h11, .ref h12, .ref h13, .ref h14, .ref h15, .ref h16, .ref h17, .ref h18, .long 0, .int 0, .int 2, .int 0, .int 0, .int 0, .int 0, .int 0, .int 0])), (h1, .inr (2, [.int 0, .ref g.1, .int 0]))]) hSF hl.1 hP hD hS hA hK hGV (c87_X9_init l hfl D cA g a19 (p0) (p1)) gw1322 gw1323 gw97 gw1324 rfl pd_X9_init.2 ⟨(Nat.le_of_ble_eq_true rfl), (Nat.le_of_ble_eq_true rfl)⟩ ⟨(Nat.le_of_ble_eq_true rfl), (Nat.le_of_ble_eq_true rfl)⟩ dX12_node_75 rfl (Nat.le_of_ble_eq_true rfl) [2] [0, 1] rfl (by decide) rfl (by decide) (by decide) (fun q => [(h0, .inr (15, [.ref h1, .ref h2, .ref h3, .ref h4, .ref h5, .ref h6, .ref h7, .ref h8, .ref h9, .ref h10, .ref h11, .ref h12, .ref h13, .ref h14, .ref h15, .ref h16, .ref h17, .ref h18, .long 0, .int 0, .int 2, .int 0, .int 0, .int 0, .int 0, .int 0, .int 0])), (h1, .inr (2, [.int 0, .ref g.1, .int 0])), (a19, .inr (12, [.int p0, .int p1, .int 114, .long 0, .long 0, .int 0]))]) (fun _ => rfl) (fun q4 H locs hP hD hS => ?_)
  refine W.eq (g2 := F0 m 78 ls [.ref a19, .ref h1]) rfl ?_
  refine ct_V (wr := [(h0, .inr (15, [.ref h1, .ref h2, .ref h3, .ref h4, .ref h5, .ref h6, .ref h7, .ref h8, .ref h9, .ref h10, .ref h11, .ref h12, .ref h13, .ref h14, .ref h15, .ref h16, .ref h17, .ref h18, .long 0, .int 0, .int 2, .int 0, .int 0, .int 0, .int 0, .int 0, .int 0]))]) hSF hl.1 hP hD hS hA hK hGV (c89_Jx4a65c_add_9ea2d l hfl D cA g h1 a19 (p0) (p1)) goV_X12_295 pd_Jx4a65c_add_9ea2d ⟨(Nat.le_of_ble_eq_true rfl), (Nat.le_of_ble_eq_true rfl)⟩ ⟨(Nat.le_of_ble_eq_true rfl), (Nat.le_of_ble_eq_true rfl)⟩ (va_recv hK hP (ci := 2) (q0 := 1) rfl rfl) dX12_node_78 rfl (Nat.le_of_ble_eq_true rfl) [1, 2] [0] rfl (by decide) rfl (by decide) (by decide) (fun q => [(h0, .inr (15, [.ref h1, .ref h2, .ref h3, .ref h4, .ref h5, .ref h6, .ref h7, .ref h8, .ref h9, .ref h10, .ref h11, .ref h12, .ref h13, .ref h14, .ref h15, .ref h16, .ref h17, .ref h18, .long 0, .int 0, .int 2, .int 0, .int 0, .int 0, .int 0, .int 0, .int 0])), (h1, .inr (2, [.int 1, .ref (q 0), .int 1])), (a19, .inr (12, [.int p0, .int p1, .int 114, .long 0, .long 0, .int 0])), ((q 0), .inl (cA 4, 10, .inr (.inr (.inr (.inr (va_up (fun _ => none) 0 (some a19)))))))]) (fun _ => rfl) (fun q5 H locs hP hD hS => ?_)
  refine W.eq (g2 := F0 m 81 ls [.int 1]) rfl ?_
  refine lv_pop hx hb dX12_node_81 rfl ?_
  refine lv_aload_n hx hb dX12_node_82 rfl (lv_at hl 0 rfl) ?_
  refine ct_V (wr := [(h1, .inr (2, [.int 1, .ref (q5 0), .int 1])), (a19, .inr (12, [.int p0, .int p1, .int 114, .long 0, .long 0, .int 0])), ((q5 0), .inl (cA 4, 10, .inr (.inr (.inr (.inr (va_up (fun _ => none) 0 (some a19)))))))]) hSF hl.1 hP hD hS hA hK hGV (c62_X12_changes l hfl D cA g h0 h1 h2 h3 h4 h5 h6 h7 h8 h9 h10 h11 h12 h13 h14 h15 h16 h17 h18) goV_X12_299 pd_X12_changes ⟨(Nat.le_of_ble_eq_true rfl), (Nat.le_of_ble_eq_true rfl)⟩ ⟨(Nat.le_of_ble_eq_true rfl), (Nat.le_of_ble_eq_true rfl)⟩ (va_recv hK hP (ci := 15) (q0 := 0) rfl rfl) dX12_node_83 rfl (Nat.le_of_ble_eq_true rfl) [0] [1, 2, 3] rfl (by decide) rfl (by decide) (by decide) (fun q => [(h1, .inr (2, [.int 1, .ref (q5 0), .int 1])), (a19, .inr (12, [.int p0, .int p1, .int 114, .long 0, .long 0, .int 0])), ((q5 0), .inl (cA 4, 10, .inr (.inr (.inr (.inr (va_up (fun _ => none) 0 (some a19))))))), (h0, .inr (15, [.ref h1, .ref h2, .ref h3, .ref h4, .ref h5, .ref h6, .ref h7, .ref h8, .ref h9, .ref h10, .ref h11, .ref h12, .ref h13, .ref h14, .ref h15, .ref h16, .ref h17, .ref h18, .long 0, .int 0, .int 2, .int 0, .int 0, .int 0, .int 0, .int 0, .int 0]))]) (fun _ => rfl) (fun q6 H locs hP hD hS => ?_)
  refine W.eq (g2 := F0 m 86 ls []) rfl ?_
  refine lv_aload_n hx hb dX12_node_86 rfl (lv_at hl 0 rfl) ?_
  refine lv_aload_n hx hb dX12_node_87 rfl (lv_at hl 0 rfl) ?_
  refine k_get (ci := 15) (C := RX12) (T := TX12) (N := 27) (v := .ref h1) hx hb hG inX12 hown hK hP 3 rfl rfl 0 (by decide) gw1219 rfl dX12_node_88 ?_
  refine ct_V (wr := [(a19, .inr (12, [.int p0, .int p1, .int 114, .long 0, .long 0, .int 0])), ((q5 0), .inl (cA 4, 10, .inr (.inr (.inr (.inr (va_up (fun _ => none) 0 (some a19))))))), (h0, .inr (15, [.ref h1, .ref h2, .ref h3, .ref h4, .ref h5, .ref h6, .ref h7, .ref h8, .ref h9, .ref h10, .ref h11, .ref h12, .ref h13, .ref h14, .ref h15, .ref h16, .ref h17, .ref h18, .long 0, .int 0, .int 2, .int 0, .int 0, .int 0, .int 0, .int 0, .int 0]))]) hSF hl.1 hP hD hS hA hK hGV (c63_Jx4a65c_size_8abf5 l hfl D cA g h1 (q5 0)) goV_X12_125 pd_Jx4a65c_size_8abf5 ⟨(Nat.le_of_ble_eq_true rfl), (Nat.le_of_ble_eq_true rfl)⟩ ⟨(Nat.le_of_ble_eq_true rfl), (Nat.le_of_ble_eq_true rfl)⟩ (va_recv hK hP (ci := 2) (q0 := 0) rfl rfl) dX12_node_91 rfl (Nat.le_of_ble_eq_true rfl) [0] [1, 2, 3] rfl (by decide) rfl (by decide) (by decide) (fun q => [(a19, .inr (12, [.int p0, .int p1, .int 114, .long 0, .long 0, .int 0])), ((q5 0), .inl (cA 4, 10, .inr (.inr (.inr (.inr (va_up (fun _ => none) 0 (some a19))))))), (h0, .inr (15, [.ref h1, .ref h2, .ref h3, .ref h4, .ref h5, .ref h6, .ref h7, .ref h8, .ref h9, .ref h10, .ref h11, .ref h12, .ref h13, .ref h14, .ref h15, .ref h16, .ref h17, .ref h18, .long 0, .int 0, .int 2, .int 0, .int 0, .int 0, .int 0, .int 0, .int 0])), (h1, .inr (2, [.int 1, .ref (q5 0), .int 1]))]) (fun _ => rfl) (fun q7 H locs hP hD hS => ?_)
  refine W.eq (g2 := F0 m 94 ls [.int 1, .ref h0]) rfl ?_
  refine lv_iconst (v := 1) hx hb dX12_node_94 (by decide) ?_
  refine k_isub (v := 0) hx hb dX12_node_95 (by decide) ?_
  refine ct_V (wr := [(a19, .inr (12, [.int p0, .int p1, .int 114, .long 0, .long 0, .int 0])), ((q5 0), .inl (cA 4, 10, .inr (.inr (.inr (.inr (va_up (fun _ => none) 0 (some a19))))))), (h1, .inr (2, [.int 1, .ref (q5 0), .int 1]))]) hSF hl.1 hP hD hS hA hK hGV (c64_X12_tell l hfl D cA g h0 h1 h2 h3 h4 h5 h6 h7 h8 h9 h10 h11 h12 h13 h14 h15 h16 h17 h18) goV_X12_302 pd_X12_tell ⟨(Nat.le_of_ble_eq_true rfl), (Nat.le_of_ble_eq_true rfl)⟩ ⟨(Nat.le_of_ble_eq_true rfl), (Nat.le_of_ble_eq_true rfl)⟩ (va_recv hK hP (ci := 15) (q0 := 2) rfl rfl) dX12_node_96 rfl (Nat.le_of_ble_eq_true rfl) [2] [0, 1, 3] rfl (by decide) rfl (by decide) (by decide) (fun q => [(a19, .inr (12, [.int p0, .int p1, .int 114, .long 0, .long 0, .int 0])), ((q5 0), .inl (cA 4, 10, .inr (.inr (.inr (.inr (va_up (fun _ => none) 0 (some a19))))))), (h1, .inr (2, [.int 1, .ref (q5 0), .int 1])), (h0, .inr (15, [.ref h1, .ref h2, .ref h3, .ref h4, .ref h5, .ref h6, .ref h7, .ref h8, .ref h9, .ref h10, .ref h11, .ref h12, .ref h13, .ref h14, .ref h15, .ref h16, .ref h17, .ref h18, .long 0, .int 0, .int 2, .int 0, .int 0, .int 0, .int 0, .int 0, .int 0]))]) (fun _ => rfl) (fun q8 H locs hP hD hS => ?_)
  refine W.eq (g2 := F0 m 99 ls [.int 0]) rfl ?_
  exact e_i (fun i => match i with | 0 => a19 | 1 => (q5 0) | _ => 0) hx hb hr hlocks rfl rfl (hP.sub [3, 2, 0, 1] rfl) (hD.sub [3, 2, 0, 1] (by decide) rfl) hS (Nat.le_of_ble_eq_true rfl) (Nat.le_of_ble_eq_true rfl) dX12_node_99
set_option maxHeartbeats 4000000 in
set_option maxRecDepth 100000 in
theorem c91_X6_checkNode (l : Launch) (hfl : l.stackTraces = false) (D : va_G) (cA : Nat → ClassId) (g : gv_T) (h0 : Nat) (p0 : Int32) (k0 : p0 < 0) : CX l yX6_checkNode cX6_checkNode 2 none (RM 6 1 6 95) D cA g [.ref h0, .int p0] [] "java/lang/IndexOutOfBoundsException" (fun q => []) := by
  refine CX.of (by decide +kernel) (Nat.le_of_ble_eq_true rfl) ?_
  intro p e s m args below meth c A ls hx hb hr hml hown hG hlocks htab hA hS hP hK hD hGV hl
  have hown : s.vm.findClass RX6 = some m.cls := hown
  have hl : lv_has ls 2 [(0, .ref h0), (1, .int p0)] := hl
  have hSF : CF p m c cX6_checkNode 2 s args RX6 := ⟨hx, hb, hml, hown, hG⟩
  refine lv_iload_n hx hb dX6_checkNode_0 rfl (lv_at hl 1 rfl) ?_
  refine k_if_lt_t (tgt := 15) hx hb dX6_checkNode_1 k0 (by decide) ?_
  exact e_throwW (fun _ => 0) (names := ["java/lang/RuntimeException", "java/lang/Exception"]) 3 hx hb hfl hown hG hGV htab hlocks (hl.1.trans hml.symm) (by decide +kernel) (by decide +kernel) gw795 gw101 rfl xat_X6_232 hP hD hS dX6_checkNode_15 dX6_checkNode_18 dX6_checkNode_19 dX6_checkNode_22 dX6_checkNode_25 (Nat.le_of_ble_eq_true rfl) (Nat.le_of_ble_eq_true rfl) (Nat.le_of_ble_eq_true rfl) (Nat.le_of_ble_eq_true rfl) (Nat.le_of_ble_eq_true rfl) (Nat.le_of_ble_eq_true rfl)
set_option maxHeartbeats 4000000 in
set_option maxRecDepth 100000 in
theorem c92_X6_member (l : Launch) (hfl : l.stackTraces = false) (D : va_G) (cA : Nat → ClassId) (g : gv_T) (h0 h1 h2 h3 h4 h5 : Nat) (p0 : Int32) (p1 : Int32) (p2 : Int32) (p3 : Int32) (k0 : p0 < 0) : CX l yX6_member cX6_member 5 (some .int) (RM 7 1 6 116) D cA g [.ref h0, .int p0, .int p1, .int p2, .int p3] [(h0, .inr (9, [.ref h1, .ref h2, .ref h3, .ref h4, .ref h5]))] "java/lang/IndexOutOfBoundsException" (fun q => [(h0, .inr (9, [.ref h1, .ref h2, .ref h3, .ref h4, .ref h5]))]) := by
  refine CX.of (by decide +kernel) (Nat.le_of_ble_eq_true rfl) ?_
  intro p e s m args below meth c A ls hx hb hr hml hown hG hlocks htab hA hS hP hK hD hGV hl
  have hown : s.vm.findClass RX6 = some m.cls := hown
  have hl : lv_has ls 5 [(0, .ref h0), (1, .int p0), (2, .int p1), (3, .int p2), (4, .int p3)] := hl
  have hSF : CF p m c cX6_member 5 s args RX6 := ⟨hx, hb, hml, hown, hG⟩
  refine lv_aload_n hx hb dX6_member_0 rfl (lv_at hl 0 rfl) ?_
  refine lv_iload_n hx hb dX6_member_1 rfl (lv_at hl 1 rfl) ?_
  refine cx_V (wr := [(h0, .inr (9, [.ref h1, .ref h2, .ref h3, .ref h4, .ref h5]))]) hSF hl.1 hP hD hS hA hK hGV (c91_X6_checkNode l hfl D cA g h0 (p0) k0) goV_X6_80 pd_X6_checkNode ⟨(Nat.le_of_ble_eq_true rfl), (Nat.le_of_ble_eq_true rfl)⟩ ⟨(Nat.le_of_ble_eq_true rfl), (Nat.le_of_ble_eq_true rfl)⟩ (va_recv hK hP (ci := 9) (q0 := 0) rfl rfl) dX6_member_2 rfl (Nat.le_of_ble_eq_true rfl) [] [0] rfl (by decide) rfl (by decide) (by decide) (fun q => [(h0, .inr (9, [.ref h1, .ref h2, .ref h3, .ref h4, .ref h5]))]) (fun _ => rfl) (fun q1 H locs x9 ce9 hP hD hS h9 hv9 hcl9 => ?_)
  exact e_out (fun _ => 0) htab hlocks h9 hv9 hcl9 hP hD hS (Nat.le_of_ble_eq_true rfl) (Nat.le_of_ble_eq_true rfl)
set_option maxHeartbeats 4000000 in
set_option maxRecDepth 100000 in
theorem c93_L_member (l : Launch) (hfl : l.stackTraces = false) (D : va_G) (cA : Nat → ClassId) (g : gv_T) (h0 h1 h2 h3 h4 h5 h6 : Nat) (p0 : Int32) (p1 : Int32) (p2 : Int32) (p3 : Int32) (k0 : p0 < 0) : CW l yL_member cL_member 7 (some .int) [(0, 14, 17, 21), (0, 14, 21, 13), (0, 14, 25, 15)] (RM 8 1 6 140) D cA g [.ref h0, .int p0, .int p1, .int p2, .int p3, .ref h1] [(h0, .inr (9, [.ref h2, .ref h3, .ref h4, .ref h5, .ref h6]))] (fun q => some (.int 1)) (fun q => [(h0, .inr (9, [.ref h2, .ref h3, .ref h4, .ref h5, .ref h6]))]) := by
  refine CW.of (by decide +kernel) (Nat.le_of_ble_eq_true rfl) ?_
  intro p e s m args below meth c A ls hx hb hr hml hown hG hlocks htab hA hS hP hK hD hGV hl
  have hown : s.vm.findClass RL = some m.cls := hown
  have hl : lv_has ls 7 [(0, .ref h0), (1, .int p0), (2, .int p1), (3, .int p2), (4, .int p3), (5, .ref h1)] := hl
  have hSF : CF p m c cL_member 7 s args RL := ⟨hx, hb, hml, hown, hG⟩
  refine lv_aload hx hb dL_member_0 (lv_at hl 5 rfl) ?_
  refine lv_iconst (v := 0) hx hb dL_member_2 (by decide) ?_
  refine lv_aload_n hx hb dL_member_3 rfl (lv_at hl 0 rfl) ?_
  refine lv_iload_n hx hb dL_member_4 rfl (lv_at hl 1 rfl) ?_
  refine lv_iload_n hx hb dL_member_5 rfl (lv_at hl 2 rfl) ?_
  refine lv_iload_n hx hb dL_member_6 rfl (lv_at hl 3 rfl) ?_
  refine lv_iload hx hb dL_member_7 (lv_at hl 4 rfl) ?_
  refine cx_V (wr := []) hSF hl.1 hP hD hS hA hK hGV (c92_X6_member l hfl D cA g h0 h2 h3 h4 h5 h6 (p0) (p1) (p2) (p3) k0) goV_L_17 pd_X6_member ⟨(Nat.le_of_ble_eq_true rfl), (Nat.le_of_ble_eq_true rfl)⟩ ⟨(Nat.le_of_ble_eq_true rfl), (Nat.le_of_ble_eq_true rfl)⟩ (va_recv hK hP (ci := 9) (q0 := 0) rfl rfl) dL_member_9 rfl (Nat.le_of_ble_eq_true rfl) [0] [] rfl (by decide) rfl (by decide) (by decide) (fun q => [(h0, .inr (9, [.ref h2, .ref h3, .ref h4, .ref h5, .ref h6]))]) (fun _ => rfl) (fun q1 H locs x9 ce9 hP hD hS h9 hv9 hcl9 => ?_)
  refine vx_catch (own := RL) (name := "java/lang/IndexOutOfBoundsException") hown [] { startPc := 0, endPc := 14, handlerPc := 17, catchType := 21 } [{ startPc := 0, endPc := 14, handlerPc := 21, catchType := 13 }, { startPc := 0, endPc := 14, handlerPc := 25, catchType := 15 }] (htab.trans rfl) (fun z hz => nomatch hz) rfl (by decide) (hG _ gw763) (va_Nw.use rfl (hGV.2.2.2.2.1 _ gw797)) h9 hv9 hcl9 ?_
  refine W.eq (g2 := F0 m 17 ls [.ref x9]) rfl ?_
  refine lv_astore (lv' := [(6, .ref x9), (0, .ref h0), (1, .int p0), (2, .int p1), (3, .int p2), (4, .int p3), (5, .ref h1)]) hx hb dL_member_17 hl (by decide) rfl (fun ls hl => ?_)
  refine lv_iconst (v := 1) hx hb dL_member_19 (by decide) ?_
  exact e_i (fun _ => 0) hx hb hr hlocks rfl rfl hP hD hS (Nat.le_of_ble_eq_true rfl) (Nat.le_of_ble_eq_true rfl) dL_member_20
set_option maxHeartbeats 4000000 in
set_option maxRecDepth 100000 in
theorem c94_X12_in (l : Launch) (hfl : l.stackTraces = false) (D : va_G) (cA : Nat → ClassId) (g : gv_T) (p0 : Int64) (k0 : (lg_cmp p0 0) < 0) : CT l yX12_in cX12_in 4 (some .boolean) (RM 0 0 0 0) D cA g [.long p0, .int 0, .int (-1)] [] (fun q => some (.int 0)) (fun q => []) := by
  refine CT.of (by decide +kernel) (Nat.le_of_ble_eq_true rfl) ?_
  intro p e s m args below meth c A ls hx hb hr hml hown hG hlocks hnm hA hS hP hK hD hGV hl
  have hown : s.vm.findClass RX12 = some m.cls := hown
  have hl : lv_has ls 4 [(0, .long p0), (2, .int 0), (3, .int (-1))] := hl
  have hSF : CF p m c cX12_in 4 s args RX12 := ⟨hx, hb, hml, hown, hG⟩
  refine lv_lload_n hx hb dX12_in_0 rfl (lv_at hl 0 rfl) ?_
  refine lv_iload_n hx hb dX12_in_1 rfl (lv_at hl 1 rfl) ?_
  refine lv_i2l (v := 0) hx hb dX12_in_2 (by decide +kernel) ?_
  refine k_lcmp (v := (lg_cmp p0 0)) hx hb dX12_in_3 rfl ?_
  refine k_if_lt_t (tgt := 18) hx hb dX12_in_4 k0 (by decide) ?_
  refine lv_iconst (v := 0) hx hb dX12_in_18 (by decide) ?_
  exact e_i (fun _ => 0) hx hb hr hlocks rfl rfl hP hD hS (Nat.le_of_ble_eq_true rfl) (Nat.le_of_ble_eq_true rfl) dX12_in_19
set_option maxHeartbeats 4000000 in
set_option maxRecDepth 100000 in
theorem c95_X12_isNode (l : Launch) (hfl : l.stackTraces = false) (D : va_G) (cA : Nat → ClassId) (g : gv_T) (h0 h1 h2 h3 h4 h5 h6 h7 h8 h9 h10 h11 h12 h13 h14 h15 h16 h17 h18 : Nat) (p0 : Int32) (k0 : (lg_cmp p0.toInt64 0) < 0) : CT l yX12_isNode cX12_isNode 2 (some .boolean) (RM 1 0 0 23) D cA g [.ref h0, .int p0] [(h0, .inr (15, [.ref h1, .ref h2, .ref h3, .ref h4, .ref h5, .ref h6, .ref h7, .ref h8, .ref h9, .ref h10, .ref h11, .ref h12, .ref h13, .ref h14, .ref h15, .ref h16, .ref h17, .ref h18, .long 0, .int 0, .int 2, .int 0, .int 0, .int 0, .int 0, .int 0, .int 0])), (h1, .inr (2, [.int 0, .ref g.1, .int 0]))] (fun q => some (.int 0)) (fun q => [(h0, .inr (15, [.ref h1, .ref h2, .ref h3, .ref h4, .ref h5, .ref h6, .ref h7, .ref h8, .ref h9, .ref h10, .ref h11, .ref h12, .ref h13, .ref h14, .ref h15, .ref h16, .ref h17, .ref h18, .long 0, .int 0, .int 2, .int 0, .int 0, .int 0, .int 0, .int 0, .int 0])), (h1, .inr (2, [.int 0, .ref g.1, .int 0]))]) := by
  refine CT.of (by decide +kernel) (Nat.le_of_ble_eq_true rfl) ?_
  intro p e s m args below meth c A ls hx hb hr hml hown hG hlocks hnm hA hS hP hK hD hGV hl
  have hown : s.vm.findClass RX12 = some m.cls := hown
  have hl : lv_has ls 2 [(0, .ref h0), (1, .int p0)] := hl
  have hSF : CF p m c cX12_isNode 2 s args RX12 := ⟨hx, hb, hml, hown, hG⟩
  refine lv_iload_n hx hb dX12_isNode_0 rfl (lv_at hl 1 rfl) ?_
  refine lv_i2l (v := p0.toInt64) hx hb dX12_isNode_1 rfl ?_
  refine lv_iconst (v := 0) hx hb dX12_isNode_2 (by decide) ?_
  refine lv_aload_n hx hb dX12_isNode_3 rfl (lv_at hl 0 rfl) ?_
  refine k_get (ci := 15) (C := RX12) (T := TX12) (N := 27) (v := .ref h1) hx hb hG inX12 hown hK hP 0 rfl rfl 0 (by decide) gw1219 rfl dX12_isNode_4 ?_
  refine ct_V (wr := [(h0, .inr (15, [.ref h1, .ref h2, .ref h3, .ref h4, .ref h5, .ref h6, .ref h7, .ref h8, .ref h9, .ref h10, .ref h11, .ref h12, .ref h13, .ref h14, .ref h15, .ref h16, .ref h17, .ref h18, .long 0, .int 0, .int 2, .int 0, .int 0, .int 0, .int 0, .int 0, .int 0]))]) hSF hl.1 hP hD hS hA hK hGV (c56_Jx4a65c_size_8abf5 l hfl D cA g h1) goV_X12_125 pd_Jx4a65c_size_8abf5 ⟨(Nat.le_of_ble_eq_true rfl), (Nat.le_of_ble_eq_true rfl)⟩ ⟨(Nat.le_of_ble_eq_true rfl), (Nat.le_of_ble_eq_true rfl)⟩ (va_recv hK hP (ci := 2) (q0 := 1) rfl rfl) dX12_isNode_7 rfl (Nat.le_of_ble_eq_true rfl) [1] [0] rfl (by decide) rfl (by decide) (by decide) (fun q => [(h0, .inr (15, [.ref h1, .ref h2, .ref h3, .ref h4, .ref h5, .ref h6, .ref h7, .ref h8, .ref h9, .ref h10, .ref h11, .ref h12, .ref h13, .ref h14, .ref h15, .ref h16, .ref h17, .ref h18, .long 0, .int 0, .int 2, .int 0, .int 0, .int 0, .int 0, .int 0, .int 0])), (h1, .inr (2, [.int 0, .ref g.1, .int 0]))]) (fun _ => rfl) (fun q1 H locs hP hD hS => ?_)
  refine W.eq (g2 := F0 m 10 ls [.int 0, .int 0, .long (p0.toInt64)]) rfl ?_
  refine lv_iconst (v := 1) hx hb dX12_isNode_10 (by decide) ?_
  refine k_isub (v := (-1)) hx hb dX12_isNode_11 (by decide) ?_
  refine ct_S (wr := [(h0, .inr (15, [.ref h1, .ref h2, .ref h3, .ref h4, .ref h5, .ref h6, .ref h7, .ref h8, .ref h9, .ref h10, .ref h11, .ref h12, .ref h13, .ref h14, .ref h15, .ref h16, .ref h17, .ref h18, .long 0, .int 0, .int 2, .int 0, .int 0, .int 0, .int 0, .int 0, .int 0])), (h1, .inr (2, [.int 0, .ref g.1, .int 0]))]) hSF hl.1 hP hD hS hA hK hGV (c94_X12_in l hfl D cA g (p0.toInt64) k0) goS_X12_285 pd_X12_in.2 ⟨(Nat.le_of_ble_eq_true rfl), (Nat.le_of_ble_eq_true rfl)⟩ ⟨(Nat.le_of_ble_eq_true rfl), (Nat.le_of_ble_eq_true rfl)⟩ dX12_isNode_12 rfl (Nat.le_of_ble_eq_true rfl) [] [0, 1] rfl (by decide) rfl (by decide) (by decide) (fun q => [(h0, .inr (15, [.ref h1, .ref h2, .ref h3, .ref h4, .ref h5, .ref h6, .ref h7, .ref h8, .ref h9, .ref h10, .ref h11, .ref h12, .ref h13, .ref h14, .ref h15, .ref h16, .ref h17, .ref h18, .long 0, .int 0, .int 2, .int 0, .int 0, .int 0, .int 0, .int 0, .int 0])), (h1, .inr (2, [.int 0, .ref g.1, .int 0]))]) (fun _ => rfl) (fun q2 H locs hP hD hS => ?_)
  refine W.eq (g2 := F0 m 15 ls [.int 0]) rfl ?_
  exact e_i (fun _ => 0) hx hb hr hlocks rfl rfl hP hD hS (Nat.le_of_ble_eq_true rfl) (Nat.le_of_ble_eq_true rfl) dX12_isNode_15
set_option maxHeartbeats 4000000 in
set_option maxRecDepth 100000 in
theorem c96_X12_member (l : Launch) (hfl : l.stackTraces = false) (D : va_G) (cA : Nat → ClassId) (g : gv_T) (h0 h1 h2 h3 h4 h5 h6 h7 h8 h9 h10 h11 h12 h13 h14 h15 h16 h17 h18 : Nat) (p0 : Int32) (p1 : Int32) (p2 : Int32) (p3 : Int32) (k0 : (lg_cmp p0.toInt64 0) < 0) : CT l yX12_member cX12_member 6 (some .int) (RM 2 0 0 44) D cA g [.ref h0, .int p0, .int p1, .int p2, .int p3] [(h0, .inr (15, [.ref h1, .ref h2, .ref h3, .ref h4, .ref h5, .ref h6, .ref h7, .ref h8, .ref h9, .ref h10, .ref h11, .ref h12, .ref h13, .ref h14, .ref h15, .ref h16, .ref h17, .ref h18, .long 0, .int 0, .int 2, .int 0, .int 0, .int 0, .int 0, .int 0, .int 0])), (h1, .inr (2, [.int 0, .ref g.1, .int 0]))] (fun q => some (.int 0)) (fun q => [(h0, .inr (15, [.ref h1, .ref h2, .ref h3, .ref h4, .ref h5, .ref h6, .ref h7, .ref h8, .ref h9, .ref h10, .ref h11, .ref h12, .ref h13, .ref h14, .ref h15, .ref h16, .ref h17, .ref h18, .long 0, .int 1, .int 2, .int 0, .int 0, .int 0, .int 0, .int 0, .int 0])), (h1, .inr (2, [.int 0, .ref g.1, .int 0]))]) := by
  refine CT.of (by decide +kernel) (Nat.le_of_ble_eq_true rfl) ?_
  intro p e s m args below meth c A ls hx hb hr hml hown hG hlocks hnm hA hS hP hK hD hGV hl
  have hown : s.vm.findClass RX12 = some m.cls := hown
  have hl : lv_has ls 6 [(0, .ref h0), (1, .int p0), (2, .int p1), (3, .int p2), (4, .int p3)] := hl
  have hSF : CF p m c cX12_member 6 s args RX12 := ⟨hx, hb, hml, hown, hG⟩
  refine lv_aload_n hx hb dX12_member_0 rfl (lv_at hl 0 rfl) ?_
  refine lv_iload_n hx hb dX12_member_1 rfl (lv_at hl 1 rfl) ?_
  refine ct_V (wr := []) hSF hl.1 hP hD hS hA hK hGV (c95_X12_isNode l hfl D cA g h0 h1 h2 h3 h4 h5 h6 h7 h8 h9 h10 h11 h12 h13 h14 h15 h16 h17 h18 (p0) k0) goV_X12_305 pd_X12_isNode ⟨(Nat.le_of_ble_eq_true rfl), (Nat.le_of_ble_eq_true rfl)⟩ ⟨(Nat.le_of_ble_eq_true rfl), (Nat.le_of_ble_eq_true rfl)⟩ (va_recv hK hP (ci := 15) (q0 := 0) rfl rfl) dX12_member_2 rfl (Nat.le_of_ble_eq_true rfl) [0, 1] [] rfl (by decide) rfl (by decide) (by decide) (fun q => [(h0, .inr (15, [.ref h1, .ref h2, .ref h3, .ref h4, .ref h5, .ref h6, .ref h7, .ref h8, .ref h9, .ref h10, .ref h11, .ref h12, .ref h13, .ref h14, .ref h15, .ref h16, .ref h17, .ref h18, .long 0, .int 0, .int 2, .int 0, .int 0, .int 0, .int 0, .int 0, .int 0])), (h1, .inr (2, [.int 0, .ref g.1, .int 0]))]) (fun _ => rfl) (fun q1 H locs hP hD hS => ?_)
  refine W.eq (g2 := F0 m 5 ls [.int 0]) rfl ?_
  refine k_if_eq_t (tgt := 16) hx hb dX12_member_5 (by decide) (by decide) ?_
  refine lv_aload_n hx hb dX12_member_16 rfl (lv_at hl 0 rfl) ?_
  refine lv_iconst (v := 1) hx hb dX12_member_17 (by decide) ?_
  refine ct_V (wr := [(h1, .inr (2, [.int 0, .ref g.1, .int 0]))]) hSF hl.1 hP hD hS hA hK hGV (c15_X12_fails l hfl D cA g h0 h1 h2 h3 h4 h5 h6 h7 h8 h9 h10 h11 h12 h13 h14 h15 h16 h17 h18) goV_X12_289 pd_X12_fails ⟨(Nat.le_of_ble_eq_true rfl), (Nat.le_of_ble_eq_true rfl)⟩ ⟨(Nat.le_of_ble_eq_true rfl), (Nat.le_of_ble_eq_true rfl)⟩ (va_recv hK hP (ci := 15) (q0 := 0) rfl rfl) dX12_member_18 rfl (Nat.le_of_ble_eq_true rfl) [0] [1] rfl (by decide) rfl (by decide) (by decide) (fun q => [(h1, .inr (2, [.int 0, .ref g.1, .int 0])), (h0, .inr (15, [.ref h1, .ref h2, .ref h3, .ref h4, .ref h5, .ref h6, .ref h7, .ref h8, .ref h9, .ref h10, .ref h11, .ref h12, .ref h13, .ref h14, .ref h15, .ref h16, .ref h17, .ref h18, .long 0, .int 1, .int 2, .int 0, .int 0, .int 0, .int 0, .int 0, .int 0]))]) (fun _ => rfl) (fun q2 H locs hP hD hS => ?_)
  refine W.eq (g2 := F0 m 21 ls [.int 0]) rfl ?_
  exact e_i (fun _ => 0) hx hb hr hlocks rfl rfl (hP.sub [1, 0] rfl) (hD.sub [1, 0] (by decide) rfl) hS (Nat.le_of_ble_eq_true rfl) (Nat.le_of_ble_eq_true rfl) dX12_member_21
set_option maxHeartbeats 4000000 in
set_option maxRecDepth 100000 in
theorem c97_X6_checkNode (l : Launch) (hfl : l.stackTraces = false) (D : va_G) (cA : Nat → ClassId) (g : gv_T) (h0 h1 h2 h3 h4 h5 h6 h7 h8 h9 h10 h11 h12 h13 h14 h15 : Nat) (p0 : Int32) (k0 : ¬ p0 < 0) : CX l yX6_checkNode cX6_checkNode 2 none (RM 6 1 6 95) D cA g [.ref h0, .int p0] [(h0, .inr (9, [.ref h1, .ref h2, .ref h3, .ref h4, .ref h5])), (h1, .inr (5, [.int 0, .int 0, .ref h6, .ref h7, .ref h8, .ref h9, .ref h10, .ref h11, .ref h12, .ref h13, .ref h14, .ref h15]))] "java/lang/IndexOutOfBoundsException" (fun q => [(h0, .inr (9, [.ref h1, .ref h2, .ref h3, .ref h4, .ref h5])), (h1, .inr (5, [.int 0, .int 0, .ref h6, .ref h7, .ref h8, .ref h9, .ref h10, .ref h11, .ref h12, .ref h13, .ref h14, .ref h15]))]) := by
  refine CX.of (by decide +kernel) (Nat.le_of_ble_eq_true rfl) ?_
  intro p e s m args below meth c A ls hx hb hr hml hown hG hlocks htab hA hS hP hK hD hGV hl
  have hown : s.vm.findClass RX6 = some m.cls := hown
  have hl : lv_has ls 2 [(0, .ref h0), (1, .int p0)] := hl
  have hSF : CF p m c cX6_checkNode 2 s args RX6 := ⟨hx, hb, hml, hown, hG⟩
  refine lv_iload_n hx hb dX6_checkNode_0 rfl (lv_at hl 1 rfl) ?_
  refine k_if_lt_f (tgt := 15) hx hb dX6_checkNode_1 k0 (by decide) ?_
  refine lv_iload_n hx hb dX6_checkNode_4 rfl (lv_at hl 1 rfl) ?_
  refine lv_aload_n hx hb dX6_checkNode_5 rfl (lv_at hl 0 rfl) ?_
  refine k_get (ci := 9) (C := RX6) (T := TX6) (N := 5) (v := .ref h1) hx hb hG inX6 hown hK hP 0 rfl rfl 0 (by decide) gw363 rfl dX6_checkNode_6 ?_
  refine k_get (ci := 5) (C := RX2) (T := TX2) (N := 12) (v := .int 0) hx hb hG inX2 hown hK hP 1 rfl rfl 0 (by decide) gw127 rfl dX6_checkNode_9 ?_
  refine k_icmp_lt_f (tgt := 26) hx hb dX6_checkNode_12 k0 (by decide) ?_
  exact e_throwW (fun _ => 0) (names := ["java/lang/RuntimeException", "java/lang/Exception"]) 3 hx hb hfl hown hG hGV htab hlocks (hl.1.trans hml.symm) (by decide +kernel) (by decide +kernel) gw795 gw101 rfl xat_X6_232 hP hD hS dX6_checkNode_15 dX6_checkNode_18 dX6_checkNode_19 dX6_checkNode_22 dX6_checkNode_25 (Nat.le_of_ble_eq_true rfl) (Nat.le_of_ble_eq_true rfl) (Nat.le_of_ble_eq_true rfl) (Nat.le_of_ble_eq_true rfl) (Nat.le_of_ble_eq_true rfl) (Nat.le_of_ble_eq_true rfl)
set_option maxHeartbeats 4000000 in
set_option maxRecDepth 100000 in
theorem c98_X6_member (l : Launch) (hfl : l.stackTraces = false) (D : va_G) (cA : Nat → ClassId) (g : gv_T) (h0 h1 h2 h3 h4 h5 h6 h7 h8 h9 h10 h11 h12 h13 h14 h15 : Nat) (p0 : Int32) (p1 : Int32) (p2 : Int32) (p3 : Int32) (k0 : ¬ p0 < 0) : CX l yX6_member cX6_member 5 (some .int) (RM 7 1 6 116) D cA g [.ref h0, .int p0, .int p1, .int p2, .int p3] [(h0, .inr (9, [.ref h1, .ref h2, .ref h3, .ref h4, .ref h5])), (h1, .inr (5, [.int 0, .int 0, .ref h6, .ref h7, .ref h8, .ref h9, .ref h10, .ref h11, .ref h12, .ref h13, .ref h14, .ref h15]))] "java/lang/IndexOutOfBoundsException" (fun q => [(h0, .inr (9, [.ref h1, .ref h2, .ref h3, .ref h4, .ref h5])), (h1, .inr (5, [.int 0, .int 0, .ref h6, .ref h7, .ref h8, .ref h9, .ref h10, .ref h11, .ref h12, .ref h13, .ref h14, .ref h15]))]) := by
  refine CX.of (by decide +kernel) (Nat.le_of_ble_eq_true rfl) ?_
  intro p e s m args below meth c A ls hx hb hr hml hown hG hlocks htab hA hS hP hK hD hGV hl
  have hown : s.vm.findClass RX6 = some m.cls := hown
  have hl : lv_has ls 5 [(0, .ref h0), (1, .int p0), (2, .int p1), (3, .int p2), (4, .int p3)] := hl
  have hSF : CF p m c cX6_member 5 s args RX6 := ⟨hx, hb, hml, hown, hG⟩
  refine lv_aload_n hx hb dX6_member_0 rfl (lv_at hl 0 rfl) ?_
  refine lv_iload_n hx hb dX6_member_1 rfl (lv_at hl 1 rfl) ?_
  refine cx_V (wr := []) hSF hl.1 hP hD hS hA hK hGV (c97_X6_checkNode l hfl D cA g h0 h1 h2 h3 h4 h5 h6 h7 h8 h9 h10 h11 h12 h13 h14 h15 (p0) k0) goV_X6_80 pd_X6_checkNode ⟨(Nat.le_of_ble_eq_true rfl), (Nat.le_of_ble_eq_true rfl)⟩ ⟨(Nat.le_of_ble_eq_true rfl), (Nat.le_of_ble_eq_true rfl)⟩ (va_recv hK hP (ci := 9) (q0 := 0) rfl rfl) dX6_member_2 rfl (Nat.le_of_ble_eq_true rfl) [0, 1] [] rfl (by decide) rfl (by decide) (by decide) (fun q => [(h0, .inr (9, [.ref h1, .ref h2, .ref h3, .ref h4, .ref h5])), (h1, .inr (5, [.int 0, .int 0, .ref h6, .ref h7, .ref h8, .ref h9, .ref h10, .ref h11, .ref h12, .ref h13, .ref h14, .ref h15]))]) (fun _ => rfl) (fun q1 H locs x9 ce9 hP hD hS h9 hv9 hcl9 => ?_)
  exact e_out (fun _ => 0) htab hlocks h9 hv9 hcl9 hP hD hS (Nat.le_of_ble_eq_true rfl) (Nat.le_of_ble_eq_true rfl)
set_option maxHeartbeats 4000000 in
set_option maxRecDepth 100000 in
theorem c99_L_member (l : Launch) (hfl : l.stackTraces = false) (D : va_G) (cA : Nat → ClassId) (g : gv_T) (h0 h1 h2 h3 h4 h5 h6 h7 h8 h9 h10 h11 h12 h13 h14 h15 h16 : Nat) (p0 : Int32) (p1 : Int32) (p2 : Int32) (p3 : Int32) (k0 : ¬ p0 < 0) : CW l yL_member cL_member 7 (some .int) [(0, 14, 17, 21), (0, 14, 21, 13), (0, 14, 25, 15)] (RM 8 1 6 140) D cA g [.ref h0, .int p0, .int p1, .int p2, .int p3, .ref h1] [(h0, .inr (9, [.ref h2, .ref h3, .ref h4, .ref h5, .ref h6])), (h2, .inr (5, [.int 0, .int 0, .ref h7, .ref h8, .ref h9, .ref h10, .ref h11, .ref h12, .ref h13, .ref h14, .ref h15, .ref h16]))] (fun q => some (.int 1)) (fun q => [(h0, .inr (9, [.ref h2, .ref h3, .ref h4, .ref h5, .ref h6])), (h2, .inr (5, [.int 0, .int 0, .ref h7, .ref h8, .ref h9, .ref h10, .ref h11, .ref h12, .ref h13, .ref h14, .ref h15, .ref h16]))]) := by
  refine CW.of (by decide +kernel) (Nat.le_of_ble_eq_true rfl) ?_
  intro p e s m args below meth c A ls hx hb hr hml hown hG hlocks htab hA hS hP hK hD hGV hl
  have hown : s.vm.findClass RL = some m.cls := hown
  have hl : lv_has ls 7 [(0, .ref h0), (1, .int p0), (2, .int p1), (3, .int p2), (4, .int p3), (5, .ref h1)] := hl
  have hSF : CF p m c cL_member 7 s args RL := ⟨hx, hb, hml, hown, hG⟩
  refine lv_aload hx hb dL_member_0 (lv_at hl 5 rfl) ?_
  refine lv_iconst (v := 0) hx hb dL_member_2 (by decide) ?_
  refine lv_aload_n hx hb dL_member_3 rfl (lv_at hl 0 rfl) ?_
  refine lv_iload_n hx hb dL_member_4 rfl (lv_at hl 1 rfl) ?_
  refine lv_iload_n hx hb dL_member_5 rfl (lv_at hl 2 rfl) ?_
  refine lv_iload_n hx hb dL_member_6 rfl (lv_at hl 3 rfl) ?_
  refine lv_iload hx hb dL_member_7 (lv_at hl 4 rfl) ?_
  refine cx_V (wr := []) hSF hl.1 hP hD hS hA hK hGV (c98_X6_member l hfl D cA g h0 h2 h3 h4 h5 h6 h7 h8 h9 h10 h11 h12 h13 h14 h15 h16 (p0) (p1) (p2) (p3) k0) goV_L_17 pd_X6_member ⟨(Nat.le_of_ble_eq_true rfl), (Nat.le_of_ble_eq_true rfl)⟩ ⟨(Nat.le_of_ble_eq_true rfl), (Nat.le_of_ble_eq_true rfl)⟩ (va_recv hK hP (ci := 9) (q0 := 0) rfl rfl) dL_member_9 rfl (Nat.le_of_ble_eq_true rfl) [0, 1] [] rfl (by decide) rfl (by decide) (by decide) (fun q => [(h0, .inr (9, [.ref h2, .ref h3, .ref h4, .ref h5, .ref h6])), (h2, .inr (5, [.int 0, .int 0, .ref h7, .ref h8, .ref h9, .ref h10, .ref h11, .ref h12, .ref h13, .ref h14, .ref h15, .ref h16]))]) (fun _ => rfl) (fun q1 H locs x9 ce9 hP hD hS h9 hv9 hcl9 => ?_)
  refine vx_catch (own := RL) (name := "java/lang/IndexOutOfBoundsException") hown [] { startPc := 0, endPc := 14, handlerPc := 17, catchType := 21 } [{ startPc := 0, endPc := 14, handlerPc := 21, catchType := 13 }, { startPc := 0, endPc := 14, handlerPc := 25, catchType := 15 }] (htab.trans rfl) (fun z hz => nomatch hz) rfl (by decide) (hG _ gw763) (va_Nw.use rfl (hGV.2.2.2.2.1 _ gw797)) h9 hv9 hcl9 ?_
  refine W.eq (g2 := F0 m 17 ls [.ref x9]) rfl ?_
  refine lv_astore (lv' := [(6, .ref x9), (0, .ref h0), (1, .int p0), (2, .int p1), (3, .int p2), (4, .int p3), (5, .ref h1)]) hx hb dL_member_17 hl (by decide) rfl (fun ls hl => ?_)
  refine lv_iconst (v := 1) hx hb dL_member_19 (by decide) ?_
  exact e_i (fun _ => 0) hx hb hr hlocks rfl rfl hP hD hS (Nat.le_of_ble_eq_true rfl) (Nat.le_of_ble_eq_true rfl) dL_member_20
set_option maxHeartbeats 4000000 in
set_option maxRecDepth 100000 in
theorem c100_X12_in (l : Launch) (hfl : l.stackTraces = false) (D : va_G) (cA : Nat → ClassId) (g : gv_T) (p0 : Int64) (k0 : ¬ (lg_cmp p0 0) < 0) (k1 : 0 < (lg_cmp p0 (-1))) : CT l yX12_in cX12_in 4 (some .boolean) (RM 0 0 0 0) D cA g [.long p0, .int 0, .int (-1)] [] (fun q => some (.int 0)) (fun q => []) := by
  refine CT.of (by decide +kernel) (Nat.le_of_ble_eq_true rfl) ?_
  intro p e s m args below meth c A ls hx hb hr hml hown hG hlocks hnm hA hS hP hK hD hGV hl
  have hown : s.vm.findClass RX12 = some m.cls := hown
  have hl : lv_has ls 4 [(0, .long p0), (2, .int 0), (3, .int (-1))] := hl
  have hSF : CF p m c cX12_in 4 s args RX12 := ⟨hx, hb, hml, hown, hG⟩
  refine lv_lload_n hx hb dX12_in_0 rfl (lv_at hl 0 rfl) ?_
  refine lv_iload_n hx hb dX12_in_1 rfl (lv_at hl 1 rfl) ?_
  refine lv_i2l (v := 0) hx hb dX12_in_2 (by decide +kernel) ?_
  refine k_lcmp (v := (lg_cmp p0 0)) hx hb dX12_in_3 rfl ?_
  refine k_if_lt_f (tgt := 18) hx hb dX12_in_4 k0 (by decide) ?_
  refine lv_lload_n hx hb dX12_in_7 rfl (lv_at hl 0 rfl) ?_
  refine lv_iload_n hx hb dX12_in_8 rfl (lv_at hl 2 rfl) ?_
  refine lv_i2l (v := (-1)) hx hb dX12_in_9 (by decide +kernel) ?_
  refine k_lcmp (v := (lg_cmp p0 (-1))) hx hb dX12_in_10 rfl ?_
  refine k_if_gt_t (tgt := 18) hx hb dX12_in_11 k1 (by decide) ?_
  refine lv_iconst (v := 0) hx hb dX12_in_18 (by decide) ?_
  exact e_i (fun _ => 0) hx hb hr hlocks rfl rfl hP hD hS (Nat.le_of_ble_eq_true rfl) (Nat.le_of_ble_eq_true rfl) dX12_in_19
set_option maxHeartbeats 4000000 in
set_option maxRecDepth 100000 in
theorem c101_X12_isNode (l : Launch) (hfl : l.stackTraces = false) (D : va_G) (cA : Nat → ClassId) (g : gv_T) (h0 h1 h2 h3 h4 h5 h6 h7 h8 h9 h10 h11 h12 h13 h14 h15 h16 h17 h18 : Nat) (p0 : Int32) (k0 : ¬ (lg_cmp p0.toInt64 0) < 0) (k1 : 0 < (lg_cmp p0.toInt64 (-1))) : CT l yX12_isNode cX12_isNode 2 (some .boolean) (RM 1 0 0 23) D cA g [.ref h0, .int p0] [(h0, .inr (15, [.ref h1, .ref h2, .ref h3, .ref h4, .ref h5, .ref h6, .ref h7, .ref h8, .ref h9, .ref h10, .ref h11, .ref h12, .ref h13, .ref h14, .ref h15, .ref h16, .ref h17, .ref h18, .long 0, .int 0, .int 2, .int 0, .int 0, .int 0, .int 0, .int 0, .int 0])), (h1, .inr (2, [.int 0, .ref g.1, .int 0]))] (fun q => some (.int 0)) (fun q => [(h0, .inr (15, [.ref h1, .ref h2, .ref h3, .ref h4, .ref h5, .ref h6, .ref h7, .ref h8, .ref h9, .ref h10, .ref h11, .ref h12, .ref h13, .ref h14, .ref h15, .ref h16, .ref h17, .ref h18, .long 0, .int 0, .int 2, .int 0, .int 0, .int 0, .int 0, .int 0, .int 0])), (h1, .inr (2, [.int 0, .ref g.1, .int 0]))]) := by
  refine CT.of (by decide +kernel) (Nat.le_of_ble_eq_true rfl) ?_
  intro p e s m args below meth c A ls hx hb hr hml hown hG hlocks hnm hA hS hP hK hD hGV hl
  have hown : s.vm.findClass RX12 = some m.cls := hown
  have hl : lv_has ls 2 [(0, .ref h0), (1, .int p0)] := hl
  have hSF : CF p m c cX12_isNode 2 s args RX12 := ⟨hx, hb, hml, hown, hG⟩
  refine lv_iload_n hx hb dX12_isNode_0 rfl (lv_at hl 1 rfl) ?_
  refine lv_i2l (v := p0.toInt64) hx hb dX12_isNode_1 rfl ?_
  refine lv_iconst (v := 0) hx hb dX12_isNode_2 (by decide) ?_
  refine lv_aload_n hx hb dX12_isNode_3 rfl (lv_at hl 0 rfl) ?_
  refine k_get (ci := 15) (C := RX12) (T := TX12) (N := 27) (v := .ref h1) hx hb hG inX12 hown hK hP 0 rfl rfl 0 (by decide) gw1219 rfl dX12_isNode_4 ?_
  refine ct_V (wr := [(h0, .inr (15, [.ref h1, .ref h2, .ref h3, .ref h4, .ref h5, .ref h6, .ref h7, .ref h8, .ref h9, .ref h10, .ref h11, .ref h12, .ref h13, .ref h14, .ref h15, .ref h16, .ref h17, .ref h18, .long 0, .int 0, .int 2, .int 0, .int 0, .int 0, .int 0, .int 0, .int 0]))]) hSF hl.1 hP hD hS hA hK hGV (c56_Jx4a65c_size_8abf5 l hfl D cA g h1) goV_X12_125 pd_Jx4a65c_size_8abf5 ⟨(Nat.le_of_ble_eq_true rfl), (Nat.le_of_ble_eq_true rfl)⟩ ⟨(Nat.le_of_ble_eq_true rfl), (Nat.le_of_ble_eq_true rfl)⟩ (va_recv hK hP (ci := 2) (q0 := 1) rfl rfl) dX12_isNode_7 rfl (Nat.le_of_ble_eq_true rfl) [1] [0] rfl (by decide) rfl (by decide) (by decide) (fun q => [(h0, .inr (15, [.ref h1, .ref h2, .ref h3, .ref h4, .ref h5, .ref h6, .ref h7, .ref h8, .ref h9, .ref h10, .ref h11, .ref h12, .ref h13, .ref h14, .ref h15, .ref h16, .ref h17, .ref h18, .long 0, .int 0, .int 2, .int 0, .int 0, .int 0, .int 0, .int 0, .int 0])), (h1, .inr (2, [.int 0, .ref g.1, .int 0]))]) (fun _ => rfl) (fun q1 H locs hP hD hS => ?_)
  refine W.eq (g2 := F0 m 10 ls [.int 0, .int 0, .long (p0.toInt64)]) rfl ?_
  refine lv_iconst (v := 1) hx hb dX12_isNode_10 (by decide) ?_
  refine k_isub (v := (-1)) hx hb dX12_isNode_11 (by decide) ?_
  refine ct_S (wr := [(h0, .inr (15, [.ref h1, .ref h2, .ref h3, .ref h4, .ref h5, .ref h6, .ref h7, .ref h8, .ref h9, .ref h10, .ref h11, .ref h12, .ref h13, .ref h14, .ref h15, .ref h16, .ref h17, .ref h18, .long 0, .int 0, .int 2, .int 0, .int 0, .int 0, .int 0, .int 0, .int 0])), (h1, .inr (2, [.int 0, .ref g.1, .int 0]))]) hSF hl.1 hP hD hS hA hK hGV (c100_X12_in l hfl D cA g (p0.toInt64) k0 k1) goS_X12_285 pd_X12_in.2 ⟨(Nat.le_of_ble_eq_true rfl), (Nat.le_of_ble_eq_true rfl)⟩ ⟨(Nat.le_of_ble_eq_true rfl), (Nat.le_of_ble_eq_true rfl)⟩ dX12_isNode_12 rfl (Nat.le_of_ble_eq_true rfl) [] [0, 1] rfl (by decide) rfl (by decide) (by decide) (fun q => [(h0, .inr (15, [.ref h1, .ref h2, .ref h3, .ref h4, .ref h5, .ref h6, .ref h7, .ref h8, .ref h9, .ref h10, .ref h11, .ref h12, .ref h13, .ref h14, .ref h15, .ref h16, .ref h17, .ref h18, .long 0, .int 0, .int 2, .int 0, .int 0, .int 0, .int 0, .int 0, .int 0])), (h1, .inr (2, [.int 0, .ref g.1, .int 0]))]) (fun _ => rfl) (fun q2 H locs hP hD hS => ?_)
  refine W.eq (g2 := F0 m 15 ls [.int 0]) rfl ?_
  exact e_i (fun _ => 0) hx hb hr hlocks rfl rfl hP hD hS (Nat.le_of_ble_eq_true rfl) (Nat.le_of_ble_eq_true rfl) dX12_isNode_15
