set_option maxHeartbeats 4000000 in
set_option maxRecDepth 100000 in
theorem c172_X12_fails (l : Launch) (hfl : l.stackTraces = false) (D : va_G) (cA : Nat → ClassId) (g : gv_T) (h0 h1 h2 h3 h4 h5 h6 h7 h8 h9 h10 h11 h12 h13 h14 h15 h16 h17 h18 : Nat) : CT l yX12_fails cX12_fails 2 (some .int) (RM 0 0 0 0) D cA g [.ref h0, .int 2] [(h0, .inr (15, [.ref h1, .ref h2, .ref h3, .ref h4, .ref h5, .ref h6, .ref h7, .ref h8, .ref h9, .ref h10, .ref h11, .ref h12, .ref h13, .ref h14, .ref h15, .ref h16, .ref h17, .ref h18, .long 1, .int 0, .int 2, .int 0, .int 1, .int 0, .int 0, .int 0, .int 46]))] (fun q => some (.int 0)) (fun q => [(h0, .inr (15, [.ref h1, .ref h2, .ref h3, .ref h4, .ref h5, .ref h6, .ref h7, .ref h8, .ref h9, .ref h10, .ref h11, .ref h12, .ref h13, .ref h14, .ref h15, .ref h16, .ref h17, .ref h18, .long 1, .int 2, .int 2, .int 0, .int 1, .int 0, .int 0, .int 0, .int 46]))]) := by
  refine CT.of (by decide +kernel) (Nat.le_of_ble_eq_true rfl) ?_
  intro p e s m args below meth c A ls hx hb hr hml hown hG hlocks hnm hA hS hP hK hD hGV hl
  have hown : s.vm.findClass RX12 = some m.cls := hown
  have hl : lv_has ls 2 [(0, .ref h0), (1, .int 2)] := hl
  have hSF : CF p m c cX12_fails 2 s args RX12 := ⟨hx, hb, hml, hown, hG⟩
  refine lv_aload_n hx hb dX12_fails_0 rfl (lv_at hl 0 rfl) ?_
  refine lv_iload_n hx hb dX12_fails_1 rfl (lv_at hl 1 rfl) ?_
  refine k_put (ci := 15) (C := RX12) (T := TX12) (N := 27) (v := .int 2) (ws1 := [(h0, .inr (15, [.ref h1, .ref h2, .ref h3, .ref h4, .ref h5, .ref h6, .ref h7, .ref h8, .ref h9, .ref h10, .ref h11, .ref h12, .ref h13, .ref h14, .ref h15, .ref h16, .ref h17, .ref h18, .long 1, .int 2, .int 2, .int 0, .int 1, .int 0, .int 0, .int 0, .int 46]))]) hx hb hG inX12 tyX12 tyX12_ok nmX12 hown hK hP hD hS 0 rfl rfl 19 (by decide) gw1238 rfl ⟨rfl, rfl⟩ rfl (Nat.le_of_ble_eq_true rfl) dX12_fails_2 (fun H locs hP hD hS => ?_)
  refine lv_iconst (v := 0) hx hb dX12_fails_5 (by decide) ?_
  exact e_i (fun _ => 0) hx hb hr hlocks rfl rfl hP hD hS (Nat.le_of_ble_eq_true rfl) (Nat.le_of_ble_eq_true rfl) dX12_fails_6
set_option maxHeartbeats 4000000 in
set_option maxRecDepth 100000 in
theorem c173_X12_weakest (l : Launch) (hfl : l.stackTraces = false) (D : va_G) (cA : Nat → ClassId) (g : gv_T) (h0 h1 h2 h3 h4 h5 h6 h7 h8 h9 h10 h11 h12 h13 h14 h15 h16 h17 h18 : Nat) : CT l yX12_weakest cX12_weakest 3 (some .int) (RM 4 0 0 87) D cA g [.ref h0] [(h0, .inr (15, [.ref h1, .ref h2, .ref h3, .ref h4, .ref h5, .ref h6, .ref h7, .ref h8, .ref h9, .ref h10, .ref h11, .ref h12, .ref h13, .ref h14, .ref h15, .ref h16, .ref h17, .ref h18, .long 0, .int 0, .int 2, .int 0, .int 0, .int 0, .int 0, .int 0, .int 0])), (h2, .inr (2, [.int 0, .ref g.1, .int 0])), (h1, .inr (2, [.int 0, .ref g.1, .int 0])), (h5, .inl (cA 1, 512, .inr (.inl (fun _ => 0))))] (fun q => some (.int 0)) (fun q => [(h0, .inr (15, [.ref h1, .ref h2, .ref h3, .ref h4, .ref h5, .ref h6, .ref h7, .ref h8, .ref h9, .ref h10, .ref h11, .ref h12, .ref h13, .ref h14, .ref h15, .ref h16, .ref h17, .ref h18, .long 1, .int 2, .int 2, .int 0, .int 1, .int 0, .int 0, .int 0, .int 46])), (h2, .inr (2, [.int 0, .ref g.1, .int 0])), (h1, .inr (2, [.int 0, .ref g.1, .int 0])), (h5, .inl (cA 1, 512, .inr (.inl (vp_updL (vp_updL (fun _ => 0) 0 0) 0 1))))]) := by
  refine CT.of (by decide +kernel) (Nat.le_of_ble_eq_true rfl) ?_
  intro p e s m args below meth c A ls hx hb hr hml hown hG hlocks hnm hA hS hP hK hD hGV hl
  have hown : s.vm.findClass RX12 = some m.cls := hown
  have hl : lv_has ls 3 [(0, .ref h0)] := hl
  have hSF : CF p m c cX12_weakest 3 s args RX12 := ⟨hx, hb, hml, hown, hG⟩
  refine lv_aload_n hx hb dX12_weakest_0 rfl (lv_at hl 0 rfl) ?_
  refine ct_V (wr := []) hSF hl.1 hP hD hS hA hK hGV (c164_X12_stands l hfl D cA g h0 h1 h2 h3 h4 h5 h6 h7 h8 h9 h10 h11 h12 h13 h14 h15 h16 h17 h18) goV_X12_320 pd_X12_stands ⟨(Nat.le_of_ble_eq_true rfl), (Nat.le_of_ble_eq_true rfl)⟩ ⟨(Nat.le_of_ble_eq_true rfl), (Nat.le_of_ble_eq_true rfl)⟩ (va_recv hK hP (ci := 15) (q0 := 0) rfl rfl) dX12_weakest_1 rfl (Nat.le_of_ble_eq_true rfl) [0, 1, 2, 3] [] rfl (by decide) rfl (by decide) (by decide) (fun q => [(h0, .inr (15, [.ref h1, .ref h2, .ref h3, .ref h4, .ref h5, .ref h6, .ref h7, .ref h8, .ref h9, .ref h10, .ref h11, .ref h12, .ref h13, .ref h14, .ref h15, .ref h16, .ref h17, .ref h18, .long 1, .int 0, .int 2, .int 0, .int 1, .int 0, .int 0, .int 0, .int 46])), (h2, .inr (2, [.int 0, .ref g.1, .int 0])), (h1, .inr (2, [.int 0, .ref g.1, .int 0])), (h5, .inl (cA 1, 512, .inr (.inl (vp_updL (vp_updL (fun _ => 0) 0 0) 0 1))))]) (fun _ => rfl) (fun q1 H locs hP hD hS => ?_)
  refine W.eq (g2 := F0 m 4 ls [.int 1]) rfl ?_
  refine k_if_ne_t (tgt := 13) hx hb dX12_weakest_4 (by decide) (by decide) ?_
  refine lv_iconst (v := (-1)) hx hb dX12_weakest_13 (by decide) ?_
  refine lv_istore_n (lv' := [(1, .int (-1)), (0, .ref h0)]) hx hb dX12_weakest_14 rfl hl (by decide) rfl (fun ls hl => ?_)
  refine lv_iconst (v := 0) hx hb dX12_weakest_15 (by decide) ?_
  refine lv_istore_n (lv' := [(2, .int 0), (1, .int (-1)), (0, .ref h0)]) hx hb dX12_weakest_16 rfl hl (by decide) rfl (fun ls hl => ?_)
  refine lv_iload_n hx hb dX12_weakest_17 rfl (lv_at hl 0 rfl) ?_
  refine lv_aload_n hx hb dX12_weakest_18 rfl (lv_at hl 2 rfl) ?_
  refine k_get (ci := 15) (C := RX12) (T := TX12) (N := 27) (v := .ref h2) hx hb hG inX12 hown hK hP 0 rfl rfl 1 (by decide) gw1220 rfl dX12_weakest_19 ?_
  refine ct_V (wr := [(h0, .inr (15, [.ref h1, .ref h2, .ref h3, .ref h4, .ref h5, .ref h6, .ref h7, .ref h8, .ref h9, .ref h10, .ref h11, .ref h12, .ref h13, .ref h14, .ref h15, .ref h16, .ref h17, .ref h18, .long 1, .int 0, .int 2, .int 0, .int 1, .int 0, .int 0, .int 0, .int 46])), (h1, .inr (2, [.int 0, .ref g.1, .int 0])), (h5, .inl (cA 1, 512, .inr (.inl (vp_updL (vp_updL (fun _ => 0) 0 0) 0 1))))]) hSF hl.1 hP hD hS hA hK hGV (c56_Jx4a65c_size_8abf5 l hfl D cA g h2) goV_X12_125 pd_Jx4a65c_size_8abf5 ⟨(Nat.le_of_ble_eq_true rfl), (Nat.le_of_ble_eq_true rfl)⟩ ⟨(Nat.le_of_ble_eq_true rfl), (Nat.le_of_ble_eq_true rfl)⟩ (va_recv hK hP (ci := 2) (q0 := 1) rfl rfl) dX12_weakest_22 rfl (Nat.le_of_ble_eq_true rfl) [1] [0, 2, 3] rfl (by decide) rfl (by decide) (by decide) (fun q => [(h0, .inr (15, [.ref h1, .ref h2, .ref h3, .ref h4, .ref h5, .ref h6, .ref h7, .ref h8, .ref h9, .ref h10, .ref h11, .ref h12, .ref h13, .ref h14, .ref h15, .ref h16, .ref h17, .ref h18, .long 1, .int 0, .int 2, .int 0, .int 1, .int 0, .int 0, .int 0, .int 46])), (h1, .inr (2, [.int 0, .ref g.1, .int 0])), (h5, .inl (cA 1, 512, .inr (.inl (vp_updL (vp_updL (fun _ => 0) 0 0) 0 1)))), (h2, .inr (2, [.int 0, .ref g.1, .int 0]))]) (fun _ => rfl) (fun q2 H locs hP hD hS => ?_)
  refine W.eq (g2 := F0 m 25 ls [.int 0, .int 0]) rfl ?_
  refine k_icmp_ge_t (tgt := 61) hx hb dX12_weakest_25 (by decide) (by decide) ?_
  refine lv_iload_n hx hb dX12_weakest_61 rfl (lv_at hl 1 rfl) ?_
  refine lv_iconst (v := (-1)) hx hb dX12_weakest_62 (by decide) ?_
  refine k_icmp_ne_f (tgt := 74) hx hb dX12_weakest_63 (by decide) (by decide) ?_
  refine lv_aload_n hx hb dX12_weakest_66 rfl (lv_at hl 2 rfl) ?_
  refine lv_iconst (v := 2) hx hb dX12_weakest_67 (by decide) ?_
  refine ct_V (wr := [(h1, .inr (2, [.int 0, .ref g.1, .int 0])), (h5, .inl (cA 1, 512, .inr (.inl (vp_updL (vp_updL (fun _ => 0) 0 0) 0 1)))), (h2, .inr (2, [.int 0, .ref g.1, .int 0]))]) hSF hl.1 hP hD hS hA hK hGV (c172_X12_fails l hfl D cA g h0 h1 h2 h3 h4 h5 h6 h7 h8 h9 h10 h11 h12 h13 h14 h15 h16 h17 h18) goV_X12_289 pd_X12_fails ⟨(Nat.le_of_ble_eq_true rfl), (Nat.le_of_ble_eq_true rfl)⟩ ⟨(Nat.le_of_ble_eq_true rfl), (Nat.le_of_ble_eq_true rfl)⟩ (va_recv hK hP (ci := 15) (q0 := 0) rfl rfl) dX12_weakest_68 rfl (Nat.le_of_ble_eq_true rfl) [0] [1, 2, 3] rfl (by decide) rfl (by decide) (by decide) (fun q => [(h1, .inr (2, [.int 0, .ref g.1, .int 0])), (h5, .inl (cA 1, 512, .inr (.inl (vp_updL (vp_updL (fun _ => 0) 0 0) 0 1)))), (h2, .inr (2, [.int 0, .ref g.1, .int 0])), (h0, .inr (15, [.ref h1, .ref h2, .ref h3, .ref h4, .ref h5, .ref h6, .ref h7, .ref h8, .ref h9, .ref h10, .ref h11, .ref h12, .ref h13, .ref h14, .ref h15, .ref h16, .ref h17, .ref h18, .long 1, .int 2, .int 2, .int 0, .int 1, .int 0, .int 0, .int 0, .int 46]))]) (fun _ => rfl) (fun q3 H locs hP hD hS => ?_)
  refine W.eq (g2 := F0 m 71 ls [.int 0]) rfl ?_
  refine lv_goto (tgt := 79) hx hb dX12_weakest_71 (by decide) ?_
  exact e_i (fun _ => 0) hx hb hr hlocks rfl rfl (hP.sub [3, 2, 0, 1] rfl) (hD.sub [3, 2, 0, 1] (by decide) rfl) hS (Nat.le_of_ble_eq_true rfl) (Nat.le_of_ble_eq_true rfl) dX12_weakest_79
set_option maxHeartbeats 4000000 in
set_option maxRecDepth 100000 in
theorem c174_X12_thrown (l : Launch) (hfl : l.stackTraces = false) (D : va_G) (cA : Nat → ClassId) (g : gv_T) (h0 h1 h2 h3 h4 h5 h6 h7 h8 h9 h10 h11 h12 h13 h14 h15 h16 h17 h18 : Nat) : CT l yX12_thrown cX12_thrown 1 (some .int) (RM 0 0 0 0) D cA g [.ref h0] [(h0, .inr (15, [.ref h1, .ref h2, .ref h3, .ref h4, .ref h5, .ref h6, .ref h7, .ref h8, .ref h9, .ref h10, .ref h11, .ref h12, .ref h13, .ref h14, .ref h15, .ref h16, .ref h17, .ref h18, .long 1, .int 2, .int 2, .int 0, .int 1, .int 0, .int 0, .int 0, .int 46]))] (fun q => some (.int 2)) (fun q => [(h0, .inr (15, [.ref h1, .ref h2, .ref h3, .ref h4, .ref h5, .ref h6, .ref h7, .ref h8, .ref h9, .ref h10, .ref h11, .ref h12, .ref h13, .ref h14, .ref h15, .ref h16, .ref h17, .ref h18, .long 1, .int 2, .int 2, .int 0, .int 1, .int 0, .int 0, .int 0, .int 46]))]) := by
  refine CT.of (by decide +kernel) (Nat.le_of_ble_eq_true rfl) ?_
  intro p e s m args below meth c A ls hx hb hr hml hown hG hlocks hnm hA hS hP hK hD hGV hl
  have hown : s.vm.findClass RX12 = some m.cls := hown
  have hl : lv_has ls 1 [(0, .ref h0)] := hl
  have hSF : CF p m c cX12_thrown 1 s args RX12 := ⟨hx, hb, hml, hown, hG⟩
  refine lv_aload_n hx hb dX12_thrown_0 rfl (lv_at hl 0 rfl) ?_
  refine k_get (ci := 15) (C := RX12) (T := TX12) (N := 27) (v := .int 2) hx hb hG inX12 hown hK hP 0 rfl rfl 19 (by decide) gw1238 rfl dX12_thrown_1 ?_
  exact e_i (fun _ => 0) hx hb hr hlocks rfl rfl hP hD hS (Nat.le_of_ble_eq_true rfl) (Nat.le_of_ble_eq_true rfl) dX12_thrown_4
set_option maxHeartbeats 4000000 in
set_option maxRecDepth 100000 in
theorem c175_X6_joint (l : Launch) (hfl : l.stackTraces = false) (D : va_G) (cA : Nat → ClassId) (g : gv_T) (h0 h1 h2 h3 h4 h5 : Nat) (p0 : Int32) (p1 : Int32) (p2 : Int32) (p3 : Int32) (p4 : Int32) (k0 : p0 < 0) : CX l yX6_joint cX6_joint 6 (some .int) (RM 7 1 6 116) D cA g [.ref h0, .int p0, .int p1, .int p2, .int p3, .int p4] [(h0, .inr (9, [.ref h1, .ref h2, .ref h3, .ref h4, .ref h5]))] "java/lang/IndexOutOfBoundsException" (fun q => [(h0, .inr (9, [.ref h1, .ref h2, .ref h3, .ref h4, .ref h5]))]) := by
  refine CX.of (by decide +kernel) (Nat.le_of_ble_eq_true rfl) ?_
  intro p e s m args below meth c A ls hx hb hr hml hown hG hlocks htab hA hS hP hK hD hGV hl
  have hown : s.vm.findClass RX6 = some m.cls := hown
  have hl : lv_has ls 6 [(0, .ref h0), (1, .int p0), (2, .int p1), (3, .int p2), (4, .int p3), (5, .int p4)] := hl
  have hSF : CF p m c cX6_joint 6 s args RX6 := ⟨hx, hb, hml, hown, hG⟩
  refine lv_aload_n hx hb dX6_joint_0 rfl (lv_at hl 0 rfl) ?_
  refine lv_iload_n hx hb dX6_joint_1 rfl (lv_at hl 1 rfl) ?_
  refine cx_V (wr := [(h0, .inr (9, [.ref h1, .ref h2, .ref h3, .ref h4, .ref h5]))]) hSF hl.1 hP hD hS hA hK hGV (c122_X6_checkMember l hfl D cA g h0 (p0) k0) goV_X6_118 pd_X6_checkMember ⟨(Nat.le_of_ble_eq_true rfl), (Nat.le_of_ble_eq_true rfl)⟩ ⟨(Nat.le_of_ble_eq_true rfl), (Nat.le_of_ble_eq_true rfl)⟩ (va_recv hK hP (ci := 9) (q0 := 0) rfl rfl) dX6_joint_2 rfl (Nat.le_of_ble_eq_true rfl) [] [0] rfl (by decide) rfl (by decide) (by decide) (fun q => [(h0, .inr (9, [.ref h1, .ref h2, .ref h3, .ref h4, .ref h5]))]) (fun _ => rfl) (fun q1 H locs x9 ce9 hP hD hS h9 hv9 hcl9 => ?_)
  exact e_out (fun _ => 0) htab hlocks h9 hv9 hcl9 hP hD hS (Nat.le_of_ble_eq_true rfl) (Nat.le_of_ble_eq_true rfl)
set_option maxHeartbeats 4000000 in
set_option maxRecDepth 100000 in
theorem c176_L_joint (l : Launch) (hfl : l.stackTraces = false) (D : va_G) (cA : Nat → ClassId) (g : gv_T) (h0 h1 h2 h3 h4 h5 h6 : Nat) (p0 : Int32) (p1 : Int32) (p2 : Int32) (p3 : Int32) (p4 : Int32) (k0 : p0 < 0) : CW l yL_joint cL_joint 8 (some .int) [(0, 16, 19, 21), (0, 16, 23, 13), (0, 16, 27, 52), (0, 16, 31, 15)] (RM 8 1 6 141) D cA g [.ref h0, .int p0, .int p1, .int p2, .int p3, .int p4, .ref h1] [(h0, .inr (9, [.ref h2, .ref h3, .ref h4, .ref h5, .ref h6]))] (fun q => some (.int 1)) (fun q => [(h0, .inr (9, [.ref h2, .ref h3, .ref h4, .ref h5, .ref h6]))]) := by
  refine CW.of (by decide +kernel) (Nat.le_of_ble_eq_true rfl) ?_
  intro p e s m args below meth c A ls hx hb hr hml hown hG hlocks htab hA hS hP hK hD hGV hl
  have hown : s.vm.findClass RL = some m.cls := hown
  have hl : lv_has ls 8 [(0, .ref h0), (1, .int p0), (2, .int p1), (3, .int p2), (4, .int p3), (5, .int p4), (6, .ref h1)] := hl
  have hSF : CF p m c cL_joint 8 s args RL := ⟨hx, hb, hml, hown, hG⟩
  refine lv_aload hx hb dL_joint_0 (lv_at hl 6 rfl) ?_
  refine lv_iconst (v := 0) hx hb dL_joint_2 (by decide) ?_
  refine lv_aload_n hx hb dL_joint_3 rfl (lv_at hl 0 rfl) ?_
  refine lv_iload_n hx hb dL_joint_4 rfl (lv_at hl 1 rfl) ?_
  refine lv_iload_n hx hb dL_joint_5 rfl (lv_at hl 2 rfl) ?_
  refine lv_iload_n hx hb dL_joint_6 rfl (lv_at hl 3 rfl) ?_
  refine lv_iload hx hb dL_joint_7 (lv_at hl 4 rfl) ?_
  refine lv_iload hx hb dL_joint_9 (lv_at hl 5 rfl) ?_
  refine cx_V (wr := []) hSF hl.1 hP hD hS hA hK hGV (c175_X6_joint l hfl D cA g h0 h2 h3 h4 h5 h6 (p0) (p1) (p2) (p3) (p4) k0) goV_L_48 pd_X6_joint ⟨(Nat.le_of_ble_eq_true rfl), (Nat.le_of_ble_eq_true rfl)⟩ ⟨(Nat.le_of_ble_eq_true rfl), (Nat.le_of_ble_eq_true rfl)⟩ (va_recv hK hP (ci := 9) (q0 := 0) rfl rfl) dL_joint_11 rfl (Nat.le_of_ble_eq_true rfl) [0] [] rfl (by decide) rfl (by decide) (by decide) (fun q => [(h0, .inr (9, [.ref h2, .ref h3, .ref h4, .ref h5, .ref h6]))]) (fun _ => rfl) (fun q1 H locs x9 ce9 hP hD hS h9 hv9 hcl9 => ?_)
  refine vx_catch (own := RL) (name := "java/lang/IndexOutOfBoundsException") hown [] { startPc := 0, endPc := 16, handlerPc := 19, catchType := 21 } [{ startPc := 0, endPc := 16, handlerPc := 23, catchType := 13 }, { startPc := 0, endPc := 16, handlerPc := 27, catchType := 52 }, { startPc := 0, endPc := 16, handlerPc := 31, catchType := 15 }] (htab.trans rfl) (fun z hz => nomatch hz) rfl (by decide) (hG _ gw763) (va_Nw.use rfl (hGV.2.2.2.2.1 _ gw797)) h9 hv9 hcl9 ?_
  refine W.eq (g2 := F0 m 19 ls [.ref x9]) rfl ?_
  refine lv_astore (lv' := [(7, .ref x9), (0, .ref h0), (1, .int p0), (2, .int p1), (3, .int p2), (4, .int p3), (5, .int p4), (6, .ref h1)]) hx hb dL_joint_19 hl (by decide) rfl (fun ls hl => ?_)
  refine lv_iconst (v := 1) hx hb dL_joint_21 (by decide) ?_
  exact e_i (fun _ => 0) hx hb hr hlocks rfl rfl hP hD hS (Nat.le_of_ble_eq_true rfl) (Nat.le_of_ble_eq_true rfl) dL_joint_22
set_option maxHeartbeats 4000000 in
set_option maxRecDepth 100000 in
theorem c177_X12_joint (l : Launch) (hfl : l.stackTraces = false) (D : va_G) (cA : Nat → ClassId) (g : gv_T) (h0 h1 h2 h3 h4 h5 h6 h7 h8 h9 h10 h11 h12 h13 h14 h15 h16 h17 h18 : Nat) (p0 : Int32) (p1 : Int32) (p2 : Int32) (p3 : Int32) (p4 : Int32) (k0 : (lg_cmp p0.toInt64 0) < 0) : CT l yX12_joint cX12_joint 9 (some .int) (RM 2 0 0 44) D cA g [.ref h0, .int p0, .int p1, .int p2, .int p3, .int p4] [(h0, .inr (15, [.ref h1, .ref h2, .ref h3, .ref h4, .ref h5, .ref h6, .ref h7, .ref h8, .ref h9, .ref h10, .ref h11, .ref h12, .ref h13, .ref h14, .ref h15, .ref h16, .ref h17, .ref h18, .long 0, .int 0, .int 2, .int 0, .int 0, .int 0, .int 0, .int 0, .int 0])), (h2, .inr (2, [.int 0, .ref g.1, .int 0]))] (fun q => some (.int 0)) (fun q => [(h0, .inr (15, [.ref h1, .ref h2, .ref h3, .ref h4, .ref h5, .ref h6, .ref h7, .ref h8, .ref h9, .ref h10, .ref h11, .ref h12, .ref h13, .ref h14, .ref h15, .ref h16, .ref h17, .ref h18, .long 0, .int 1, .int 2, .int 0, .int 0, .int 0, .int 0, .int 0, .int 0])), (h2, .inr (2, [.int 0, .ref g.1, .int 0]))]) := by
  refine CT.of (by decide +kernel) (Nat.le_of_ble_eq_true rfl) ?_
  intro p e s m args below meth c A ls hx hb hr hml hown hG hlocks hnm hA hS hP hK hD hGV hl
  have hown : s.vm.findClass RX12 = some m.cls := hown
  have hl : lv_has ls 9 [(0, .ref h0), (1, .int p0), (2, .int p1), (3, .int p2), (4, .int p3), (5, .int p4)] := hl
  have hSF : CF p m c cX12_joint 9 s args RX12 := ⟨hx, hb, hml, hown, hG⟩
  refine lv_aload_n hx hb dX12_joint_0 rfl (lv_at hl 0 rfl) ?_
  refine lv_iload_n hx hb dX12_joint_1 rfl (lv_at hl 1 rfl) ?_
  refine ct_V (wr := []) hSF hl.1 hP hD hS hA hK hGV (c125_X12_isMember l hfl D cA g h0 h1 h2 h3 h4 h5 h6 h7 h8 h9 h10 h11 h12 h13 h14 h15 h16 h17 h18 (p0) k0) goV_X12_314 pd_X12_isMember ⟨(Nat.le_of_ble_eq_true rfl), (Nat.le_of_ble_eq_true rfl)⟩ ⟨(Nat.le_of_ble_eq_true rfl), (Nat.le_of_ble_eq_true rfl)⟩ (va_recv hK hP (ci := 15) (q0 := 0) rfl rfl) dX12_joint_2 rfl (Nat.le_of_ble_eq_true rfl) [0, 1] [] rfl (by decide) rfl (by decide) (by decide) (fun q => [(h0, .inr (15, [.ref h1, .ref h2, .ref h3, .ref h4, .ref h5, .ref h6, .ref h7, .ref h8, .ref h9, .ref h10, .ref h11, .ref h12, .ref h13, .ref h14, .ref h15, .ref h16, .ref h17, .ref h18, .long 0, .int 0, .int 2, .int 0, .int 0, .int 0, .int 0, .int 0, .int 0])), (h2, .inr (2, [.int 0, .ref g.1, .int 0]))]) (fun _ => rfl) (fun q1 H locs hP hD hS => ?_)
  refine W.eq (g2 := F0 m 5 ls [.int 0]) rfl ?_
  refine k_if_eq_t (tgt := 16) hx hb dX12_joint_5 (by decide) (by decide) ?_
  refine lv_aload_n hx hb dX12_joint_16 rfl (lv_at hl 0 rfl) ?_
  refine lv_iconst (v := 1) hx hb dX12_joint_17 (by decide) ?_
  refine ct_V (wr := [(h2, .inr (2, [.int 0, .ref g.1, .int 0]))]) hSF hl.1 hP hD hS hA hK hGV (c15_X12_fails l hfl D cA g h0 h1 h2 h3 h4 h5 h6 h7 h8 h9 h10 h11 h12 h13 h14 h15 h16 h17 h18) goV_X12_289 pd_X12_fails ⟨(Nat.le_of_ble_eq_true rfl), (Nat.le_of_ble_eq_true rfl)⟩ ⟨(Nat.le_of_ble_eq_true rfl), (Nat.le_of_ble_eq_true rfl)⟩ (va_recv hK hP (ci := 15) (q0 := 0) rfl rfl) dX12_joint_18 rfl (Nat.le_of_ble_eq_true rfl) [0] [1] rfl (by decide) rfl (by decide) (by decide) (fun q => [(h2, .inr (2, [.int 0, .ref g.1, .int 0])), (h0, .inr (15, [.ref h1, .ref h2, .ref h3, .ref h4, .ref h5, .ref h6, .ref h7, .ref h8, .ref h9, .ref h10, .ref h11, .ref h12, .ref h13, .ref h14, .ref h15, .ref h16, .ref h17, .ref h18, .long 0, .int 1, .int 2, .int 0, .int 0, .int 0, .int 0, .int 0, .int 0]))]) (fun _ => rfl) (fun q2 H locs hP hD hS => ?_)
  refine W.eq (g2 := F0 m 21 ls [.int 0]) rfl ?_
  exact e_i (fun _ => 0) hx hb hr hlocks rfl rfl (hP.sub [1, 0] rfl) (hD.sub [1, 0] (by decide) rfl) hS (Nat.le_of_ble_eq_true rfl) (Nat.le_of_ble_eq_true rfl) dX12_joint_21
set_option maxHeartbeats 4000000 in
set_option maxRecDepth 100000 in
theorem c178_X6_joint (l : Launch) (hfl : l.stackTraces = false) (D : va_G) (cA : Nat → ClassId) (g : gv_T) (h0 h1 h2 h3 h4 h5 h6 h7 h8 h9 h10 h11 h12 h13 h14 h15 : Nat) (p0 : Int32) (p1 : Int32) (p2 : Int32) (p3 : Int32) (p4 : Int32) (k0 : ¬ p0 < 0) : CX l yX6_joint cX6_joint 6 (some .int) (RM 7 1 6 116) D cA g [.ref h0, .int p0, .int p1, .int p2, .int p3, .int p4] [(h0, .inr (9, [.ref h1, .ref h2, .ref h3, .ref h4, .ref h5])), (h1, .inr (5, [.int 0, .int 0, .ref h6, .ref h7, .ref h8, .ref h9, .ref h10, .ref h11, .ref h12, .ref h13, .ref h14, .ref h15]))] "java/lang/IndexOutOfBoundsException" (fun q => [(h0, .inr (9, [.ref h1, .ref h2, .ref h3, .ref h4, .ref h5])), (h1, .inr (5, [.int 0, .int 0, .ref h6, .ref h7, .ref h8, .ref h9, .ref h10, .ref h11, .ref h12, .ref h13, .ref h14, .ref h15]))]) := by
  refine CX.of (by decide +kernel) (Nat.le_of_ble_eq_true rfl) ?_
  intro p e s m args below meth c A ls hx hb hr hml hown hG hlocks htab hA hS hP hK hD hGV hl
  have hown : s.vm.findClass RX6 = some m.cls := hown
  have hl : lv_has ls 6 [(0, .ref h0), (1, .int p0), (2, .int p1), (3, .int p2), (4, .int p3), (5, .int p4)] := hl
  have hSF : CF p m c cX6_joint 6 s args RX6 := ⟨hx, hb, hml, hown, hG⟩
  refine lv_aload_n hx hb dX6_joint_0 rfl (lv_at hl 0 rfl) ?_
  refine lv_iload_n hx hb dX6_joint_1 rfl (lv_at hl 1 rfl) ?_
  refine cx_V (wr := []) hSF hl.1 hP hD hS hA hK hGV (c128_X6_checkMember l hfl D cA g h0 h1 h2 h3 h4 h5 h6 h7 h8 h9 h10 h11 h12 h13 h14 h15 (p0) k0) goV_X6_118 pd_X6_checkMember ⟨(Nat.le_of_ble_eq_true rfl), (Nat.le_of_ble_eq_true rfl)⟩ ⟨(Nat.le_of_ble_eq_true rfl), (Nat.le_of_ble_eq_true rfl)⟩ (va_recv hK hP (ci := 9) (q0 := 0) rfl rfl) dX6_joint_2 rfl (Nat.le_of_ble_eq_true rfl) [0, 1] [] rfl (by decide) rfl (by decide) (by decide) (fun q => [(h0, .inr (9, [.ref h1, .ref h2, .ref h3, .ref h4, .ref h5])), (h1, .inr (5, [.int 0, .int 0, .ref h6, .ref h7, .ref h8, .ref h9, .ref h10, .ref h11, .ref h12, .ref h13, .ref h14, .ref h15]))]) (fun _ => rfl) (fun q1 H locs x9 ce9 hP hD hS h9 hv9 hcl9 => ?_)
  exact e_out (fun _ => 0) htab hlocks h9 hv9 hcl9 hP hD hS (Nat.le_of_ble_eq_true rfl) (Nat.le_of_ble_eq_true rfl)
set_option maxHeartbeats 4000000 in
set_option maxRecDepth 100000 in
theorem c179_L_joint (l : Launch) (hfl : l.stackTraces = false) (D : va_G) (cA : Nat → ClassId) (g : gv_T) (h0 h1 h2 h3 h4 h5 h6 h7 h8 h9 h10 h11 h12 h13 h14 h15 h16 : Nat) (p0 : Int32) (p1 : Int32) (p2 : Int32) (p3 : Int32) (p4 : Int32) (k0 : ¬ p0 < 0) : CW l yL_joint cL_joint 8 (some .int) [(0, 16, 19, 21), (0, 16, 23, 13), (0, 16, 27, 52), (0, 16, 31, 15)] (RM 8 1 6 141) D cA g [.ref h0, .int p0, .int p1, .int p2, .int p3, .int p4, .ref h1] [(h0, .inr (9, [.ref h2, .ref h3, .ref h4, .ref h5, .ref h6])), (h2, .inr (5, [.int 0, .int 0, .ref h7, .ref h8, .ref h9, .ref h10, .ref h11, .ref h12, .ref h13, .ref h14, .ref h15, .ref h16]))] (fun q => some (.int 1)) (fun q => [(h0, .inr (9, [.ref h2, .ref h3, .ref h4, .ref h5, .ref h6])), (h2, .inr (5, [.int 0, .int 0, .ref h7, .ref h8, .ref h9, .ref h10, .ref h11, .ref h12, .ref h13, .ref h14, .ref h15, .ref h16]))]) := by
  refine CW.of (by decide +kernel) (Nat.le_of_ble_eq_true rfl) ?_
  intro p e s m args below meth c A ls hx hb hr hml hown hG hlocks htab hA hS hP hK hD hGV hl
  have hown : s.vm.findClass RL = some m.cls := hown
  have hl : lv_has ls 8 [(0, .ref h0), (1, .int p0), (2, .int p1), (3, .int p2), (4, .int p3), (5, .int p4), (6, .ref h1)] := hl
  have hSF : CF p m c cL_joint 8 s args RL := ⟨hx, hb, hml, hown, hG⟩
  refine lv_aload hx hb dL_joint_0 (lv_at hl 6 rfl) ?_
  refine lv_iconst (v := 0) hx hb dL_joint_2 (by decide) ?_
  refine lv_aload_n hx hb dL_joint_3 rfl (lv_at hl 0 rfl) ?_
  refine lv_iload_n hx hb dL_joint_4 rfl (lv_at hl 1 rfl) ?_
  refine lv_iload_n hx hb dL_joint_5 rfl (lv_at hl 2 rfl) ?_
  refine lv_iload_n hx hb dL_joint_6 rfl (lv_at hl 3 rfl) ?_
  refine lv_iload hx hb dL_joint_7 (lv_at hl 4 rfl) ?_
  refine lv_iload hx hb dL_joint_9 (lv_at hl 5 rfl) ?_
  refine cx_V (wr := []) hSF hl.1 hP hD hS hA hK hGV (c178_X6_joint l hfl D cA g h0 h2 h3 h4 h5 h6 h7 h8 h9 h10 h11 h12 h13 h14 h15 h16 (p0) (p1) (p2) (p3) (p4) k0) goV_L_48 pd_X6_joint ⟨(Nat.le_of_ble_eq_true rfl), (Nat.le_of_ble_eq_true rfl)⟩ ⟨(Nat.le_of_ble_eq_true rfl), (Nat.le_of_ble_eq_true rfl)⟩ (va_recv hK hP (ci := 9) (q0 := 0) rfl rfl) dL_joint_11 rfl (Nat.le_of_ble_eq_true rfl) [0, 1] [] rfl (by decide) rfl (by decide) (by decide) (fun q => [(h0, .inr (9, [.ref h2, .ref h3, .ref h4, .ref h5, .ref h6])), (h2, .inr (5, [.int 0, .int 0, .ref h7, .ref h8, .ref h9, .ref h10, .ref h11, .ref h12, .ref h13, .ref h14, .ref h15, .ref h16]))]) (fun _ => rfl) (fun q1 H locs x9 ce9 hP hD hS h9 hv9 hcl9 => ?_)
  refine vx_catch (own := RL) (name := "java/lang/IndexOutOfBoundsException") hown [] { startPc := 0, endPc := 16, handlerPc := 19, catchType := 21 } [{ startPc := 0, endPc := 16, handlerPc := 23, catchType := 13 }, { startPc := 0, endPc := 16, handlerPc := 27, catchType := 52 }, { startPc := 0, endPc := 16, handlerPc := 31, catchType := 15 }] (htab.trans rfl) (fun z hz => nomatch hz) rfl (by decide) (hG _ gw763) (va_Nw.use rfl (hGV.2.2.2.2.1 _ gw797)) h9 hv9 hcl9 ?_
  refine W.eq (g2 := F0 m 19 ls [.ref x9]) rfl ?_
  refine lv_astore (lv' := [(7, .ref x9), (0, .ref h0), (1, .int p0), (2, .int p1), (3, .int p2), (4, .int p3), (5, .int p4), (6, .ref h1)]) hx hb dL_joint_19 hl (by decide) rfl (fun ls hl => ?_)
  refine lv_iconst (v := 1) hx hb dL_joint_21 (by decide) ?_
  exact e_i (fun _ => 0) hx hb hr hlocks rfl rfl hP hD hS (Nat.le_of_ble_eq_true rfl) (Nat.le_of_ble_eq_true rfl) dL_joint_22
set_option maxHeartbeats 4000000 in
set_option maxRecDepth 100000 in
theorem c180_X12_joint (l : Launch) (hfl : l.stackTraces = false) (D : va_G) (cA : Nat → ClassId) (g : gv_T) (h0 h1 h2 h3 h4 h5 h6 h7 h8 h9 h10 h11 h12 h13 h14 h15 h16 h17 h18 : Nat) (p0 : Int32) (p1 : Int32) (p2 : Int32) (p3 : Int32) (p4 : Int32) (k0 : ¬ (lg_cmp p0.toInt64 0) < 0) (k1 : 0 < (lg_cmp p0.toInt64 (-1))) : CT l yX12_joint cX12_joint 9 (some .int) (RM 2 0 0 44) D cA g [.ref h0, .int p0, .int p1, .int p2, .int p3, .int p4] [(h0, .inr (15, [.ref h1, .ref h2, .ref h3, .ref h4, .ref h5, .ref h6, .ref h7, .ref h8, .ref h9, .ref h10, .ref h11, .ref h12, .ref h13, .ref h14, .ref h15, .ref h16, .ref h17, .ref h18, .long 0, .int 0, .int 2, .int 0, .int 0, .int 0, .int 0, .int 0, .int 0])), (h2, .inr (2, [.int 0, .ref g.1, .int 0]))] (fun q => some (.int 0)) (fun q => [(h0, .inr (15, [.ref h1, .ref h2, .ref h3, .ref h4, .ref h5, .ref h6, .ref h7, .ref h8, .ref h9, .ref h10, .ref h11, .ref h12, .ref h13, .ref h14, .ref h15, .ref h16, .ref h17, .ref h18, .long 0, .int 1, .int 2, .int 0, .int 0, .int 0, .int 0, .int 0, .int 0])), (h2, .inr (2, [.int 0, .ref g.1, .int 0]))]) := by
  refine CT.of (by decide +kernel) (Nat.le_of_ble_eq_true rfl) ?_
  intro p e s m args below meth c A ls hx hb hr hml hown hG hlocks hnm hA hS hP hK hD hGV hl
  have hown : s.vm.findClass RX12 = some m.cls := hown
  have hl : lv_has ls 9 [(0, .ref h0), (1, .int p0), (2, .int p1), (3, .int p2), (4, .int p3), (5, .int p4)] := hl
  have hSF : CF p m c cX12_joint 9 s args RX12 := ⟨hx, hb, hml, hown, hG⟩
  refine lv_aload_n hx hb dX12_joint_0 rfl (lv_at hl 0 rfl) ?_
  refine lv_iload_n hx hb dX12_joint_1 rfl (lv_at hl 1 rfl) ?_
  refine ct_V (wr := []) hSF hl.1 hP hD hS hA hK hGV (c131_X12_isMember l hfl D cA g h0 h1 h2 h3 h4 h5 h6 h7 h8 h9 h10 h11 h12 h13 h14 h15 h16 h17 h18 (p0) k0 k1) goV_X12_314 pd_X12_isMember ⟨(Nat.le_of_ble_eq_true rfl), (Nat.le_of_ble_eq_true rfl)⟩ ⟨(Nat.le_of_ble_eq_true rfl), (Nat.le_of_ble_eq_true rfl)⟩ (va_recv hK hP (ci := 15) (q0 := 0) rfl rfl) dX12_joint_2 rfl (Nat.le_of_ble_eq_true rfl) [0, 1] [] rfl (by decide) rfl (by decide) (by decide) (fun q => [(h0, .inr (15, [.ref h1, .ref h2, .ref h3, .ref h4, .ref h5, .ref h6, .ref h7, .ref h8, .ref h9, .ref h10, .ref h11, .ref h12, .ref h13, .ref h14, .ref h15, .ref h16, .ref h17, .ref h18, .long 0, .int 0, .int 2, .int 0, .int 0, .int 0, .int 0, .int 0, .int 0])), (h2, .inr (2, [.int 0, .ref g.1, .int 0]))]) (fun _ => rfl) (fun q1 H locs hP hD hS => ?_)
  refine W.eq (g2 := F0 m 5 ls [.int 0]) rfl ?_
  refine k_if_eq_t (tgt := 16) hx hb dX12_joint_5 (by decide) (by decide) ?_
  refine lv_aload_n hx hb dX12_joint_16 rfl (lv_at hl 0 rfl) ?_
  refine lv_iconst (v := 1) hx hb dX12_joint_17 (by decide) ?_
  refine ct_V (wr := [(h2, .inr (2, [.int 0, .ref g.1, .int 0]))]) hSF hl.1 hP hD hS hA hK hGV (c15_X12_fails l hfl D cA g h0 h1 h2 h3 h4 h5 h6 h7 h8 h9 h10 h11 h12 h13 h14 h15 h16 h17 h18) goV_X12_289 pd_X12_fails ⟨(Nat.le_of_ble_eq_true rfl), (Nat.le_of_ble_eq_true rfl)⟩ ⟨(Nat.le_of_ble_eq_true rfl), (Nat.le_of_ble_eq_true rfl)⟩ (va_recv hK hP (ci := 15) (q0 := 0) rfl rfl) dX12_joint_18 rfl (Nat.le_of_ble_eq_true rfl) [0] [1] rfl (by decide) rfl (by decide) (by decide) (fun q => [(h2, .inr (2, [.int 0, .ref g.1, .int 0])), (h0, .inr (15, [.ref h1, .ref h2, .ref h3, .ref h4, .ref h5, .ref h6, .ref h7, .ref h8, .ref h9, .ref h10, .ref h11, .ref h12, .ref h13, .ref h14, .ref h15, .ref h16, .ref h17, .ref h18, .long 0, .int 1, .int 2, .int 0, .int 0, .int 0, .int 0, .int 0, .int 0]))]) (fun _ => rfl) (fun q2 H locs hP hD hS => ?_)
  refine W.eq (g2 := F0 m 21 ls [.int 0]) rfl ?_
  exact e_i (fun _ => 0) hx hb hr hlocks rfl rfl (hP.sub [1, 0] rfl) (hD.sub [1, 0] (by decide) rfl) hS (Nat.le_of_ble_eq_true rfl) (Nat.le_of_ble_eq_true rfl) dX12_joint_21
set_option maxHeartbeats 4000000 in
set_option maxRecDepth 100000 in
theorem c181_X6_checkJoint (l : Launch) (hfl : l.stackTraces = false) (D : va_G) (cA : Nat → ClassId) (g : gv_T) (h0 : Nat) (p0 : Int32) (k0 : p0 < 0) : CX l yX6_checkJoint cX6_checkJoint 2 none (RM 6 1 6 95) D cA g [.ref h0, .int p0] [] "java/lang/IndexOutOfBoundsException" (fun q => []) := by
  refine CX.of (by decide +kernel) (Nat.le_of_ble_eq_true rfl) ?_
  intro p e s m args below meth c A ls hx hb hr hml hown hG hlocks htab hA hS hP hK hD hGV hl
  have hown : s.vm.findClass RX6 = some m.cls := hown
  have hl : lv_has ls 2 [(0, .ref h0), (1, .int p0)] := hl
  have hSF : CF p m c cX6_checkJoint 2 s args RX6 := ⟨hx, hb, hml, hown, hG⟩
  refine lv_iload_n hx hb dX6_checkJoint_0 rfl (lv_at hl 1 rfl) ?_
  refine k_if_lt_t (tgt := 15) hx hb dX6_checkJoint_1 k0 (by decide) ?_
  exact e_throwW (fun _ => 0) (names := ["java/lang/RuntimeException", "java/lang/Exception"]) 15 hx hb hfl hown hG hGV htab hlocks (hl.1.trans hml.symm) (by decide +kernel) (by decide +kernel) gw795 gw101 rfl xat_X6_232 hP hD hS dX6_checkJoint_15 dX6_checkJoint_18 dX6_checkJoint_19 dX6_checkJoint_22 dX6_checkJoint_25 (Nat.le_of_ble_eq_true rfl) (Nat.le_of_ble_eq_true rfl) (Nat.le_of_ble_eq_true rfl) (Nat.le_of_ble_eq_true rfl) (Nat.le_of_ble_eq_true rfl) (Nat.le_of_ble_eq_true rfl)
set_option maxHeartbeats 4000000 in
set_option maxRecDepth 100000 in
theorem c182_X6_isRight (l : Launch) (hfl : l.stackTraces = false) (D : va_G) (cA : Nat → ClassId) (g : gv_T) (h0 h1 h2 h3 h4 h5 : Nat) (p0 : Int32) (k0 : p0 < 0) : CX l yX6_isRight cX6_isRight 2 (some .boolean) (RM 7 1 6 116) D cA g [.ref h0, .int p0] [(h0, .inr (9, [.ref h1, .ref h2, .ref h3, .ref h4, .ref h5]))] "java/lang/IndexOutOfBoundsException" (fun q => [(h0, .inr (9, [.ref h1, .ref h2, .ref h3, .ref h4, .ref h5]))]) := by
  refine CX.of (by decide +kernel) (Nat.le_of_ble_eq_true rfl) ?_
  intro p e s m args below meth c A ls hx hb hr hml hown hG hlocks htab hA hS hP hK hD hGV hl
  have hown : s.vm.findClass RX6 = some m.cls := hown
  have hl : lv_has ls 2 [(0, .ref h0), (1, .int p0)] := hl
  have hSF : CF p m c cX6_isRight 2 s args RX6 := ⟨hx, hb, hml, hown, hG⟩
  refine lv_aload_n hx hb dX6_isRight_0 rfl (lv_at hl 0 rfl) ?_
  refine lv_iload_n hx hb dX6_isRight_1 rfl (lv_at hl 1 rfl) ?_
  refine cx_V (wr := [(h0, .inr (9, [.ref h1, .ref h2, .ref h3, .ref h4, .ref h5]))]) hSF hl.1 hP hD hS hA hK hGV (c181_X6_checkJoint l hfl D cA g h0 (p0) k0) goV_X6_179 pd_X6_checkJoint ⟨(Nat.le_of_ble_eq_true rfl), (Nat.le_of_ble_eq_true rfl)⟩ ⟨(Nat.le_of_ble_eq_true rfl), (Nat.le_of_ble_eq_true rfl)⟩ (va_recv hK hP (ci := 9) (q0 := 0) rfl rfl) dX6_isRight_2 rfl (Nat.le_of_ble_eq_true rfl) [] [0] rfl (by decide) rfl (by decide) (by decide) (fun q => [(h0, .inr (9, [.ref h1, .ref h2, .ref h3, .ref h4, .ref h5]))]) (fun _ => rfl) (fun q1 H locs x9 ce9 hP hD hS h9 hv9 hcl9 => ?_)
  exact e_out (fun _ => 0) htab hlocks h9 hv9 hcl9 hP hD hS (Nat.le_of_ble_eq_true rfl) (Nat.le_of_ble_eq_true rfl)
set_option maxHeartbeats 4000000 in
set_option maxRecDepth 100000 in
theorem c183_L_isRight (l : Launch) (hfl : l.stackTraces = false) (D : va_G) (cA : Nat → ClassId) (g : gv_T) (h0 h1 h2 h3 h4 h5 h6 : Nat) (p0 : Int32) (k0 : p0 < 0) : CW l yL_isRight cL_isRight 4 (some .int) [(0, 16, 19, 21)] (RM 8 1 6 137) D cA g [.ref h0, .int p0, .ref h1] [(h0, .inr (9, [.ref h2, .ref h3, .ref h4, .ref h5, .ref h6]))] (fun q => some (.int 1)) (fun q => [(h0, .inr (9, [.ref h2, .ref h3, .ref h4, .ref h5, .ref h6]))]) := by
  refine CW.of (by decide +kernel) (Nat.le_of_ble_eq_true rfl) ?_
  intro p e s m args below meth c A ls hx hb hr hml hown hG hlocks htab hA hS hP hK hD hGV hl
  have hown : s.vm.findClass RL = some m.cls := hown
  have hl : lv_has ls 4 [(0, .ref h0), (1, .int p0), (2, .ref h1)] := hl
  have hSF : CF p m c cL_isRight 4 s args RL := ⟨hx, hb, hml, hown, hG⟩
  refine lv_aload_n hx hb dL_isRight_0 rfl (lv_at hl 2 rfl) ?_
  refine lv_iconst (v := 0) hx hb dL_isRight_1 (by decide) ?_
  refine lv_aload_n hx hb dL_isRight_2 rfl (lv_at hl 0 rfl) ?_
  refine lv_iload_n hx hb dL_isRight_3 rfl (lv_at hl 1 rfl) ?_
  refine cx_V (wr := []) hSF hl.1 hP hD hS hA hK hGV (c182_X6_isRight l hfl D cA g h0 h2 h3 h4 h5 h6 (p0) k0) goV_L_54 pd_X6_isRight ⟨(Nat.le_of_ble_eq_true rfl), (Nat.le_of_ble_eq_true rfl)⟩ ⟨(Nat.le_of_ble_eq_true rfl), (Nat.le_of_ble_eq_true rfl)⟩ (va_recv hK hP (ci := 9) (q0 := 0) rfl rfl) dL_isRight_4 rfl (Nat.le_of_ble_eq_true rfl) [0] [] rfl (by decide) rfl (by decide) (by decide) (fun q => [(h0, .inr (9, [.ref h2, .ref h3, .ref h4, .ref h5, .ref h6]))]) (fun _ => rfl) (fun q1 H locs x9 ce9 hP hD hS h9 hv9 hcl9 => ?_)
  refine vx_catch (own := RL) (name := "java/lang/IndexOutOfBoundsException") hown [] { startPc := 0, endPc := 16, handlerPc := 19, catchType := 21 } [] (htab.trans rfl) (fun z hz => nomatch hz) rfl (by decide) (hG _ gw763) (va_Nw.use rfl (hGV.2.2.2.2.1 _ gw797)) h9 hv9 hcl9 ?_
  refine W.eq (g2 := F0 m 19 ls [.ref x9]) rfl ?_
  refine lv_astore_n (lv' := [(3, .ref x9), (0, .ref h0), (1, .int p0), (2, .ref h1)]) hx hb dL_isRight_19 rfl hl (by decide) rfl (fun ls hl => ?_)
  refine lv_iconst (v := 1) hx hb dL_isRight_20 (by decide) ?_
  exact e_i (fun _ => 0) hx hb hr hlocks rfl rfl hP hD hS (Nat.le_of_ble_eq_true rfl) (Nat.le_of_ble_eq_true rfl) dL_isRight_21
set_option maxHeartbeats 4000000 in
set_option maxRecDepth 100000 in
theorem c184_X12_isJoint (l : Launch) (hfl : l.stackTraces = false) (D : va_G) (cA : Nat → ClassId) (g : gv_T) (h0 h1 h2 h3 h4 h5 h6 h7 h8 h9 h10 h11 h12 h13 h14 h15 h16 h17 h18 : Nat) (p0 : Int32) (k0 : (lg_cmp p0.toInt64 0) < 0) : CT l yX12_isJoint cX12_isJoint 2 (some .boolean) (RM 1 0 0 23) D cA g [.ref h0, .int p0] [(h0, .inr (15, [.ref h1, .ref h2, .ref h3, .ref h4, .ref h5, .ref h6, .ref h7, .ref h8, .ref h9, .ref h10, .ref h11, .ref h12, .ref h13, .ref h14, .ref h15, .ref h16, .ref h17, .ref h18, .long 0, .int 0, .int 2, .int 0, .int 0, .int 0, .int 0, .int 0, .int 0])), (h3, .inr (2, [.int 0, .ref g.1, .int 0]))] (fun q => some (.int 0)) (fun q => [(h0, .inr (15, [.ref h1, .ref h2, .ref h3, .ref h4, .ref h5, .ref h6, .ref h7, .ref h8, .ref h9, .ref h10, .ref h11, .ref h12, .ref h13, .ref h14, .ref h15, .ref h16, .ref h17, .ref h18, .long 0, .int 0, .int 2, .int 0, .int 0, .int 0, .int 0, .int 0, .int 0])), (h3, .inr (2, [.int 0, .ref g.1, .int 0]))]) := by
  refine CT.of (by decide +kernel) (Nat.le_of_ble_eq_true rfl) ?_
  intro p e s m args below meth c A ls hx hb hr hml hown hG hlocks hnm hA hS hP hK hD hGV hl
  have hown : s.vm.findClass RX12 = some m.cls := hown
  have hl : lv_has ls 2 [(0, .ref h0), (1, .int p0)] := hl
  have hSF : CF p m c cX12_isJoint 2 s args RX12 := ⟨hx, hb, hml, hown, hG⟩
  refine lv_iload_n hx hb dX12_isJoint_0 rfl (lv_at hl 1 rfl) ?_
  refine lv_i2l (v := p0.toInt64) hx hb dX12_isJoint_1 rfl ?_
  refine lv_iconst (v := 0) hx hb dX12_isJoint_2 (by decide) ?_
  refine lv_aload_n hx hb dX12_isJoint_3 rfl (lv_at hl 0 rfl) ?_
  refine k_get (ci := 15) (C := RX12) (T := TX12) (N := 27) (v := .ref h3) hx hb hG inX12 hown hK hP 0 rfl rfl 2 (by decide) gw1221 rfl dX12_isJoint_4 ?_
  refine ct_V (wr := [(h0, .inr (15, [.ref h1, .ref h2, .ref h3, .ref h4, .ref h5, .ref h6, .ref h7, .ref h8, .ref h9, .ref h10, .ref h11, .ref h12, .ref h13, .ref h14, .ref h15, .ref h16, .ref h17, .ref h18, .long 0, .int 0, .int 2, .int 0, .int 0, .int 0, .int 0, .int 0, .int 0]))]) hSF hl.1 hP hD hS hA hK hGV (c56_Jx4a65c_size_8abf5 l hfl D cA g h3) goV_X12_125 pd_Jx4a65c_size_8abf5 ⟨(Nat.le_of_ble_eq_true rfl), (Nat.le_of_ble_eq_true rfl)⟩ ⟨(Nat.le_of_ble_eq_true rfl), (Nat.le_of_ble_eq_true rfl)⟩ (va_recv hK hP (ci := 2) (q0 := 1) rfl rfl) dX12_isJoint_7 rfl (Nat.le_of_ble_eq_true rfl) [1] [0] rfl (by decide) rfl (by decide) (by decide) (fun q => [(h0, .inr (15, [.ref h1, .ref h2, .ref h3, .ref h4, .ref h5, .ref h6, .ref h7, .ref h8, .ref h9, .ref h10, .ref h11, .ref h12, .ref h13, .ref h14, .ref h15, .ref h16, .ref h17, .ref h18, .long 0, .int 0, .int 2, .int 0, .int 0, .int 0, .int 0, .int 0, .int 0])), (h3, .inr (2, [.int 0, .ref g.1, .int 0]))]) (fun _ => rfl) (fun q1 H locs hP hD hS => ?_)
  refine W.eq (g2 := F0 m 10 ls [.int 0, .int 0, .long (p0.toInt64)]) rfl ?_
  refine lv_iconst (v := 1) hx hb dX12_isJoint_10 (by decide) ?_
  refine k_isub (v := (-1)) hx hb dX12_isJoint_11 (by decide) ?_
  refine ct_S (wr := [(h0, .inr (15, [.ref h1, .ref h2, .ref h3, .ref h4, .ref h5, .ref h6, .ref h7, .ref h8, .ref h9, .ref h10, .ref h11, .ref h12, .ref h13, .ref h14, .ref h15, .ref h16, .ref h17, .ref h18, .long 0, .int 0, .int 2, .int 0, .int 0, .int 0, .int 0, .int 0, .int 0])), (h3, .inr (2, [.int 0, .ref g.1, .int 0]))]) hSF hl.1 hP hD hS hA hK hGV (c94_X12_in l hfl D cA g (p0.toInt64) k0) goS_X12_285 pd_X12_in.2 ⟨(Nat.le_of_ble_eq_true rfl), (Nat.le_of_ble_eq_true rfl)⟩ ⟨(Nat.le_of_ble_eq_true rfl), (Nat.le_of_ble_eq_true rfl)⟩ dX12_isJoint_12 rfl (Nat.le_of_ble_eq_true rfl) [] [0, 1] rfl (by decide) rfl (by decide) (by decide) (fun q => [(h0, .inr (15, [.ref h1, .ref h2, .ref h3, .ref h4, .ref h5, .ref h6, .ref h7, .ref h8, .ref h9, .ref h10, .ref h11, .ref h12, .ref h13, .ref h14, .ref h15, .ref h16, .ref h17, .ref h18, .long 0, .int 0, .int 2, .int 0, .int 0, .int 0, .int 0, .int 0, .int 0])), (h3, .inr (2, [.int 0, .ref g.1, .int 0]))]) (fun _ => rfl) (fun q2 H locs hP hD hS => ?_)
  refine W.eq (g2 := F0 m 15 ls [.int 0]) rfl ?_
  exact e_i (fun _ => 0) hx hb hr hlocks rfl rfl hP hD hS (Nat.le_of_ble_eq_true rfl) (Nat.le_of_ble_eq_true rfl) dX12_isJoint_15
set_option maxHeartbeats 4000000 in
set_option maxRecDepth 100000 in
theorem c185_X12_isRight (l : Launch) (hfl : l.stackTraces = false) (D : va_G) (cA : Nat → ClassId) (g : gv_T) (h0 h1 h2 h3 h4 h5 h6 h7 h8 h9 h10 h11 h12 h13 h14 h15 h16 h17 h18 : Nat) (p0 : Int32) (k0 : (lg_cmp p0.toInt64 0) < 0) : CT l yX12_isRight cX12_isRight 2 (some .boolean) (RM 2 0 0 44) D cA g [.ref h0, .int p0] [(h0, .inr (15, [.ref h1, .ref h2, .ref h3, .ref h4, .ref h5, .ref h6, .ref h7, .ref h8, .ref h9, .ref h10, .ref h11, .ref h12, .ref h13, .ref h14, .ref h15, .ref h16, .ref h17, .ref h18, .long 0, .int 0, .int 2, .int 0, .int 0, .int 0, .int 0, .int 0, .int 0])), (h3, .inr (2, [.int 0, .ref g.1, .int 0]))] (fun q => some (.int 0)) (fun q => [(h0, .inr (15, [.ref h1, .ref h2, .ref h3, .ref h4, .ref h5, .ref h6, .ref h7, .ref h8, .ref h9, .ref h10, .ref h11, .ref h12, .ref h13, .ref h14, .ref h15, .ref h16, .ref h17, .ref h18, .long 0, .int 1, .int 2, .int 0, .int 0, .int 0, .int 0, .int 0, .int 0])), (h3, .inr (2, [.int 0, .ref g.1, .int 0]))]) := by
  refine CT.of (by decide +kernel) (Nat.le_of_ble_eq_true rfl) ?_
  intro p e s m args below meth c A ls hx hb hr hml hown hG hlocks hnm hA hS hP hK hD hGV hl
  have hown : s.vm.findClass RX12 = some m.cls := hown
  have hl : lv_has ls 2 [(0, .ref h0), (1, .int p0)] := hl
  have hSF : CF p m c cX12_isRight 2 s args RX12 := ⟨hx, hb, hml, hown, hG⟩
  refine lv_aload_n hx hb dX12_isRight_0 rfl (lv_at hl 0 rfl) ?_
  refine lv_iload_n hx hb dX12_isRight_1 rfl (lv_at hl 1 rfl) ?_
  refine ct_V (wr := []) hSF hl.1 hP hD hS hA hK hGV (c184_X12_isJoint l hfl D cA g h0 h1 h2 h3 h4 h5 h6 h7 h8 h9 h10 h11 h12 h13 h14 h15 h16 h17 h18 (p0) k0) goV_X12_363 pd_X12_isJoint ⟨(Nat.le_of_ble_eq_true rfl), (Nat.le_of_ble_eq_true rfl)⟩ ⟨(Nat.le_of_ble_eq_true rfl), (Nat.le_of_ble_eq_true rfl)⟩ (va_recv hK hP (ci := 15) (q0 := 0) rfl rfl) dX12_isRight_2 rfl (Nat.le_of_ble_eq_true rfl) [0, 1] [] rfl (by decide) rfl (by decide) (by decide) (fun q => [(h0, .inr (15, [.ref h1, .ref h2, .ref h3, .ref h4, .ref h5, .ref h6, .ref h7, .ref h8, .ref h9, .ref h10, .ref h11, .ref h12, .ref h13, .ref h14, .ref h15, .ref h16, .ref h17, .ref h18, .long 0, .int 0, .int 2, .int 0, .int 0, .int 0, .int 0, .int 0, .int 0])), (h3, .inr (2, [.int 0, .ref g.1, .int 0]))]) (fun _ => rfl) (fun q1 H locs hP hD hS => ?_)
  refine W.eq (g2 := F0 m 5 ls [.int 0]) rfl ?_
  refine k_if_eq_t (tgt := 30) hx hb dX12_isRight_5 (by decide) (by decide) ?_
  refine lv_aload_n hx hb dX12_isRight_30 rfl (lv_at hl 0 rfl) ?_
  refine lv_iconst (v := 1) hx hb dX12_isRight_31 (by decide) ?_
  refine ct_V (wr := [(h3, .inr (2, [.int 0, .ref g.1, .int 0]))]) hSF hl.1 hP hD hS hA hK hGV (c153_X12_refuses l hfl D cA g h0 h1 h2 h3 h4 h5 h6 h7 h8 h9 h10 h11 h12 h13 h14 h15 h16 h17 h18) goV_X12_336 pd_X12_refuses ⟨(Nat.le_of_ble_eq_true rfl), (Nat.le_of_ble_eq_true rfl)⟩ ⟨(Nat.le_of_ble_eq_true rfl), (Nat.le_of_ble_eq_true rfl)⟩ (va_recv hK hP (ci := 15) (q0 := 0) rfl rfl) dX12_isRight_32 rfl (Nat.le_of_ble_eq_true rfl) [0] [1] rfl (by decide) rfl (by decide) (by decide) (fun q => [(h3, .inr (2, [.int 0, .ref g.1, .int 0])), (h0, .inr (15, [.ref h1, .ref h2, .ref h3, .ref h4, .ref h5, .ref h6, .ref h7, .ref h8, .ref h9, .ref h10, .ref h11, .ref h12, .ref h13, .ref h14, .ref h15, .ref h16, .ref h17, .ref h18, .long 0, .int 1, .int 2, .int 0, .int 0, .int 0, .int 0, .int 0, .int 0]))]) (fun _ => rfl) (fun q2 H locs hP hD hS => ?_)
  refine W.eq (g2 := F0 m 35 ls [.int 0]) rfl ?_
  exact e_i (fun _ => 0) hx hb hr hlocks rfl rfl (hP.sub [1, 0] rfl) (hD.sub [1, 0] (by decide) rfl) hS (Nat.le_of_ble_eq_true rfl) (Nat.le_of_ble_eq_true rfl) dX12_isRight_35
set_option maxHeartbeats 4000000 in
set_option maxRecDepth 100000 in
theorem c186_X6_checkJoint (l : Launch) (hfl : l.stackTraces = false) (D : va_G) (cA : Nat → ClassId) (g : gv_T) (h0 h1 h2 h3 h4 h5 h6 h7 h8 h9 h10 : Nat) (p0 : Int32) (k0 : ¬ p0 < 0) : CX l yX6_checkJoint cX6_checkJoint 2 none (RM 6 1 6 95) D cA g [.ref h0, .int p0] [(h0, .inr (9, [.ref h1, .ref h2, .ref h3, .ref h4, .ref h5])), (h3, .inr (6, [.int 0, .ref h6, .ref h7, .ref h8, .ref h9, .ref h10]))] "java/lang/IndexOutOfBoundsException" (fun q => [(h0, .inr (9, [.ref h1, .ref h2, .ref h3, .ref h4, .ref h5])), (h3, .inr (6, [.int 0, .ref h6, .ref h7, .ref h8, .ref h9, .ref h10]))]) := by
  refine CX.of (by decide +kernel) (Nat.le_of_ble_eq_true rfl) ?_
  intro p e s m args below meth c A ls hx hb hr hml hown hG hlocks htab hA hS hP hK hD hGV hl
  have hown : s.vm.findClass RX6 = some m.cls := hown
  have hl : lv_has ls 2 [(0, .ref h0), (1, .int p0)] := hl
  have hSF : CF p m c cX6_checkJoint 2 s args RX6 := ⟨hx, hb, hml, hown, hG⟩
  refine lv_iload_n hx hb dX6_checkJoint_0 rfl (lv_at hl 1 rfl) ?_
  refine k_if_lt_f (tgt := 15) hx hb dX6_checkJoint_1 k0 (by decide) ?_
  refine lv_iload_n hx hb dX6_checkJoint_4 rfl (lv_at hl 1 rfl) ?_
  refine lv_aload_n hx hb dX6_checkJoint_5 rfl (lv_at hl 0 rfl) ?_
  refine k_get (ci := 9) (C := RX6) (T := TX6) (N := 5) (v := .ref h3) hx hb hG inX6 hown hK hP 0 rfl rfl 2 (by decide) gw365 rfl dX6_checkJoint_6 ?_
  refine k_get (ci := 6) (C := RX3) (T := TX3) (N := 6) (v := .int 0) hx hb hG inX3 hown hK hP 1 rfl rfl 0 (by decide) gw260 rfl dX6_checkJoint_9 ?_
  refine k_icmp_lt_f (tgt := 26) hx hb dX6_checkJoint_12 k0 (by decide) ?_
  exact e_throwW (fun _ => 0) (names := ["java/lang/RuntimeException", "java/lang/Exception"]) 15 hx hb hfl hown hG hGV htab hlocks (hl.1.trans hml.symm) (by decide +kernel) (by decide +kernel) gw795 gw101 rfl xat_X6_232 hP hD hS dX6_checkJoint_15 dX6_checkJoint_18 dX6_checkJoint_19 dX6_checkJoint_22 dX6_checkJoint_25 (Nat.le_of_ble_eq_true rfl) (Nat.le_of_ble_eq_true rfl) (Nat.le_of_ble_eq_true rfl) (Nat.le_of_ble_eq_true rfl) (Nat.le_of_ble_eq_true rfl) (Nat.le_of_ble_eq_true rfl)
set_option maxHeartbeats 4000000 in
set_option maxRecDepth 100000 in
theorem c187_X6_isRight (l : Launch) (hfl : l.stackTraces = false) (D : va_G) (cA : Nat → ClassId) (g : gv_T) (h0 h1 h2 h3 h4 h5 h6 h7 h8 h9 h10 : Nat) (p0 : Int32) (k0 : ¬ p0 < 0) : CX l yX6_isRight cX6_isRight 2 (some .boolean) (RM 7 1 6 116) D cA g [.ref h0, .int p0] [(h0, .inr (9, [.ref h1, .ref h2, .ref h3, .ref h4, .ref h5])), (h3, .inr (6, [.int 0, .ref h6, .ref h7, .ref h8, .ref h9, .ref h10]))] "java/lang/IndexOutOfBoundsException" (fun q => [(h0, .inr (9, [.ref h1, .ref h2, .ref h3, .ref h4, .ref h5])), (h3, .inr (6, [.int 0, .ref h6, .ref h7, .ref h8, .ref h9, .ref h10]))]) := by
  refine CX.of (by decide +kernel) (Nat.le_of_ble_eq_true rfl) ?_
  intro p e s m args below meth c A ls hx hb hr hml hown hG hlocks htab hA hS hP hK hD hGV hl
  have hown : s.vm.findClass RX6 = some m.cls := hown
  have hl : lv_has ls 2 [(0, .ref h0), (1, .int p0)] := hl
  have hSF : CF p m c cX6_isRight 2 s args RX6 := ⟨hx, hb, hml, hown, hG⟩
  refine lv_aload_n hx hb dX6_isRight_0 rfl (lv_at hl 0 rfl) ?_
  refine lv_iload_n hx hb dX6_isRight_1 rfl (lv_at hl 1 rfl) ?_
  refine cx_V (wr := []) hSF hl.1 hP hD hS hA hK hGV (c186_X6_checkJoint l hfl D cA g h0 h1 h2 h3 h4 h5 h6 h7 h8 h9 h10 (p0) k0) goV_X6_179 pd_X6_checkJoint ⟨(Nat.le_of_ble_eq_true rfl), (Nat.le_of_ble_eq_true rfl)⟩ ⟨(Nat.le_of_ble_eq_true rfl), (Nat.le_of_ble_eq_true rfl)⟩ (va_recv hK hP (ci := 9) (q0 := 0) rfl rfl) dX6_isRight_2 rfl (Nat.le_of_ble_eq_true rfl) [0, 1] [] rfl (by decide) rfl (by decide) (by decide) (fun q => [(h0, .inr (9, [.ref h1, .ref h2, .ref h3, .ref h4, .ref h5])), (h3, .inr (6, [.int 0, .ref h6, .ref h7, .ref h8, .ref h9, .ref h10]))]) (fun _ => rfl) (fun q1 H locs x9 ce9 hP hD hS h9 hv9 hcl9 => ?_)
  exact e_out (fun _ => 0) htab hlocks h9 hv9 hcl9 hP hD hS (Nat.le_of_ble_eq_true rfl) (Nat.le_of_ble_eq_true rfl)
set_option maxHeartbeats 4000000 in
set_option maxRecDepth 100000 in
theorem c188_L_isRight (l : Launch) (hfl : l.stackTraces = false) (D : va_G) (cA : Nat → ClassId) (g : gv_T) (h0 h1 h2 h3 h4 h5 h6 h7 h8 h9 h10 h11 : Nat) (p0 : Int32) (k0 : ¬ p0 < 0) : CW l yL_isRight cL_isRight 4 (some .int) [(0, 16, 19, 21)] (RM 8 1 6 137) D cA g [.ref h0, .int p0, .ref h1] [(h0, .inr (9, [.ref h2, .ref h3, .ref h4, .ref h5, .ref h6])), (h4, .inr (6, [.int 0, .ref h7, .ref h8, .ref h9, .ref h10, .ref h11]))] (fun q => some (.int 1)) (fun q => [(h0, .inr (9, [.ref h2, .ref h3, .ref h4, .ref h5, .ref h6])), (h4, .inr (6, [.int 0, .ref h7, .ref h8, .ref h9, .ref h10, .ref h11]))]) := by
  refine CW.of (by decide +kernel) (Nat.le_of_ble_eq_true rfl) ?_
  intro p e s m args below meth c A ls hx hb hr hml hown hG hlocks htab hA hS hP hK hD hGV hl
  have hown : s.vm.findClass RL = some m.cls := hown
  have hl : lv_has ls 4 [(0, .ref h0), (1, .int p0), (2, .ref h1)] := hl
  have hSF : CF p m c cL_isRight 4 s args RL := ⟨hx, hb, hml, hown, hG⟩
  refine lv_aload_n hx hb dL_isRight_0 rfl (lv_at hl 2 rfl) ?_
  refine lv_iconst (v := 0) hx hb dL_isRight_1 (by decide) ?_
  refine lv_aload_n hx hb dL_isRight_2 rfl (lv_at hl 0 rfl) ?_
  refine lv_iload_n hx hb dL_isRight_3 rfl (lv_at hl 1 rfl) ?_
  refine cx_V (wr := []) hSF hl.1 hP hD hS hA hK hGV (c187_X6_isRight l hfl D cA g h0 h2 h3 h4 h5 h6 h7 h8 h9 h10 h11 (p0) k0) goV_L_54 pd_X6_isRight ⟨(Nat.le_of_ble_eq_true rfl), (Nat.le_of_ble_eq_true rfl)⟩ ⟨(Nat.le_of_ble_eq_true rfl), (Nat.le_of_ble_eq_true rfl)⟩ (va_recv hK hP (ci := 9) (q0 := 0) rfl rfl) dL_isRight_4 rfl (Nat.le_of_ble_eq_true rfl) [0, 1] [] rfl (by decide) rfl (by decide) (by decide) (fun q => [(h0, .inr (9, [.ref h2, .ref h3, .ref h4, .ref h5, .ref h6])), (h4, .inr (6, [.int 0, .ref h7, .ref h8, .ref h9, .ref h10, .ref h11]))]) (fun _ => rfl) (fun q1 H locs x9 ce9 hP hD hS h9 hv9 hcl9 => ?_)
  refine vx_catch (own := RL) (name := "java/lang/IndexOutOfBoundsException") hown [] { startPc := 0, endPc := 16, handlerPc := 19, catchType := 21 } [] (htab.trans rfl) (fun z hz => nomatch hz) rfl (by decide) (hG _ gw763) (va_Nw.use rfl (hGV.2.2.2.2.1 _ gw797)) h9 hv9 hcl9 ?_
  refine W.eq (g2 := F0 m 19 ls [.ref x9]) rfl ?_
  refine lv_astore_n (lv' := [(3, .ref x9), (0, .ref h0), (1, .int p0), (2, .ref h1)]) hx hb dL_isRight_19 rfl hl (by decide) rfl (fun ls hl => ?_)
  refine lv_iconst (v := 1) hx hb dL_isRight_20 (by decide) ?_
  exact e_i (fun _ => 0) hx hb hr hlocks rfl rfl hP hD hS (Nat.le_of_ble_eq_true rfl) (Nat.le_of_ble_eq_true rfl) dL_isRight_21
set_option maxHeartbeats 4000000 in
set_option maxRecDepth 100000 in
theorem c189_X12_isJoint (l : Launch) (hfl : l.stackTraces = false) (D : va_G) (cA : Nat → ClassId) (g : gv_T) (h0 h1 h2 h3 h4 h5 h6 h7 h8 h9 h10 h11 h12 h13 h14 h15 h16 h17 h18 : Nat) (p0 : Int32) (k0 : ¬ (lg_cmp p0.toInt64 0) < 0) (k1 : 0 < (lg_cmp p0.toInt64 (-1))) : CT l yX12_isJoint cX12_isJoint 2 (some .boolean) (RM 1 0 0 23) D cA g [.ref h0, .int p0] [(h0, .inr (15, [.ref h1, .ref h2, .ref h3, .ref h4, .ref h5, .ref h6, .ref h7, .ref h8, .ref h9, .ref h10, .ref h11, .ref h12, .ref h13, .ref h14, .ref h15, .ref h16, .ref h17, .ref h18, .long 0, .int 0, .int 2, .int 0, .int 0, .int 0, .int 0, .int 0, .int 0])), (h3, .inr (2, [.int 0, .ref g.1, .int 0]))] (fun q => some (.int 0)) (fun q => [(h0, .inr (15, [.ref h1, .ref h2, .ref h3, .ref h4, .ref h5, .ref h6, .ref h7, .ref h8, .ref h9, .ref h10, .ref h11, .ref h12, .ref h13, .ref h14, .ref h15, .ref h16, .ref h17, .ref h18, .long 0, .int 0, .int 2, .int 0, .int 0, .int 0, .int 0, .int 0, .int 0])), (h3, .inr (2, [.int 0, .ref g.1, .int 0]))]) := by
  refine CT.of (by decide +kernel) (Nat.le_of_ble_eq_true rfl) ?_
  intro p e s m args below meth c A ls hx hb hr hml hown hG hlocks hnm hA hS hP hK hD hGV hl
  have hown : s.vm.findClass RX12 = some m.cls := hown
  have hl : lv_has ls 2 [(0, .ref h0), (1, .int p0)] := hl
  have hSF : CF p m c cX12_isJoint 2 s args RX12 := ⟨hx, hb, hml, hown, hG⟩
  refine lv_iload_n hx hb dX12_isJoint_0 rfl (lv_at hl 1 rfl) ?_
  refine lv_i2l (v := p0.toInt64) hx hb dX12_isJoint_1 rfl ?_
  refine lv_iconst (v := 0) hx hb dX12_isJoint_2 (by decide) ?_
  refine lv_aload_n hx hb dX12_isJoint_3 rfl (lv_at hl 0 rfl) ?_
  refine k_get (ci := 15) (C := RX12) (T := TX12) (N := 27) (v := .ref h3) hx hb hG inX12 hown hK hP 0 rfl rfl 2 (by decide) gw1221 rfl dX12_isJoint_4 ?_
  refine ct_V (wr := [(h0, .inr (15, [.ref h1, .ref h2, .ref h3, .ref h4, .ref h5, .ref h6, .ref h7, .ref h8, .ref h9, .ref h10, .ref h11, .ref h12, .ref h13, .ref h14, .ref h15, .ref h16, .ref h17, .ref h18, .long 0, .int 0, .int 2, .int 0, .int 0, .int 0, .int 0, .int 0, .int 0]))]) hSF hl.1 hP hD hS hA hK hGV (c56_Jx4a65c_size_8abf5 l hfl D cA g h3) goV_X12_125 pd_Jx4a65c_size_8abf5 ⟨(Nat.le_of_ble_eq_true rfl), (Nat.le_of_ble_eq_true rfl)⟩ ⟨(Nat.le_of_ble_eq_true rfl), (Nat.le_of_ble_eq_true rfl)⟩ (va_recv hK hP (ci := 2) (q0 := 1) rfl rfl) dX12_isJoint_7 rfl (Nat.le_of_ble_eq_true rfl) [1] [0] rfl (by decide) rfl (by decide) (by decide) (fun q => [(h0, .inr (15, [.ref h1, .ref h2, .ref h3, .ref h4, .ref h5, .ref h6, .ref h7, .ref h8, .ref h9, .ref h10, .ref h11, .ref h12, .ref h13, .ref h14, .ref h15, .ref h16, .ref h17, .ref h18, .long 0, .int 0, .int 2, .int 0, .int 0, .int 0, .int 0, .int 0, .int 0])), (h3, .inr (2, [.int 0, .ref g.1, .int 0]))]) (fun _ => rfl) (fun q1 H locs hP hD hS => ?_)
  refine W.eq (g2 := F0 m 10 ls [.int 0, .int 0, .long (p0.toInt64)]) rfl ?_
  refine lv_iconst (v := 1) hx hb dX12_isJoint_10 (by decide) ?_
  refine k_isub (v := (-1)) hx hb dX12_isJoint_11 (by decide) ?_
  refine ct_S (wr := [(h0, .inr (15, [.ref h1, .ref h2, .ref h3, .ref h4, .ref h5, .ref h6, .ref h7, .ref h8, .ref h9, .ref h10, .ref h11, .ref h12, .ref h13, .ref h14, .ref h15, .ref h16, .ref h17, .ref h18, .long 0, .int 0, .int 2, .int 0, .int 0, .int 0, .int 0, .int 0, .int 0])), (h3, .inr (2, [.int 0, .ref g.1, .int 0]))]) hSF hl.1 hP hD hS hA hK hGV (c100_X12_in l hfl D cA g (p0.toInt64) k0 k1) goS_X12_285 pd_X12_in.2 ⟨(Nat.le_of_ble_eq_true rfl), (Nat.le_of_ble_eq_true rfl)⟩ ⟨(Nat.le_of_ble_eq_true rfl), (Nat.le_of_ble_eq_true rfl)⟩ dX12_isJoint_12 rfl (Nat.le_of_ble_eq_true rfl) [] [0, 1] rfl (by decide) rfl (by decide) (by decide) (fun q => [(h0, .inr (15, [.ref h1, .ref h2, .ref h3, .ref h4, .ref h5, .ref h6, .ref h7, .ref h8, .ref h9, .ref h10, .ref h11, .ref h12, .ref h13, .ref h14, .ref h15, .ref h16, .ref h17, .ref h18, .long 0, .int 0, .int 2, .int 0, .int 0, .int 0, .int 0, .int 0, .int 0])), (h3, .inr (2, [.int 0, .ref g.1, .int 0]))]) (fun _ => rfl) (fun q2 H locs hP hD hS => ?_)
  refine W.eq (g2 := F0 m 15 ls [.int 0]) rfl ?_
  exact e_i (fun _ => 0) hx hb hr hlocks rfl rfl hP hD hS (Nat.le_of_ble_eq_true rfl) (Nat.le_of_ble_eq_true rfl) dX12_isJoint_15
set_option maxHeartbeats 4000000 in
set_option maxRecDepth 100000 in
theorem c190_X12_isRight (l : Launch) (hfl : l.stackTraces = false) (D : va_G) (cA : Nat → ClassId) (g : gv_T) (h0 h1 h2 h3 h4 h5 h6 h7 h8 h9 h10 h11 h12 h13 h14 h15 h16 h17 h18 : Nat) (p0 : Int32) (k0 : ¬ (lg_cmp p0.toInt64 0) < 0) (k1 : 0 < (lg_cmp p0.toInt64 (-1))) : CT l yX12_isRight cX12_isRight 2 (some .boolean) (RM 2 0 0 44) D cA g [.ref h0, .int p0] [(h0, .inr (15, [.ref h1, .ref h2, .ref h3, .ref h4, .ref h5, .ref h6, .ref h7, .ref h8, .ref h9, .ref h10, .ref h11, .ref h12, .ref h13, .ref h14, .ref h15, .ref h16, .ref h17, .ref h18, .long 0, .int 0, .int 2, .int 0, .int 0, .int 0, .int 0, .int 0, .int 0])), (h3, .inr (2, [.int 0, .ref g.1, .int 0]))] (fun q => some (.int 0)) (fun q => [(h0, .inr (15, [.ref h1, .ref h2, .ref h3, .ref h4, .ref h5, .ref h6, .ref h7, .ref h8, .ref h9, .ref h10, .ref h11, .ref h12, .ref h13, .ref h14, .ref h15, .ref h16, .ref h17, .ref h18, .long 0, .int 1, .int 2, .int 0, .int 0, .int 0, .int 0, .int 0, .int 0])), (h3, .inr (2, [.int 0, .ref g.1, .int 0]))]) := by
  refine CT.of (by decide +kernel) (Nat.le_of_ble_eq_true rfl) ?_
  intro p e s m args below meth c A ls hx hb hr hml hown hG hlocks hnm hA hS hP hK hD hGV hl
  have hown : s.vm.findClass RX12 = some m.cls := hown
  have hl : lv_has ls 2 [(0, .ref h0), (1, .int p0)] := hl
  have hSF : CF p m c cX12_isRight 2 s args RX12 := ⟨hx, hb, hml, hown, hG⟩
  refine lv_aload_n hx hb dX12_isRight_0 rfl (lv_at hl 0 rfl) ?_
  refine lv_iload_n hx hb dX12_isRight_1 rfl (lv_at hl 1 rfl) ?_
  refine ct_V (wr := []) hSF hl.1 hP hD hS hA hK hGV (c189_X12_isJoint l hfl D cA g h0 h1 h2 h3 h4 h5 h6 h7 h8 h9 h10 h11 h12 h13 h14 h15 h16 h17 h18 (p0) k0 k1) goV_X12_363 pd_X12_isJoint ⟨(Nat.le_of_ble_eq_true rfl), (Nat.le_of_ble_eq_true rfl)⟩ ⟨(Nat.le_of_ble_eq_true rfl), (Nat.le_of_ble_eq_true rfl)⟩ (va_recv hK hP (ci := 15) (q0 := 0) rfl rfl) dX12_isRight_2 rfl (Nat.le_of_ble_eq_true rfl) [0, 1] [] rfl (by decide) rfl (by decide) (by decide) (fun q => [(h0, .inr (15, [.ref h1, .ref h2, .ref h3, .ref h4, .ref h5, .ref h6, .ref h7, .ref h8, .ref h9, .ref h10, .ref h11, .ref h12, .ref h13, .ref h14, .ref h15, .ref h16, .ref h17, .ref h18, .long 0, .int 0, .int 2, .int 0, .int 0, .int 0, .int 0, .int 0, .int 0])), (h3, .inr (2, [.int 0, .ref g.1, .int 0]))]) (fun _ => rfl) (fun q1 H locs hP hD hS => ?_)
  refine W.eq (g2 := F0 m 5 ls [.int 0]) rfl ?_
  refine k_if_eq_t (tgt := 30) hx hb dX12_isRight_5 (by decide) (by decide) ?_
  refine lv_aload_n hx hb dX12_isRight_30 rfl (lv_at hl 0 rfl) ?_
  refine lv_iconst (v := 1) hx hb dX12_isRight_31 (by decide) ?_
  refine ct_V (wr := [(h3, .inr (2, [.int 0, .ref g.1, .int 0]))]) hSF hl.1 hP hD hS hA hK hGV (c153_X12_refuses l hfl D cA g h0 h1 h2 h3 h4 h5 h6 h7 h8 h9 h10 h11 h12 h13 h14 h15 h16 h17 h18) goV_X12_336 pd_X12_refuses ⟨(Nat.le_of_ble_eq_true rfl), (Nat.le_of_ble_eq_true rfl)⟩ ⟨(Nat.le_of_ble_eq_true rfl), (Nat.le_of_ble_eq_true rfl)⟩ (va_recv hK hP (ci := 15) (q0 := 0) rfl rfl) dX12_isRight_32 rfl (Nat.le_of_ble_eq_true rfl) [0] [1] rfl (by decide) rfl (by decide) (by decide) (fun q => [(h3, .inr (2, [.int 0, .ref g.1, .int 0])), (h0, .inr (15, [.ref h1, .ref h2, .ref h3, .ref h4, .ref h5, .ref h6, .ref h7, .ref h8, .ref h9, .ref h10, .ref h11, .ref h12, .ref h13, .ref h14, .ref h15, .ref h16, .ref h17, .ref h18, .long 0, .int 1, .int 2, .int 0, .int 0, .int 0, .int 0, .int 0, .int 0]))]) (fun _ => rfl) (fun q2 H locs hP hD hS => ?_)
  refine W.eq (g2 := F0 m 35 ls [.int 0]) rfl ?_
  exact e_i (fun _ => 0) hx hb hr hlocks rfl rfl (hP.sub [1, 0] rfl) (hD.sub [1, 0] (by decide) rfl) hS (Nat.le_of_ble_eq_true rfl) (Nat.le_of_ble_eq_true rfl) dX12_isRight_35
set_option maxHeartbeats 4000000 in
set_option maxRecDepth 100000 in
theorem c191_X6_misread (l : Launch) (hfl : l.stackTraces = false) (D : va_G) (cA : Nat → ClassId) (g : gv_T) (h0 h1 h2 h3 h4 h5 : Nat) (p0 : Int32) (k0 : p0 < 0) : CX l yX6_misread cX6_misread 2 (some .int) (RM 7 1 6 116) D cA g [.ref h0, .int p0] [(h0, .inr (9, [.ref h1, .ref h2, .ref h3, .ref h4, .ref h5]))] "java/lang/IndexOutOfBoundsException" (fun q => [(h0, .inr (9, [.ref h1, .ref h2, .ref h3, .ref h4, .ref h5]))]) := by
  refine CX.of (by decide +kernel) (Nat.le_of_ble_eq_true rfl) ?_
  intro p e s m args below meth c A ls hx hb hr hml hown hG hlocks htab hA hS hP hK hD hGV hl
  have hown : s.vm.findClass RX6 = some m.cls := hown
  have hl : lv_has ls 2 [(0, .ref h0), (1, .int p0)] := hl
  have hSF : CF p m c cX6_misread 2 s args RX6 := ⟨hx, hb, hml, hown, hG⟩
  refine lv_aload_n hx hb dX6_misread_0 rfl (lv_at hl 0 rfl) ?_
  refine lv_iload_n hx hb dX6_misread_1 rfl (lv_at hl 1 rfl) ?_
  refine cx_V (wr := [(h0, .inr (9, [.ref h1, .ref h2, .ref h3, .ref h4, .ref h5]))]) hSF hl.1 hP hD hS hA hK hGV (c181_X6_checkJoint l hfl D cA g h0 (p0) k0) goV_X6_179 pd_X6_checkJoint ⟨(Nat.le_of_ble_eq_true rfl), (Nat.le_of_ble_eq_true rfl)⟩ ⟨(Nat.le_of_ble_eq_true rfl), (Nat.le_of_ble_eq_true rfl)⟩ (va_recv hK hP (ci := 9) (q0 := 0) rfl rfl) dX6_misread_2 rfl (Nat.le_of_ble_eq_true rfl) [] [0] rfl (by decide) rfl (by decide) (by decide) (fun q => [(h0, .inr (9, [.ref h1, .ref h2, .ref h3, .ref h4, .ref h5]))]) (fun _ => rfl) (fun q1 H locs x9 ce9 hP hD hS h9 hv9 hcl9 => ?_)
  exact e_out (fun _ => 0) htab hlocks h9 hv9 hcl9 hP hD hS (Nat.le_of_ble_eq_true rfl) (Nat.le_of_ble_eq_true rfl)
set_option maxHeartbeats 4000000 in
set_option maxRecDepth 100000 in
theorem c192_L_misread (l : Launch) (hfl : l.stackTraces = false) (D : va_G) (cA : Nat → ClassId) (g : gv_T) (h0 h1 h2 h3 h4 h5 h6 : Nat) (p0 : Int32) (k0 : p0 < 0) : CW l yL_misread cL_misread 4 (some .int) [(0, 9, 12, 21)] (RM 8 1 6 137) D cA g [.ref h0, .int p0, .ref h1] [(h0, .inr (9, [.ref h2, .ref h3, .ref h4, .ref h5, .ref h6]))] (fun q => some (.int 1)) (fun q => [(h0, .inr (9, [.ref h2, .ref h3, .ref h4, .ref h5, .ref h6]))]) := by
  refine CW.of (by decide +kernel) (Nat.le_of_ble_eq_true rfl) ?_
  intro p e s m args below meth c A ls hx hb hr hml hown hG hlocks htab hA hS hP hK hD hGV hl
  have hown : s.vm.findClass RL = some m.cls := hown
  have hl : lv_has ls 4 [(0, .ref h0), (1, .int p0), (2, .ref h1)] := hl
  have hSF : CF p m c cL_misread 4 s args RL := ⟨hx, hb, hml, hown, hG⟩
  refine lv_aload_n hx hb dL_misread_0 rfl (lv_at hl 2 rfl) ?_
  refine lv_iconst (v := 0) hx hb dL_misread_1 (by decide) ?_
  refine lv_aload_n hx hb dL_misread_2 rfl (lv_at hl 0 rfl) ?_
  refine lv_iload_n hx hb dL_misread_3 rfl (lv_at hl 1 rfl) ?_
  refine cx_V (wr := []) hSF hl.1 hP hD hS hA hK hGV (c191_X6_misread l hfl D cA g h0 h2 h3 h4 h5 h6 (p0) k0) goV_L_57 pd_X6_misread ⟨(Nat.le_of_ble_eq_true rfl), (Nat.le_of_ble_eq_true rfl)⟩ ⟨(Nat.le_of_ble_eq_true rfl), (Nat.le_of_ble_eq_true rfl)⟩ (va_recv hK hP (ci := 9) (q0 := 0) rfl rfl) dL_misread_4 rfl (Nat.le_of_ble_eq_true rfl) [0] [] rfl (by decide) rfl (by decide) (by decide) (fun q => [(h0, .inr (9, [.ref h2, .ref h3, .ref h4, .ref h5, .ref h6]))]) (fun _ => rfl) (fun q1 H locs x9 ce9 hP hD hS h9 hv9 hcl9 => ?_)
  refine vx_catch (own := RL) (name := "java/lang/IndexOutOfBoundsException") hown [] { startPc := 0, endPc := 9, handlerPc := 12, catchType := 21 } [] (htab.trans rfl) (fun z hz => nomatch hz) rfl (by decide) (hG _ gw763) (va_Nw.use rfl (hGV.2.2.2.2.1 _ gw797)) h9 hv9 hcl9 ?_
  refine W.eq (g2 := F0 m 12 ls [.ref x9]) rfl ?_
  refine lv_astore_n (lv' := [(3, .ref x9), (0, .ref h0), (1, .int p0), (2, .ref h1)]) hx hb dL_misread_12 rfl hl (by decide) rfl (fun ls hl => ?_)
  refine lv_iconst (v := 1) hx hb dL_misread_13 (by decide) ?_
  exact e_i (fun _ => 0) hx hb hr hlocks rfl rfl hP hD hS (Nat.le_of_ble_eq_true rfl) (Nat.le_of_ble_eq_true rfl) dL_misread_14
set_option maxHeartbeats 4000000 in
set_option maxRecDepth 100000 in
theorem c193_X12_misread (l : Launch) (hfl : l.stackTraces = false) (D : va_G) (cA : Nat → ClassId) (g : gv_T) (h0 h1 h2 h3 h4 h5 h6 h7 h8 h9 h10 h11 h12 h13 h14 h15 h16 h17 h18 : Nat) (p0 : Int32) (k0 : (lg_cmp p0.toInt64 0) < 0) : CT l yX12_misread cX12_misread 2 (some .int) (RM 2 0 0 44) D cA g [.ref h0, .int p0] [(h0, .inr (15, [.ref h1, .ref h2, .ref h3, .ref h4, .ref h5, .ref h6, .ref h7, .ref h8, .ref h9, .ref h10, .ref h11, .ref h12, .ref h13, .ref h14, .ref h15, .ref h16, .ref h17, .ref h18, .long 0, .int 0, .int 2, .int 0, .int 0, .int 0, .int 0, .int 0, .int 0])), (h3, .inr (2, [.int 0, .ref g.1, .int 0]))] (fun q => some (.int 0)) (fun q => [(h0, .inr (15, [.ref h1, .ref h2, .ref h3, .ref h4, .ref h5, .ref h6, .ref h7, .ref h8, .ref h9, .ref h10, .ref h11, .ref h12, .ref h13, .ref h14, .ref h15, .ref h16, .ref h17, .ref h18, .long 0, .int 1, .int 2, .int 0, .int 0, .int 0, .int 0, .int 0, .int 0])), (h3, .inr (2, [.int 0, .ref g.1, .int 0]))]) := by
  refine CT.of (by decide +kernel) (Nat.le_of_ble_eq_true rfl) ?_
  intro p e s m args below meth c A ls hx hb hr hml hown hG hlocks hnm hA hS hP hK hD hGV hl
  have hown : s.vm.findClass RX12 = some m.cls := hown
  have hl : lv_has ls 2 [(0, .ref h0), (1, .int p0)] := hl
  have hSF : CF p m c cX12_misread 2 s args RX12 := ⟨hx, hb, hml, hown, hG⟩
  refine lv_aload_n hx hb dX12_misread_0 rfl (lv_at hl 0 rfl) ?_
  refine lv_iload_n hx hb dX12_misread_1 rfl (lv_at hl 1 rfl) ?_
  refine ct_V (wr := []) hSF hl.1 hP hD hS hA hK hGV (c184_X12_isJoint l hfl D cA g h0 h1 h2 h3 h4 h5 h6 h7 h8 h9 h10 h11 h12 h13 h14 h15 h16 h17 h18 (p0) k0) goV_X12_363 pd_X12_isJoint ⟨(Nat.le_of_ble_eq_true rfl), (Nat.le_of_ble_eq_true rfl)⟩ ⟨(Nat.le_of_ble_eq_true rfl), (Nat.le_of_ble_eq_true rfl)⟩ (va_recv hK hP (ci := 15) (q0 := 0) rfl rfl) dX12_misread_2 rfl (Nat.le_of_ble_eq_true rfl) [0, 1] [] rfl (by decide) rfl (by decide) (by decide) (fun q => [(h0, .inr (15, [.ref h1, .ref h2, .ref h3, .ref h4, .ref h5, .ref h6, .ref h7, .ref h8, .ref h9, .ref h10, .ref h11, .ref h12, .ref h13, .ref h14, .ref h15, .ref h16, .ref h17, .ref h18, .long 0, .int 0, .int 2, .int 0, .int 0, .int 0, .int 0, .int 0, .int 0])), (h3, .inr (2, [.int 0, .ref g.1, .int 0]))]) (fun _ => rfl) (fun q1 H locs hP hD hS => ?_)
  refine W.eq (g2 := F0 m 5 ls [.int 0]) rfl ?_
  refine k_if_eq_t (tgt := 29) hx hb dX12_misread_5 (by decide) (by decide) ?_
  refine lv_aload_n hx hb dX12_misread_29 rfl (lv_at hl 0 rfl) ?_
  refine lv_iconst (v := 1) hx hb dX12_misread_30 (by decide) ?_
  refine ct_V (wr := [(h3, .inr (2, [.int 0, .ref g.1, .int 0]))]) hSF hl.1 hP hD hS hA hK hGV (c15_X12_fails l hfl D cA g h0 h1 h2 h3 h4 h5 h6 h7 h8 h9 h10 h11 h12 h13 h14 h15 h16 h17 h18) goV_X12_289 pd_X12_fails ⟨(Nat.le_of_ble_eq_true rfl), (Nat.le_of_ble_eq_true rfl)⟩ ⟨(Nat.le_of_ble_eq_true rfl), (Nat.le_of_ble_eq_true rfl)⟩ (va_recv hK hP (ci := 15) (q0 := 0) rfl rfl) dX12_misread_31 rfl (Nat.le_of_ble_eq_true rfl) [0] [1] rfl (by decide) rfl (by decide) (by decide) (fun q => [(h3, .inr (2, [.int 0, .ref g.1, .int 0])), (h0, .inr (15, [.ref h1, .ref h2, .ref h3, .ref h4, .ref h5, .ref h6, .ref h7, .ref h8, .ref h9, .ref h10, .ref h11, .ref h12, .ref h13, .ref h14, .ref h15, .ref h16, .ref h17, .ref h18, .long 0, .int 1, .int 2, .int 0, .int 0, .int 0, .int 0, .int 0, .int 0]))]) (fun _ => rfl) (fun q2 H locs hP hD hS => ?_)
  refine W.eq (g2 := F0 m 34 ls [.int 0]) rfl ?_
  exact e_i (fun _ => 0) hx hb hr hlocks rfl rfl (hP.sub [1, 0] rfl) (hD.sub [1, 0] (by decide) rfl) hS (Nat.le_of_ble_eq_true rfl) (Nat.le_of_ble_eq_true rfl) dX12_misread_34
set_option maxHeartbeats 4000000 in
set_option maxRecDepth 100000 in
theorem c194_X6_misread (l : Launch) (hfl : l.stackTraces = false) (D : va_G) (cA : Nat → ClassId) (g : gv_T) (h0 h1 h2 h3 h4 h5 h6 h7 h8 h9 h10 : Nat) (p0 : Int32) (k0 : ¬ p0 < 0) : CX l yX6_misread cX6_misread 2 (some .int) (RM 7 1 6 116) D cA g [.ref h0, .int p0] [(h0, .inr (9, [.ref h1, .ref h2, .ref h3, .ref h4, .ref h5])), (h3, .inr (6, [.int 0, .ref h6, .ref h7, .ref h8, .ref h9, .ref h10]))] "java/lang/IndexOutOfBoundsException" (fun q => [(h0, .inr (9, [.ref h1, .ref h2, .ref h3, .ref h4, .ref h5])), (h3, .inr (6, [.int 0, .ref h6, .ref h7, .ref h8, .ref h9, .ref h10]))]) := by
  refine CX.of (by decide +kernel) (Nat.le_of_ble_eq_true rfl) ?_
  intro p e s m args below meth c A ls hx hb hr hml hown hG hlocks htab hA hS hP hK hD hGV hl
  have hown : s.vm.findClass RX6 = some m.cls := hown
  have hl : lv_has ls 2 [(0, .ref h0), (1, .int p0)] := hl
  have hSF : CF p m c cX6_misread 2 s args RX6 := ⟨hx, hb, hml, hown, hG⟩
  refine lv_aload_n hx hb dX6_misread_0 rfl (lv_at hl 0 rfl) ?_
  refine lv_iload_n hx hb dX6_misread_1 rfl (lv_at hl 1 rfl) ?_
  refine cx_V (wr := []) hSF hl.1 hP hD hS hA hK hGV (c186_X6_checkJoint l hfl D cA g h0 h1 h2 h3 h4 h5 h6 h7 h8 h9 h10 (p0) k0) goV_X6_179 pd_X6_checkJoint ⟨(Nat.le_of_ble_eq_true rfl), (Nat.le_of_ble_eq_true rfl)⟩ ⟨(Nat.le_of_ble_eq_true rfl), (Nat.le_of_ble_eq_true rfl)⟩ (va_recv hK hP (ci := 9) (q0 := 0) rfl rfl) dX6_misread_2 rfl (Nat.le_of_ble_eq_true rfl) [0, 1] [] rfl (by decide) rfl (by decide) (by decide) (fun q => [(h0, .inr (9, [.ref h1, .ref h2, .ref h3, .ref h4, .ref h5])), (h3, .inr (6, [.int 0, .ref h6, .ref h7, .ref h8, .ref h9, .ref h10]))]) (fun _ => rfl) (fun q1 H locs x9 ce9 hP hD hS h9 hv9 hcl9 => ?_)
  exact e_out (fun _ => 0) htab hlocks h9 hv9 hcl9 hP hD hS (Nat.le_of_ble_eq_true rfl) (Nat.le_of_ble_eq_true rfl)
set_option maxHeartbeats 4000000 in
set_option maxRecDepth 100000 in
theorem c195_L_misread (l : Launch) (hfl : l.stackTraces = false) (D : va_G) (cA : Nat → ClassId) (g : gv_T) (h0 h1 h2 h3 h4 h5 h6 h7 h8 h9 h10 h11 : Nat) (p0 : Int32) (k0 : ¬ p0 < 0) : CW l yL_misread cL_misread 4 (some .int) [(0, 9, 12, 21)] (RM 8 1 6 137) D cA g [.ref h0, .int p0, .ref h1] [(h0, .inr (9, [.ref h2, .ref h3, .ref h4, .ref h5, .ref h6])), (h4, .inr (6, [.int 0, .ref h7, .ref h8, .ref h9, .ref h10, .ref h11]))] (fun q => some (.int 1)) (fun q => [(h0, .inr (9, [.ref h2, .ref h3, .ref h4, .ref h5, .ref h6])), (h4, .inr (6, [.int 0, .ref h7, .ref h8, .ref h9, .ref h10, .ref h11]))]) := by
  refine CW.of (by decide +kernel) (Nat.le_of_ble_eq_true rfl) ?_
  intro p e s m args below meth c A ls hx hb hr hml hown hG hlocks htab hA hS hP hK hD hGV hl
  have hown : s.vm.findClass RL = some m.cls := hown
  have hl : lv_has ls 4 [(0, .ref h0), (1, .int p0), (2, .ref h1)] := hl
  have hSF : CF p m c cL_misread 4 s args RL := ⟨hx, hb, hml, hown, hG⟩
  refine lv_aload_n hx hb dL_misread_0 rfl (lv_at hl 2 rfl) ?_
  refine lv_iconst (v := 0) hx hb dL_misread_1 (by decide) ?_
  refine lv_aload_n hx hb dL_misread_2 rfl (lv_at hl 0 rfl) ?_
  refine lv_iload_n hx hb dL_misread_3 rfl (lv_at hl 1 rfl) ?_
  refine cx_V (wr := []) hSF hl.1 hP hD hS hA hK hGV (c194_X6_misread l hfl D cA g h0 h2 h3 h4 h5 h6 h7 h8 h9 h10 h11 (p0) k0) goV_L_57 pd_X6_misread ⟨(Nat.le_of_ble_eq_true rfl), (Nat.le_of_ble_eq_true rfl)⟩ ⟨(Nat.le_of_ble_eq_true rfl), (Nat.le_of_ble_eq_true rfl)⟩ (va_recv hK hP (ci := 9) (q0 := 0) rfl rfl) dL_misread_4 rfl (Nat.le_of_ble_eq_true rfl) [0, 1] [] rfl (by decide) rfl (by decide) (by decide) (fun q => [(h0, .inr (9, [.ref h2, .ref h3, .ref h4, .ref h5, .ref h6])), (h4, .inr (6, [.int 0, .ref h7, .ref h8, .ref h9, .ref h10, .ref h11]))]) (fun _ => rfl) (fun q1 H locs x9 ce9 hP hD hS h9 hv9 hcl9 => ?_)
  refine vx_catch (own := RL) (name := "java/lang/IndexOutOfBoundsException") hown [] { startPc := 0, endPc := 9, handlerPc := 12, catchType := 21 } [] (htab.trans rfl) (fun z hz => nomatch hz) rfl (by decide) (hG _ gw763) (va_Nw.use rfl (hGV.2.2.2.2.1 _ gw797)) h9 hv9 hcl9 ?_
  refine W.eq (g2 := F0 m 12 ls [.ref x9]) rfl ?_
  refine lv_astore_n (lv' := [(3, .ref x9), (0, .ref h0), (1, .int p0), (2, .ref h1)]) hx hb dL_misread_12 rfl hl (by decide) rfl (fun ls hl => ?_)
  refine lv_iconst (v := 1) hx hb dL_misread_13 (by decide) ?_
  exact e_i (fun _ => 0) hx hb hr hlocks rfl rfl hP hD hS (Nat.le_of_ble_eq_true rfl) (Nat.le_of_ble_eq_true rfl) dL_misread_14
set_option maxHeartbeats 4000000 in
set_option maxRecDepth 100000 in
theorem c196_X12_misread (l : Launch) (hfl : l.stackTraces = false) (D : va_G) (cA : Nat → ClassId) (g : gv_T) (h0 h1 h2 h3 h4 h5 h6 h7 h8 h9 h10 h11 h12 h13 h14 h15 h16 h17 h18 : Nat) (p0 : Int32) (k0 : ¬ (lg_cmp p0.toInt64 0) < 0) (k1 : 0 < (lg_cmp p0.toInt64 (-1))) : CT l yX12_misread cX12_misread 2 (some .int) (RM 2 0 0 44) D cA g [.ref h0, .int p0] [(h0, .inr (15, [.ref h1, .ref h2, .ref h3, .ref h4, .ref h5, .ref h6, .ref h7, .ref h8, .ref h9, .ref h10, .ref h11, .ref h12, .ref h13, .ref h14, .ref h15, .ref h16, .ref h17, .ref h18, .long 0, .int 0, .int 2, .int 0, .int 0, .int 0, .int 0, .int 0, .int 0])), (h3, .inr (2, [.int 0, .ref g.1, .int 0]))] (fun q => some (.int 0)) (fun q => [(h0, .inr (15, [.ref h1, .ref h2, .ref h3, .ref h4, .ref h5, .ref h6, .ref h7, .ref h8, .ref h9, .ref h10, .ref h11, .ref h12, .ref h13, .ref h14, .ref h15, .ref h16, .ref h17, .ref h18, .long 0, .int 1, .int 2, .int 0, .int 0, .int 0, .int 0, .int 0, .int 0])), (h3, .inr (2, [.int 0, .ref g.1, .int 0]))]) := by
  refine CT.of (by decide +kernel) (Nat.le_of_ble_eq_true rfl) ?_
  intro p e s m args below meth c A ls hx hb hr hml hown hG hlocks hnm hA hS hP hK hD hGV hl
  have hown : s.vm.findClass RX12 = some m.cls := hown
  have hl : lv_has ls 2 [(0, .ref h0), (1, .int p0)] := hl
  have hSF : CF p m c cX12_misread 2 s args RX12 := ⟨hx, hb, hml, hown, hG⟩
  refine lv_aload_n hx hb dX12_misread_0 rfl (lv_at hl 0 rfl) ?_
  refine lv_iload_n hx hb dX12_misread_1 rfl (lv_at hl 1 rfl) ?_
  refine ct_V (wr := []) hSF hl.1 hP hD hS hA hK hGV (c189_X12_isJoint l hfl D cA g h0 h1 h2 h3 h4 h5 h6 h7 h8 h9 h10 h11 h12 h13 h14 h15 h16 h17 h18 (p0) k0 k1) goV_X12_363 pd_X12_isJoint ⟨(Nat.le_of_ble_eq_true rfl), (Nat.le_of_ble_eq_true rfl)⟩ ⟨(Nat.le_of_ble_eq_true rfl), (Nat.le_of_ble_eq_true rfl)⟩ (va_recv hK hP (ci := 15) (q0 := 0) rfl rfl) dX12_misread_2 rfl (Nat.le_of_ble_eq_true rfl) [0, 1] [] rfl (by decide) rfl (by decide) (by decide) (fun q => [(h0, .inr (15, [.ref h1, .ref h2, .ref h3, .ref h4, .ref h5, .ref h6, .ref h7, .ref h8, .ref h9, .ref h10, .ref h11, .ref h12, .ref h13, .ref h14, .ref h15, .ref h16, .ref h17, .ref h18, .long 0, .int 0, .int 2, .int 0, .int 0, .int 0, .int 0, .int 0, .int 0])), (h3, .inr (2, [.int 0, .ref g.1, .int 0]))]) (fun _ => rfl) (fun q1 H locs hP hD hS => ?_)
  refine W.eq (g2 := F0 m 5 ls [.int 0]) rfl ?_
  refine k_if_eq_t (tgt := 29) hx hb dX12_misread_5 (by decide) (by decide) ?_
  refine lv_aload_n hx hb dX12_misread_29 rfl (lv_at hl 0 rfl) ?_
  refine lv_iconst (v := 1) hx hb dX12_misread_30 (by decide) ?_
  refine ct_V (wr := [(h3, .inr (2, [.int 0, .ref g.1, .int 0]))]) hSF hl.1 hP hD hS hA hK hGV (c15_X12_fails l hfl D cA g h0 h1 h2 h3 h4 h5 h6 h7 h8 h9 h10 h11 h12 h13 h14 h15 h16 h17 h18) goV_X12_289 pd_X12_fails ⟨(Nat.le_of_ble_eq_true rfl), (Nat.le_of_ble_eq_true rfl)⟩ ⟨(Nat.le_of_ble_eq_true rfl), (Nat.le_of_ble_eq_true rfl)⟩ (va_recv hK hP (ci := 15) (q0 := 0) rfl rfl) dX12_misread_31 rfl (Nat.le_of_ble_eq_true rfl) [0] [1] rfl (by decide) rfl (by decide) (by decide) (fun q => [(h3, .inr (2, [.int 0, .ref g.1, .int 0])), (h0, .inr (15, [.ref h1, .ref h2, .ref h3, .ref h4, .ref h5, .ref h6, .ref h7, .ref h8, .ref h9, .ref h10, .ref h11, .ref h12, .ref h13, .ref h14, .ref h15, .ref h16, .ref h17, .ref h18, .long 0, .int 1, .int 2, .int 0, .int 0, .int 0, .int 0, .int 0, .int 0]))]) (fun _ => rfl) (fun q2 H locs hP hD hS => ?_)
  refine W.eq (g2 := F0 m 34 ls [.int 0]) rfl ?_
  exact e_i (fun _ => 0) hx hb hr hlocks rfl rfl (hP.sub [1, 0] rfl) (hD.sub [1, 0] (by decide) rfl) hS (Nat.le_of_ble_eq_true rfl) (Nat.le_of_ble_eq_true rfl) dX12_misread_34
set_option maxHeartbeats 4000000 in
set_option maxRecDepth 100000 in
theorem c197_X6_clashes (l : Launch) (hfl : l.stackTraces = false) (D : va_G) (cA : Nat → ClassId) (g : gv_T) (h0 h1 h2 h3 h4 h5 h6 h7 h8 h9 h10 : Nat) : CT l yX6_clashes cX6_clashes 4 (some .int) (RM 0 0 0 0) D cA g [.ref h0] [(h0, .inr (9, [.ref h1, .ref h2, .ref h3, .ref h4, .ref h5])), (h3, .inr (6, [.int 0, .ref h6, .ref h7, .ref h8, .ref h9, .ref h10]))] (fun q => some (.int 0)) (fun q => [(h0, .inr (9, [.ref h1, .ref h2, .ref h3, .ref h4, .ref h5])), (h3, .inr (6, [.int 0, .ref h6, .ref h7, .ref h8, .ref h9, .ref h10]))]) := by
  refine CT.of (by decide +kernel) (Nat.le_of_ble_eq_true rfl) ?_
  intro p e s m args below meth c A ls hx hb hr hml hown hG hlocks hnm hA hS hP hK hD hGV hl
  have hown : s.vm.findClass RX6 = some m.cls := hown
  have hl : lv_has ls 4 [(0, .ref h0)] := hl
  have hSF : CF p m c cX6_clashes 4 s args RX6 := ⟨hx, hb, hml, hown, hG⟩
  refine lv_iconst (v := 0) hx hb dX6_clashes_0 (by decide) ?_
  refine lv_istore_n (lv' := [(1, .int 0), (0, .ref h0)]) hx hb dX6_clashes_1 rfl hl (by decide) rfl (fun ls hl => ?_)
  refine lv_iconst (v := 0) hx hb dX6_clashes_2 (by decide) ?_
  refine lv_istore_n (lv' := [(2, .int 0), (1, .int 0), (0, .ref h0)]) hx hb dX6_clashes_3 rfl hl (by decide) rfl (fun ls hl => ?_)
  refine lv_iload_n hx hb dX6_clashes_4 rfl (lv_at hl 0 rfl) ?_
  refine lv_aload_n hx hb dX6_clashes_5 rfl (lv_at hl 2 rfl) ?_
  refine k_get (ci := 9) (C := RX6) (T := TX6) (N := 5) (v := .ref h3) hx hb hG inX6 hown hK hP 0 rfl rfl 2 (by decide) gw365 rfl dX6_clashes_6 ?_
  refine k_get (ci := 6) (C := RX3) (T := TX3) (N := 6) (v := .int 0) hx hb hG inX3 hown hK hP 1 rfl rfl 0 (by decide) gw260 rfl dX6_clashes_9 ?_
  refine k_icmp_ge_t (tgt := 54) hx hb dX6_clashes_12 (by decide) (by decide) ?_
  refine lv_iload_n hx hb dX6_clashes_54 rfl (lv_at hl 1 rfl) ?_
  exact e_i (fun _ => 0) hx hb hr hlocks rfl rfl hP hD hS (Nat.le_of_ble_eq_true rfl) (Nat.le_of_ble_eq_true rfl) dX6_clashes_55
set_option maxHeartbeats 4000000 in
set_option maxRecDepth 100000 in
theorem c198_X12_clashes (l : Launch) (hfl : l.stackTraces = false) (D : va_G) (cA : Nat → ClassId) (g : gv_T) (h0 h1 h2 h3 h4 h5 h6 h7 h8 h9 h10 h11 h12 h13 h14 h15 h16 h17 h18 : Nat) : CT l yX12_clashes cX12_clashes 4 (some .int) (RM 1 0 0 21) D cA g [.ref h0] [(h0, .inr (15, [.ref h1, .ref h2, .ref h3, .ref h4, .ref h5, .ref h6, .ref h7, .ref h8, .ref h9, .ref h10, .ref h11, .ref h12, .ref h13, .ref h14, .ref h15, .ref h16, .ref h17, .ref h18, .long 0, .int 0, .int 2, .int 0, .int 0, .int 0, .int 0, .int 0, .int 0])), (h3, .inr (2, [.int 0, .ref g.1, .int 0]))] (fun q => some (.int 0)) (fun q => [(h0, .inr (15, [.ref h1, .ref h2, .ref h3, .ref h4, .ref h5, .ref h6, .ref h7, .ref h8, .ref h9, .ref h10, .ref h11, .ref h12, .ref h13, .ref h14, .ref h15, .ref h16, .ref h17, .ref h18, .long 0, .int 0, .int 2, .int 0, .int 0, .int 0, .int 0, .int 0, .int 0])), (h3, .inr (2, [.int 0, .ref g.1, .int 0]))]) := by
  refine CT.of (by decide +kernel) (Nat.le_of_ble_eq_true rfl) ?_
  intro p e s m args below meth c A ls hx hb hr hml hown hG hlocks hnm hA hS hP hK hD hGV hl
  have hown : s.vm.findClass RX12 = some m.cls := hown
  have hl : lv_has ls 4 [(0, .ref h0)] := hl
  have hSF : CF p m c cX12_clashes 4 s args RX12 := ⟨hx, hb, hml, hown, hG⟩
  refine lv_iconst (v := 0) hx hb dX12_clashes_0 (by decide) ?_
  refine lv_istore_n (lv' := [(1, .int 0), (0, .ref h0)]) hx hb dX12_clashes_1 rfl hl (by decide) rfl (fun ls hl => ?_)
  refine lv_iconst (v := 0) hx hb dX12_clashes_2 (by decide) ?_
  refine lv_istore_n (lv' := [(2, .int 0), (1, .int 0), (0, .ref h0)]) hx hb dX12_clashes_3 rfl hl (by decide) rfl (fun ls hl => ?_)
  refine lv_iload_n hx hb dX12_clashes_4 rfl (lv_at hl 0 rfl) ?_
  refine lv_aload_n hx hb dX12_clashes_5 rfl (lv_at hl 2 rfl) ?_
  refine k_get (ci := 15) (C := RX12) (T := TX12) (N := 27) (v := .ref h3) hx hb hG inX12 hown hK hP 0 rfl rfl 2 (by decide) gw1221 rfl dX12_clashes_6 ?_
  refine ct_V (wr := [(h0, .inr (15, [.ref h1, .ref h2, .ref h3, .ref h4, .ref h5, .ref h6, .ref h7, .ref h8, .ref h9, .ref h10, .ref h11, .ref h12, .ref h13, .ref h14, .ref h15, .ref h16, .ref h17, .ref h18, .long 0, .int 0, .int 2, .int 0, .int 0, .int 0, .int 0, .int 0, .int 0]))]) hSF hl.1 hP hD hS hA hK hGV (c56_Jx4a65c_size_8abf5 l hfl D cA g h3) goV_X12_125 pd_Jx4a65c_size_8abf5 ⟨(Nat.le_of_ble_eq_true rfl), (Nat.le_of_ble_eq_true rfl)⟩ ⟨(Nat.le_of_ble_eq_true rfl), (Nat.le_of_ble_eq_true rfl)⟩ (va_recv hK hP (ci := 2) (q0 := 1) rfl rfl) dX12_clashes_9 rfl (Nat.le_of_ble_eq_true rfl) [1] [0] rfl (by decide) rfl (by decide) (by decide) (fun q => [(h0, .inr (15, [.ref h1, .ref h2, .ref h3, .ref h4, .ref h5, .ref h6, .ref h7, .ref h8, .ref h9, .ref h10, .ref h11, .ref h12, .ref h13, .ref h14, .ref h15, .ref h16, .ref h17, .ref h18, .long 0, .int 0, .int 2, .int 0, .int 0, .int 0, .int 0, .int 0, .int 0])), (h3, .inr (2, [.int 0, .ref g.1, .int 0]))]) (fun _ => rfl) (fun q1 H locs hP hD hS => ?_)
  refine W.eq (g2 := F0 m 12 ls [.int 0, .int 0]) rfl ?_
  refine k_icmp_ge_t (tgt := 104) hx hb dX12_clashes_12 (by decide) (by decide) ?_
  refine lv_aload_n hx hb dX12_clashes_104 rfl (lv_at hl 2 rfl) ?_
  refine lv_iload_n hx hb dX12_clashes_105 rfl (lv_at hl 1 rfl) ?_
  refine ct_V (wr := [(h3, .inr (2, [.int 0, .ref g.1, .int 0]))]) hSF hl.1 hP hD hS hA hK hGV (c64_X12_tell l hfl D cA g h0 h1 h2 h3 h4 h5 h6 h7 h8 h9 h10 h11 h12 h13 h14 h15 h16 h17 h18) goV_X12_302 pd_X12_tell ⟨(Nat.le_of_ble_eq_true rfl), (Nat.le_of_ble_eq_true rfl)⟩ ⟨(Nat.le_of_ble_eq_true rfl), (Nat.le_of_ble_eq_true rfl)⟩ (va_recv hK hP (ci := 15) (q0 := 0) rfl rfl) dX12_clashes_106 rfl (Nat.le_of_ble_eq_true rfl) [0] [1] rfl (by decide) rfl (by decide) (by decide) (fun q => [(h3, .inr (2, [.int 0, .ref g.1, .int 0])), (h0, .inr (15, [.ref h1, .ref h2, .ref h3, .ref h4, .ref h5, .ref h6, .ref h7, .ref h8, .ref h9, .ref h10, .ref h11, .ref h12, .ref h13, .ref h14, .ref h15, .ref h16, .ref h17, .ref h18, .long 0, .int 0, .int 2, .int 0, .int 0, .int 0, .int 0, .int 0, .int 0]))]) (fun _ => rfl) (fun q2 H locs hP hD hS => ?_)
  refine W.eq (g2 := F0 m 109 ls [.int 0]) rfl ?_
  exact e_i (fun _ => 0) hx hb hr hlocks rfl rfl (hP.sub [1, 0] rfl) (hD.sub [1, 0] (by decide) rfl) hS (Nat.le_of_ble_eq_true rfl) (Nat.le_of_ble_eq_true rfl) dX12_clashes_109
set_option maxHeartbeats 4000000 in
set_option maxRecDepth 100000 in
theorem c199_X6_cutAt (l : Launch) (hfl : l.stackTraces = false) (D : va_G) (cA : Nat → ClassId) (g : gv_T) (h0 h1 h2 h3 h4 h5 : Nat) (p0 : Int32) (p1 : Int32) (k0 : p0 < 0) : CX l yX6_cutAt cX6_cutAt 4 (some .int) (RM 7 1 6 116) D cA g [.ref h0, .int p0, .int p1] [(h0, .inr (9, [.ref h1, .ref h2, .ref h3, .ref h4, .ref h5]))] "java/lang/IndexOutOfBoundsException" (fun q => [(h0, .inr (9, [.ref h1, .ref h2, .ref h3, .ref h4, .ref h5]))]) := by
  refine CX.of (by decide +kernel) (Nat.le_of_ble_eq_true rfl) ?_
  intro p e s m args below meth c A ls hx hb hr hml hown hG hlocks htab hA hS hP hK hD hGV hl
  have hown : s.vm.findClass RX6 = some m.cls := hown
  have hl : lv_has ls 4 [(0, .ref h0), (1, .int p0), (2, .int p1)] := hl
  have hSF : CF p m c cX6_cutAt 4 s args RX6 := ⟨hx, hb, hml, hown, hG⟩
  refine lv_aload_n hx hb dX6_cutAt_0 rfl (lv_at hl 0 rfl) ?_
  refine lv_iload_n hx hb dX6_cutAt_1 rfl (lv_at hl 1 rfl) ?_
  refine cx_V (wr := [(h0, .inr (9, [.ref h1, .ref h2, .ref h3, .ref h4, .ref h5]))]) hSF hl.1 hP hD hS hA hK hGV (c122_X6_checkMember l hfl D cA g h0 (p0) k0) goV_X6_118 pd_X6_checkMember ⟨(Nat.le_of_ble_eq_true rfl), (Nat.le_of_ble_eq_true rfl)⟩ ⟨(Nat.le_of_ble_eq_true rfl), (Nat.le_of_ble_eq_true rfl)⟩ (va_recv hK hP (ci := 9) (q0 := 0) rfl rfl) dX6_cutAt_2 rfl (Nat.le_of_ble_eq_true rfl) [] [0] rfl (by decide) rfl (by decide) (by decide) (fun q => [(h0, .inr (9, [.ref h1, .ref h2, .ref h3, .ref h4, .ref h5]))]) (fun _ => rfl) (fun q1 H locs x9 ce9 hP hD hS h9 hv9 hcl9 => ?_)
  exact e_out (fun _ => 0) htab hlocks h9 hv9 hcl9 hP hD hS (Nat.le_of_ble_eq_true rfl) (Nat.le_of_ble_eq_true rfl)
set_option maxHeartbeats 4000000 in
set_option maxRecDepth 100000 in
theorem c200_L_cutAt (l : Launch) (hfl : l.stackTraces = false) (D : va_G) (cA : Nat → ClassId) (g : gv_T) (h0 h1 h2 h3 h4 h5 h6 : Nat) (p0 : Int32) (p1 : Int32) (k0 : p0 < 0) : CW l yL_cutAt cL_cutAt 5 (some .int) [(0, 10, 13, 21), (0, 10, 17, 13)] (RM 8 1 6 139) D cA g [.ref h0, .int p0, .int p1, .ref h1] [(h0, .inr (9, [.ref h2, .ref h3, .ref h4, .ref h5, .ref h6]))] (fun q => some (.int 1)) (fun q => [(h0, .inr (9, [.ref h2, .ref h3, .ref h4, .ref h5, .ref h6]))]) := by
  refine CW.of (by decide +kernel) (Nat.le_of_ble_eq_true rfl) ?_
  intro p e s m args below meth c A ls hx hb hr hml hown hG hlocks htab hA hS hP hK hD hGV hl
  have hown : s.vm.findClass RL = some m.cls := hown
  have hl : lv_has ls 5 [(0, .ref h0), (1, .int p0), (2, .int p1), (3, .ref h1)] := hl
  have hSF : CF p m c cL_cutAt 5 s args RL := ⟨hx, hb, hml, hown, hG⟩
  refine lv_aload_n hx hb dL_cutAt_0 rfl (lv_at hl 3 rfl) ?_
  refine lv_iconst (v := 0) hx hb dL_cutAt_1 (by decide) ?_
  refine lv_aload_n hx hb dL_cutAt_2 rfl (lv_at hl 0 rfl) ?_
  refine lv_iload_n hx hb dL_cutAt_3 rfl (lv_at hl 1 rfl) ?_
  refine lv_iload_n hx hb dL_cutAt_4 rfl (lv_at hl 2 rfl) ?_
  refine cx_V (wr := []) hSF hl.1 hP hD hS hA hK hGV (c199_X6_cutAt l hfl D cA g h0 h2 h3 h4 h5 h6 (p0) (p1) k0) goV_L_61 pd_X6_cutAt ⟨(Nat.le_of_ble_eq_true rfl), (Nat.le_of_ble_eq_true rfl)⟩ ⟨(Nat.le_of_ble_eq_true rfl), (Nat.le_of_ble_eq_true rfl)⟩ (va_recv hK hP (ci := 9) (q0 := 0) rfl rfl) dL_cutAt_5 rfl (Nat.le_of_ble_eq_true rfl) [0] [] rfl (by decide) rfl (by decide) (by decide) (fun q => [(h0, .inr (9, [.ref h2, .ref h3, .ref h4, .ref h5, .ref h6]))]) (fun _ => rfl) (fun q1 H locs x9 ce9 hP hD hS h9 hv9 hcl9 => ?_)
  refine vx_catch (own := RL) (name := "java/lang/IndexOutOfBoundsException") hown [] { startPc := 0, endPc := 10, handlerPc := 13, catchType := 21 } [{ startPc := 0, endPc := 10, handlerPc := 17, catchType := 13 }] (htab.trans rfl) (fun z hz => nomatch hz) rfl (by decide) (hG _ gw763) (va_Nw.use rfl (hGV.2.2.2.2.1 _ gw797)) h9 hv9 hcl9 ?_
  refine W.eq (g2 := F0 m 13 ls [.ref x9]) rfl ?_
  refine lv_astore (lv' := [(4, .ref x9), (0, .ref h0), (1, .int p0), (2, .int p1), (3, .ref h1)]) hx hb dL_cutAt_13 hl (by decide) rfl (fun ls hl => ?_)
  refine lv_iconst (v := 1) hx hb dL_cutAt_15 (by decide) ?_
  exact e_i (fun _ => 0) hx hb hr hlocks rfl rfl hP hD hS (Nat.le_of_ble_eq_true rfl) (Nat.le_of_ble_eq_true rfl) dL_cutAt_16
set_option maxHeartbeats 4000000 in
set_option maxRecDepth 100000 in
theorem c201_X12_cutAt (l : Launch) (hfl : l.stackTraces = false) (D : va_G) (cA : Nat → ClassId) (g : gv_T) (h0 h1 h2 h3 h4 h5 h6 h7 h8 h9 h10 h11 h12 h13 h14 h15 h16 h17 h18 : Nat) (p0 : Int32) (p1 : Int32) (k0 : (lg_cmp p0.toInt64 0) < 0) : CT l yX12_cutAt cX12_cutAt 4 (some .int) (RM 2 0 0 44) D cA g [.ref h0, .int p0, .int p1] [(h0, .inr (15, [.ref h1, .ref h2, .ref h3, .ref h4, .ref h5, .ref h6, .ref h7, .ref h8, .ref h9, .ref h10, .ref h11, .ref h12, .ref h13, .ref h14, .ref h15, .ref h16, .ref h17, .ref h18, .long 0, .int 0, .int 2, .int 0, .int 0, .int 0, .int 0, .int 0, .int 0])), (h2, .inr (2, [.int 0, .ref g.1, .int 0]))] (fun q => some (.int 0)) (fun q => [(h0, .inr (15, [.ref h1, .ref h2, .ref h3, .ref h4, .ref h5, .ref h6, .ref h7, .ref h8, .ref h9, .ref h10, .ref h11, .ref h12, .ref h13, .ref h14, .ref h15, .ref h16, .ref h17, .ref h18, .long 0, .int 1, .int 2, .int 0, .int 0, .int 0, .int 0, .int 0, .int 0])), (h2, .inr (2, [.int 0, .ref g.1, .int 0]))]) := by
  refine CT.of (by decide +kernel) (Nat.le_of_ble_eq_true rfl) ?_
  intro p e s m args below meth c A ls hx hb hr hml hown hG hlocks hnm hA hS hP hK hD hGV hl
  have hown : s.vm.findClass RX12 = some m.cls := hown
  have hl : lv_has ls 4 [(0, .ref h0), (1, .int p0), (2, .int p1)] := hl
  have hSF : CF p m c cX12_cutAt 4 s args RX12 := ⟨hx, hb, hml, hown, hG⟩
  refine lv_aload_n hx hb dX12_cutAt_0 rfl (lv_at hl 0 rfl) ?_
  refine lv_iload_n hx hb dX12_cutAt_1 rfl (lv_at hl 1 rfl) ?_
  refine ct_V (wr := []) hSF hl.1 hP hD hS hA hK hGV (c125_X12_isMember l hfl D cA g h0 h1 h2 h3 h4 h5 h6 h7 h8 h9 h10 h11 h12 h13 h14 h15 h16 h17 h18 (p0) k0) goV_X12_314 pd_X12_isMember ⟨(Nat.le_of_ble_eq_true rfl), (Nat.le_of_ble_eq_true rfl)⟩ ⟨(Nat.le_of_ble_eq_true rfl), (Nat.le_of_ble_eq_true rfl)⟩ (va_recv hK hP (ci := 15) (q0 := 0) rfl rfl) dX12_cutAt_2 rfl (Nat.le_of_ble_eq_true rfl) [0, 1] [] rfl (by decide) rfl (by decide) (by decide) (fun q => [(h0, .inr (15, [.ref h1, .ref h2, .ref h3, .ref h4, .ref h5, .ref h6, .ref h7, .ref h8, .ref h9, .ref h10, .ref h11, .ref h12, .ref h13, .ref h14, .ref h15, .ref h16, .ref h17, .ref h18, .long 0, .int 0, .int 2, .int 0, .int 0, .int 0, .int 0, .int 0, .int 0])), (h2, .inr (2, [.int 0, .ref g.1, .int 0]))]) (fun _ => rfl) (fun q1 H locs hP hD hS => ?_)
  refine W.eq (g2 := F0 m 5 ls [.int 0]) rfl ?_
  refine k_if_ne_f (tgt := 14) hx hb dX12_cutAt_5 (by decide) (by decide) ?_
  refine lv_aload_n hx hb dX12_cutAt_8 rfl (lv_at hl 0 rfl) ?_
  refine lv_iconst (v := 1) hx hb dX12_cutAt_9 (by decide) ?_
  refine ct_V (wr := [(h2, .inr (2, [.int 0, .ref g.1, .int 0]))]) hSF hl.1 hP hD hS hA hK hGV (c15_X12_fails l hfl D cA g h0 h1 h2 h3 h4 h5 h6 h7 h8 h9 h10 h11 h12 h13 h14 h15 h16 h17 h18) goV_X12_289 pd_X12_fails ⟨(Nat.le_of_ble_eq_true rfl), (Nat.le_of_ble_eq_true rfl)⟩ ⟨(Nat.le_of_ble_eq_true rfl), (Nat.le_of_ble_eq_true rfl)⟩ (va_recv hK hP (ci := 15) (q0 := 0) rfl rfl) dX12_cutAt_10 rfl (Nat.le_of_ble_eq_true rfl) [0] [1] rfl (by decide) rfl (by decide) (by decide) (fun q => [(h2, .inr (2, [.int 0, .ref g.1, .int 0])), (h0, .inr (15, [.ref h1, .ref h2, .ref h3, .ref h4, .ref h5, .ref h6, .ref h7, .ref h8, .ref h9, .ref h10, .ref h11, .ref h12, .ref h13, .ref h14, .ref h15, .ref h16, .ref h17, .ref h18, .long 0, .int 1, .int 2, .int 0, .int 0, .int 0, .int 0, .int 0, .int 0]))]) (fun _ => rfl) (fun q2 H locs hP hD hS => ?_)
  refine W.eq (g2 := F0 m 13 ls [.int 0]) rfl ?_
  exact e_i (fun _ => 0) hx hb hr hlocks rfl rfl (hP.sub [1, 0] rfl) (hD.sub [1, 0] (by decide) rfl) hS (Nat.le_of_ble_eq_true rfl) (Nat.le_of_ble_eq_true rfl) dX12_cutAt_13
set_option maxHeartbeats 4000000 in
set_option maxRecDepth 100000 in
theorem c202_X6_cutAt (l : Launch) (hfl : l.stackTraces = false) (D : va_G) (cA : Nat → ClassId) (g : gv_T) (h0 h1 h2 h3 h4 h5 h6 h7 h8 h9 h10 h11 h12 h13 h14 h15 : Nat) (p0 : Int32) (p1 : Int32) (k0 : ¬ p0 < 0) : CX l yX6_cutAt cX6_cutAt 4 (some .int) (RM 7 1 6 116) D cA g [.ref h0, .int p0, .int p1] [(h0, .inr (9, [.ref h1, .ref h2, .ref h3, .ref h4, .ref h5])), (h1, .inr (5, [.int 0, .int 0, .ref h6, .ref h7, .ref h8, .ref h9, .ref h10, .ref h11, .ref h12, .ref h13, .ref h14, .ref h15]))] "java/lang/IndexOutOfBoundsException" (fun q => [(h0, .inr (9, [.ref h1, .ref h2, .ref h3, .ref h4, .ref h5])), (h1, .inr (5, [.int 0, .int 0, .ref h6, .ref h7, .ref h8, .ref h9, .ref h10, .ref h11, .ref h12, .ref h13, .ref h14, .ref h15]))]) := by
  refine CX.of (by decide +kernel) (Nat.le_of_ble_eq_true rfl) ?_
  intro p e s m args below meth c A ls hx hb hr hml hown hG hlocks htab hA hS hP hK hD hGV hl
  have hown : s.vm.findClass RX6 = some m.cls := hown
  have hl : lv_has ls 4 [(0, .ref h0), (1, .int p0), (2, .int p1)] := hl
  have hSF : CF p m c cX6_cutAt 4 s args RX6 := ⟨hx, hb, hml, hown, hG⟩
  refine lv_aload_n hx hb dX6_cutAt_0 rfl (lv_at hl 0 rfl) ?_
  refine lv_iload_n hx hb dX6_cutAt_1 rfl (lv_at hl 1 rfl) ?_
  refine cx_V (wr := []) hSF hl.1 hP hD hS hA hK hGV (c128_X6_checkMember l hfl D cA g h0 h1 h2 h3 h4 h5 h6 h7 h8 h9 h10 h11 h12 h13 h14 h15 (p0) k0) goV_X6_118 pd_X6_checkMember ⟨(Nat.le_of_ble_eq_true rfl), (Nat.le_of_ble_eq_true rfl)⟩ ⟨(Nat.le_of_ble_eq_true rfl), (Nat.le_of_ble_eq_true rfl)⟩ (va_recv hK hP (ci := 9) (q0 := 0) rfl rfl) dX6_cutAt_2 rfl (Nat.le_of_ble_eq_true rfl) [0, 1] [] rfl (by decide) rfl (by decide) (by decide) (fun q => [(h0, .inr (9, [.ref h1, .ref h2, .ref h3, .ref h4, .ref h5])), (h1, .inr (5, [.int 0, .int 0, .ref h6, .ref h7, .ref h8, .ref h9, .ref h10, .ref h11, .ref h12, .ref h13, .ref h14, .ref h15]))]) (fun _ => rfl) (fun q1 H locs x9 ce9 hP hD hS h9 hv9 hcl9 => ?_)
  exact e_out (fun _ => 0) htab hlocks h9 hv9 hcl9 hP hD hS (Nat.le_of_ble_eq_true rfl) (Nat.le_of_ble_eq_true rfl)
set_option maxHeartbeats 4000000 in
set_option maxRecDepth 100000 in
theorem c203_L_cutAt (l : Launch) (hfl : l.stackTraces = false) (D : va_G) (cA : Nat → ClassId) (g : gv_T) (h0 h1 h2 h3 h4 h5 h6 h7 h8 h9 h10 h11 h12 h13 h14 h15 h16 : Nat) (p0 : Int32) (p1 : Int32) (k0 : ¬ p0 < 0) : CW l yL_cutAt cL_cutAt 5 (some .int) [(0, 10, 13, 21), (0, 10, 17, 13)] (RM 8 1 6 139) D cA g [.ref h0, .int p0, .int p1, .ref h1] [(h0, .inr (9, [.ref h2, .ref h3, .ref h4, .ref h5, .ref h6])), (h2, .inr (5, [.int 0, .int 0, .ref h7, .ref h8, .ref h9, .ref h10, .ref h11, .ref h12, .ref h13, .ref h14, .ref h15, .ref h16]))] (fun q => some (.int 1)) (fun q => [(h0, .inr (9, [.ref h2, .ref h3, .ref h4, .ref h5, .ref h6])), (h2, .inr (5, [.int 0, .int 0, .ref h7, .ref h8, .ref h9, .ref h10, .ref h11, .ref h12, .ref h13, .ref h14, .ref h15, .ref h16]))]) := by
  refine CW.of (by decide +kernel) (Nat.le_of_ble_eq_true rfl) ?_
  intro p e s m args below meth c A ls hx hb hr hml hown hG hlocks htab hA hS hP hK hD hGV hl
  have hown : s.vm.findClass RL = some m.cls := hown
  have hl : lv_has ls 5 [(0, .ref h0), (1, .int p0), (2, .int p1), (3, .ref h1)] := hl
  have hSF : CF p m c cL_cutAt 5 s args RL := ⟨hx, hb, hml, hown, hG⟩
  refine lv_aload_n hx hb dL_cutAt_0 rfl (lv_at hl 3 rfl) ?_
  refine lv_iconst (v := 0) hx hb dL_cutAt_1 (by decide) ?_
  refine lv_aload_n hx hb dL_cutAt_2 rfl (lv_at hl 0 rfl) ?_
  refine lv_iload_n hx hb dL_cutAt_3 rfl (lv_at hl 1 rfl) ?_
  refine lv_iload_n hx hb dL_cutAt_4 rfl (lv_at hl 2 rfl) ?_
  refine cx_V (wr := []) hSF hl.1 hP hD hS hA hK hGV (c202_X6_cutAt l hfl D cA g h0 h2 h3 h4 h5 h6 h7 h8 h9 h10 h11 h12 h13 h14 h15 h16 (p0) (p1) k0) goV_L_61 pd_X6_cutAt ⟨(Nat.le_of_ble_eq_true rfl), (Nat.le_of_ble_eq_true rfl)⟩ ⟨(Nat.le_of_ble_eq_true rfl), (Nat.le_of_ble_eq_true rfl)⟩ (va_recv hK hP (ci := 9) (q0 := 0) rfl rfl) dL_cutAt_5 rfl (Nat.le_of_ble_eq_true rfl) [0, 1] [] rfl (by decide) rfl (by decide) (by decide) (fun q => [(h0, .inr (9, [.ref h2, .ref h3, .ref h4, .ref h5, .ref h6])), (h2, .inr (5, [.int 0, .int 0, .ref h7, .ref h8, .ref h9, .ref h10, .ref h11, .ref h12, .ref h13, .ref h14, .ref h15, .ref h16]))]) (fun _ => rfl) (fun q1 H locs x9 ce9 hP hD hS h9 hv9 hcl9 => ?_)
  refine vx_catch (own := RL) (name := "java/lang/IndexOutOfBoundsException") hown [] { startPc := 0, endPc := 10, handlerPc := 13, catchType := 21 } [{ startPc := 0, endPc := 10, handlerPc := 17, catchType := 13 }] (htab.trans rfl) (fun z hz => nomatch hz) rfl (by decide) (hG _ gw763) (va_Nw.use rfl (hGV.2.2.2.2.1 _ gw797)) h9 hv9 hcl9 ?_
  refine W.eq (g2 := F0 m 13 ls [.ref x9]) rfl ?_
  refine lv_astore (lv' := [(4, .ref x9), (0, .ref h0), (1, .int p0), (2, .int p1), (3, .ref h1)]) hx hb dL_cutAt_13 hl (by decide) rfl (fun ls hl => ?_)
  refine lv_iconst (v := 1) hx hb dL_cutAt_15 (by decide) ?_
  exact e_i (fun _ => 0) hx hb hr hlocks rfl rfl hP hD hS (Nat.le_of_ble_eq_true rfl) (Nat.le_of_ble_eq_true rfl) dL_cutAt_16
set_option maxHeartbeats 4000000 in
set_option maxRecDepth 100000 in
theorem c204_X12_cutAt (l : Launch) (hfl : l.stackTraces = false) (D : va_G) (cA : Nat → ClassId) (g : gv_T) (h0 h1 h2 h3 h4 h5 h6 h7 h8 h9 h10 h11 h12 h13 h14 h15 h16 h17 h18 : Nat) (p0 : Int32) (p1 : Int32) (k0 : ¬ (lg_cmp p0.toInt64 0) < 0) (k1 : 0 < (lg_cmp p0.toInt64 (-1))) : CT l yX12_cutAt cX12_cutAt 4 (some .int) (RM 2 0 0 44) D cA g [.ref h0, .int p0, .int p1] [(h0, .inr (15, [.ref h1, .ref h2, .ref h3, .ref h4, .ref h5, .ref h6, .ref h7, .ref h8, .ref h9, .ref h10, .ref h11, .ref h12, .ref h13, .ref h14, .ref h15, .ref h16, .ref h17, .ref h18, .long 0, .int 0, .int 2, .int 0, .int 0, .int 0, .int 0, .int 0, .int 0])), (h2, .inr (2, [.int 0, .ref g.1, .int 0]))] (fun q => some (.int 0)) (fun q => [(h0, .inr (15, [.ref h1, .ref h2, .ref h3, .ref h4, .ref h5, .ref h6, .ref h7, .ref h8, .ref h9, .ref h10, .ref h11, .ref h12, .ref h13, .ref h14, .ref h15, .ref h16, .ref h17, .ref h18, .long 0, .int 1, .int 2, .int 0, .int 0, .int 0, .int 0, .int 0, .int 0])), (h2, .inr (2, [.int 0, .ref g.1, .int 0]))]) := by
  refine CT.of (by decide +kernel) (Nat.le_of_ble_eq_true rfl) ?_
  intro p e s m args below meth c A ls hx hb hr hml hown hG hlocks hnm hA hS hP hK hD hGV hl
  have hown : s.vm.findClass RX12 = some m.cls := hown
  have hl : lv_has ls 4 [(0, .ref h0), (1, .int p0), (2, .int p1)] := hl
  have hSF : CF p m c cX12_cutAt 4 s args RX12 := ⟨hx, hb, hml, hown, hG⟩
  refine lv_aload_n hx hb dX12_cutAt_0 rfl (lv_at hl 0 rfl) ?_
  refine lv_iload_n hx hb dX12_cutAt_1 rfl (lv_at hl 1 rfl) ?_
  refine ct_V (wr := []) hSF hl.1 hP hD hS hA hK hGV (c131_X12_isMember l hfl D cA g h0 h1 h2 h3 h4 h5 h6 h7 h8 h9 h10 h11 h12 h13 h14 h15 h16 h17 h18 (p0) k0 k1) goV_X12_314 pd_X12_isMember ⟨(Nat.le_of_ble_eq_true rfl), (Nat.le_of_ble_eq_true rfl)⟩ ⟨(Nat.le_of_ble_eq_true rfl), (Nat.le_of_ble_eq_true rfl)⟩ (va_recv hK hP (ci := 15) (q0 := 0) rfl rfl) dX12_cutAt_2 rfl (Nat.le_of_ble_eq_true rfl) [0, 1] [] rfl (by decide) rfl (by decide) (by decide) (fun q => [(h0, .inr (15, [.ref h1, .ref h2, .ref h3, .ref h4, .ref h5, .ref h6, .ref h7, .ref h8, .ref h9, .ref h10, .ref h11, .ref h12, .ref h13, .ref h14, .ref h15, .ref h16, .ref h17, .ref h18, .long 0, .int 0, .int 2, .int 0, .int 0, .int 0, .int 0, .int 0, .int 0])), (h2, .inr (2, [.int 0, .ref g.1, .int 0]))]) (fun _ => rfl) (fun q1 H locs hP hD hS => ?_)
  refine W.eq (g2 := F0 m 5 ls [.int 0]) rfl ?_
  refine k_if_ne_f (tgt := 14) hx hb dX12_cutAt_5 (by decide) (by decide) ?_
  refine lv_aload_n hx hb dX12_cutAt_8 rfl (lv_at hl 0 rfl) ?_
  refine lv_iconst (v := 1) hx hb dX12_cutAt_9 (by decide) ?_
  refine ct_V (wr := [(h2, .inr (2, [.int 0, .ref g.1, .int 0]))]) hSF hl.1 hP hD hS hA hK hGV (c15_X12_fails l hfl D cA g h0 h1 h2 h3 h4 h5 h6 h7 h8 h9 h10 h11 h12 h13 h14 h15 h16 h17 h18) goV_X12_289 pd_X12_fails ⟨(Nat.le_of_ble_eq_true rfl), (Nat.le_of_ble_eq_true rfl)⟩ ⟨(Nat.le_of_ble_eq_true rfl), (Nat.le_of_ble_eq_true rfl)⟩ (va_recv hK hP (ci := 15) (q0 := 0) rfl rfl) dX12_cutAt_10 rfl (Nat.le_of_ble_eq_true rfl) [0] [1] rfl (by decide) rfl (by decide) (by decide) (fun q => [(h2, .inr (2, [.int 0, .ref g.1, .int 0])), (h0, .inr (15, [.ref h1, .ref h2, .ref h3, .ref h4, .ref h5, .ref h6, .ref h7, .ref h8, .ref h9, .ref h10, .ref h11, .ref h12, .ref h13, .ref h14, .ref h15, .ref h16, .ref h17, .ref h18, .long 0, .int 1, .int 2, .int 0, .int 0, .int 0, .int 0, .int 0, .int 0]))]) (fun _ => rfl) (fun q2 H locs hP hD hS => ?_)
  refine W.eq (g2 := F0 m 13 ls [.int 0]) rfl ?_
  exact e_i (fun _ => 0) hx hb hr hlocks rfl rfl (hP.sub [1, 0] rfl) (hD.sub [1, 0] (by decide) rfl) hS (Nat.le_of_ble_eq_true rfl) (Nat.le_of_ble_eq_true rfl) dX12_cutAt_13
set_option maxHeartbeats 4000000 in
set_option maxRecDepth 100000 in
theorem c205_X6_dry (l : Launch) (hfl : l.stackTraces = false) (D : va_G) (cA : Nat → ClassId) (g : gv_T) (h0 h1 h2 h3 h4 h5 : Nat) (p0 : Int32) (p1 : Int32) (k0 : p0 < 0) : CX l yX6_dry cX6_dry 4 (some .int) (RM 7 1 6 116) D cA g [.ref h0, .int p0, .int p1] [(h0, .inr (9, [.ref h1, .ref h2, .ref h3, .ref h4, .ref h5]))] "java/lang/IndexOutOfBoundsException" (fun q => [(h0, .inr (9, [.ref h1, .ref h2, .ref h3, .ref h4, .ref h5]))]) := by
  refine CX.of (by decide +kernel) (Nat.le_of_ble_eq_true rfl) ?_
  intro p e s m args below meth c A ls hx hb hr hml hown hG hlocks htab hA hS hP hK hD hGV hl
  have hown : s.vm.findClass RX6 = some m.cls := hown
  have hl : lv_has ls 4 [(0, .ref h0), (1, .int p0), (2, .int p1)] := hl
  have hSF : CF p m c cX6_dry 4 s args RX6 := ⟨hx, hb, hml, hown, hG⟩
  refine lv_aload_n hx hb dX6_dry_0 rfl (lv_at hl 0 rfl) ?_
  refine lv_iload_n hx hb dX6_dry_1 rfl (lv_at hl 1 rfl) ?_
  refine cx_V (wr := [(h0, .inr (9, [.ref h1, .ref h2, .ref h3, .ref h4, .ref h5]))]) hSF hl.1 hP hD hS hA hK hGV (c122_X6_checkMember l hfl D cA g h0 (p0) k0) goV_X6_118 pd_X6_checkMember ⟨(Nat.le_of_ble_eq_true rfl), (Nat.le_of_ble_eq_true rfl)⟩ ⟨(Nat.le_of_ble_eq_true rfl), (Nat.le_of_ble_eq_true rfl)⟩ (va_recv hK hP (ci := 9) (q0 := 0) rfl rfl) dX6_dry_2 rfl (Nat.le_of_ble_eq_true rfl) [] [0] rfl (by decide) rfl (by decide) (by decide) (fun q => [(h0, .inr (9, [.ref h1, .ref h2, .ref h3, .ref h4, .ref h5]))]) (fun _ => rfl) (fun q1 H locs x9 ce9 hP hD hS h9 hv9 hcl9 => ?_)
  exact e_out (fun _ => 0) htab hlocks h9 hv9 hcl9 hP hD hS (Nat.le_of_ble_eq_true rfl) (Nat.le_of_ble_eq_true rfl)
set_option maxHeartbeats 4000000 in
set_option maxRecDepth 100000 in
theorem c206_L_dry (l : Launch) (hfl : l.stackTraces = false) (D : va_G) (cA : Nat → ClassId) (g : gv_T) (h0 h1 h2 h3 h4 h5 h6 : Nat) (p0 : Int32) (p1 : Int32) (k0 : p0 < 0) : CW l yL_dry cL_dry 5 (some .int) [(0, 10, 13, 21), (0, 10, 17, 13)] (RM 8 1 6 139) D cA g [.ref h0, .int p0, .int p1, .ref h1] [(h0, .inr (9, [.ref h2, .ref h3, .ref h4, .ref h5, .ref h6]))] (fun q => some (.int 1)) (fun q => [(h0, .inr (9, [.ref h2, .ref h3, .ref h4, .ref h5, .ref h6]))]) := by
  refine CW.of (by decide +kernel) (Nat.le_of_ble_eq_true rfl) ?_
  intro p e s m args below meth c A ls hx hb hr hml hown hG hlocks htab hA hS hP hK hD hGV hl
  have hown : s.vm.findClass RL = some m.cls := hown
  have hl : lv_has ls 5 [(0, .ref h0), (1, .int p0), (2, .int p1), (3, .ref h1)] := hl
  have hSF : CF p m c cL_dry 5 s args RL := ⟨hx, hb, hml, hown, hG⟩
  refine lv_aload_n hx hb dL_dry_0 rfl (lv_at hl 3 rfl) ?_
  refine lv_iconst (v := 0) hx hb dL_dry_1 (by decide) ?_
  refine lv_aload_n hx hb dL_dry_2 rfl (lv_at hl 0 rfl) ?_
  refine lv_iload_n hx hb dL_dry_3 rfl (lv_at hl 1 rfl) ?_
  refine lv_iload_n hx hb dL_dry_4 rfl (lv_at hl 2 rfl) ?_
  refine cx_V (wr := []) hSF hl.1 hP hD hS hA hK hGV (c205_X6_dry l hfl D cA g h0 h2 h3 h4 h5 h6 (p0) (p1) k0) goV_L_65 pd_X6_dry ⟨(Nat.le_of_ble_eq_true rfl), (Nat.le_of_ble_eq_true rfl)⟩ ⟨(Nat.le_of_ble_eq_true rfl), (Nat.le_of_ble_eq_true rfl)⟩ (va_recv hK hP (ci := 9) (q0 := 0) rfl rfl) dL_dry_5 rfl (Nat.le_of_ble_eq_true rfl) [0] [] rfl (by decide) rfl (by decide) (by decide) (fun q => [(h0, .inr (9, [.ref h2, .ref h3, .ref h4, .ref h5, .ref h6]))]) (fun _ => rfl) (fun q1 H locs x9 ce9 hP hD hS h9 hv9 hcl9 => ?_)
  refine vx_catch (own := RL) (name := "java/lang/IndexOutOfBoundsException") hown [] { startPc := 0, endPc := 10, handlerPc := 13, catchType := 21 } [{ startPc := 0, endPc := 10, handlerPc := 17, catchType := 13 }] (htab.trans rfl) (fun z hz => nomatch hz) rfl (by decide) (hG _ gw763) (va_Nw.use rfl (hGV.2.2.2.2.1 _ gw797)) h9 hv9 hcl9 ?_
  refine W.eq (g2 := F0 m 13 ls [.ref x9]) rfl ?_
  refine lv_astore (lv' := [(4, .ref x9), (0, .ref h0), (1, .int p0), (2, .int p1), (3, .ref h1)]) hx hb dL_dry_13 hl (by decide) rfl (fun ls hl => ?_)
  refine lv_iconst (v := 1) hx hb dL_dry_15 (by decide) ?_
  exact e_i (fun _ => 0) hx hb hr hlocks rfl rfl hP hD hS (Nat.le_of_ble_eq_true rfl) (Nat.le_of_ble_eq_true rfl) dL_dry_16
set_option maxHeartbeats 4000000 in
set_option maxRecDepth 100000 in
theorem c207_X12_dry (l : Launch) (hfl : l.stackTraces = false) (D : va_G) (cA : Nat → ClassId) (g : gv_T) (h0 h1 h2 h3 h4 h5 h6 h7 h8 h9 h10 h11 h12 h13 h14 h15 h16 h17 h18 : Nat) (p0 : Int32) (p1 : Int32) (k0 : (lg_cmp p0.toInt64 0) < 0) : CT l yX12_dry cX12_dry 4 (some .int) (RM 2 0 0 44) D cA g [.ref h0, .int p0, .int p1] [(h0, .inr (15, [.ref h1, .ref h2, .ref h3, .ref h4, .ref h5, .ref h6, .ref h7, .ref h8, .ref h9, .ref h10, .ref h11, .ref h12, .ref h13, .ref h14, .ref h15, .ref h16, .ref h17, .ref h18, .long 0, .int 0, .int 2, .int 0, .int 0, .int 0, .int 0, .int 0, .int 0])), (h2, .inr (2, [.int 0, .ref g.1, .int 0]))] (fun q => some (.int 0)) (fun q => [(h0, .inr (15, [.ref h1, .ref h2, .ref h3, .ref h4, .ref h5, .ref h6, .ref h7, .ref h8, .ref h9, .ref h10, .ref h11, .ref h12, .ref h13, .ref h14, .ref h15, .ref h16, .ref h17, .ref h18, .long 0, .int 1, .int 2, .int 0, .int 0, .int 0, .int 0, .int 0, .int 0])), (h2, .inr (2, [.int 0, .ref g.1, .int 0]))]) := by
  refine CT.of (by decide +kernel) (Nat.le_of_ble_eq_true rfl) ?_
  intro p e s m args below meth c A ls hx hb hr hml hown hG hlocks hnm hA hS hP hK hD hGV hl
  have hown : s.vm.findClass RX12 = some m.cls := hown
  have hl : lv_has ls 4 [(0, .ref h0), (1, .int p0), (2, .int p1)] := hl
  have hSF : CF p m c cX12_dry 4 s args RX12 := ⟨hx, hb, hml, hown, hG⟩
  refine lv_aload_n hx hb dX12_dry_0 rfl (lv_at hl 0 rfl) ?_
  refine lv_iload_n hx hb dX12_dry_1 rfl (lv_at hl 1 rfl) ?_
  refine ct_V (wr := []) hSF hl.1 hP hD hS hA hK hGV (c125_X12_isMember l hfl D cA g h0 h1 h2 h3 h4 h5 h6 h7 h8 h9 h10 h11 h12 h13 h14 h15 h16 h17 h18 (p0) k0) goV_X12_314 pd_X12_isMember ⟨(Nat.le_of_ble_eq_true rfl), (Nat.le_of_ble_eq_true rfl)⟩ ⟨(Nat.le_of_ble_eq_true rfl), (Nat.le_of_ble_eq_true rfl)⟩ (va_recv hK hP (ci := 15) (q0 := 0) rfl rfl) dX12_dry_2 rfl (Nat.le_of_ble_eq_true rfl) [0, 1] [] rfl (by decide) rfl (by decide) (by decide) (fun q => [(h0, .inr (15, [.ref h1, .ref h2, .ref h3, .ref h4, .ref h5, .ref h6, .ref h7, .ref h8, .ref h9, .ref h10, .ref h11, .ref h12, .ref h13, .ref h14, .ref h15, .ref h16, .ref h17, .ref h18, .long 0, .int 0, .int 2, .int 0, .int 0, .int 0, .int 0, .int 0, .int 0])), (h2, .inr (2, [.int 0, .ref g.1, .int 0]))]) (fun _ => rfl) (fun q1 H locs hP hD hS => ?_)
  refine W.eq (g2 := F0 m 5 ls [.int 0]) rfl ?_
  refine k_if_ne_f (tgt := 14) hx hb dX12_dry_5 (by decide) (by decide) ?_
  refine lv_aload_n hx hb dX12_dry_8 rfl (lv_at hl 0 rfl) ?_
  refine lv_iconst (v := 1) hx hb dX12_dry_9 (by decide) ?_
  refine ct_V (wr := [(h2, .inr (2, [.int 0, .ref g.1, .int 0]))]) hSF hl.1 hP hD hS hA hK hGV (c15_X12_fails l hfl D cA g h0 h1 h2 h3 h4 h5 h6 h7 h8 h9 h10 h11 h12 h13 h14 h15 h16 h17 h18) goV_X12_289 pd_X12_fails ⟨(Nat.le_of_ble_eq_true rfl), (Nat.le_of_ble_eq_true rfl)⟩ ⟨(Nat.le_of_ble_eq_true rfl), (Nat.le_of_ble_eq_true rfl)⟩ (va_recv hK hP (ci := 15) (q0 := 0) rfl rfl) dX12_dry_10 rfl (Nat.le_of_ble_eq_true rfl) [0] [1] rfl (by decide) rfl (by decide) (by decide) (fun q => [(h2, .inr (2, [.int 0, .ref g.1, .int 0])), (h0, .inr (15, [.ref h1, .ref h2, .ref h3, .ref h4, .ref h5, .ref h6, .ref h7, .ref h8, .ref h9, .ref h10, .ref h11, .ref h12, .ref h13, .ref h14, .ref h15, .ref h16, .ref h17, .ref h18, .long 0, .int 1, .int 2, .int 0, .int 0, .int 0, .int 0, .int 0, .int 0]))]) (fun _ => rfl) (fun q2 H locs hP hD hS => ?_)
  refine W.eq (g2 := F0 m 13 ls [.int 0]) rfl ?_
  exact e_i (fun _ => 0) hx hb hr hlocks rfl rfl (hP.sub [1, 0] rfl) (hD.sub [1, 0] (by decide) rfl) hS (Nat.le_of_ble_eq_true rfl) (Nat.le_of_ble_eq_true rfl) dX12_dry_13
set_option maxHeartbeats 4000000 in
set_option maxRecDepth 100000 in
theorem c208_X6_dry (l : Launch) (hfl : l.stackTraces = false) (D : va_G) (cA : Nat → ClassId) (g : gv_T) (h0 h1 h2 h3 h4 h5 h6 h7 h8 h9 h10 h11 h12 h13 h14 h15 : Nat) (p0 : Int32) (p1 : Int32) (k0 : ¬ p0 < 0) : CX l yX6_dry cX6_dry 4 (some .int) (RM 7 1 6 116) D cA g [.ref h0, .int p0, .int p1] [(h0, .inr (9, [.ref h1, .ref h2, .ref h3, .ref h4, .ref h5])), (h1, .inr (5, [.int 0, .int 0, .ref h6, .ref h7, .ref h8, .ref h9, .ref h10, .ref h11, .ref h12, .ref h13, .ref h14, .ref h15]))] "java/lang/IndexOutOfBoundsException" (fun q => [(h0, .inr (9, [.ref h1, .ref h2, .ref h3, .ref h4, .ref h5])), (h1, .inr (5, [.int 0, .int 0, .ref h6, .ref h7, .ref h8, .ref h9, .ref h10, .ref h11, .ref h12, .ref h13, .ref h14, .ref h15]))]) := by
  refine CX.of (by decide +kernel) (Nat.le_of_ble_eq_true rfl) ?_
  intro p e s m args below meth c A ls hx hb hr hml hown hG hlocks htab hA hS hP hK hD hGV hl
  have hown : s.vm.findClass RX6 = some m.cls := hown
  have hl : lv_has ls 4 [(0, .ref h0), (1, .int p0), (2, .int p1)] := hl
  have hSF : CF p m c cX6_dry 4 s args RX6 := ⟨hx, hb, hml, hown, hG⟩
  refine lv_aload_n hx hb dX6_dry_0 rfl (lv_at hl 0 rfl) ?_
  refine lv_iload_n hx hb dX6_dry_1 rfl (lv_at hl 1 rfl) ?_
  refine cx_V (wr := []) hSF hl.1 hP hD hS hA hK hGV (c128_X6_checkMember l hfl D cA g h0 h1 h2 h3 h4 h5 h6 h7 h8 h9 h10 h11 h12 h13 h14 h15 (p0) k0) goV_X6_118 pd_X6_checkMember ⟨(Nat.le_of_ble_eq_true rfl), (Nat.le_of_ble_eq_true rfl)⟩ ⟨(Nat.le_of_ble_eq_true rfl), (Nat.le_of_ble_eq_true rfl)⟩ (va_recv hK hP (ci := 9) (q0 := 0) rfl rfl) dX6_dry_2 rfl (Nat.le_of_ble_eq_true rfl) [0, 1] [] rfl (by decide) rfl (by decide) (by decide) (fun q => [(h0, .inr (9, [.ref h1, .ref h2, .ref h3, .ref h4, .ref h5])), (h1, .inr (5, [.int 0, .int 0, .ref h6, .ref h7, .ref h8, .ref h9, .ref h10, .ref h11, .ref h12, .ref h13, .ref h14, .ref h15]))]) (fun _ => rfl) (fun q1 H locs x9 ce9 hP hD hS h9 hv9 hcl9 => ?_)
  exact e_out (fun _ => 0) htab hlocks h9 hv9 hcl9 hP hD hS (Nat.le_of_ble_eq_true rfl) (Nat.le_of_ble_eq_true rfl)
set_option maxHeartbeats 4000000 in
set_option maxRecDepth 100000 in
theorem c209_L_dry (l : Launch) (hfl : l.stackTraces = false) (D : va_G) (cA : Nat → ClassId) (g : gv_T) (h0 h1 h2 h3 h4 h5 h6 h7 h8 h9 h10 h11 h12 h13 h14 h15 h16 : Nat) (p0 : Int32) (p1 : Int32) (k0 : ¬ p0 < 0) : CW l yL_dry cL_dry 5 (some .int) [(0, 10, 13, 21), (0, 10, 17, 13)] (RM 8 1 6 139) D cA g [.ref h0, .int p0, .int p1, .ref h1] [(h0, .inr (9, [.ref h2, .ref h3, .ref h4, .ref h5, .ref h6])), (h2, .inr (5, [.int 0, .int 0, .ref h7, .ref h8, .ref h9, .ref h10, .ref h11, .ref h12, .ref h13, .ref h14, .ref h15, .ref h16]))] (fun q => some (.int 1)) (fun q => [(h0, .inr (9, [.ref h2, .ref h3, .ref h4, .ref h5, .ref h6])), (h2, .inr (5, [.int 0, .int 0, .ref h7, .ref h8, .ref h9, .ref h10, .ref h11, .ref h12, .ref h13, .ref h14, .ref h15, .ref h16]))]) := by
  refine CW.of (by decide +kernel) (Nat.le_of_ble_eq_true rfl) ?_
  intro p e s m args below meth c A ls hx hb hr hml hown hG hlocks htab hA hS hP hK hD hGV hl
  have hown : s.vm.findClass RL = some m.cls := hown
  have hl : lv_has ls 5 [(0, .ref h0), (1, .int p0), (2, .int p1), (3, .ref h1)] := hl
  have hSF : CF p m c cL_dry 5 s args RL := ⟨hx, hb, hml, hown, hG⟩
  refine lv_aload_n hx hb dL_dry_0 rfl (lv_at hl 3 rfl) ?_
  refine lv_iconst (v := 0) hx hb dL_dry_1 (by decide) ?_
  refine lv_aload_n hx hb dL_dry_2 rfl (lv_at hl 0 rfl) ?_
  refine lv_iload_n hx hb dL_dry_3 rfl (lv_at hl 1 rfl) ?_
  refine lv_iload_n hx hb dL_dry_4 rfl (lv_at hl 2 rfl) ?_
  refine cx_V (wr := []) hSF hl.1 hP hD hS hA hK hGV (c208_X6_dry l hfl D cA g h0 h2 h3 h4 h5 h6 h7 h8 h9 h10 h11 h12 h13 h14 h15 h16 (p0) (p1) k0) goV_L_65 pd_X6_dry ⟨(Nat.le_of_ble_eq_true rfl), (Nat.le_of_ble_eq_true rfl)⟩ ⟨(Nat.le_of_ble_eq_true rfl), (Nat.le_of_ble_eq_true rfl)⟩ (va_recv hK hP (ci := 9) (q0 := 0) rfl rfl) dL_dry_5 rfl (Nat.le_of_ble_eq_true rfl) [0, 1] [] rfl (by decide) rfl (by decide) (by decide) (fun q => [(h0, .inr (9, [.ref h2, .ref h3, .ref h4, .ref h5, .ref h6])), (h2, .inr (5, [.int 0, .int 0, .ref h7, .ref h8, .ref h9, .ref h10, .ref h11, .ref h12, .ref h13, .ref h14, .ref h15, .ref h16]))]) (fun _ => rfl) (fun q1 H locs x9 ce9 hP hD hS h9 hv9 hcl9 => ?_)
  refine vx_catch (own := RL) (name := "java/lang/IndexOutOfBoundsException") hown [] { startPc := 0, endPc := 10, handlerPc := 13, catchType := 21 } [{ startPc := 0, endPc := 10, handlerPc := 17, catchType := 13 }] (htab.trans rfl) (fun z hz => nomatch hz) rfl (by decide) (hG _ gw763) (va_Nw.use rfl (hGV.2.2.2.2.1 _ gw797)) h9 hv9 hcl9 ?_
  refine W.eq (g2 := F0 m 13 ls [.ref x9]) rfl ?_
  refine lv_astore (lv' := [(4, .ref x9), (0, .ref h0), (1, .int p0), (2, .int p1), (3, .ref h1)]) hx hb dL_dry_13 hl (by decide) rfl (fun ls hl => ?_)
  refine lv_iconst (v := 1) hx hb dL_dry_15 (by decide) ?_
  exact e_i (fun _ => 0) hx hb hr hlocks rfl rfl hP hD hS (Nat.le_of_ble_eq_true rfl) (Nat.le_of_ble_eq_true rfl) dL_dry_16
set_option maxHeartbeats 4000000 in
set_option maxRecDepth 100000 in
theorem c210_X12_dry (l : Launch) (hfl : l.stackTraces = false) (D : va_G) (cA : Nat → ClassId) (g : gv_T) (h0 h1 h2 h3 h4 h5 h6 h7 h8 h9 h10 h11 h12 h13 h14 h15 h16 h17 h18 : Nat) (p0 : Int32) (p1 : Int32) (k0 : ¬ (lg_cmp p0.toInt64 0) < 0) (k1 : 0 < (lg_cmp p0.toInt64 (-1))) : CT l yX12_dry cX12_dry 4 (some .int) (RM 2 0 0 44) D cA g [.ref h0, .int p0, .int p1] [(h0, .inr (15, [.ref h1, .ref h2, .ref h3, .ref h4, .ref h5, .ref h6, .ref h7, .ref h8, .ref h9, .ref h10, .ref h11, .ref h12, .ref h13, .ref h14, .ref h15, .ref h16, .ref h17, .ref h18, .long 0, .int 0, .int 2, .int 0, .int 0, .int 0, .int 0, .int 0, .int 0])), (h2, .inr (2, [.int 0, .ref g.1, .int 0]))] (fun q => some (.int 0)) (fun q => [(h0, .inr (15, [.ref h1, .ref h2, .ref h3, .ref h4, .ref h5, .ref h6, .ref h7, .ref h8, .ref h9, .ref h10, .ref h11, .ref h12, .ref h13, .ref h14, .ref h15, .ref h16, .ref h17, .ref h18, .long 0, .int 1, .int 2, .int 0, .int 0, .int 0, .int 0, .int 0, .int 0])), (h2, .inr (2, [.int 0, .ref g.1, .int 0]))]) := by
  refine CT.of (by decide +kernel) (Nat.le_of_ble_eq_true rfl) ?_
  intro p e s m args below meth c A ls hx hb hr hml hown hG hlocks hnm hA hS hP hK hD hGV hl
  have hown : s.vm.findClass RX12 = some m.cls := hown
  have hl : lv_has ls 4 [(0, .ref h0), (1, .int p0), (2, .int p1)] := hl
  have hSF : CF p m c cX12_dry 4 s args RX12 := ⟨hx, hb, hml, hown, hG⟩
  refine lv_aload_n hx hb dX12_dry_0 rfl (lv_at hl 0 rfl) ?_
  refine lv_iload_n hx hb dX12_dry_1 rfl (lv_at hl 1 rfl) ?_
  refine ct_V (wr := []) hSF hl.1 hP hD hS hA hK hGV (c131_X12_isMember l hfl D cA g h0 h1 h2 h3 h4 h5 h6 h7 h8 h9 h10 h11 h12 h13 h14 h15 h16 h17 h18 (p0) k0 k1) goV_X12_314 pd_X12_isMember ⟨(Nat.le_of_ble_eq_true rfl), (Nat.le_of_ble_eq_true rfl)⟩ ⟨(Nat.le_of_ble_eq_true rfl), (Nat.le_of_ble_eq_true rfl)⟩ (va_recv hK hP (ci := 15) (q0 := 0) rfl rfl) dX12_dry_2 rfl (Nat.le_of_ble_eq_true rfl) [0, 1] [] rfl (by decide) rfl (by decide) (by decide) (fun q => [(h0, .inr (15, [.ref h1, .ref h2, .ref h3, .ref h4, .ref h5, .ref h6, .ref h7, .ref h8, .ref h9, .ref h10, .ref h11, .ref h12, .ref h13, .ref h14, .ref h15, .ref h16, .ref h17, .ref h18, .long 0, .int 0, .int 2, .int 0, .int 0, .int 0, .int 0, .int 0, .int 0])), (h2, .inr (2, [.int 0, .ref g.1, .int 0]))]) (fun _ => rfl) (fun q1 H locs hP hD hS => ?_)
  refine W.eq (g2 := F0 m 5 ls [.int 0]) rfl ?_
  refine k_if_ne_f (tgt := 14) hx hb dX12_dry_5 (by decide) (by decide) ?_
  refine lv_aload_n hx hb dX12_dry_8 rfl (lv_at hl 0 rfl) ?_
  refine lv_iconst (v := 1) hx hb dX12_dry_9 (by decide) ?_
  refine ct_V (wr := [(h2, .inr (2, [.int 0, .ref g.1, .int 0]))]) hSF hl.1 hP hD hS hA hK hGV (c15_X12_fails l hfl D cA g h0 h1 h2 h3 h4 h5 h6 h7 h8 h9 h10 h11 h12 h13 h14 h15 h16 h17 h18) goV_X12_289 pd_X12_fails ⟨(Nat.le_of_ble_eq_true rfl), (Nat.le_of_ble_eq_true rfl)⟩ ⟨(Nat.le_of_ble_eq_true rfl), (Nat.le_of_ble_eq_true rfl)⟩ (va_recv hK hP (ci := 15) (q0 := 0) rfl rfl) dX12_dry_10 rfl (Nat.le_of_ble_eq_true rfl) [0] [1] rfl (by decide) rfl (by decide) (by decide) (fun q => [(h2, .inr (2, [.int 0, .ref g.1, .int 0])), (h0, .inr (15, [.ref h1, .ref h2, .ref h3, .ref h4, .ref h5, .ref h6, .ref h7, .ref h8, .ref h9, .ref h10, .ref h11, .ref h12, .ref h13, .ref h14, .ref h15, .ref h16, .ref h17, .ref h18, .long 0, .int 1, .int 2, .int 0, .int 0, .int 0, .int 0, .int 0, .int 0]))]) (fun _ => rfl) (fun q2 H locs hP hD hS => ?_)
  refine W.eq (g2 := F0 m 13 ls [.int 0]) rfl ?_
  exact e_i (fun _ => 0) hx hb hr hlocks rfl rfl (hP.sub [1, 0] rfl) (hD.sub [1, 0] (by decide) rfl) hS (Nat.le_of_ble_eq_true rfl) (Nat.le_of_ble_eq_true rfl) dX12_dry_13
set_option maxHeartbeats 4000000 in
set_option maxRecDepth 100000 in
theorem c211_X6_gap (l : Launch) (hfl : l.stackTraces = false) (D : va_G) (cA : Nat → ClassId) (g : gv_T) (h0 h1 h2 h3 h4 h5 : Nat) (p0 : Int32) (k0 : p0 < 0) : CX l yX6_gap cX6_gap 2 (some .int) (RM 7 1 6 116) D cA g [.ref h0, .int p0] [(h0, .inr (9, [.ref h1, .ref h2, .ref h3, .ref h4, .ref h5]))] "java/lang/IndexOutOfBoundsException" (fun q => [(h0, .inr (9, [.ref h1, .ref h2, .ref h3, .ref h4, .ref h5]))]) := by
  refine CX.of (by decide +kernel) (Nat.le_of_ble_eq_true rfl) ?_
  intro p e s m args below meth c A ls hx hb hr hml hown hG hlocks htab hA hS hP hK hD hGV hl
  have hown : s.vm.findClass RX6 = some m.cls := hown
  have hl : lv_has ls 2 [(0, .ref h0), (1, .int p0)] := hl
  have hSF : CF p m c cX6_gap 2 s args RX6 := ⟨hx, hb, hml, hown, hG⟩
  refine lv_aload_n hx hb dX6_gap_0 rfl (lv_at hl 0 rfl) ?_
  refine lv_iload_n hx hb dX6_gap_1 rfl (lv_at hl 1 rfl) ?_
  refine cx_V (wr := [(h0, .inr (9, [.ref h1, .ref h2, .ref h3, .ref h4, .ref h5]))]) hSF hl.1 hP hD hS hA hK hGV (c181_X6_checkJoint l hfl D cA g h0 (p0) k0) goV_X6_179 pd_X6_checkJoint ⟨(Nat.le_of_ble_eq_true rfl), (Nat.le_of_ble_eq_true rfl)⟩ ⟨(Nat.le_of_ble_eq_true rfl), (Nat.le_of_ble_eq_true rfl)⟩ (va_recv hK hP (ci := 9) (q0 := 0) rfl rfl) dX6_gap_2 rfl (Nat.le_of_ble_eq_true rfl) [] [0] rfl (by decide) rfl (by decide) (by decide) (fun q => [(h0, .inr (9, [.ref h1, .ref h2, .ref h3, .ref h4, .ref h5]))]) (fun _ => rfl) (fun q1 H locs x9 ce9 hP hD hS h9 hv9 hcl9 => ?_)
  exact e_out (fun _ => 0) htab hlocks h9 hv9 hcl9 hP hD hS (Nat.le_of_ble_eq_true rfl) (Nat.le_of_ble_eq_true rfl)
set_option maxHeartbeats 4000000 in
set_option maxRecDepth 100000 in
theorem c212_L_gap (l : Launch) (hfl : l.stackTraces = false) (D : va_G) (cA : Nat → ClassId) (g : gv_T) (h0 h1 h2 h3 h4 h5 h6 : Nat) (p0 : Int32) (k0 : p0 < 0) : CW l yL_gap cL_gap 4 (some .int) [(0, 9, 12, 21)] (RM 8 1 6 137) D cA g [.ref h0, .int p0, .ref h1] [(h0, .inr (9, [.ref h2, .ref h3, .ref h4, .ref h5, .ref h6]))] (fun q => some (.int 1)) (fun q => [(h0, .inr (9, [.ref h2, .ref h3, .ref h4, .ref h5, .ref h6]))]) := by
  refine CW.of (by decide +kernel) (Nat.le_of_ble_eq_true rfl) ?_
  intro p e s m args below meth c A ls hx hb hr hml hown hG hlocks htab hA hS hP hK hD hGV hl
  have hown : s.vm.findClass RL = some m.cls := hown
  have hl : lv_has ls 4 [(0, .ref h0), (1, .int p0), (2, .ref h1)] := hl
  have hSF : CF p m c cL_gap 4 s args RL := ⟨hx, hb, hml, hown, hG⟩
  refine lv_aload_n hx hb dL_gap_0 rfl (lv_at hl 2 rfl) ?_
  refine lv_iconst (v := 0) hx hb dL_gap_1 (by decide) ?_
  refine lv_aload_n hx hb dL_gap_2 rfl (lv_at hl 0 rfl) ?_
  refine lv_iload_n hx hb dL_gap_3 rfl (lv_at hl 1 rfl) ?_
  refine cx_V (wr := []) hSF hl.1 hP hD hS hA hK hGV (c211_X6_gap l hfl D cA g h0 h2 h3 h4 h5 h6 (p0) k0) goV_L_68 pd_X6_gap ⟨(Nat.le_of_ble_eq_true rfl), (Nat.le_of_ble_eq_true rfl)⟩ ⟨(Nat.le_of_ble_eq_true rfl), (Nat.le_of_ble_eq_true rfl)⟩ (va_recv hK hP (ci := 9) (q0 := 0) rfl rfl) dL_gap_4 rfl (Nat.le_of_ble_eq_true rfl) [0] [] rfl (by decide) rfl (by decide) (by decide) (fun q => [(h0, .inr (9, [.ref h2, .ref h3, .ref h4, .ref h5, .ref h6]))]) (fun _ => rfl) (fun q1 H locs x9 ce9 hP hD hS h9 hv9 hcl9 => ?_)
  refine vx_catch (own := RL) (name := "java/lang/IndexOutOfBoundsException") hown [] { startPc := 0, endPc := 9, handlerPc := 12, catchType := 21 } [] (htab.trans rfl) (fun z hz => nomatch hz) rfl (by decide) (hG _ gw763) (va_Nw.use rfl (hGV.2.2.2.2.1 _ gw797)) h9 hv9 hcl9 ?_
  refine W.eq (g2 := F0 m 12 ls [.ref x9]) rfl ?_
  refine lv_astore_n (lv' := [(3, .ref x9), (0, .ref h0), (1, .int p0), (2, .ref h1)]) hx hb dL_gap_12 rfl hl (by decide) rfl (fun ls hl => ?_)
  refine lv_iconst (v := 1) hx hb dL_gap_13 (by decide) ?_
  exact e_i (fun _ => 0) hx hb hr hlocks rfl rfl hP hD hS (Nat.le_of_ble_eq_true rfl) (Nat.le_of_ble_eq_true rfl) dL_gap_14
set_option maxHeartbeats 4000000 in
set_option maxRecDepth 100000 in
theorem c213_X12_gap (l : Launch) (hfl : l.stackTraces = false) (D : va_G) (cA : Nat → ClassId) (g : gv_T) (h0 h1 h2 h3 h4 h5 h6 h7 h8 h9 h10 h11 h12 h13 h14 h15 h16 h17 h18 : Nat) (p0 : Int32) (k0 : (lg_cmp p0.toInt64 0) < 0) : CT l yX12_gap cX12_gap 2 (some .int) (RM 2 0 0 44) D cA g [.ref h0, .int p0] [(h0, .inr (15, [.ref h1, .ref h2, .ref h3, .ref h4, .ref h5, .ref h6, .ref h7, .ref h8, .ref h9, .ref h10, .ref h11, .ref h12, .ref h13, .ref h14, .ref h15, .ref h16, .ref h17, .ref h18, .long 0, .int 0, .int 2, .int 0, .int 0, .int 0, .int 0, .int 0, .int 0])), (h3, .inr (2, [.int 0, .ref g.1, .int 0]))] (fun q => some (.int 0)) (fun q => [(h0, .inr (15, [.ref h1, .ref h2, .ref h3, .ref h4, .ref h5, .ref h6, .ref h7, .ref h8, .ref h9, .ref h10, .ref h11, .ref h12, .ref h13, .ref h14, .ref h15, .ref h16, .ref h17, .ref h18, .long 0, .int 1, .int 2, .int 0, .int 0, .int 0, .int 0, .int 0, .int 0])), (h3, .inr (2, [.int 0, .ref g.1, .int 0]))]) := by
  refine CT.of (by decide +kernel) (Nat.le_of_ble_eq_true rfl) ?_
  intro p e s m args below meth c A ls hx hb hr hml hown hG hlocks hnm hA hS hP hK hD hGV hl
  have hown : s.vm.findClass RX12 = some m.cls := hown
  have hl : lv_has ls 2 [(0, .ref h0), (1, .int p0)] := hl
  have hSF : CF p m c cX12_gap 2 s args RX12 := ⟨hx, hb, hml, hown, hG⟩
  refine lv_aload_n hx hb dX12_gap_0 rfl (lv_at hl 0 rfl) ?_
  refine lv_iload_n hx hb dX12_gap_1 rfl (lv_at hl 1 rfl) ?_
  refine ct_V (wr := []) hSF hl.1 hP hD hS hA hK hGV (c184_X12_isJoint l hfl D cA g h0 h1 h2 h3 h4 h5 h6 h7 h8 h9 h10 h11 h12 h13 h14 h15 h16 h17 h18 (p0) k0) goV_X12_363 pd_X12_isJoint ⟨(Nat.le_of_ble_eq_true rfl), (Nat.le_of_ble_eq_true rfl)⟩ ⟨(Nat.le_of_ble_eq_true rfl), (Nat.le_of_ble_eq_true rfl)⟩ (va_recv hK hP (ci := 15) (q0 := 0) rfl rfl) dX12_gap_2 rfl (Nat.le_of_ble_eq_true rfl) [0, 1] [] rfl (by decide) rfl (by decide) (by decide) (fun q => [(h0, .inr (15, [.ref h1, .ref h2, .ref h3, .ref h4, .ref h5, .ref h6, .ref h7, .ref h8, .ref h9, .ref h10, .ref h11, .ref h12, .ref h13, .ref h14, .ref h15, .ref h16, .ref h17, .ref h18, .long 0, .int 0, .int 2, .int 0, .int 0, .int 0, .int 0, .int 0, .int 0])), (h3, .inr (2, [.int 0, .ref g.1, .int 0]))]) (fun _ => rfl) (fun q1 H locs hP hD hS => ?_)
  refine W.eq (g2 := F0 m 5 ls [.int 0]) rfl ?_
  refine k_if_eq_t (tgt := 30) hx hb dX12_gap_5 (by decide) (by decide) ?_
  refine lv_aload_n hx hb dX12_gap_30 rfl (lv_at hl 0 rfl) ?_
  refine lv_iconst (v := 1) hx hb dX12_gap_31 (by decide) ?_
  refine ct_V (wr := [(h3, .inr (2, [.int 0, .ref g.1, .int 0]))]) hSF hl.1 hP hD hS hA hK hGV (c15_X12_fails l hfl D cA g h0 h1 h2 h3 h4 h5 h6 h7 h8 h9 h10 h11 h12 h13 h14 h15 h16 h17 h18) goV_X12_289 pd_X12_fails ⟨(Nat.le_of_ble_eq_true rfl), (Nat.le_of_ble_eq_true rfl)⟩ ⟨(Nat.le_of_ble_eq_true rfl), (Nat.le_of_ble_eq_true rfl)⟩ (va_recv hK hP (ci := 15) (q0 := 0) rfl rfl) dX12_gap_32 rfl (Nat.le_of_ble_eq_true rfl) [0] [1] rfl (by decide) rfl (by decide) (by decide) (fun q => [(h3, .inr (2, [.int 0, .ref g.1, .int 0])), (h0, .inr (15, [.ref h1, .ref h2, .ref h3, .ref h4, .ref h5, .ref h6, .ref h7, .ref h8, .ref h9, .ref h10, .ref h11, .ref h12, .ref h13, .ref h14, .ref h15, .ref h16, .ref h17, .ref h18, .long 0, .int 1, .int 2, .int 0, .int 0, .int 0, .int 0, .int 0, .int 0]))]) (fun _ => rfl) (fun q2 H locs hP hD hS => ?_)
  refine W.eq (g2 := F0 m 35 ls [.int 0]) rfl ?_
  exact e_i (fun _ => 0) hx hb hr hlocks rfl rfl (hP.sub [1, 0] rfl) (hD.sub [1, 0] (by decide) rfl) hS (Nat.le_of_ble_eq_true rfl) (Nat.le_of_ble_eq_true rfl) dX12_gap_35
set_option maxHeartbeats 4000000 in
set_option maxRecDepth 100000 in
theorem c214_X6_gap (l : Launch) (hfl : l.stackTraces = false) (D : va_G) (cA : Nat → ClassId) (g : gv_T) (h0 h1 h2 h3 h4 h5 h6 h7 h8 h9 h10 : Nat) (p0 : Int32) (k0 : ¬ p0 < 0) : CX l yX6_gap cX6_gap 2 (some .int) (RM 7 1 6 116) D cA g [.ref h0, .int p0] [(h0, .inr (9, [.ref h1, .ref h2, .ref h3, .ref h4, .ref h5])), (h3, .inr (6, [.int 0, .ref h6, .ref h7, .ref h8, .ref h9, .ref h10]))] "java/lang/IndexOutOfBoundsException" (fun q => [(h0, .inr (9, [.ref h1, .ref h2, .ref h3, .ref h4, .ref h5])), (h3, .inr (6, [.int 0, .ref h6, .ref h7, .ref h8, .ref h9, .ref h10]))]) := by
  refine CX.of (by decide +kernel) (Nat.le_of_ble_eq_true rfl) ?_
  intro p e s m args below meth c A ls hx hb hr hml hown hG hlocks htab hA hS hP hK hD hGV hl
  have hown : s.vm.findClass RX6 = some m.cls := hown
  have hl : lv_has ls 2 [(0, .ref h0), (1, .int p0)] := hl
  have hSF : CF p m c cX6_gap 2 s args RX6 := ⟨hx, hb, hml, hown, hG⟩
  refine lv_aload_n hx hb dX6_gap_0 rfl (lv_at hl 0 rfl) ?_
  refine lv_iload_n hx hb dX6_gap_1 rfl (lv_at hl 1 rfl) ?_
  refine cx_V (wr := []) hSF hl.1 hP hD hS hA hK hGV (c186_X6_checkJoint l hfl D cA g h0 h1 h2 h3 h4 h5 h6 h7 h8 h9 h10 (p0) k0) goV_X6_179 pd_X6_checkJoint ⟨(Nat.le_of_ble_eq_true rfl), (Nat.le_of_ble_eq_true rfl)⟩ ⟨(Nat.le_of_ble_eq_true rfl), (Nat.le_of_ble_eq_true rfl)⟩ (va_recv hK hP (ci := 9) (q0 := 0) rfl rfl) dX6_gap_2 rfl (Nat.le_of_ble_eq_true rfl) [0, 1] [] rfl (by decide) rfl (by decide) (by decide) (fun q => [(h0, .inr (9, [.ref h1, .ref h2, .ref h3, .ref h4, .ref h5])), (h3, .inr (6, [.int 0, .ref h6, .ref h7, .ref h8, .ref h9, .ref h10]))]) (fun _ => rfl) (fun q1 H locs x9 ce9 hP hD hS h9 hv9 hcl9 => ?_)
  exact e_out (fun _ => 0) htab hlocks h9 hv9 hcl9 hP hD hS (Nat.le_of_ble_eq_true rfl) (Nat.le_of_ble_eq_true rfl)
set_option maxHeartbeats 4000000 in
set_option maxRecDepth 100000 in
theorem c215_L_gap (l : Launch) (hfl : l.stackTraces = false) (D : va_G) (cA : Nat → ClassId) (g : gv_T) (h0 h1 h2 h3 h4 h5 h6 h7 h8 h9 h10 h11 : Nat) (p0 : Int32) (k0 : ¬ p0 < 0) : CW l yL_gap cL_gap 4 (some .int) [(0, 9, 12, 21)] (RM 8 1 6 137) D cA g [.ref h0, .int p0, .ref h1] [(h0, .inr (9, [.ref h2, .ref h3, .ref h4, .ref h5, .ref h6])), (h4, .inr (6, [.int 0, .ref h7, .ref h8, .ref h9, .ref h10, .ref h11]))] (fun q => some (.int 1)) (fun q => [(h0, .inr (9, [.ref h2, .ref h3, .ref h4, .ref h5, .ref h6])), (h4, .inr (6, [.int 0, .ref h7, .ref h8, .ref h9, .ref h10, .ref h11]))]) := by
  refine CW.of (by decide +kernel) (Nat.le_of_ble_eq_true rfl) ?_
  intro p e s m args below meth c A ls hx hb hr hml hown hG hlocks htab hA hS hP hK hD hGV hl
  have hown : s.vm.findClass RL = some m.cls := hown
  have hl : lv_has ls 4 [(0, .ref h0), (1, .int p0), (2, .ref h1)] := hl
  have hSF : CF p m c cL_gap 4 s args RL := ⟨hx, hb, hml, hown, hG⟩
  refine lv_aload_n hx hb dL_gap_0 rfl (lv_at hl 2 rfl) ?_
  refine lv_iconst (v := 0) hx hb dL_gap_1 (by decide) ?_
  refine lv_aload_n hx hb dL_gap_2 rfl (lv_at hl 0 rfl) ?_
  refine lv_iload_n hx hb dL_gap_3 rfl (lv_at hl 1 rfl) ?_
  refine cx_V (wr := []) hSF hl.1 hP hD hS hA hK hGV (c214_X6_gap l hfl D cA g h0 h2 h3 h4 h5 h6 h7 h8 h9 h10 h11 (p0) k0) goV_L_68 pd_X6_gap ⟨(Nat.le_of_ble_eq_true rfl), (Nat.le_of_ble_eq_true rfl)⟩ ⟨(Nat.le_of_ble_eq_true rfl), (Nat.le_of_ble_eq_true rfl)⟩ (va_recv hK hP (ci := 9) (q0 := 0) rfl rfl) dL_gap_4 rfl (Nat.le_of_ble_eq_true rfl) [0, 1] [] rfl (by decide) rfl (by decide) (by decide) (fun q => [(h0, .inr (9, [.ref h2, .ref h3, .ref h4, .ref h5, .ref h6])), (h4, .inr (6, [.int 0, .ref h7, .ref h8, .ref h9, .ref h10, .ref h11]))]) (fun _ => rfl) (fun q1 H locs x9 ce9 hP hD hS h9 hv9 hcl9 => ?_)
  refine vx_catch (own := RL) (name := "java/lang/IndexOutOfBoundsException") hown [] { startPc := 0, endPc := 9, handlerPc := 12, catchType := 21 } [] (htab.trans rfl) (fun z hz => nomatch hz) rfl (by decide) (hG _ gw763) (va_Nw.use rfl (hGV.2.2.2.2.1 _ gw797)) h9 hv9 hcl9 ?_
  refine W.eq (g2 := F0 m 12 ls [.ref x9]) rfl ?_
  refine lv_astore_n (lv' := [(3, .ref x9), (0, .ref h0), (1, .int p0), (2, .ref h1)]) hx hb dL_gap_12 rfl hl (by decide) rfl (fun ls hl => ?_)
  refine lv_iconst (v := 1) hx hb dL_gap_13 (by decide) ?_
  exact e_i (fun _ => 0) hx hb hr hlocks rfl rfl hP hD hS (Nat.le_of_ble_eq_true rfl) (Nat.le_of_ble_eq_true rfl) dL_gap_14
set_option maxHeartbeats 4000000 in
set_option maxRecDepth 100000 in
theorem c216_X12_gap (l : Launch) (hfl : l.stackTraces = false) (D : va_G) (cA : Nat → ClassId) (g : gv_T) (h0 h1 h2 h3 h4 h5 h6 h7 h8 h9 h10 h11 h12 h13 h14 h15 h16 h17 h18 : Nat) (p0 : Int32) (k0 : ¬ (lg_cmp p0.toInt64 0) < 0) (k1 : 0 < (lg_cmp p0.toInt64 (-1))) : CT l yX12_gap cX12_gap 2 (some .int) (RM 2 0 0 44) D cA g [.ref h0, .int p0] [(h0, .inr (15, [.ref h1, .ref h2, .ref h3, .ref h4, .ref h5, .ref h6, .ref h7, .ref h8, .ref h9, .ref h10, .ref h11, .ref h12, .ref h13, .ref h14, .ref h15, .ref h16, .ref h17, .ref h18, .long 0, .int 0, .int 2, .int 0, .int 0, .int 0, .int 0, .int 0, .int 0])), (h3, .inr (2, [.int 0, .ref g.1, .int 0]))] (fun q => some (.int 0)) (fun q => [(h0, .inr (15, [.ref h1, .ref h2, .ref h3, .ref h4, .ref h5, .ref h6, .ref h7, .ref h8, .ref h9, .ref h10, .ref h11, .ref h12, .ref h13, .ref h14, .ref h15, .ref h16, .ref h17, .ref h18, .long 0, .int 1, .int 2, .int 0, .int 0, .int 0, .int 0, .int 0, .int 0])), (h3, .inr (2, [.int 0, .ref g.1, .int 0]))]) := by
  refine CT.of (by decide +kernel) (Nat.le_of_ble_eq_true rfl) ?_
  intro p e s m args below meth c A ls hx hb hr hml hown hG hlocks hnm hA hS hP hK hD hGV hl
  have hown : s.vm.findClass RX12 = some m.cls := hown
  have hl : lv_has ls 2 [(0, .ref h0), (1, .int p0)] := hl
  have hSF : CF p m c cX12_gap 2 s args RX12 := ⟨hx, hb, hml, hown, hG⟩
  refine lv_aload_n hx hb dX12_gap_0 rfl (lv_at hl 0 rfl) ?_
  refine lv_iload_n hx hb dX12_gap_1 rfl (lv_at hl 1 rfl) ?_
  refine ct_V (wr := []) hSF hl.1 hP hD hS hA hK hGV (c189_X12_isJoint l hfl D cA g h0 h1 h2 h3 h4 h5 h6 h7 h8 h9 h10 h11 h12 h13 h14 h15 h16 h17 h18 (p0) k0 k1) goV_X12_363 pd_X12_isJoint ⟨(Nat.le_of_ble_eq_true rfl), (Nat.le_of_ble_eq_true rfl)⟩ ⟨(Nat.le_of_ble_eq_true rfl), (Nat.le_of_ble_eq_true rfl)⟩ (va_recv hK hP (ci := 15) (q0 := 0) rfl rfl) dX12_gap_2 rfl (Nat.le_of_ble_eq_true rfl) [0, 1] [] rfl (by decide) rfl (by decide) (by decide) (fun q => [(h0, .inr (15, [.ref h1, .ref h2, .ref h3, .ref h4, .ref h5, .ref h6, .ref h7, .ref h8, .ref h9, .ref h10, .ref h11, .ref h12, .ref h13, .ref h14, .ref h15, .ref h16, .ref h17, .ref h18, .long 0, .int 0, .int 2, .int 0, .int 0, .int 0, .int 0, .int 0, .int 0])), (h3, .inr (2, [.int 0, .ref g.1, .int 0]))]) (fun _ => rfl) (fun q1 H locs hP hD hS => ?_)
  refine W.eq (g2 := F0 m 5 ls [.int 0]) rfl ?_
  refine k_if_eq_t (tgt := 30) hx hb dX12_gap_5 (by decide) (by decide) ?_
  refine lv_aload_n hx hb dX12_gap_30 rfl (lv_at hl 0 rfl) ?_
  refine lv_iconst (v := 1) hx hb dX12_gap_31 (by decide) ?_
  refine ct_V (wr := [(h3, .inr (2, [.int 0, .ref g.1, .int 0]))]) hSF hl.1 hP hD hS hA hK hGV (c15_X12_fails l hfl D cA g h0 h1 h2 h3 h4 h5 h6 h7 h8 h9 h10 h11 h12 h13 h14 h15 h16 h17 h18) goV_X12_289 pd_X12_fails ⟨(Nat.le_of_ble_eq_true rfl), (Nat.le_of_ble_eq_true rfl)⟩ ⟨(Nat.le_of_ble_eq_true rfl), (Nat.le_of_ble_eq_true rfl)⟩ (va_recv hK hP (ci := 15) (q0 := 0) rfl rfl) dX12_gap_32 rfl (Nat.le_of_ble_eq_true rfl) [0] [1] rfl (by decide) rfl (by decide) (by decide) (fun q => [(h3, .inr (2, [.int 0, .ref g.1, .int 0])), (h0, .inr (15, [.ref h1, .ref h2, .ref h3, .ref h4, .ref h5, .ref h6, .ref h7, .ref h8, .ref h9, .ref h10, .ref h11, .ref h12, .ref h13, .ref h14, .ref h15, .ref h16, .ref h17, .ref h18, .long 0, .int 1, .int 2, .int 0, .int 0, .int 0, .int 0, .int 0, .int 0]))]) (fun _ => rfl) (fun q2 H locs hP hD hS => ?_)
  refine W.eq (g2 := F0 m 35 ls [.int 0]) rfl ?_
  exact e_i (fun _ => 0) hx hb hr hlocks rfl rfl (hP.sub [1, 0] rfl) (hD.sub [1, 0] (by decide) rfl) hS (Nat.le_of_ble_eq_true rfl) (Nat.le_of_ble_eq_true rfl) dX12_gap_35
set_option maxHeartbeats 4000000 in
set_option maxRecDepth 100000 in
theorem c217_X6_widest (l : Launch) (hfl : l.stackTraces = false) (D : va_G) (cA : Nat → ClassId) (g : gv_T) (h0 h1 h2 h3 h4 h5 h6 h7 h8 h9 h10 : Nat) : CX l yX6_widest cX6_widest 3 (some .int) (RM 6 1 6 95) D cA g [.ref h0] [(h0, .inr (9, [.ref h1, .ref h2, .ref h3, .ref h4, .ref h5])), (h3, .inr (6, [.int 0, .ref h6, .ref h7, .ref h8, .ref h9, .ref h10]))] "java/util/NoSuchElementException" (fun q => [(h0, .inr (9, [.ref h1, .ref h2, .ref h3, .ref h4, .ref h5])), (h3, .inr (6, [.int 0, .ref h6, .ref h7, .ref h8, .ref h9, .ref h10]))]) := by
  refine CX.of (by decide +kernel) (Nat.le_of_ble_eq_true rfl) ?_
  intro p e s m args below meth c A ls hx hb hr hml hown hG hlocks htab hA hS hP hK hD hGV hl
  have hown : s.vm.findClass RX6 = some m.cls := hown
  have hl : lv_has ls 3 [(0, .ref h0)] := hl
  have hSF : CF p m c cX6_widest 3 s args RX6 := ⟨hx, hb, hml, hown, hG⟩
  refine lv_aload_n hx hb dX6_widest_0 rfl (lv_at hl 0 rfl) ?_
  refine k_get (ci := 9) (C := RX6) (T := TX6) (N := 5) (v := .ref h3) hx hb hG inX6 hown hK hP 0 rfl rfl 2 (by decide) gw365 rfl dX6_widest_1 ?_
  refine k_get (ci := 6) (C := RX3) (T := TX3) (N := 6) (v := .int 0) hx hb hG inX3 hown hK hP 1 rfl rfl 0 (by decide) gw260 rfl dX6_widest_4 ?_
  refine k_if_ne_f (tgt := 20) hx hb dX6_widest_7 (by decide) (by decide) ?_
  exact e_throwN (fun _ => 0) (Y0 := "java/lang/RuntimeException") (idx := 13) (bs := prog_44_method_4_code) (names := ["java/lang/Exception"]) 17 hx hb hfl hown hG hGV htab hlocks (hl.1.trans hml.symm) (by decide +kernel) (by decide +kernel) (by decide +kernel) ns_0 ns_1 ns_2 ns_5 gw891 gw107 rfl xat_X6_146 hP hD hS dX6_widest_10 dX6_widest_13 dX6_widest_14 dX6_widest_16 dX6_widest_19 (Nat.le_of_ble_eq_true rfl) (Nat.le_of_ble_eq_true rfl) (Nat.le_of_ble_eq_true rfl) (Nat.le_of_ble_eq_true rfl) (Nat.le_of_ble_eq_true rfl) (Nat.le_of_ble_eq_true rfl)
set_option maxHeartbeats 4000000 in
set_option maxRecDepth 100000 in
theorem c218_L_widest (l : Launch) (hfl : l.stackTraces = false) (D : va_G) (cA : Nat → ClassId) (g : gv_T) (h0 h1 h2 h3 h4 h5 h6 h7 h8 h9 h10 h11 : Nat) : CW l yL_widest cL_widest 3 (some .int) [(0, 8, 11, 46)] (RM 7 1 6 117) D cA g [.ref h0, .ref h1] [(h0, .inr (9, [.ref h2, .ref h3, .ref h4, .ref h5, .ref h6])), (h4, .inr (6, [.int 0, .ref h7, .ref h8, .ref h9, .ref h10, .ref h11]))] (fun q => some (.int 1)) (fun q => [(h0, .inr (9, [.ref h2, .ref h3, .ref h4, .ref h5, .ref h6])), (h4, .inr (6, [.int 0, .ref h7, .ref h8, .ref h9, .ref h10, .ref h11]))]) := by
  refine CW.of (by decide +kernel) (Nat.le_of_ble_eq_true rfl) ?_
  intro p e s m args below meth c A ls hx hb hr hml hown hG hlocks htab hA hS hP hK hD hGV hl
  have hown : s.vm.findClass RL = some m.cls := hown
  have hl : lv_has ls 3 [(0, .ref h0), (1, .ref h1)] := hl
  have hSF : CF p m c cL_widest 3 s args RL := ⟨hx, hb, hml, hown, hG⟩
  refine lv_aload_n hx hb dL_widest_0 rfl (lv_at hl 1 rfl) ?_
  refine lv_iconst (v := 0) hx hb dL_widest_1 (by decide) ?_
  refine lv_aload_n hx hb dL_widest_2 rfl (lv_at hl 0 rfl) ?_
  refine cx_V (wr := []) hSF hl.1 hP hD hS hA hK hGV (c217_X6_widest l hfl D cA g h0 h2 h3 h4 h5 h6 h7 h8 h9 h10 h11) goV_L_71 pd_X6_widest ⟨(Nat.le_of_ble_eq_true rfl), (Nat.le_of_ble_eq_true rfl)⟩ ⟨(Nat.le_of_ble_eq_true rfl), (Nat.le_of_ble_eq_true rfl)⟩ (va_recv hK hP (ci := 9) (q0 := 0) rfl rfl) dL_widest_3 rfl (Nat.le_of_ble_eq_true rfl) [0, 1] [] rfl (by decide) rfl (by decide) (by decide) (fun q => [(h0, .inr (9, [.ref h2, .ref h3, .ref h4, .ref h5, .ref h6])), (h4, .inr (6, [.int 0, .ref h7, .ref h8, .ref h9, .ref h10, .ref h11]))]) (fun _ => rfl) (fun q1 H locs x9 ce9 hP hD hS h9 hv9 hcl9 => ?_)
  refine vx_catch (own := RL) (name := "java/util/NoSuchElementException") hown [] { startPc := 0, endPc := 8, handlerPc := 11, catchType := 46 } [] (htab.trans rfl) (fun z hz => nomatch hz) rfl (by decide) (hG _ gw886) (va_Nw.use rfl (hGV.2.2.2.2.1 _ gw893)) h9 hv9 hcl9 ?_
  refine W.eq (g2 := F0 m 11 ls [.ref x9]) rfl ?_
  refine lv_astore_n (lv' := [(2, .ref x9), (0, .ref h0), (1, .ref h1)]) hx hb dL_widest_11 rfl hl (by decide) rfl (fun ls hl => ?_)
  refine lv_iconst (v := 1) hx hb dL_widest_12 (by decide) ?_
  exact e_i (fun _ => 0) hx hb hr hlocks rfl rfl hP hD hS (Nat.le_of_ble_eq_true rfl) (Nat.le_of_ble_eq_true rfl) dL_widest_13
set_option maxHeartbeats 4000000 in
set_option maxRecDepth 100000 in
theorem c219_X12_widest (l : Launch) (hfl : l.stackTraces = false) (D : va_G) (cA : Nat → ClassId) (g : gv_T) (h0 h1 h2 h3 h4 h5 h6 h7 h8 h9 h10 h11 h12 h13 h14 h15 h16 h17 h18 : Nat) : CT l yX12_widest cX12_widest 3 (some .int) (RM 1 0 0 21) D cA g [.ref h0] [(h0, .inr (15, [.ref h1, .ref h2, .ref h3, .ref h4, .ref h5, .ref h6, .ref h7, .ref h8, .ref h9, .ref h10, .ref h11, .ref h12, .ref h13, .ref h14, .ref h15, .ref h16, .ref h17, .ref h18, .long 0, .int 0, .int 2, .int 0, .int 0, .int 0, .int 0, .int 0, .int 0])), (h3, .inr (2, [.int 0, .ref g.1, .int 0]))] (fun q => some (.int 0)) (fun q => [(h0, .inr (15, [.ref h1, .ref h2, .ref h3, .ref h4, .ref h5, .ref h6, .ref h7, .ref h8, .ref h9, .ref h10, .ref h11, .ref h12, .ref h13, .ref h14, .ref h15, .ref h16, .ref h17, .ref h18, .long 0, .int 1, .int 2, .int 0, .int 0, .int 0, .int 0, .int 0, .int 0])), (h3, .inr (2, [.int 0, .ref g.1, .int 0]))]) := by
  refine CT.of (by decide +kernel) (Nat.le_of_ble_eq_true rfl) ?_
  intro p e s m args below meth c A ls hx hb hr hml hown hG hlocks hnm hA hS hP hK hD hGV hl
  have hown : s.vm.findClass RX12 = some m.cls := hown
  have hl : lv_has ls 3 [(0, .ref h0)] := hl
  have hSF : CF p m c cX12_widest 3 s args RX12 := ⟨hx, hb, hml, hown, hG⟩
  refine lv_iconst (v := (-1)) hx hb dX12_widest_0 (by decide) ?_
  refine lv_istore_n (lv' := [(1, .int (-1)), (0, .ref h0)]) hx hb dX12_widest_1 rfl hl (by decide) rfl (fun ls hl => ?_)
  refine lv_iconst (v := 0) hx hb dX12_widest_2 (by decide) ?_
  refine lv_istore_n (lv' := [(2, .int 0), (1, .int (-1)), (0, .ref h0)]) hx hb dX12_widest_3 rfl hl (by decide) rfl (fun ls hl => ?_)
  refine lv_iload_n hx hb dX12_widest_4 rfl (lv_at hl 0 rfl) ?_
  refine lv_aload_n hx hb dX12_widest_5 rfl (lv_at hl 2 rfl) ?_
  refine k_get (ci := 15) (C := RX12) (T := TX12) (N := 27) (v := .ref h3) hx hb hG inX12 hown hK hP 0 rfl rfl 2 (by decide) gw1221 rfl dX12_widest_6 ?_
  refine ct_V (wr := [(h0, .inr (15, [.ref h1, .ref h2, .ref h3, .ref h4, .ref h5, .ref h6, .ref h7, .ref h8, .ref h9, .ref h10, .ref h11, .ref h12, .ref h13, .ref h14, .ref h15, .ref h16, .ref h17, .ref h18, .long 0, .int 0, .int 2, .int 0, .int 0, .int 0, .int 0, .int 0, .int 0]))]) hSF hl.1 hP hD hS hA hK hGV (c56_Jx4a65c_size_8abf5 l hfl D cA g h3) goV_X12_125 pd_Jx4a65c_size_8abf5 ⟨(Nat.le_of_ble_eq_true rfl), (Nat.le_of_ble_eq_true rfl)⟩ ⟨(Nat.le_of_ble_eq_true rfl), (Nat.le_of_ble_eq_true rfl)⟩ (va_recv hK hP (ci := 2) (q0 := 1) rfl rfl) dX12_widest_9 rfl (Nat.le_of_ble_eq_true rfl) [1] [0] rfl (by decide) rfl (by decide) (by decide) (fun q => [(h0, .inr (15, [.ref h1, .ref h2, .ref h3, .ref h4, .ref h5, .ref h6, .ref h7, .ref h8, .ref h9, .ref h10, .ref h11, .ref h12, .ref h13, .ref h14, .ref h15, .ref h16, .ref h17, .ref h18, .long 0, .int 0, .int 2, .int 0, .int 0, .int 0, .int 0, .int 0, .int 0])), (h3, .inr (2, [.int 0, .ref g.1, .int 0]))]) (fun _ => rfl) (fun q1 H locs hP hD hS => ?_)
  refine W.eq (g2 := F0 m 12 ls [.int 0, .int 0]) rfl ?_
  refine k_icmp_ge_t (tgt := 61) hx hb dX12_widest_12 (by decide) (by decide) ?_
  refine lv_iload_n hx hb dX12_widest_61 rfl (lv_at hl 1 rfl) ?_
  refine lv_iconst (v := (-1)) hx hb dX12_widest_62 (by decide) ?_
  refine k_icmp_ne_f (tgt := 74) hx hb dX12_widest_63 (by decide) (by decide) ?_
  refine lv_aload_n hx hb dX12_widest_66 rfl (lv_at hl 2 rfl) ?_
  refine lv_iconst (v := 1) hx hb dX12_widest_67 (by decide) ?_
  refine ct_V (wr := [(h3, .inr (2, [.int 0, .ref g.1, .int 0]))]) hSF hl.1 hP hD hS hA hK hGV (c15_X12_fails l hfl D cA g h0 h1 h2 h3 h4 h5 h6 h7 h8 h9 h10 h11 h12 h13 h14 h15 h16 h17 h18) goV_X12_289 pd_X12_fails ⟨(Nat.le_of_ble_eq_true rfl), (Nat.le_of_ble_eq_true rfl)⟩ ⟨(Nat.le_of_ble_eq_true rfl), (Nat.le_of_ble_eq_true rfl)⟩ (va_recv hK hP (ci := 15) (q0 := 0) rfl rfl) dX12_widest_68 rfl (Nat.le_of_ble_eq_true rfl) [0] [1] rfl (by decide) rfl (by decide) (by decide) (fun q => [(h3, .inr (2, [.int 0, .ref g.1, .int 0])), (h0, .inr (15, [.ref h1, .ref h2, .ref h3, .ref h4, .ref h5, .ref h6, .ref h7, .ref h8, .ref h9, .ref h10, .ref h11, .ref h12, .ref h13, .ref h14, .ref h15, .ref h16, .ref h17, .ref h18, .long 0, .int 1, .int 2, .int 0, .int 0, .int 0, .int 0, .int 0, .int 0]))]) (fun _ => rfl) (fun q2 H locs hP hD hS => ?_)
  refine W.eq (g2 := F0 m 71 ls [.int 0]) rfl ?_
  refine lv_goto (tgt := 79) hx hb dX12_widest_71 (by decide) ?_
  exact e_i (fun _ => 0) hx hb hr hlocks rfl rfl (hP.sub [1, 0] rfl) (hD.sub [1, 0] (by decide) rfl) hS (Nat.le_of_ble_eq_true rfl) (Nat.le_of_ble_eq_true rfl) dX12_widest_79
set_option maxHeartbeats 4000000 in
set_option maxRecDepth 100000 in
theorem c220_X6_isWithin (l : Launch) (hfl : l.stackTraces = false) (D : va_G) (cA : Nat → ClassId) (g : gv_T) (p0 : Int32) (k0 : p0 < 1) : CT l yX6_isWithin cX6_isWithin 3 (some .boolean) (RM 0 0 0 0) D cA g [.int p0, .int 1, .int 900] [] (fun q => some (.int 0)) (fun q => []) := by
  refine CT.of (by decide +kernel) (Nat.le_of_ble_eq_true rfl) ?_
  intro p e s m args below meth c A ls hx hb hr hml hown hG hlocks hnm hA hS hP hK hD hGV hl
  have hown : s.vm.findClass RX6 = some m.cls := hown
  have hl : lv_has ls 3 [(0, .int p0), (1, .int 1), (2, .int 900)] := hl
  have hSF : CF p m c cX6_isWithin 3 s args RX6 := ⟨hx, hb, hml, hown, hG⟩
  refine lv_iload_n hx hb dX6_isWithin_0 rfl (lv_at hl 0 rfl) ?_
  refine lv_iload_n hx hb dX6_isWithin_1 rfl (lv_at hl 1 rfl) ?_
  refine k_icmp_lt_t (tgt := 14) hx hb dX6_isWithin_2 k0 (by decide) ?_
  refine lv_iconst (v := 0) hx hb dX6_isWithin_14 (by decide) ?_
  exact e_i (fun _ => 0) hx hb hr hlocks rfl rfl hP hD hS (Nat.le_of_ble_eq_true rfl) (Nat.le_of_ble_eq_true rfl) dX6_isWithin_15
set_option maxHeartbeats 4000000 in
set_option maxRecDepth 100000 in
theorem c221_X6_stick (l : Launch) (hfl : l.stackTraces = false) (D : va_G) (cA : Nat → ClassId) (g : gv_T) (h0 : Nat) (p0 : Int32) (p1 : Int32) (p2 : Int32) (k0 : p0 < 1) : CX l yX6_stick cX6_stick 4 (some .int) (RM 6 1 6 95) D cA g [.ref h0, .int p0, .int p1, .int p2] [] "java/lang/IllegalArgumentException" (fun q => []) := by
  refine CX.of (by decide +kernel) (Nat.le_of_ble_eq_true rfl) ?_
  intro p e s m args below meth c A ls hx hb hr hml hown hG hlocks htab hA hS hP hK hD hGV hl
  have hown : s.vm.findClass RX6 = some m.cls := hown
  have hl : lv_has ls 4 [(0, .ref h0), (1, .int p0), (2, .int p1), (3, .int p2)] := hl
  have hSF : CF p m c cX6_stick 4 s args RX6 := ⟨hx, hb, hml, hown, hG⟩
  refine lv_iload_n hx hb dX6_stick_0 rfl (lv_at hl 1 rfl) ?_
  refine lv_iconst (v := 1) hx hb dX6_stick_1 (by decide) ?_
  refine lv_sipush (v := 900) hx hb dX6_stick_2 (by decide) ?_
  refine ct_S (wr := []) hSF hl.1 hP hD hS hA hK hGV (c220_X6_isWithin l hfl D cA g (p0) k0) goS_X6_44 pd_X6_isWithin.2 ⟨(Nat.le_of_ble_eq_true rfl), (Nat.le_of_ble_eq_true rfl)⟩ ⟨(Nat.le_of_ble_eq_true rfl), (Nat.le_of_ble_eq_true rfl)⟩ dX6_stick_5 rfl (Nat.le_of_ble_eq_true rfl) [] [] rfl (by decide) rfl (by decide) (by decide) (fun q => []) (fun _ => rfl) (fun q1 H locs hP hD hS => ?_)
  refine W.eq (g2 := F0 m 8 ls [.int 0]) rfl ?_
  refine k_if_eq_t (tgt := 19) hx hb dX6_stick_8 (by decide) (by decide) ?_
  exact e_throw (fun _ => 0) (names := ["java/lang/RuntimeException", "java/lang/Exception"]) 18 hx hb hfl hown hG hGV htab hlocks (hl.1.trans hml.symm) (by decide +kernel) (by decide +kernel) gw668 gw95 rfl xat_X6_60 hP hD hS dX6_stick_19 dX6_stick_22 dX6_stick_23 dX6_stick_25 dX6_stick_28 (Nat.le_of_ble_eq_true rfl) (Nat.le_of_ble_eq_true rfl) (Nat.le_of_ble_eq_true rfl) (Nat.le_of_ble_eq_true rfl) (Nat.le_of_ble_eq_true rfl) (Nat.le_of_ble_eq_true rfl)
set_option maxHeartbeats 4000000 in
set_option maxRecDepth 100000 in
theorem c222_L_stick (l : Launch) (hfl : l.stackTraces = false) (D : va_G) (cA : Nat → ClassId) (g : gv_T) (h0 h1 h2 h3 h4 h5 h6 : Nat) (p0 : Int32) (p1 : Int32) (p2 : Int32) (k0 : p0 < 1) : CW l yL_stick cL_stick 6 (some .int) [(0, 12, 15, 13), (0, 12, 19, 15)] (RM 7 1 6 118) D cA g [.ref h0, .int p0, .int p1, .int p2, .ref h1] [(h0, .inr (9, [.ref h2, .ref h3, .ref h4, .ref h5, .ref h6]))] (fun q => some (.int 1)) (fun q => [(h0, .inr (9, [.ref h2, .ref h3, .ref h4, .ref h5, .ref h6]))]) := by
  refine CW.of (by decide +kernel) (Nat.le_of_ble_eq_true rfl) ?_
  intro p e s m args below meth c A ls hx hb hr hml hown hG hlocks htab hA hS hP hK hD hGV hl
  have hown : s.vm.findClass RL = some m.cls := hown
  have hl : lv_has ls 6 [(0, .ref h0), (1, .int p0), (2, .int p1), (3, .int p2), (4, .ref h1)] := hl
  have hSF : CF p m c cL_stick 6 s args RL := ⟨hx, hb, hml, hown, hG⟩
  refine lv_aload hx hb dL_stick_0 (lv_at hl 4 rfl) ?_
  refine lv_iconst (v := 0) hx hb dL_stick_2 (by decide) ?_
  refine lv_aload_n hx hb dL_stick_3 rfl (lv_at hl 0 rfl) ?_
  refine lv_iload_n hx hb dL_stick_4 rfl (lv_at hl 1 rfl) ?_
  refine lv_iload_n hx hb dL_stick_5 rfl (lv_at hl 2 rfl) ?_
  refine lv_iload_n hx hb dL_stick_6 rfl (lv_at hl 3 rfl) ?_
  refine cx_V (wr := [(h0, .inr (9, [.ref h2, .ref h3, .ref h4, .ref h5, .ref h6]))]) hSF hl.1 hP hD hS hA hK hGV (c221_X6_stick l hfl D cA g h0 (p0) (p1) (p2) k0) goV_L_74 pd_X6_stick ⟨(Nat.le_of_ble_eq_true rfl), (Nat.le_of_ble_eq_true rfl)⟩ ⟨(Nat.le_of_ble_eq_true rfl), (Nat.le_of_ble_eq_true rfl)⟩ (va_recv hK hP (ci := 9) (q0 := 0) rfl rfl) dL_stick_7 rfl (Nat.le_of_ble_eq_true rfl) [] [0] rfl (by decide) rfl (by decide) (by decide) (fun q => [(h0, .inr (9, [.ref h2, .ref h3, .ref h4, .ref h5, .ref h6]))]) (fun _ => rfl) (fun q1 H locs x9 ce9 hP hD hS h9 hv9 hcl9 => ?_)
  refine vx_catch (own := RL) (name := "java/lang/IllegalArgumentException") hown [] { startPc := 0, endPc := 12, handlerPc := 15, catchType := 13 } [{ startPc := 0, endPc := 12, handlerPc := 19, catchType := 15 }] (htab.trans rfl) (fun z hz => nomatch hz) rfl (by decide) (hG _ gw572) (va_Nw.use rfl (hGV.2.2.2.2.1 _ gw670)) h9 hv9 hcl9 ?_
  refine W.eq (g2 := F0 m 15 ls [.ref x9]) rfl ?_
  refine lv_astore (lv' := [(5, .ref x9), (0, .ref h0), (1, .int p0), (2, .int p1), (3, .int p2), (4, .ref h1)]) hx hb dL_stick_15 hl (by decide) rfl (fun ls hl => ?_)
  refine lv_iconst (v := 1) hx hb dL_stick_17 (by decide) ?_
  exact e_i (fun _ => 0) hx hb hr hlocks rfl rfl hP hD hS (Nat.le_of_ble_eq_true rfl) (Nat.le_of_ble_eq_true rfl) dL_stick_18
set_option maxHeartbeats 4000000 in
set_option maxRecDepth 100000 in
theorem c223_X12_in (l : Launch) (hfl : l.stackTraces = false) (D : va_G) (cA : Nat → ClassId) (g : gv_T) (p0 : Int64) (k0 : (lg_cmp p0 1) < 0) : CT l yX12_in cX12_in 4 (some .boolean) (RM 0 0 0 0) D cA g [.long p0, .int 1, .int 900] [] (fun q => some (.int 0)) (fun q => []) := by
  refine CT.of (by decide +kernel) (Nat.le_of_ble_eq_true rfl) ?_
  intro p e s m args below meth c A ls hx hb hr hml hown hG hlocks hnm hA hS hP hK hD hGV hl
  have hown : s.vm.findClass RX12 = some m.cls := hown
  have hl : lv_has ls 4 [(0, .long p0), (2, .int 1), (3, .int 900)] := hl
  have hSF : CF p m c cX12_in 4 s args RX12 := ⟨hx, hb, hml, hown, hG⟩
  refine lv_lload_n hx hb dX12_in_0 rfl (lv_at hl 0 rfl) ?_
  refine lv_iload_n hx hb dX12_in_1 rfl (lv_at hl 1 rfl) ?_
  refine lv_i2l (v := 1) hx hb dX12_in_2 (by decide +kernel) ?_
  refine k_lcmp (v := (lg_cmp p0 1)) hx hb dX12_in_3 rfl ?_
  refine k_if_lt_t (tgt := 18) hx hb dX12_in_4 k0 (by decide) ?_
  refine lv_iconst (v := 0) hx hb dX12_in_18 (by decide) ?_
  exact e_i (fun _ => 0) hx hb hr hlocks rfl rfl hP hD hS (Nat.le_of_ble_eq_true rfl) (Nat.le_of_ble_eq_true rfl) dX12_in_19
set_option maxHeartbeats 4000000 in
set_option maxRecDepth 100000 in
theorem c224_X12_stick (l : Launch) (hfl : l.stackTraces = false) (D : va_G) (cA : Nat → ClassId) (g : gv_T) (h0 h1 h2 h3 h4 h5 h6 h7 h8 h9 h10 h11 h12 h13 h14 h15 h16 h17 h18 : Nat) (p0 : Int32) (p1 : Int32) (p2 : Int32) (k0 : (lg_cmp p0.toInt64 1) < 0) : CT l yX12_stick cX12_stick 4 (some .int) (RM 1 0 0 23) D cA g [.ref h0, .int p0, .int p1, .int p2] [(h0, .inr (15, [.ref h1, .ref h2, .ref h3, .ref h4, .ref h5, .ref h6, .ref h7, .ref h8, .ref h9, .ref h10, .ref h11, .ref h12, .ref h13, .ref h14, .ref h15, .ref h16, .ref h17, .ref h18, .long 0, .int 0, .int 2, .int 0, .int 0, .int 0, .int 0, .int 0, .int 0]))] (fun q => some (.int 0)) (fun q => [(h0, .inr (15, [.ref h1, .ref h2, .ref h3, .ref h4, .ref h5, .ref h6, .ref h7, .ref h8, .ref h9, .ref h10, .ref h11, .ref h12, .ref h13, .ref h14, .ref h15, .ref h16, .ref h17, .ref h18, .long 0, .int 1, .int 2, .int 0, .int 0, .int 0, .int 0, .int 0, .int 0]))]) := by
  refine CT.of (by decide +kernel) (Nat.le_of_ble_eq_true rfl) ?_
  intro p e s m args below meth c A ls hx hb hr hml hown hG hlocks hnm hA hS hP hK hD hGV hl
  have hown : s.vm.findClass RX12 = some m.cls := hown
  have hl : lv_has ls 4 [(0, .ref h0), (1, .int p0), (2, .int p1), (3, .int p2)] := hl
  have hSF : CF p m c cX12_stick 4 s args RX12 := ⟨hx, hb, hml, hown, hG⟩
  refine lv_iload_n hx hb dX12_stick_0 rfl (lv_at hl 1 rfl) ?_
  refine lv_i2l (v := p0.toInt64) hx hb dX12_stick_1 rfl ?_
  refine lv_iconst (v := 1) hx hb dX12_stick_2 (by decide) ?_
  refine lv_sipush (v := 900) hx hb dX12_stick_3 (by decide) ?_
  refine ct_S (wr := [(h0, .inr (15, [.ref h1, .ref h2, .ref h3, .ref h4, .ref h5, .ref h6, .ref h7, .ref h8, .ref h9, .ref h10, .ref h11, .ref h12, .ref h13, .ref h14, .ref h15, .ref h16, .ref h17, .ref h18, .long 0, .int 0, .int 2, .int 0, .int 0, .int 0, .int 0, .int 0, .int 0]))]) hSF hl.1 hP hD hS hA hK hGV (c223_X12_in l hfl D cA g (p0.toInt64) k0) goS_X12_285 pd_X12_in.2 ⟨(Nat.le_of_ble_eq_true rfl), (Nat.le_of_ble_eq_true rfl)⟩ ⟨(Nat.le_of_ble_eq_true rfl), (Nat.le_of_ble_eq_true rfl)⟩ dX12_stick_6 rfl (Nat.le_of_ble_eq_true rfl) [] [0] rfl (by decide) rfl (by decide) (by decide) (fun q => [(h0, .inr (15, [.ref h1, .ref h2, .ref h3, .ref h4, .ref h5, .ref h6, .ref h7, .ref h8, .ref h9, .ref h10, .ref h11, .ref h12, .ref h13, .ref h14, .ref h15, .ref h16, .ref h17, .ref h18, .long 0, .int 0, .int 2, .int 0, .int 0, .int 0, .int 0, .int 0, .int 0]))]) (fun _ => rfl) (fun q1 H locs hP hD hS => ?_)
  refine W.eq (g2 := F0 m 9 ls [.int 0]) rfl ?_
  refine k_if_eq_t (tgt := 34) hx hb dX12_stick_9 (by decide) (by decide) ?_
  refine lv_aload_n hx hb dX12_stick_34 rfl (lv_at hl 0 rfl) ?_
  refine lv_iconst (v := 1) hx hb dX12_stick_35 (by decide) ?_
  refine ct_V (wr := []) hSF hl.1 hP hD hS hA hK hGV (c15_X12_fails l hfl D cA g h0 h1 h2 h3 h4 h5 h6 h7 h8 h9 h10 h11 h12 h13 h14 h15 h16 h17 h18) goV_X12_289 pd_X12_fails ⟨(Nat.le_of_ble_eq_true rfl), (Nat.le_of_ble_eq_true rfl)⟩ ⟨(Nat.le_of_ble_eq_true rfl), (Nat.le_of_ble_eq_true rfl)⟩ (va_recv hK hP (ci := 15) (q0 := 0) rfl rfl) dX12_stick_36 rfl (Nat.le_of_ble_eq_true rfl) [0] [] rfl (by decide) rfl (by decide) (by decide) (fun q => [(h0, .inr (15, [.ref h1, .ref h2, .ref h3, .ref h4, .ref h5, .ref h6, .ref h7, .ref h8, .ref h9, .ref h10, .ref h11, .ref h12, .ref h13, .ref h14, .ref h15, .ref h16, .ref h17, .ref h18, .long 0, .int 1, .int 2, .int 0, .int 0, .int 0, .int 0, .int 0, .int 0]))]) (fun _ => rfl) (fun q2 H locs hP hD hS => ?_)
  refine W.eq (g2 := F0 m 39 ls [.int 0]) rfl ?_
  exact e_i (fun _ => 0) hx hb hr hlocks rfl rfl hP hD hS (Nat.le_of_ble_eq_true rfl) (Nat.le_of_ble_eq_true rfl) dX12_stick_39
set_option maxHeartbeats 4000000 in
set_option maxRecDepth 100000 in
theorem c225_X6_isWithin (l : Launch) (hfl : l.stackTraces = false) (D : va_G) (cA : Nat → ClassId) (g : gv_T) (p0 : Int32) (k0 : ¬ p0 < 1) (k1 : 900 < p0) : CT l yX6_isWithin cX6_isWithin 3 (some .boolean) (RM 0 0 0 0) D cA g [.int p0, .int 1, .int 900] [] (fun q => some (.int 0)) (fun q => []) := by
  refine CT.of (by decide +kernel) (Nat.le_of_ble_eq_true rfl) ?_
  intro p e s m args below meth c A ls hx hb hr hml hown hG hlocks hnm hA hS hP hK hD hGV hl
  have hown : s.vm.findClass RX6 = some m.cls := hown
  have hl : lv_has ls 3 [(0, .int p0), (1, .int 1), (2, .int 900)] := hl
  have hSF : CF p m c cX6_isWithin 3 s args RX6 := ⟨hx, hb, hml, hown, hG⟩
  refine lv_iload_n hx hb dX6_isWithin_0 rfl (lv_at hl 0 rfl) ?_
  refine lv_iload_n hx hb dX6_isWithin_1 rfl (lv_at hl 1 rfl) ?_
  refine k_icmp_lt_f (tgt := 14) hx hb dX6_isWithin_2 k0 (by decide) ?_
  refine lv_iload_n hx hb dX6_isWithin_5 rfl (lv_at hl 0 rfl) ?_
  refine lv_iload_n hx hb dX6_isWithin_6 rfl (lv_at hl 2 rfl) ?_
  refine k_icmp_gt_t (tgt := 14) hx hb dX6_isWithin_7 k1 (by decide) ?_
  refine lv_iconst (v := 0) hx hb dX6_isWithin_14 (by decide) ?_
  exact e_i (fun _ => 0) hx hb hr hlocks rfl rfl hP hD hS (Nat.le_of_ble_eq_true rfl) (Nat.le_of_ble_eq_true rfl) dX6_isWithin_15
set_option maxHeartbeats 4000000 in
set_option maxRecDepth 100000 in
theorem c226_X6_stick (l : Launch) (hfl : l.stackTraces = false) (D : va_G) (cA : Nat → ClassId) (g : gv_T) (h0 : Nat) (p0 : Int32) (p1 : Int32) (p2 : Int32) (k0 : ¬ p0 < 1) (k1 : 900 < p0) : CX l yX6_stick cX6_stick 4 (some .int) (RM 6 1 6 95) D cA g [.ref h0, .int p0, .int p1, .int p2] [] "java/lang/IllegalArgumentException" (fun q => []) := by
  refine CX.of (by decide +kernel) (Nat.le_of_ble_eq_true rfl) ?_
  intro p e s m args below meth c A ls hx hb hr hml hown hG hlocks htab hA hS hP hK hD hGV hl
  have hown : s.vm.findClass RX6 = some m.cls := hown
  have hl : lv_has ls 4 [(0, .ref h0), (1, .int p0), (2, .int p1), (3, .int p2)] := hl
  have hSF : CF p m c cX6_stick 4 s args RX6 := ⟨hx, hb, hml, hown, hG⟩
  refine lv_iload_n hx hb dX6_stick_0 rfl (lv_at hl 1 rfl) ?_
  refine lv_iconst (v := 1) hx hb dX6_stick_1 (by decide) ?_
  refine lv_sipush (v := 900) hx hb dX6_stick_2 (by decide) ?_
  refine ct_S (wr := []) hSF hl.1 hP hD hS hA hK hGV (c225_X6_isWithin l hfl D cA g (p0) k0 k1) goS_X6_44 pd_X6_isWithin.2 ⟨(Nat.le_of_ble_eq_true rfl), (Nat.le_of_ble_eq_true rfl)⟩ ⟨(Nat.le_of_ble_eq_true rfl), (Nat.le_of_ble_eq_true rfl)⟩ dX6_stick_5 rfl (Nat.le_of_ble_eq_true rfl) [] [] rfl (by decide) rfl (by decide) (by decide) (fun q => []) (fun _ => rfl) (fun q1 H locs hP hD hS => ?_)
  refine W.eq (g2 := F0 m 8 ls [.int 0]) rfl ?_
  refine k_if_eq_t (tgt := 19) hx hb dX6_stick_8 (by decide) (by decide) ?_
  exact e_throw (fun _ => 0) (names := ["java/lang/RuntimeException", "java/lang/Exception"]) 18 hx hb hfl hown hG hGV htab hlocks (hl.1.trans hml.symm) (by decide +kernel) (by decide +kernel) gw668 gw95 rfl xat_X6_60 hP hD hS dX6_stick_19 dX6_stick_22 dX6_stick_23 dX6_stick_25 dX6_stick_28 (Nat.le_of_ble_eq_true rfl) (Nat.le_of_ble_eq_true rfl) (Nat.le_of_ble_eq_true rfl) (Nat.le_of_ble_eq_true rfl) (Nat.le_of_ble_eq_true rfl) (Nat.le_of_ble_eq_true rfl)
set_option maxHeartbeats 4000000 in
set_option maxRecDepth 100000 in
theorem c227_L_stick (l : Launch) (hfl : l.stackTraces = false) (D : va_G) (cA : Nat → ClassId) (g : gv_T) (h0 h1 h2 h3 h4 h5 h6 : Nat) (p0 : Int32) (p1 : Int32) (p2 : Int32) (k0 : ¬ p0 < 1) (k1 : 900 < p0) : CW l yL_stick cL_stick 6 (some .int) [(0, 12, 15, 13), (0, 12, 19, 15)] (RM 7 1 6 118) D cA g [.ref h0, .int p0, .int p1, .int p2, .ref h1] [(h0, .inr (9, [.ref h2, .ref h3, .ref h4, .ref h5, .ref h6]))] (fun q => some (.int 1)) (fun q => [(h0, .inr (9, [.ref h2, .ref h3, .ref h4, .ref h5, .ref h6]))]) := by
  refine CW.of (by decide +kernel) (Nat.le_of_ble_eq_true rfl) ?_
  intro p e s m args below meth c A ls hx hb hr hml hown hG hlocks htab hA hS hP hK hD hGV hl
  have hown : s.vm.findClass RL = some m.cls := hown
  have hl : lv_has ls 6 [(0, .ref h0), (1, .int p0), (2, .int p1), (3, .int p2), (4, .ref h1)] := hl
  have hSF : CF p m c cL_stick 6 s args RL := ⟨hx, hb, hml, hown, hG⟩
  refine lv_aload hx hb dL_stick_0 (lv_at hl 4 rfl) ?_
  refine lv_iconst (v := 0) hx hb dL_stick_2 (by decide) ?_
  refine lv_aload_n hx hb dL_stick_3 rfl (lv_at hl 0 rfl) ?_
  refine lv_iload_n hx hb dL_stick_4 rfl (lv_at hl 1 rfl) ?_
  refine lv_iload_n hx hb dL_stick_5 rfl (lv_at hl 2 rfl) ?_
  refine lv_iload_n hx hb dL_stick_6 rfl (lv_at hl 3 rfl) ?_
  refine cx_V (wr := [(h0, .inr (9, [.ref h2, .ref h3, .ref h4, .ref h5, .ref h6]))]) hSF hl.1 hP hD hS hA hK hGV (c226_X6_stick l hfl D cA g h0 (p0) (p1) (p2) k0 k1) goV_L_74 pd_X6_stick ⟨(Nat.le_of_ble_eq_true rfl), (Nat.le_of_ble_eq_true rfl)⟩ ⟨(Nat.le_of_ble_eq_true rfl), (Nat.le_of_ble_eq_true rfl)⟩ (va_recv hK hP (ci := 9) (q0 := 0) rfl rfl) dL_stick_7 rfl (Nat.le_of_ble_eq_true rfl) [] [0] rfl (by decide) rfl (by decide) (by decide) (fun q => [(h0, .inr (9, [.ref h2, .ref h3, .ref h4, .ref h5, .ref h6]))]) (fun _ => rfl) (fun q1 H locs x9 ce9 hP hD hS h9 hv9 hcl9 => ?_)
  refine vx_catch (own := RL) (name := "java/lang/IllegalArgumentException") hown [] { startPc := 0, endPc := 12, handlerPc := 15, catchType := 13 } [{ startPc := 0, endPc := 12, handlerPc := 19, catchType := 15 }] (htab.trans rfl) (fun z hz => nomatch hz) rfl (by decide) (hG _ gw572) (va_Nw.use rfl (hGV.2.2.2.2.1 _ gw670)) h9 hv9 hcl9 ?_
  refine W.eq (g2 := F0 m 15 ls [.ref x9]) rfl ?_
  refine lv_astore (lv' := [(5, .ref x9), (0, .ref h0), (1, .int p0), (2, .int p1), (3, .int p2), (4, .ref h1)]) hx hb dL_stick_15 hl (by decide) rfl (fun ls hl => ?_)
  refine lv_iconst (v := 1) hx hb dL_stick_17 (by decide) ?_
  exact e_i (fun _ => 0) hx hb hr hlocks rfl rfl hP hD hS (Nat.le_of_ble_eq_true rfl) (Nat.le_of_ble_eq_true rfl) dL_stick_18
set_option maxHeartbeats 4000000 in
set_option maxRecDepth 100000 in
theorem c228_X12_in (l : Launch) (hfl : l.stackTraces = false) (D : va_G) (cA : Nat → ClassId) (g : gv_T) (p0 : Int64) (k0 : ¬ (lg_cmp p0 1) < 0) (k1 : 0 < (lg_cmp p0 900)) : CT l yX12_in cX12_in 4 (some .boolean) (RM 0 0 0 0) D cA g [.long p0, .int 1, .int 900] [] (fun q => some (.int 0)) (fun q => []) := by
  refine CT.of (by decide +kernel) (Nat.le_of_ble_eq_true rfl) ?_
  intro p e s m args below meth c A ls hx hb hr hml hown hG hlocks hnm hA hS hP hK hD hGV hl
  have hown : s.vm.findClass RX12 = some m.cls := hown
  have hl : lv_has ls 4 [(0, .long p0), (2, .int 1), (3, .int 900)] := hl
  have hSF : CF p m c cX12_in 4 s args RX12 := ⟨hx, hb, hml, hown, hG⟩
  refine lv_lload_n hx hb dX12_in_0 rfl (lv_at hl 0 rfl) ?_
  refine lv_iload_n hx hb dX12_in_1 rfl (lv_at hl 1 rfl) ?_
  refine lv_i2l (v := 1) hx hb dX12_in_2 (by decide +kernel) ?_
  refine k_lcmp (v := (lg_cmp p0 1)) hx hb dX12_in_3 rfl ?_
  refine k_if_lt_f (tgt := 18) hx hb dX12_in_4 k0 (by decide) ?_
  refine lv_lload_n hx hb dX12_in_7 rfl (lv_at hl 0 rfl) ?_
  refine lv_iload_n hx hb dX12_in_8 rfl (lv_at hl 2 rfl) ?_
  refine lv_i2l (v := 900) hx hb dX12_in_9 (by decide +kernel) ?_
  refine k_lcmp (v := (lg_cmp p0 900)) hx hb dX12_in_10 rfl ?_
  refine k_if_gt_t (tgt := 18) hx hb dX12_in_11 k1 (by decide) ?_
  refine lv_iconst (v := 0) hx hb dX12_in_18 (by decide) ?_
  exact e_i (fun _ => 0) hx hb hr hlocks rfl rfl hP hD hS (Nat.le_of_ble_eq_true rfl) (Nat.le_of_ble_eq_true rfl) dX12_in_19
set_option maxHeartbeats 4000000 in
set_option maxRecDepth 100000 in
theorem c229_X12_stick (l : Launch) (hfl : l.stackTraces = false) (D : va_G) (cA : Nat → ClassId) (g : gv_T) (h0 h1 h2 h3 h4 h5 h6 h7 h8 h9 h10 h11 h12 h13 h14 h15 h16 h17 h18 : Nat) (p0 : Int32) (p1 : Int32) (p2 : Int32) (k0 : ¬ (lg_cmp p0.toInt64 1) < 0) (k1 : 0 < (lg_cmp p0.toInt64 900)) : CT l yX12_stick cX12_stick 4 (some .int) (RM 1 0 0 23) D cA g [.ref h0, .int p0, .int p1, .int p2] [(h0, .inr (15, [.ref h1, .ref h2, .ref h3, .ref h4, .ref h5, .ref h6, .ref h7, .ref h8, .ref h9, .ref h10, .ref h11, .ref h12, .ref h13, .ref h14, .ref h15, .ref h16, .ref h17, .ref h18, .long 0, .int 0, .int 2, .int 0, .int 0, .int 0, .int 0, .int 0, .int 0]))] (fun q => some (.int 0)) (fun q => [(h0, .inr (15, [.ref h1, .ref h2, .ref h3, .ref h4, .ref h5, .ref h6, .ref h7, .ref h8, .ref h9, .ref h10, .ref h11, .ref h12, .ref h13, .ref h14, .ref h15, .ref h16, .ref h17, .ref h18, .long 0, .int 1, .int 2, .int 0, .int 0, .int 0, .int 0, .int 0, .int 0]))]) := by
  refine CT.of (by decide +kernel) (Nat.le_of_ble_eq_true rfl) ?_
  intro p e s m args below meth c A ls hx hb hr hml hown hG hlocks hnm hA hS hP hK hD hGV hl
  have hown : s.vm.findClass RX12 = some m.cls := hown
  have hl : lv_has ls 4 [(0, .ref h0), (1, .int p0), (2, .int p1), (3, .int p2)] := hl
  have hSF : CF p m c cX12_stick 4 s args RX12 := ⟨hx, hb, hml, hown, hG⟩
  refine lv_iload_n hx hb dX12_stick_0 rfl (lv_at hl 1 rfl) ?_
  refine lv_i2l (v := p0.toInt64) hx hb dX12_stick_1 rfl ?_
  refine lv_iconst (v := 1) hx hb dX12_stick_2 (by decide) ?_
  refine lv_sipush (v := 900) hx hb dX12_stick_3 (by decide) ?_
  refine ct_S (wr := [(h0, .inr (15, [.ref h1, .ref h2, .ref h3, .ref h4, .ref h5, .ref h6, .ref h7, .ref h8, .ref h9, .ref h10, .ref h11, .ref h12, .ref h13, .ref h14, .ref h15, .ref h16, .ref h17, .ref h18, .long 0, .int 0, .int 2, .int 0, .int 0, .int 0, .int 0, .int 0, .int 0]))]) hSF hl.1 hP hD hS hA hK hGV (c228_X12_in l hfl D cA g (p0.toInt64) k0 k1) goS_X12_285 pd_X12_in.2 ⟨(Nat.le_of_ble_eq_true rfl), (Nat.le_of_ble_eq_true rfl)⟩ ⟨(Nat.le_of_ble_eq_true rfl), (Nat.le_of_ble_eq_true rfl)⟩ dX12_stick_6 rfl (Nat.le_of_ble_eq_true rfl) [] [0] rfl (by decide) rfl (by decide) (by decide) (fun q => [(h0, .inr (15, [.ref h1, .ref h2, .ref h3, .ref h4, .ref h5, .ref h6, .ref h7, .ref h8, .ref h9, .ref h10, .ref h11, .ref h12, .ref h13, .ref h14, .ref h15, .ref h16, .ref h17, .ref h18, .long 0, .int 0, .int 2, .int 0, .int 0, .int 0, .int 0, .int 0, .int 0]))]) (fun _ => rfl) (fun q1 H locs hP hD hS => ?_)
  refine W.eq (g2 := F0 m 9 ls [.int 0]) rfl ?_
  refine k_if_eq_t (tgt := 34) hx hb dX12_stick_9 (by decide) (by decide) ?_
  refine lv_aload_n hx hb dX12_stick_34 rfl (lv_at hl 0 rfl) ?_
  refine lv_iconst (v := 1) hx hb dX12_stick_35 (by decide) ?_
  refine ct_V (wr := []) hSF hl.1 hP hD hS hA hK hGV (c15_X12_fails l hfl D cA g h0 h1 h2 h3 h4 h5 h6 h7 h8 h9 h10 h11 h12 h13 h14 h15 h16 h17 h18) goV_X12_289 pd_X12_fails ⟨(Nat.le_of_ble_eq_true rfl), (Nat.le_of_ble_eq_true rfl)⟩ ⟨(Nat.le_of_ble_eq_true rfl), (Nat.le_of_ble_eq_true rfl)⟩ (va_recv hK hP (ci := 15) (q0 := 0) rfl rfl) dX12_stick_36 rfl (Nat.le_of_ble_eq_true rfl) [0] [] rfl (by decide) rfl (by decide) (by decide) (fun q => [(h0, .inr (15, [.ref h1, .ref h2, .ref h3, .ref h4, .ref h5, .ref h6, .ref h7, .ref h8, .ref h9, .ref h10, .ref h11, .ref h12, .ref h13, .ref h14, .ref h15, .ref h16, .ref h17, .ref h18, .long 0, .int 1, .int 2, .int 0, .int 0, .int 0, .int 0, .int 0, .int 0]))]) (fun _ => rfl) (fun q2 H locs hP hD hS => ?_)
  refine W.eq (g2 := F0 m 39 ls [.int 0]) rfl ?_
  exact e_i (fun _ => 0) hx hb hr hlocks rfl rfl hP hD hS (Nat.le_of_ble_eq_true rfl) (Nat.le_of_ble_eq_true rfl) dX12_stick_39
set_option maxHeartbeats 4000000 in
set_option maxRecDepth 100000 in
theorem c230_X6_isWithin (l : Launch) (hfl : l.stackTraces = false) (D : va_G) (cA : Nat → ClassId) (g : gv_T) (p0 : Int32) (k0 : ¬ p0 < 1) (k1 : ¬ 900 < p0) : CT l yX6_isWithin cX6_isWithin 3 (some .boolean) (RM 0 0 0 0) D cA g [.int p0, .int 1, .int 900] [] (fun q => some (.int 1)) (fun q => []) := by
  refine CT.of (by decide +kernel) (Nat.le_of_ble_eq_true rfl) ?_
  intro p e s m args below meth c A ls hx hb hr hml hown hG hlocks hnm hA hS hP hK hD hGV hl
  have hown : s.vm.findClass RX6 = some m.cls := hown
  have hl : lv_has ls 3 [(0, .int p0), (1, .int 1), (2, .int 900)] := hl
  have hSF : CF p m c cX6_isWithin 3 s args RX6 := ⟨hx, hb, hml, hown, hG⟩
  refine lv_iload_n hx hb dX6_isWithin_0 rfl (lv_at hl 0 rfl) ?_
  refine lv_iload_n hx hb dX6_isWithin_1 rfl (lv_at hl 1 rfl) ?_
  refine k_icmp_lt_f (tgt := 14) hx hb dX6_isWithin_2 k0 (by decide) ?_
  refine lv_iload_n hx hb dX6_isWithin_5 rfl (lv_at hl 0 rfl) ?_
  refine lv_iload_n hx hb dX6_isWithin_6 rfl (lv_at hl 2 rfl) ?_
  refine k_icmp_gt_f (tgt := 14) hx hb dX6_isWithin_7 k1 (by decide) ?_
  refine lv_iconst (v := 1) hx hb dX6_isWithin_10 (by decide) ?_
  refine lv_goto (tgt := 15) hx hb dX6_isWithin_11 (by decide) ?_
  exact e_i (fun _ => 0) hx hb hr hlocks rfl rfl hP hD hS (Nat.le_of_ble_eq_true rfl) (Nat.le_of_ble_eq_true rfl) dX6_isWithin_15
set_option maxHeartbeats 4000000 in
set_option maxRecDepth 100000 in
theorem c231_X6_isWithin (l : Launch) (hfl : l.stackTraces = false) (D : va_G) (cA : Nat → ClassId) (g : gv_T) (p0 : Int32) (k0 : p0 < 6) : CT l yX6_isWithin cX6_isWithin 3 (some .boolean) (RM 0 0 0 0) D cA g [.int p0, .int 6, .int 40] [] (fun q => some (.int 0)) (fun q => []) := by
  refine CT.of (by decide +kernel) (Nat.le_of_ble_eq_true rfl) ?_
  intro p e s m args below meth c A ls hx hb hr hml hown hG hlocks hnm hA hS hP hK hD hGV hl
  have hown : s.vm.findClass RX6 = some m.cls := hown
  have hl : lv_has ls 3 [(0, .int p0), (1, .int 6), (2, .int 40)] := hl
  have hSF : CF p m c cX6_isWithin 3 s args RX6 := ⟨hx, hb, hml, hown, hG⟩
  refine lv_iload_n hx hb dX6_isWithin_0 rfl (lv_at hl 0 rfl) ?_
  refine lv_iload_n hx hb dX6_isWithin_1 rfl (lv_at hl 1 rfl) ?_
  refine k_icmp_lt_t (tgt := 14) hx hb dX6_isWithin_2 k0 (by decide) ?_
  refine lv_iconst (v := 0) hx hb dX6_isWithin_14 (by decide) ?_
  exact e_i (fun _ => 0) hx hb hr hlocks rfl rfl hP hD hS (Nat.le_of_ble_eq_true rfl) (Nat.le_of_ble_eq_true rfl) dX6_isWithin_15
set_option maxHeartbeats 4000000 in
set_option maxRecDepth 100000 in
theorem c232_X6_isSection (l : Launch) (hfl : l.stackTraces = false) (D : va_G) (cA : Nat → ClassId) (g : gv_T) (p0 : Int32) (p1 : Int32) (k0 : p0 < 6) : CT l yX6_isSection cX6_isSection 2 (some .boolean) (RM 1 0 0 22) D cA g [.int p0, .int p1] [] (fun q => some (.int 0)) (fun q => []) := by
  refine CT.of (by decide +kernel) (Nat.le_of_ble_eq_true rfl) ?_
  intro p e s m args below meth c A ls hx hb hr hml hown hG hlocks hnm hA hS hP hK hD hGV hl
  have hown : s.vm.findClass RX6 = some m.cls := hown
  have hl : lv_has ls 2 [(0, .int p0), (1, .int p1)] := hl
  have hSF : CF p m c cX6_isSection 2 s args RX6 := ⟨hx, hb, hml, hown, hG⟩
  refine lv_iload_n hx hb dX6_isSection_0 rfl (lv_at hl 0 rfl) ?_
  refine lv_bipush (v := 6) hx hb dX6_isSection_1 (by decide) ?_
  refine lv_bipush (v := 40) hx hb dX6_isSection_3 (by decide) ?_
  refine ct_S (wr := []) hSF hl.1 hP hD hS hA hK hGV (c231_X6_isWithin l hfl D cA g (p0) k0) goS_X6_44 pd_X6_isWithin.2 ⟨(Nat.le_of_ble_eq_true rfl), (Nat.le_of_ble_eq_true rfl)⟩ ⟨(Nat.le_of_ble_eq_true rfl), (Nat.le_of_ble_eq_true rfl)⟩ dX6_isSection_5 rfl (Nat.le_of_ble_eq_true rfl) [] [] rfl (by decide) rfl (by decide) (by decide) (fun q => []) (fun _ => rfl) (fun q1 H locs hP hD hS => ?_)
  refine W.eq (g2 := F0 m 8 ls [.int 0]) rfl ?_
  refine k_if_eq_t (tgt := 24) hx hb dX6_isSection_8 (by decide) (by decide) ?_
  refine lv_iconst (v := 0) hx hb dX6_isSection_24 (by decide) ?_
  exact e_i (fun _ => 0) hx hb hr hlocks rfl rfl hP hD hS (Nat.le_of_ble_eq_true rfl) (Nat.le_of_ble_eq_true rfl) dX6_isSection_25
set_option maxHeartbeats 4000000 in
set_option maxRecDepth 100000 in
theorem c233_X6_stick (l : Launch) (hfl : l.stackTraces = false) (D : va_G) (cA : Nat → ClassId) (g : gv_T) (h0 : Nat) (p0 : Int32) (p1 : Int32) (p2 : Int32) (k0 : ¬ p0 < 1) (k1 : ¬ 900 < p0) (k2 : p1 < 6) : CX l yX6_stick cX6_stick 4 (some .int) (RM 6 1 6 95) D cA g [.ref h0, .int p0, .int p1, .int p2] [] "java/lang/IllegalArgumentException" (fun q => []) := by
  refine CX.of (by decide +kernel) (Nat.le_of_ble_eq_true rfl) ?_
  intro p e s m args below meth c A ls hx hb hr hml hown hG hlocks htab hA hS hP hK hD hGV hl
  have hown : s.vm.findClass RX6 = some m.cls := hown
  have hl : lv_has ls 4 [(0, .ref h0), (1, .int p0), (2, .int p1), (3, .int p2)] := hl
  have hSF : CF p m c cX6_stick 4 s args RX6 := ⟨hx, hb, hml, hown, hG⟩
  refine lv_iload_n hx hb dX6_stick_0 rfl (lv_at hl 1 rfl) ?_
  refine lv_iconst (v := 1) hx hb dX6_stick_1 (by decide) ?_
  refine lv_sipush (v := 900) hx hb dX6_stick_2 (by decide) ?_
  refine ct_S (wr := []) hSF hl.1 hP hD hS hA hK hGV (c230_X6_isWithin l hfl D cA g (p0) k0 k1) goS_X6_44 pd_X6_isWithin.2 ⟨(Nat.le_of_ble_eq_true rfl), (Nat.le_of_ble_eq_true rfl)⟩ ⟨(Nat.le_of_ble_eq_true rfl), (Nat.le_of_ble_eq_true rfl)⟩ dX6_stick_5 rfl (Nat.le_of_ble_eq_true rfl) [] [] rfl (by decide) rfl (by decide) (by decide) (fun q => []) (fun _ => rfl) (fun q1 H locs hP hD hS => ?_)
  refine W.eq (g2 := F0 m 8 ls [.int 1]) rfl ?_
  refine k_if_eq_f (tgt := 19) hx hb dX6_stick_8 (by decide) (by decide) ?_
  refine lv_iload_n hx hb dX6_stick_11 rfl (lv_at hl 2 rfl) ?_
  refine lv_iload_n hx hb dX6_stick_12 rfl (lv_at hl 3 rfl) ?_
  refine ct_S (wr := []) hSF hl.1 hP hD hS hA hK hGV (c232_X6_isSection l hfl D cA g (p1) (p2) k2) goS_X6_88 pd_X6_isSection.2 ⟨(Nat.le_of_ble_eq_true rfl), (Nat.le_of_ble_eq_true rfl)⟩ ⟨(Nat.le_of_ble_eq_true rfl), (Nat.le_of_ble_eq_true rfl)⟩ dX6_stick_13 rfl (Nat.le_of_ble_eq_true rfl) [] [] rfl (by decide) rfl (by decide) (by decide) (fun q => []) (fun _ => rfl) (fun q2 H locs hP hD hS => ?_)
  refine W.eq (g2 := F0 m 16 ls [.int 0]) rfl ?_
  refine k_if_ne_f (tgt := 29) hx hb dX6_stick_16 (by decide) (by decide) ?_
  exact e_throw (fun _ => 0) (names := ["java/lang/RuntimeException", "java/lang/Exception"]) 18 hx hb hfl hown hG hGV htab hlocks (hl.1.trans hml.symm) (by decide +kernel) (by decide +kernel) gw668 gw95 rfl xat_X6_60 hP hD hS dX6_stick_19 dX6_stick_22 dX6_stick_23 dX6_stick_25 dX6_stick_28 (Nat.le_of_ble_eq_true rfl) (Nat.le_of_ble_eq_true rfl) (Nat.le_of_ble_eq_true rfl) (Nat.le_of_ble_eq_true rfl) (Nat.le_of_ble_eq_true rfl) (Nat.le_of_ble_eq_true rfl)
set_option maxHeartbeats 4000000 in
set_option maxRecDepth 100000 in
theorem c234_L_stick (l : Launch) (hfl : l.stackTraces = false) (D : va_G) (cA : Nat → ClassId) (g : gv_T) (h0 h1 h2 h3 h4 h5 h6 : Nat) (p0 : Int32) (p1 : Int32) (p2 : Int32) (k0 : ¬ p0 < 1) (k1 : ¬ 900 < p0) (k2 : p1 < 6) : CW l yL_stick cL_stick 6 (some .int) [(0, 12, 15, 13), (0, 12, 19, 15)] (RM 7 1 6 118) D cA g [.ref h0, .int p0, .int p1, .int p2, .ref h1] [(h0, .inr (9, [.ref h2, .ref h3, .ref h4, .ref h5, .ref h6]))] (fun q => some (.int 1)) (fun q => [(h0, .inr (9, [.ref h2, .ref h3, .ref h4, .ref h5, .ref h6]))]) := by
  refine CW.of (by decide +kernel) (Nat.le_of_ble_eq_true rfl) ?_
  intro p e s m args below meth c A ls hx hb hr hml hown hG hlocks htab hA hS hP hK hD hGV hl
  have hown : s.vm.findClass RL = some m.cls := hown
  have hl : lv_has ls 6 [(0, .ref h0), (1, .int p0), (2, .int p1), (3, .int p2), (4, .ref h1)] := hl
  have hSF : CF p m c cL_stick 6 s args RL := ⟨hx, hb, hml, hown, hG⟩
  refine lv_aload hx hb dL_stick_0 (lv_at hl 4 rfl) ?_
  refine lv_iconst (v := 0) hx hb dL_stick_2 (by decide) ?_
  refine lv_aload_n hx hb dL_stick_3 rfl (lv_at hl 0 rfl) ?_
  refine lv_iload_n hx hb dL_stick_4 rfl (lv_at hl 1 rfl) ?_
  refine lv_iload_n hx hb dL_stick_5 rfl (lv_at hl 2 rfl) ?_
  refine lv_iload_n hx hb dL_stick_6 rfl (lv_at hl 3 rfl) ?_
  refine cx_V (wr := [(h0, .inr (9, [.ref h2, .ref h3, .ref h4, .ref h5, .ref h6]))]) hSF hl.1 hP hD hS hA hK hGV (c233_X6_stick l hfl D cA g h0 (p0) (p1) (p2) k0 k1 k2) goV_L_74 pd_X6_stick ⟨(Nat.le_of_ble_eq_true rfl), (Nat.le_of_ble_eq_true rfl)⟩ ⟨(Nat.le_of_ble_eq_true rfl), (Nat.le_of_ble_eq_true rfl)⟩ (va_recv hK hP (ci := 9) (q0 := 0) rfl rfl) dL_stick_7 rfl (Nat.le_of_ble_eq_true rfl) [] [0] rfl (by decide) rfl (by decide) (by decide) (fun q => [(h0, .inr (9, [.ref h2, .ref h3, .ref h4, .ref h5, .ref h6]))]) (fun _ => rfl) (fun q1 H locs x9 ce9 hP hD hS h9 hv9 hcl9 => ?_)
  refine vx_catch (own := RL) (name := "java/lang/IllegalArgumentException") hown [] { startPc := 0, endPc := 12, handlerPc := 15, catchType := 13 } [{ startPc := 0, endPc := 12, handlerPc := 19, catchType := 15 }] (htab.trans rfl) (fun z hz => nomatch hz) rfl (by decide) (hG _ gw572) (va_Nw.use rfl (hGV.2.2.2.2.1 _ gw670)) h9 hv9 hcl9 ?_
  refine W.eq (g2 := F0 m 15 ls [.ref x9]) rfl ?_
  refine lv_astore (lv' := [(5, .ref x9), (0, .ref h0), (1, .int p0), (2, .int p1), (3, .int p2), (4, .ref h1)]) hx hb dL_stick_15 hl (by decide) rfl (fun ls hl => ?_)
  refine lv_iconst (v := 1) hx hb dL_stick_17 (by decide) ?_
  exact e_i (fun _ => 0) hx hb hr hlocks rfl rfl hP hD hS (Nat.le_of_ble_eq_true rfl) (Nat.le_of_ble_eq_true rfl) dL_stick_18
set_option maxHeartbeats 4000000 in
set_option maxRecDepth 100000 in
theorem c235_X12_in (l : Launch) (hfl : l.stackTraces = false) (D : va_G) (cA : Nat → ClassId) (g : gv_T) (p0 : Int64) (k0 : ¬ (lg_cmp p0 1) < 0) (k1 : ¬ 0 < (lg_cmp p0 900)) : CT l yX12_in cX12_in 4 (some .boolean) (RM 0 0 0 0) D cA g [.long p0, .int 1, .int 900] [] (fun q => some (.int 1)) (fun q => []) := by
  refine CT.of (by decide +kernel) (Nat.le_of_ble_eq_true rfl) ?_
  intro p e s m args below meth c A ls hx hb hr hml hown hG hlocks hnm hA hS hP hK hD hGV hl
  have hown : s.vm.findClass RX12 = some m.cls := hown
  have hl : lv_has ls 4 [(0, .long p0), (2, .int 1), (3, .int 900)] := hl
  have hSF : CF p m c cX12_in 4 s args RX12 := ⟨hx, hb, hml, hown, hG⟩
  refine lv_lload_n hx hb dX12_in_0 rfl (lv_at hl 0 rfl) ?_
  refine lv_iload_n hx hb dX12_in_1 rfl (lv_at hl 1 rfl) ?_
  refine lv_i2l (v := 1) hx hb dX12_in_2 (by decide +kernel) ?_
  refine k_lcmp (v := (lg_cmp p0 1)) hx hb dX12_in_3 rfl ?_
  refine k_if_lt_f (tgt := 18) hx hb dX12_in_4 k0 (by decide) ?_
  refine lv_lload_n hx hb dX12_in_7 rfl (lv_at hl 0 rfl) ?_
  refine lv_iload_n hx hb dX12_in_8 rfl (lv_at hl 2 rfl) ?_
  refine lv_i2l (v := 900) hx hb dX12_in_9 (by decide +kernel) ?_
  refine k_lcmp (v := (lg_cmp p0 900)) hx hb dX12_in_10 rfl ?_
  refine k_if_gt_f (tgt := 18) hx hb dX12_in_11 k1 (by decide) ?_
  refine lv_iconst (v := 1) hx hb dX12_in_14 (by decide) ?_
  refine lv_goto (tgt := 19) hx hb dX12_in_15 (by decide) ?_
  exact e_i (fun _ => 0) hx hb hr hlocks rfl rfl hP hD hS (Nat.le_of_ble_eq_true rfl) (Nat.le_of_ble_eq_true rfl) dX12_in_19
set_option maxHeartbeats 4000000 in
set_option maxRecDepth 100000 in
theorem c236_X12_in (l : Launch) (hfl : l.stackTraces = false) (D : va_G) (cA : Nat → ClassId) (g : gv_T) (p0 : Int64) (k0 : (lg_cmp p0 6) < 0) : CT l yX12_in cX12_in 4 (some .boolean) (RM 0 0 0 0) D cA g [.long p0, .int 6, .int 40] [] (fun q => some (.int 0)) (fun q => []) := by
  refine CT.of (by decide +kernel) (Nat.le_of_ble_eq_true rfl) ?_
  intro p e s m args below meth c A ls hx hb hr hml hown hG hlocks hnm hA hS hP hK hD hGV hl
  have hown : s.vm.findClass RX12 = some m.cls := hown
  have hl : lv_has ls 4 [(0, .long p0), (2, .int 6), (3, .int 40)] := hl
  have hSF : CF p m c cX12_in 4 s args RX12 := ⟨hx, hb, hml, hown, hG⟩
  refine lv_lload_n hx hb dX12_in_0 rfl (lv_at hl 0 rfl) ?_
  refine lv_iload_n hx hb dX12_in_1 rfl (lv_at hl 1 rfl) ?_
  refine lv_i2l (v := 6) hx hb dX12_in_2 (by decide +kernel) ?_
  refine k_lcmp (v := (lg_cmp p0 6)) hx hb dX12_in_3 rfl ?_
  refine k_if_lt_t (tgt := 18) hx hb dX12_in_4 k0 (by decide) ?_
  refine lv_iconst (v := 0) hx hb dX12_in_18 (by decide) ?_
  exact e_i (fun _ => 0) hx hb hr hlocks rfl rfl hP hD hS (Nat.le_of_ble_eq_true rfl) (Nat.le_of_ble_eq_true rfl) dX12_in_19
set_option maxHeartbeats 4000000 in
set_option maxRecDepth 100000 in
theorem c237_X12_stick (l : Launch) (hfl : l.stackTraces = false) (D : va_G) (cA : Nat → ClassId) (g : gv_T) (h0 h1 h2 h3 h4 h5 h6 h7 h8 h9 h10 h11 h12 h13 h14 h15 h16 h17 h18 : Nat) (p0 : Int32) (p1 : Int32) (p2 : Int32) (k0 : ¬ (lg_cmp p0.toInt64 1) < 0) (k1 : ¬ 0 < (lg_cmp p0.toInt64 900)) (k2 : (lg_cmp p1.toInt64 6) < 0) : CT l yX12_stick cX12_stick 4 (some .int) (RM 1 0 0 23) D cA g [.ref h0, .int p0, .int p1, .int p2] [(h0, .inr (15, [.ref h1, .ref h2, .ref h3, .ref h4, .ref h5, .ref h6, .ref h7, .ref h8, .ref h9, .ref h10, .ref h11, .ref h12, .ref h13, .ref h14, .ref h15, .ref h16, .ref h17, .ref h18, .long 0, .int 0, .int 2, .int 0, .int 0, .int 0, .int 0, .int 0, .int 0]))] (fun q => some (.int 0)) (fun q => [(h0, .inr (15, [.ref h1, .ref h2, .ref h3, .ref h4, .ref h5, .ref h6, .ref h7, .ref h8, .ref h9, .ref h10, .ref h11, .ref h12, .ref h13, .ref h14, .ref h15, .ref h16, .ref h17, .ref h18, .long 0, .int 1, .int 2, .int 0, .int 0, .int 0, .int 0, .int 0, .int 0]))]) := by
  refine CT.of (by decide +kernel) (Nat.le_of_ble_eq_true rfl) ?_
  intro p e s m args below meth c A ls hx hb hr hml hown hG hlocks hnm hA hS hP hK hD hGV hl
  have hown : s.vm.findClass RX12 = some m.cls := hown
  have hl : lv_has ls 4 [(0, .ref h0), (1, .int p0), (2, .int p1), (3, .int p2)] := hl
  have hSF : CF p m c cX12_stick 4 s args RX12 := ⟨hx, hb, hml, hown, hG⟩
  refine lv_iload_n hx hb dX12_stick_0 rfl (lv_at hl 1 rfl) ?_
  refine lv_i2l (v := p0.toInt64) hx hb dX12_stick_1 rfl ?_
  refine lv_iconst (v := 1) hx hb dX12_stick_2 (by decide) ?_
  refine lv_sipush (v := 900) hx hb dX12_stick_3 (by decide) ?_
  refine ct_S (wr := [(h0, .inr (15, [.ref h1, .ref h2, .ref h3, .ref h4, .ref h5, .ref h6, .ref h7, .ref h8, .ref h9, .ref h10, .ref h11, .ref h12, .ref h13, .ref h14, .ref h15, .ref h16, .ref h17, .ref h18, .long 0, .int 0, .int 2, .int 0, .int 0, .int 0, .int 0, .int 0, .int 0]))]) hSF hl.1 hP hD hS hA hK hGV (c235_X12_in l hfl D cA g (p0.toInt64) k0 k1) goS_X12_285 pd_X12_in.2 ⟨(Nat.le_of_ble_eq_true rfl), (Nat.le_of_ble_eq_true rfl)⟩ ⟨(Nat.le_of_ble_eq_true rfl), (Nat.le_of_ble_eq_true rfl)⟩ dX12_stick_6 rfl (Nat.le_of_ble_eq_true rfl) [] [0] rfl (by decide) rfl (by decide) (by decide) (fun q => [(h0, .inr (15, [.ref h1, .ref h2, .ref h3, .ref h4, .ref h5, .ref h6, .ref h7, .ref h8, .ref h9, .ref h10, .ref h11, .ref h12, .ref h13, .ref h14, .ref h15, .ref h16, .ref h17, .ref h18, .long 0, .int 0, .int 2, .int 0, .int 0, .int 0, .int 0, .int 0, .int 0]))]) (fun _ => rfl) (fun q1 H locs hP hD hS => ?_)
  refine W.eq (g2 := F0 m 9 ls [.int 1]) rfl ?_
  refine k_if_eq_f (tgt := 34) hx hb dX12_stick_9 (by decide) (by decide) ?_
  refine lv_iload_n hx hb dX12_stick_12 rfl (lv_at hl 2 rfl) ?_
  refine lv_i2l (v := p1.toInt64) hx hb dX12_stick_13 rfl ?_
  refine lv_bipush (v := 6) hx hb dX12_stick_14 (by decide) ?_
  refine lv_bipush (v := 40) hx hb dX12_stick_16 (by decide) ?_
  refine ct_S (wr := [(h0, .inr (15, [.ref h1, .ref h2, .ref h3, .ref h4, .ref h5, .ref h6, .ref h7, .ref h8, .ref h9, .ref h10, .ref h11, .ref h12, .ref h13, .ref h14, .ref h15, .ref h16, .ref h17, .ref h18, .long 0, .int 0, .int 2, .int 0, .int 0, .int 0, .int 0, .int 0, .int 0]))]) hSF hl.1 hP hD hS hA hK hGV (c236_X12_in l hfl D cA g (p1.toInt64) k2) goS_X12_285 pd_X12_in.2 ⟨(Nat.le_of_ble_eq_true rfl), (Nat.le_of_ble_eq_true rfl)⟩ ⟨(Nat.le_of_ble_eq_true rfl), (Nat.le_of_ble_eq_true rfl)⟩ dX12_stick_18 rfl (Nat.le_of_ble_eq_true rfl) [] [0] rfl (by decide) rfl (by decide) (by decide) (fun q => [(h0, .inr (15, [.ref h1, .ref h2, .ref h3, .ref h4, .ref h5, .ref h6, .ref h7, .ref h8, .ref h9, .ref h10, .ref h11, .ref h12, .ref h13, .ref h14, .ref h15, .ref h16, .ref h17, .ref h18, .long 0, .int 0, .int 2, .int 0, .int 0, .int 0, .int 0, .int 0, .int 0]))]) (fun _ => rfl) (fun q2 H locs hP hD hS => ?_)
  refine W.eq (g2 := F0 m 21 ls [.int 0]) rfl ?_
  refine k_if_eq_t (tgt := 34) hx hb dX12_stick_21 (by decide) (by decide) ?_
  refine lv_aload_n hx hb dX12_stick_34 rfl (lv_at hl 0 rfl) ?_
  refine lv_iconst (v := 1) hx hb dX12_stick_35 (by decide) ?_
  refine ct_V (wr := []) hSF hl.1 hP hD hS hA hK hGV (c15_X12_fails l hfl D cA g h0 h1 h2 h3 h4 h5 h6 h7 h8 h9 h10 h11 h12 h13 h14 h15 h16 h17 h18) goV_X12_289 pd_X12_fails ⟨(Nat.le_of_ble_eq_true rfl), (Nat.le_of_ble_eq_true rfl)⟩ ⟨(Nat.le_of_ble_eq_true rfl), (Nat.le_of_ble_eq_true rfl)⟩ (va_recv hK hP (ci := 15) (q0 := 0) rfl rfl) dX12_stick_36 rfl (Nat.le_of_ble_eq_true rfl) [0] [] rfl (by decide) rfl (by decide) (by decide) (fun q => [(h0, .inr (15, [.ref h1, .ref h2, .ref h3, .ref h4, .ref h5, .ref h6, .ref h7, .ref h8, .ref h9, .ref h10, .ref h11, .ref h12, .ref h13, .ref h14, .ref h15, .ref h16, .ref h17, .ref h18, .long 0, .int 1, .int 2, .int 0, .int 0, .int 0, .int 0, .int 0, .int 0]))]) (fun _ => rfl) (fun q3 H locs hP hD hS => ?_)
  refine W.eq (g2 := F0 m 39 ls [.int 0]) rfl ?_
  exact e_i (fun _ => 0) hx hb hr hlocks rfl rfl hP hD hS (Nat.le_of_ble_eq_true rfl) (Nat.le_of_ble_eq_true rfl) dX12_stick_39
set_option maxHeartbeats 4000000 in
set_option maxRecDepth 100000 in
theorem c238_X6_isWithin (l : Launch) (hfl : l.stackTraces = false) (D : va_G) (cA : Nat → ClassId) (g : gv_T) (p0 : Int32) (k0 : ¬ p0 < 6) (k1 : 40 < p0) : CT l yX6_isWithin cX6_isWithin 3 (some .boolean) (RM 0 0 0 0) D cA g [.int p0, .int 6, .int 40] [] (fun q => some (.int 0)) (fun q => []) := by
  refine CT.of (by decide +kernel) (Nat.le_of_ble_eq_true rfl) ?_
  intro p e s m args below meth c A ls hx hb hr hml hown hG hlocks hnm hA hS hP hK hD hGV hl
  have hown : s.vm.findClass RX6 = some m.cls := hown
  have hl : lv_has ls 3 [(0, .int p0), (1, .int 6), (2, .int 40)] := hl
  have hSF : CF p m c cX6_isWithin 3 s args RX6 := ⟨hx, hb, hml, hown, hG⟩
  refine lv_iload_n hx hb dX6_isWithin_0 rfl (lv_at hl 0 rfl) ?_
  refine lv_iload_n hx hb dX6_isWithin_1 rfl (lv_at hl 1 rfl) ?_
  refine k_icmp_lt_f (tgt := 14) hx hb dX6_isWithin_2 k0 (by decide) ?_
  refine lv_iload_n hx hb dX6_isWithin_5 rfl (lv_at hl 0 rfl) ?_
  refine lv_iload_n hx hb dX6_isWithin_6 rfl (lv_at hl 2 rfl) ?_
  refine k_icmp_gt_t (tgt := 14) hx hb dX6_isWithin_7 k1 (by decide) ?_
  refine lv_iconst (v := 0) hx hb dX6_isWithin_14 (by decide) ?_
  exact e_i (fun _ => 0) hx hb hr hlocks rfl rfl hP hD hS (Nat.le_of_ble_eq_true rfl) (Nat.le_of_ble_eq_true rfl) dX6_isWithin_15
set_option maxHeartbeats 4000000 in
set_option maxRecDepth 100000 in
theorem c239_X6_isSection (l : Launch) (hfl : l.stackTraces = false) (D : va_G) (cA : Nat → ClassId) (g : gv_T) (p0 : Int32) (p1 : Int32) (k0 : ¬ p0 < 6) (k1 : 40 < p0) : CT l yX6_isSection cX6_isSection 2 (some .boolean) (RM 1 0 0 22) D cA g [.int p0, .int p1] [] (fun q => some (.int 0)) (fun q => []) := by
  refine CT.of (by decide +kernel) (Nat.le_of_ble_eq_true rfl) ?_
  intro p e s m args below meth c A ls hx hb hr hml hown hG hlocks hnm hA hS hP hK hD hGV hl
  have hown : s.vm.findClass RX6 = some m.cls := hown
  have hl : lv_has ls 2 [(0, .int p0), (1, .int p1)] := hl
  have hSF : CF p m c cX6_isSection 2 s args RX6 := ⟨hx, hb, hml, hown, hG⟩
  refine lv_iload_n hx hb dX6_isSection_0 rfl (lv_at hl 0 rfl) ?_
  refine lv_bipush (v := 6) hx hb dX6_isSection_1 (by decide) ?_
  refine lv_bipush (v := 40) hx hb dX6_isSection_3 (by decide) ?_
  refine ct_S (wr := []) hSF hl.1 hP hD hS hA hK hGV (c238_X6_isWithin l hfl D cA g (p0) k0 k1) goS_X6_44 pd_X6_isWithin.2 ⟨(Nat.le_of_ble_eq_true rfl), (Nat.le_of_ble_eq_true rfl)⟩ ⟨(Nat.le_of_ble_eq_true rfl), (Nat.le_of_ble_eq_true rfl)⟩ dX6_isSection_5 rfl (Nat.le_of_ble_eq_true rfl) [] [] rfl (by decide) rfl (by decide) (by decide) (fun q => []) (fun _ => rfl) (fun q1 H locs hP hD hS => ?_)
  refine W.eq (g2 := F0 m 8 ls [.int 0]) rfl ?_
  refine k_if_eq_t (tgt := 24) hx hb dX6_isSection_8 (by decide) (by decide) ?_
  refine lv_iconst (v := 0) hx hb dX6_isSection_24 (by decide) ?_
  exact e_i (fun _ => 0) hx hb hr hlocks rfl rfl hP hD hS (Nat.le_of_ble_eq_true rfl) (Nat.le_of_ble_eq_true rfl) dX6_isSection_25
set_option maxHeartbeats 4000000 in
set_option maxRecDepth 100000 in
theorem c240_X6_stick (l : Launch) (hfl : l.stackTraces = false) (D : va_G) (cA : Nat → ClassId) (g : gv_T) (h0 : Nat) (p0 : Int32) (p1 : Int32) (p2 : Int32) (k0 : ¬ p0 < 1) (k1 : ¬ 900 < p0) (k2 : ¬ p1 < 6) (k3 : 40 < p1) : CX l yX6_stick cX6_stick 4 (some .int) (RM 6 1 6 95) D cA g [.ref h0, .int p0, .int p1, .int p2] [] "java/lang/IllegalArgumentException" (fun q => []) := by
  refine CX.of (by decide +kernel) (Nat.le_of_ble_eq_true rfl) ?_
  intro p e s m args below meth c A ls hx hb hr hml hown hG hlocks htab hA hS hP hK hD hGV hl
  have hown : s.vm.findClass RX6 = some m.cls := hown
  have hl : lv_has ls 4 [(0, .ref h0), (1, .int p0), (2, .int p1), (3, .int p2)] := hl
  have hSF : CF p m c cX6_stick 4 s args RX6 := ⟨hx, hb, hml, hown, hG⟩
  refine lv_iload_n hx hb dX6_stick_0 rfl (lv_at hl 1 rfl) ?_
  refine lv_iconst (v := 1) hx hb dX6_stick_1 (by decide) ?_
  refine lv_sipush (v := 900) hx hb dX6_stick_2 (by decide) ?_
  refine ct_S (wr := []) hSF hl.1 hP hD hS hA hK hGV (c230_X6_isWithin l hfl D cA g (p0) k0 k1) goS_X6_44 pd_X6_isWithin.2 ⟨(Nat.le_of_ble_eq_true rfl), (Nat.le_of_ble_eq_true rfl)⟩ ⟨(Nat.le_of_ble_eq_true rfl), (Nat.le_of_ble_eq_true rfl)⟩ dX6_stick_5 rfl (Nat.le_of_ble_eq_true rfl) [] [] rfl (by decide) rfl (by decide) (by decide) (fun q => []) (fun _ => rfl) (fun q1 H locs hP hD hS => ?_)
  refine W.eq (g2 := F0 m 8 ls [.int 1]) rfl ?_
  refine k_if_eq_f (tgt := 19) hx hb dX6_stick_8 (by decide) (by decide) ?_
  refine lv_iload_n hx hb dX6_stick_11 rfl (lv_at hl 2 rfl) ?_
  refine lv_iload_n hx hb dX6_stick_12 rfl (lv_at hl 3 rfl) ?_
  refine ct_S (wr := []) hSF hl.1 hP hD hS hA hK hGV (c239_X6_isSection l hfl D cA g (p1) (p2) k2 k3) goS_X6_88 pd_X6_isSection.2 ⟨(Nat.le_of_ble_eq_true rfl), (Nat.le_of_ble_eq_true rfl)⟩ ⟨(Nat.le_of_ble_eq_true rfl), (Nat.le_of_ble_eq_true rfl)⟩ dX6_stick_13 rfl (Nat.le_of_ble_eq_true rfl) [] [] rfl (by decide) rfl (by decide) (by decide) (fun q => []) (fun _ => rfl) (fun q2 H locs hP hD hS => ?_)
  refine W.eq (g2 := F0 m 16 ls [.int 0]) rfl ?_
  refine k_if_ne_f (tgt := 29) hx hb dX6_stick_16 (by decide) (by decide) ?_
  exact e_throw (fun _ => 0) (names := ["java/lang/RuntimeException", "java/lang/Exception"]) 18 hx hb hfl hown hG hGV htab hlocks (hl.1.trans hml.symm) (by decide +kernel) (by decide +kernel) gw668 gw95 rfl xat_X6_60 hP hD hS dX6_stick_19 dX6_stick_22 dX6_stick_23 dX6_stick_25 dX6_stick_28 (Nat.le_of_ble_eq_true rfl) (Nat.le_of_ble_eq_true rfl) (Nat.le_of_ble_eq_true rfl) (Nat.le_of_ble_eq_true rfl) (Nat.le_of_ble_eq_true rfl) (Nat.le_of_ble_eq_true rfl)
set_option maxHeartbeats 4000000 in
set_option maxRecDepth 100000 in
theorem c241_L_stick (l : Launch) (hfl : l.stackTraces = false) (D : va_G) (cA : Nat → ClassId) (g : gv_T) (h0 h1 h2 h3 h4 h5 h6 : Nat) (p0 : Int32) (p1 : Int32) (p2 : Int32) (k0 : ¬ p0 < 1) (k1 : ¬ 900 < p0) (k2 : ¬ p1 < 6) (k3 : 40 < p1) : CW l yL_stick cL_stick 6 (some .int) [(0, 12, 15, 13), (0, 12, 19, 15)] (RM 7 1 6 118) D cA g [.ref h0, .int p0, .int p1, .int p2, .ref h1] [(h0, .inr (9, [.ref h2, .ref h3, .ref h4, .ref h5, .ref h6]))] (fun q => some (.int 1)) (fun q => [(h0, .inr (9, [.ref h2, .ref h3, .ref h4, .ref h5, .ref h6]))]) := by
  refine CW.of (by decide +kernel) (Nat.le_of_ble_eq_true rfl) ?_
  intro p e s m args below meth c A ls hx hb hr hml hown hG hlocks htab hA hS hP hK hD hGV hl
  have hown : s.vm.findClass RL = some m.cls := hown
  have hl : lv_has ls 6 [(0, .ref h0), (1, .int p0), (2, .int p1), (3, .int p2), (4, .ref h1)] := hl
  have hSF : CF p m c cL_stick 6 s args RL := ⟨hx, hb, hml, hown, hG⟩
  refine lv_aload hx hb dL_stick_0 (lv_at hl 4 rfl) ?_
  refine lv_iconst (v := 0) hx hb dL_stick_2 (by decide) ?_
  refine lv_aload_n hx hb dL_stick_3 rfl (lv_at hl 0 rfl) ?_
  refine lv_iload_n hx hb dL_stick_4 rfl (lv_at hl 1 rfl) ?_
  refine lv_iload_n hx hb dL_stick_5 rfl (lv_at hl 2 rfl) ?_
  refine lv_iload_n hx hb dL_stick_6 rfl (lv_at hl 3 rfl) ?_
  refine cx_V (wr := [(h0, .inr (9, [.ref h2, .ref h3, .ref h4, .ref h5, .ref h6]))]) hSF hl.1 hP hD hS hA hK hGV (c240_X6_stick l hfl D cA g h0 (p0) (p1) (p2) k0 k1 k2 k3) goV_L_74 pd_X6_stick ⟨(Nat.le_of_ble_eq_true rfl), (Nat.le_of_ble_eq_true rfl)⟩ ⟨(Nat.le_of_ble_eq_true rfl), (Nat.le_of_ble_eq_true rfl)⟩ (va_recv hK hP (ci := 9) (q0 := 0) rfl rfl) dL_stick_7 rfl (Nat.le_of_ble_eq_true rfl) [] [0] rfl (by decide) rfl (by decide) (by decide) (fun q => [(h0, .inr (9, [.ref h2, .ref h3, .ref h4, .ref h5, .ref h6]))]) (fun _ => rfl) (fun q1 H locs x9 ce9 hP hD hS h9 hv9 hcl9 => ?_)
  refine vx_catch (own := RL) (name := "java/lang/IllegalArgumentException") hown [] { startPc := 0, endPc := 12, handlerPc := 15, catchType := 13 } [{ startPc := 0, endPc := 12, handlerPc := 19, catchType := 15 }] (htab.trans rfl) (fun z hz => nomatch hz) rfl (by decide) (hG _ gw572) (va_Nw.use rfl (hGV.2.2.2.2.1 _ gw670)) h9 hv9 hcl9 ?_
  refine W.eq (g2 := F0 m 15 ls [.ref x9]) rfl ?_
  refine lv_astore (lv' := [(5, .ref x9), (0, .ref h0), (1, .int p0), (2, .int p1), (3, .int p2), (4, .ref h1)]) hx hb dL_stick_15 hl (by decide) rfl (fun ls hl => ?_)
  refine lv_iconst (v := 1) hx hb dL_stick_17 (by decide) ?_
  exact e_i (fun _ => 0) hx hb hr hlocks rfl rfl hP hD hS (Nat.le_of_ble_eq_true rfl) (Nat.le_of_ble_eq_true rfl) dL_stick_18
set_option maxHeartbeats 4000000 in
set_option maxRecDepth 100000 in
theorem c242_X12_in (l : Launch) (hfl : l.stackTraces = false) (D : va_G) (cA : Nat → ClassId) (g : gv_T) (p0 : Int64) (k0 : ¬ (lg_cmp p0 6) < 0) (k1 : 0 < (lg_cmp p0 40)) : CT l yX12_in cX12_in 4 (some .boolean) (RM 0 0 0 0) D cA g [.long p0, .int 6, .int 40] [] (fun q => some (.int 0)) (fun q => []) := by
  refine CT.of (by decide +kernel) (Nat.le_of_ble_eq_true rfl) ?_
  intro p e s m args below meth c A ls hx hb hr hml hown hG hlocks hnm hA hS hP hK hD hGV hl
  have hown : s.vm.findClass RX12 = some m.cls := hown
  have hl : lv_has ls 4 [(0, .long p0), (2, .int 6), (3, .int 40)] := hl
  have hSF : CF p m c cX12_in 4 s args RX12 := ⟨hx, hb, hml, hown, hG⟩
  refine lv_lload_n hx hb dX12_in_0 rfl (lv_at hl 0 rfl) ?_
  refine lv_iload_n hx hb dX12_in_1 rfl (lv_at hl 1 rfl) ?_
  refine lv_i2l (v := 6) hx hb dX12_in_2 (by decide +kernel) ?_
  refine k_lcmp (v := (lg_cmp p0 6)) hx hb dX12_in_3 rfl ?_
  refine k_if_lt_f (tgt := 18) hx hb dX12_in_4 k0 (by decide) ?_
  refine lv_lload_n hx hb dX12_in_7 rfl (lv_at hl 0 rfl) ?_
  refine lv_iload_n hx hb dX12_in_8 rfl (lv_at hl 2 rfl) ?_
  refine lv_i2l (v := 40) hx hb dX12_in_9 (by decide +kernel) ?_
  refine k_lcmp (v := (lg_cmp p0 40)) hx hb dX12_in_10 rfl ?_
  refine k_if_gt_t (tgt := 18) hx hb dX12_in_11 k1 (by decide) ?_
  refine lv_iconst (v := 0) hx hb dX12_in_18 (by decide) ?_
  exact e_i (fun _ => 0) hx hb hr hlocks rfl rfl hP hD hS (Nat.le_of_ble_eq_true rfl) (Nat.le_of_ble_eq_true rfl) dX12_in_19
set_option maxHeartbeats 4000000 in
set_option maxRecDepth 100000 in
theorem c243_X12_stick (l : Launch) (hfl : l.stackTraces = false) (D : va_G) (cA : Nat → ClassId) (g : gv_T) (h0 h1 h2 h3 h4 h5 h6 h7 h8 h9 h10 h11 h12 h13 h14 h15 h16 h17 h18 : Nat) (p0 : Int32) (p1 : Int32) (p2 : Int32) (k0 : ¬ (lg_cmp p0.toInt64 1) < 0) (k1 : ¬ 0 < (lg_cmp p0.toInt64 900)) (k2 : ¬ (lg_cmp p1.toInt64 6) < 0) (k3 : 0 < (lg_cmp p1.toInt64 40)) : CT l yX12_stick cX12_stick 4 (some .int) (RM 1 0 0 23) D cA g [.ref h0, .int p0, .int p1, .int p2] [(h0, .inr (15, [.ref h1, .ref h2, .ref h3, .ref h4, .ref h5, .ref h6, .ref h7, .ref h8, .ref h9, .ref h10, .ref h11, .ref h12, .ref h13, .ref h14, .ref h15, .ref h16, .ref h17, .ref h18, .long 0, .int 0, .int 2, .int 0, .int 0, .int 0, .int 0, .int 0, .int 0]))] (fun q => some (.int 0)) (fun q => [(h0, .inr (15, [.ref h1, .ref h2, .ref h3, .ref h4, .ref h5, .ref h6, .ref h7, .ref h8, .ref h9, .ref h10, .ref h11, .ref h12, .ref h13, .ref h14, .ref h15, .ref h16, .ref h17, .ref h18, .long 0, .int 1, .int 2, .int 0, .int 0, .int 0, .int 0, .int 0, .int 0]))]) := by
  refine CT.of (by decide +kernel) (Nat.le_of_ble_eq_true rfl) ?_
  intro p e s m args below meth c A ls hx hb hr hml hown hG hlocks hnm hA hS hP hK hD hGV hl
  have hown : s.vm.findClass RX12 = some m.cls := hown
  have hl : lv_has ls 4 [(0, .ref h0), (1, .int p0), (2, .int p1), (3, .int p2)] := hl
  have hSF : CF p m c cX12_stick 4 s args RX12 := ⟨hx, hb, hml, hown, hG⟩
  refine lv_iload_n hx hb dX12_stick_0 rfl (lv_at hl 1 rfl) ?_
  refine lv_i2l (v := p0.toInt64) hx hb dX12_stick_1 rfl ?_
  refine lv_iconst (v := 1) hx hb dX12_stick_2 (by decide) ?_
  refine lv_sipush (v := 900) hx hb dX12_stick_3 (by decide) ?_
  refine ct_S (wr := [(h0, .inr (15, [.ref h1, .ref h2, .ref h3, .ref h4, .ref h5, .ref h6, .ref h7, .ref h8, .ref h9, .ref h10, .ref h11, .ref h12, .ref h13, .ref h14, .ref h15, .ref h16, .ref h17, .ref h18, .long 0, .int 0, .int 2, .int 0, .int 0, .int 0, .int 0, .int 0, .int 0]))]) hSF hl.1 hP hD hS hA hK hGV (c235_X12_in l hfl D cA g (p0.toInt64) k0 k1) goS_X12_285 pd_X12_in.2 ⟨(Nat.le_of_ble_eq_true rfl), (Nat.le_of_ble_eq_true rfl)⟩ ⟨(Nat.le_of_ble_eq_true rfl), (Nat.le_of_ble_eq_true rfl)⟩ dX12_stick_6 rfl (Nat.le_of_ble_eq_true rfl) [] [0] rfl (by decide) rfl (by decide) (by decide) (fun q => [(h0, .inr (15, [.ref h1, .ref h2, .ref h3, .ref h4, .ref h5, .ref h6, .ref h7, .ref h8, .ref h9, .ref h10, .ref h11, .ref h12, .ref h13, .ref h14, .ref h15, .ref h16, .ref h17, .ref h18, .long 0, .int 0, .int 2, .int 0, .int 0, .int 0, .int 0, .int 0, .int 0]))]) (fun _ => rfl) (fun q1 H locs hP hD hS => ?_)
  refine W.eq (g2 := F0 m 9 ls [.int 1]) rfl ?_
  refine k_if_eq_f (tgt := 34) hx hb dX12_stick_9 (by decide) (by decide) ?_
  refine lv_iload_n hx hb dX12_stick_12 rfl (lv_at hl 2 rfl) ?_
  refine lv_i2l (v := p1.toInt64) hx hb dX12_stick_13 rfl ?_
  refine lv_bipush (v := 6) hx hb dX12_stick_14 (by decide) ?_
  refine lv_bipush (v := 40) hx hb dX12_stick_16 (by decide) ?_
  refine ct_S (wr := [(h0, .inr (15, [.ref h1, .ref h2, .ref h3, .ref h4, .ref h5, .ref h6, .ref h7, .ref h8, .ref h9, .ref h10, .ref h11, .ref h12, .ref h13, .ref h14, .ref h15, .ref h16, .ref h17, .ref h18, .long 0, .int 0, .int 2, .int 0, .int 0, .int 0, .int 0, .int 0, .int 0]))]) hSF hl.1 hP hD hS hA hK hGV (c242_X12_in l hfl D cA g (p1.toInt64) k2 k3) goS_X12_285 pd_X12_in.2 ⟨(Nat.le_of_ble_eq_true rfl), (Nat.le_of_ble_eq_true rfl)⟩ ⟨(Nat.le_of_ble_eq_true rfl), (Nat.le_of_ble_eq_true rfl)⟩ dX12_stick_18 rfl (Nat.le_of_ble_eq_true rfl) [] [0] rfl (by decide) rfl (by decide) (by decide) (fun q => [(h0, .inr (15, [.ref h1, .ref h2, .ref h3, .ref h4, .ref h5, .ref h6, .ref h7, .ref h8, .ref h9, .ref h10, .ref h11, .ref h12, .ref h13, .ref h14, .ref h15, .ref h16, .ref h17, .ref h18, .long 0, .int 0, .int 2, .int 0, .int 0, .int 0, .int 0, .int 0, .int 0]))]) (fun _ => rfl) (fun q2 H locs hP hD hS => ?_)
  refine W.eq (g2 := F0 m 21 ls [.int 0]) rfl ?_
  refine k_if_eq_t (tgt := 34) hx hb dX12_stick_21 (by decide) (by decide) ?_
  refine lv_aload_n hx hb dX12_stick_34 rfl (lv_at hl 0 rfl) ?_
  refine lv_iconst (v := 1) hx hb dX12_stick_35 (by decide) ?_
  refine ct_V (wr := []) hSF hl.1 hP hD hS hA hK hGV (c15_X12_fails l hfl D cA g h0 h1 h2 h3 h4 h5 h6 h7 h8 h9 h10 h11 h12 h13 h14 h15 h16 h17 h18) goV_X12_289 pd_X12_fails ⟨(Nat.le_of_ble_eq_true rfl), (Nat.le_of_ble_eq_true rfl)⟩ ⟨(Nat.le_of_ble_eq_true rfl), (Nat.le_of_ble_eq_true rfl)⟩ (va_recv hK hP (ci := 15) (q0 := 0) rfl rfl) dX12_stick_36 rfl (Nat.le_of_ble_eq_true rfl) [0] [] rfl (by decide) rfl (by decide) (by decide) (fun q => [(h0, .inr (15, [.ref h1, .ref h2, .ref h3, .ref h4, .ref h5, .ref h6, .ref h7, .ref h8, .ref h9, .ref h10, .ref h11, .ref h12, .ref h13, .ref h14, .ref h15, .ref h16, .ref h17, .ref h18, .long 0, .int 1, .int 2, .int 0, .int 0, .int 0, .int 0, .int 0, .int 0]))]) (fun _ => rfl) (fun q3 H locs hP hD hS => ?_)
  refine W.eq (g2 := F0 m 39 ls [.int 0]) rfl ?_
  exact e_i (fun _ => 0) hx hb hr hlocks rfl rfl hP hD hS (Nat.le_of_ble_eq_true rfl) (Nat.le_of_ble_eq_true rfl) dX12_stick_39
set_option maxHeartbeats 4000000 in
set_option maxRecDepth 100000 in
theorem c244_X6_isWithin (l : Launch) (hfl : l.stackTraces = false) (D : va_G) (cA : Nat → ClassId) (g : gv_T) (p0 : Int32) (k0 : ¬ p0 < 6) (k1 : ¬ 40 < p0) : CT l yX6_isWithin cX6_isWithin 3 (some .boolean) (RM 0 0 0 0) D cA g [.int p0, .int 6, .int 40] [] (fun q => some (.int 1)) (fun q => []) := by
  refine CT.of (by decide +kernel) (Nat.le_of_ble_eq_true rfl) ?_
  intro p e s m args below meth c A ls hx hb hr hml hown hG hlocks hnm hA hS hP hK hD hGV hl
  have hown : s.vm.findClass RX6 = some m.cls := hown
  have hl : lv_has ls 3 [(0, .int p0), (1, .int 6), (2, .int 40)] := hl
  have hSF : CF p m c cX6_isWithin 3 s args RX6 := ⟨hx, hb, hml, hown, hG⟩
  refine lv_iload_n hx hb dX6_isWithin_0 rfl (lv_at hl 0 rfl) ?_
  refine lv_iload_n hx hb dX6_isWithin_1 rfl (lv_at hl 1 rfl) ?_
  refine k_icmp_lt_f (tgt := 14) hx hb dX6_isWithin_2 k0 (by decide) ?_
  refine lv_iload_n hx hb dX6_isWithin_5 rfl (lv_at hl 0 rfl) ?_
  refine lv_iload_n hx hb dX6_isWithin_6 rfl (lv_at hl 2 rfl) ?_
  refine k_icmp_gt_f (tgt := 14) hx hb dX6_isWithin_7 k1 (by decide) ?_
  refine lv_iconst (v := 1) hx hb dX6_isWithin_10 (by decide) ?_
  refine lv_goto (tgt := 15) hx hb dX6_isWithin_11 (by decide) ?_
  exact e_i (fun _ => 0) hx hb hr hlocks rfl rfl hP hD hS (Nat.le_of_ble_eq_true rfl) (Nat.le_of_ble_eq_true rfl) dX6_isWithin_15
set_option maxHeartbeats 4000000 in
set_option maxRecDepth 100000 in
theorem c245_X6_isWithin (l : Launch) (hfl : l.stackTraces = false) (D : va_G) (cA : Nat → ClassId) (g : gv_T) (p0 : Int32) (k0 : p0 < 0) : CT l yX6_isWithin cX6_isWithin 3 (some .boolean) (RM 0 0 0 0) D cA g [.int p0, .int 0, .int 3] [] (fun q => some (.int 0)) (fun q => []) := by
  refine CT.of (by decide +kernel) (Nat.le_of_ble_eq_true rfl) ?_
  intro p e s m args below meth c A ls hx hb hr hml hown hG hlocks hnm hA hS hP hK hD hGV hl
  have hown : s.vm.findClass RX6 = some m.cls := hown
  have hl : lv_has ls 3 [(0, .int p0), (1, .int 0), (2, .int 3)] := hl
  have hSF : CF p m c cX6_isWithin 3 s args RX6 := ⟨hx, hb, hml, hown, hG⟩
  refine lv_iload_n hx hb dX6_isWithin_0 rfl (lv_at hl 0 rfl) ?_
  refine lv_iload_n hx hb dX6_isWithin_1 rfl (lv_at hl 1 rfl) ?_
  refine k_icmp_lt_t (tgt := 14) hx hb dX6_isWithin_2 k0 (by decide) ?_
  refine lv_iconst (v := 0) hx hb dX6_isWithin_14 (by decide) ?_
  exact e_i (fun _ => 0) hx hb hr hlocks rfl rfl hP hD hS (Nat.le_of_ble_eq_true rfl) (Nat.le_of_ble_eq_true rfl) dX6_isWithin_15
set_option maxHeartbeats 4000000 in
set_option maxRecDepth 100000 in
theorem c246_X6_isSection (l : Launch) (hfl : l.stackTraces = false) (D : va_G) (cA : Nat → ClassId) (g : gv_T) (p0 : Int32) (p1 : Int32) (k0 : ¬ p0 < 6) (k1 : ¬ 40 < p0) (k2 : p1 < 0) : CT l yX6_isSection cX6_isSection 2 (some .boolean) (RM 1 0 0 22) D cA g [.int p0, .int p1] [] (fun q => some (.int 0)) (fun q => []) := by
  refine CT.of (by decide +kernel) (Nat.le_of_ble_eq_true rfl) ?_
  intro p e s m args below meth c A ls hx hb hr hml hown hG hlocks hnm hA hS hP hK hD hGV hl
  have hown : s.vm.findClass RX6 = some m.cls := hown
  have hl : lv_has ls 2 [(0, .int p0), (1, .int p1)] := hl
  have hSF : CF p m c cX6_isSection 2 s args RX6 := ⟨hx, hb, hml, hown, hG⟩
  refine lv_iload_n hx hb dX6_isSection_0 rfl (lv_at hl 0 rfl) ?_
  refine lv_bipush (v := 6) hx hb dX6_isSection_1 (by decide) ?_
  refine lv_bipush (v := 40) hx hb dX6_isSection_3 (by decide) ?_
  refine ct_S (wr := []) hSF hl.1 hP hD hS hA hK hGV (c244_X6_isWithin l hfl D cA g (p0) k0 k1) goS_X6_44 pd_X6_isWithin.2 ⟨(Nat.le_of_ble_eq_true rfl), (Nat.le_of_ble_eq_true rfl)⟩ ⟨(Nat.le_of_ble_eq_true rfl), (Nat.le_of_ble_eq_true rfl)⟩ dX6_isSection_5 rfl (Nat.le_of_ble_eq_true rfl) [] [] rfl (by decide) rfl (by decide) (by decide) (fun q => []) (fun _ => rfl) (fun q1 H locs hP hD hS => ?_)
  refine W.eq (g2 := F0 m 8 ls [.int 1]) rfl ?_
  refine k_if_eq_f (tgt := 24) hx hb dX6_isSection_8 (by decide) (by decide) ?_
  refine lv_iload_n hx hb dX6_isSection_11 rfl (lv_at hl 1 rfl) ?_
  refine lv_iconst (v := 0) hx hb dX6_isSection_12 (by decide) ?_
  refine lv_iconst (v := 3) hx hb dX6_isSection_13 (by decide) ?_
  refine ct_S (wr := []) hSF hl.1 hP hD hS hA hK hGV (c245_X6_isWithin l hfl D cA g (p1) k2) goS_X6_44 pd_X6_isWithin.2 ⟨(Nat.le_of_ble_eq_true rfl), (Nat.le_of_ble_eq_true rfl)⟩ ⟨(Nat.le_of_ble_eq_true rfl), (Nat.le_of_ble_eq_true rfl)⟩ dX6_isSection_14 rfl (Nat.le_of_ble_eq_true rfl) [] [] rfl (by decide) rfl (by decide) (by decide) (fun q => []) (fun _ => rfl) (fun q2 H locs hP hD hS => ?_)
  refine W.eq (g2 := F0 m 17 ls [.int 0]) rfl ?_
  refine k_if_eq_t (tgt := 24) hx hb dX6_isSection_17 (by decide) (by decide) ?_
  refine lv_iconst (v := 0) hx hb dX6_isSection_24 (by decide) ?_
  exact e_i (fun _ => 0) hx hb hr hlocks rfl rfl hP hD hS (Nat.le_of_ble_eq_true rfl) (Nat.le_of_ble_eq_true rfl) dX6_isSection_25
set_option maxHeartbeats 4000000 in
set_option maxRecDepth 100000 in
theorem c247_X6_stick (l : Launch) (hfl : l.stackTraces = false) (D : va_G) (cA : Nat → ClassId) (g : gv_T) (h0 : Nat) (p0 : Int32) (p1 : Int32) (p2 : Int32) (k0 : ¬ p0 < 1) (k1 : ¬ 900 < p0) (k2 : ¬ p1 < 6) (k3 : ¬ 40 < p1) (k4 : p2 < 0) : CX l yX6_stick cX6_stick 4 (some .int) (RM 6 1 6 95) D cA g [.ref h0, .int p0, .int p1, .int p2] [] "java/lang/IllegalArgumentException" (fun q => []) := by
  refine CX.of (by decide +kernel) (Nat.le_of_ble_eq_true rfl) ?_
  intro p e s m args below meth c A ls hx hb hr hml hown hG hlocks htab hA hS hP hK hD hGV hl
  have hown : s.vm.findClass RX6 = some m.cls := hown
  have hl : lv_has ls 4 [(0, .ref h0), (1, .int p0), (2, .int p1), (3, .int p2)] := hl
  have hSF : CF p m c cX6_stick 4 s args RX6 := ⟨hx, hb, hml, hown, hG⟩
  refine lv_iload_n hx hb dX6_stick_0 rfl (lv_at hl 1 rfl) ?_
  refine lv_iconst (v := 1) hx hb dX6_stick_1 (by decide) ?_
  refine lv_sipush (v := 900) hx hb dX6_stick_2 (by decide) ?_
  refine ct_S (wr := []) hSF hl.1 hP hD hS hA hK hGV (c230_X6_isWithin l hfl D cA g (p0) k0 k1) goS_X6_44 pd_X6_isWithin.2 ⟨(Nat.le_of_ble_eq_true rfl), (Nat.le_of_ble_eq_true rfl)⟩ ⟨(Nat.le_of_ble_eq_true rfl), (Nat.le_of_ble_eq_true rfl)⟩ dX6_stick_5 rfl (Nat.le_of_ble_eq_true rfl) [] [] rfl (by decide) rfl (by decide) (by decide) (fun q => []) (fun _ => rfl) (fun q1 H locs hP hD hS => ?_)
  refine W.eq (g2 := F0 m 8 ls [.int 1]) rfl ?_
  refine k_if_eq_f (tgt := 19) hx hb dX6_stick_8 (by decide) (by decide) ?_
  refine lv_iload_n hx hb dX6_stick_11 rfl (lv_at hl 2 rfl) ?_
  refine lv_iload_n hx hb dX6_stick_12 rfl (lv_at hl 3 rfl) ?_
  refine ct_S (wr := []) hSF hl.1 hP hD hS hA hK hGV (c246_X6_isSection l hfl D cA g (p1) (p2) k2 k3 k4) goS_X6_88 pd_X6_isSection.2 ⟨(Nat.le_of_ble_eq_true rfl), (Nat.le_of_ble_eq_true rfl)⟩ ⟨(Nat.le_of_ble_eq_true rfl), (Nat.le_of_ble_eq_true rfl)⟩ dX6_stick_13 rfl (Nat.le_of_ble_eq_true rfl) [] [] rfl (by decide) rfl (by decide) (by decide) (fun q => []) (fun _ => rfl) (fun q2 H locs hP hD hS => ?_)
  refine W.eq (g2 := F0 m 16 ls [.int 0]) rfl ?_
  refine k_if_ne_f (tgt := 29) hx hb dX6_stick_16 (by decide) (by decide) ?_
  exact e_throw (fun _ => 0) (names := ["java/lang/RuntimeException", "java/lang/Exception"]) 18 hx hb hfl hown hG hGV htab hlocks (hl.1.trans hml.symm) (by decide +kernel) (by decide +kernel) gw668 gw95 rfl xat_X6_60 hP hD hS dX6_stick_19 dX6_stick_22 dX6_stick_23 dX6_stick_25 dX6_stick_28 (Nat.le_of_ble_eq_true rfl) (Nat.le_of_ble_eq_true rfl) (Nat.le_of_ble_eq_true rfl) (Nat.le_of_ble_eq_true rfl) (Nat.le_of_ble_eq_true rfl) (Nat.le_of_ble_eq_true rfl)
set_option maxHeartbeats 4000000 in
set_option maxRecDepth 100000 in
theorem c248_L_stick (l : Launch) (hfl : l.stackTraces = false) (D : va_G) (cA : Nat → ClassId) (g : gv_T) (h0 h1 h2 h3 h4 h5 h6 : Nat) (p0 : Int32) (p1 : Int32) (p2 : Int32) (k0 : ¬ p0 < 1) (k1 : ¬ 900 < p0) (k2 : ¬ p1 < 6) (k3 : ¬ 40 < p1) (k4 : p2 < 0) : CW l yL_stick cL_stick 6 (some .int) [(0, 12, 15, 13), (0, 12, 19, 15)] (RM 7 1 6 118) D cA g [.ref h0, .int p0, .int p1, .int p2, .ref h1] [(h0, .inr (9, [.ref h2, .ref h3, .ref h4, .ref h5, .ref h6]))] (fun q => some (.int 1)) (fun q => [(h0, .inr (9, [.ref h2, .ref h3, .ref h4, .ref h5, .ref h6]))]) := by
  refine CW.of (by decide +kernel) (Nat.le_of_ble_eq_true rfl) ?_
  intro p e s m args below meth c A ls hx hb hr hml hown hG hlocks htab hA hS hP hK hD hGV hl
  have hown : s.vm.findClass RL = some m.cls := hown
  have hl : lv_has ls 6 [(0, .ref h0), (1, .int p0), (2, .int p1), (3, .int p2), (4, .ref h1)] := hl
  have hSF : CF p m c cL_stick 6 s args RL := ⟨hx, hb, hml, hown, hG⟩
  refine lv_aload hx hb dL_stick_0 (lv_at hl 4 rfl) ?_
  refine lv_iconst (v := 0) hx hb dL_stick_2 (by decide) ?_
  refine lv_aload_n hx hb dL_stick_3 rfl (lv_at hl 0 rfl) ?_
  refine lv_iload_n hx hb dL_stick_4 rfl (lv_at hl 1 rfl) ?_
  refine lv_iload_n hx hb dL_stick_5 rfl (lv_at hl 2 rfl) ?_
  refine lv_iload_n hx hb dL_stick_6 rfl (lv_at hl 3 rfl) ?_
  refine cx_V (wr := [(h0, .inr (9, [.ref h2, .ref h3, .ref h4, .ref h5, .ref h6]))]) hSF hl.1 hP hD hS hA hK hGV (c247_X6_stick l hfl D cA g h0 (p0) (p1) (p2) k0 k1 k2 k3 k4) goV_L_74 pd_X6_stick ⟨(Nat.le_of_ble_eq_true rfl), (Nat.le_of_ble_eq_true rfl)⟩ ⟨(Nat.le_of_ble_eq_true rfl), (Nat.le_of_ble_eq_true rfl)⟩ (va_recv hK hP (ci := 9) (q0 := 0) rfl rfl) dL_stick_7 rfl (Nat.le_of_ble_eq_true rfl) [] [0] rfl (by decide) rfl (by decide) (by decide) (fun q => [(h0, .inr (9, [.ref h2, .ref h3, .ref h4, .ref h5, .ref h6]))]) (fun _ => rfl) (fun q1 H locs x9 ce9 hP hD hS h9 hv9 hcl9 => ?_)
  refine vx_catch (own := RL) (name := "java/lang/IllegalArgumentException") hown [] { startPc := 0, endPc := 12, handlerPc := 15, catchType := 13 } [{ startPc := 0, endPc := 12, handlerPc := 19, catchType := 15 }] (htab.trans rfl) (fun z hz => nomatch hz) rfl (by decide) (hG _ gw572) (va_Nw.use rfl (hGV.2.2.2.2.1 _ gw670)) h9 hv9 hcl9 ?_
  refine W.eq (g2 := F0 m 15 ls [.ref x9]) rfl ?_
  refine lv_astore (lv' := [(5, .ref x9), (0, .ref h0), (1, .int p0), (2, .int p1), (3, .int p2), (4, .ref h1)]) hx hb dL_stick_15 hl (by decide) rfl (fun ls hl => ?_)
  refine lv_iconst (v := 1) hx hb dL_stick_17 (by decide) ?_
  exact e_i (fun _ => 0) hx hb hr hlocks rfl rfl hP hD hS (Nat.le_of_ble_eq_true rfl) (Nat.le_of_ble_eq_true rfl) dL_stick_18
set_option maxHeartbeats 4000000 in
set_option maxRecDepth 100000 in
theorem c249_X12_in (l : Launch) (hfl : l.stackTraces = false) (D : va_G) (cA : Nat → ClassId) (g : gv_T) (p0 : Int64) (k0 : ¬ (lg_cmp p0 6) < 0) (k1 : ¬ 0 < (lg_cmp p0 40)) : CT l yX12_in cX12_in 4 (some .boolean) (RM 0 0 0 0) D cA g [.long p0, .int 6, .int 40] [] (fun q => some (.int 1)) (fun q => []) := by
  refine CT.of (by decide +kernel) (Nat.le_of_ble_eq_true rfl) ?_
  intro p e s m args below meth c A ls hx hb hr hml hown hG hlocks hnm hA hS hP hK hD hGV hl
  have hown : s.vm.findClass RX12 = some m.cls := hown
  have hl : lv_has ls 4 [(0, .long p0), (2, .int 6), (3, .int 40)] := hl
  have hSF : CF p m c cX12_in 4 s args RX12 := ⟨hx, hb, hml, hown, hG⟩
  refine lv_lload_n hx hb dX12_in_0 rfl (lv_at hl 0 rfl) ?_
  refine lv_iload_n hx hb dX12_in_1 rfl (lv_at hl 1 rfl) ?_
  refine lv_i2l (v := 6) hx hb dX12_in_2 (by decide +kernel) ?_
  refine k_lcmp (v := (lg_cmp p0 6)) hx hb dX12_in_3 rfl ?_
  refine k_if_lt_f (tgt := 18) hx hb dX12_in_4 k0 (by decide) ?_
  refine lv_lload_n hx hb dX12_in_7 rfl (lv_at hl 0 rfl) ?_
  refine lv_iload_n hx hb dX12_in_8 rfl (lv_at hl 2 rfl) ?_
  refine lv_i2l (v := 40) hx hb dX12_in_9 (by decide +kernel) ?_
  refine k_lcmp (v := (lg_cmp p0 40)) hx hb dX12_in_10 rfl ?_
  refine k_if_gt_f (tgt := 18) hx hb dX12_in_11 k1 (by decide) ?_
  refine lv_iconst (v := 1) hx hb dX12_in_14 (by decide) ?_
  refine lv_goto (tgt := 19) hx hb dX12_in_15 (by decide) ?_
  exact e_i (fun _ => 0) hx hb hr hlocks rfl rfl hP hD hS (Nat.le_of_ble_eq_true rfl) (Nat.le_of_ble_eq_true rfl) dX12_in_19
set_option maxHeartbeats 4000000 in
set_option maxRecDepth 100000 in
theorem c250_X12_in (l : Launch) (hfl : l.stackTraces = false) (D : va_G) (cA : Nat → ClassId) (g : gv_T) (p0 : Int64) (k0 : (lg_cmp p0 0) < 0) : CT l yX12_in cX12_in 4 (some .boolean) (RM 0 0 0 0) D cA g [.long p0, .int 0, .int 3] [] (fun q => some (.int 0)) (fun q => []) := by
  refine CT.of (by decide +kernel) (Nat.le_of_ble_eq_true rfl) ?_
  intro p e s m args below meth c A ls hx hb hr hml hown hG hlocks hnm hA hS hP hK hD hGV hl
  have hown : s.vm.findClass RX12 = some m.cls := hown
  have hl : lv_has ls 4 [(0, .long p0), (2, .int 0), (3, .int 3)] := hl
  have hSF : CF p m c cX12_in 4 s args RX12 := ⟨hx, hb, hml, hown, hG⟩
  refine lv_lload_n hx hb dX12_in_0 rfl (lv_at hl 0 rfl) ?_
  refine lv_iload_n hx hb dX12_in_1 rfl (lv_at hl 1 rfl) ?_
  refine lv_i2l (v := 0) hx hb dX12_in_2 (by decide +kernel) ?_
  refine k_lcmp (v := (lg_cmp p0 0)) hx hb dX12_in_3 rfl ?_
  refine k_if_lt_t (tgt := 18) hx hb dX12_in_4 k0 (by decide) ?_
  refine lv_iconst (v := 0) hx hb dX12_in_18 (by decide) ?_
  exact e_i (fun _ => 0) hx hb hr hlocks rfl rfl hP hD hS (Nat.le_of_ble_eq_true rfl) (Nat.le_of_ble_eq_true rfl) dX12_in_19
set_option maxHeartbeats 4000000 in
set_option maxRecDepth 100000 in
theorem c251_X12_stick (l : Launch) (hfl : l.stackTraces = false) (D : va_G) (cA : Nat → ClassId) (g : gv_T) (h0 h1 h2 h3 h4 h5 h6 h7 h8 h9 h10 h11 h12 h13 h14 h15 h16 h17 h18 : Nat) (p0 : Int32) (p1 : Int32) (p2 : Int32) (k0 : ¬ (lg_cmp p0.toInt64 1) < 0) (k1 : ¬ 0 < (lg_cmp p0.toInt64 900)) (k2 : ¬ (lg_cmp p1.toInt64 6) < 0) (k3 : ¬ 0 < (lg_cmp p1.toInt64 40)) (k4 : (lg_cmp p2.toInt64 0) < 0) : CT l yX12_stick cX12_stick 4 (some .int) (RM 1 0 0 23) D cA g [.ref h0, .int p0, .int p1, .int p2] [(h0, .inr (15, [.ref h1, .ref h2, .ref h3, .ref h4, .ref h5, .ref h6, .ref h7, .ref h8, .ref h9, .ref h10, .ref h11, .ref h12, .ref h13, .ref h14, .ref h15, .ref h16, .ref h17, .ref h18, .long 0, .int 0, .int 2, .int 0, .int 0, .int 0, .int 0, .int 0, .int 0]))] (fun q => some (.int 0)) (fun q => [(h0, .inr (15, [.ref h1, .ref h2, .ref h3, .ref h4, .ref h5, .ref h6, .ref h7, .ref h8, .ref h9, .ref h10, .ref h11, .ref h12, .ref h13, .ref h14, .ref h15, .ref h16, .ref h17, .ref h18, .long 0, .int 1, .int 2, .int 0, .int 0, .int 0, .int 0, .int 0, .int 0]))]) := by
  refine CT.of (by decide +kernel) (Nat.le_of_ble_eq_true rfl) ?_
  intro p e s m args below meth c A ls hx hb hr hml hown hG hlocks hnm hA hS hP hK hD hGV hl
  have hown : s.vm.findClass RX12 = some m.cls := hown
  have hl : lv_has ls 4 [(0, .ref h0), (1, .int p0), (2, .int p1), (3, .int p2)] := hl
  have hSF : CF p m c cX12_stick 4 s args RX12 := ⟨hx, hb, hml, hown, hG⟩
  refine lv_iload_n hx hb dX12_stick_0 rfl (lv_at hl 1 rfl) ?_
  refine lv_i2l (v := p0.toInt64) hx hb dX12_stick_1 rfl ?_
  refine lv_iconst (v := 1) hx hb dX12_stick_2 (by decide) ?_
  refine lv_sipush (v := 900) hx hb dX12_stick_3 (by decide) ?_
  refine ct_S (wr := [(h0, .inr (15, [.ref h1, .ref h2, .ref h3, .ref h4, .ref h5, .ref h6, .ref h7, .ref h8, .ref h9, .ref h10, .ref h11, .ref h12, .ref h13, .ref h14, .ref h15, .ref h16, .ref h17, .ref h18, .long 0, .int 0, .int 2, .int 0, .int 0, .int 0, .int 0, .int 0, .int 0]))]) hSF hl.1 hP hD hS hA hK hGV (c235_X12_in l hfl D cA g (p0.toInt64) k0 k1) goS_X12_285 pd_X12_in.2 ⟨(Nat.le_of_ble_eq_true rfl), (Nat.le_of_ble_eq_true rfl)⟩ ⟨(Nat.le_of_ble_eq_true rfl), (Nat.le_of_ble_eq_true rfl)⟩ dX12_stick_6 rfl (Nat.le_of_ble_eq_true rfl) [] [0] rfl (by decide) rfl (by decide) (by decide) (fun q => [(h0, .inr (15, [.ref h1, .ref h2, .ref h3, .ref h4, .ref h5, .ref h6, .ref h7, .ref h8, .ref h9, .ref h10, .ref h11, .ref h12, .ref h13, .ref h14, .ref h15, .ref h16, .ref h17, .ref h18, .long 0, .int 0, .int 2, .int 0, .int 0, .int 0, .int 0, .int 0, .int 0]))]) (fun _ => rfl) (fun q1 H locs hP hD hS => ?_)
  refine W.eq (g2 := F0 m 9 ls [.int 1]) rfl ?_
  refine k_if_eq_f (tgt := 34) hx hb dX12_stick_9 (by decide) (by decide) ?_
  refine lv_iload_n hx hb dX12_stick_12 rfl (lv_at hl 2 rfl) ?_
  refine lv_i2l (v := p1.toInt64) hx hb dX12_stick_13 rfl ?_
  refine lv_bipush (v := 6) hx hb dX12_stick_14 (by decide) ?_
  refine lv_bipush (v := 40) hx hb dX12_stick_16 (by decide) ?_
  refine ct_S (wr := [(h0, .inr (15, [.ref h1, .ref h2, .ref h3, .ref h4, .ref h5, .ref h6, .ref h7, .ref h8, .ref h9, .ref h10, .ref h11, .ref h12, .ref h13, .ref h14, .ref h15, .ref h16, .ref h17, .ref h18, .long 0, .int 0, .int 2, .int 0, .int 0, .int 0, .int 0, .int 0, .int 0]))]) hSF hl.1 hP hD hS hA hK hGV (c249_X12_in l hfl D cA g (p1.toInt64) k2 k3) goS_X12_285 pd_X12_in.2 ⟨(Nat.le_of_ble_eq_true rfl), (Nat.le_of_ble_eq_true rfl)⟩ ⟨(Nat.le_of_ble_eq_true rfl), (Nat.le_of_ble_eq_true rfl)⟩ dX12_stick_18 rfl (Nat.le_of_ble_eq_true rfl) [] [0] rfl (by decide) rfl (by decide) (by decide) (fun q => [(h0, .inr (15, [.ref h1, .ref h2, .ref h3, .ref h4, .ref h5, .ref h6, .ref h7, .ref h8, .ref h9, .ref h10, .ref h11, .ref h12, .ref h13, .ref h14, .ref h15, .ref h16, .ref h17, .ref h18, .long 0, .int 0, .int 2, .int 0, .int 0, .int 0, .int 0, .int 0, .int 0]))]) (fun _ => rfl) (fun q2 H locs hP hD hS => ?_)
  refine W.eq (g2 := F0 m 21 ls [.int 1]) rfl ?_
  refine k_if_eq_f (tgt := 34) hx hb dX12_stick_21 (by decide) (by decide) ?_
  refine lv_iload_n hx hb dX12_stick_24 rfl (lv_at hl 3 rfl) ?_
  refine lv_i2l (v := p2.toInt64) hx hb dX12_stick_25 rfl ?_
  refine lv_iconst (v := 0) hx hb dX12_stick_26 (by decide) ?_
  refine lv_iconst (v := 3) hx hb dX12_stick_27 (by decide) ?_
  refine ct_S (wr := [(h0, .inr (15, [.ref h1, .ref h2, .ref h3, .ref h4, .ref h5, .ref h6, .ref h7, .ref h8, .ref h9, .ref h10, .ref h11, .ref h12, .ref h13, .ref h14, .ref h15, .ref h16, .ref h17, .ref h18, .long 0, .int 0, .int 2, .int 0, .int 0, .int 0, .int 0, .int 0, .int 0]))]) hSF hl.1 hP hD hS hA hK hGV (c250_X12_in l hfl D cA g (p2.toInt64) k4) goS_X12_285 pd_X12_in.2 ⟨(Nat.le_of_ble_eq_true rfl), (Nat.le_of_ble_eq_true rfl)⟩ ⟨(Nat.le_of_ble_eq_true rfl), (Nat.le_of_ble_eq_true rfl)⟩ dX12_stick_28 rfl (Nat.le_of_ble_eq_true rfl) [] [0] rfl (by decide) rfl (by decide) (by decide) (fun q => [(h0, .inr (15, [.ref h1, .ref h2, .ref h3, .ref h4, .ref h5, .ref h6, .ref h7, .ref h8, .ref h9, .ref h10, .ref h11, .ref h12, .ref h13, .ref h14, .ref h15, .ref h16, .ref h17, .ref h18, .long 0, .int 0, .int 2, .int 0, .int 0, .int 0, .int 0, .int 0, .int 0]))]) (fun _ => rfl) (fun q3 H locs hP hD hS => ?_)
  refine W.eq (g2 := F0 m 31 ls [.int 0]) rfl ?_
  refine k_if_ne_f (tgt := 40) hx hb dX12_stick_31 (by decide) (by decide) ?_
  refine lv_aload_n hx hb dX12_stick_34 rfl (lv_at hl 0 rfl) ?_
  refine lv_iconst (v := 1) hx hb dX12_stick_35 (by decide) ?_
  refine ct_V (wr := []) hSF hl.1 hP hD hS hA hK hGV (c15_X12_fails l hfl D cA g h0 h1 h2 h3 h4 h5 h6 h7 h8 h9 h10 h11 h12 h13 h14 h15 h16 h17 h18) goV_X12_289 pd_X12_fails ⟨(Nat.le_of_ble_eq_true rfl), (Nat.le_of_ble_eq_true rfl)⟩ ⟨(Nat.le_of_ble_eq_true rfl), (Nat.le_of_ble_eq_true rfl)⟩ (va_recv hK hP (ci := 15) (q0 := 0) rfl rfl) dX12_stick_36 rfl (Nat.le_of_ble_eq_true rfl) [0] [] rfl (by decide) rfl (by decide) (by decide) (fun q => [(h0, .inr (15, [.ref h1, .ref h2, .ref h3, .ref h4, .ref h5, .ref h6, .ref h7, .ref h8, .ref h9, .ref h10, .ref h11, .ref h12, .ref h13, .ref h14, .ref h15, .ref h16, .ref h17, .ref h18, .long 0, .int 1, .int 2, .int 0, .int 0, .int 0, .int 0, .int 0, .int 0]))]) (fun _ => rfl) (fun q4 H locs hP hD hS => ?_)
  refine W.eq (g2 := F0 m 39 ls [.int 0]) rfl ?_
  exact e_i (fun _ => 0) hx hb hr hlocks rfl rfl hP hD hS (Nat.le_of_ble_eq_true rfl) (Nat.le_of_ble_eq_true rfl) dX12_stick_39
set_option maxHeartbeats 4000000 in
set_option maxRecDepth 100000 in
theorem c252_X6_isWithin (l : Launch) (hfl : l.stackTraces = false) (D : va_G) (cA : Nat → ClassId) (g : gv_T) (p0 : Int32) (k0 : ¬ p0 < 0) (k1 : 3 < p0) : CT l yX6_isWithin cX6_isWithin 3 (some .boolean) (RM 0 0 0 0) D cA g [.int p0, .int 0, .int 3] [] (fun q => some (.int 0)) (fun q => []) := by
  refine CT.of (by decide +kernel) (Nat.le_of_ble_eq_true rfl) ?_
  intro p e s m args below meth c A ls hx hb hr hml hown hG hlocks hnm hA hS hP hK hD hGV hl
  have hown : s.vm.findClass RX6 = some m.cls := hown
  have hl : lv_has ls 3 [(0, .int p0), (1, .int 0), (2, .int 3)] := hl
  have hSF : CF p m c cX6_isWithin 3 s args RX6 := ⟨hx, hb, hml, hown, hG⟩
  refine lv_iload_n hx hb dX6_isWithin_0 rfl (lv_at hl 0 rfl) ?_
  refine lv_iload_n hx hb dX6_isWithin_1 rfl (lv_at hl 1 rfl) ?_
  refine k_icmp_lt_f (tgt := 14) hx hb dX6_isWithin_2 k0 (by decide) ?_
  refine lv_iload_n hx hb dX6_isWithin_5 rfl (lv_at hl 0 rfl) ?_
  refine lv_iload_n hx hb dX6_isWithin_6 rfl (lv_at hl 2 rfl) ?_
  refine k_icmp_gt_t (tgt := 14) hx hb dX6_isWithin_7 k1 (by decide) ?_
  refine lv_iconst (v := 0) hx hb dX6_isWithin_14 (by decide) ?_
  exact e_i (fun _ => 0) hx hb hr hlocks rfl rfl hP hD hS (Nat.le_of_ble_eq_true rfl) (Nat.le_of_ble_eq_true rfl) dX6_isWithin_15
set_option maxHeartbeats 4000000 in
set_option maxRecDepth 100000 in
theorem c253_X6_isSection (l : Launch) (hfl : l.stackTraces = false) (D : va_G) (cA : Nat → ClassId) (g : gv_T) (p0 : Int32) (p1 : Int32) (k0 : ¬ p0 < 6) (k1 : ¬ 40 < p0) (k2 : ¬ p1 < 0) (k3 : 3 < p1) : CT l yX6_isSection cX6_isSection 2 (some .boolean) (RM 1 0 0 22) D cA g [.int p0, .int p1] [] (fun q => some (.int 0)) (fun q => []) := by
  refine CT.of (by decide +kernel) (Nat.le_of_ble_eq_true rfl) ?_
  intro p e s m args below meth c A ls hx hb hr hml hown hG hlocks hnm hA hS hP hK hD hGV hl
  have hown : s.vm.findClass RX6 = some m.cls := hown
  have hl : lv_has ls 2 [(0, .int p0), (1, .int p1)] := hl
  have hSF : CF p m c cX6_isSection 2 s args RX6 := ⟨hx, hb, hml, hown, hG⟩
  refine lv_iload_n hx hb dX6_isSection_0 rfl (lv_at hl 0 rfl) ?_
  refine lv_bipush (v := 6) hx hb dX6_isSection_1 (by decide) ?_
  refine lv_bipush (v := 40) hx hb dX6_isSection_3 (by decide) ?_
  refine ct_S (wr := []) hSF hl.1 hP hD hS hA hK hGV (c244_X6_isWithin l hfl D cA g (p0) k0 k1) goS_X6_44 pd_X6_isWithin.2 ⟨(Nat.le_of_ble_eq_true rfl), (Nat.le_of_ble_eq_true rfl)⟩ ⟨(Nat.le_of_ble_eq_true rfl), (Nat.le_of_ble_eq_true rfl)⟩ dX6_isSection_5 rfl (Nat.le_of_ble_eq_true rfl) [] [] rfl (by decide) rfl (by decide) (by decide) (fun q => []) (fun _ => rfl) (fun q1 H locs hP hD hS => ?_)
  refine W.eq (g2 := F0 m 8 ls [.int 1]) rfl ?_
  refine k_if_eq_f (tgt := 24) hx hb dX6_isSection_8 (by decide) (by decide) ?_
  refine lv_iload_n hx hb dX6_isSection_11 rfl (lv_at hl 1 rfl) ?_
  refine lv_iconst (v := 0) hx hb dX6_isSection_12 (by decide) ?_
  refine lv_iconst (v := 3) hx hb dX6_isSection_13 (by decide) ?_
  refine ct_S (wr := []) hSF hl.1 hP hD hS hA hK hGV (c252_X6_isWithin l hfl D cA g (p1) k2 k3) goS_X6_44 pd_X6_isWithin.2 ⟨(Nat.le_of_ble_eq_true rfl), (Nat.le_of_ble_eq_true rfl)⟩ ⟨(Nat.le_of_ble_eq_true rfl), (Nat.le_of_ble_eq_true rfl)⟩ dX6_isSection_14 rfl (Nat.le_of_ble_eq_true rfl) [] [] rfl (by decide) rfl (by decide) (by decide) (fun q => []) (fun _ => rfl) (fun q2 H locs hP hD hS => ?_)
  refine W.eq (g2 := F0 m 17 ls [.int 0]) rfl ?_
  refine k_if_eq_t (tgt := 24) hx hb dX6_isSection_17 (by decide) (by decide) ?_
  refine lv_iconst (v := 0) hx hb dX6_isSection_24 (by decide) ?_
  exact e_i (fun _ => 0) hx hb hr hlocks rfl rfl hP hD hS (Nat.le_of_ble_eq_true rfl) (Nat.le_of_ble_eq_true rfl) dX6_isSection_25
set_option maxHeartbeats 4000000 in
set_option maxRecDepth 100000 in
theorem c254_X6_stick (l : Launch) (hfl : l.stackTraces = false) (D : va_G) (cA : Nat → ClassId) (g : gv_T) (h0 : Nat) (p0 : Int32) (p1 : Int32) (p2 : Int32) (k0 : ¬ p0 < 1) (k1 : ¬ 900 < p0) (k2 : ¬ p1 < 6) (k3 : ¬ 40 < p1) (k4 : ¬ p2 < 0) (k5 : 3 < p2) : CX l yX6_stick cX6_stick 4 (some .int) (RM 6 1 6 95) D cA g [.ref h0, .int p0, .int p1, .int p2] [] "java/lang/IllegalArgumentException" (fun q => []) := by
  refine CX.of (by decide +kernel) (Nat.le_of_ble_eq_true rfl) ?_
  intro p e s m args below meth c A ls hx hb hr hml hown hG hlocks htab hA hS hP hK hD hGV hl
  have hown : s.vm.findClass RX6 = some m.cls := hown
  have hl : lv_has ls 4 [(0, .ref h0), (1, .int p0), (2, .int p1), (3, .int p2)] := hl
  have hSF : CF p m c cX6_stick 4 s args RX6 := ⟨hx, hb, hml, hown, hG⟩
  refine lv_iload_n hx hb dX6_stick_0 rfl (lv_at hl 1 rfl) ?_
  refine lv_iconst (v := 1) hx hb dX6_stick_1 (by decide) ?_
  refine lv_sipush (v := 900) hx hb dX6_stick_2 (by decide) ?_
  refine ct_S (wr := []) hSF hl.1 hP hD hS hA hK hGV (c230_X6_isWithin l hfl D cA g (p0) k0 k1) goS_X6_44 pd_X6_isWithin.2 ⟨(Nat.le_of_ble_eq_true rfl), (Nat.le_of_ble_eq_true rfl)⟩ ⟨(Nat.le_of_ble_eq_true rfl), (Nat.le_of_ble_eq_true rfl)⟩ dX6_stick_5 rfl (Nat.le_of_ble_eq_true rfl) [] [] rfl (by decide) rfl (by decide) (by decide) (fun q => []) (fun _ => rfl) (fun q1 H locs hP hD hS => ?_)
  refine W.eq (g2 := F0 m 8 ls [.int 1]) rfl ?_
  refine k_if_eq_f (tgt := 19) hx hb dX6_stick_8 (by decide) (by decide) ?_
  refine lv_iload_n hx hb dX6_stick_11 rfl (lv_at hl 2 rfl) ?_
  refine lv_iload_n hx hb dX6_stick_12 rfl (lv_at hl 3 rfl) ?_
  refine ct_S (wr := []) hSF hl.1 hP hD hS hA hK hGV (c253_X6_isSection l hfl D cA g (p1) (p2) k2 k3 k4 k5) goS_X6_88 pd_X6_isSection.2 ⟨(Nat.le_of_ble_eq_true rfl), (Nat.le_of_ble_eq_true rfl)⟩ ⟨(Nat.le_of_ble_eq_true rfl), (Nat.le_of_ble_eq_true rfl)⟩ dX6_stick_13 rfl (Nat.le_of_ble_eq_true rfl) [] [] rfl (by decide) rfl (by decide) (by decide) (fun q => []) (fun _ => rfl) (fun q2 H locs hP hD hS => ?_)
  refine W.eq (g2 := F0 m 16 ls [.int 0]) rfl ?_
  refine k_if_ne_f (tgt := 29) hx hb dX6_stick_16 (by decide) (by decide) ?_
  exact e_throw (fun _ => 0) (names := ["java/lang/RuntimeException", "java/lang/Exception"]) 18 hx hb hfl hown hG hGV htab hlocks (hl.1.trans hml.symm) (by decide +kernel) (by decide +kernel) gw668 gw95 rfl xat_X6_60 hP hD hS dX6_stick_19 dX6_stick_22 dX6_stick_23 dX6_stick_25 dX6_stick_28 (Nat.le_of_ble_eq_true rfl) (Nat.le_of_ble_eq_true rfl) (Nat.le_of_ble_eq_true rfl) (Nat.le_of_ble_eq_true rfl) (Nat.le_of_ble_eq_true rfl) (Nat.le_of_ble_eq_true rfl)
set_option maxHeartbeats 4000000 in
set_option maxRecDepth 100000 in
theorem c255_L_stick (l : Launch) (hfl : l.stackTraces = false) (D : va_G) (cA : Nat → ClassId) (g : gv_T) (h0 h1 h2 h3 h4 h5 h6 : Nat) (p0 : Int32) (p1 : Int32) (p2 : Int32) (k0 : ¬ p0 < 1) (k1 : ¬ 900 < p0) (k2 : ¬ p1 < 6) (k3 : ¬ 40 < p1) (k4 : ¬ p2 < 0) (k5 : 3 < p2) : CW l yL_stick cL_stick 6 (some .int) [(0, 12, 15, 13), (0, 12, 19, 15)] (RM 7 1 6 118) D cA g [.ref h0, .int p0, .int p1, .int p2, .ref h1] [(h0, .inr (9, [.ref h2, .ref h3, .ref h4, .ref h5, .ref h6]))] (fun q => some (.int 1)) (fun q => [(h0, .inr (9, [.ref h2, .ref h3, .ref h4, .ref h5, .ref h6]))]) := by
  refine CW.of (by decide +kernel) (Nat.le_of_ble_eq_true rfl) ?_
  intro p e s m args below meth c A ls hx hb hr hml hown hG hlocks htab hA hS hP hK hD hGV hl
  have hown : s.vm.findClass RL = some m.cls := hown
  have hl : lv_has ls 6 [(0, .ref h0), (1, .int p0), (2, .int p1), (3, .int p2), (4, .ref h1)] := hl
  have hSF : CF p m c cL_stick 6 s args RL := ⟨hx, hb, hml, hown, hG⟩
  refine lv_aload hx hb dL_stick_0 (lv_at hl 4 rfl) ?_
  refine lv_iconst (v := 0) hx hb dL_stick_2 (by decide) ?_
  refine lv_aload_n hx hb dL_stick_3 rfl (lv_at hl 0 rfl) ?_
  refine lv_iload_n hx hb dL_stick_4 rfl (lv_at hl 1 rfl) ?_
  refine lv_iload_n hx hb dL_stick_5 rfl (lv_at hl 2 rfl) ?_
  refine lv_iload_n hx hb dL_stick_6 rfl (lv_at hl 3 rfl) ?_
  refine cx_V (wr := [(h0, .inr (9, [.ref h2, .ref h3, .ref h4, .ref h5, .ref h6]))]) hSF hl.1 hP hD hS hA hK hGV (c254_X6_stick l hfl D cA g h0 (p0) (p1) (p2) k0 k1 k2 k3 k4 k5) goV_L_74 pd_X6_stick ⟨(Nat.le_of_ble_eq_true rfl), (Nat.le_of_ble_eq_true rfl)⟩ ⟨(Nat.le_of_ble_eq_true rfl), (Nat.le_of_ble_eq_true rfl)⟩ (va_recv hK hP (ci := 9) (q0 := 0) rfl rfl) dL_stick_7 rfl (Nat.le_of_ble_eq_true rfl) [] [0] rfl (by decide) rfl (by decide) (by decide) (fun q => [(h0, .inr (9, [.ref h2, .ref h3, .ref h4, .ref h5, .ref h6]))]) (fun _ => rfl) (fun q1 H locs x9 ce9 hP hD hS h9 hv9 hcl9 => ?_)
  refine vx_catch (own := RL) (name := "java/lang/IllegalArgumentException") hown [] { startPc := 0, endPc := 12, handlerPc := 15, catchType := 13 } [{ startPc := 0, endPc := 12, handlerPc := 19, catchType := 15 }] (htab.trans rfl) (fun z hz => nomatch hz) rfl (by decide) (hG _ gw572) (va_Nw.use rfl (hGV.2.2.2.2.1 _ gw670)) h9 hv9 hcl9 ?_
  refine W.eq (g2 := F0 m 15 ls [.ref x9]) rfl ?_
  refine lv_astore (lv' := [(5, .ref x9), (0, .ref h0), (1, .int p0), (2, .int p1), (3, .int p2), (4, .ref h1)]) hx hb dL_stick_15 hl (by decide) rfl (fun ls hl => ?_)
  refine lv_iconst (v := 1) hx hb dL_stick_17 (by decide) ?_
  exact e_i (fun _ => 0) hx hb hr hlocks rfl rfl hP hD hS (Nat.le_of_ble_eq_true rfl) (Nat.le_of_ble_eq_true rfl) dL_stick_18
set_option maxHeartbeats 4000000 in
set_option maxRecDepth 100000 in
theorem c256_X12_in (l : Launch) (hfl : l.stackTraces = false) (D : va_G) (cA : Nat → ClassId) (g : gv_T) (p0 : Int64) (k0 : ¬ (lg_cmp p0 0) < 0) (k1 : 0 < (lg_cmp p0 3)) : CT l yX12_in cX12_in 4 (some .boolean) (RM 0 0 0 0) D cA g [.long p0, .int 0, .int 3] [] (fun q => some (.int 0)) (fun q => []) := by
  refine CT.of (by decide +kernel) (Nat.le_of_ble_eq_true rfl) ?_
  intro p e s m args below meth c A ls hx hb hr hml hown hG hlocks hnm hA hS hP hK hD hGV hl
  have hown : s.vm.findClass RX12 = some m.cls := hown
  have hl : lv_has ls 4 [(0, .long p0), (2, .int 0), (3, .int 3)] := hl
  have hSF : CF p m c cX12_in 4 s args RX12 := ⟨hx, hb, hml, hown, hG⟩
  refine lv_lload_n hx hb dX12_in_0 rfl (lv_at hl 0 rfl) ?_
  refine lv_iload_n hx hb dX12_in_1 rfl (lv_at hl 1 rfl) ?_
  refine lv_i2l (v := 0) hx hb dX12_in_2 (by decide +kernel) ?_
  refine k_lcmp (v := (lg_cmp p0 0)) hx hb dX12_in_3 rfl ?_
  refine k_if_lt_f (tgt := 18) hx hb dX12_in_4 k0 (by decide) ?_
  refine lv_lload_n hx hb dX12_in_7 rfl (lv_at hl 0 rfl) ?_
  refine lv_iload_n hx hb dX12_in_8 rfl (lv_at hl 2 rfl) ?_
  refine lv_i2l (v := 3) hx hb dX12_in_9 (by decide +kernel) ?_
  refine k_lcmp (v := (lg_cmp p0 3)) hx hb dX12_in_10 rfl ?_
  refine k_if_gt_t (tgt := 18) hx hb dX12_in_11 k1 (by decide) ?_
  refine lv_iconst (v := 0) hx hb dX12_in_18 (by decide) ?_
  exact e_i (fun _ => 0) hx hb hr hlocks rfl rfl hP hD hS (Nat.le_of_ble_eq_true rfl) (Nat.le_of_ble_eq_true rfl) dX12_in_19
set_option maxHeartbeats 4000000 in
set_option maxRecDepth 100000 in
theorem c257_X12_stick (l : Launch) (hfl : l.stackTraces = false) (D : va_G) (cA : Nat → ClassId) (g : gv_T) (h0 h1 h2 h3 h4 h5 h6 h7 h8 h9 h10 h11 h12 h13 h14 h15 h16 h17 h18 : Nat) (p0 : Int32) (p1 : Int32) (p2 : Int32) (k0 : ¬ (lg_cmp p0.toInt64 1) < 0) (k1 : ¬ 0 < (lg_cmp p0.toInt64 900)) (k2 : ¬ (lg_cmp p1.toInt64 6) < 0) (k3 : ¬ 0 < (lg_cmp p1.toInt64 40)) (k4 : ¬ (lg_cmp p2.toInt64 0) < 0) (k5 : 0 < (lg_cmp p2.toInt64 3)) : CT l yX12_stick cX12_stick 4 (some .int) (RM 1 0 0 23) D cA g [.ref h0, .int p0, .int p1, .int p2] [(h0, .inr (15, [.ref h1, .ref h2, .ref h3, .ref h4, .ref h5, .ref h6, .ref h7, .ref h8, .ref h9, .ref h10, .ref h11, .ref h12, .ref h13, .ref h14, .ref h15, .ref h16, .ref h17, .ref h18, .long 0, .int 0, .int 2, .int 0, .int 0, .int 0, .int 0, .int 0, .int 0]))] (fun q => some (.int 0)) (fun q => [(h0, .inr (15, [.ref h1, .ref h2, .ref h3, .ref h4, .ref h5, .ref h6, .ref h7, .ref h8, .ref h9, .ref h10, .ref h11, .ref h12, .ref h13, .ref h14, .ref h15, .ref h16, .ref h17, .ref h18, .long 0, .int 1, .int 2, .int 0, .int 0, .int 0, .int 0, .int 0, .int 0]))]) := by
  refine CT.of (by decide +kernel) (Nat.le_of_ble_eq_true rfl) ?_
  intro p e s m args below meth c A ls hx hb hr hml hown hG hlocks hnm hA hS hP hK hD hGV hl
  have hown : s.vm.findClass RX12 = some m.cls := hown
  have hl : lv_has ls 4 [(0, .ref h0), (1, .int p0), (2, .int p1), (3, .int p2)] := hl
  have hSF : CF p m c cX12_stick 4 s args RX12 := ⟨hx, hb, hml, hown, hG⟩
  refine lv_iload_n hx hb dX12_stick_0 rfl (lv_at hl 1 rfl) ?_
  refine lv_i2l (v := p0.toInt64) hx hb dX12_stick_1 rfl ?_
  refine lv_iconst (v := 1) hx hb dX12_stick_2 (by decide) ?_
  refine lv_sipush (v := 900) hx hb dX12_stick_3 (by decide) ?_
  refine ct_S (wr := [(h0, .inr (15, [.ref h1, .ref h2, .ref h3, .ref h4, .ref h5, .ref h6, .ref h7, .ref h8, .ref h9, .ref h10, .ref h11, .ref h12, .ref h13, .ref h14, .ref h15, .ref h16, .ref h17, .ref h18, .long 0, .int 0, .int 2, .int 0, .int 0, .int 0, .int 0, .int 0, .int 0]))]) hSF hl.1 hP hD hS hA hK hGV (c235_X12_in l hfl D cA g (p0.toInt64) k0 k1) goS_X12_285 pd_X12_in.2 ⟨(Nat.le_of_ble_eq_true rfl), (Nat.le_of_ble_eq_true rfl)⟩ ⟨(Nat.le_of_ble_eq_true rfl), (Nat.le_of_ble_eq_true rfl)⟩ dX12_stick_6 rfl (Nat.le_of_ble_eq_true rfl) [] [0] rfl (by decide) rfl (by decide) (by decide) (fun q => [(h0, .inr (15, [.ref h1, .ref h2, .ref h3, .ref h4, .ref h5, .ref h6, .ref h7, .ref h8, .ref h9, .ref h10, .ref h11, .ref h12, .ref h13, .ref h14, .ref h15, .ref h16, .ref h17, .ref h18, .long 0, .int 0, .int 2, .int 0, .int 0, .int 0, .int 0, .int 0, .int 0]))]) (fun _ => rfl) (fun q1 H locs hP hD hS => ?_)
  refine W.eq (g2 := F0 m 9 ls [.int 1]) rfl ?_
  refine k_if_eq_f (tgt := 34) hx hb dX12_stick_9 (by decide) (by decide) ?_
  refine lv_iload_n hx hb dX12_stick_12 rfl (lv_at hl 2 rfl) ?_
  refine lv_i2l (v := p1.toInt64) hx hb dX12_stick_13 rfl ?_
  refine lv_bipush (v := 6) hx hb dX12_stick_14 (by decide) ?_
  refine lv_bipush (v := 40) hx hb dX12_stick_16 (by decide) ?_
  refine ct_S (wr := [(h0, .inr (15, [.ref h1, .ref h2, .ref h3, .ref h4, .ref h5, .ref h6, .ref h7, .ref h8, .ref h9, .ref h10, .ref h11, .ref h12, .ref h13, .ref h14, .ref h15, .ref h16, .ref h17, .ref h18, .long 0, .int 0, .int 2, .int 0, .int 0, .int 0, .int 0, .int 0, .int 0]))]) hSF hl.1 hP hD hS hA hK hGV (c249_X12_in l hfl D cA g (p1.toInt64) k2 k3) goS_X12_285 pd_X12_in.2 ⟨(Nat.le_of_ble_eq_true rfl), (Nat.le_of_ble_eq_true rfl)⟩ ⟨(Nat.le_of_ble_eq_true rfl), (Nat.le_of_ble_eq_true rfl)⟩ dX12_stick_18 rfl (Nat.le_of_ble_eq_true rfl) [] [0] rfl (by decide) rfl (by decide) (by decide) (fun q => [(h0, .inr (15, [.ref h1, .ref h2, .ref h3, .ref h4, .ref h5, .ref h6, .ref h7, .ref h8, .ref h9, .ref h10, .ref h11, .ref h12, .ref h13, .ref h14, .ref h15, .ref h16, .ref h17, .ref h18, .long 0, .int 0, .int 2, .int 0, .int 0, .int 0, .int 0, .int 0, .int 0]))]) (fun _ => rfl) (fun q2 H locs hP hD hS => ?_)
  refine W.eq (g2 := F0 m 21 ls [.int 1]) rfl ?_
  refine k_if_eq_f (tgt := 34) hx hb dX12_stick_21 (by decide) (by decide) ?_
  refine lv_iload_n hx hb dX12_stick_24 rfl (lv_at hl 3 rfl) ?_
  refine lv_i2l (v := p2.toInt64) hx hb dX12_stick_25 rfl ?_
  refine lv_iconst (v := 0) hx hb dX12_stick_26 (by decide) ?_
  refine lv_iconst (v := 3) hx hb dX12_stick_27 (by decide) ?_
  refine ct_S (wr := [(h0, .inr (15, [.ref h1, .ref h2, .ref h3, .ref h4, .ref h5, .ref h6, .ref h7, .ref h8, .ref h9, .ref h10, .ref h11, .ref h12, .ref h13, .ref h14, .ref h15, .ref h16, .ref h17, .ref h18, .long 0, .int 0, .int 2, .int 0, .int 0, .int 0, .int 0, .int 0, .int 0]))]) hSF hl.1 hP hD hS hA hK hGV (c256_X12_in l hfl D cA g (p2.toInt64) k4 k5) goS_X12_285 pd_X12_in.2 ⟨(Nat.le_of_ble_eq_true rfl), (Nat.le_of_ble_eq_true rfl)⟩ ⟨(Nat.le_of_ble_eq_true rfl), (Nat.le_of_ble_eq_true rfl)⟩ dX12_stick_28 rfl (Nat.le_of_ble_eq_true rfl) [] [0] rfl (by decide) rfl (by decide) (by decide) (fun q => [(h0, .inr (15, [.ref h1, .ref h2, .ref h3, .ref h4, .ref h5, .ref h6, .ref h7, .ref h8, .ref h9, .ref h10, .ref h11, .ref h12, .ref h13, .ref h14, .ref h15, .ref h16, .ref h17, .ref h18, .long 0, .int 0, .int 2, .int 0, .int 0, .int 0, .int 0, .int 0, .int 0]))]) (fun _ => rfl) (fun q3 H locs hP hD hS => ?_)
  refine W.eq (g2 := F0 m 31 ls [.int 0]) rfl ?_
  refine k_if_ne_f (tgt := 40) hx hb dX12_stick_31 (by decide) (by decide) ?_
  refine lv_aload_n hx hb dX12_stick_34 rfl (lv_at hl 0 rfl) ?_
  refine lv_iconst (v := 1) hx hb dX12_stick_35 (by decide) ?_
  refine ct_V (wr := []) hSF hl.1 hP hD hS hA hK hGV (c15_X12_fails l hfl D cA g h0 h1 h2 h3 h4 h5 h6 h7 h8 h9 h10 h11 h12 h13 h14 h15 h16 h17 h18) goV_X12_289 pd_X12_fails ⟨(Nat.le_of_ble_eq_true rfl), (Nat.le_of_ble_eq_true rfl)⟩ ⟨(Nat.le_of_ble_eq_true rfl), (Nat.le_of_ble_eq_true rfl)⟩ (va_recv hK hP (ci := 15) (q0 := 0) rfl rfl) dX12_stick_36 rfl (Nat.le_of_ble_eq_true rfl) [0] [] rfl (by decide) rfl (by decide) (by decide) (fun q => [(h0, .inr (15, [.ref h1, .ref h2, .ref h3, .ref h4, .ref h5, .ref h6, .ref h7, .ref h8, .ref h9, .ref h10, .ref h11, .ref h12, .ref h13, .ref h14, .ref h15, .ref h16, .ref h17, .ref h18, .long 0, .int 1, .int 2, .int 0, .int 0, .int 0, .int 0, .int 0, .int 0]))]) (fun _ => rfl) (fun q4 H locs hP hD hS => ?_)
  refine W.eq (g2 := F0 m 39 ls [.int 0]) rfl ?_
  exact e_i (fun _ => 0) hx hb hr hlocks rfl rfl hP hD hS (Nat.le_of_ble_eq_true rfl) (Nat.le_of_ble_eq_true rfl) dX12_stick_39
set_option maxHeartbeats 4000000 in
set_option maxRecDepth 100000 in
theorem c258_X6_isWithin (l : Launch) (hfl : l.stackTraces = false) (D : va_G) (cA : Nat → ClassId) (g : gv_T) (p0 : Int32) (k0 : ¬ p0 < 0) (k1 : ¬ 3 < p0) : CT l yX6_isWithin cX6_isWithin 3 (some .boolean) (RM 0 0 0 0) D cA g [.int p0, .int 0, .int 3] [] (fun q => some (.int 1)) (fun q => []) := by
  refine CT.of (by decide +kernel) (Nat.le_of_ble_eq_true rfl) ?_
  intro p e s m args below meth c A ls hx hb hr hml hown hG hlocks hnm hA hS hP hK hD hGV hl
  have hown : s.vm.findClass RX6 = some m.cls := hown
  have hl : lv_has ls 3 [(0, .int p0), (1, .int 0), (2, .int 3)] := hl
  have hSF : CF p m c cX6_isWithin 3 s args RX6 := ⟨hx, hb, hml, hown, hG⟩
  refine lv_iload_n hx hb dX6_isWithin_0 rfl (lv_at hl 0 rfl) ?_
  refine lv_iload_n hx hb dX6_isWithin_1 rfl (lv_at hl 1 rfl) ?_
  refine k_icmp_lt_f (tgt := 14) hx hb dX6_isWithin_2 k0 (by decide) ?_
  refine lv_iload_n hx hb dX6_isWithin_5 rfl (lv_at hl 0 rfl) ?_
  refine lv_iload_n hx hb dX6_isWithin_6 rfl (lv_at hl 2 rfl) ?_
  refine k_icmp_gt_f (tgt := 14) hx hb dX6_isWithin_7 k1 (by decide) ?_
  refine lv_iconst (v := 1) hx hb dX6_isWithin_10 (by decide) ?_
  refine lv_goto (tgt := 15) hx hb dX6_isWithin_11 (by decide) ?_
  exact e_i (fun _ => 0) hx hb hr hlocks rfl rfl hP hD hS (Nat.le_of_ble_eq_true rfl) (Nat.le_of_ble_eq_true rfl) dX6_isWithin_15
set_option maxHeartbeats 4000000 in
set_option maxRecDepth 100000 in
theorem c259_X6_isSection (l : Launch) (hfl : l.stackTraces = false) (D : va_G) (cA : Nat → ClassId) (g : gv_T) (p0 : Int32) (p1 : Int32) (k0 : ¬ p0 < 6) (k1 : ¬ 40 < p0) (k2 : ¬ p1 < 0) (k3 : ¬ 3 < p1) : CT l yX6_isSection cX6_isSection 2 (some .boolean) (RM 1 0 0 22) D cA g [.int p0, .int p1] [] (fun q => some (.int 1)) (fun q => []) := by
  refine CT.of (by decide +kernel) (Nat.le_of_ble_eq_true rfl) ?_
  intro p e s m args below meth c A ls hx hb hr hml hown hG hlocks hnm hA hS hP hK hD hGV hl
  have hown : s.vm.findClass RX6 = some m.cls := hown
  have hl : lv_has ls 2 [(0, .int p0), (1, .int p1)] := hl
  have hSF : CF p m c cX6_isSection 2 s args RX6 := ⟨hx, hb, hml, hown, hG⟩
  refine lv_iload_n hx hb dX6_isSection_0 rfl (lv_at hl 0 rfl) ?_
  refine lv_bipush (v := 6) hx hb dX6_isSection_1 (by decide) ?_
  refine lv_bipush (v := 40) hx hb dX6_isSection_3 (by decide) ?_
  refine ct_S (wr := []) hSF hl.1 hP hD hS hA hK hGV (c244_X6_isWithin l hfl D cA g (p0) k0 k1) goS_X6_44 pd_X6_isWithin.2 ⟨(Nat.le_of_ble_eq_true rfl), (Nat.le_of_ble_eq_true rfl)⟩ ⟨(Nat.le_of_ble_eq_true rfl), (Nat.le_of_ble_eq_true rfl)⟩ dX6_isSection_5 rfl (Nat.le_of_ble_eq_true rfl) [] [] rfl (by decide) rfl (by decide) (by decide) (fun q => []) (fun _ => rfl) (fun q1 H locs hP hD hS => ?_)
  refine W.eq (g2 := F0 m 8 ls [.int 1]) rfl ?_
  refine k_if_eq_f (tgt := 24) hx hb dX6_isSection_8 (by decide) (by decide) ?_
  refine lv_iload_n hx hb dX6_isSection_11 rfl (lv_at hl 1 rfl) ?_
  refine lv_iconst (v := 0) hx hb dX6_isSection_12 (by decide) ?_
  refine lv_iconst (v := 3) hx hb dX6_isSection_13 (by decide) ?_
  refine ct_S (wr := []) hSF hl.1 hP hD hS hA hK hGV (c258_X6_isWithin l hfl D cA g (p1) k2 k3) goS_X6_44 pd_X6_isWithin.2 ⟨(Nat.le_of_ble_eq_true rfl), (Nat.le_of_ble_eq_true rfl)⟩ ⟨(Nat.le_of_ble_eq_true rfl), (Nat.le_of_ble_eq_true rfl)⟩ dX6_isSection_14 rfl (Nat.le_of_ble_eq_true rfl) [] [] rfl (by decide) rfl (by decide) (by decide) (fun q => []) (fun _ => rfl) (fun q2 H locs hP hD hS => ?_)
  refine W.eq (g2 := F0 m 17 ls [.int 1]) rfl ?_
  refine k_if_eq_f (tgt := 24) hx hb dX6_isSection_17 (by decide) (by decide) ?_
  refine lv_iconst (v := 1) hx hb dX6_isSection_20 (by decide) ?_
  refine lv_goto (tgt := 25) hx hb dX6_isSection_21 (by decide) ?_
  exact e_i (fun _ => 0) hx hb hr hlocks rfl rfl hP hD hS (Nat.le_of_ble_eq_true rfl) (Nat.le_of_ble_eq_true rfl) dX6_isSection_25
set_option maxHeartbeats 4000000 in
set_option maxRecDepth 100000 in
theorem c260_X0_add (l : Launch) (hfl : l.stackTraces = false) (D : va_G) (cA : Nat → ClassId) (g : gv_T) (h0 h1 h2 h3 h4 h5 h6 h7 : Nat) (p0 : Int32) (p1 : Int32) (p2 : Int32) : CT l yX0_add cX0_add 5 (some .int) (RM 0 0 0 0) D cA g [.ref h0, .int p0, .int p1, .int p2] [(h0, .inr (3, [.int 0, .int 0, .int 0, .int 0, .ref h1, .ref h2, .ref h3, .ref h4, .ref h5, .ref h6, .ref h7])), (h2, .inl (cA 0, 5, .inl (fun _ => 0))), (h3, .inl (cA 0, 5, .inl (fun _ => 0))), (h4, .inl (cA 0, 5, .inl (fun _ => 0)))] (fun q => some (.int 0)) (fun q => [(h0, .inr (3, [.int 1, .int 0, .int 0, .int 0, .ref h1, .ref h2, .ref h3, .ref h4, .ref h5, .ref h6, .ref h7])), (h2, .inl (cA 0, 5, .inl (upd (fun _ => 0) 0 p0))), (h3, .inl (cA 0, 5, .inl (upd (fun _ => 0) 0 p1))), (h4, .inl (cA 0, 5, .inl (upd (fun _ => 0) 0 p2)))]) := by
  refine CT.of (by decide +kernel) (Nat.le_of_ble_eq_true rfl) ?_
  intro p e s m args below meth c A ls hx hb hr hml hown hG hlocks hnm hA hS hP hK hD hGV hl
  have hown : s.vm.findClass RX0 = some m.cls := hown
  have hl : lv_has ls 5 [(0, .ref h0), (1, .int p0), (2, .int p1), (3, .int p2)] := hl
  have hSF : CF p m c cX0_add 5 s args RX0 := ⟨hx, hb, hml, hown, hG⟩
  refine lv_aload_n hx hb dX0_add_0 rfl (lv_at hl 0 rfl) ?_
  refine k_get (ci := 3) (C := RX0) (T := TX0) (N := 11) (v := .int 0) hx hb hG inX0 hown hK hP 0 rfl rfl 0 (by decide) gw285 rfl dX0_add_1 ?_
  refine lv_istore (lv' := [(4, .int 0), (0, .ref h0), (1, .int p0), (2, .int p1), (3, .int p2)]) hx hb dX0_add_4 hl (by decide) rfl (fun ls hl => ?_)
  refine lv_aload_n hx hb dX0_add_6 rfl (lv_at hl 1 rfl) ?_
  refine k_get (ci := 3) (C := RX0) (T := TX0) (N := 11) (v := .ref h2) hx hb hG inX0 hown hK hP 0 rfl rfl 5 (by decide) gw295 rfl dX0_add_7 ?_
  refine lv_iload hx hb dX0_add_10 (lv_at hl 0 rfl) ?_
  refine lv_iload_n hx hb dX0_add_12 rfl (lv_at hl 2 rfl) ?_
  refine k_iast (ws1 := [(h0, .inr (3, [.int 0, .int 0, .int 0, .int 0, .ref h1, .ref h2, .ref h3, .ref h4, .ref h5, .ref h6, .ref h7])), (h2, .inl (cA 0, 5, .inl (upd (fun _ => 0) 0 p0))), (h3, .inl (cA 0, 5, .inl (fun _ => 0))), (h4, .inl (cA 0, 5, .inl (fun _ => 0)))]) hx hb hK hP hD hS 1 rfl rfl (by unfold vp_in; decide) dX0_add_13 (fun H locs hP hD hS => ?_)
  refine lv_aload_n hx hb dX0_add_14 rfl (lv_at hl 1 rfl) ?_
  refine k_get (ci := 3) (C := RX0) (T := TX0) (N := 11) (v := .ref h3) hx hb hG inX0 hown hK hP 0 rfl rfl 6 (by decide) gw296 rfl dX0_add_15 ?_
  refine lv_iload hx hb dX0_add_18 (lv_at hl 0 rfl) ?_
  refine lv_iload_n hx hb dX0_add_20 rfl (lv_at hl 3 rfl) ?_
  refine k_iast (ws1 := [(h0, .inr (3, [.int 0, .int 0, .int 0, .int 0, .ref h1, .ref h2, .ref h3, .ref h4, .ref h5, .ref h6, .ref h7])), (h2, .inl (cA 0, 5, .inl (upd (fun _ => 0) 0 p0))), (h3, .inl (cA 0, 5, .inl (upd (fun _ => 0) 0 p1))), (h4, .inl (cA 0, 5, .inl (fun _ => 0)))]) hx hb hK hP hD hS 2 rfl rfl (by unfold vp_in; decide) dX0_add_21 (fun H locs hP hD hS => ?_)
  refine lv_aload_n hx hb dX0_add_22 rfl (lv_at hl 1 rfl) ?_
  refine k_get (ci := 3) (C := RX0) (T := TX0) (N := 11) (v := .ref h4) hx hb hG inX0 hown hK hP 0 rfl rfl 7 (by decide) gw297 rfl dX0_add_23 ?_
  refine lv_iload hx hb dX0_add_26 (lv_at hl 0 rfl) ?_
  refine lv_iload_n hx hb dX0_add_28 rfl (lv_at hl 4 rfl) ?_
  refine k_iast (ws1 := [(h0, .inr (3, [.int 0, .int 0, .int 0, .int 0, .ref h1, .ref h2, .ref h3, .ref h4, .ref h5, .ref h6, .ref h7])), (h2, .inl (cA 0, 5, .inl (upd (fun _ => 0) 0 p0))), (h3, .inl (cA 0, 5, .inl (upd (fun _ => 0) 0 p1))), (h4, .inl (cA 0, 5, .inl (upd (fun _ => 0) 0 p2)))]) hx hb hK hP hD hS 3 rfl rfl (by unfold vp_in; decide) dX0_add_29 (fun H locs hP hD hS => ?_)
  refine lv_aload_n hx hb dX0_add_30 rfl (lv_at hl 1 rfl) ?_
  refine lv_iload hx hb dX0_add_31 (lv_at hl 0 rfl) ?_
  refine lv_iconst (v := 1) hx hb dX0_add_33 (by decide) ?_
  refine k_iadd (v := 1) hx hb dX0_add_34 (by decide) ?_
  refine k_put (ci := 3) (C := RX0) (T := TX0) (N := 11) (v := .int 1) (ws1 := [(h0, .inr (3, [.int 1, .int 0, .int 0, .int 0, .ref h1, .ref h2, .ref h3, .ref h4, .ref h5, .ref h6, .ref h7])), (h2, .inl (cA 0, 5, .inl (upd (fun _ => 0) 0 p0))), (h3, .inl (cA 0, 5, .inl (upd (fun _ => 0) 0 p1))), (h4, .inl (cA 0, 5, .inl (upd (fun _ => 0) 0 p2)))]) hx hb hG inX0 tyX0 tyX0_ok nmX0 hown hK hP hD hS 0 rfl rfl 0 (by decide) gw285 rfl ⟨rfl, rfl⟩ rfl (Nat.le_of_ble_eq_true rfl) dX0_add_35 (fun H locs hP hD hS => ?_)
  refine lv_iload hx hb dX0_add_38 (lv_at hl 0 rfl) ?_
  exact e_i (fun _ => 0) hx hb hr hlocks rfl rfl hP hD hS (Nat.le_of_ble_eq_true rfl) (Nat.le_of_ble_eq_true rfl) dX0_add_40
set_option maxHeartbeats 4000000 in
set_option maxRecDepth 100000 in
theorem c261_X6_stick (l : Launch) (hfl : l.stackTraces = false) (D : va_G) (cA : Nat → ClassId) (g : gv_T) (h0 h1 h2 h3 h4 h5 h6 h7 h8 h9 h10 h11 h12 : Nat) (p0 : Int32) (p1 : Int32) (p2 : Int32) (k0 : ¬ p0 < 1) (k1 : ¬ 900 < p0) (k2 : ¬ p1 < 6) (k3 : ¬ 40 < p1) (k4 : ¬ p2 < 0) (k5 : ¬ 3 < p2) : CT l yX6_stick cX6_stick 4 (some .int) (RM 2 0 0 43) D cA g [.ref h0, .int p0, .int p1, .int p2] [(h0, .inr (9, [.ref h1, .ref h2, .ref h3, .ref h4, .ref h5])), (h4, .inr (3, [.int 0, .int 0, .int 0, .int 0, .ref h6, .ref h7, .ref h8, .ref h9, .ref h10, .ref h11, .ref h12])), (h7, .inl (cA 0, 5, .inl (fun _ => 0))), (h8, .inl (cA 0, 5, .inl (fun _ => 0))), (h9, .inl (cA 0, 5, .inl (fun _ => 0)))] (fun q => some (.int 0)) (fun q => [(h0, .inr (9, [.ref h1, .ref h2, .ref h3, .ref h4, .ref h5])), (h4, .inr (3, [.int 1, .int 0, .int 0, .int 0, .ref h6, .ref h7, .ref h8, .ref h9, .ref h10, .ref h11, .ref h12])), (h7, .inl (cA 0, 5, .inl (upd (fun _ => 0) 0 p0))), (h8, .inl (cA 0, 5, .inl (upd (fun _ => 0) 0 p1))), (h9, .inl (cA 0, 5, .inl (upd (fun _ => 0) 0 p2)))]) := by
  refine CT.of (by decide +kernel) (Nat.le_of_ble_eq_true rfl) ?_
  intro p e s m args below meth c A ls hx hb hr hml hown hG hlocks hnm hA hS hP hK hD hGV hl
  have hown : s.vm.findClass RX6 = some m.cls := hown
  have hl : lv_has ls 4 [(0, .ref h0), (1, .int p0), (2, .int p1), (3, .int p2)] := hl
  have hSF : CF p m c cX6_stick 4 s args RX6 := ⟨hx, hb, hml, hown, hG⟩
  refine lv_iload_n hx hb dX6_stick_0 rfl (lv_at hl 1 rfl) ?_
  refine lv_iconst (v := 1) hx hb dX6_stick_1 (by decide) ?_
  refine lv_sipush (v := 900) hx hb dX6_stick_2 (by decide) ?_
  refine ct_S (wr := [(h0, .inr (9, [.ref h1, .ref h2, .ref h3, .ref h4, .ref h5])), (h4, .inr (3, [.int 0, .int 0, .int 0, .int 0, .ref h6, .ref h7, .ref h8, .ref h9, .ref h10, .ref h11, .ref h12])), (h7, .inl (cA 0, 5, .inl (fun _ => 0))), (h8, .inl (cA 0, 5, .inl (fun _ => 0))), (h9, .inl (cA 0, 5, .inl (fun _ => 0)))]) hSF hl.1 hP hD hS hA hK hGV (c230_X6_isWithin l hfl D cA g (p0) k0 k1) goS_X6_44 pd_X6_isWithin.2 ⟨(Nat.le_of_ble_eq_true rfl), (Nat.le_of_ble_eq_true rfl)⟩ ⟨(Nat.le_of_ble_eq_true rfl), (Nat.le_of_ble_eq_true rfl)⟩ dX6_stick_5 rfl (Nat.le_of_ble_eq_true rfl) [] [0, 1, 2, 3, 4] rfl (by decide) rfl (by decide) (by decide) (fun q => [(h0, .inr (9, [.ref h1, .ref h2, .ref h3, .ref h4, .ref h5])), (h4, .inr (3, [.int 0, .int 0, .int 0, .int 0, .ref h6, .ref h7, .ref h8, .ref h9, .ref h10, .ref h11, .ref h12])), (h7, .inl (cA 0, 5, .inl (fun _ => 0))), (h8, .inl (cA 0, 5, .inl (fun _ => 0))), (h9, .inl (cA 0, 5, .inl (fun _ => 0)))]) (fun _ => rfl) (fun q1 H locs hP hD hS => ?_)
  refine W.eq (g2 := F0 m 8 ls [.int 1]) rfl ?_
  refine k_if_eq_f (tgt := 19) hx hb dX6_stick_8 (by decide) (by decide) ?_
  refine lv_iload_n hx hb dX6_stick_11 rfl (lv_at hl 2 rfl) ?_
  refine lv_iload_n hx hb dX6_stick_12 rfl (lv_at hl 3 rfl) ?_
  refine ct_S (wr := [(h0, .inr (9, [.ref h1, .ref h2, .ref h3, .ref h4, .ref h5])), (h4, .inr (3, [.int 0, .int 0, .int 0, .int 0, .ref h6, .ref h7, .ref h8, .ref h9, .ref h10, .ref h11, .ref h12])), (h7, .inl (cA 0, 5, .inl (fun _ => 0))), (h8, .inl (cA 0, 5, .inl (fun _ => 0))), (h9, .inl (cA 0, 5, .inl (fun _ => 0)))]) hSF hl.1 hP hD hS hA hK hGV (c259_X6_isSection l hfl D cA g (p1) (p2) k2 k3 k4 k5) goS_X6_88 pd_X6_isSection.2 ⟨(Nat.le_of_ble_eq_true rfl), (Nat.le_of_ble_eq_true rfl)⟩ ⟨(Nat.le_of_ble_eq_true rfl), (Nat.le_of_ble_eq_true rfl)⟩ dX6_stick_13 rfl (Nat.le_of_ble_eq_true rfl) [] [0, 1, 2, 3, 4] rfl (by decide) rfl (by decide) (by decide) (fun q => [(h0, .inr (9, [.ref h1, .ref h2, .ref h3, .ref h4, .ref h5])), (h4, .inr (3, [.int 0, .int 0, .int 0, .int 0, .ref h6, .ref h7, .ref h8, .ref h9, .ref h10, .ref h11, .ref h12])), (h7, .inl (cA 0, 5, .inl (fun _ => 0))), (h8, .inl (cA 0, 5, .inl (fun _ => 0))), (h9, .inl (cA 0, 5, .inl (fun _ => 0)))]) (fun _ => rfl) (fun q2 H locs hP hD hS => ?_)
  refine W.eq (g2 := F0 m 16 ls [.int 1]) rfl ?_
  refine k_if_ne_t (tgt := 29) hx hb dX6_stick_16 (by decide) (by decide) ?_
  refine lv_aload_n hx hb dX6_stick_29 rfl (lv_at hl 0 rfl) ?_
  refine k_get (ci := 9) (C := RX6) (T := TX6) (N := 5) (v := .ref h4) hx hb hG inX6 hown hK hP 0 rfl rfl 3 (by decide) gw366 rfl dX6_stick_30 ?_
  refine k_get (ci := 3) (C := RX0) (T := TX0) (N := 11) (v := .int 0) hx hb hG inX0 hown hK hP 1 rfl rfl 0 (by decide) gw286 rfl dX6_stick_33 ?_
  refine lv_iconst (v := 5) hx hb dX6_stick_36 (by decide) ?_
  refine k_icmp_lt_t (tgt := 50) hx hb dX6_stick_37 (by decide) (by decide) ?_
  refine lv_aload_n hx hb dX6_stick_50 rfl (lv_at hl 0 rfl) ?_
  refine k_get (ci := 9) (C := RX6) (T := TX6) (N := 5) (v := .ref h4) hx hb hG inX6 hown hK hP 0 rfl rfl 3 (by decide) gw366 rfl dX6_stick_51 ?_
  refine lv_iconst (v := 0) hx hb dX6_stick_54 (by decide) ?_
  refine k_put (ci := 3) (C := RX0) (T := TX0) (N := 11) (v := .int 0) (ws1 := [(h0, .inr (9, [.ref h1, .ref h2, .ref h3, .ref h4, .ref h5])), (h4, .inr (3, [.int 0, .int 0, .int 0, .int 0, .ref h6, .ref h7, .ref h8, .ref h9, .ref h10, .ref h11, .ref h12])), (h7, .inl (cA 0, 5, .inl (fun _ => 0))), (h8, .inl (cA 0, 5, .inl (fun _ => 0))), (h9, .inl (cA 0, 5, .inl (fun _ => 0)))]) hx hb hG inX0 tyX0 tyX0_ok nmX0 hown hK hP hD hS 1 rfl rfl 1 (by decide) gw287 rfl ⟨rfl, rfl⟩ rfl (Nat.le_of_ble_eq_true rfl) dX6_stick_55 (fun H locs hP hD hS => ?_)
  refine lv_aload_n hx hb dX6_stick_58 rfl (lv_at hl 0 rfl) ?_
  refine k_get (ci := 9) (C := RX6) (T := TX6) (N := 5) (v := .ref h4) hx hb hG inX6 hown hK hP 0 rfl rfl 3 (by decide) gw366 rfl dX6_stick_59 ?_
  refine lv_iload_n hx hb dX6_stick_62 rfl (lv_at hl 1 rfl) ?_
  refine lv_iload_n hx hb dX6_stick_63 rfl (lv_at hl 2 rfl) ?_
  refine lv_iload_n hx hb dX6_stick_64 rfl (lv_at hl 3 rfl) ?_
  refine ct_V (wr := [(h0, .inr (9, [.ref h1, .ref h2, .ref h3, .ref h4, .ref h5]))]) hSF hl.1 hP hD hS hA hK hGV (c260_X0_add l hfl D cA g h4 h6 h7 h8 h9 h10 h11 h12 (p0) (p1) (p2)) goV_X6_213 pd_X0_add ⟨(Nat.le_of_ble_eq_true rfl), (Nat.le_of_ble_eq_true rfl)⟩ ⟨(Nat.le_of_ble_eq_true rfl), (Nat.le_of_ble_eq_true rfl)⟩ (va_recv hK hP (ci := 3) (q0 := 1) rfl rfl) dX6_stick_65 rfl (Nat.le_of_ble_eq_true rfl) [1, 2, 3, 4] [0] rfl (by decide) rfl (by decide) (by decide) (fun q => [(h0, .inr (9, [.ref h1, .ref h2, .ref h3, .ref h4, .ref h5])), (h4, .inr (3, [.int 1, .int 0, .int 0, .int 0, .ref h6, .ref h7, .ref h8, .ref h9, .ref h10, .ref h11, .ref h12])), (h7, .inl (cA 0, 5, .inl (upd (fun _ => 0) 0 p0))), (h8, .inl (cA 0, 5, .inl (upd (fun _ => 0) 0 p1))), (h9, .inl (cA 0, 5, .inl (upd (fun _ => 0) 0 p2)))]) (fun _ => rfl) (fun q3 H locs hP hD hS => ?_)
  refine W.eq (g2 := F0 m 68 ls [.int 0]) rfl ?_
  exact e_i (fun _ => 0) hx hb hr hlocks rfl rfl hP hD hS (Nat.le_of_ble_eq_true rfl) (Nat.le_of_ble_eq_true rfl) dX6_stick_68
set_option maxHeartbeats 4000000 in
set_option maxRecDepth 100000 in
theorem c262_L_stick (l : Launch) (hfl : l.stackTraces = false) (D : va_G) (cA : Nat → ClassId) (g : gv_T) (h0 h1 h2 h3 h4 h5 h6 h7 h8 h9 h10 h11 h12 h13 : Nat) (p0 : Int32) (p1 : Int32) (p2 : Int32) (k0 : ¬ p0 < 1) (k1 : ¬ 900 < p0) (k2 : ¬ p1 < 6) (k3 : ¬ 40 < p1) (k4 : ¬ p2 < 0) (k5 : ¬ 3 < p2) : CW l yL_stick cL_stick 6 (some .int) [(0, 12, 15, 13), (0, 12, 19, 15)] (RM 3 0 0 66) D cA g [.ref h0, .int p0, .int p1, .int p2, .ref h1] [(h0, .inr (9, [.ref h2, .ref h3, .ref h4, .ref h5, .ref h6])), (h5, .inr (3, [.int 0, .int 0, .int 0, .int 0, .ref h7, .ref h8, .ref h9, .ref h10, .ref h11, .ref h12, .ref h13])), (h8, .inl (cA 0, 5, .inl (fun _ => 0))), (h9, .inl (cA 0, 5, .inl (fun _ => 0))), (h10, .inl (cA 0, 5, .inl (fun _ => 0))), (h1, .inl (cA 1, 1, .inr (.inl (fun _ => 0))))] (fun q => some (.int 0)) (fun q => [(h0, .inr (9, [.ref h2, .ref h3, .ref h4, .ref h5, .ref h6])), (h5, .inr (3, [.int 1, .int 0, .int 0, .int 0, .ref h7, .ref h8, .ref h9, .ref h10, .ref h11, .ref h12, .ref h13])), (h8, .inl (cA 0, 5, .inl (upd (fun _ => 0) 0 p0))), (h9, .inl (cA 0, 5, .inl (upd (fun _ => 0) 0 p1))), (h10, .inl (cA 0, 5, .inl (upd (fun _ => 0) 0 p2))), (h1, .inl (cA 1, 1, .inr (.inl (vp_updL (fun _ => 0) 0 0))))]) := by
  refine CW.of (by decide +kernel) (Nat.le_of_ble_eq_true rfl) ?_
  intro p e s m args below meth c A ls hx hb hr hml hown hG hlocks htab hA hS hP hK hD hGV hl
  have hown : s.vm.findClass RL = some m.cls := hown
  have hl : lv_has ls 6 [(0, .ref h0), (1, .int p0), (2, .int p1), (3, .int p2), (4, .ref h1)] := hl
  have hSF : CF p m c cL_stick 6 s args RL := ⟨hx, hb, hml, hown, hG⟩
  refine lv_aload hx hb dL_stick_0 (lv_at hl 4 rfl) ?_
  refine lv_iconst (v := 0) hx hb dL_stick_2 (by decide) ?_
  refine lv_aload_n hx hb dL_stick_3 rfl (lv_at hl 0 rfl) ?_
  refine lv_iload_n hx hb dL_stick_4 rfl (lv_at hl 1 rfl) ?_
  refine lv_iload_n hx hb dL_stick_5 rfl (lv_at hl 2 rfl) ?_
  refine lv_iload_n hx hb dL_stick_6 rfl (lv_at hl 3 rfl) ?_
  refine ct_V (wr := [(h1, .inl (cA 1, 1, .inr (.inl (fun _ => 0))))]) hSF hl.1 hP hD hS hA hK hGV (c261_X6_stick l hfl D cA g h0 h2 h3 h4 h5 h6 h7 h8 h9 h10 h11 h12 h13 (p0) (p1) (p2) k0 k1 k2 k3 k4 k5) goV_L_74 pd_X6_stick ⟨(Nat.le_of_ble_eq_true rfl), (Nat.le_of_ble_eq_true rfl)⟩ ⟨(Nat.le_of_ble_eq_true rfl), (Nat.le_of_ble_eq_true rfl)⟩ (va_recv hK hP (ci := 9) (q0 := 0) rfl rfl) dL_stick_7 rfl (Nat.le_of_ble_eq_true rfl) [0, 1, 2, 3, 4] [5] rfl (by decide) rfl (by decide) (by decide) (fun q => [(h1, .inl (cA 1, 1, .inr (.inl (fun _ => 0)))), (h0, .inr (9, [.ref h2, .ref h3, .ref h4, .ref h5, .ref h6])), (h5, .inr (3, [.int 1, .int 0, .int 0, .int 0, .ref h7, .ref h8, .ref h9, .ref h10, .ref h11, .ref h12, .ref h13])), (h8, .inl (cA 0, 5, .inl (upd (fun _ => 0) 0 p0))), (h9, .inl (cA 0, 5, .inl (upd (fun _ => 0) 0 p1))), (h10, .inl (cA 0, 5, .inl (upd (fun _ => 0) 0 p2)))]) (fun _ => rfl) (fun q1 H locs hP hD hS => ?_)
  refine W.eq (g2 := F0 m 10 ls [.int 0, .int 0, .ref h1]) rfl ?_
  refine lv_i2l (v := 0) hx hb dL_stick_10 (by decide +kernel) ?_
  refine k_last (ws1 := [(h1, .inl (cA 1, 1, .inr (.inl (vp_updL (fun _ => 0) 0 0)))), (h0, .inr (9, [.ref h2, .ref h3, .ref h4, .ref h5, .ref h6])), (h5, .inr (3, [.int 1, .int 0, .int 0, .int 0, .ref h7, .ref h8, .ref h9, .ref h10, .ref h11, .ref h12, .ref h13])), (h8, .inl (cA 0, 5, .inl (upd (fun _ => 0) 0 p0))), (h9, .inl (cA 0, 5, .inl (upd (fun _ => 0) 0 p1))), (h10, .inl (cA 0, 5, .inl (upd (fun _ => 0) 0 p2)))]) hx hb hK hP hD hS 0 rfl rfl (by unfold vp_in; decide) dL_stick_11 (fun H locs hP hD hS => ?_)
  refine lv_goto (tgt := 23) hx hb dL_stick_12 (by decide) ?_
  refine lv_iconst (v := 0) hx hb dL_stick_23 (by decide) ?_
  exact e_i (fun _ => 0) hx hb hr hlocks rfl rfl (hP.sub [1, 2, 3, 4, 5, 0] rfl) (hD.sub [1, 2, 3, 4, 5, 0] (by decide) rfl) hS (Nat.le_of_ble_eq_true rfl) (Nat.le_of_ble_eq_true rfl) dL_stick_24
set_option maxHeartbeats 4000000 in
set_option maxRecDepth 100000 in
theorem c263_X12_in (l : Launch) (hfl : l.stackTraces = false) (D : va_G) (cA : Nat → ClassId) (g : gv_T) (p0 : Int64) (k0 : ¬ (lg_cmp p0 0) < 0) (k1 : ¬ 0 < (lg_cmp p0 3)) : CT l yX12_in cX12_in 4 (some .boolean) (RM 0 0 0 0) D cA g [.long p0, .int 0, .int 3] [] (fun q => some (.int 1)) (fun q => []) := by
  refine CT.of (by decide +kernel) (Nat.le_of_ble_eq_true rfl) ?_
  intro p e s m args below meth c A ls hx hb hr hml hown hG hlocks hnm hA hS hP hK hD hGV hl
  have hown : s.vm.findClass RX12 = some m.cls := hown
  have hl : lv_has ls 4 [(0, .long p0), (2, .int 0), (3, .int 3)] := hl
  have hSF : CF p m c cX12_in 4 s args RX12 := ⟨hx, hb, hml, hown, hG⟩
  refine lv_lload_n hx hb dX12_in_0 rfl (lv_at hl 0 rfl) ?_
  refine lv_iload_n hx hb dX12_in_1 rfl (lv_at hl 1 rfl) ?_
  refine lv_i2l (v := 0) hx hb dX12_in_2 (by decide +kernel) ?_
  refine k_lcmp (v := (lg_cmp p0 0)) hx hb dX12_in_3 rfl ?_
  refine k_if_lt_f (tgt := 18) hx hb dX12_in_4 k0 (by decide) ?_
  refine lv_lload_n hx hb dX12_in_7 rfl (lv_at hl 0 rfl) ?_
  refine lv_iload_n hx hb dX12_in_8 rfl (lv_at hl 2 rfl) ?_
  refine lv_i2l (v := 3) hx hb dX12_in_9 (by decide +kernel) ?_
  refine k_lcmp (v := (lg_cmp p0 3)) hx hb dX12_in_10 rfl ?_
  refine k_if_gt_f (tgt := 18) hx hb dX12_in_11 k1 (by decide) ?_
  refine lv_iconst (v := 1) hx hb dX12_in_14 (by decide) ?_
  refine lv_goto (tgt := 19) hx hb dX12_in_15 (by decide) ?_
  exact e_i (fun _ => 0) hx hb hr hlocks rfl rfl hP hD hS (Nat.le_of_ble_eq_true rfl) (Nat.le_of_ble_eq_true rfl) dX12_in_19
set_option maxHeartbeats 4000000 in
set_option maxRecDepth 100000 in
theorem c264_X10_init (l : Launch) (hfl : l.stackTraces = false) (D : va_G) (cA : Nat → ClassId) (g : gv_T) (h0 : Nat) (p0 : Int32) (p1 : Int32) (p2 : Int32) : CT l yX10_init cX10_init 4 none (RM 1 0 0 24) D cA g [.ref h0, .int p0, .int p1, .int p2] [(h0, .inr (13, [.int 0, .int 0, .int 0]))] (fun q => none) (fun q => [(h0, .inr (13, [.int p0, .int p1, .int p2]))]) := by
  refine CT.of (by decide +kernel) (Nat.le_of_ble_eq_true rfl) ?_
  intro p e s m args below meth c A ls hx hb hr hml hown hG hlocks hnm hA hS hP hK hD hGV hl
  have hown : s.vm.findClass RX10 = some m.cls := hown
  have hl : lv_has ls 4 [(0, .ref h0), (1, .int p0), (2, .int p1), (3, .int p2)] := hl
  have hSF : CF p m c cX10_init 4 s args RX10 := ⟨hx, hb, hml, hown, hG⟩
  refine lv_aload_n hx hb dX10_init_0 rfl (lv_at hl 0 rfl) ?_
  refine W.objInit hx hb hown (hG _ gw1711) (hG _ gw118) (hG _ gw119) rfl (hl.1.trans hml.symm) rfl dX10_init_1 (Nat.le_of_ble_eq_true rfl) (Nat.le_of_ble_eq_true rfl) ?_
  refine W.eq (g2 := F0 m 4 ls []) rfl ?_
  refine lv_aload_n hx hb dX10_init_4 rfl (lv_at hl 0 rfl) ?_
  refine lv_iload_n hx hb dX10_init_5 rfl (lv_at hl 1 rfl) ?_
  refine k_putF (ci := 13) (C := RX10) (T := TX10) (N := 3) (v := .int p0) (ws1 := [(h0, .inr (13, [.int p0, .int 0, .int 0]))]) hx hb hG inX10 tyX10 tyX10_ok nmX10 hown hK hP hD hS 0 rfl rfl 0 (by decide) gw1712 rfl hnm rfl ⟨rfl, rfl⟩ rfl (Nat.le_of_ble_eq_true rfl) dX10_init_6 (fun H locs hP hD hS => ?_)
  refine lv_aload_n hx hb dX10_init_9 rfl (lv_at hl 0 rfl) ?_
  refine lv_iload_n hx hb dX10_init_10 rfl (lv_at hl 2 rfl) ?_
  refine k_putF (ci := 13) (C := RX10) (T := TX10) (N := 3) (v := .int p1) (ws1 := [(h0, .inr (13, [.int p0, .int p1, .int 0]))]) hx hb hG inX10 tyX10 tyX10_ok nmX10 hown hK hP hD hS 0 rfl rfl 1 (by decide) gw1714 rfl hnm rfl ⟨rfl, rfl⟩ rfl (Nat.le_of_ble_eq_true rfl) dX10_init_11 (fun H locs hP hD hS => ?_)
  refine lv_aload_n hx hb dX10_init_14 rfl (lv_at hl 0 rfl) ?_
  refine lv_iload_n hx hb dX10_init_15 rfl (lv_at hl 3 rfl) ?_
  refine k_putF (ci := 13) (C := RX10) (T := TX10) (N := 3) (v := .int p2) (ws1 := [(h0, .inr (13, [.int p0, .int p1, .int p2]))]) hx hb hG inX10 tyX10 tyX10_ok nmX10 hown hK hP hD hS 0 rfl rfl 2 (by decide) gw1716 rfl hnm rfl ⟨rfl, rfl⟩ rfl (Nat.le_of_ble_eq_true rfl) dX10_init_16 (fun H locs hP hD hS => ?_)
  exact e_v (fun _ => 0) hx hb hr hlocks rfl hP hD hS (Nat.le_of_ble_eq_true rfl) (Nat.le_of_ble_eq_true rfl) dX10_init_19
set_option maxHeartbeats 4000000 in
set_option maxRecDepth 100000 in
theorem c265_Jx4a65c_add_72be8 (l : Launch) (hfl : l.stackTraces = false) (D : va_G) (cA : Nat → ClassId) (g : gv_T) (h0 h1 : Nat) (p0 : Int32) (p1 : Int32) (p2 : Int32) : CT l yJx4a65c_add_72be8 cJx4a65c_add_72be8 4 none (RM 3 1 10 73) D cA g [.ref h0, .ref h1, .ref g.1, .int 0] [(h0, .inr (2, [.int 1, .ref g.1, .int 0])), (h1, .inr (13, [.int p0, .int p1, .int p2]))] (fun q => none) (fun q => [(h0, .inr (2, [.int 1, .ref (q 0), .int 1])), (h1, .inr (13, [.int p0, .int p1, .int p2])), ((q 0), .inl (cA 4, 10, .inr (.inr (.inr (.inr (va_up (fun _ => none) 0 (some h1)))))))]) := by
  refine CT.of (by decide +kernel) (Nat.le_of_ble_eq_true rfl) ?_
  intro p e s m args below meth c A ls hx hb hr hml hown hG hlocks hnm hA hS hP hK hD hGV hl
  have hown : s.vm.findClass RJx4a65c = some m.cls := hown
  have hl : lv_has ls 4 [(0, .ref h0), (1, .ref h1), (2, .ref g.1), (3, .int 0)] := hl
  have hSF : CF p m c cJx4a65c_add_72be8 4 s args RJx4a65c := ⟨hx, hb, hml, hown, hG⟩
  refine lv_iload_n hx hb dJx4a65c_add_72be8_0 rfl (lv_at hl 3 rfl) ?_
  refine lv_aload_n hx hb dJx4a65c_add_72be8_1 rfl (lv_at hl 2 rfl) ?_
  refine k_elen hx hb hGV hS dJx4a65c_add_72be8_2 ?_
  refine k_icmp_ne_f (tgt := 11) hx hb dJx4a65c_add_72be8_3 (by decide) (by decide) ?_
  refine lv_aload_n hx hb dJx4a65c_add_72be8_6 rfl (lv_at hl 0 rfl) ?_
  refine ct_V (wr := [(h1, .inr (13, [.int p0, .int p1, .int p2]))]) hSF hl.1 hP hD hS hA hK hGV (c59_Jx4a65c_grow_d5877 l hfl D cA g h0) goV_Jx4a65c_129 pd_Jx4a65c_grow_d5877 ⟨(Nat.le_of_ble_eq_true rfl), (Nat.le_of_ble_eq_true rfl)⟩ ⟨(Nat.le_of_ble_eq_true rfl), (Nat.le_of_ble_eq_true rfl)⟩ (va_recv hK hP (ci := 2) (q0 := 0) rfl rfl) dJx4a65c_add_72be8_7 rfl (Nat.le_of_ble_eq_true rfl) [0] [1] rfl (by decide) rfl (by decide) (by decide) (fun q => [(h1, .inr (13, [.int p0, .int p1, .int p2])), (h0, .inr (2, [.int 1, .ref (q 0), .int 0])), ((q 0), .inl (cA 4, 10, .inr (.inr (.inr (.inr (fun _ => none))))))]) (fun _ => rfl) (fun q1 H locs hP hD hS => ?_)
  refine W.eq (g2 := F0 m 10 ls [.ref (q1 0)]) rfl ?_
  refine lv_astore_n (lv' := [(2, .ref (q1 0)), (0, .ref h0), (1, .ref h1), (3, .int 0)]) hx hb dJx4a65c_add_72be8_10 rfl hl (by decide) rfl (fun ls hl => ?_)
  refine lv_aload_n hx hb dJx4a65c_add_72be8_11 rfl (lv_at hl 0 rfl) ?_
  refine lv_iload_n hx hb dJx4a65c_add_72be8_12 rfl (lv_at hl 3 rfl) ?_
  refine lv_aload_n hx hb dJx4a65c_add_72be8_13 rfl (lv_at hl 2 rfl) ?_
  refine k_astq (r := (RX10, TX10, 3)) (ws1 := [(h1, .inr (13, [.int p0, .int p1, .int p2])), (h0, .inr (2, [.int 1, .ref (q1 0), .int 0])), ((q1 0), .inl (cA 4, 10, .inr (.inr (.inr (.inr (va_up (fun _ => none) 0 (some h1)))))))]) hx hb hK hP hD hS hGV.2.2.2.2.1 2 0 13 rfl gw1876 rfl rfl rfl (by unfold vp_in; decide) dJx4a65c_add_72be8_14 (fun H locs hP hD hS => ?_)
  refine lv_aload_n hx hb dJx4a65c_add_72be8_15 rfl (lv_at hl 1 rfl) ?_
  refine lv_iload_n hx hb dJx4a65c_add_72be8_16 rfl (lv_at hl 3 rfl) ?_
  refine lv_iconst (v := 1) hx hb dJx4a65c_add_72be8_17 (by decide) ?_
  refine k_iadd (v := 1) hx hb dJx4a65c_add_72be8_18 (by decide) ?_
  refine k_put (ci := 2) (C := RJx4a65c) (T := TJx4a65c) (N := 3) (v := .int 1) (ws1 := [(h1, .inr (13, [.int p0, .int p1, .int p2])), (h0, .inr (2, [.int 1, .ref (q1 0), .int 1])), ((q1 0), .inl (cA 4, 10, .inr (.inr (.inr (.inr (va_up (fun _ => none) 0 (some h1)))))))]) hx hb hG inJx4a65c tyJx4a65c tyJx4a65c_ok nmJx4a65c hown hK hP hD hS 1 rfl rfl 2 (by decide) gw1208 rfl ⟨rfl, rfl⟩ rfl (Nat.le_of_ble_eq_true rfl) dJx4a65c_add_72be8_19 (fun H locs hP hD hS => ?_)
  exact e_v (fun i => match i with | 0 => (q1 0) | _ => 0) hx hb hr hlocks rfl (hP.sub [1, 0, 2] rfl) (hD.sub [1, 0, 2] (by decide) rfl) hS (Nat.le_of_ble_eq_true rfl) (Nat.le_of_ble_eq_true rfl) dJx4a65c_add_72be8_22
set_option maxHeartbeats 4000000 in
set_option maxRecDepth 100000 in
theorem c266_Jx4a65c_add_9ea2d (l : Launch) (hfl : l.stackTraces = false) (D : va_G) (cA : Nat → ClassId) (g : gv_T) (h0 h1 : Nat) (p0 : Int32) (p1 : Int32) (p2 : Int32) : CT l yJx4a65c_add_9ea2d cJx4a65c_add_9ea2d 2 (some .boolean) (RM 4 1 10 96) D cA g [.ref h0, .ref h1] [(h0, .inr (2, [.int 0, .ref g.1, .int 0])), (h1, .inr (13, [.int p0, .int p1, .int p2]))] (fun q => some (.int 1)) (fun q => [(h0, .inr (2, [.int 1, .ref (q 0), .int 1])), (h1, .inr (13, [.int p0, .int p1, .int p2])), ((q 0), .inl (cA 4, 10, .inr (.inr (.inr (.inr (va_up (fun _ => none) 0 (some h1)))))))]) := by
  refine CT.of (by decide +kernel) (Nat.le_of_ble_eq_true rfl) ?_
  intro p e s m args below meth c A ls hx hb hr hml hown hG hlocks hnm hA hS hP hK hD hGV hl
  have hown : s.vm.findClass RJx4a65c = some m.cls := hown
  have hl : lv_has ls 2 [(0, .ref h0), (1, .ref h1)] := hl
  have hSF : CF p m c cJx4a65c_add_9ea2d 2 s args RJx4a65c := ⟨hx, hb, hml, hown, hG⟩
  refine lv_aload_n hx hb dJx4a65c_add_9ea2d_0 rfl (lv_at hl 0 rfl) ?_
  refine lv_dup hx hb dJx4a65c_add_9ea2d_1 rfl ?_
  refine k_getR (ci := 2) (C := RJx4a65c) (T := TJx4a65c) (N := 3) (v := .int 0) hx hb hG inJx4a65c hown hK hP 0 rfl rfl 0 (by decide) gw1210 gw1211 rfl dJx4a65c_add_9ea2d_2 ?_
  refine lv_iconst (v := 1) hx hb dJx4a65c_add_9ea2d_5 (by decide) ?_
  refine k_iadd (v := 1) hx hb dJx4a65c_add_9ea2d_6 (by decide) ?_
  refine k_putR (ci := 2) (C := RJx4a65c) (T := TJx4a65c) (N := 3) (v := .int 1) (ws1 := [(h0, .inr (2, [.int 1, .ref g.1, .int 0])), (h1, .inr (13, [.int p0, .int p1, .int p2]))]) hx hb hG inJx4a65c tyJx4a65c tyJx4a65c_ok nmJx4a65c hown hK hP hD hS 0 rfl rfl 0 (by decide) gw1210 gw1211 rfl ⟨rfl, rfl⟩ rfl (Nat.le_of_ble_eq_true rfl) dJx4a65c_add_9ea2d_7 (fun H locs hP hD hS => ?_)
  refine lv_aload_n hx hb dJx4a65c_add_9ea2d_10 rfl (lv_at hl 0 rfl) ?_
  refine lv_aload_n hx hb dJx4a65c_add_9ea2d_11 rfl (lv_at hl 1 rfl) ?_
  refine lv_aload_n hx hb dJx4a65c_add_9ea2d_12 rfl (lv_at hl 0 rfl) ?_
  refine k_get (ci := 2) (C := RJx4a65c) (T := TJx4a65c) (N := 3) (v := .ref g.1) hx hb hG inJx4a65c hown hK hP 0 rfl rfl 1 (by decide) gw1207 rfl dJx4a65c_add_9ea2d_13 ?_
  refine lv_aload_n hx hb dJx4a65c_add_9ea2d_16 rfl (lv_at hl 0 rfl) ?_
  refine k_get (ci := 2) (C := RJx4a65c) (T := TJx4a65c) (N := 3) (v := .int 0) hx hb hG inJx4a65c hown hK hP 0 rfl rfl 2 (by decide) gw1208 rfl dJx4a65c_add_9ea2d_17 ?_
  refine ct_V (wr := []) hSF hl.1 hP hD hS hA hK hGV (c265_Jx4a65c_add_72be8 l hfl D cA g h0 h1 (p0) (p1) (p2)) goV_Jx4a65c_131 pd_Jx4a65c_add_72be8 ⟨(Nat.le_of_ble_eq_true rfl), (Nat.le_of_ble_eq_true rfl)⟩ ⟨(Nat.le_of_ble_eq_true rfl), (Nat.le_of_ble_eq_true rfl)⟩ (va_recv hK hP (ci := 2) (q0 := 0) rfl rfl) dJx4a65c_add_9ea2d_20 rfl (Nat.le_of_ble_eq_true rfl) [0, 1] [] rfl (by decide) rfl (by decide) (by decide) (fun q => [(h0, .inr (2, [.int 1, .ref (q 0), .int 1])), (h1, .inr (13, [.int p0, .int p1, .int p2])), ((q 0), .inl (cA 4, 10, .inr (.inr (.inr (.inr (va_up (fun _ => none) 0 (some h1)))))))]) (fun _ => rfl) (fun q1 H locs hP hD hS => ?_)
  refine W.eq (g2 := F0 m 23 ls []) rfl ?_
  refine lv_iconst (v := 1) hx hb dJx4a65c_add_9ea2d_23 (by decide) ?_
  exact e_i (fun i => match i with | 0 => (q1 0) | _ => 0) hx hb hr hlocks rfl rfl hP hD hS (Nat.le_of_ble_eq_true rfl) (Nat.le_of_ble_eq_true rfl) dJx4a65c_add_9ea2d_24
