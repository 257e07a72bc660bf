set_option maxHeartbeats 4000000 in
set_option maxRecDepth 100000 in
theorem c102_X12_member (l : Launch) (hfl : l.stackTraces = false) (D : va_G) (cA : Nat → ClassId) (g : gv_T) (h0 h1 h2 h3 h4 h5 h6 h7 h8 h9 h10 h11 h12 h13 h14 h15 h16 h17 h18 : Nat) (p0 : Int32) (p1 : Int32) (p2 : Int32) (p3 : Int32) (k0 : ¬ (lg_cmp p0.toInt64 0) < 0) (k1 : 0 < (lg_cmp p0.toInt64 (-1))) : CT l yX12_member cX12_member 6 (some .int) (RM 2 0 0 44) D cA g [.ref h0, .int p0, .int p1, .int p2, .int p3] [(h0, .inr (15, [.ref h1, .ref h2, .ref h3, .ref h4, .ref h5, .ref h6, .ref h7, .ref h8, .ref h9, .ref h10, .ref h11, .ref h12, .ref h13, .ref h14, .ref h15, .ref h16, .ref h17, .ref h18, .long 0, .int 0, .int 2, .int 0, .int 0, .int 0, .int 0, .int 0, .int 0])), (h1, .inr (2, [.int 0, .ref g.1, .int 0]))] (fun q => some (.int 0)) (fun q => [(h0, .inr (15, [.ref h1, .ref h2, .ref h3, .ref h4, .ref h5, .ref h6, .ref h7, .ref h8, .ref h9, .ref h10, .ref h11, .ref h12, .ref h13, .ref h14, .ref h15, .ref h16, .ref h17, .ref h18, .long 0, .int 1, .int 2, .int 0, .int 0, .int 0, .int 0, .int 0, .int 0])), (h1, .inr (2, [.int 0, .ref g.1, .int 0]))]) := by
  refine CT.of (by decide +kernel) (Nat.le_of_ble_eq_true rfl) ?_
  intro p e s m args below meth c A ls hx hb hr hml hown hG hlocks hnm hA hS hP hK hD hGV hl
  have hown : s.vm.findClass RX12 = some m.cls := hown
  have hl : lv_has ls 6 [(0, .ref h0), (1, .int p0), (2, .int p1), (3, .int p2), (4, .int p3)] := hl
  have hSF : CF p m c cX12_member 6 s args RX12 := ⟨hx, hb, hml, hown, hG⟩
  refine lv_aload_n hx hb dX12_member_0 rfl (lv_at hl 0 rfl) ?_
  refine lv_iload_n hx hb dX12_member_1 rfl (lv_at hl 1 rfl) ?_
  refine ct_V (wr := []) hSF hl.1 hP hD hS hA hK hGV (c101_X12_isNode l hfl D cA g h0 h1 h2 h3 h4 h5 h6 h7 h8 h9 h10 h11 h12 h13 h14 h15 h16 h17 h18 (p0) k0 k1) goV_X12_305 pd_X12_isNode ⟨(Nat.le_of_ble_eq_true rfl), (Nat.le_of_ble_eq_true rfl)⟩ ⟨(Nat.le_of_ble_eq_true rfl), (Nat.le_of_ble_eq_true rfl)⟩ (va_recv hK hP (ci := 15) (q0 := 0) rfl rfl) dX12_member_2 rfl (Nat.le_of_ble_eq_true rfl) [0, 1] [] rfl (by decide) rfl (by decide) (by decide) (fun q => [(h0, .inr (15, [.ref h1, .ref h2, .ref h3, .ref h4, .ref h5, .ref h6, .ref h7, .ref h8, .ref h9, .ref h10, .ref h11, .ref h12, .ref h13, .ref h14, .ref h15, .ref h16, .ref h17, .ref h18, .long 0, .int 0, .int 2, .int 0, .int 0, .int 0, .int 0, .int 0, .int 0])), (h1, .inr (2, [.int 0, .ref g.1, .int 0]))]) (fun _ => rfl) (fun q1 H locs hP hD hS => ?_)
  refine W.eq (g2 := F0 m 5 ls [.int 0]) rfl ?_
  refine k_if_eq_t (tgt := 16) hx hb dX12_member_5 (by decide) (by decide) ?_
  refine lv_aload_n hx hb dX12_member_16 rfl (lv_at hl 0 rfl) ?_
  refine lv_iconst (v := 1) hx hb dX12_member_17 (by decide) ?_
  refine ct_V (wr := [(h1, .inr (2, [.int 0, .ref g.1, .int 0]))]) hSF hl.1 hP hD hS hA hK hGV (c15_X12_fails l hfl D cA g h0 h1 h2 h3 h4 h5 h6 h7 h8 h9 h10 h11 h12 h13 h14 h15 h16 h17 h18) goV_X12_289 pd_X12_fails ⟨(Nat.le_of_ble_eq_true rfl), (Nat.le_of_ble_eq_true rfl)⟩ ⟨(Nat.le_of_ble_eq_true rfl), (Nat.le_of_ble_eq_true rfl)⟩ (va_recv hK hP (ci := 15) (q0 := 0) rfl rfl) dX12_member_18 rfl (Nat.le_of_ble_eq_true rfl) [0] [1] rfl (by decide) rfl (by decide) (by decide) (fun q => [(h1, .inr (2, [.int 0, .ref g.1, .int 0])), (h0, .inr (15, [.ref h1, .ref h2, .ref h3, .ref h4, .ref h5, .ref h6, .ref h7, .ref h8, .ref h9, .ref h10, .ref h11, .ref h12, .ref h13, .ref h14, .ref h15, .ref h16, .ref h17, .ref h18, .long 0, .int 1, .int 2, .int 0, .int 0, .int 0, .int 0, .int 0, .int 0]))]) (fun _ => rfl) (fun q2 H locs hP hD hS => ?_)
  refine W.eq (g2 := F0 m 21 ls [.int 0]) rfl ?_
  exact e_i (fun _ => 0) hx hb hr hlocks rfl rfl (hP.sub [1, 0] rfl) (hD.sub [1, 0] (by decide) rfl) hS (Nat.le_of_ble_eq_true rfl) (Nat.le_of_ble_eq_true rfl) dX12_member_21
set_option maxHeartbeats 4000000 in
set_option maxRecDepth 100000 in
theorem c103_X6_load (l : Launch) (hfl : l.stackTraces = false) (D : va_G) (cA : Nat → ClassId) (g : gv_T) (h0 h1 h2 h3 h4 h5 : Nat) (p0 : Int32) (p1 : Int32) (p2 : Int32) (k0 : p0 < 0) : CX l yX6_load cX6_load 4 (some .int) (RM 7 1 6 116) D cA g [.ref h0, .int p0, .int p1, .int p2] [(h0, .inr (9, [.ref h1, .ref h2, .ref h3, .ref h4, .ref h5]))] "java/lang/IndexOutOfBoundsException" (fun q => [(h0, .inr (9, [.ref h1, .ref h2, .ref h3, .ref h4, .ref h5]))]) := by
  refine CX.of (by decide +kernel) (Nat.le_of_ble_eq_true rfl) ?_
  intro p e s m args below meth c A ls hx hb hr hml hown hG hlocks htab hA hS hP hK hD hGV hl
  have hown : s.vm.findClass RX6 = some m.cls := hown
  have hl : lv_has ls 4 [(0, .ref h0), (1, .int p0), (2, .int p1), (3, .int p2)] := hl
  have hSF : CF p m c cX6_load 4 s args RX6 := ⟨hx, hb, hml, hown, hG⟩
  refine lv_aload_n hx hb dX6_load_0 rfl (lv_at hl 0 rfl) ?_
  refine lv_iload_n hx hb dX6_load_1 rfl (lv_at hl 1 rfl) ?_
  refine cx_V (wr := [(h0, .inr (9, [.ref h1, .ref h2, .ref h3, .ref h4, .ref h5]))]) hSF hl.1 hP hD hS hA hK hGV (c91_X6_checkNode l hfl D cA g h0 (p0) k0) goV_X6_80 pd_X6_checkNode ⟨(Nat.le_of_ble_eq_true rfl), (Nat.le_of_ble_eq_true rfl)⟩ ⟨(Nat.le_of_ble_eq_true rfl), (Nat.le_of_ble_eq_true rfl)⟩ (va_recv hK hP (ci := 9) (q0 := 0) rfl rfl) dX6_load_2 rfl (Nat.le_of_ble_eq_true rfl) [] [0] rfl (by decide) rfl (by decide) (by decide) (fun q => [(h0, .inr (9, [.ref h1, .ref h2, .ref h3, .ref h4, .ref h5]))]) (fun _ => rfl) (fun q1 H locs x9 ce9 hP hD hS h9 hv9 hcl9 => ?_)
  exact e_out (fun _ => 0) htab hlocks h9 hv9 hcl9 hP hD hS (Nat.le_of_ble_eq_true rfl) (Nat.le_of_ble_eq_true rfl)
set_option maxHeartbeats 4000000 in
set_option maxRecDepth 100000 in
theorem c104_L_load (l : Launch) (hfl : l.stackTraces = false) (D : va_G) (cA : Nat → ClassId) (g : gv_T) (h0 h1 h2 h3 h4 h5 h6 : Nat) (p0 : Int32) (p1 : Int32) (p2 : Int32) (k0 : p0 < 0) : CW l yL_load cL_load 6 (some .int) [(0, 12, 15, 21), (0, 12, 19, 13)] (RM 8 1 6 139) D cA g [.ref h0, .int p0, .int p1, .int p2, .ref h1] [(h0, .inr (9, [.ref h2, .ref h3, .ref h4, .ref h5, .ref h6]))] (fun q => some (.int 1)) (fun q => [(h0, .inr (9, [.ref h2, .ref h3, .ref h4, .ref h5, .ref h6]))]) := by
  refine CW.of (by decide +kernel) (Nat.le_of_ble_eq_true rfl) ?_
  intro p e s m args below meth c A ls hx hb hr hml hown hG hlocks htab hA hS hP hK hD hGV hl
  have hown : s.vm.findClass RL = some m.cls := hown
  have hl : lv_has ls 6 [(0, .ref h0), (1, .int p0), (2, .int p1), (3, .int p2), (4, .ref h1)] := hl
  have hSF : CF p m c cL_load 6 s args RL := ⟨hx, hb, hml, hown, hG⟩
  refine lv_aload hx hb dL_load_0 (lv_at hl 4 rfl) ?_
  refine lv_iconst (v := 0) hx hb dL_load_2 (by decide) ?_
  refine lv_aload_n hx hb dL_load_3 rfl (lv_at hl 0 rfl) ?_
  refine lv_iload_n hx hb dL_load_4 rfl (lv_at hl 1 rfl) ?_
  refine lv_iload_n hx hb dL_load_5 rfl (lv_at hl 2 rfl) ?_
  refine lv_iload_n hx hb dL_load_6 rfl (lv_at hl 3 rfl) ?_
  refine cx_V (wr := []) hSF hl.1 hP hD hS hA hK hGV (c103_X6_load l hfl D cA g h0 h2 h3 h4 h5 h6 (p0) (p1) (p2) k0) goV_L_23 pd_X6_load ⟨(Nat.le_of_ble_eq_true rfl), (Nat.le_of_ble_eq_true rfl)⟩ ⟨(Nat.le_of_ble_eq_true rfl), (Nat.le_of_ble_eq_true rfl)⟩ (va_recv hK hP (ci := 9) (q0 := 0) rfl rfl) dL_load_7 rfl (Nat.le_of_ble_eq_true rfl) [0] [] rfl (by decide) rfl (by decide) (by decide) (fun q => [(h0, .inr (9, [.ref h2, .ref h3, .ref h4, .ref h5, .ref h6]))]) (fun _ => rfl) (fun q1 H locs x9 ce9 hP hD hS h9 hv9 hcl9 => ?_)
  refine vx_catch (own := RL) (name := "java/lang/IndexOutOfBoundsException") hown [] { startPc := 0, endPc := 12, handlerPc := 15, catchType := 21 } [{ startPc := 0, endPc := 12, handlerPc := 19, catchType := 13 }] (htab.trans rfl) (fun z hz => nomatch hz) rfl (by decide) (hG _ gw763) (va_Nw.use rfl (hGV.2.2.2.2.1 _ gw797)) h9 hv9 hcl9 ?_
  refine W.eq (g2 := F0 m 15 ls [.ref x9]) rfl ?_
  refine lv_astore (lv' := [(5, .ref x9), (0, .ref h0), (1, .int p0), (2, .int p1), (3, .int p2), (4, .ref h1)]) hx hb dL_load_15 hl (by decide) rfl (fun ls hl => ?_)
  refine lv_iconst (v := 1) hx hb dL_load_17 (by decide) ?_
  exact e_i (fun _ => 0) hx hb hr hlocks rfl rfl hP hD hS (Nat.le_of_ble_eq_true rfl) (Nat.le_of_ble_eq_true rfl) dL_load_18
set_option maxHeartbeats 4000000 in
set_option maxRecDepth 100000 in
theorem c105_X12_load (l : Launch) (hfl : l.stackTraces = false) (D : va_G) (cA : Nat → ClassId) (g : gv_T) (h0 h1 h2 h3 h4 h5 h6 h7 h8 h9 h10 h11 h12 h13 h14 h15 h16 h17 h18 : Nat) (p0 : Int32) (p1 : Int32) (p2 : Int32) (k0 : (lg_cmp p0.toInt64 0) < 0) : CT l yX12_load cX12_load 4 (some .int) (RM 2 0 0 44) D cA g [.ref h0, .int p0, .int p1, .int p2] [(h0, .inr (15, [.ref h1, .ref h2, .ref h3, .ref h4, .ref h5, .ref h6, .ref h7, .ref h8, .ref h9, .ref h10, .ref h11, .ref h12, .ref h13, .ref h14, .ref h15, .ref h16, .ref h17, .ref h18, .long 0, .int 0, .int 2, .int 0, .int 0, .int 0, .int 0, .int 0, .int 0])), (h1, .inr (2, [.int 0, .ref g.1, .int 0]))] (fun q => some (.int 0)) (fun q => [(h0, .inr (15, [.ref h1, .ref h2, .ref h3, .ref h4, .ref h5, .ref h6, .ref h7, .ref h8, .ref h9, .ref h10, .ref h11, .ref h12, .ref h13, .ref h14, .ref h15, .ref h16, .ref h17, .ref h18, .long 0, .int 1, .int 2, .int 0, .int 0, .int 0, .int 0, .int 0, .int 0])), (h1, .inr (2, [.int 0, .ref g.1, .int 0]))]) := by
  refine CT.of (by decide +kernel) (Nat.le_of_ble_eq_true rfl) ?_
  intro p e s m args below meth c A ls hx hb hr hml hown hG hlocks hnm hA hS hP hK hD hGV hl
  have hown : s.vm.findClass RX12 = some m.cls := hown
  have hl : lv_has ls 4 [(0, .ref h0), (1, .int p0), (2, .int p1), (3, .int p2)] := hl
  have hSF : CF p m c cX12_load 4 s args RX12 := ⟨hx, hb, hml, hown, hG⟩
  refine lv_aload_n hx hb dX12_load_0 rfl (lv_at hl 0 rfl) ?_
  refine lv_iload_n hx hb dX12_load_1 rfl (lv_at hl 1 rfl) ?_
  refine ct_V (wr := []) hSF hl.1 hP hD hS hA hK hGV (c95_X12_isNode l hfl D cA g h0 h1 h2 h3 h4 h5 h6 h7 h8 h9 h10 h11 h12 h13 h14 h15 h16 h17 h18 (p0) k0) goV_X12_305 pd_X12_isNode ⟨(Nat.le_of_ble_eq_true rfl), (Nat.le_of_ble_eq_true rfl)⟩ ⟨(Nat.le_of_ble_eq_true rfl), (Nat.le_of_ble_eq_true rfl)⟩ (va_recv hK hP (ci := 15) (q0 := 0) rfl rfl) dX12_load_2 rfl (Nat.le_of_ble_eq_true rfl) [0, 1] [] rfl (by decide) rfl (by decide) (by decide) (fun q => [(h0, .inr (15, [.ref h1, .ref h2, .ref h3, .ref h4, .ref h5, .ref h6, .ref h7, .ref h8, .ref h9, .ref h10, .ref h11, .ref h12, .ref h13, .ref h14, .ref h15, .ref h16, .ref h17, .ref h18, .long 0, .int 0, .int 2, .int 0, .int 0, .int 0, .int 0, .int 0, .int 0])), (h1, .inr (2, [.int 0, .ref g.1, .int 0]))]) (fun _ => rfl) (fun q1 H locs hP hD hS => ?_)
  refine W.eq (g2 := F0 m 5 ls [.int 0]) rfl ?_
  refine k_if_ne_f (tgt := 14) hx hb dX12_load_5 (by decide) (by decide) ?_
  refine lv_aload_n hx hb dX12_load_8 rfl (lv_at hl 0 rfl) ?_
  refine lv_iconst (v := 1) hx hb dX12_load_9 (by decide) ?_
  refine ct_V (wr := [(h1, .inr (2, [.int 0, .ref g.1, .int 0]))]) hSF hl.1 hP hD hS hA hK hGV (c15_X12_fails l hfl D cA g h0 h1 h2 h3 h4 h5 h6 h7 h8 h9 h10 h11 h12 h13 h14 h15 h16 h17 h18) goV_X12_289 pd_X12_fails ⟨(Nat.le_of_ble_eq_true rfl), (Nat.le_of_ble_eq_true rfl)⟩ ⟨(Nat.le_of_ble_eq_true rfl), (Nat.le_of_ble_eq_true rfl)⟩ (va_recv hK hP (ci := 15) (q0 := 0) rfl rfl) dX12_load_10 rfl (Nat.le_of_ble_eq_true rfl) [0] [1] rfl (by decide) rfl (by decide) (by decide) (fun q => [(h1, .inr (2, [.int 0, .ref g.1, .int 0])), (h0, .inr (15, [.ref h1, .ref h2, .ref h3, .ref h4, .ref h5, .ref h6, .ref h7, .ref h8, .ref h9, .ref h10, .ref h11, .ref h12, .ref h13, .ref h14, .ref h15, .ref h16, .ref h17, .ref h18, .long 0, .int 1, .int 2, .int 0, .int 0, .int 0, .int 0, .int 0, .int 0]))]) (fun _ => rfl) (fun q2 H locs hP hD hS => ?_)
  refine W.eq (g2 := F0 m 13 ls [.int 0]) rfl ?_
  exact e_i (fun _ => 0) hx hb hr hlocks rfl rfl (hP.sub [1, 0] rfl) (hD.sub [1, 0] (by decide) rfl) hS (Nat.le_of_ble_eq_true rfl) (Nat.le_of_ble_eq_true rfl) dX12_load_13
set_option maxHeartbeats 4000000 in
set_option maxRecDepth 100000 in
theorem c106_X6_load (l : Launch) (hfl : l.stackTraces = false) (D : va_G) (cA : Nat → ClassId) (g : gv_T) (h0 h1 h2 h3 h4 h5 h6 h7 h8 h9 h10 h11 h12 h13 h14 h15 : Nat) (p0 : Int32) (p1 : Int32) (p2 : Int32) (k0 : ¬ p0 < 0) : CX l yX6_load cX6_load 4 (some .int) (RM 7 1 6 116) D cA g [.ref h0, .int p0, .int p1, .int p2] [(h0, .inr (9, [.ref h1, .ref h2, .ref h3, .ref h4, .ref h5])), (h1, .inr (5, [.int 0, .int 0, .ref h6, .ref h7, .ref h8, .ref h9, .ref h10, .ref h11, .ref h12, .ref h13, .ref h14, .ref h15]))] "java/lang/IndexOutOfBoundsException" (fun q => [(h0, .inr (9, [.ref h1, .ref h2, .ref h3, .ref h4, .ref h5])), (h1, .inr (5, [.int 0, .int 0, .ref h6, .ref h7, .ref h8, .ref h9, .ref h10, .ref h11, .ref h12, .ref h13, .ref h14, .ref h15]))]) := by
  refine CX.of (by decide +kernel) (Nat.le_of_ble_eq_true rfl) ?_
  intro p e s m args below meth c A ls hx hb hr hml hown hG hlocks htab hA hS hP hK hD hGV hl
  have hown : s.vm.findClass RX6 = some m.cls := hown
  have hl : lv_has ls 4 [(0, .ref h0), (1, .int p0), (2, .int p1), (3, .int p2)] := hl
  have hSF : CF p m c cX6_load 4 s args RX6 := ⟨hx, hb, hml, hown, hG⟩
  refine lv_aload_n hx hb dX6_load_0 rfl (lv_at hl 0 rfl) ?_
  refine lv_iload_n hx hb dX6_load_1 rfl (lv_at hl 1 rfl) ?_
  refine cx_V (wr := []) hSF hl.1 hP hD hS hA hK hGV (c97_X6_checkNode l hfl D cA g h0 h1 h2 h3 h4 h5 h6 h7 h8 h9 h10 h11 h12 h13 h14 h15 (p0) k0) goV_X6_80 pd_X6_checkNode ⟨(Nat.le_of_ble_eq_true rfl), (Nat.le_of_ble_eq_true rfl)⟩ ⟨(Nat.le_of_ble_eq_true rfl), (Nat.le_of_ble_eq_true rfl)⟩ (va_recv hK hP (ci := 9) (q0 := 0) rfl rfl) dX6_load_2 rfl (Nat.le_of_ble_eq_true rfl) [0, 1] [] rfl (by decide) rfl (by decide) (by decide) (fun q => [(h0, .inr (9, [.ref h1, .ref h2, .ref h3, .ref h4, .ref h5])), (h1, .inr (5, [.int 0, .int 0, .ref h6, .ref h7, .ref h8, .ref h9, .ref h10, .ref h11, .ref h12, .ref h13, .ref h14, .ref h15]))]) (fun _ => rfl) (fun q1 H locs x9 ce9 hP hD hS h9 hv9 hcl9 => ?_)
  exact e_out (fun _ => 0) htab hlocks h9 hv9 hcl9 hP hD hS (Nat.le_of_ble_eq_true rfl) (Nat.le_of_ble_eq_true rfl)
set_option maxHeartbeats 4000000 in
set_option maxRecDepth 100000 in
theorem c107_L_load (l : Launch) (hfl : l.stackTraces = false) (D : va_G) (cA : Nat → ClassId) (g : gv_T) (h0 h1 h2 h3 h4 h5 h6 h7 h8 h9 h10 h11 h12 h13 h14 h15 h16 : Nat) (p0 : Int32) (p1 : Int32) (p2 : Int32) (k0 : ¬ p0 < 0) : CW l yL_load cL_load 6 (some .int) [(0, 12, 15, 21), (0, 12, 19, 13)] (RM 8 1 6 139) D cA g [.ref h0, .int p0, .int p1, .int p2, .ref h1] [(h0, .inr (9, [.ref h2, .ref h3, .ref h4, .ref h5, .ref h6])), (h2, .inr (5, [.int 0, .int 0, .ref h7, .ref h8, .ref h9, .ref h10, .ref h11, .ref h12, .ref h13, .ref h14, .ref h15, .ref h16]))] (fun q => some (.int 1)) (fun q => [(h0, .inr (9, [.ref h2, .ref h3, .ref h4, .ref h5, .ref h6])), (h2, .inr (5, [.int 0, .int 0, .ref h7, .ref h8, .ref h9, .ref h10, .ref h11, .ref h12, .ref h13, .ref h14, .ref h15, .ref h16]))]) := by
  refine CW.of (by decide +kernel) (Nat.le_of_ble_eq_true rfl) ?_
  intro p e s m args below meth c A ls hx hb hr hml hown hG hlocks htab hA hS hP hK hD hGV hl
  have hown : s.vm.findClass RL = some m.cls := hown
  have hl : lv_has ls 6 [(0, .ref h0), (1, .int p0), (2, .int p1), (3, .int p2), (4, .ref h1)] := hl
  have hSF : CF p m c cL_load 6 s args RL := ⟨hx, hb, hml, hown, hG⟩
  refine lv_aload hx hb dL_load_0 (lv_at hl 4 rfl) ?_
  refine lv_iconst (v := 0) hx hb dL_load_2 (by decide) ?_
  refine lv_aload_n hx hb dL_load_3 rfl (lv_at hl 0 rfl) ?_
  refine lv_iload_n hx hb dL_load_4 rfl (lv_at hl 1 rfl) ?_
  refine lv_iload_n hx hb dL_load_5 rfl (lv_at hl 2 rfl) ?_
  refine lv_iload_n hx hb dL_load_6 rfl (lv_at hl 3 rfl) ?_
  refine cx_V (wr := []) hSF hl.1 hP hD hS hA hK hGV (c106_X6_load l hfl D cA g h0 h2 h3 h4 h5 h6 h7 h8 h9 h10 h11 h12 h13 h14 h15 h16 (p0) (p1) (p2) k0) goV_L_23 pd_X6_load ⟨(Nat.le_of_ble_eq_true rfl), (Nat.le_of_ble_eq_true rfl)⟩ ⟨(Nat.le_of_ble_eq_true rfl), (Nat.le_of_ble_eq_true rfl)⟩ (va_recv hK hP (ci := 9) (q0 := 0) rfl rfl) dL_load_7 rfl (Nat.le_of_ble_eq_true rfl) [0, 1] [] rfl (by decide) rfl (by decide) (by decide) (fun q => [(h0, .inr (9, [.ref h2, .ref h3, .ref h4, .ref h5, .ref h6])), (h2, .inr (5, [.int 0, .int 0, .ref h7, .ref h8, .ref h9, .ref h10, .ref h11, .ref h12, .ref h13, .ref h14, .ref h15, .ref h16]))]) (fun _ => rfl) (fun q1 H locs x9 ce9 hP hD hS h9 hv9 hcl9 => ?_)
  refine vx_catch (own := RL) (name := "java/lang/IndexOutOfBoundsException") hown [] { startPc := 0, endPc := 12, handlerPc := 15, catchType := 21 } [{ startPc := 0, endPc := 12, handlerPc := 19, catchType := 13 }] (htab.trans rfl) (fun z hz => nomatch hz) rfl (by decide) (hG _ gw763) (va_Nw.use rfl (hGV.2.2.2.2.1 _ gw797)) h9 hv9 hcl9 ?_
  refine W.eq (g2 := F0 m 15 ls [.ref x9]) rfl ?_
  refine lv_astore (lv' := [(5, .ref x9), (0, .ref h0), (1, .int p0), (2, .int p1), (3, .int p2), (4, .ref h1)]) hx hb dL_load_15 hl (by decide) rfl (fun ls hl => ?_)
  refine lv_iconst (v := 1) hx hb dL_load_17 (by decide) ?_
  exact e_i (fun _ => 0) hx hb hr hlocks rfl rfl hP hD hS (Nat.le_of_ble_eq_true rfl) (Nat.le_of_ble_eq_true rfl) dL_load_18
set_option maxHeartbeats 4000000 in
set_option maxRecDepth 100000 in
theorem c108_X12_load (l : Launch) (hfl : l.stackTraces = false) (D : va_G) (cA : Nat → ClassId) (g : gv_T) (h0 h1 h2 h3 h4 h5 h6 h7 h8 h9 h10 h11 h12 h13 h14 h15 h16 h17 h18 : Nat) (p0 : Int32) (p1 : Int32) (p2 : Int32) (k0 : ¬ (lg_cmp p0.toInt64 0) < 0) (k1 : 0 < (lg_cmp p0.toInt64 (-1))) : CT l yX12_load cX12_load 4 (some .int) (RM 2 0 0 44) D cA g [.ref h0, .int p0, .int p1, .int p2] [(h0, .inr (15, [.ref h1, .ref h2, .ref h3, .ref h4, .ref h5, .ref h6, .ref h7, .ref h8, .ref h9, .ref h10, .ref h11, .ref h12, .ref h13, .ref h14, .ref h15, .ref h16, .ref h17, .ref h18, .long 0, .int 0, .int 2, .int 0, .int 0, .int 0, .int 0, .int 0, .int 0])), (h1, .inr (2, [.int 0, .ref g.1, .int 0]))] (fun q => some (.int 0)) (fun q => [(h0, .inr (15, [.ref h1, .ref h2, .ref h3, .ref h4, .ref h5, .ref h6, .ref h7, .ref h8, .ref h9, .ref h10, .ref h11, .ref h12, .ref h13, .ref h14, .ref h15, .ref h16, .ref h17, .ref h18, .long 0, .int 1, .int 2, .int 0, .int 0, .int 0, .int 0, .int 0, .int 0])), (h1, .inr (2, [.int 0, .ref g.1, .int 0]))]) := by
  refine CT.of (by decide +kernel) (Nat.le_of_ble_eq_true rfl) ?_
  intro p e s m args below meth c A ls hx hb hr hml hown hG hlocks hnm hA hS hP hK hD hGV hl
  have hown : s.vm.findClass RX12 = some m.cls := hown
  have hl : lv_has ls 4 [(0, .ref h0), (1, .int p0), (2, .int p1), (3, .int p2)] := hl
  have hSF : CF p m c cX12_load 4 s args RX12 := ⟨hx, hb, hml, hown, hG⟩
  refine lv_aload_n hx hb dX12_load_0 rfl (lv_at hl 0 rfl) ?_
  refine lv_iload_n hx hb dX12_load_1 rfl (lv_at hl 1 rfl) ?_
  refine ct_V (wr := []) hSF hl.1 hP hD hS hA hK hGV (c101_X12_isNode l hfl D cA g h0 h1 h2 h3 h4 h5 h6 h7 h8 h9 h10 h11 h12 h13 h14 h15 h16 h17 h18 (p0) k0 k1) goV_X12_305 pd_X12_isNode ⟨(Nat.le_of_ble_eq_true rfl), (Nat.le_of_ble_eq_true rfl)⟩ ⟨(Nat.le_of_ble_eq_true rfl), (Nat.le_of_ble_eq_true rfl)⟩ (va_recv hK hP (ci := 15) (q0 := 0) rfl rfl) dX12_load_2 rfl (Nat.le_of_ble_eq_true rfl) [0, 1] [] rfl (by decide) rfl (by decide) (by decide) (fun q => [(h0, .inr (15, [.ref h1, .ref h2, .ref h3, .ref h4, .ref h5, .ref h6, .ref h7, .ref h8, .ref h9, .ref h10, .ref h11, .ref h12, .ref h13, .ref h14, .ref h15, .ref h16, .ref h17, .ref h18, .long 0, .int 0, .int 2, .int 0, .int 0, .int 0, .int 0, .int 0, .int 0])), (h1, .inr (2, [.int 0, .ref g.1, .int 0]))]) (fun _ => rfl) (fun q1 H locs hP hD hS => ?_)
  refine W.eq (g2 := F0 m 5 ls [.int 0]) rfl ?_
  refine k_if_ne_f (tgt := 14) hx hb dX12_load_5 (by decide) (by decide) ?_
  refine lv_aload_n hx hb dX12_load_8 rfl (lv_at hl 0 rfl) ?_
  refine lv_iconst (v := 1) hx hb dX12_load_9 (by decide) ?_
  refine ct_V (wr := [(h1, .inr (2, [.int 0, .ref g.1, .int 0]))]) hSF hl.1 hP hD hS hA hK hGV (c15_X12_fails l hfl D cA g h0 h1 h2 h3 h4 h5 h6 h7 h8 h9 h10 h11 h12 h13 h14 h15 h16 h17 h18) goV_X12_289 pd_X12_fails ⟨(Nat.le_of_ble_eq_true rfl), (Nat.le_of_ble_eq_true rfl)⟩ ⟨(Nat.le_of_ble_eq_true rfl), (Nat.le_of_ble_eq_true rfl)⟩ (va_recv hK hP (ci := 15) (q0 := 0) rfl rfl) dX12_load_10 rfl (Nat.le_of_ble_eq_true rfl) [0] [1] rfl (by decide) rfl (by decide) (by decide) (fun q => [(h1, .inr (2, [.int 0, .ref g.1, .int 0])), (h0, .inr (15, [.ref h1, .ref h2, .ref h3, .ref h4, .ref h5, .ref h6, .ref h7, .ref h8, .ref h9, .ref h10, .ref h11, .ref h12, .ref h13, .ref h14, .ref h15, .ref h16, .ref h17, .ref h18, .long 0, .int 1, .int 2, .int 0, .int 0, .int 0, .int 0, .int 0, .int 0]))]) (fun _ => rfl) (fun q2 H locs hP hD hS => ?_)
  refine W.eq (g2 := F0 m 13 ls [.int 0]) rfl ?_
  exact e_i (fun _ => 0) hx hb hr hlocks rfl rfl (hP.sub [1, 0] rfl) (hD.sub [1, 0] (by decide) rfl) hS (Nat.le_of_ble_eq_true rfl) (Nat.le_of_ble_eq_true rfl) dX12_load_13
set_option maxHeartbeats 4000000 in
set_option maxRecDepth 100000 in
theorem c109_X1_fillRows (l : Launch) (hfl : l.stackTraces = false) (D : va_G) (cA : Nat → ClassId) (g : gv_T) (h0 h1 h2 h3 h4 h5 h6 h7 h8 h9 h10 h11 : Nat) : CT l yX1_fillRows cX1_fillRows 7 none (RM 0 0 0 0) D cA g [.ref h0, .ref h1] [(h1, .inr (5, [.int 0, .int 0, .ref h2, .ref h3, .ref h4, .ref h5, .ref h6, .ref h7, .ref h8, .ref h9, .ref h10, .ref h11]))] (fun q => none) (fun q => [(h1, .inr (5, [.int 0, .int 0, .ref h2, .ref h3, .ref h4, .ref h5, .ref h6, .ref h7, .ref h8, .ref h9, .ref h10, .ref h11]))]) := by
  refine CT.of (by decide +kernel) (Nat.le_of_ble_eq_true rfl) ?_
  intro p e s m args below meth c A ls hx hb hr hml hown hG hlocks hnm hA hS hP hK hD hGV hl
  have hown : s.vm.findClass RX1 = some m.cls := hown
  have hl : lv_has ls 7 [(0, .ref h0), (1, .ref h1)] := hl
  have hSF : CF p m c cX1_fillRows 7 s args RX1 := ⟨hx, hb, hml, hown, hG⟩
  refine lv_iconst (v := 0) hx hb dX1_fillRows_0 (by decide) ?_
  refine lv_istore_n (lv' := [(2, .int 0), (0, .ref h0), (1, .ref h1)]) hx hb dX1_fillRows_1 rfl hl (by decide) rfl (fun ls hl => ?_)
  refine lv_iconst (v := 0) hx hb dX1_fillRows_2 (by decide) ?_
  refine lv_istore_n (lv' := [(3, .int 0), (2, .int 0), (0, .ref h0), (1, .ref h1)]) hx hb dX1_fillRows_3 rfl hl (by decide) rfl (fun ls hl => ?_)
  refine lv_iload_n hx hb dX1_fillRows_4 rfl (lv_at hl 0 rfl) ?_
  refine lv_iconst (v := 2) hx hb dX1_fillRows_5 (by decide) ?_
  refine lv_aload_n hx hb dX1_fillRows_6 rfl (lv_at hl 3 rfl) ?_
  refine k_get (ci := 5) (C := RX2) (T := TX2) (N := 12) (v := .int 0) hx hb hG inX2 hown hK hP 0 rfl rfl 0 (by decide) gw128 rfl dX1_fillRows_7 ?_
  refine k_imul (v := 0) hx hb dX1_fillRows_10 (by decide) ?_
  refine k_icmp_ge_t (tgt := 126) hx hb dX1_fillRows_11 (by decide) (by decide) ?_
  exact e_v (fun _ => 0) hx hb hr hlocks rfl hP hD hS (Nat.le_of_ble_eq_true rfl) (Nat.le_of_ble_eq_true rfl) dX1_fillRows_126
set_option maxHeartbeats 4000000 in
set_option maxRecDepth 100000 in
theorem c110_J6_bitCount_0f7a4 (l : Launch) (hfl : l.stackTraces = false) (D : va_G) (cA : Nat → ClassId) (g : gv_T) : CT l yJ6_bitCount_0f7a4 cJ6_bitCount_0f7a4 1 (some .int) (RM 0 0 0 0) D cA g [.int 0] [] (fun q => some (.int 0)) (fun q => []) := by
  refine CT.of (by decide +kernel) (Nat.le_of_ble_eq_true rfl) ?_
  intro p e s m args below meth c A ls hx hb hr hml hown hG hlocks hnm hA hS hP hK hD hGV hl
  have hown : s.vm.findClass RJ6 = some m.cls := hown
  have hl : lv_has ls 1 [(0, .int 0)] := hl
  have hSF : CF p m c cJ6_bitCount_0f7a4 1 s args RJ6 := ⟨hx, hb, hml, hown, hG⟩
  refine lv_iload_n hx hb dJ6_bitCount_0f7a4_0 rfl (lv_at hl 0 rfl) ?_
  refine lv_iload_n hx hb dJ6_bitCount_0f7a4_1 rfl (lv_at hl 0 rfl) ?_
  refine lv_iconst (v := 1) hx hb dJ6_bitCount_0f7a4_2 (by decide) ?_
  refine lv_iushr (v := 0) hx hb dJ6_bitCount_0f7a4_3 (by decide +kernel) ?_
  refine lv_ldcw hx hb hown (hG _ gw414) dJ6_bitCount_0f7a4_4 ?_
  refine k_iand (v := 0) hx hb dJ6_bitCount_0f7a4_7 (by decide) ?_
  refine k_isub (v := 0) hx hb dJ6_bitCount_0f7a4_8 (by decide) ?_
  refine lv_istore_n (lv' := [(0, .int 0)]) hx hb dJ6_bitCount_0f7a4_9 rfl hl (by decide) rfl (fun ls hl => ?_)
  refine lv_iload_n hx hb dJ6_bitCount_0f7a4_10 rfl (lv_at hl 0 rfl) ?_
  refine lv_ldcw hx hb hown (hG _ gw415) dJ6_bitCount_0f7a4_11 ?_
  refine k_iand (v := 0) hx hb dJ6_bitCount_0f7a4_14 (by decide) ?_
  refine lv_iload_n hx hb dJ6_bitCount_0f7a4_15 rfl (lv_at hl 0 rfl) ?_
  refine lv_iconst (v := 2) hx hb dJ6_bitCount_0f7a4_16 (by decide) ?_
  refine lv_iushr (v := 0) hx hb dJ6_bitCount_0f7a4_17 (by decide +kernel) ?_
  refine lv_ldcw hx hb hown (hG _ gw415) dJ6_bitCount_0f7a4_18 ?_
  refine k_iand (v := 0) hx hb dJ6_bitCount_0f7a4_21 (by decide) ?_
  refine k_iadd (v := 0) hx hb dJ6_bitCount_0f7a4_22 (by decide) ?_
  refine lv_istore_n (lv' := [(0, .int 0)]) hx hb dJ6_bitCount_0f7a4_23 rfl hl (by decide) rfl (fun ls hl => ?_)
  refine lv_iload_n hx hb dJ6_bitCount_0f7a4_24 rfl (lv_at hl 0 rfl) ?_
  refine lv_iload_n hx hb dJ6_bitCount_0f7a4_25 rfl (lv_at hl 0 rfl) ?_
  refine lv_iconst (v := 4) hx hb dJ6_bitCount_0f7a4_26 (by decide) ?_
  refine lv_iushr (v := 0) hx hb dJ6_bitCount_0f7a4_27 (by decide +kernel) ?_
  refine k_iadd (v := 0) hx hb dJ6_bitCount_0f7a4_28 (by decide) ?_
  refine lv_ldcw hx hb hown (hG _ gw416) dJ6_bitCount_0f7a4_29 ?_
  refine k_iand (v := 0) hx hb dJ6_bitCount_0f7a4_32 (by decide) ?_
  refine lv_istore_n (lv' := [(0, .int 0)]) hx hb dJ6_bitCount_0f7a4_33 rfl hl (by decide) rfl (fun ls hl => ?_)
  refine lv_iload_n hx hb dJ6_bitCount_0f7a4_34 rfl (lv_at hl 0 rfl) ?_
  refine lv_iload_n hx hb dJ6_bitCount_0f7a4_35 rfl (lv_at hl 0 rfl) ?_
  refine lv_bipush (v := 8) hx hb dJ6_bitCount_0f7a4_36 (by decide) ?_
  refine lv_iushr (v := 0) hx hb dJ6_bitCount_0f7a4_38 (by decide +kernel) ?_
  refine k_iadd (v := 0) hx hb dJ6_bitCount_0f7a4_39 (by decide) ?_
  refine lv_istore_n (lv' := [(0, .int 0)]) hx hb dJ6_bitCount_0f7a4_40 rfl hl (by decide) rfl (fun ls hl => ?_)
  refine lv_iload_n hx hb dJ6_bitCount_0f7a4_41 rfl (lv_at hl 0 rfl) ?_
  refine lv_iload_n hx hb dJ6_bitCount_0f7a4_42 rfl (lv_at hl 0 rfl) ?_
  refine lv_bipush (v := 16) hx hb dJ6_bitCount_0f7a4_43 (by decide) ?_
  refine lv_iushr (v := 0) hx hb dJ6_bitCount_0f7a4_45 (by decide +kernel) ?_
  refine k_iadd (v := 0) hx hb dJ6_bitCount_0f7a4_46 (by decide) ?_
  refine lv_istore_n (lv' := [(0, .int 0)]) hx hb dJ6_bitCount_0f7a4_47 rfl hl (by decide) rfl (fun ls hl => ?_)
  refine lv_iload_n hx hb dJ6_bitCount_0f7a4_48 rfl (lv_at hl 0 rfl) ?_
  refine lv_bipush (v := 63) hx hb dJ6_bitCount_0f7a4_49 (by decide) ?_
  refine k_iand (v := 0) hx hb dJ6_bitCount_0f7a4_51 (by decide) ?_
  exact e_i (fun _ => 0) hx hb hr hlocks rfl rfl hP hD hS (Nat.le_of_ble_eq_true rfl) (Nat.le_of_ble_eq_true rfl) dJ6_bitCount_0f7a4_52
set_option maxHeartbeats 4000000 in
set_option maxRecDepth 100000 in
theorem c111_X1_findDeterminants (l : Launch) (hfl : l.stackTraces = false) (D : va_G) (cA : Nat → ClassId) (g : gv_T) (h0 h1 h2 h3 h4 h5 h6 h7 h8 h9 h10 h11 h12 h13 h14 : Nat) : CT l yX1_findDeterminants cX1_findDeterminants 4 none (RM 1 0 0 20) D cA g [.ref h0, .int 0] [(h0, .inr (4, [.int 0, .int 0, .long 0, .ref h1, .ref h2, .ref h3, .ref h4, .ref h5, .ref h6, .ref h7, .ref h8, .ref h9, .ref h10, .ref h11, .ref h12, .ref h13, .ref h14])), (h7, .inl (cA 1, 512, .inr (.inl (fun _ => 0))))] (fun q => none) (fun q => [(h0, .inr (4, [.int 0, .int 0, .long 0, .ref h1, .ref h2, .ref h3, .ref h4, .ref h5, .ref h6, .ref h7, .ref h8, .ref h9, .ref h10, .ref h11, .ref h12, .ref h13, .ref h14])), (h7, .inl (cA 1, 512, .inr (.inl (vp_updL (fun _ => 0) 0 1))))]) := by
  refine CT.of (by decide +kernel) (Nat.le_of_ble_eq_true rfl) ?_
  intro p e s m args below meth c A ls hx hb hr hml hown hG hlocks hnm hA hS hP hK hD hGV hl
  have hown : s.vm.findClass RX1 = some m.cls := hown
  have hl : lv_has ls 4 [(0, .ref h0), (1, .int 0)] := hl
  have hSF : CF p m c cX1_findDeterminants 4 s args RX1 := ⟨hx, hb, hml, hown, hG⟩
  refine lv_iconst (v := 0) hx hb dX1_findDeterminants_0 (by decide) ?_
  refine lv_istore_n (lv' := [(2, .int 0), (0, .ref h0), (1, .int 0)]) hx hb dX1_findDeterminants_1 rfl hl (by decide) rfl (fun ls hl => ?_)
  refine lv_iload_n hx hb dX1_findDeterminants_2 rfl (lv_at hl 0 rfl) ?_
  refine lv_iconst (v := 1) hx hb dX1_findDeterminants_3 (by decide) ?_
  refine lv_iload_n hx hb dX1_findDeterminants_4 rfl (lv_at hl 2 rfl) ?_
  refine k_ishl (v := 1) hx hb dX1_findDeterminants_5 (by decide) ?_
  refine k_icmp_ge_f (tgt := 113) hx hb dX1_findDeterminants_6 (by decide) (by decide) ?_
  refine lv_iload_n hx hb dX1_findDeterminants_9 rfl (lv_at hl 0 rfl) ?_
  refine ct_S (wr := [(h0, .inr (4, [.int 0, .int 0, .long 0, .ref h1, .ref h2, .ref h3, .ref h4, .ref h5, .ref h6, .ref h7, .ref h8, .ref h9, .ref h10, .ref h11, .ref h12, .ref h13, .ref h14])), (h7, .inl (cA 1, 512, .inr (.inl (fun _ => 0))))]) hSF hl.1 hP hD hS hA hK hGV (c110_J6_bitCount_0f7a4 l hfl D cA g) goS_X1_119 pd_J6_bitCount_0f7a4.2 ⟨(Nat.le_of_ble_eq_true rfl), (Nat.le_of_ble_eq_true rfl)⟩ ⟨(Nat.le_of_ble_eq_true rfl), (Nat.le_of_ble_eq_true rfl)⟩ dX1_findDeterminants_10 rfl (Nat.le_of_ble_eq_true rfl) [] [0, 1] rfl (by decide) rfl (by decide) (by decide) (fun q => [(h0, .inr (4, [.int 0, .int 0, .long 0, .ref h1, .ref h2, .ref h3, .ref h4, .ref h5, .ref h6, .ref h7, .ref h8, .ref h9, .ref h10, .ref h11, .ref h12, .ref h13, .ref h14])), (h7, .inl (cA 1, 512, .inr (.inl (fun _ => 0))))]) (fun _ => rfl) (fun q1 H locs hP hD hS => ?_)
  refine W.eq (g2 := F0 m 13 ls [.int 0]) rfl ?_
  refine lv_istore_n (lv' := [(3, .int 0), (2, .int 0), (0, .ref h0), (1, .int 0)]) hx hb dX1_findDeterminants_13 rfl hl (by decide) rfl (fun ls hl => ?_)
  refine lv_aload_n hx hb dX1_findDeterminants_14 rfl (lv_at hl 2 rfl) ?_
  refine k_get (ci := 4) (C := RX1) (T := TX1) (N := 17) (v := .ref h7) hx hb hG inX1 hown hK hP 0 rfl rfl 9 (by decide) gw209 rfl dX1_findDeterminants_15 ?_
  refine lv_iload_n hx hb dX1_findDeterminants_18 rfl (lv_at hl 1 rfl) ?_
  refine lv_iload_n hx hb dX1_findDeterminants_19 rfl (lv_at hl 1 rfl) ?_
  refine k_if_ne_f (tgt := 27) hx hb dX1_findDeterminants_20 (by decide) (by decide) ?_
  refine lv_lconst (v := 1) hx hb dX1_findDeterminants_23 (by decide) ?_
  refine lv_goto (tgt := 39) hx hb dX1_findDeterminants_24 (by decide) ?_
  refine k_last (ws1 := [(h0, .inr (4, [.int 0, .int 0, .long 0, .ref h1, .ref h2, .ref h3, .ref h4, .ref h5, .ref h6, .ref h7, .ref h8, .ref h9, .ref h10, .ref h11, .ref h12, .ref h13, .ref h14])), (h7, .inl (cA 1, 512, .inr (.inl (vp_updL (fun _ => 0) 0 1))))]) hx hb hK hP hD hS 1 rfl rfl (by unfold vp_in; decide) dX1_findDeterminants_39 (fun H locs hP hD hS => ?_)
  refine lv_iload_n hx hb dX1_findDeterminants_40 rfl (lv_at hl 0 rfl) ?_
  refine lv_iload_n hx hb dX1_findDeterminants_41 rfl (lv_at hl 3 rfl) ?_
  refine k_icmp_ge_t (tgt := 107) hx hb dX1_findDeterminants_42 (by decide) (by decide) ?_
  refine lv_iinc (v := 1) (lv' := [(2, .int 1), (3, .int 0), (0, .ref h0), (1, .int 0)]) hx hb dX1_findDeterminants_107 hl (k := 1) rfl (by decide) (by decide) rfl (fun ls hl => ?_)
  refine lv_goto (tgt := 2) hx hb dX1_findDeterminants_110 (by decide) ?_
  refine lv_iload_n hx hb dX1_findDeterminants_2 rfl (lv_at hl 0 rfl) ?_
  refine lv_iconst (v := 1) hx hb dX1_findDeterminants_3 (by decide) ?_
  refine lv_iload_n hx hb dX1_findDeterminants_4 rfl (lv_at hl 3 rfl) ?_
  refine k_ishl (v := 1) hx hb dX1_findDeterminants_5 (by decide) ?_
  refine k_icmp_ge_t (tgt := 113) hx hb dX1_findDeterminants_6 (by decide) (by decide) ?_
  exact e_v (fun _ => 0) hx hb hr hlocks rfl hP hD hS (Nat.le_of_ble_eq_true rfl) (Nat.le_of_ble_eq_true rfl) dX1_findDeterminants_113
set_option maxHeartbeats 4000000 in
set_option maxRecDepth 100000 in
theorem c112_X1_findPulls (l : Launch) (hfl : l.stackTraces = false) (D : va_G) (cA : Nat → ClassId) (g : gv_T) (h0 h1 h2 h3 h4 h5 h6 h7 h8 h9 h10 h11 h12 h13 h14 h15 h16 h17 h18 h19 h20 h21 h22 h23 h24 h25 : Nat) : CT l yX1_findPulls cX1_findPulls 7 (some .char) (RM 2 0 0 43) D cA g [.ref h0, .ref h1] [(h1, .inr (5, [.int 0, .int 0, .ref h2, .ref h3, .ref h4, .ref h5, .ref h6, .ref h7, .ref h8, .ref h9, .ref h10, .ref h11])), (h0, .inr (4, [.int 0, .int 0, .long 0, .ref h12, .ref h13, .ref h14, .ref h15, .ref h16, .ref h17, .ref h18, .ref h19, .ref h20, .ref h21, .ref h22, .ref h23, .ref h24, .ref h25])), (h18, .inl (cA 1, 512, .inr (.inl (fun _ => 0))))] (fun q => some (.int 46)) (fun q => [(h1, .inr (5, [.int 0, .int 0, .ref h2, .ref h3, .ref h4, .ref h5, .ref h6, .ref h7, .ref h8, .ref h9, .ref h10, .ref h11])), (h0, .inr (4, [.int 0, .int 0, .long 1, .ref h12, .ref h13, .ref h14, .ref h15, .ref h16, .ref h17, .ref h18, .ref h19, .ref h20, .ref h21, .ref h22, .ref h23, .ref h24, .ref h25])), (h18, .inl (cA 1, 512, .inr (.inl (vp_updL (fun _ => 0) 0 1))))]) := by
  refine CT.of (by decide +kernel) (Nat.le_of_ble_eq_true rfl) ?_
  intro p e s m args below meth c A ls hx hb hr hml hown hG hlocks hnm hA hS hP hK hD hGV hl
  have hown : s.vm.findClass RX1 = some m.cls := hown
  have hl : lv_has ls 7 [(0, .ref h0), (1, .ref h1)] := hl
  have hSF : CF p m c cX1_findPulls 7 s args RX1 := ⟨hx, hb, hml, hown, hG⟩
  refine lv_iconst (v := 0) hx hb dX1_findPulls_0 (by decide) ?_
  refine lv_istore_n (lv' := [(2, .int 0), (0, .ref h0), (1, .ref h1)]) hx hb dX1_findPulls_1 rfl hl (by decide) rfl (fun ls hl => ?_)
  refine lv_iconst (v := 0) hx hb dX1_findPulls_2 (by decide) ?_
  refine lv_istore_n (lv' := [(3, .int 0), (2, .int 0), (0, .ref h0), (1, .ref h1)]) hx hb dX1_findPulls_3 rfl hl (by decide) rfl (fun ls hl => ?_)
  refine lv_iload_n hx hb dX1_findPulls_4 rfl (lv_at hl 0 rfl) ?_
  refine lv_aload_n hx hb dX1_findPulls_5 rfl (lv_at hl 3 rfl) ?_
  refine k_get (ci := 5) (C := RX2) (T := TX2) (N := 12) (v := .int 0) hx hb hG inX2 hown hK hP 0 rfl rfl 0 (by decide) gw128 rfl dX1_findPulls_6 ?_
  refine k_icmp_ge_t (tgt := 52) hx hb dX1_findPulls_9 (by decide) (by decide) ?_
  refine lv_aload_n hx hb dX1_findPulls_52 rfl (lv_at hl 3 rfl) ?_
  refine k_get (ci := 5) (C := RX2) (T := TX2) (N := 12) (v := .int 0) hx hb hG inX2 hown hK hP 0 rfl rfl 1 (by decide) gw133 rfl dX1_findPulls_53 ?_
  refine lv_iload_n hx hb dX1_findPulls_56 rfl (lv_at hl 1 rfl) ?_
  refine k_icmp_eq_t (tgt := 76) hx hb dX1_findPulls_57 (by decide) (by decide) ?_
  refine lv_aload_n hx hb dX1_findPulls_76 rfl (lv_at hl 2 rfl) ?_
  refine lv_aload_n hx hb dX1_findPulls_77 rfl (lv_at hl 3 rfl) ?_
  refine ct_V (wr := [(h0, .inr (4, [.int 0, .int 0, .long 0, .ref h12, .ref h13, .ref h14, .ref h15, .ref h16, .ref h17, .ref h18, .ref h19, .ref h20, .ref h21, .ref h22, .ref h23, .ref h24, .ref h25])), (h18, .inl (cA 1, 512, .inr (.inl (fun _ => 0))))]) hSF hl.1 hP hD hS hA hK hGV (c109_X1_fillRows l hfl D cA g h0 h1 h2 h3 h4 h5 h6 h7 h8 h9 h10 h11) goV_X1_91 pd_X1_fillRows ⟨(Nat.le_of_ble_eq_true rfl), (Nat.le_of_ble_eq_true rfl)⟩ ⟨(Nat.le_of_ble_eq_true rfl), (Nat.le_of_ble_eq_true rfl)⟩ (va_recv hK hP (ci := 4) (q0 := 1) rfl rfl) dX1_findPulls_78 rfl (Nat.le_of_ble_eq_true rfl) [0] [1, 2] rfl (by decide) rfl (by decide) (by decide) (fun q => [(h0, .inr (4, [.int 0, .int 0, .long 0, .ref h12, .ref h13, .ref h14, .ref h15, .ref h16, .ref h17, .ref h18, .ref h19, .ref h20, .ref h21, .ref h22, .ref h23, .ref h24, .ref h25])), (h18, .inl (cA 1, 512, .inr (.inl (fun _ => 0)))), (h1, .inr (5, [.int 0, .int 0, .ref h2, .ref h3, .ref h4, .ref h5, .ref h6, .ref h7, .ref h8, .ref h9, .ref h10, .ref h11]))]) (fun _ => rfl) (fun q1 H locs hP hD hS => ?_)
  refine W.eq (g2 := F0 m 81 ls []) rfl ?_
  refine lv_aload_n hx hb dX1_findPulls_81 rfl (lv_at hl 2 rfl) ?_
  refine lv_iload_n hx hb dX1_findPulls_82 rfl (lv_at hl 1 rfl) ?_
  refine ct_V (wr := [(h1, .inr (5, [.int 0, .int 0, .ref h2, .ref h3, .ref h4, .ref h5, .ref h6, .ref h7, .ref h8, .ref h9, .ref h10, .ref h11]))]) hSF hl.1 hP hD hS hA hK hGV (c111_X1_findDeterminants l hfl D cA g h0 h12 h13 h14 h15 h16 h17 h18 h19 h20 h21 h22 h23 h24 h25) goV_X1_94 pd_X1_findDeterminants ⟨(Nat.le_of_ble_eq_true rfl), (Nat.le_of_ble_eq_true rfl)⟩ ⟨(Nat.le_of_ble_eq_true rfl), (Nat.le_of_ble_eq_true rfl)⟩ (va_recv hK hP (ci := 4) (q0 := 0) rfl rfl) dX1_findPulls_83 rfl (Nat.le_of_ble_eq_true rfl) [0, 1] [2] rfl (by decide) rfl (by decide) (by decide) (fun q => [(h1, .inr (5, [.int 0, .int 0, .ref h2, .ref h3, .ref h4, .ref h5, .ref h6, .ref h7, .ref h8, .ref h9, .ref h10, .ref h11])), (h0, .inr (4, [.int 0, .int 0, .long 0, .ref h12, .ref h13, .ref h14, .ref h15, .ref h16, .ref h17, .ref h18, .ref h19, .ref h20, .ref h21, .ref h22, .ref h23, .ref h24, .ref h25])), (h18, .inl (cA 1, 512, .inr (.inl (vp_updL (fun _ => 0) 0 1))))]) (fun _ => rfl) (fun q2 H locs hP hD hS => ?_)
  refine W.eq (g2 := F0 m 86 ls []) rfl ?_
  refine lv_aload_n hx hb dX1_findPulls_86 rfl (lv_at hl 2 rfl) ?_
  refine k_get (ci := 4) (C := RX1) (T := TX1) (N := 17) (v := .ref h18) hx hb hG inX1 hown hK hP 1 rfl rfl 9 (by decide) gw209 rfl dX1_findPulls_87 ?_
  refine lv_iconst (v := 1) hx hb dX1_findPulls_90 (by decide) ?_
  refine lv_iload_n hx hb dX1_findPulls_91 rfl (lv_at hl 1 rfl) ?_
  refine k_ishl (v := 1) hx hb dX1_findPulls_92 (by decide) ?_
  refine lv_iconst (v := 1) hx hb dX1_findPulls_93 (by decide) ?_
  refine k_isub (v := 0) hx hb dX1_findPulls_94 (by decide) ?_
  refine k_lald (v := 1) hx hb hK hP 2 rfl 0 (by decide) rfl (by unfold vp_in; decide) dX1_findPulls_95 ?_
  refine lv_lstore_n (lv' := [(3, .long 1), (2, .int 0), (0, .ref h0), (1, .ref h1)]) hx hb dX1_findPulls_96 rfl hl (by decide) rfl (fun ls hl => ?_)
  refine lv_lload_n hx hb dX1_findPulls_97 rfl (lv_at hl 0 rfl) ?_
  refine lv_lconst (v := 0) hx hb dX1_findPulls_98 (by decide) ?_
  refine k_lcmp (v := 1) hx hb dX1_findPulls_99 (by decide +kernel) ?_
  refine k_if_ne_t (tgt := 106) hx hb dX1_findPulls_100 (by decide) (by decide) ?_
  refine lv_aload_n hx hb dX1_findPulls_106 rfl (lv_at hl 2 rfl) ?_
  refine lv_lload_n hx hb dX1_findPulls_107 rfl (lv_at hl 0 rfl) ?_
  refine k_mabsl (v := 1) hx hb (hml.trans hl.1.symm) hown (hG _ gw421) (hG _ gw422) (hG _ gw88) (hG _ gw423) (Nat.le_of_ble_eq_true rfl) (Nat.le_of_ble_eq_true rfl) (Nat.le_of_ble_eq_true rfl) (Nat.le_of_ble_eq_true rfl) dX1_findPulls_108 (by decide +kernel) ?_
  refine k_put (ci := 4) (C := RX1) (T := TX1) (N := 17) (v := .long 1) (ws1 := [(h1, .inr (5, [.int 0, .int 0, .ref h2, .ref h3, .ref h4, .ref h5, .ref h6, .ref h7, .ref h8, .ref h9, .ref h10, .ref h11])), (h0, .inr (4, [.int 0, .int 0, .long 1, .ref h12, .ref h13, .ref h14, .ref h15, .ref h16, .ref h17, .ref h18, .ref h19, .ref h20, .ref h21, .ref h22, .ref h23, .ref h24, .ref h25])), (h18, .inl (cA 1, 512, .inr (.inl (vp_updL (fun _ => 0) 0 1))))]) hx hb hG inX1 tyX1 tyX1_ok nmX1 hown hK hP hD hS 1 rfl rfl 2 (by decide) gw201 rfl ⟨rfl, rfl⟩ rfl (Nat.le_of_ble_eq_true rfl) dX1_findPulls_111 (fun H locs hP hD hS => ?_)
  refine lv_iconst (v := 0) hx hb dX1_findPulls_114 (by decide) ?_
  refine lv_istore (lv' := [(5, .int 0), (3, .long 1), (2, .int 0), (0, .ref h0), (1, .ref h1)]) hx hb dX1_findPulls_115 hl (by decide) rfl (fun ls hl => ?_)
  refine lv_iload hx hb dX1_findPulls_117 (lv_at hl 0 rfl) ?_
  refine lv_iload_n hx hb dX1_findPulls_119 rfl (lv_at hl 2 rfl) ?_
  refine k_icmp_ge_t (tgt := 179) hx hb dX1_findPulls_120 (by decide) (by decide) ?_
  refine lv_bipush (v := 46) hx hb dX1_findPulls_179 (by decide) ?_
  exact e_i (fun _ => 0) hx hb hr hlocks rfl rfl hP hD hS (Nat.le_of_ble_eq_true rfl) (Nat.le_of_ble_eq_true rfl) dX1_findPulls_181
set_option maxHeartbeats 4000000 in
set_option maxRecDepth 100000 in
theorem c113_X1_findBearings (l : Launch) (hfl : l.stackTraces = false) (D : va_G) (cA : Nat → ClassId) (g : gv_T) (h0 h1 h2 h3 h4 h5 h6 h7 h8 h9 h10 h11 : Nat) : CT l yX1_findBearings cX1_findBearings 6 none (RM 0 0 0 0) D cA g [.ref h0, .ref h1] [(h1, .inr (5, [.int 0, .int 0, .ref h2, .ref h3, .ref h4, .ref h5, .ref h6, .ref h7, .ref h8, .ref h9, .ref h10, .ref h11]))] (fun q => none) (fun q => [(h1, .inr (5, [.int 0, .int 0, .ref h2, .ref h3, .ref h4, .ref h5, .ref h6, .ref h7, .ref h8, .ref h9, .ref h10, .ref h11]))]) := by
  refine CT.of (by decide +kernel) (Nat.le_of_ble_eq_true rfl) ?_
  intro p e s m args below meth c A ls hx hb hr hml hown hG hlocks hnm hA hS hP hK hD hGV hl
  have hown : s.vm.findClass RX1 = some m.cls := hown
  have hl : lv_has ls 6 [(0, .ref h0), (1, .ref h1)] := hl
  have hSF : CF p m c cX1_findBearings 6 s args RX1 := ⟨hx, hb, hml, hown, hG⟩
  refine lv_iconst (v := 0) hx hb dX1_findBearings_0 (by decide) ?_
  refine lv_istore_n (lv' := [(2, .int 0), (0, .ref h0), (1, .ref h1)]) hx hb dX1_findBearings_1 rfl hl (by decide) rfl (fun ls hl => ?_)
  refine lv_iload_n hx hb dX1_findBearings_2 rfl (lv_at hl 0 rfl) ?_
  refine lv_iconst (v := 2) hx hb dX1_findBearings_3 (by decide) ?_
  refine lv_aload_n hx hb dX1_findBearings_4 rfl (lv_at hl 2 rfl) ?_
  refine k_get (ci := 5) (C := RX2) (T := TX2) (N := 12) (v := .int 0) hx hb hG inX2 hown hK hP 0 rfl rfl 0 (by decide) gw128 rfl dX1_findBearings_5 ?_
  refine k_imul (v := 0) hx hb dX1_findBearings_8 (by decide) ?_
  refine k_icmp_ge_t (tgt := 144) hx hb dX1_findBearings_9 (by decide) (by decide) ?_
  exact e_v (fun _ => 0) hx hb hr hlocks rfl hP hD hS (Nat.le_of_ble_eq_true rfl) (Nat.le_of_ble_eq_true rfl) dX1_findBearings_144
set_option maxHeartbeats 4000000 in
set_option maxRecDepth 100000 in
theorem c114_X5_set (l : Launch) (hfl : l.stackTraces = false) (D : va_G) (cA : Nat → ClassId) (g : gv_T) (h0 h1 : Nat) : CT l yX5_set cX5_set 4 none (RM 0 0 0 0) D cA g [.ref h0, .long 1] [(h0, .inr (8, [.ref h1])), (h1, .inl (cA 1, 8, .inr (.inl (fun _ => 0))))] (fun q => none) (fun q => [(h0, .inr (8, [.ref h1])), (h1, .inl (cA 1, 8, .inr (.inl (vp_updL (vp_updL (vp_updL (vp_updL (vp_updL (vp_updL (vp_updL (vp_updL (fun _ => 0) 2 0) 3 0) 4 0) 5 0) 6 0) 7 0) 0 1) 1 0))))]) := by
  refine CT.of (by decide +kernel) (Nat.le_of_ble_eq_true rfl) ?_
  intro p e s m args below meth c A ls hx hb hr hml hown hG hlocks hnm hA hS hP hK hD hGV hl
  have hown : s.vm.findClass RX5 = some m.cls := hown
  have hl : lv_has ls 4 [(0, .ref h0), (1, .long 1)] := hl
  have hSF : CF p m c cX5_set 4 s args RX5 := ⟨hx, hb, hml, hown, hG⟩
  refine lv_iconst (v := 2) hx hb dX5_set_0 (by decide) ?_
  refine lv_istore_n (lv' := [(3, .int 2), (0, .ref h0), (1, .long 1)]) hx hb dX5_set_1 rfl hl (by decide) rfl (fun ls hl => ?_)
  refine lv_iload_n hx hb dX5_set_2 rfl (lv_at hl 0 rfl) ?_
  refine lv_bipush (v := 8) hx hb dX5_set_3 (by decide) ?_
  refine k_icmp_ge_f (tgt := 21) hx hb dX5_set_5 (by decide) (by decide) ?_
  refine lv_aload_n hx hb dX5_set_8 rfl (lv_at hl 1 rfl) ?_
  refine k_get (ci := 8) (C := RX5) (T := TX5) (N := 1) (v := .ref h1) hx hb hG inX5 hown hK hP 0 rfl rfl 0 (by decide) gw192 rfl dX5_set_9 ?_
  refine lv_iload_n hx hb dX5_set_12 rfl (lv_at hl 0 rfl) ?_
  refine lv_lconst (v := 0) hx hb dX5_set_13 (by decide) ?_
  refine k_last (ws1 := [(h0, .inr (8, [.ref h1])), (h1, .inl (cA 1, 8, .inr (.inl (vp_updL (fun _ => 0) 2 0))))]) hx hb hK hP hD hS 1 rfl rfl (by unfold vp_in; decide) dX5_set_14 (fun H locs hP hD hS => ?_)
  refine lv_iinc (v := 3) (lv' := [(3, .int 3), (0, .ref h0), (1, .long 1)]) hx hb dX5_set_15 hl (k := 0) rfl (by decide) (by decide) rfl (fun ls hl => ?_)
  refine lv_goto (tgt := 2) hx hb dX5_set_18 (by decide) ?_
  refine lv_iload_n hx hb dX5_set_2 rfl (lv_at hl 0 rfl) ?_
  refine lv_bipush (v := 8) hx hb dX5_set_3 (by decide) ?_
  refine k_icmp_ge_f (tgt := 21) hx hb dX5_set_5 (by decide) (by decide) ?_
  refine lv_aload_n hx hb dX5_set_8 rfl (lv_at hl 1 rfl) ?_
  refine k_get (ci := 8) (C := RX5) (T := TX5) (N := 1) (v := .ref h1) hx hb hG inX5 hown hK hP 0 rfl rfl 0 (by decide) gw192 rfl dX5_set_9 ?_
  refine lv_iload_n hx hb dX5_set_12 rfl (lv_at hl 0 rfl) ?_
  refine lv_lconst (v := 0) hx hb dX5_set_13 (by decide) ?_
  refine k_last (ws1 := [(h0, .inr (8, [.ref h1])), (h1, .inl (cA 1, 8, .inr (.inl (vp_updL (vp_updL (fun _ => 0) 2 0) 3 0))))]) hx hb hK hP hD hS 1 rfl rfl (by unfold vp_in; decide) dX5_set_14 (fun H locs hP hD hS => ?_)
  refine lv_iinc (v := 4) (lv' := [(3, .int 4), (0, .ref h0), (1, .long 1)]) hx hb dX5_set_15 hl (k := 0) rfl (by decide) (by decide) rfl (fun ls hl => ?_)
  refine lv_goto (tgt := 2) hx hb dX5_set_18 (by decide) ?_
  refine lv_iload_n hx hb dX5_set_2 rfl (lv_at hl 0 rfl) ?_
  refine lv_bipush (v := 8) hx hb dX5_set_3 (by decide) ?_
  refine k_icmp_ge_f (tgt := 21) hx hb dX5_set_5 (by decide) (by decide) ?_
  refine lv_aload_n hx hb dX5_set_8 rfl (lv_at hl 1 rfl) ?_
  refine k_get (ci := 8) (C := RX5) (T := TX5) (N := 1) (v := .ref h1) hx hb hG inX5 hown hK hP 0 rfl rfl 0 (by decide) gw192 rfl dX5_set_9 ?_
  refine lv_iload_n hx hb dX5_set_12 rfl (lv_at hl 0 rfl) ?_
  refine lv_lconst (v := 0) hx hb dX5_set_13 (by decide) ?_
  refine k_last (ws1 := [(h0, .inr (8, [.ref h1])), (h1, .inl (cA 1, 8, .inr (.inl (vp_updL (vp_updL (vp_updL (fun _ => 0) 2 0) 3 0) 4 0))))]) hx hb hK hP hD hS 1 rfl rfl (by unfold vp_in; decide) dX5_set_14 (fun H locs hP hD hS => ?_)
  refine lv_iinc (v := 5) (lv' := [(3, .int 5), (0, .ref h0), (1, .long 1)]) hx hb dX5_set_15 hl (k := 0) rfl (by decide) (by decide) rfl (fun ls hl => ?_)
  refine lv_goto (tgt := 2) hx hb dX5_set_18 (by decide) ?_
  refine lv_iload_n hx hb dX5_set_2 rfl (lv_at hl 0 rfl) ?_
  refine lv_bipush (v := 8) hx hb dX5_set_3 (by decide) ?_
  refine k_icmp_ge_f (tgt := 21) hx hb dX5_set_5 (by decide) (by decide) ?_
  refine lv_aload_n hx hb dX5_set_8 rfl (lv_at hl 1 rfl) ?_
  refine k_get (ci := 8) (C := RX5) (T := TX5) (N := 1) (v := .ref h1) hx hb hG inX5 hown hK hP 0 rfl rfl 0 (by decide) gw192 rfl dX5_set_9 ?_
  refine lv_iload_n hx hb dX5_set_12 rfl (lv_at hl 0 rfl) ?_
  refine lv_lconst (v := 0) hx hb dX5_set_13 (by decide) ?_
  refine k_last (ws1 := [(h0, .inr (8, [.ref h1])), (h1, .inl (cA 1, 8, .inr (.inl (vp_updL (vp_updL (vp_updL (vp_updL (fun _ => 0) 2 0) 3 0) 4 0) 5 0))))]) hx hb hK hP hD hS 1 rfl rfl (by unfold vp_in; decide) dX5_set_14 (fun H locs hP hD hS => ?_)
  refine lv_iinc (v := 6) (lv' := [(3, .int 6), (0, .ref h0), (1, .long 1)]) hx hb dX5_set_15 hl (k := 0) rfl (by decide) (by decide) rfl (fun ls hl => ?_)
  refine lv_goto (tgt := 2) hx hb dX5_set_18 (by decide) ?_
  refine lv_iload_n hx hb dX5_set_2 rfl (lv_at hl 0 rfl) ?_
  refine lv_bipush (v := 8) hx hb dX5_set_3 (by decide) ?_
  refine k_icmp_ge_f (tgt := 21) hx hb dX5_set_5 (by decide) (by decide) ?_
  refine lv_aload_n hx hb dX5_set_8 rfl (lv_at hl 1 rfl) ?_
  refine k_get (ci := 8) (C := RX5) (T := TX5) (N := 1) (v := .ref h1) hx hb hG inX5 hown hK hP 0 rfl rfl 0 (by decide) gw192 rfl dX5_set_9 ?_
  refine lv_iload_n hx hb dX5_set_12 rfl (lv_at hl 0 rfl) ?_
  refine lv_lconst (v := 0) hx hb dX5_set_13 (by decide) ?_
  refine k_last (ws1 := [(h0, .inr (8, [.ref h1])), (h1, .inl (cA 1, 8, .inr (.inl (vp_updL (vp_updL (vp_updL (vp_updL (vp_updL (fun _ => 0) 2 0) 3 0) 4 0) 5 0) 6 0))))]) hx hb hK hP hD hS 1 rfl rfl (by unfold vp_in; decide) dX5_set_14 (fun H locs hP hD hS => ?_)
  refine lv_iinc (v := 7) (lv' := [(3, .int 7), (0, .ref h0), (1, .long 1)]) hx hb dX5_set_15 hl (k := 0) rfl (by decide) (by decide) rfl (fun ls hl => ?_)
  refine lv_goto (tgt := 2) hx hb dX5_set_18 (by decide) ?_
  refine lv_iload_n hx hb dX5_set_2 rfl (lv_at hl 0 rfl) ?_
  refine lv_bipush (v := 8) hx hb dX5_set_3 (by decide) ?_
  refine k_icmp_ge_f (tgt := 21) hx hb dX5_set_5 (by decide) (by decide) ?_
  refine lv_aload_n hx hb dX5_set_8 rfl (lv_at hl 1 rfl) ?_
  refine k_get (ci := 8) (C := RX5) (T := TX5) (N := 1) (v := .ref h1) hx hb hG inX5 hown hK hP 0 rfl rfl 0 (by decide) gw192 rfl dX5_set_9 ?_
  refine lv_iload_n hx hb dX5_set_12 rfl (lv_at hl 0 rfl) ?_
  refine lv_lconst (v := 0) hx hb dX5_set_13 (by decide) ?_
  refine k_last (ws1 := [(h0, .inr (8, [.ref h1])), (h1, .inl (cA 1, 8, .inr (.inl (vp_updL (vp_updL (vp_updL (vp_updL (vp_updL (vp_updL (fun _ => 0) 2 0) 3 0) 4 0) 5 0) 6 0) 7 0))))]) hx hb hK hP hD hS 1 rfl rfl (by unfold vp_in; decide) dX5_set_14 (fun H locs hP hD hS => ?_)
  refine lv_iinc (v := 8) (lv' := [(3, .int 8), (0, .ref h0), (1, .long 1)]) hx hb dX5_set_15 hl (k := 0) rfl (by decide) (by decide) rfl (fun ls hl => ?_)
  refine lv_goto (tgt := 2) hx hb dX5_set_18 (by decide) ?_
  refine lv_iload_n hx hb dX5_set_2 rfl (lv_at hl 0 rfl) ?_
  refine lv_bipush (v := 8) hx hb dX5_set_3 (by decide) ?_
  refine k_icmp_ge_t (tgt := 21) hx hb dX5_set_5 (by decide) (by decide) ?_
  refine lv_aload_n hx hb dX5_set_21 rfl (lv_at hl 1 rfl) ?_
  refine k_get (ci := 8) (C := RX5) (T := TX5) (N := 1) (v := .ref h1) hx hb hG inX5 hown hK hP 0 rfl rfl 0 (by decide) gw192 rfl dX5_set_22 ?_
  refine lv_iconst (v := 0) hx hb dX5_set_25 (by decide) ?_
  refine lv_lload_n hx hb dX5_set_26 rfl (lv_at hl 2 rfl) ?_
  refine lv_ldc2 hx hb hown (hG _ gw451) dX5_set_27 ?_
  refine k_land (v := 1) hx hb dX5_set_30 (by decide +kernel) ?_
  refine k_last (ws1 := [(h0, .inr (8, [.ref h1])), (h1, .inl (cA 1, 8, .inr (.inl (vp_updL (vp_updL (vp_updL (vp_updL (vp_updL (vp_updL (vp_updL (fun _ => 0) 2 0) 3 0) 4 0) 5 0) 6 0) 7 0) 0 1))))]) hx hb hK hP hD hS 1 rfl rfl (by unfold vp_in; decide) dX5_set_31 (fun H locs hP hD hS => ?_)
  refine lv_aload_n hx hb dX5_set_32 rfl (lv_at hl 1 rfl) ?_
  refine k_get (ci := 8) (C := RX5) (T := TX5) (N := 1) (v := .ref h1) hx hb hG inX5 hown hK hP 0 rfl rfl 0 (by decide) gw192 rfl dX5_set_33 ?_
  refine lv_iconst (v := 1) hx hb dX5_set_36 (by decide) ?_
  refine lv_lload_n hx hb dX5_set_37 rfl (lv_at hl 2 rfl) ?_
  refine lv_bipush (v := 32) hx hb dX5_set_38 (by decide) ?_
  refine lv_lushr (v := 0) hx hb dX5_set_40 (by decide +kernel) ?_
  refine k_last (ws1 := [(h0, .inr (8, [.ref h1])), (h1, .inl (cA 1, 8, .inr (.inl (vp_updL (vp_updL (vp_updL (vp_updL (vp_updL (vp_updL (vp_updL (vp_updL (fun _ => 0) 2 0) 3 0) 4 0) 5 0) 6 0) 7 0) 0 1) 1 0))))]) hx hb hK hP hD hS 1 rfl rfl (by unfold vp_in; decide) dX5_set_41 (fun H locs hP hD hS => ?_)
  exact e_v (fun _ => 0) hx hb hr hlocks rfl hP hD hS (Nat.le_of_ble_eq_true rfl) (Nat.le_of_ble_eq_true rfl) dX5_set_42
set_option maxHeartbeats 4000000 in
set_option maxRecDepth 100000 in
theorem c115_X1_findAmounts (l : Launch) (hfl : l.stackTraces = false) (D : va_G) (cA : Nat → ClassId) (g : gv_T) (h0 h1 h2 h3 h4 h5 h6 h7 h8 h9 h10 h11 h12 h13 h14 h15 h16 h17 h18 h19 h20 h21 h22 h23 h24 h25 h26 : Nat) : CT l yX1_findAmounts cX1_findAmounts 8 none (RM 1 0 0 23) D cA g [.ref h0, .ref h1] [(h0, .inr (4, [.int 0, .int 46, .long 1, .ref h2, .ref h3, .ref h4, .ref h5, .ref h6, .ref h7, .ref h8, .ref h9, .ref h10, .ref h11, .ref h12, .ref h13, .ref h14, .ref h15])), (h12, .inr (8, [.ref h16])), (h16, .inl (cA 1, 8, .inr (.inl (fun _ => 0)))), (h1, .inr (5, [.int 0, .int 0, .ref h17, .ref h18, .ref h19, .ref h20, .ref h21, .ref h22, .ref h23, .ref h24, .ref h25, .ref h26]))] (fun q => none) (fun q => [(h0, .inr (4, [.int 0, .int 46, .long 1, .ref h2, .ref h3, .ref h4, .ref h5, .ref h6, .ref h7, .ref h8, .ref h9, .ref h10, .ref h11, .ref h12, .ref h13, .ref h14, .ref h15])), (h12, .inr (8, [.ref h16])), (h16, .inl (cA 1, 8, .inr (.inl (vp_updL (vp_updL (vp_updL (vp_updL (vp_updL (vp_updL (vp_updL (vp_updL (fun _ => 0) 2 0) 3 0) 4 0) 5 0) 6 0) 7 0) 0 1) 1 0)))), (h1, .inr (5, [.int 0, .int 0, .ref h17, .ref h18, .ref h19, .ref h20, .ref h21, .ref h22, .ref h23, .ref h24, .ref h25, .ref h26]))]) := by
  refine CT.of (by decide +kernel) (Nat.le_of_ble_eq_true rfl) ?_
  intro p e s m args below meth c A ls hx hb hr hml hown hG hlocks hnm hA hS hP hK hD hGV hl
  have hown : s.vm.findClass RX1 = some m.cls := hown
  have hl : lv_has ls 8 [(0, .ref h0), (1, .ref h1)] := hl
  have hSF : CF p m c cX1_findAmounts 8 s args RX1 := ⟨hx, hb, hml, hown, hG⟩
  refine lv_aload_n hx hb dX1_findAmounts_0 rfl (lv_at hl 0 rfl) ?_
  refine k_get (ci := 4) (C := RX1) (T := TX1) (N := 17) (v := .ref h12) hx hb hG inX1 hown hK hP 0 rfl rfl 13 (by decide) gw213 rfl dX1_findAmounts_1 ?_
  refine lv_aload_n hx hb dX1_findAmounts_4 rfl (lv_at hl 0 rfl) ?_
  refine k_get (ci := 4) (C := RX1) (T := TX1) (N := 17) (v := .long 1) hx hb hG inX1 hown hK hP 0 rfl rfl 2 (by decide) gw201 rfl dX1_findAmounts_5 ?_
  refine ct_V (wr := [(h0, .inr (4, [.int 0, .int 46, .long 1, .ref h2, .ref h3, .ref h4, .ref h5, .ref h6, .ref h7, .ref h8, .ref h9, .ref h10, .ref h11, .ref h12, .ref h13, .ref h14, .ref h15])), (h1, .inr (5, [.int 0, .int 0, .ref h17, .ref h18, .ref h19, .ref h20, .ref h21, .ref h22, .ref h23, .ref h24, .ref h25, .ref h26]))]) hSF hl.1 hP hD hS hA hK hGV (c114_X5_set l hfl D cA g h12 h16) goV_X1_141 pd_X5_set ⟨(Nat.le_of_ble_eq_true rfl), (Nat.le_of_ble_eq_true rfl)⟩ ⟨(Nat.le_of_ble_eq_true rfl), (Nat.le_of_ble_eq_true rfl)⟩ (va_recv hK hP (ci := 8) (q0 := 1) rfl rfl) dX1_findAmounts_8 rfl (Nat.le_of_ble_eq_true rfl) [1, 2] [0, 3] rfl (by decide) rfl (by decide) (by decide) (fun q => [(h0, .inr (4, [.int 0, .int 46, .long 1, .ref h2, .ref h3, .ref h4, .ref h5, .ref h6, .ref h7, .ref h8, .ref h9, .ref h10, .ref h11, .ref h12, .ref h13, .ref h14, .ref h15])), (h1, .inr (5, [.int 0, .int 0, .ref h17, .ref h18, .ref h19, .ref h20, .ref h21, .ref h22, .ref h23, .ref h24, .ref h25, .ref h26])), (h12, .inr (8, [.ref h16])), (h16, .inl (cA 1, 8, .inr (.inl (vp_updL (vp_updL (vp_updL (vp_updL (vp_updL (vp_updL (vp_updL (vp_updL (fun _ => 0) 2 0) 3 0) 4 0) 5 0) 6 0) 7 0) 0 1) 1 0))))]) (fun _ => rfl) (fun q1 H locs hP hD hS => ?_)
  refine W.eq (g2 := F0 m 11 ls []) rfl ?_
  refine lv_iconst (v := 0) hx hb dX1_findAmounts_11 (by decide) ?_
  refine lv_istore_n (lv' := [(2, .int 0), (0, .ref h0), (1, .ref h1)]) hx hb dX1_findAmounts_12 rfl hl (by decide) rfl (fun ls hl => ?_)
  refine lv_iload_n hx hb dX1_findAmounts_13 rfl (lv_at hl 0 rfl) ?_
  refine lv_aload_n hx hb dX1_findAmounts_14 rfl (lv_at hl 2 rfl) ?_
  refine k_get (ci := 5) (C := RX2) (T := TX2) (N := 12) (v := .int 0) hx hb hG inX2 hown hK hP 1 rfl rfl 1 (by decide) gw133 rfl dX1_findAmounts_15 ?_
  refine k_icmp_ge_t (tgt := 98) hx hb dX1_findAmounts_18 (by decide) (by decide) ?_
  exact e_v (fun _ => 0) hx hb hr hlocks rfl (hP.sub [0, 2, 3, 1] rfl) (hD.sub [0, 2, 3, 1] (by decide) rfl) hS (Nat.le_of_ble_eq_true rfl) (Nat.le_of_ble_eq_true rfl) dX1_findAmounts_98
set_option maxHeartbeats 4000000 in
set_option maxRecDepth 100000 in
theorem c116_X1_find (l : Launch) (hfl : l.stackTraces = false) (D : va_G) (cA : Nat → ClassId) (g : gv_T) (h0 h1 h2 h3 h4 h5 h6 h7 h8 h9 h10 h11 h12 h13 h14 h15 h16 h17 h18 h19 h20 h21 h22 h23 h24 h25 h26 : Nat) : CT l yX1_find cX1_find 2 none (RM 3 0 0 69) D cA g [.ref h0, .ref h1] [(h0, .inr (4, [.int 0, .int 0, .long 0, .ref h2, .ref h3, .ref h4, .ref h5, .ref h6, .ref h7, .ref h8, .ref h9, .ref h10, .ref h11, .ref h12, .ref h13, .ref h14, .ref h15])), (h1, .inr (5, [.int 0, .int 0, .ref h16, .ref h17, .ref h18, .ref h19, .ref h20, .ref h21, .ref h22, .ref h23, .ref h24, .ref h25])), (h8, .inl (cA 1, 512, .inr (.inl (fun _ => 0)))), (h12, .inr (8, [.ref h26])), (h26, .inl (cA 1, 8, .inr (.inl (fun _ => 0))))] (fun q => none) (fun q => [(h0, .inr (4, [.int 1, .int 46, .long 1, .ref h2, .ref h3, .ref h4, .ref h5, .ref h6, .ref h7, .ref h8, .ref h9, .ref h10, .ref h11, .ref h12, .ref h13, .ref h14, .ref h15])), (h1, .inr (5, [.int 0, .int 0, .ref h16, .ref h17, .ref h18, .ref h19, .ref h20, .ref h21, .ref h22, .ref h23, .ref h24, .ref h25])), (h8, .inl (cA 1, 512, .inr (.inl (vp_updL (fun _ => 0) 0 1)))), (h12, .inr (8, [.ref h26])), (h26, .inl (cA 1, 8, .inr (.inl (vp_updL (vp_updL (vp_updL (vp_updL (vp_updL (vp_updL (vp_updL (vp_updL (fun _ => 0) 2 0) 3 0) 4 0) 5 0) 6 0) 7 0) 0 1) 1 0))))]) := by
  refine CT.of (by decide +kernel) (Nat.le_of_ble_eq_true rfl) ?_
  intro p e s m args below meth c A ls hx hb hr hml hown hG hlocks hnm hA hS hP hK hD hGV hl
  have hown : s.vm.findClass RX1 = some m.cls := hown
  have hl : lv_has ls 2 [(0, .ref h0), (1, .ref h1)] := hl
  have hSF : CF p m c cX1_find 2 s args RX1 := ⟨hx, hb, hml, hown, hG⟩
  refine lv_aload_n hx hb dX1_find_0 rfl (lv_at hl 0 rfl) ?_
  refine k_get (ci := 4) (C := RX1) (T := TX1) (N := 17) (v := .int 0) hx hb hG inX1 hown hK hP 0 rfl rfl 0 (by decide) gw198 rfl dX1_find_1 ?_
  refine k_if_eq_t (tgt := 8) hx hb dX1_find_4 (by decide) (by decide) ?_
  refine lv_aload_n hx hb dX1_find_8 rfl (lv_at hl 0 rfl) ?_
  refine lv_aload_n hx hb dX1_find_9 rfl (lv_at hl 0 rfl) ?_
  refine lv_aload_n hx hb dX1_find_10 rfl (lv_at hl 1 rfl) ?_
  refine ct_V (wr := [(h12, .inr (8, [.ref h26])), (h26, .inl (cA 1, 8, .inr (.inl (fun _ => 0))))]) hSF hl.1 hP hD hS hA hK hGV (c112_X1_findPulls l hfl D cA g h0 h1 h16 h17 h18 h19 h20 h21 h22 h23 h24 h25 h2 h3 h4 h5 h6 h7 h8 h9 h10 h11 h12 h13 h14 h15) goV_X1_63 pd_X1_findPulls ⟨(Nat.le_of_ble_eq_true rfl), (Nat.le_of_ble_eq_true rfl)⟩ ⟨(Nat.le_of_ble_eq_true rfl), (Nat.le_of_ble_eq_true rfl)⟩ (va_recv hK hP (ci := 4) (q0 := 0) rfl rfl) dX1_find_11 rfl (Nat.le_of_ble_eq_true rfl) [1, 0, 2] [3, 4] rfl (by decide) rfl (by decide) (by decide) (fun q => [(h12, .inr (8, [.ref h26])), (h26, .inl (cA 1, 8, .inr (.inl (fun _ => 0)))), (h1, .inr (5, [.int 0, .int 0, .ref h16, .ref h17, .ref h18, .ref h19, .ref h20, .ref h21, .ref h22, .ref h23, .ref h24, .ref h25])), (h0, .inr (4, [.int 0, .int 0, .long 1, .ref h2, .ref h3, .ref h4, .ref h5, .ref h6, .ref h7, .ref h8, .ref h9, .ref h10, .ref h11, .ref h12, .ref h13, .ref h14, .ref h15])), (h8, .inl (cA 1, 512, .inr (.inl (vp_updL (fun _ => 0) 0 1))))]) (fun _ => rfl) (fun q1 H locs hP hD hS => ?_)
  refine W.eq (g2 := F0 m 14 ls [.int 46, .ref h0]) rfl ?_
  refine k_put (ci := 4) (C := RX1) (T := TX1) (N := 17) (v := .int 46) (ws1 := [(h12, .inr (8, [.ref h26])), (h26, .inl (cA 1, 8, .inr (.inl (fun _ => 0)))), (h1, .inr (5, [.int 0, .int 0, .ref h16, .ref h17, .ref h18, .ref h19, .ref h20, .ref h21, .ref h22, .ref h23, .ref h24, .ref h25])), (h0, .inr (4, [.int 0, .int 46, .long 1, .ref h2, .ref h3, .ref h4, .ref h5, .ref h6, .ref h7, .ref h8, .ref h9, .ref h10, .ref h11, .ref h12, .ref h13, .ref h14, .ref h15])), (h8, .inl (cA 1, 512, .inr (.inl (vp_updL (fun _ => 0) 0 1))))]) hx hb hG inX1 tyX1 tyX1_ok nmX1 hown hK hP hD hS 3 rfl rfl 1 (by decide) gw199 rfl ⟨rfl, rfl⟩ rfl (Nat.le_of_ble_eq_true rfl) dX1_find_14 (fun H locs hP hD hS => ?_)
  refine lv_aload_n hx hb dX1_find_17 rfl (lv_at hl 0 rfl) ?_
  refine k_get (ci := 4) (C := RX1) (T := TX1) (N := 17) (v := .int 46) hx hb hG inX1 hown hK hP 3 rfl rfl 1 (by decide) gw199 rfl dX1_find_18 ?_
  refine lv_bipush (v := 46) hx hb dX1_find_21 (by decide) ?_
  refine k_icmp_ne_f (tgt := 36) hx hb dX1_find_23 (by decide) (by decide) ?_
  refine lv_aload_n hx hb dX1_find_26 rfl (lv_at hl 0 rfl) ?_
  refine lv_aload_n hx hb dX1_find_27 rfl (lv_at hl 1 rfl) ?_
  refine ct_V (wr := [(h12, .inr (8, [.ref h26])), (h26, .inl (cA 1, 8, .inr (.inl (fun _ => 0)))), (h0, .inr (4, [.int 0, .int 46, .long 1, .ref h2, .ref h3, .ref h4, .ref h5, .ref h6, .ref h7, .ref h8, .ref h9, .ref h10, .ref h11, .ref h12, .ref h13, .ref h14, .ref h15])), (h8, .inl (cA 1, 512, .inr (.inl (vp_updL (fun _ => 0) 0 1))))]) hSF hl.1 hP hD hS hA hK hGV (c113_X1_findBearings l hfl D cA g h0 h1 h16 h17 h18 h19 h20 h21 h22 h23 h24 h25) goV_X1_71 pd_X1_findBearings ⟨(Nat.le_of_ble_eq_true rfl), (Nat.le_of_ble_eq_true rfl)⟩ ⟨(Nat.le_of_ble_eq_true rfl), (Nat.le_of_ble_eq_true rfl)⟩ (va_recv hK hP (ci := 4) (q0 := 3) rfl rfl) dX1_find_28 rfl (Nat.le_of_ble_eq_true rfl) [2] [0, 1, 3, 4] rfl (by decide) rfl (by decide) (by decide) (fun q => [(h12, .inr (8, [.ref h26])), (h26, .inl (cA 1, 8, .inr (.inl (fun _ => 0)))), (h0, .inr (4, [.int 0, .int 46, .long 1, .ref h2, .ref h3, .ref h4, .ref h5, .ref h6, .ref h7, .ref h8, .ref h9, .ref h10, .ref h11, .ref h12, .ref h13, .ref h14, .ref h15])), (h8, .inl (cA 1, 512, .inr (.inl (vp_updL (fun _ => 0) 0 1)))), (h1, .inr (5, [.int 0, .int 0, .ref h16, .ref h17, .ref h18, .ref h19, .ref h20, .ref h21, .ref h22, .ref h23, .ref h24, .ref h25]))]) (fun _ => rfl) (fun q2 H locs hP hD hS => ?_)
  refine W.eq (g2 := F0 m 31 ls []) rfl ?_
  refine lv_aload_n hx hb dX1_find_31 rfl (lv_at hl 0 rfl) ?_
  refine lv_aload_n hx hb dX1_find_32 rfl (lv_at hl 1 rfl) ?_
  refine ct_V (wr := [(h8, .inl (cA 1, 512, .inr (.inl (vp_updL (fun _ => 0) 0 1))))]) hSF hl.1 hP hD hS hA hK hGV (c115_X1_findAmounts l hfl D cA g h0 h1 h2 h3 h4 h5 h6 h7 h8 h9 h10 h11 h12 h13 h14 h15 h26 h16 h17 h18 h19 h20 h21 h22 h23 h24 h25) goV_X1_75 pd_X1_findAmounts ⟨(Nat.le_of_ble_eq_true rfl), (Nat.le_of_ble_eq_true rfl)⟩ ⟨(Nat.le_of_ble_eq_true rfl), (Nat.le_of_ble_eq_true rfl)⟩ (va_recv hK hP (ci := 4) (q0 := 2) rfl rfl) dX1_find_33 rfl (Nat.le_of_ble_eq_true rfl) [2, 0, 1, 4] [3] rfl (by decide) rfl (by decide) (by decide) (fun q => [(h8, .inl (cA 1, 512, .inr (.inl (vp_updL (fun _ => 0) 0 1)))), (h0, .inr (4, [.int 0, .int 46, .long 1, .ref h2, .ref h3, .ref h4, .ref h5, .ref h6, .ref h7, .ref h8, .ref h9, .ref h10, .ref h11, .ref h12, .ref h13, .ref h14, .ref h15])), (h12, .inr (8, [.ref h26])), (h26, .inl (cA 1, 8, .inr (.inl (vp_updL (vp_updL (vp_updL (vp_updL (vp_updL (vp_updL (vp_updL (vp_updL (fun _ => 0) 2 0) 3 0) 4 0) 5 0) 6 0) 7 0) 0 1) 1 0)))), (h1, .inr (5, [.int 0, .int 0, .ref h16, .ref h17, .ref h18, .ref h19, .ref h20, .ref h21, .ref h22, .ref h23, .ref h24, .ref h25]))]) (fun _ => rfl) (fun q3 H locs hP hD hS => ?_)
  refine W.eq (g2 := F0 m 36 ls []) rfl ?_
  refine lv_aload_n hx hb dX1_find_36 rfl (lv_at hl 0 rfl) ?_
  refine lv_iconst (v := 1) hx hb dX1_find_37 (by decide) ?_
  refine k_put (ci := 4) (C := RX1) (T := TX1) (N := 17) (v := .int 1) (ws1 := [(h8, .inl (cA 1, 512, .inr (.inl (vp_updL (fun _ => 0) 0 1)))), (h0, .inr (4, [.int 1, .int 46, .long 1, .ref h2, .ref h3, .ref h4, .ref h5, .ref h6, .ref h7, .ref h8, .ref h9, .ref h10, .ref h11, .ref h12, .ref h13, .ref h14, .ref h15])), (h12, .inr (8, [.ref h26])), (h26, .inl (cA 1, 8, .inr (.inl (vp_updL (vp_updL (vp_updL (vp_updL (vp_updL (vp_updL (vp_updL (vp_updL (fun _ => 0) 2 0) 3 0) 4 0) 5 0) 6 0) 7 0) 0 1) 1 0)))), (h1, .inr (5, [.int 0, .int 0, .ref h16, .ref h17, .ref h18, .ref h19, .ref h20, .ref h21, .ref h22, .ref h23, .ref h24, .ref h25]))]) hx hb hG inX1 tyX1 tyX1_ok nmX1 hown hK hP hD hS 1 rfl rfl 0 (by decide) gw198 rfl ⟨rfl, rfl⟩ rfl (Nat.le_of_ble_eq_true rfl) dX1_find_38 (fun H locs hP hD hS => ?_)
  exact e_v (fun _ => 0) hx hb hr hlocks rfl (hP.sub [1, 4, 0, 2, 3] rfl) (hD.sub [1, 4, 0, 2, 3] (by decide) rfl) hS (Nat.le_of_ble_eq_true rfl) (Nat.le_of_ble_eq_true rfl) dX1_find_41
set_option maxHeartbeats 4000000 in
set_option maxRecDepth 100000 in
theorem c117_X6_state (l : Launch) (hfl : l.stackTraces = false) (D : va_G) (cA : Nat → ClassId) (g : gv_T) (h0 h1 h2 h3 h4 h5 h6 h7 h8 h9 h10 h11 h12 h13 h14 h15 h16 h17 h18 h19 h20 h21 h22 h23 h24 h25 h26 h27 h28 h29 h30 : Nat) : CT l yX6_state cX6_state 1 (some .char) (RM 4 0 0 90) D cA g [.ref h0] [(h0, .inr (9, [.ref h1, .ref h2, .ref h3, .ref h4, .ref h5])), (h2, .inr (4, [.int 0, .int 0, .long 0, .ref h6, .ref h7, .ref h8, .ref h9, .ref h10, .ref h11, .ref h12, .ref h13, .ref h14, .ref h15, .ref h16, .ref h17, .ref h18, .ref h19])), (h1, .inr (5, [.int 0, .int 0, .ref h20, .ref h21, .ref h22, .ref h23, .ref h24, .ref h25, .ref h26, .ref h27, .ref h28, .ref h29])), (h12, .inl (cA 1, 512, .inr (.inl (fun _ => 0)))), (h16, .inr (8, [.ref h30])), (h30, .inl (cA 1, 8, .inr (.inl (fun _ => 0))))] (fun q => some (.int 46)) (fun q => [(h0, .inr (9, [.ref h1, .ref h2, .ref h3, .ref h4, .ref h5])), (h2, .inr (4, [.int 1, .int 46, .long 1, .ref h6, .ref h7, .ref h8, .ref h9, .ref h10, .ref h11, .ref h12, .ref h13, .ref h14, .ref h15, .ref h16, .ref h17, .ref h18, .ref h19])), (h1, .inr (5, [.int 0, .int 0, .ref h20, .ref h21, .ref h22, .ref h23, .ref h24, .ref h25, .ref h26, .ref h27, .ref h28, .ref h29])), (h12, .inl (cA 1, 512, .inr (.inl (vp_updL (fun _ => 0) 0 1)))), (h16, .inr (8, [.ref h30])), (h30, .inl (cA 1, 8, .inr (.inl (vp_updL (vp_updL (vp_updL (vp_updL (vp_updL (vp_updL (vp_updL (vp_updL (fun _ => 0) 2 0) 3 0) 4 0) 5 0) 6 0) 7 0) 0 1) 1 0))))]) := by
  refine CT.of (by decide +kernel) (Nat.le_of_ble_eq_true rfl) ?_
  intro p e s m args below meth c A ls hx hb hr hml hown hG hlocks hnm hA hS hP hK hD hGV hl
  have hown : s.vm.findClass RX6 = some m.cls := hown
  have hl : lv_has ls 1 [(0, .ref h0)] := hl
  have hSF : CF p m c cX6_state 1 s args RX6 := ⟨hx, hb, hml, hown, hG⟩
  refine lv_aload_n hx hb dX6_state_0 rfl (lv_at hl 0 rfl) ?_
  refine k_get (ci := 9) (C := RX6) (T := TX6) (N := 5) (v := .ref h2) hx hb hG inX6 hown hK hP 0 rfl rfl 1 (by decide) gw364 rfl dX6_state_1 ?_
  refine lv_aload_n hx hb dX6_state_4 rfl (lv_at hl 0 rfl) ?_
  refine k_get (ci := 9) (C := RX6) (T := TX6) (N := 5) (v := .ref h1) hx hb hG inX6 hown hK hP 0 rfl rfl 0 (by decide) gw363 rfl dX6_state_5 ?_
  refine ct_V (wr := [(h0, .inr (9, [.ref h1, .ref h2, .ref h3, .ref h4, .ref h5]))]) hSF hl.1 hP hD hS hA hK hGV (c116_X1_find l hfl D cA g h2 h1 h6 h7 h8 h9 h10 h11 h12 h13 h14 h15 h16 h17 h18 h19 h20 h21 h22 h23 h24 h25 h26 h27 h28 h29 h30) goV_X6_110 pd_X1_find ⟨(Nat.le_of_ble_eq_true rfl), (Nat.le_of_ble_eq_true rfl)⟩ ⟨(Nat.le_of_ble_eq_true rfl), (Nat.le_of_ble_eq_true rfl)⟩ (va_recv hK hP (ci := 4) (q0 := 1) rfl rfl) dX6_state_8 rfl (Nat.le_of_ble_eq_true rfl) [1, 2, 3, 4, 5] [0] rfl (by decide) rfl (by decide) (by decide) (fun q => [(h0, .inr (9, [.ref h1, .ref h2, .ref h3, .ref h4, .ref h5])), (h2, .inr (4, [.int 1, .int 46, .long 1, .ref h6, .ref h7, .ref h8, .ref h9, .ref h10, .ref h11, .ref h12, .ref h13, .ref h14, .ref h15, .ref h16, .ref h17, .ref h18, .ref h19])), (h1, .inr (5, [.int 0, .int 0, .ref h20, .ref h21, .ref h22, .ref h23, .ref h24, .ref h25, .ref h26, .ref h27, .ref h28, .ref h29])), (h12, .inl (cA 1, 512, .inr (.inl (vp_updL (fun _ => 0) 0 1)))), (h16, .inr (8, [.ref h30])), (h30, .inl (cA 1, 8, .inr (.inl (vp_updL (vp_updL (vp_updL (vp_updL (vp_updL (vp_updL (vp_updL (vp_updL (fun _ => 0) 2 0) 3 0) 4 0) 5 0) 6 0) 7 0) 0 1) 1 0))))]) (fun _ => rfl) (fun q1 H locs hP hD hS => ?_)
  refine W.eq (g2 := F0 m 11 ls []) rfl ?_
  refine lv_aload_n hx hb dX6_state_11 rfl (lv_at hl 0 rfl) ?_
  refine k_get (ci := 9) (C := RX6) (T := TX6) (N := 5) (v := .ref h2) hx hb hG inX6 hown hK hP 0 rfl rfl 1 (by decide) gw364 rfl dX6_state_12 ?_
  refine k_get (ci := 4) (C := RX1) (T := TX1) (N := 17) (v := .int 46) hx hb hG inX1 hown hK hP 1 rfl rfl 1 (by decide) gw200 rfl dX6_state_15 ?_
  exact e_i (fun _ => 0) hx hb hr hlocks rfl rfl hP hD hS (Nat.le_of_ble_eq_true rfl) (Nat.le_of_ble_eq_true rfl) dX6_state_18
set_option maxHeartbeats 4000000 in
set_option maxRecDepth 100000 in
theorem c118_X12_unknowns (l : Launch) (hfl : l.stackTraces = false) (D : va_G) (cA : Nat → ClassId) (g : gv_T) (h0 h1 h2 h3 h4 h5 h6 h7 h8 h9 h10 h11 h12 h13 h14 h15 h16 h17 h18 : Nat) : CT l yX12_unknowns cX12_unknowns 3 (some .int) (RM 1 0 0 20) D cA g [.ref h0] [(h0, .inr (15, [.ref h1, .ref h2, .ref h3, .ref h4, .ref h5, .ref h6, .ref h7, .ref h8, .ref h9, .ref h10, .ref h11, .ref h12, .ref h13, .ref h14, .ref h15, .ref h16, .ref h17, .ref h18, .long 0, .int 0, .int 2, .int 0, .int 1, .int 0, .int 0, .int 0, .int 0])), (h2, .inr (2, [.int 0, .ref g.1, .int 0])), (h1, .inr (2, [.int 0, .ref g.1, .int 0]))] (fun q => some (.int 0)) (fun q => [(h0, .inr (15, [.ref h1, .ref h2, .ref h3, .ref h4, .ref h5, .ref h6, .ref h7, .ref h8, .ref h9, .ref h10, .ref h11, .ref h12, .ref h13, .ref h14, .ref h15, .ref h16, .ref h17, .ref h18, .long 0, .int 0, .int 2, .int 0, .int 1, .int 0, .int 0, .int 0, .int 0])), (h2, .inr (2, [.int 0, .ref g.1, .int 0])), (h1, .inr (2, [.int 0, .ref g.1, .int 0]))]) := by
  refine CT.of (by decide +kernel) (Nat.le_of_ble_eq_true rfl) ?_
  intro p e s m args below meth c A ls hx hb hr hml hown hG hlocks hnm hA hS hP hK hD hGV hl
  have hown : s.vm.findClass RX12 = some m.cls := hown
  have hl : lv_has ls 3 [(0, .ref h0)] := hl
  have hSF : CF p m c cX12_unknowns 3 s args RX12 := ⟨hx, hb, hml, hown, hG⟩
  refine lv_aload_n hx hb dX12_unknowns_0 rfl (lv_at hl 0 rfl) ?_
  refine k_get (ci := 15) (C := RX12) (T := TX12) (N := 27) (v := .ref h2) hx hb hG inX12 hown hK hP 0 rfl rfl 1 (by decide) gw1220 rfl dX12_unknowns_1 ?_
  refine ct_V (wr := [(h0, .inr (15, [.ref h1, .ref h2, .ref h3, .ref h4, .ref h5, .ref h6, .ref h7, .ref h8, .ref h9, .ref h10, .ref h11, .ref h12, .ref h13, .ref h14, .ref h15, .ref h16, .ref h17, .ref h18, .long 0, .int 0, .int 2, .int 0, .int 1, .int 0, .int 0, .int 0, .int 0])), (h1, .inr (2, [.int 0, .ref g.1, .int 0]))]) hSF hl.1 hP hD hS hA hK hGV (c56_Jx4a65c_size_8abf5 l hfl D cA g h2) goV_X12_125 pd_Jx4a65c_size_8abf5 ⟨(Nat.le_of_ble_eq_true rfl), (Nat.le_of_ble_eq_true rfl)⟩ ⟨(Nat.le_of_ble_eq_true rfl), (Nat.le_of_ble_eq_true rfl)⟩ (va_recv hK hP (ci := 2) (q0 := 1) rfl rfl) dX12_unknowns_4 rfl (Nat.le_of_ble_eq_true rfl) [1] [0, 2] rfl (by decide) rfl (by decide) (by decide) (fun q => [(h0, .inr (15, [.ref h1, .ref h2, .ref h3, .ref h4, .ref h5, .ref h6, .ref h7, .ref h8, .ref h9, .ref h10, .ref h11, .ref h12, .ref h13, .ref h14, .ref h15, .ref h16, .ref h17, .ref h18, .long 0, .int 0, .int 2, .int 0, .int 1, .int 0, .int 0, .int 0, .int 0])), (h1, .inr (2, [.int 0, .ref g.1, .int 0])), (h2, .inr (2, [.int 0, .ref g.1, .int 0]))]) (fun _ => rfl) (fun q1 H locs hP hD hS => ?_)
  refine W.eq (g2 := F0 m 7 ls [.int 0]) rfl ?_
  refine lv_istore_n (lv' := [(1, .int 0), (0, .ref h0)]) hx hb dX12_unknowns_7 rfl hl (by decide) rfl (fun ls hl => ?_)
  refine lv_iconst (v := 0) hx hb dX12_unknowns_8 (by decide) ?_
  refine lv_istore_n (lv' := [(2, .int 0), (1, .int 0), (0, .ref h0)]) hx hb dX12_unknowns_9 rfl hl (by decide) rfl (fun ls hl => ?_)
  refine lv_iload_n hx hb dX12_unknowns_10 rfl (lv_at hl 0 rfl) ?_
  refine lv_aload_n hx hb dX12_unknowns_11 rfl (lv_at hl 2 rfl) ?_
  refine k_get (ci := 15) (C := RX12) (T := TX12) (N := 27) (v := .ref h1) hx hb hG inX12 hown hK hP 0 rfl rfl 0 (by decide) gw1219 rfl dX12_unknowns_12 ?_
  refine ct_V (wr := [(h0, .inr (15, [.ref h1, .ref h2, .ref h3, .ref h4, .ref h5, .ref h6, .ref h7, .ref h8, .ref h9, .ref h10, .ref h11, .ref h12, .ref h13, .ref h14, .ref h15, .ref h16, .ref h17, .ref h18, .long 0, .int 0, .int 2, .int 0, .int 1, .int 0, .int 0, .int 0, .int 0])), (h2, .inr (2, [.int 0, .ref g.1, .int 0]))]) hSF hl.1 hP hD hS hA hK hGV (c56_Jx4a65c_size_8abf5 l hfl D cA g h1) goV_X12_125 pd_Jx4a65c_size_8abf5 ⟨(Nat.le_of_ble_eq_true rfl), (Nat.le_of_ble_eq_true rfl)⟩ ⟨(Nat.le_of_ble_eq_true rfl), (Nat.le_of_ble_eq_true rfl)⟩ (va_recv hK hP (ci := 2) (q0 := 1) rfl rfl) dX12_unknowns_15 rfl (Nat.le_of_ble_eq_true rfl) [1] [0, 2] rfl (by decide) rfl (by decide) (by decide) (fun q => [(h0, .inr (15, [.ref h1, .ref h2, .ref h3, .ref h4, .ref h5, .ref h6, .ref h7, .ref h8, .ref h9, .ref h10, .ref h11, .ref h12, .ref h13, .ref h14, .ref h15, .ref h16, .ref h17, .ref h18, .long 0, .int 0, .int 2, .int 0, .int 1, .int 0, .int 0, .int 0, .int 0])), (h2, .inr (2, [.int 0, .ref g.1, .int 0])), (h1, .inr (2, [.int 0, .ref g.1, .int 0]))]) (fun _ => rfl) (fun q2 H locs hP hD hS => ?_)
  refine W.eq (g2 := F0 m 18 ls [.int 0, .int 0]) rfl ?_
  refine k_icmp_ge_t (tgt := 77) hx hb dX12_unknowns_18 (by decide) (by decide) ?_
  refine lv_iload_n hx hb dX12_unknowns_77 rfl (lv_at hl 1 rfl) ?_
  exact e_i (fun _ => 0) hx hb hr hlocks rfl rfl hP hD hS (Nat.le_of_ble_eq_true rfl) (Nat.le_of_ble_eq_true rfl) dX12_unknowns_78
set_option maxHeartbeats 4000000 in
set_option maxRecDepth 100000 in
theorem c119_X12_determinant (l : Launch) (hfl : l.stackTraces = false) (D : va_G) (cA : Nat → ClassId) (g : gv_T) (h0 h1 h2 h3 h4 h5 h6 h7 h8 h9 h10 h11 h12 h13 h14 h15 h16 h17 h18 : Nat) : CT l yX12_determinant cX12_determinant 6 (some .long) (RM 1 0 0 20) D cA g [.ref h0, .int (-1)] [(h0, .inr (15, [.ref h1, .ref h2, .ref h3, .ref h4, .ref h5, .ref h6, .ref h7, .ref h8, .ref h9, .ref h10, .ref h11, .ref h12, .ref h13, .ref h14, .ref h15, .ref h16, .ref h17, .ref h18, .long 0, .int 0, .int 2, .int 0, .int 1, .int 0, .int 0, .int 0, .int 46])), (h2, .inr (2, [.int 0, .ref g.1, .int 0])), (h5, .inl (cA 1, 512, .inr (.inl (fun _ => 0)))), (h1, .inr (2, [.int 0, .ref g.1, .int 0]))] (fun q => some (.long 1)) (fun q => [(h0, .inr (15, [.ref h1, .ref h2, .ref h3, .ref h4, .ref h5, .ref h6, .ref h7, .ref h8, .ref h9, .ref h10, .ref h11, .ref h12, .ref h13, .ref h14, .ref h15, .ref h16, .ref h17, .ref h18, .long 0, .int 0, .int 2, .int 0, .int 1, .int 0, .int 0, .int 0, .int 46])), (h2, .inr (2, [.int 0, .ref g.1, .int 0])), (h5, .inl (cA 1, 512, .inr (.inl (vp_updL (vp_updL (fun _ => 0) 0 0) 0 1)))), (h1, .inr (2, [.int 0, .ref g.1, .int 0]))]) := by
  refine CT.of (by decide +kernel) (Nat.le_of_ble_eq_true rfl) ?_
  intro p e s m args below meth c A ls hx hb hr hml hown hG hlocks hnm hA hS hP hK hD hGV hl
  have hown : s.vm.findClass RX12 = some m.cls := hown
  have hl : lv_has ls 6 [(0, .ref h0), (1, .int (-1))] := hl
  have hSF : CF p m c cX12_determinant 6 s args RX12 := ⟨hx, hb, hml, hown, hG⟩
  refine lv_aload_n hx hb dX12_determinant_0 rfl (lv_at hl 0 rfl) ?_
  refine k_get (ci := 15) (C := RX12) (T := TX12) (N := 27) (v := .ref h2) hx hb hG inX12 hown hK hP 0 rfl rfl 1 (by decide) gw1220 rfl dX12_determinant_1 ?_
  refine ct_V (wr := [(h0, .inr (15, [.ref h1, .ref h2, .ref h3, .ref h4, .ref h5, .ref h6, .ref h7, .ref h8, .ref h9, .ref h10, .ref h11, .ref h12, .ref h13, .ref h14, .ref h15, .ref h16, .ref h17, .ref h18, .long 0, .int 0, .int 2, .int 0, .int 1, .int 0, .int 0, .int 0, .int 46])), (h5, .inl (cA 1, 512, .inr (.inl (fun _ => 0)))), (h1, .inr (2, [.int 0, .ref g.1, .int 0]))]) hSF hl.1 hP hD hS hA hK hGV (c56_Jx4a65c_size_8abf5 l hfl D cA g h2) goV_X12_125 pd_Jx4a65c_size_8abf5 ⟨(Nat.le_of_ble_eq_true rfl), (Nat.le_of_ble_eq_true rfl)⟩ ⟨(Nat.le_of_ble_eq_true rfl), (Nat.le_of_ble_eq_true rfl)⟩ (va_recv hK hP (ci := 2) (q0 := 1) rfl rfl) dX12_determinant_4 rfl (Nat.le_of_ble_eq_true rfl) [1] [0, 2, 3] rfl (by decide) rfl (by decide) (by decide) (fun q => [(h0, .inr (15, [.ref h1, .ref h2, .ref h3, .ref h4, .ref h5, .ref h6, .ref h7, .ref h8, .ref h9, .ref h10, .ref h11, .ref h12, .ref h13, .ref h14, .ref h15, .ref h16, .ref h17, .ref h18, .long 0, .int 0, .int 2, .int 0, .int 1, .int 0, .int 0, .int 0, .int 46])), (h5, .inl (cA 1, 512, .inr (.inl (fun _ => 0)))), (h1, .inr (2, [.int 0, .ref g.1, .int 0])), (h2, .inr (2, [.int 0, .ref g.1, .int 0]))]) (fun _ => rfl) (fun q1 H locs hP hD hS => ?_)
  refine W.eq (g2 := F0 m 7 ls [.int 0]) rfl ?_
  refine lv_istore_n (lv' := [(2, .int 0), (0, .ref h0), (1, .int (-1))]) hx hb dX12_determinant_7 rfl hl (by decide) rfl (fun ls hl => ?_)
  refine lv_iconst (v := 0) hx hb dX12_determinant_8 (by decide) ?_
  refine lv_istore_n (lv' := [(3, .int 0), (2, .int 0), (0, .ref h0), (1, .int (-1))]) hx hb dX12_determinant_9 rfl hl (by decide) rfl (fun ls hl => ?_)
  refine lv_iload_n hx hb dX12_determinant_10 rfl (lv_at hl 0 rfl) ?_
  refine lv_iconst (v := 1) hx hb dX12_determinant_11 (by decide) ?_
  refine lv_iload_n hx hb dX12_determinant_12 rfl (lv_at hl 1 rfl) ?_
  refine k_ishl (v := 1) hx hb dX12_determinant_13 (by decide) ?_
  refine k_icmp_ge_f (tgt := 30) hx hb dX12_determinant_14 (by decide) (by decide) ?_
  refine lv_aload_n hx hb dX12_determinant_17 rfl (lv_at hl 2 rfl) ?_
  refine k_get (ci := 15) (C := RX12) (T := TX12) (N := 27) (v := .ref h5) hx hb hG inX12 hown hK hP 0 rfl rfl 4 (by decide) gw1223 rfl dX12_determinant_18 ?_
  refine lv_iload_n hx hb dX12_determinant_21 rfl (lv_at hl 0 rfl) ?_
  refine lv_lconst (v := 0) hx hb dX12_determinant_22 (by decide) ?_
  refine k_last (ws1 := [(h0, .inr (15, [.ref h1, .ref h2, .ref h3, .ref h4, .ref h5, .ref h6, .ref h7, .ref h8, .ref h9, .ref h10, .ref h11, .ref h12, .ref h13, .ref h14, .ref h15, .ref h16, .ref h17, .ref h18, .long 0, .int 0, .int 2, .int 0, .int 1, .int 0, .int 0, .int 0, .int 46])), (h5, .inl (cA 1, 512, .inr (.inl (vp_updL (fun _ => 0) 0 0)))), (h1, .inr (2, [.int 0, .ref g.1, .int 0])), (h2, .inr (2, [.int 0, .ref g.1, .int 0]))]) hx hb hK hP hD hS 1 rfl rfl (by unfold vp_in; decide) dX12_determinant_23 (fun H locs hP hD hS => ?_)
  refine lv_iinc (v := 1) (lv' := [(3, .int 1), (2, .int 0), (0, .ref h0), (1, .int (-1))]) hx hb dX12_determinant_24 hl (k := 0) rfl (by decide) (by decide) rfl (fun ls hl => ?_)
  refine lv_goto (tgt := 10) hx hb dX12_determinant_27 (by decide) ?_
  refine lv_iload_n hx hb dX12_determinant_10 rfl (lv_at hl 0 rfl) ?_
  refine lv_iconst (v := 1) hx hb dX12_determinant_11 (by decide) ?_
  refine lv_iload_n hx hb dX12_determinant_12 rfl (lv_at hl 1 rfl) ?_
  refine k_ishl (v := 1) hx hb dX12_determinant_13 (by decide) ?_
  refine k_icmp_ge_t (tgt := 30) hx hb dX12_determinant_14 (by decide) (by decide) ?_
  refine lv_aload_n hx hb dX12_determinant_30 rfl (lv_at hl 2 rfl) ?_
  refine k_get (ci := 15) (C := RX12) (T := TX12) (N := 27) (v := .ref h5) hx hb hG inX12 hown hK hP 0 rfl rfl 4 (by decide) gw1223 rfl dX12_determinant_31 ?_
  refine lv_iconst (v := 0) hx hb dX12_determinant_34 (by decide) ?_
  refine lv_lconst (v := 1) hx hb dX12_determinant_35 (by decide) ?_
  refine k_last (ws1 := [(h0, .inr (15, [.ref h1, .ref h2, .ref h3, .ref h4, .ref h5, .ref h6, .ref h7, .ref h8, .ref h9, .ref h10, .ref h11, .ref h12, .ref h13, .ref h14, .ref h15, .ref h16, .ref h17, .ref h18, .long 0, .int 0, .int 2, .int 0, .int 1, .int 0, .int 0, .int 0, .int 46])), (h5, .inl (cA 1, 512, .inr (.inl (vp_updL (vp_updL (fun _ => 0) 0 0) 0 1)))), (h1, .inr (2, [.int 0, .ref g.1, .int 0])), (h2, .inr (2, [.int 0, .ref g.1, .int 0]))]) hx hb hK hP hD hS 1 rfl rfl (by unfold vp_in; decide) dX12_determinant_36 (fun H locs hP hD hS => ?_)
  refine lv_iconst (v := 0) hx hb dX12_determinant_37 (by decide) ?_
  refine lv_istore_n (lv' := [(3, .int 0), (2, .int 0), (0, .ref h0), (1, .int (-1))]) hx hb dX12_determinant_38 rfl hl (by decide) rfl (fun ls hl => ?_)
  refine lv_iconst (v := 0) hx hb dX12_determinant_39 (by decide) ?_
  refine lv_istore (lv' := [(4, .int 0), (3, .int 0), (2, .int 0), (0, .ref h0), (1, .int (-1))]) hx hb dX12_determinant_40 hl (by decide) rfl (fun ls hl => ?_)
  refine lv_iload hx hb dX12_determinant_42 (lv_at hl 0 rfl) ?_
  refine lv_iconst (v := 2) hx hb dX12_determinant_44 (by decide) ?_
  refine lv_aload_n hx hb dX12_determinant_45 rfl (lv_at hl 3 rfl) ?_
  refine k_get (ci := 15) (C := RX12) (T := TX12) (N := 27) (v := .ref h1) hx hb hG inX12 hown hK hP 0 rfl rfl 0 (by decide) gw1219 rfl dX12_determinant_46 ?_
  refine ct_V (wr := [(h0, .inr (15, [.ref h1, .ref h2, .ref h3, .ref h4, .ref h5, .ref h6, .ref h7, .ref h8, .ref h9, .ref h10, .ref h11, .ref h12, .ref h13, .ref h14, .ref h15, .ref h16, .ref h17, .ref h18, .long 0, .int 0, .int 2, .int 0, .int 1, .int 0, .int 0, .int 0, .int 46])), (h5, .inl (cA 1, 512, .inr (.inl (vp_updL (vp_updL (fun _ => 0) 0 0) 0 1)))), (h2, .inr (2, [.int 0, .ref g.1, .int 0]))]) hSF hl.1 hP hD hS hA hK hGV (c56_Jx4a65c_size_8abf5 l hfl D cA g h1) goV_X12_125 pd_Jx4a65c_size_8abf5 ⟨(Nat.le_of_ble_eq_true rfl), (Nat.le_of_ble_eq_true rfl)⟩ ⟨(Nat.le_of_ble_eq_true rfl), (Nat.le_of_ble_eq_true rfl)⟩ (va_recv hK hP (ci := 2) (q0 := 2) rfl rfl) dX12_determinant_49 rfl (Nat.le_of_ble_eq_true rfl) [2] [0, 1, 3] rfl (by decide) rfl (by decide) (by decide) (fun q => [(h0, .inr (15, [.ref h1, .ref h2, .ref h3, .ref h4, .ref h5, .ref h6, .ref h7, .ref h8, .ref h9, .ref h10, .ref h11, .ref h12, .ref h13, .ref h14, .ref h15, .ref h16, .ref h17, .ref h18, .long 0, .int 0, .int 2, .int 0, .int 1, .int 0, .int 0, .int 0, .int 46])), (h5, .inl (cA 1, 512, .inr (.inl (vp_updL (vp_updL (fun _ => 0) 0 0) 0 1)))), (h2, .inr (2, [.int 0, .ref g.1, .int 0])), (h1, .inr (2, [.int 0, .ref g.1, .int 0]))]) (fun _ => rfl) (fun q2 H locs hP hD hS => ?_)
  refine W.eq (g2 := F0 m 52 ls [.int 0, .int 2, .int 0]) rfl ?_
  refine k_imul (v := 0) hx hb dX12_determinant_52 (by decide) ?_
  refine k_icmp_ge_t (tgt := 137) hx hb dX12_determinant_53 (by decide) (by decide) ?_
  refine lv_aload_n hx hb dX12_determinant_137 rfl (lv_at hl 3 rfl) ?_
  refine k_get (ci := 15) (C := RX12) (T := TX12) (N := 27) (v := .ref h5) hx hb hG inX12 hown hK hP 0 rfl rfl 4 (by decide) gw1223 rfl dX12_determinant_138 ?_
  refine lv_iconst (v := 1) hx hb dX12_determinant_141 (by decide) ?_
  refine lv_iload_n hx hb dX12_determinant_142 rfl (lv_at hl 2 rfl) ?_
  refine k_ishl (v := 1) hx hb dX12_determinant_143 (by decide) ?_
  refine lv_iconst (v := 1) hx hb dX12_determinant_144 (by decide) ?_
  refine k_isub (v := 0) hx hb dX12_determinant_145 (by decide) ?_
  refine k_lald (v := 1) hx hb hK hP 1 rfl 0 (by decide) rfl (by unfold vp_in; decide) dX12_determinant_146 ?_
  exact e_l (fun _ => 0) hx hb hr hlocks rfl (hP.sub [0, 2, 1, 3] rfl) (hD.sub [0, 2, 1, 3] (by decide) rfl) hS (Nat.le_of_ble_eq_true rfl) (Nat.le_of_ble_eq_true rfl) dX12_determinant_147
set_option maxHeartbeats 4000000 in
set_option maxRecDepth 100000 in
theorem c120_X12_reckons (l : Launch) (hfl : l.stackTraces = false) (D : va_G) (cA : Nat → ClassId) (g : gv_T) (h0 h1 h2 h3 h4 h5 h6 h7 h8 h9 h10 h11 h12 h13 h14 h15 h16 h17 h18 : Nat) : CT l yX12_reckons cX12_reckons 3 none (RM 2 0 0 45) D cA g [.ref h0] [(h0, .inr (15, [.ref h1, .ref h2, .ref h3, .ref h4, .ref h5, .ref h6, .ref h7, .ref h8, .ref h9, .ref h10, .ref h11, .ref h12, .ref h13, .ref h14, .ref h15, .ref h16, .ref h17, .ref h18, .long 0, .int 0, .int 2, .int 0, .int 0, .int 0, .int 0, .int 0, .int 0])), (h2, .inr (2, [.int 0, .ref g.1, .int 0])), (h1, .inr (2, [.int 0, .ref g.1, .int 0])), (h5, .inl (cA 1, 512, .inr (.inl (fun _ => 0))))] (fun q => none) (fun q => [(h0, .inr (15, [.ref h1, .ref h2, .ref h3, .ref h4, .ref h5, .ref h6, .ref h7, .ref h8, .ref h9, .ref h10, .ref h11, .ref h12, .ref h13, .ref h14, .ref h15, .ref h16, .ref h17, .ref h18, .long 1, .int 0, .int 2, .int 0, .int 1, .int 0, .int 0, .int 0, .int 46])), (h2, .inr (2, [.int 0, .ref g.1, .int 0])), (h1, .inr (2, [.int 0, .ref g.1, .int 0])), (h5, .inl (cA 1, 512, .inr (.inl (vp_updL (vp_updL (fun _ => 0) 0 0) 0 1))))]) := by
  refine CT.of (by decide +kernel) (Nat.le_of_ble_eq_true rfl) ?_
  intro p e s m args below meth c A ls hx hb hr hml hown hG hlocks hnm hA hS hP hK hD hGV hl
  have hown : s.vm.findClass RX12 = some m.cls := hown
  have hl : lv_has ls 3 [(0, .ref h0)] := hl
  have hSF : CF p m c cX12_reckons 3 s args RX12 := ⟨hx, hb, hml, hown, hG⟩
  refine lv_aload_n hx hb dX12_reckons_0 rfl (lv_at hl 0 rfl) ?_
  refine k_get (ci := 15) (C := RX12) (T := TX12) (N := 27) (v := .int 0) hx hb hG inX12 hown hK hP 0 rfl rfl 22 (by decide) gw1241 rfl dX12_reckons_1 ?_
  refine k_if_eq_t (tgt := 8) hx hb dX12_reckons_4 (by decide) (by decide) ?_
  refine lv_aload_n hx hb dX12_reckons_8 rfl (lv_at hl 0 rfl) ?_
  refine lv_iconst (v := 1) hx hb dX12_reckons_9 (by decide) ?_
  refine k_put (ci := 15) (C := RX12) (T := TX12) (N := 27) (v := .int 1) (ws1 := [(h0, .inr (15, [.ref h1, .ref h2, .ref h3, .ref h4, .ref h5, .ref h6, .ref h7, .ref h8, .ref h9, .ref h10, .ref h11, .ref h12, .ref h13, .ref h14, .ref h15, .ref h16, .ref h17, .ref h18, .long 0, .int 0, .int 2, .int 0, .int 1, .int 0, .int 0, .int 0, .int 0])), (h2, .inr (2, [.int 0, .ref g.1, .int 0])), (h1, .inr (2, [.int 0, .ref g.1, .int 0])), (h5, .inl (cA 1, 512, .inr (.inl (fun _ => 0))))]) hx hb hG inX12 tyX12 tyX12_ok nmX12 hown hK hP hD hS 0 rfl rfl 22 (by decide) gw1241 rfl ⟨rfl, rfl⟩ rfl (Nat.le_of_ble_eq_true rfl) dX12_reckons_10 (fun H locs hP hD hS => ?_)
  refine lv_aload_n hx hb dX12_reckons_13 rfl (lv_at hl 0 rfl) ?_
  refine lv_iconst (v := 0) hx hb dX12_reckons_14 (by decide) ?_
  refine k_put (ci := 15) (C := RX12) (T := TX12) (N := 27) (v := .int 0) (ws1 := [(h0, .inr (15, [.ref h1, .ref h2, .ref h3, .ref h4, .ref h5, .ref h6, .ref h7, .ref h8, .ref h9, .ref h10, .ref h11, .ref h12, .ref h13, .ref h14, .ref h15, .ref h16, .ref h17, .ref h18, .long 0, .int 0, .int 2, .int 0, .int 1, .int 0, .int 0, .int 0, .int 0])), (h2, .inr (2, [.int 0, .ref g.1, .int 0])), (h1, .inr (2, [.int 0, .ref g.1, .int 0])), (h5, .inl (cA 1, 512, .inr (.inl (fun _ => 0))))]) hx hb hG inX12 tyX12 tyX12_ok nmX12 hown hK hP hD hS 0 rfl rfl 23 (by decide) gw1242 rfl ⟨rfl, rfl⟩ rfl (Nat.le_of_ble_eq_true rfl) dX12_reckons_15 (fun H locs hP hD hS => ?_)
  refine lv_aload_n hx hb dX12_reckons_18 rfl (lv_at hl 0 rfl) ?_
  refine ct_V (wr := [(h5, .inl (cA 1, 512, .inr (.inl (fun _ => 0))))]) hSF hl.1 hP hD hS hA hK hGV (c118_X12_unknowns l hfl D cA g h0 h1 h2 h3 h4 h5 h6 h7 h8 h9 h10 h11 h12 h13 h14 h15 h16 h17 h18) goV_X12_154 pd_X12_unknowns ⟨(Nat.le_of_ble_eq_true rfl), (Nat.le_of_ble_eq_true rfl)⟩ ⟨(Nat.le_of_ble_eq_true rfl), (Nat.le_of_ble_eq_true rfl)⟩ (va_recv hK hP (ci := 15) (q0 := 0) rfl rfl) dX12_reckons_19 rfl (Nat.le_of_ble_eq_true rfl) [0, 1, 2] [3] rfl (by decide) rfl (by decide) (by decide) (fun q => [(h5, .inl (cA 1, 512, .inr (.inl (fun _ => 0)))), (h0, .inr (15, [.ref h1, .ref h2, .ref h3, .ref h4, .ref h5, .ref h6, .ref h7, .ref h8, .ref h9, .ref h10, .ref h11, .ref h12, .ref h13, .ref h14, .ref h15, .ref h16, .ref h17, .ref h18, .long 0, .int 0, .int 2, .int 0, .int 1, .int 0, .int 0, .int 0, .int 0])), (h2, .inr (2, [.int 0, .ref g.1, .int 0])), (h1, .inr (2, [.int 0, .ref g.1, .int 0]))]) (fun _ => rfl) (fun q1 H locs hP hD hS => ?_)
  refine W.eq (g2 := F0 m 22 ls [.int 0]) rfl ?_
  refine lv_iconst (v := 2) hx hb dX12_reckons_22 (by decide) ?_
  refine lv_aload_n hx hb dX12_reckons_23 rfl (lv_at hl 0 rfl) ?_
  refine k_get (ci := 15) (C := RX12) (T := TX12) (N := 27) (v := .ref h1) hx hb hG inX12 hown hK hP 1 rfl rfl 0 (by decide) gw1219 rfl dX12_reckons_24 ?_
  refine ct_V (wr := [(h5, .inl (cA 1, 512, .inr (.inl (fun _ => 0)))), (h0, .inr (15, [.ref h1, .ref h2, .ref h3, .ref h4, .ref h5, .ref h6, .ref h7, .ref h8, .ref h9, .ref h10, .ref h11, .ref h12, .ref h13, .ref h14, .ref h15, .ref h16, .ref h17, .ref h18, .long 0, .int 0, .int 2, .int 0, .int 1, .int 0, .int 0, .int 0, .int 0])), (h2, .inr (2, [.int 0, .ref g.1, .int 0]))]) hSF hl.1 hP hD hS hA hK hGV (c56_Jx4a65c_size_8abf5 l hfl D cA g h1) goV_X12_125 pd_Jx4a65c_size_8abf5 ⟨(Nat.le_of_ble_eq_true rfl), (Nat.le_of_ble_eq_true rfl)⟩ ⟨(Nat.le_of_ble_eq_true rfl), (Nat.le_of_ble_eq_true rfl)⟩ (va_recv hK hP (ci := 2) (q0 := 3) rfl rfl) dX12_reckons_27 rfl (Nat.le_of_ble_eq_true rfl) [3] [0, 1, 2] rfl (by decide) rfl (by decide) (by decide) (fun q => [(h5, .inl (cA 1, 512, .inr (.inl (fun _ => 0)))), (h0, .inr (15, [.ref h1, .ref h2, .ref h3, .ref h4, .ref h5, .ref h6, .ref h7, .ref h8, .ref h9, .ref h10, .ref h11, .ref h12, .ref h13, .ref h14, .ref h15, .ref h16, .ref h17, .ref h18, .long 0, .int 0, .int 2, .int 0, .int 1, .int 0, .int 0, .int 0, .int 0])), (h2, .inr (2, [.int 0, .ref g.1, .int 0])), (h1, .inr (2, [.int 0, .ref g.1, .int 0]))]) (fun _ => rfl) (fun q2 H locs hP hD hS => ?_)
  refine W.eq (g2 := F0 m 30 ls [.int 0, .int 2, .int 0]) rfl ?_
  refine k_imul (v := 0) hx hb dX12_reckons_30 (by decide) ?_
  refine k_isub (v := 0) hx hb dX12_reckons_31 (by decide) ?_
  refine lv_istore_n (lv' := [(1, .int 0), (0, .ref h0)]) hx hb dX12_reckons_32 rfl hl (by decide) rfl (fun ls hl => ?_)
  refine lv_aload_n hx hb dX12_reckons_33 rfl (lv_at hl 1 rfl) ?_
  refine lv_iload_n hx hb dX12_reckons_34 rfl (lv_at hl 0 rfl) ?_
  refine k_if_ge_t (tgt := 43) hx hb dX12_reckons_35 (by decide) (by decide) ?_
  refine lv_iload_n hx hb dX12_reckons_43 rfl (lv_at hl 0 rfl) ?_
  refine k_if_le_t (tgt := 52) hx hb dX12_reckons_44 (by decide) (by decide) ?_
  refine lv_bipush (v := 46) hx hb dX12_reckons_52 (by decide) ?_
  refine k_put (ci := 15) (C := RX12) (T := TX12) (N := 27) (v := .int 46) (ws1 := [(h5, .inl (cA 1, 512, .inr (.inl (fun _ => 0)))), (h0, .inr (15, [.ref h1, .ref h2, .ref h3, .ref h4, .ref h5, .ref h6, .ref h7, .ref h8, .ref h9, .ref h10, .ref h11, .ref h12, .ref h13, .ref h14, .ref h15, .ref h16, .ref h17, .ref h18, .long 0, .int 0, .int 2, .int 0, .int 1, .int 0, .int 0, .int 0, .int 46])), (h2, .inr (2, [.int 0, .ref g.1, .int 0])), (h1, .inr (2, [.int 0, .ref g.1, .int 0]))]) hx hb hG inX12 tyX12 tyX12_ok nmX12 hown hK hP hD hS 1 rfl rfl 26 (by decide) gw1245 rfl ⟨rfl, rfl⟩ rfl (Nat.le_of_ble_eq_true rfl) dX12_reckons_54 (fun H locs hP hD hS => ?_)
  refine lv_aload_n hx hb dX12_reckons_57 rfl (lv_at hl 1 rfl) ?_
  refine k_get (ci := 15) (C := RX12) (T := TX12) (N := 27) (v := .int 46) hx hb hG inX12 hown hK hP 1 rfl rfl 26 (by decide) gw1245 rfl dX12_reckons_58 ?_
  refine lv_bipush (v := 46) hx hb dX12_reckons_61 (by decide) ?_
  refine k_icmp_eq_t (tgt := 67) hx hb dX12_reckons_63 (by decide) (by decide) ?_
  refine lv_aload_n hx hb dX12_reckons_67 rfl (lv_at hl 1 rfl) ?_
  refine lv_aload_n hx hb dX12_reckons_68 rfl (lv_at hl 1 rfl) ?_
  refine lv_iconst (v := (-1)) hx hb dX12_reckons_69 (by decide) ?_
  refine ct_V (wr := []) hSF hl.1 hP hD hS hA hK hGV (c119_X12_determinant l hfl D cA g h0 h1 h2 h3 h4 h5 h6 h7 h8 h9 h10 h11 h12 h13 h14 h15 h16 h17 h18) goV_X12_160 pd_X12_determinant ⟨(Nat.le_of_ble_eq_true rfl), (Nat.le_of_ble_eq_true rfl)⟩ ⟨(Nat.le_of_ble_eq_true rfl), (Nat.le_of_ble_eq_true rfl)⟩ (va_recv hK hP (ci := 15) (q0 := 1) rfl rfl) dX12_reckons_70 rfl (Nat.le_of_ble_eq_true rfl) [1, 2, 0, 3] [] rfl (by decide) rfl (by decide) (by decide) (fun q => [(h0, .inr (15, [.ref h1, .ref h2, .ref h3, .ref h4, .ref h5, .ref h6, .ref h7, .ref h8, .ref h9, .ref h10, .ref h11, .ref h12, .ref h13, .ref h14, .ref h15, .ref h16, .ref h17, .ref h18, .long 0, .int 0, .int 2, .int 0, .int 1, .int 0, .int 0, .int 0, .int 46])), (h2, .inr (2, [.int 0, .ref g.1, .int 0])), (h5, .inl (cA 1, 512, .inr (.inl (vp_updL (vp_updL (fun _ => 0) 0 0) 0 1)))), (h1, .inr (2, [.int 0, .ref g.1, .int 0]))]) (fun _ => rfl) (fun q3 H locs hP hD hS => ?_)
  refine W.eq (g2 := F0 m 73 ls [.long 1, .ref h0]) rfl ?_
  refine k_put (ci := 15) (C := RX12) (T := TX12) (N := 27) (v := .long 1) (ws1 := [(h0, .inr (15, [.ref h1, .ref h2, .ref h3, .ref h4, .ref h5, .ref h6, .ref h7, .ref h8, .ref h9, .ref h10, .ref h11, .ref h12, .ref h13, .ref h14, .ref h15, .ref h16, .ref h17, .ref h18, .long 1, .int 0, .int 2, .int 0, .int 1, .int 0, .int 0, .int 0, .int 46])), (h2, .inr (2, [.int 0, .ref g.1, .int 0])), (h5, .inl (cA 1, 512, .inr (.inl (vp_updL (vp_updL (fun _ => 0) 0 0) 0 1)))), (h1, .inr (2, [.int 0, .ref g.1, .int 0]))]) hx hb hG inX12 tyX12 tyX12_ok nmX12 hown hK hP hD hS 0 rfl rfl 18 (by decide) gw1237 rfl ⟨rfl, rfl⟩ rfl (Nat.le_of_ble_eq_true rfl) dX12_reckons_73 (fun H locs hP hD hS => ?_)
  refine lv_aload_n hx hb dX12_reckons_76 rfl (lv_at hl 1 rfl) ?_
  refine k_get (ci := 15) (C := RX12) (T := TX12) (N := 27) (v := .long 1) hx hb hG inX12 hown hK hP 0 rfl rfl 18 (by decide) gw1237 rfl dX12_reckons_77 ?_
  refine lv_lconst (v := 0) hx hb dX12_reckons_80 (by decide) ?_
  refine k_lcmp (v := 1) hx hb dX12_reckons_81 (by decide +kernel) ?_
  refine k_if_ne_t (tgt := 91) hx hb dX12_reckons_82 (by decide) (by decide) ?_
  refine lv_iconst (v := 0) hx hb dX12_reckons_91 (by decide) ?_
  refine lv_istore_n (lv' := [(2, .int 0), (1, .int 0), (0, .ref h0)]) hx hb dX12_reckons_92 rfl hl (by decide) rfl (fun ls hl => ?_)
  refine lv_iload_n hx hb dX12_reckons_93 rfl (lv_at hl 0 rfl) ?_
  refine lv_aload_n hx hb dX12_reckons_94 rfl (lv_at hl 2 rfl) ?_
  refine k_get (ci := 15) (C := RX12) (T := TX12) (N := 27) (v := .ref h2) hx hb hG inX12 hown hK hP 0 rfl rfl 1 (by decide) gw1220 rfl dX12_reckons_95 ?_
  refine ct_V (wr := [(h0, .inr (15, [.ref h1, .ref h2, .ref h3, .ref h4, .ref h5, .ref h6, .ref h7, .ref h8, .ref h9, .ref h10, .ref h11, .ref h12, .ref h13, .ref h14, .ref h15, .ref h16, .ref h17, .ref h18, .long 1, .int 0, .int 2, .int 0, .int 1, .int 0, .int 0, .int 0, .int 46])), (h5, .inl (cA 1, 512, .inr (.inl (vp_updL (vp_updL (fun _ => 0) 0 0) 0 1)))), (h1, .inr (2, [.int 0, .ref g.1, .int 0]))]) hSF hl.1 hP hD hS hA hK hGV (c56_Jx4a65c_size_8abf5 l hfl D cA g h2) goV_X12_125 pd_Jx4a65c_size_8abf5 ⟨(Nat.le_of_ble_eq_true rfl), (Nat.le_of_ble_eq_true rfl)⟩ ⟨(Nat.le_of_ble_eq_true rfl), (Nat.le_of_ble_eq_true rfl)⟩ (va_recv hK hP (ci := 2) (q0 := 1) rfl rfl) dX12_reckons_98 rfl (Nat.le_of_ble_eq_true rfl) [1] [0, 2, 3] rfl (by decide) rfl (by decide) (by decide) (fun q => [(h0, .inr (15, [.ref h1, .ref h2, .ref h3, .ref h4, .ref h5, .ref h6, .ref h7, .ref h8, .ref h9, .ref h10, .ref h11, .ref h12, .ref h13, .ref h14, .ref h15, .ref h16, .ref h17, .ref h18, .long 1, .int 0, .int 2, .int 0, .int 1, .int 0, .int 0, .int 0, .int 46])), (h5, .inl (cA 1, 512, .inr (.inl (vp_updL (vp_updL (fun _ => 0) 0 0) 0 1)))), (h1, .inr (2, [.int 0, .ref g.1, .int 0])), (h2, .inr (2, [.int 0, .ref g.1, .int 0]))]) (fun _ => rfl) (fun q4 H locs hP hD hS => ?_)
  refine W.eq (g2 := F0 m 101 ls [.int 0, .int 0]) rfl ?_
  refine k_icmp_ge_t (tgt := 130) hx hb dX12_reckons_101 (by decide) (by decide) ?_
  refine lv_iconst (v := 0) hx hb dX12_reckons_130 (by decide) ?_
  refine lv_istore_n (lv' := [(2, .int 0), (1, .int 0), (0, .ref h0)]) hx hb dX12_reckons_131 rfl hl (by decide) rfl (fun ls hl => ?_)
  refine lv_iload_n hx hb dX12_reckons_132 rfl (lv_at hl 0 rfl) ?_
  refine lv_aload_n hx hb dX12_reckons_133 rfl (lv_at hl 2 rfl) ?_
  refine k_get (ci := 15) (C := RX12) (T := TX12) (N := 27) (v := .ref h2) hx hb hG inX12 hown hK hP 0 rfl rfl 1 (by decide) gw1220 rfl dX12_reckons_134 ?_
  refine ct_V (wr := [(h0, .inr (15, [.ref h1, .ref h2, .ref h3, .ref h4, .ref h5, .ref h6, .ref h7, .ref h8, .ref h9, .ref h10, .ref h11, .ref h12, .ref h13, .ref h14, .ref h15, .ref h16, .ref h17, .ref h18, .long 1, .int 0, .int 2, .int 0, .int 1, .int 0, .int 0, .int 0, .int 46])), (h5, .inl (cA 1, 512, .inr (.inl (vp_updL (vp_updL (fun _ => 0) 0 0) 0 1)))), (h1, .inr (2, [.int 0, .ref g.1, .int 0]))]) hSF hl.1 hP hD hS hA hK hGV (c56_Jx4a65c_size_8abf5 l hfl D cA g h2) goV_X12_125 pd_Jx4a65c_size_8abf5 ⟨(Nat.le_of_ble_eq_true rfl), (Nat.le_of_ble_eq_true rfl)⟩ ⟨(Nat.le_of_ble_eq_true rfl), (Nat.le_of_ble_eq_true rfl)⟩ (va_recv hK hP (ci := 2) (q0 := 3) rfl rfl) dX12_reckons_137 rfl (Nat.le_of_ble_eq_true rfl) [3] [0, 1, 2] rfl (by decide) rfl (by decide) (by decide) (fun q => [(h0, .inr (15, [.ref h1, .ref h2, .ref h3, .ref h4, .ref h5, .ref h6, .ref h7, .ref h8, .ref h9, .ref h10, .ref h11, .ref h12, .ref h13, .ref h14, .ref h15, .ref h16, .ref h17, .ref h18, .long 1, .int 0, .int 2, .int 0, .int 1, .int 0, .int 0, .int 0, .int 46])), (h5, .inl (cA 1, 512, .inr (.inl (vp_updL (vp_updL (fun _ => 0) 0 0) 0 1)))), (h1, .inr (2, [.int 0, .ref g.1, .int 0])), (h2, .inr (2, [.int 0, .ref g.1, .int 0]))]) (fun _ => rfl) (fun q5 H locs hP hD hS => ?_)
  refine W.eq (g2 := F0 m 140 ls [.int 0, .int 0]) rfl ?_
  refine k_icmp_ge_t (tgt := 171) hx hb dX12_reckons_140 (by decide) (by decide) ?_
  refine lv_aload_n hx hb dX12_reckons_171 rfl (lv_at hl 2 rfl) ?_
  refine lv_aload_n hx hb dX12_reckons_172 rfl (lv_at hl 2 rfl) ?_
  refine k_get (ci := 15) (C := RX12) (T := TX12) (N := 27) (v := .long 1) hx hb hG inX12 hown hK hP 0 rfl rfl 18 (by decide) gw1237 rfl dX12_reckons_173 ?_
  refine lv_lconst (v := 0) hx hb dX12_reckons_176 (by decide) ?_
  refine k_lcmp (v := 1) hx hb dX12_reckons_177 (by decide +kernel) ?_
  refine k_if_ge_t (tgt := 189) hx hb dX12_reckons_178 (by decide) (by decide) ?_
  refine lv_aload_n hx hb dX12_reckons_189 rfl (lv_at hl 2 rfl) ?_
  refine k_get (ci := 15) (C := RX12) (T := TX12) (N := 27) (v := .long 1) hx hb hG inX12 hown hK hP 0 rfl rfl 18 (by decide) gw1237 rfl dX12_reckons_190 ?_
  refine k_put (ci := 15) (C := RX12) (T := TX12) (N := 27) (v := .long 1) (ws1 := [(h0, .inr (15, [.ref h1, .ref h2, .ref h3, .ref h4, .ref h5, .ref h6, .ref h7, .ref h8, .ref h9, .ref h10, .ref h11, .ref h12, .ref h13, .ref h14, .ref h15, .ref h16, .ref h17, .ref h18, .long 1, .int 0, .int 2, .int 0, .int 1, .int 0, .int 0, .int 0, .int 46])), (h5, .inl (cA 1, 512, .inr (.inl (vp_updL (vp_updL (fun _ => 0) 0 0) 0 1)))), (h1, .inr (2, [.int 0, .ref g.1, .int 0])), (h2, .inr (2, [.int 0, .ref g.1, .int 0]))]) hx hb hG inX12 tyX12 tyX12_ok nmX12 hown hK hP hD hS 0 rfl rfl 18 (by decide) gw1237 rfl ⟨rfl, rfl⟩ rfl (Nat.le_of_ble_eq_true rfl) dX12_reckons_193 (fun H locs hP hD hS => ?_)
  exact e_v (fun _ => 0) hx hb hr hlocks rfl (hP.sub [0, 3, 2, 1] rfl) (hD.sub [0, 3, 2, 1] (by decide) rfl) hS (Nat.le_of_ble_eq_true rfl) (Nat.le_of_ble_eq_true rfl) dX12_reckons_196
set_option maxHeartbeats 4000000 in
set_option maxRecDepth 100000 in
theorem c121_X12_state (l : Launch) (hfl : l.stackTraces = false) (D : va_G) (cA : Nat → ClassId) (g : gv_T) (h0 h1 h2 h3 h4 h5 h6 h7 h8 h9 h10 h11 h12 h13 h14 h15 h16 h17 h18 : Nat) : CT l yX12_state cX12_state 1 (some .char) (RM 3 0 0 67) D cA g [.ref h0] [(h0, .inr (15, [.ref h1, .ref h2, .ref h3, .ref h4, .ref h5, .ref h6, .ref h7, .ref h8, .ref h9, .ref h10, .ref h11, .ref h12, .ref h13, .ref h14, .ref h15, .ref h16, .ref h17, .ref h18, .long 0, .int 0, .int 2, .int 0, .int 0, .int 0, .int 0, .int 0, .int 0])), (h2, .inr (2, [.int 0, .ref g.1, .int 0])), (h1, .inr (2, [.int 0, .ref g.1, .int 0])), (h5, .inl (cA 1, 512, .inr (.inl (fun _ => 0))))] (fun q => some (.int 46)) (fun q => [(h0, .inr (15, [.ref h1, .ref h2, .ref h3, .ref h4, .ref h5, .ref h6, .ref h7, .ref h8, .ref h9, .ref h10, .ref h11, .ref h12, .ref h13, .ref h14, .ref h15, .ref h16, .ref h17, .ref h18, .long 1, .int 0, .int 2, .int 0, .int 1, .int 0, .int 0, .int 0, .int 46])), (h2, .inr (2, [.int 0, .ref g.1, .int 0])), (h1, .inr (2, [.int 0, .ref g.1, .int 0])), (h5, .inl (cA 1, 512, .inr (.inl (vp_updL (vp_updL (fun _ => 0) 0 0) 0 1))))]) := by
  refine CT.of (by decide +kernel) (Nat.le_of_ble_eq_true rfl) ?_
  intro p e s m args below meth c A ls hx hb hr hml hown hG hlocks hnm hA hS hP hK hD hGV hl
  have hown : s.vm.findClass RX12 = some m.cls := hown
  have hl : lv_has ls 1 [(0, .ref h0)] := hl
  have hSF : CF p m c cX12_state 1 s args RX12 := ⟨hx, hb, hml, hown, hG⟩
  refine lv_aload_n hx hb dX12_state_0 rfl (lv_at hl 0 rfl) ?_
  refine ct_V (wr := []) hSF hl.1 hP hD hS hA hK hGV (c120_X12_reckons l hfl D cA g h0 h1 h2 h3 h4 h5 h6 h7 h8 h9 h10 h11 h12 h13 h14 h15 h16 h17 h18) goV_X12_166 pd_X12_reckons ⟨(Nat.le_of_ble_eq_true rfl), (Nat.le_of_ble_eq_true rfl)⟩ ⟨(Nat.le_of_ble_eq_true rfl), (Nat.le_of_ble_eq_true rfl)⟩ (va_recv hK hP (ci := 15) (q0 := 0) rfl rfl) dX12_state_1 rfl (Nat.le_of_ble_eq_true rfl) [0, 1, 2, 3] [] rfl (by decide) rfl (by decide) (by decide) (fun q => [(h0, .inr (15, [.ref h1, .ref h2, .ref h3, .ref h4, .ref h5, .ref h6, .ref h7, .ref h8, .ref h9, .ref h10, .ref h11, .ref h12, .ref h13, .ref h14, .ref h15, .ref h16, .ref h17, .ref h18, .long 1, .int 0, .int 2, .int 0, .int 1, .int 0, .int 0, .int 0, .int 46])), (h2, .inr (2, [.int 0, .ref g.1, .int 0])), (h1, .inr (2, [.int 0, .ref g.1, .int 0])), (h5, .inl (cA 1, 512, .inr (.inl (vp_updL (vp_updL (fun _ => 0) 0 0) 0 1))))]) (fun _ => rfl) (fun q1 H locs hP hD hS => ?_)
  refine W.eq (g2 := F0 m 4 ls []) rfl ?_
  refine lv_aload_n hx hb dX12_state_4 rfl (lv_at hl 0 rfl) ?_
  refine lv_iconst (v := 0) hx hb dX12_state_5 (by decide) ?_
  refine k_put (ci := 15) (C := RX12) (T := TX12) (N := 27) (v := .int 0) (ws1 := [(h0, .inr (15, [.ref h1, .ref h2, .ref h3, .ref h4, .ref h5, .ref h6, .ref h7, .ref h8, .ref h9, .ref h10, .ref h11, .ref h12, .ref h13, .ref h14, .ref h15, .ref h16, .ref h17, .ref h18, .long 1, .int 0, .int 2, .int 0, .int 1, .int 0, .int 0, .int 0, .int 46])), (h2, .inr (2, [.int 0, .ref g.1, .int 0])), (h1, .inr (2, [.int 0, .ref g.1, .int 0])), (h5, .inl (cA 1, 512, .inr (.inl (vp_updL (vp_updL (fun _ => 0) 0 0) 0 1))))]) hx hb hG inX12 tyX12 tyX12_ok nmX12 hown hK hP hD hS 0 rfl rfl 19 (by decide) gw1238 rfl ⟨rfl, rfl⟩ rfl (Nat.le_of_ble_eq_true rfl) dX12_state_6 (fun H locs hP hD hS => ?_)
  refine lv_aload_n hx hb dX12_state_9 rfl (lv_at hl 0 rfl) ?_
  refine k_get (ci := 15) (C := RX12) (T := TX12) (N := 27) (v := .int 46) hx hb hG inX12 hown hK hP 0 rfl rfl 26 (by decide) gw1245 rfl dX12_state_10 ?_
  exact e_i (fun _ => 0) hx hb hr hlocks rfl rfl hP hD hS (Nat.le_of_ble_eq_true rfl) (Nat.le_of_ble_eq_true rfl) dX12_state_13
set_option maxHeartbeats 4000000 in
set_option maxRecDepth 100000 in
theorem c122_X6_checkMember (l : Launch) (hfl : l.stackTraces = false) (D : va_G) (cA : Nat → ClassId) (g : gv_T) (h0 : Nat) (p0 : Int32) (k0 : p0 < 0) : CX l yX6_checkMember cX6_checkMember 2 none (RM 6 1 6 95) D cA g [.ref h0, .int p0] [] "java/lang/IndexOutOfBoundsException" (fun q => []) := by
  refine CX.of (by decide +kernel) (Nat.le_of_ble_eq_true rfl) ?_
  intro p e s m args below meth c A ls hx hb hr hml hown hG hlocks htab hA hS hP hK hD hGV hl
  have hown : s.vm.findClass RX6 = some m.cls := hown
  have hl : lv_has ls 2 [(0, .ref h0), (1, .int p0)] := hl
  have hSF : CF p m c cX6_checkMember 2 s args RX6 := ⟨hx, hb, hml, hown, hG⟩
  refine lv_iload_n hx hb dX6_checkMember_0 rfl (lv_at hl 1 rfl) ?_
  refine k_if_lt_t (tgt := 15) hx hb dX6_checkMember_1 k0 (by decide) ?_
  exact e_throwW (fun _ => 0) (names := ["java/lang/RuntimeException", "java/lang/Exception"]) 7 hx hb hfl hown hG hGV htab hlocks (hl.1.trans hml.symm) (by decide +kernel) (by decide +kernel) gw795 gw101 rfl xat_X6_232 hP hD hS dX6_checkMember_15 dX6_checkMember_18 dX6_checkMember_19 dX6_checkMember_22 dX6_checkMember_25 (Nat.le_of_ble_eq_true rfl) (Nat.le_of_ble_eq_true rfl) (Nat.le_of_ble_eq_true rfl) (Nat.le_of_ble_eq_true rfl) (Nat.le_of_ble_eq_true rfl) (Nat.le_of_ble_eq_true rfl)
set_option maxHeartbeats 4000000 in
set_option maxRecDepth 100000 in
theorem c123_X6_force (l : Launch) (hfl : l.stackTraces = false) (D : va_G) (cA : Nat → ClassId) (g : gv_T) (h0 h1 h2 h3 h4 h5 : Nat) (p0 : Int32) (k0 : p0 < 0) : CX l yX6_force cX6_force 2 (some .long) (RM 7 1 6 116) D cA g [.ref h0, .int p0] [(h0, .inr (9, [.ref h1, .ref h2, .ref h3, .ref h4, .ref h5]))] "java/lang/IndexOutOfBoundsException" (fun q => [(h0, .inr (9, [.ref h1, .ref h2, .ref h3, .ref h4, .ref h5]))]) := by
  refine CX.of (by decide +kernel) (Nat.le_of_ble_eq_true rfl) ?_
  intro p e s m args below meth c A ls hx hb hr hml hown hG hlocks htab hA hS hP hK hD hGV hl
  have hown : s.vm.findClass RX6 = some m.cls := hown
  have hl : lv_has ls 2 [(0, .ref h0), (1, .int p0)] := hl
  have hSF : CF p m c cX6_force 2 s args RX6 := ⟨hx, hb, hml, hown, hG⟩
  refine lv_aload_n hx hb dX6_force_0 rfl (lv_at hl 0 rfl) ?_
  refine lv_iload_n hx hb dX6_force_1 rfl (lv_at hl 1 rfl) ?_
  refine cx_V (wr := [(h0, .inr (9, [.ref h1, .ref h2, .ref h3, .ref h4, .ref h5]))]) hSF hl.1 hP hD hS hA hK hGV (c122_X6_checkMember l hfl D cA g h0 (p0) k0) goV_X6_118 pd_X6_checkMember ⟨(Nat.le_of_ble_eq_true rfl), (Nat.le_of_ble_eq_true rfl)⟩ ⟨(Nat.le_of_ble_eq_true rfl), (Nat.le_of_ble_eq_true rfl)⟩ (va_recv hK hP (ci := 9) (q0 := 0) rfl rfl) dX6_force_2 rfl (Nat.le_of_ble_eq_true rfl) [] [0] rfl (by decide) rfl (by decide) (by decide) (fun q => [(h0, .inr (9, [.ref h1, .ref h2, .ref h3, .ref h4, .ref h5]))]) (fun _ => rfl) (fun q1 H locs x9 ce9 hP hD hS h9 hv9 hcl9 => ?_)
  exact e_out (fun _ => 0) htab hlocks h9 hv9 hcl9 hP hD hS (Nat.le_of_ble_eq_true rfl) (Nat.le_of_ble_eq_true rfl)
set_option maxHeartbeats 4000000 in
set_option maxRecDepth 100000 in
theorem c124_L_force (l : Launch) (hfl : l.stackTraces = false) (D : va_G) (cA : Nat → ClassId) (g : gv_T) (h0 h1 h2 h3 h4 h5 h6 : Nat) (p0 : Int32) (k0 : p0 < 0) : CW l yL_force cL_force 4 (some .int) [(0, 8, 11, 21), (0, 8, 14, 15)] (RM 8 1 6 137) D cA g [.ref h0, .int p0, .ref h1] [(h0, .inr (9, [.ref h2, .ref h3, .ref h4, .ref h5, .ref h6]))] (fun q => some (.int 1)) (fun q => [(h0, .inr (9, [.ref h2, .ref h3, .ref h4, .ref h5, .ref h6]))]) := by
  refine CW.of (by decide +kernel) (Nat.le_of_ble_eq_true rfl) ?_
  intro p e s m args below meth c A ls hx hb hr hml hown hG hlocks htab hA hS hP hK hD hGV hl
  have hown : s.vm.findClass RL = some m.cls := hown
  have hl : lv_has ls 4 [(0, .ref h0), (1, .int p0), (2, .ref h1)] := hl
  have hSF : CF p m c cL_force 4 s args RL := ⟨hx, hb, hml, hown, hG⟩
  refine lv_aload_n hx hb dL_force_0 rfl (lv_at hl 2 rfl) ?_
  refine lv_iconst (v := 0) hx hb dL_force_1 (by decide) ?_
  refine lv_aload_n hx hb dL_force_2 rfl (lv_at hl 0 rfl) ?_
  refine lv_iload_n hx hb dL_force_3 rfl (lv_at hl 1 rfl) ?_
  refine cx_V (wr := []) hSF hl.1 hP hD hS hA hK hGV (c123_X6_force l hfl D cA g h0 h2 h3 h4 h5 h6 (p0) k0) goV_L_27 pd_X6_force ⟨(Nat.le_of_ble_eq_true rfl), (Nat.le_of_ble_eq_true rfl)⟩ ⟨(Nat.le_of_ble_eq_true rfl), (Nat.le_of_ble_eq_true rfl)⟩ (va_recv hK hP (ci := 9) (q0 := 0) rfl rfl) dL_force_4 rfl (Nat.le_of_ble_eq_true rfl) [0] [] rfl (by decide) rfl (by decide) (by decide) (fun q => [(h0, .inr (9, [.ref h2, .ref h3, .ref h4, .ref h5, .ref h6]))]) (fun _ => rfl) (fun q1 H locs x9 ce9 hP hD hS h9 hv9 hcl9 => ?_)
  refine vx_catch (own := RL) (name := "java/lang/IndexOutOfBoundsException") hown [] { startPc := 0, endPc := 8, handlerPc := 11, catchType := 21 } [{ startPc := 0, endPc := 8, handlerPc := 14, catchType := 15 }] (htab.trans rfl) (fun z hz => nomatch hz) rfl (by decide) (hG _ gw763) (va_Nw.use rfl (hGV.2.2.2.2.1 _ gw797)) h9 hv9 hcl9 ?_
  refine W.eq (g2 := F0 m 11 ls [.ref x9]) rfl ?_
  refine lv_astore_n (lv' := [(3, .ref x9), (0, .ref h0), (1, .int p0), (2, .ref h1)]) hx hb dL_force_11 rfl hl (by decide) rfl (fun ls hl => ?_)
  refine lv_iconst (v := 1) hx hb dL_force_12 (by decide) ?_
  exact e_i (fun _ => 0) hx hb hr hlocks rfl rfl hP hD hS (Nat.le_of_ble_eq_true rfl) (Nat.le_of_ble_eq_true rfl) dL_force_13
set_option maxHeartbeats 4000000 in
set_option maxRecDepth 100000 in
theorem c125_X12_isMember (l : Launch) (hfl : l.stackTraces = false) (D : va_G) (cA : Nat → ClassId) (g : gv_T) (h0 h1 h2 h3 h4 h5 h6 h7 h8 h9 h10 h11 h12 h13 h14 h15 h16 h17 h18 : Nat) (p0 : Int32) (k0 : (lg_cmp p0.toInt64 0) < 0) : CT l yX12_isMember cX12_isMember 2 (some .boolean) (RM 1 0 0 23) D cA g [.ref h0, .int p0] [(h0, .inr (15, [.ref h1, .ref h2, .ref h3, .ref h4, .ref h5, .ref h6, .ref h7, .ref h8, .ref h9, .ref h10, .ref h11, .ref h12, .ref h13, .ref h14, .ref h15, .ref h16, .ref h17, .ref h18, .long 0, .int 0, .int 2, .int 0, .int 0, .int 0, .int 0, .int 0, .int 0])), (h2, .inr (2, [.int 0, .ref g.1, .int 0]))] (fun q => some (.int 0)) (fun q => [(h0, .inr (15, [.ref h1, .ref h2, .ref h3, .ref h4, .ref h5, .ref h6, .ref h7, .ref h8, .ref h9, .ref h10, .ref h11, .ref h12, .ref h13, .ref h14, .ref h15, .ref h16, .ref h17, .ref h18, .long 0, .int 0, .int 2, .int 0, .int 0, .int 0, .int 0, .int 0, .int 0])), (h2, .inr (2, [.int 0, .ref g.1, .int 0]))]) := by
  refine CT.of (by decide +kernel) (Nat.le_of_ble_eq_true rfl) ?_
  intro p e s m args below meth c A ls hx hb hr hml hown hG hlocks hnm hA hS hP hK hD hGV hl
  have hown : s.vm.findClass RX12 = some m.cls := hown
  have hl : lv_has ls 2 [(0, .ref h0), (1, .int p0)] := hl
  have hSF : CF p m c cX12_isMember 2 s args RX12 := ⟨hx, hb, hml, hown, hG⟩
  refine lv_iload_n hx hb dX12_isMember_0 rfl (lv_at hl 1 rfl) ?_
  refine lv_i2l (v := p0.toInt64) hx hb dX12_isMember_1 rfl ?_
  refine lv_iconst (v := 0) hx hb dX12_isMember_2 (by decide) ?_
  refine lv_aload_n hx hb dX12_isMember_3 rfl (lv_at hl 0 rfl) ?_
  refine k_get (ci := 15) (C := RX12) (T := TX12) (N := 27) (v := .ref h2) hx hb hG inX12 hown hK hP 0 rfl rfl 1 (by decide) gw1220 rfl dX12_isMember_4 ?_
  refine ct_V (wr := [(h0, .inr (15, [.ref h1, .ref h2, .ref h3, .ref h4, .ref h5, .ref h6, .ref h7, .ref h8, .ref h9, .ref h10, .ref h11, .ref h12, .ref h13, .ref h14, .ref h15, .ref h16, .ref h17, .ref h18, .long 0, .int 0, .int 2, .int 0, .int 0, .int 0, .int 0, .int 0, .int 0]))]) hSF hl.1 hP hD hS hA hK hGV (c56_Jx4a65c_size_8abf5 l hfl D cA g h2) goV_X12_125 pd_Jx4a65c_size_8abf5 ⟨(Nat.le_of_ble_eq_true rfl), (Nat.le_of_ble_eq_true rfl)⟩ ⟨(Nat.le_of_ble_eq_true rfl), (Nat.le_of_ble_eq_true rfl)⟩ (va_recv hK hP (ci := 2) (q0 := 1) rfl rfl) dX12_isMember_7 rfl (Nat.le_of_ble_eq_true rfl) [1] [0] rfl (by decide) rfl (by decide) (by decide) (fun q => [(h0, .inr (15, [.ref h1, .ref h2, .ref h3, .ref h4, .ref h5, .ref h6, .ref h7, .ref h8, .ref h9, .ref h10, .ref h11, .ref h12, .ref h13, .ref h14, .ref h15, .ref h16, .ref h17, .ref h18, .long 0, .int 0, .int 2, .int 0, .int 0, .int 0, .int 0, .int 0, .int 0])), (h2, .inr (2, [.int 0, .ref g.1, .int 0]))]) (fun _ => rfl) (fun q1 H locs hP hD hS => ?_)
  refine W.eq (g2 := F0 m 10 ls [.int 0, .int 0, .long (p0.toInt64)]) rfl ?_
  refine lv_iconst (v := 1) hx hb dX12_isMember_10 (by decide) ?_
  refine k_isub (v := (-1)) hx hb dX12_isMember_11 (by decide) ?_
  refine ct_S (wr := [(h0, .inr (15, [.ref h1, .ref h2, .ref h3, .ref h4, .ref h5, .ref h6, .ref h7, .ref h8, .ref h9, .ref h10, .ref h11, .ref h12, .ref h13, .ref h14, .ref h15, .ref h16, .ref h17, .ref h18, .long 0, .int 0, .int 2, .int 0, .int 0, .int 0, .int 0, .int 0, .int 0])), (h2, .inr (2, [.int 0, .ref g.1, .int 0]))]) hSF hl.1 hP hD hS hA hK hGV (c94_X12_in l hfl D cA g (p0.toInt64) k0) goS_X12_285 pd_X12_in.2 ⟨(Nat.le_of_ble_eq_true rfl), (Nat.le_of_ble_eq_true rfl)⟩ ⟨(Nat.le_of_ble_eq_true rfl), (Nat.le_of_ble_eq_true rfl)⟩ dX12_isMember_12 rfl (Nat.le_of_ble_eq_true rfl) [] [0, 1] rfl (by decide) rfl (by decide) (by decide) (fun q => [(h0, .inr (15, [.ref h1, .ref h2, .ref h3, .ref h4, .ref h5, .ref h6, .ref h7, .ref h8, .ref h9, .ref h10, .ref h11, .ref h12, .ref h13, .ref h14, .ref h15, .ref h16, .ref h17, .ref h18, .long 0, .int 0, .int 2, .int 0, .int 0, .int 0, .int 0, .int 0, .int 0])), (h2, .inr (2, [.int 0, .ref g.1, .int 0]))]) (fun _ => rfl) (fun q2 H locs hP hD hS => ?_)
  refine W.eq (g2 := F0 m 15 ls [.int 0]) rfl ?_
  exact e_i (fun _ => 0) hx hb hr hlocks rfl rfl hP hD hS (Nat.le_of_ble_eq_true rfl) (Nat.le_of_ble_eq_true rfl) dX12_isMember_15
set_option maxHeartbeats 4000000 in
set_option maxRecDepth 100000 in
theorem c126_X12_failsLong (l : Launch) (hfl : l.stackTraces = false) (D : va_G) (cA : Nat → ClassId) (g : gv_T) (h0 h1 h2 h3 h4 h5 h6 h7 h8 h9 h10 h11 h12 h13 h14 h15 h16 h17 h18 : Nat) : CT l yX12_failsLong cX12_failsLong 2 (some .long) (RM 0 0 0 0) D cA g [.ref h0, .int 1] [(h0, .inr (15, [.ref h1, .ref h2, .ref h3, .ref h4, .ref h5, .ref h6, .ref h7, .ref h8, .ref h9, .ref h10, .ref h11, .ref h12, .ref h13, .ref h14, .ref h15, .ref h16, .ref h17, .ref h18, .long 0, .int 0, .int 2, .int 0, .int 0, .int 0, .int 0, .int 0, .int 0]))] (fun q => some (.long 0)) (fun q => [(h0, .inr (15, [.ref h1, .ref h2, .ref h3, .ref h4, .ref h5, .ref h6, .ref h7, .ref h8, .ref h9, .ref h10, .ref h11, .ref h12, .ref h13, .ref h14, .ref h15, .ref h16, .ref h17, .ref h18, .long 0, .int 1, .int 2, .int 0, .int 0, .int 0, .int 0, .int 0, .int 0]))]) := by
  refine CT.of (by decide +kernel) (Nat.le_of_ble_eq_true rfl) ?_
  intro p e s m args below meth c A ls hx hb hr hml hown hG hlocks hnm hA hS hP hK hD hGV hl
  have hown : s.vm.findClass RX12 = some m.cls := hown
  have hl : lv_has ls 2 [(0, .ref h0), (1, .int 1)] := hl
  have hSF : CF p m c cX12_failsLong 2 s args RX12 := ⟨hx, hb, hml, hown, hG⟩
  refine lv_aload_n hx hb dX12_failsLong_0 rfl (lv_at hl 0 rfl) ?_
  refine lv_iload_n hx hb dX12_failsLong_1 rfl (lv_at hl 1 rfl) ?_
  refine k_put (ci := 15) (C := RX12) (T := TX12) (N := 27) (v := .int 1) (ws1 := [(h0, .inr (15, [.ref h1, .ref h2, .ref h3, .ref h4, .ref h5, .ref h6, .ref h7, .ref h8, .ref h9, .ref h10, .ref h11, .ref h12, .ref h13, .ref h14, .ref h15, .ref h16, .ref h17, .ref h18, .long 0, .int 1, .int 2, .int 0, .int 0, .int 0, .int 0, .int 0, .int 0]))]) hx hb hG inX12 tyX12 tyX12_ok nmX12 hown hK hP hD hS 0 rfl rfl 19 (by decide) gw1238 rfl ⟨rfl, rfl⟩ rfl (Nat.le_of_ble_eq_true rfl) dX12_failsLong_2 (fun H locs hP hD hS => ?_)
  refine lv_lconst (v := 0) hx hb dX12_failsLong_5 (by decide) ?_
  exact e_l (fun _ => 0) hx hb hr hlocks rfl hP hD hS (Nat.le_of_ble_eq_true rfl) (Nat.le_of_ble_eq_true rfl) dX12_failsLong_6
set_option maxHeartbeats 4000000 in
set_option maxRecDepth 100000 in
theorem c127_X12_force (l : Launch) (hfl : l.stackTraces = false) (D : va_G) (cA : Nat → ClassId) (g : gv_T) (h0 h1 h2 h3 h4 h5 h6 h7 h8 h9 h10 h11 h12 h13 h14 h15 h16 h17 h18 : Nat) (p0 : Int32) (k0 : (lg_cmp p0.toInt64 0) < 0) : CT l yX12_force cX12_force 2 (some .long) (RM 2 0 0 44) D cA g [.ref h0, .int p0] [(h0, .inr (15, [.ref h1, .ref h2, .ref h3, .ref h4, .ref h5, .ref h6, .ref h7, .ref h8, .ref h9, .ref h10, .ref h11, .ref h12, .ref h13, .ref h14, .ref h15, .ref h16, .ref h17, .ref h18, .long 0, .int 0, .int 2, .int 0, .int 0, .int 0, .int 0, .int 0, .int 0])), (h2, .inr (2, [.int 0, .ref g.1, .int 0]))] (fun q => some (.long 0)) (fun q => [(h0, .inr (15, [.ref h1, .ref h2, .ref h3, .ref h4, .ref h5, .ref h6, .ref h7, .ref h8, .ref h9, .ref h10, .ref h11, .ref h12, .ref h13, .ref h14, .ref h15, .ref h16, .ref h17, .ref h18, .long 0, .int 1, .int 2, .int 0, .int 0, .int 0, .int 0, .int 0, .int 0])), (h2, .inr (2, [.int 0, .ref g.1, .int 0]))]) := by
  refine CT.of (by decide +kernel) (Nat.le_of_ble_eq_true rfl) ?_
  intro p e s m args below meth c A ls hx hb hr hml hown hG hlocks hnm hA hS hP hK hD hGV hl
  have hown : s.vm.findClass RX12 = some m.cls := hown
  have hl : lv_has ls 2 [(0, .ref h0), (1, .int p0)] := hl
  have hSF : CF p m c cX12_force 2 s args RX12 := ⟨hx, hb, hml, hown, hG⟩
  refine lv_aload_n hx hb dX12_force_0 rfl (lv_at hl 0 rfl) ?_
  refine lv_iload_n hx hb dX12_force_1 rfl (lv_at hl 1 rfl) ?_
  refine ct_V (wr := []) hSF hl.1 hP hD hS hA hK hGV (c125_X12_isMember l hfl D cA g h0 h1 h2 h3 h4 h5 h6 h7 h8 h9 h10 h11 h12 h13 h14 h15 h16 h17 h18 (p0) k0) goV_X12_314 pd_X12_isMember ⟨(Nat.le_of_ble_eq_true rfl), (Nat.le_of_ble_eq_true rfl)⟩ ⟨(Nat.le_of_ble_eq_true rfl), (Nat.le_of_ble_eq_true rfl)⟩ (va_recv hK hP (ci := 15) (q0 := 0) rfl rfl) dX12_force_2 rfl (Nat.le_of_ble_eq_true rfl) [0, 1] [] rfl (by decide) rfl (by decide) (by decide) (fun q => [(h0, .inr (15, [.ref h1, .ref h2, .ref h3, .ref h4, .ref h5, .ref h6, .ref h7, .ref h8, .ref h9, .ref h10, .ref h11, .ref h12, .ref h13, .ref h14, .ref h15, .ref h16, .ref h17, .ref h18, .long 0, .int 0, .int 2, .int 0, .int 0, .int 0, .int 0, .int 0, .int 0])), (h2, .inr (2, [.int 0, .ref g.1, .int 0]))]) (fun _ => rfl) (fun q1 H locs hP hD hS => ?_)
  refine W.eq (g2 := F0 m 5 ls [.int 0]) rfl ?_
  refine k_if_ne_f (tgt := 14) hx hb dX12_force_5 (by decide) (by decide) ?_
  refine lv_aload_n hx hb dX12_force_8 rfl (lv_at hl 0 rfl) ?_
  refine lv_iconst (v := 1) hx hb dX12_force_9 (by decide) ?_
  refine ct_V (wr := [(h2, .inr (2, [.int 0, .ref g.1, .int 0]))]) hSF hl.1 hP hD hS hA hK hGV (c126_X12_failsLong l hfl D cA g h0 h1 h2 h3 h4 h5 h6 h7 h8 h9 h10 h11 h12 h13 h14 h15 h16 h17 h18) goV_X12_317 pd_X12_failsLong ⟨(Nat.le_of_ble_eq_true rfl), (Nat.le_of_ble_eq_true rfl)⟩ ⟨(Nat.le_of_ble_eq_true rfl), (Nat.le_of_ble_eq_true rfl)⟩ (va_recv hK hP (ci := 15) (q0 := 0) rfl rfl) dX12_force_10 rfl (Nat.le_of_ble_eq_true rfl) [0] [1] rfl (by decide) rfl (by decide) (by decide) (fun q => [(h2, .inr (2, [.int 0, .ref g.1, .int 0])), (h0, .inr (15, [.ref h1, .ref h2, .ref h3, .ref h4, .ref h5, .ref h6, .ref h7, .ref h8, .ref h9, .ref h10, .ref h11, .ref h12, .ref h13, .ref h14, .ref h15, .ref h16, .ref h17, .ref h18, .long 0, .int 1, .int 2, .int 0, .int 0, .int 0, .int 0, .int 0, .int 0]))]) (fun _ => rfl) (fun q2 H locs hP hD hS => ?_)
  refine W.eq (g2 := F0 m 13 ls [.long 0]) rfl ?_
  exact e_l (fun _ => 0) hx hb hr hlocks rfl (hP.sub [1, 0] rfl) (hD.sub [1, 0] (by decide) rfl) hS (Nat.le_of_ble_eq_true rfl) (Nat.le_of_ble_eq_true rfl) dX12_force_13
set_option maxHeartbeats 4000000 in
set_option maxRecDepth 100000 in
theorem c128_X6_checkMember (l : Launch) (hfl : l.stackTraces = false) (D : va_G) (cA : Nat → ClassId) (g : gv_T) (h0 h1 h2 h3 h4 h5 h6 h7 h8 h9 h10 h11 h12 h13 h14 h15 : Nat) (p0 : Int32) (k0 : ¬ p0 < 0) : CX l yX6_checkMember cX6_checkMember 2 none (RM 6 1 6 95) D cA g [.ref h0, .int p0] [(h0, .inr (9, [.ref h1, .ref h2, .ref h3, .ref h4, .ref h5])), (h1, .inr (5, [.int 0, .int 0, .ref h6, .ref h7, .ref h8, .ref h9, .ref h10, .ref h11, .ref h12, .ref h13, .ref h14, .ref h15]))] "java/lang/IndexOutOfBoundsException" (fun q => [(h0, .inr (9, [.ref h1, .ref h2, .ref h3, .ref h4, .ref h5])), (h1, .inr (5, [.int 0, .int 0, .ref h6, .ref h7, .ref h8, .ref h9, .ref h10, .ref h11, .ref h12, .ref h13, .ref h14, .ref h15]))]) := by
  refine CX.of (by decide +kernel) (Nat.le_of_ble_eq_true rfl) ?_
  intro p e s m args below meth c A ls hx hb hr hml hown hG hlocks htab hA hS hP hK hD hGV hl
  have hown : s.vm.findClass RX6 = some m.cls := hown
  have hl : lv_has ls 2 [(0, .ref h0), (1, .int p0)] := hl
  have hSF : CF p m c cX6_checkMember 2 s args RX6 := ⟨hx, hb, hml, hown, hG⟩
  refine lv_iload_n hx hb dX6_checkMember_0 rfl (lv_at hl 1 rfl) ?_
  refine k_if_lt_f (tgt := 15) hx hb dX6_checkMember_1 k0 (by decide) ?_
  refine lv_iload_n hx hb dX6_checkMember_4 rfl (lv_at hl 1 rfl) ?_
  refine lv_aload_n hx hb dX6_checkMember_5 rfl (lv_at hl 0 rfl) ?_
  refine k_get (ci := 9) (C := RX6) (T := TX6) (N := 5) (v := .ref h1) hx hb hG inX6 hown hK hP 0 rfl rfl 0 (by decide) gw363 rfl dX6_checkMember_6 ?_
  refine k_get (ci := 5) (C := RX2) (T := TX2) (N := 12) (v := .int 0) hx hb hG inX2 hown hK hP 1 rfl rfl 1 (by decide) gw131 rfl dX6_checkMember_9 ?_
  refine k_icmp_lt_f (tgt := 26) hx hb dX6_checkMember_12 k0 (by decide) ?_
  exact e_throwW (fun _ => 0) (names := ["java/lang/RuntimeException", "java/lang/Exception"]) 7 hx hb hfl hown hG hGV htab hlocks (hl.1.trans hml.symm) (by decide +kernel) (by decide +kernel) gw795 gw101 rfl xat_X6_232 hP hD hS dX6_checkMember_15 dX6_checkMember_18 dX6_checkMember_19 dX6_checkMember_22 dX6_checkMember_25 (Nat.le_of_ble_eq_true rfl) (Nat.le_of_ble_eq_true rfl) (Nat.le_of_ble_eq_true rfl) (Nat.le_of_ble_eq_true rfl) (Nat.le_of_ble_eq_true rfl) (Nat.le_of_ble_eq_true rfl)
set_option maxHeartbeats 4000000 in
set_option maxRecDepth 100000 in
theorem c129_X6_force (l : Launch) (hfl : l.stackTraces = false) (D : va_G) (cA : Nat → ClassId) (g : gv_T) (h0 h1 h2 h3 h4 h5 h6 h7 h8 h9 h10 h11 h12 h13 h14 h15 : Nat) (p0 : Int32) (k0 : ¬ p0 < 0) : CX l yX6_force cX6_force 2 (some .long) (RM 7 1 6 116) D cA g [.ref h0, .int p0] [(h0, .inr (9, [.ref h1, .ref h2, .ref h3, .ref h4, .ref h5])), (h1, .inr (5, [.int 0, .int 0, .ref h6, .ref h7, .ref h8, .ref h9, .ref h10, .ref h11, .ref h12, .ref h13, .ref h14, .ref h15]))] "java/lang/IndexOutOfBoundsException" (fun q => [(h0, .inr (9, [.ref h1, .ref h2, .ref h3, .ref h4, .ref h5])), (h1, .inr (5, [.int 0, .int 0, .ref h6, .ref h7, .ref h8, .ref h9, .ref h10, .ref h11, .ref h12, .ref h13, .ref h14, .ref h15]))]) := by
  refine CX.of (by decide +kernel) (Nat.le_of_ble_eq_true rfl) ?_
  intro p e s m args below meth c A ls hx hb hr hml hown hG hlocks htab hA hS hP hK hD hGV hl
  have hown : s.vm.findClass RX6 = some m.cls := hown
  have hl : lv_has ls 2 [(0, .ref h0), (1, .int p0)] := hl
  have hSF : CF p m c cX6_force 2 s args RX6 := ⟨hx, hb, hml, hown, hG⟩
  refine lv_aload_n hx hb dX6_force_0 rfl (lv_at hl 0 rfl) ?_
  refine lv_iload_n hx hb dX6_force_1 rfl (lv_at hl 1 rfl) ?_
  refine cx_V (wr := []) hSF hl.1 hP hD hS hA hK hGV (c128_X6_checkMember l hfl D cA g h0 h1 h2 h3 h4 h5 h6 h7 h8 h9 h10 h11 h12 h13 h14 h15 (p0) k0) goV_X6_118 pd_X6_checkMember ⟨(Nat.le_of_ble_eq_true rfl), (Nat.le_of_ble_eq_true rfl)⟩ ⟨(Nat.le_of_ble_eq_true rfl), (Nat.le_of_ble_eq_true rfl)⟩ (va_recv hK hP (ci := 9) (q0 := 0) rfl rfl) dX6_force_2 rfl (Nat.le_of_ble_eq_true rfl) [0, 1] [] rfl (by decide) rfl (by decide) (by decide) (fun q => [(h0, .inr (9, [.ref h1, .ref h2, .ref h3, .ref h4, .ref h5])), (h1, .inr (5, [.int 0, .int 0, .ref h6, .ref h7, .ref h8, .ref h9, .ref h10, .ref h11, .ref h12, .ref h13, .ref h14, .ref h15]))]) (fun _ => rfl) (fun q1 H locs x9 ce9 hP hD hS h9 hv9 hcl9 => ?_)
  exact e_out (fun _ => 0) htab hlocks h9 hv9 hcl9 hP hD hS (Nat.le_of_ble_eq_true rfl) (Nat.le_of_ble_eq_true rfl)
set_option maxHeartbeats 4000000 in
set_option maxRecDepth 100000 in
theorem c130_L_force (l : Launch) (hfl : l.stackTraces = false) (D : va_G) (cA : Nat → ClassId) (g : gv_T) (h0 h1 h2 h3 h4 h5 h6 h7 h8 h9 h10 h11 h12 h13 h14 h15 h16 : Nat) (p0 : Int32) (k0 : ¬ p0 < 0) : CW l yL_force cL_force 4 (some .int) [(0, 8, 11, 21), (0, 8, 14, 15)] (RM 8 1 6 137) D cA g [.ref h0, .int p0, .ref h1] [(h0, .inr (9, [.ref h2, .ref h3, .ref h4, .ref h5, .ref h6])), (h2, .inr (5, [.int 0, .int 0, .ref h7, .ref h8, .ref h9, .ref h10, .ref h11, .ref h12, .ref h13, .ref h14, .ref h15, .ref h16]))] (fun q => some (.int 1)) (fun q => [(h0, .inr (9, [.ref h2, .ref h3, .ref h4, .ref h5, .ref h6])), (h2, .inr (5, [.int 0, .int 0, .ref h7, .ref h8, .ref h9, .ref h10, .ref h11, .ref h12, .ref h13, .ref h14, .ref h15, .ref h16]))]) := by
  refine CW.of (by decide +kernel) (Nat.le_of_ble_eq_true rfl) ?_
  intro p e s m args below meth c A ls hx hb hr hml hown hG hlocks htab hA hS hP hK hD hGV hl
  have hown : s.vm.findClass RL = some m.cls := hown
  have hl : lv_has ls 4 [(0, .ref h0), (1, .int p0), (2, .ref h1)] := hl
  have hSF : CF p m c cL_force 4 s args RL := ⟨hx, hb, hml, hown, hG⟩
  refine lv_aload_n hx hb dL_force_0 rfl (lv_at hl 2 rfl) ?_
  refine lv_iconst (v := 0) hx hb dL_force_1 (by decide) ?_
  refine lv_aload_n hx hb dL_force_2 rfl (lv_at hl 0 rfl) ?_
  refine lv_iload_n hx hb dL_force_3 rfl (lv_at hl 1 rfl) ?_
  refine cx_V (wr := []) hSF hl.1 hP hD hS hA hK hGV (c129_X6_force l hfl D cA g h0 h2 h3 h4 h5 h6 h7 h8 h9 h10 h11 h12 h13 h14 h15 h16 (p0) k0) goV_L_27 pd_X6_force ⟨(Nat.le_of_ble_eq_true rfl), (Nat.le_of_ble_eq_true rfl)⟩ ⟨(Nat.le_of_ble_eq_true rfl), (Nat.le_of_ble_eq_true rfl)⟩ (va_recv hK hP (ci := 9) (q0 := 0) rfl rfl) dL_force_4 rfl (Nat.le_of_ble_eq_true rfl) [0, 1] [] rfl (by decide) rfl (by decide) (by decide) (fun q => [(h0, .inr (9, [.ref h2, .ref h3, .ref h4, .ref h5, .ref h6])), (h2, .inr (5, [.int 0, .int 0, .ref h7, .ref h8, .ref h9, .ref h10, .ref h11, .ref h12, .ref h13, .ref h14, .ref h15, .ref h16]))]) (fun _ => rfl) (fun q1 H locs x9 ce9 hP hD hS h9 hv9 hcl9 => ?_)
  refine vx_catch (own := RL) (name := "java/lang/IndexOutOfBoundsException") hown [] { startPc := 0, endPc := 8, handlerPc := 11, catchType := 21 } [{ startPc := 0, endPc := 8, handlerPc := 14, catchType := 15 }] (htab.trans rfl) (fun z hz => nomatch hz) rfl (by decide) (hG _ gw763) (va_Nw.use rfl (hGV.2.2.2.2.1 _ gw797)) h9 hv9 hcl9 ?_
  refine W.eq (g2 := F0 m 11 ls [.ref x9]) rfl ?_
  refine lv_astore_n (lv' := [(3, .ref x9), (0, .ref h0), (1, .int p0), (2, .ref h1)]) hx hb dL_force_11 rfl hl (by decide) rfl (fun ls hl => ?_)
  refine lv_iconst (v := 1) hx hb dL_force_12 (by decide) ?_
  exact e_i (fun _ => 0) hx hb hr hlocks rfl rfl hP hD hS (Nat.le_of_ble_eq_true rfl) (Nat.le_of_ble_eq_true rfl) dL_force_13
set_option maxHeartbeats 4000000 in
set_option maxRecDepth 100000 in
theorem c131_X12_isMember (l : Launch) (hfl : l.stackTraces = false) (D : va_G) (cA : Nat → ClassId) (g : gv_T) (h0 h1 h2 h3 h4 h5 h6 h7 h8 h9 h10 h11 h12 h13 h14 h15 h16 h17 h18 : Nat) (p0 : Int32) (k0 : ¬ (lg_cmp p0.toInt64 0) < 0) (k1 : 0 < (lg_cmp p0.toInt64 (-1))) : CT l yX12_isMember cX12_isMember 2 (some .boolean) (RM 1 0 0 23) D cA g [.ref h0, .int p0] [(h0, .inr (15, [.ref h1, .ref h2, .ref h3, .ref h4, .ref h5, .ref h6, .ref h7, .ref h8, .ref h9, .ref h10, .ref h11, .ref h12, .ref h13, .ref h14, .ref h15, .ref h16, .ref h17, .ref h18, .long 0, .int 0, .int 2, .int 0, .int 0, .int 0, .int 0, .int 0, .int 0])), (h2, .inr (2, [.int 0, .ref g.1, .int 0]))] (fun q => some (.int 0)) (fun q => [(h0, .inr (15, [.ref h1, .ref h2, .ref h3, .ref h4, .ref h5, .ref h6, .ref h7, .ref h8, .ref h9, .ref h10, .ref h11, .ref h12, .ref h13, .ref h14, .ref h15, .ref h16, .ref h17, .ref h18, .long 0, .int 0, .int 2, .int 0, .int 0, .int 0, .int 0, .int 0, .int 0])), (h2, .inr (2, [.int 0, .ref g.1, .int 0]))]) := by
  refine CT.of (by decide +kernel) (Nat.le_of_ble_eq_true rfl) ?_
  intro p e s m args below meth c A ls hx hb hr hml hown hG hlocks hnm hA hS hP hK hD hGV hl
  have hown : s.vm.findClass RX12 = some m.cls := hown
  have hl : lv_has ls 2 [(0, .ref h0), (1, .int p0)] := hl
  have hSF : CF p m c cX12_isMember 2 s args RX12 := ⟨hx, hb, hml, hown, hG⟩
  refine lv_iload_n hx hb dX12_isMember_0 rfl (lv_at hl 1 rfl) ?_
  refine lv_i2l (v := p0.toInt64) hx hb dX12_isMember_1 rfl ?_
  refine lv_iconst (v := 0) hx hb dX12_isMember_2 (by decide) ?_
  refine lv_aload_n hx hb dX12_isMember_3 rfl (lv_at hl 0 rfl) ?_
  refine k_get (ci := 15) (C := RX12) (T := TX12) (N := 27) (v := .ref h2) hx hb hG inX12 hown hK hP 0 rfl rfl 1 (by decide) gw1220 rfl dX12_isMember_4 ?_
  refine ct_V (wr := [(h0, .inr (15, [.ref h1, .ref h2, .ref h3, .ref h4, .ref h5, .ref h6, .ref h7, .ref h8, .ref h9, .ref h10, .ref h11, .ref h12, .ref h13, .ref h14, .ref h15, .ref h16, .ref h17, .ref h18, .long 0, .int 0, .int 2, .int 0, .int 0, .int 0, .int 0, .int 0, .int 0]))]) hSF hl.1 hP hD hS hA hK hGV (c56_Jx4a65c_size_8abf5 l hfl D cA g h2) goV_X12_125 pd_Jx4a65c_size_8abf5 ⟨(Nat.le_of_ble_eq_true rfl), (Nat.le_of_ble_eq_true rfl)⟩ ⟨(Nat.le_of_ble_eq_true rfl), (Nat.le_of_ble_eq_true rfl)⟩ (va_recv hK hP (ci := 2) (q0 := 1) rfl rfl) dX12_isMember_7 rfl (Nat.le_of_ble_eq_true rfl) [1] [0] rfl (by decide) rfl (by decide) (by decide) (fun q => [(h0, .inr (15, [.ref h1, .ref h2, .ref h3, .ref h4, .ref h5, .ref h6, .ref h7, .ref h8, .ref h9, .ref h10, .ref h11, .ref h12, .ref h13, .ref h14, .ref h15, .ref h16, .ref h17, .ref h18, .long 0, .int 0, .int 2, .int 0, .int 0, .int 0, .int 0, .int 0, .int 0])), (h2, .inr (2, [.int 0, .ref g.1, .int 0]))]) (fun _ => rfl) (fun q1 H locs hP hD hS => ?_)
  refine W.eq (g2 := F0 m 10 ls [.int 0, .int 0, .long (p0.toInt64)]) rfl ?_
  refine lv_iconst (v := 1) hx hb dX12_isMember_10 (by decide) ?_
  refine k_isub (v := (-1)) hx hb dX12_isMember_11 (by decide) ?_
  refine ct_S (wr := [(h0, .inr (15, [.ref h1, .ref h2, .ref h3, .ref h4, .ref h5, .ref h6, .ref h7, .ref h8, .ref h9, .ref h10, .ref h11, .ref h12, .ref h13, .ref h14, .ref h15, .ref h16, .ref h17, .ref h18, .long 0, .int 0, .int 2, .int 0, .int 0, .int 0, .int 0, .int 0, .int 0])), (h2, .inr (2, [.int 0, .ref g.1, .int 0]))]) hSF hl.1 hP hD hS hA hK hGV (c100_X12_in l hfl D cA g (p0.toInt64) k0 k1) goS_X12_285 pd_X12_in.2 ⟨(Nat.le_of_ble_eq_true rfl), (Nat.le_of_ble_eq_true rfl)⟩ ⟨(Nat.le_of_ble_eq_true rfl), (Nat.le_of_ble_eq_true rfl)⟩ dX12_isMember_12 rfl (Nat.le_of_ble_eq_true rfl) [] [0, 1] rfl (by decide) rfl (by decide) (by decide) (fun q => [(h0, .inr (15, [.ref h1, .ref h2, .ref h3, .ref h4, .ref h5, .ref h6, .ref h7, .ref h8, .ref h9, .ref h10, .ref h11, .ref h12, .ref h13, .ref h14, .ref h15, .ref h16, .ref h17, .ref h18, .long 0, .int 0, .int 2, .int 0, .int 0, .int 0, .int 0, .int 0, .int 0])), (h2, .inr (2, [.int 0, .ref g.1, .int 0]))]) (fun _ => rfl) (fun q2 H locs hP hD hS => ?_)
  refine W.eq (g2 := F0 m 15 ls [.int 0]) rfl ?_
  exact e_i (fun _ => 0) hx hb hr hlocks rfl rfl hP hD hS (Nat.le_of_ble_eq_true rfl) (Nat.le_of_ble_eq_true rfl) dX12_isMember_15
set_option maxHeartbeats 4000000 in
set_option maxRecDepth 100000 in
theorem c132_X12_force (l : Launch) (hfl : l.stackTraces = false) (D : va_G) (cA : Nat → ClassId) (g : gv_T) (h0 h1 h2 h3 h4 h5 h6 h7 h8 h9 h10 h11 h12 h13 h14 h15 h16 h17 h18 : Nat) (p0 : Int32) (k0 : ¬ (lg_cmp p0.toInt64 0) < 0) (k1 : 0 < (lg_cmp p0.toInt64 (-1))) : CT l yX12_force cX12_force 2 (some .long) (RM 2 0 0 44) D cA g [.ref h0, .int p0] [(h0, .inr (15, [.ref h1, .ref h2, .ref h3, .ref h4, .ref h5, .ref h6, .ref h7, .ref h8, .ref h9, .ref h10, .ref h11, .ref h12, .ref h13, .ref h14, .ref h15, .ref h16, .ref h17, .ref h18, .long 0, .int 0, .int 2, .int 0, .int 0, .int 0, .int 0, .int 0, .int 0])), (h2, .inr (2, [.int 0, .ref g.1, .int 0]))] (fun q => some (.long 0)) (fun q => [(h0, .inr (15, [.ref h1, .ref h2, .ref h3, .ref h4, .ref h5, .ref h6, .ref h7, .ref h8, .ref h9, .ref h10, .ref h11, .ref h12, .ref h13, .ref h14, .ref h15, .ref h16, .ref h17, .ref h18, .long 0, .int 1, .int 2, .int 0, .int 0, .int 0, .int 0, .int 0, .int 0])), (h2, .inr (2, [.int 0, .ref g.1, .int 0]))]) := by
  refine CT.of (by decide +kernel) (Nat.le_of_ble_eq_true rfl) ?_
  intro p e s m args below meth c A ls hx hb hr hml hown hG hlocks hnm hA hS hP hK hD hGV hl
  have hown : s.vm.findClass RX12 = some m.cls := hown
  have hl : lv_has ls 2 [(0, .ref h0), (1, .int p0)] := hl
  have hSF : CF p m c cX12_force 2 s args RX12 := ⟨hx, hb, hml, hown, hG⟩
  refine lv_aload_n hx hb dX12_force_0 rfl (lv_at hl 0 rfl) ?_
  refine lv_iload_n hx hb dX12_force_1 rfl (lv_at hl 1 rfl) ?_
  refine ct_V (wr := []) hSF hl.1 hP hD hS hA hK hGV (c131_X12_isMember l hfl D cA g h0 h1 h2 h3 h4 h5 h6 h7 h8 h9 h10 h11 h12 h13 h14 h15 h16 h17 h18 (p0) k0 k1) goV_X12_314 pd_X12_isMember ⟨(Nat.le_of_ble_eq_true rfl), (Nat.le_of_ble_eq_true rfl)⟩ ⟨(Nat.le_of_ble_eq_true rfl), (Nat.le_of_ble_eq_true rfl)⟩ (va_recv hK hP (ci := 15) (q0 := 0) rfl rfl) dX12_force_2 rfl (Nat.le_of_ble_eq_true rfl) [0, 1] [] rfl (by decide) rfl (by decide) (by decide) (fun q => [(h0, .inr (15, [.ref h1, .ref h2, .ref h3, .ref h4, .ref h5, .ref h6, .ref h7, .ref h8, .ref h9, .ref h10, .ref h11, .ref h12, .ref h13, .ref h14, .ref h15, .ref h16, .ref h17, .ref h18, .long 0, .int 0, .int 2, .int 0, .int 0, .int 0, .int 0, .int 0, .int 0])), (h2, .inr (2, [.int 0, .ref g.1, .int 0]))]) (fun _ => rfl) (fun q1 H locs hP hD hS => ?_)
  refine W.eq (g2 := F0 m 5 ls [.int 0]) rfl ?_
  refine k_if_ne_f (tgt := 14) hx hb dX12_force_5 (by decide) (by decide) ?_
  refine lv_aload_n hx hb dX12_force_8 rfl (lv_at hl 0 rfl) ?_
  refine lv_iconst (v := 1) hx hb dX12_force_9 (by decide) ?_
  refine ct_V (wr := [(h2, .inr (2, [.int 0, .ref g.1, .int 0]))]) hSF hl.1 hP hD hS hA hK hGV (c126_X12_failsLong l hfl D cA g h0 h1 h2 h3 h4 h5 h6 h7 h8 h9 h10 h11 h12 h13 h14 h15 h16 h17 h18) goV_X12_317 pd_X12_failsLong ⟨(Nat.le_of_ble_eq_true rfl), (Nat.le_of_ble_eq_true rfl)⟩ ⟨(Nat.le_of_ble_eq_true rfl), (Nat.le_of_ble_eq_true rfl)⟩ (va_recv hK hP (ci := 15) (q0 := 0) rfl rfl) dX12_force_10 rfl (Nat.le_of_ble_eq_true rfl) [0] [1] rfl (by decide) rfl (by decide) (by decide) (fun q => [(h2, .inr (2, [.int 0, .ref g.1, .int 0])), (h0, .inr (15, [.ref h1, .ref h2, .ref h3, .ref h4, .ref h5, .ref h6, .ref h7, .ref h8, .ref h9, .ref h10, .ref h11, .ref h12, .ref h13, .ref h14, .ref h15, .ref h16, .ref h17, .ref h18, .long 0, .int 1, .int 2, .int 0, .int 0, .int 0, .int 0, .int 0, .int 0]))]) (fun _ => rfl) (fun q2 H locs hP hD hS => ?_)
  refine W.eq (g2 := F0 m 13 ls [.long 0]) rfl ?_
  exact e_l (fun _ => 0) hx hb hr hlocks rfl (hP.sub [1, 0] rfl) (hD.sub [1, 0] (by decide) rfl) hS (Nat.le_of_ble_eq_true rfl) (Nat.le_of_ble_eq_true rfl) dX12_force_13
set_option maxHeartbeats 4000000 in
set_option maxRecDepth 100000 in
theorem c133_X6_pull (l : Launch) (hfl : l.stackTraces = false) (D : va_G) (cA : Nat → ClassId) (g : gv_T) (h0 h1 h2 h3 h4 h5 : Nat) (p0 : Int32) (k0 : p0 < 0) : CX l yX6_pull cX6_pull 2 (some .long) (RM 7 1 6 116) D cA g [.ref h0, .int p0] [(h0, .inr (9, [.ref h1, .ref h2, .ref h3, .ref h4, .ref h5]))] "java/lang/IndexOutOfBoundsException" (fun q => [(h0, .inr (9, [.ref h1, .ref h2, .ref h3, .ref h4, .ref h5]))]) := by
  refine CX.of (by decide +kernel) (Nat.le_of_ble_eq_true rfl) ?_
  intro p e s m args below meth c A ls hx hb hr hml hown hG hlocks htab hA hS hP hK hD hGV hl
  have hown : s.vm.findClass RX6 = some m.cls := hown
  have hl : lv_has ls 2 [(0, .ref h0), (1, .int p0)] := hl
  have hSF : CF p m c cX6_pull 2 s args RX6 := ⟨hx, hb, hml, hown, hG⟩
  refine lv_aload_n hx hb dX6_pull_0 rfl (lv_at hl 0 rfl) ?_
  refine lv_iload_n hx hb dX6_pull_1 rfl (lv_at hl 1 rfl) ?_
  refine cx_V (wr := [(h0, .inr (9, [.ref h1, .ref h2, .ref h3, .ref h4, .ref h5]))]) hSF hl.1 hP hD hS hA hK hGV (c122_X6_checkMember l hfl D cA g h0 (p0) k0) goV_X6_118 pd_X6_checkMember ⟨(Nat.le_of_ble_eq_true rfl), (Nat.le_of_ble_eq_true rfl)⟩ ⟨(Nat.le_of_ble_eq_true rfl), (Nat.le_of_ble_eq_true rfl)⟩ (va_recv hK hP (ci := 9) (q0 := 0) rfl rfl) dX6_pull_2 rfl (Nat.le_of_ble_eq_true rfl) [] [0] rfl (by decide) rfl (by decide) (by decide) (fun q => [(h0, .inr (9, [.ref h1, .ref h2, .ref h3, .ref h4, .ref h5]))]) (fun _ => rfl) (fun q1 H locs x9 ce9 hP hD hS h9 hv9 hcl9 => ?_)
  exact e_out (fun _ => 0) htab hlocks h9 hv9 hcl9 hP hD hS (Nat.le_of_ble_eq_true rfl) (Nat.le_of_ble_eq_true rfl)
set_option maxHeartbeats 4000000 in
set_option maxRecDepth 100000 in
theorem c134_L_pull (l : Launch) (hfl : l.stackTraces = false) (D : va_G) (cA : Nat → ClassId) (g : gv_T) (h0 h1 h2 h3 h4 h5 h6 : Nat) (p0 : Int32) (k0 : p0 < 0) : CW l yL_pull cL_pull 4 (some .int) [(0, 8, 11, 21), (0, 8, 14, 15)] (RM 8 1 6 137) D cA g [.ref h0, .int p0, .ref h1] [(h0, .inr (9, [.ref h2, .ref h3, .ref h4, .ref h5, .ref h6]))] (fun q => some (.int 1)) (fun q => [(h0, .inr (9, [.ref h2, .ref h3, .ref h4, .ref h5, .ref h6]))]) := by
  refine CW.of (by decide +kernel) (Nat.le_of_ble_eq_true rfl) ?_
  intro p e s m args below meth c A ls hx hb hr hml hown hG hlocks htab hA hS hP hK hD hGV hl
  have hown : s.vm.findClass RL = some m.cls := hown
  have hl : lv_has ls 4 [(0, .ref h0), (1, .int p0), (2, .ref h1)] := hl
  have hSF : CF p m c cL_pull 4 s args RL := ⟨hx, hb, hml, hown, hG⟩
  refine lv_aload_n hx hb dL_pull_0 rfl (lv_at hl 2 rfl) ?_
  refine lv_iconst (v := 0) hx hb dL_pull_1 (by decide) ?_
  refine lv_aload_n hx hb dL_pull_2 rfl (lv_at hl 0 rfl) ?_
  refine lv_iload_n hx hb dL_pull_3 rfl (lv_at hl 1 rfl) ?_
  refine cx_V (wr := []) hSF hl.1 hP hD hS hA hK hGV (c133_X6_pull l hfl D cA g h0 h2 h3 h4 h5 h6 (p0) k0) goV_L_31 pd_X6_pull ⟨(Nat.le_of_ble_eq_true rfl), (Nat.le_of_ble_eq_true rfl)⟩ ⟨(Nat.le_of_ble_eq_true rfl), (Nat.le_of_ble_eq_true rfl)⟩ (va_recv hK hP (ci := 9) (q0 := 0) rfl rfl) dL_pull_4 rfl (Nat.le_of_ble_eq_true rfl) [0] [] rfl (by decide) rfl (by decide) (by decide) (fun q => [(h0, .inr (9, [.ref h2, .ref h3, .ref h4, .ref h5, .ref h6]))]) (fun _ => rfl) (fun q1 H locs x9 ce9 hP hD hS h9 hv9 hcl9 => ?_)
  refine vx_catch (own := RL) (name := "java/lang/IndexOutOfBoundsException") hown [] { startPc := 0, endPc := 8, handlerPc := 11, catchType := 21 } [{ startPc := 0, endPc := 8, handlerPc := 14, catchType := 15 }] (htab.trans rfl) (fun z hz => nomatch hz) rfl (by decide) (hG _ gw763) (va_Nw.use rfl (hGV.2.2.2.2.1 _ gw797)) h9 hv9 hcl9 ?_
  refine W.eq (g2 := F0 m 11 ls [.ref x9]) rfl ?_
  refine lv_astore_n (lv' := [(3, .ref x9), (0, .ref h0), (1, .int p0), (2, .ref h1)]) hx hb dL_pull_11 rfl hl (by decide) rfl (fun ls hl => ?_)
  refine lv_iconst (v := 1) hx hb dL_pull_12 (by decide) ?_
  exact e_i (fun _ => 0) hx hb hr hlocks rfl rfl hP hD hS (Nat.le_of_ble_eq_true rfl) (Nat.le_of_ble_eq_true rfl) dL_pull_13
set_option maxHeartbeats 4000000 in
set_option maxRecDepth 100000 in
theorem c135_X12_pull (l : Launch) (hfl : l.stackTraces = false) (D : va_G) (cA : Nat → ClassId) (g : gv_T) (h0 h1 h2 h3 h4 h5 h6 h7 h8 h9 h10 h11 h12 h13 h14 h15 h16 h17 h18 : Nat) (p0 : Int32) (k0 : (lg_cmp p0.toInt64 0) < 0) : CT l yX12_pull cX12_pull 2 (some .long) (RM 2 0 0 44) D cA g [.ref h0, .int p0] [(h0, .inr (15, [.ref h1, .ref h2, .ref h3, .ref h4, .ref h5, .ref h6, .ref h7, .ref h8, .ref h9, .ref h10, .ref h11, .ref h12, .ref h13, .ref h14, .ref h15, .ref h16, .ref h17, .ref h18, .long 0, .int 0, .int 2, .int 0, .int 0, .int 0, .int 0, .int 0, .int 0])), (h2, .inr (2, [.int 0, .ref g.1, .int 0]))] (fun q => some (.long 0)) (fun q => [(h0, .inr (15, [.ref h1, .ref h2, .ref h3, .ref h4, .ref h5, .ref h6, .ref h7, .ref h8, .ref h9, .ref h10, .ref h11, .ref h12, .ref h13, .ref h14, .ref h15, .ref h16, .ref h17, .ref h18, .long 0, .int 1, .int 2, .int 0, .int 0, .int 0, .int 0, .int 0, .int 0])), (h2, .inr (2, [.int 0, .ref g.1, .int 0]))]) := by
  refine CT.of (by decide +kernel) (Nat.le_of_ble_eq_true rfl) ?_
  intro p e s m args below meth c A ls hx hb hr hml hown hG hlocks hnm hA hS hP hK hD hGV hl
  have hown : s.vm.findClass RX12 = some m.cls := hown
  have hl : lv_has ls 2 [(0, .ref h0), (1, .int p0)] := hl
  have hSF : CF p m c cX12_pull 2 s args RX12 := ⟨hx, hb, hml, hown, hG⟩
  refine lv_aload_n hx hb dX12_pull_0 rfl (lv_at hl 0 rfl) ?_
  refine lv_iload_n hx hb dX12_pull_1 rfl (lv_at hl 1 rfl) ?_
  refine ct_V (wr := []) hSF hl.1 hP hD hS hA hK hGV (c125_X12_isMember l hfl D cA g h0 h1 h2 h3 h4 h5 h6 h7 h8 h9 h10 h11 h12 h13 h14 h15 h16 h17 h18 (p0) k0) goV_X12_314 pd_X12_isMember ⟨(Nat.le_of_ble_eq_true rfl), (Nat.le_of_ble_eq_true rfl)⟩ ⟨(Nat.le_of_ble_eq_true rfl), (Nat.le_of_ble_eq_true rfl)⟩ (va_recv hK hP (ci := 15) (q0 := 0) rfl rfl) dX12_pull_2 rfl (Nat.le_of_ble_eq_true rfl) [0, 1] [] rfl (by decide) rfl (by decide) (by decide) (fun q => [(h0, .inr (15, [.ref h1, .ref h2, .ref h3, .ref h4, .ref h5, .ref h6, .ref h7, .ref h8, .ref h9, .ref h10, .ref h11, .ref h12, .ref h13, .ref h14, .ref h15, .ref h16, .ref h17, .ref h18, .long 0, .int 0, .int 2, .int 0, .int 0, .int 0, .int 0, .int 0, .int 0])), (h2, .inr (2, [.int 0, .ref g.1, .int 0]))]) (fun _ => rfl) (fun q1 H locs hP hD hS => ?_)
  refine W.eq (g2 := F0 m 5 ls [.int 0]) rfl ?_
  refine k_if_ne_f (tgt := 14) hx hb dX12_pull_5 (by decide) (by decide) ?_
  refine lv_aload_n hx hb dX12_pull_8 rfl (lv_at hl 0 rfl) ?_
  refine lv_iconst (v := 1) hx hb dX12_pull_9 (by decide) ?_
  refine ct_V (wr := [(h2, .inr (2, [.int 0, .ref g.1, .int 0]))]) hSF hl.1 hP hD hS hA hK hGV (c126_X12_failsLong l hfl D cA g h0 h1 h2 h3 h4 h5 h6 h7 h8 h9 h10 h11 h12 h13 h14 h15 h16 h17 h18) goV_X12_317 pd_X12_failsLong ⟨(Nat.le_of_ble_eq_true rfl), (Nat.le_of_ble_eq_true rfl)⟩ ⟨(Nat.le_of_ble_eq_true rfl), (Nat.le_of_ble_eq_true rfl)⟩ (va_recv hK hP (ci := 15) (q0 := 0) rfl rfl) dX12_pull_10 rfl (Nat.le_of_ble_eq_true rfl) [0] [1] rfl (by decide) rfl (by decide) (by decide) (fun q => [(h2, .inr (2, [.int 0, .ref g.1, .int 0])), (h0, .inr (15, [.ref h1, .ref h2, .ref h3, .ref h4, .ref h5, .ref h6, .ref h7, .ref h8, .ref h9, .ref h10, .ref h11, .ref h12, .ref h13, .ref h14, .ref h15, .ref h16, .ref h17, .ref h18, .long 0, .int 1, .int 2, .int 0, .int 0, .int 0, .int 0, .int 0, .int 0]))]) (fun _ => rfl) (fun q2 H locs hP hD hS => ?_)
  refine W.eq (g2 := F0 m 13 ls [.long 0]) rfl ?_
  exact e_l (fun _ => 0) hx hb hr hlocks rfl (hP.sub [1, 0] rfl) (hD.sub [1, 0] (by decide) rfl) hS (Nat.le_of_ble_eq_true rfl) (Nat.le_of_ble_eq_true rfl) dX12_pull_13
set_option maxHeartbeats 4000000 in
set_option maxRecDepth 100000 in
theorem c136_X6_pull (l : Launch) (hfl : l.stackTraces = false) (D : va_G) (cA : Nat → ClassId) (g : gv_T) (h0 h1 h2 h3 h4 h5 h6 h7 h8 h9 h10 h11 h12 h13 h14 h15 : Nat) (p0 : Int32) (k0 : ¬ p0 < 0) : CX l yX6_pull cX6_pull 2 (some .long) (RM 7 1 6 116) D cA g [.ref h0, .int p0] [(h0, .inr (9, [.ref h1, .ref h2, .ref h3, .ref h4, .ref h5])), (h1, .inr (5, [.int 0, .int 0, .ref h6, .ref h7, .ref h8, .ref h9, .ref h10, .ref h11, .ref h12, .ref h13, .ref h14, .ref h15]))] "java/lang/IndexOutOfBoundsException" (fun q => [(h0, .inr (9, [.ref h1, .ref h2, .ref h3, .ref h4, .ref h5])), (h1, .inr (5, [.int 0, .int 0, .ref h6, .ref h7, .ref h8, .ref h9, .ref h10, .ref h11, .ref h12, .ref h13, .ref h14, .ref h15]))]) := by
  refine CX.of (by decide +kernel) (Nat.le_of_ble_eq_true rfl) ?_
  intro p e s m args below meth c A ls hx hb hr hml hown hG hlocks htab hA hS hP hK hD hGV hl
  have hown : s.vm.findClass RX6 = some m.cls := hown
  have hl : lv_has ls 2 [(0, .ref h0), (1, .int p0)] := hl
  have hSF : CF p m c cX6_pull 2 s args RX6 := ⟨hx, hb, hml, hown, hG⟩
  refine lv_aload_n hx hb dX6_pull_0 rfl (lv_at hl 0 rfl) ?_
  refine lv_iload_n hx hb dX6_pull_1 rfl (lv_at hl 1 rfl) ?_
  refine cx_V (wr := []) hSF hl.1 hP hD hS hA hK hGV (c128_X6_checkMember l hfl D cA g h0 h1 h2 h3 h4 h5 h6 h7 h8 h9 h10 h11 h12 h13 h14 h15 (p0) k0) goV_X6_118 pd_X6_checkMember ⟨(Nat.le_of_ble_eq_true rfl), (Nat.le_of_ble_eq_true rfl)⟩ ⟨(Nat.le_of_ble_eq_true rfl), (Nat.le_of_ble_eq_true rfl)⟩ (va_recv hK hP (ci := 9) (q0 := 0) rfl rfl) dX6_pull_2 rfl (Nat.le_of_ble_eq_true rfl) [0, 1] [] rfl (by decide) rfl (by decide) (by decide) (fun q => [(h0, .inr (9, [.ref h1, .ref h2, .ref h3, .ref h4, .ref h5])), (h1, .inr (5, [.int 0, .int 0, .ref h6, .ref h7, .ref h8, .ref h9, .ref h10, .ref h11, .ref h12, .ref h13, .ref h14, .ref h15]))]) (fun _ => rfl) (fun q1 H locs x9 ce9 hP hD hS h9 hv9 hcl9 => ?_)
  exact e_out (fun _ => 0) htab hlocks h9 hv9 hcl9 hP hD hS (Nat.le_of_ble_eq_true rfl) (Nat.le_of_ble_eq_true rfl)
set_option maxHeartbeats 4000000 in
set_option maxRecDepth 100000 in
theorem c137_L_pull (l : Launch) (hfl : l.stackTraces = false) (D : va_G) (cA : Nat → ClassId) (g : gv_T) (h0 h1 h2 h3 h4 h5 h6 h7 h8 h9 h10 h11 h12 h13 h14 h15 h16 : Nat) (p0 : Int32) (k0 : ¬ p0 < 0) : CW l yL_pull cL_pull 4 (some .int) [(0, 8, 11, 21), (0, 8, 14, 15)] (RM 8 1 6 137) D cA g [.ref h0, .int p0, .ref h1] [(h0, .inr (9, [.ref h2, .ref h3, .ref h4, .ref h5, .ref h6])), (h2, .inr (5, [.int 0, .int 0, .ref h7, .ref h8, .ref h9, .ref h10, .ref h11, .ref h12, .ref h13, .ref h14, .ref h15, .ref h16]))] (fun q => some (.int 1)) (fun q => [(h0, .inr (9, [.ref h2, .ref h3, .ref h4, .ref h5, .ref h6])), (h2, .inr (5, [.int 0, .int 0, .ref h7, .ref h8, .ref h9, .ref h10, .ref h11, .ref h12, .ref h13, .ref h14, .ref h15, .ref h16]))]) := by
  refine CW.of (by decide +kernel) (Nat.le_of_ble_eq_true rfl) ?_
  intro p e s m args below meth c A ls hx hb hr hml hown hG hlocks htab hA hS hP hK hD hGV hl
  have hown : s.vm.findClass RL = some m.cls := hown
  have hl : lv_has ls 4 [(0, .ref h0), (1, .int p0), (2, .ref h1)] := hl
  have hSF : CF p m c cL_pull 4 s args RL := ⟨hx, hb, hml, hown, hG⟩
  refine lv_aload_n hx hb dL_pull_0 rfl (lv_at hl 2 rfl) ?_
  refine lv_iconst (v := 0) hx hb dL_pull_1 (by decide) ?_
  refine lv_aload_n hx hb dL_pull_2 rfl (lv_at hl 0 rfl) ?_
  refine lv_iload_n hx hb dL_pull_3 rfl (lv_at hl 1 rfl) ?_
  refine cx_V (wr := []) hSF hl.1 hP hD hS hA hK hGV (c136_X6_pull l hfl D cA g h0 h2 h3 h4 h5 h6 h7 h8 h9 h10 h11 h12 h13 h14 h15 h16 (p0) k0) goV_L_31 pd_X6_pull ⟨(Nat.le_of_ble_eq_true rfl), (Nat.le_of_ble_eq_true rfl)⟩ ⟨(Nat.le_of_ble_eq_true rfl), (Nat.le_of_ble_eq_true rfl)⟩ (va_recv hK hP (ci := 9) (q0 := 0) rfl rfl) dL_pull_4 rfl (Nat.le_of_ble_eq_true rfl) [0, 1] [] rfl (by decide) rfl (by decide) (by decide) (fun q => [(h0, .inr (9, [.ref h2, .ref h3, .ref h4, .ref h5, .ref h6])), (h2, .inr (5, [.int 0, .int 0, .ref h7, .ref h8, .ref h9, .ref h10, .ref h11, .ref h12, .ref h13, .ref h14, .ref h15, .ref h16]))]) (fun _ => rfl) (fun q1 H locs x9 ce9 hP hD hS h9 hv9 hcl9 => ?_)
  refine vx_catch (own := RL) (name := "java/lang/IndexOutOfBoundsException") hown [] { startPc := 0, endPc := 8, handlerPc := 11, catchType := 21 } [{ startPc := 0, endPc := 8, handlerPc := 14, catchType := 15 }] (htab.trans rfl) (fun z hz => nomatch hz) rfl (by decide) (hG _ gw763) (va_Nw.use rfl (hGV.2.2.2.2.1 _ gw797)) h9 hv9 hcl9 ?_
  refine W.eq (g2 := F0 m 11 ls [.ref x9]) rfl ?_
  refine lv_astore_n (lv' := [(3, .ref x9), (0, .ref h0), (1, .int p0), (2, .ref h1)]) hx hb dL_pull_11 rfl hl (by decide) rfl (fun ls hl => ?_)
  refine lv_iconst (v := 1) hx hb dL_pull_12 (by decide) ?_
  exact e_i (fun _ => 0) hx hb hr hlocks rfl rfl hP hD hS (Nat.le_of_ble_eq_true rfl) (Nat.le_of_ble_eq_true rfl) dL_pull_13
set_option maxHeartbeats 4000000 in
set_option maxRecDepth 100000 in
theorem c138_X12_pull (l : Launch) (hfl : l.stackTraces = false) (D : va_G) (cA : Nat → ClassId) (g : gv_T) (h0 h1 h2 h3 h4 h5 h6 h7 h8 h9 h10 h11 h12 h13 h14 h15 h16 h17 h18 : Nat) (p0 : Int32) (k0 : ¬ (lg_cmp p0.toInt64 0) < 0) (k1 : 0 < (lg_cmp p0.toInt64 (-1))) : CT l yX12_pull cX12_pull 2 (some .long) (RM 2 0 0 44) D cA g [.ref h0, .int p0] [(h0, .inr (15, [.ref h1, .ref h2, .ref h3, .ref h4, .ref h5, .ref h6, .ref h7, .ref h8, .ref h9, .ref h10, .ref h11, .ref h12, .ref h13, .ref h14, .ref h15, .ref h16, .ref h17, .ref h18, .long 0, .int 0, .int 2, .int 0, .int 0, .int 0, .int 0, .int 0, .int 0])), (h2, .inr (2, [.int 0, .ref g.1, .int 0]))] (fun q => some (.long 0)) (fun q => [(h0, .inr (15, [.ref h1, .ref h2, .ref h3, .ref h4, .ref h5, .ref h6, .ref h7, .ref h8, .ref h9, .ref h10, .ref h11, .ref h12, .ref h13, .ref h14, .ref h15, .ref h16, .ref h17, .ref h18, .long 0, .int 1, .int 2, .int 0, .int 0, .int 0, .int 0, .int 0, .int 0])), (h2, .inr (2, [.int 0, .ref g.1, .int 0]))]) := by
  refine CT.of (by decide +kernel) (Nat.le_of_ble_eq_true rfl) ?_
  intro p e s m args below meth c A ls hx hb hr hml hown hG hlocks hnm hA hS hP hK hD hGV hl
  have hown : s.vm.findClass RX12 = some m.cls := hown
  have hl : lv_has ls 2 [(0, .ref h0), (1, .int p0)] := hl
  have hSF : CF p m c cX12_pull 2 s args RX12 := ⟨hx, hb, hml, hown, hG⟩
  refine lv_aload_n hx hb dX12_pull_0 rfl (lv_at hl 0 rfl) ?_
  refine lv_iload_n hx hb dX12_pull_1 rfl (lv_at hl 1 rfl) ?_
  refine ct_V (wr := []) hSF hl.1 hP hD hS hA hK hGV (c131_X12_isMember l hfl D cA g h0 h1 h2 h3 h4 h5 h6 h7 h8 h9 h10 h11 h12 h13 h14 h15 h16 h17 h18 (p0) k0 k1) goV_X12_314 pd_X12_isMember ⟨(Nat.le_of_ble_eq_true rfl), (Nat.le_of_ble_eq_true rfl)⟩ ⟨(Nat.le_of_ble_eq_true rfl), (Nat.le_of_ble_eq_true rfl)⟩ (va_recv hK hP (ci := 15) (q0 := 0) rfl rfl) dX12_pull_2 rfl (Nat.le_of_ble_eq_true rfl) [0, 1] [] rfl (by decide) rfl (by decide) (by decide) (fun q => [(h0, .inr (15, [.ref h1, .ref h2, .ref h3, .ref h4, .ref h5, .ref h6, .ref h7, .ref h8, .ref h9, .ref h10, .ref h11, .ref h12, .ref h13, .ref h14, .ref h15, .ref h16, .ref h17, .ref h18, .long 0, .int 0, .int 2, .int 0, .int 0, .int 0, .int 0, .int 0, .int 0])), (h2, .inr (2, [.int 0, .ref g.1, .int 0]))]) (fun _ => rfl) (fun q1 H locs hP hD hS => ?_)
  refine W.eq (g2 := F0 m 5 ls [.int 0]) rfl ?_
  refine k_if_ne_f (tgt := 14) hx hb dX12_pull_5 (by decide) (by decide) ?_
  refine lv_aload_n hx hb dX12_pull_8 rfl (lv_at hl 0 rfl) ?_
  refine lv_iconst (v := 1) hx hb dX12_pull_9 (by decide) ?_
  refine ct_V (wr := [(h2, .inr (2, [.int 0, .ref g.1, .int 0]))]) hSF hl.1 hP hD hS hA hK hGV (c126_X12_failsLong l hfl D cA g h0 h1 h2 h3 h4 h5 h6 h7 h8 h9 h10 h11 h12 h13 h14 h15 h16 h17 h18) goV_X12_317 pd_X12_failsLong ⟨(Nat.le_of_ble_eq_true rfl), (Nat.le_of_ble_eq_true rfl)⟩ ⟨(Nat.le_of_ble_eq_true rfl), (Nat.le_of_ble_eq_true rfl)⟩ (va_recv hK hP (ci := 15) (q0 := 0) rfl rfl) dX12_pull_10 rfl (Nat.le_of_ble_eq_true rfl) [0] [1] rfl (by decide) rfl (by decide) (by decide) (fun q => [(h2, .inr (2, [.int 0, .ref g.1, .int 0])), (h0, .inr (15, [.ref h1, .ref h2, .ref h3, .ref h4, .ref h5, .ref h6, .ref h7, .ref h8, .ref h9, .ref h10, .ref h11, .ref h12, .ref h13, .ref h14, .ref h15, .ref h16, .ref h17, .ref h18, .long 0, .int 1, .int 2, .int 0, .int 0, .int 0, .int 0, .int 0, .int 0]))]) (fun _ => rfl) (fun q2 H locs hP hD hS => ?_)
  refine W.eq (g2 := F0 m 13 ls [.long 0]) rfl ?_
  exact e_l (fun _ => 0) hx hb hr hlocks rfl (hP.sub [1, 0] rfl) (hD.sub [1, 0] (by decide) rfl) hS (Nat.le_of_ble_eq_true rfl) (Nat.le_of_ble_eq_true rfl) dX12_pull_13
set_option maxHeartbeats 4000000 in
set_option maxRecDepth 100000 in
theorem c139_X6_bearing (l : Launch) (hfl : l.stackTraces = false) (D : va_G) (cA : Nat → ClassId) (g : gv_T) (h0 h1 h2 h3 h4 h5 : Nat) (p0 : Int32) (k0 : p0 < 0) : CX l yX6_bearing cX6_bearing 3 (some .long) (RM 7 1 6 116) D cA g [.ref h0, .int p0, .int 0] [(h0, .inr (9, [.ref h1, .ref h2, .ref h3, .ref h4, .ref h5]))] "java/lang/IndexOutOfBoundsException" (fun q => [(h0, .inr (9, [.ref h1, .ref h2, .ref h3, .ref h4, .ref h5]))]) := by
  refine CX.of (by decide +kernel) (Nat.le_of_ble_eq_true rfl) ?_
  intro p e s m args below meth c A ls hx hb hr hml hown hG hlocks htab hA hS hP hK hD hGV hl
  have hown : s.vm.findClass RX6 = some m.cls := hown
  have hl : lv_has ls 3 [(0, .ref h0), (1, .int p0), (2, .int 0)] := hl
  have hSF : CF p m c cX6_bearing 3 s args RX6 := ⟨hx, hb, hml, hown, hG⟩
  refine lv_aload_n hx hb dX6_bearing_0 rfl (lv_at hl 0 rfl) ?_
  refine lv_iload_n hx hb dX6_bearing_1 rfl (lv_at hl 1 rfl) ?_
  refine cx_V (wr := [(h0, .inr (9, [.ref h1, .ref h2, .ref h3, .ref h4, .ref h5]))]) hSF hl.1 hP hD hS hA hK hGV (c91_X6_checkNode l hfl D cA g h0 (p0) k0) goV_X6_80 pd_X6_checkNode ⟨(Nat.le_of_ble_eq_true rfl), (Nat.le_of_ble_eq_true rfl)⟩ ⟨(Nat.le_of_ble_eq_true rfl), (Nat.le_of_ble_eq_true rfl)⟩ (va_recv hK hP (ci := 9) (q0 := 0) rfl rfl) dX6_bearing_2 rfl (Nat.le_of_ble_eq_true rfl) [] [0] rfl (by decide) rfl (by decide) (by decide) (fun q => [(h0, .inr (9, [.ref h1, .ref h2, .ref h3, .ref h4, .ref h5]))]) (fun _ => rfl) (fun q1 H locs x9 ce9 hP hD hS h9 hv9 hcl9 => ?_)
  exact e_out (fun _ => 0) htab hlocks h9 hv9 hcl9 hP hD hS (Nat.le_of_ble_eq_true rfl) (Nat.le_of_ble_eq_true rfl)
set_option maxHeartbeats 4000000 in
set_option maxRecDepth 100000 in
theorem c140_L_bearing (l : Launch) (hfl : l.stackTraces = false) (D : va_G) (cA : Nat → ClassId) (g : gv_T) (h0 h1 h2 h3 h4 h5 h6 : Nat) (p0 : Int32) (k0 : p0 < 0) : CW l yL_bearing cL_bearing 5 (some .int) [(0, 9, 12, 21), (0, 9, 16, 15)] (RM 8 1 6 138) D cA g [.ref h0, .int p0, .int 0, .ref h1] [(h0, .inr (9, [.ref h2, .ref h3, .ref h4, .ref h5, .ref h6]))] (fun q => some (.int 1)) (fun q => [(h0, .inr (9, [.ref h2, .ref h3, .ref h4, .ref h5, .ref h6]))]) := by
  refine CW.of (by decide +kernel) (Nat.le_of_ble_eq_true rfl) ?_
  intro p e s m args below meth c A ls hx hb hr hml hown hG hlocks htab hA hS hP hK hD hGV hl
  have hown : s.vm.findClass RL = some m.cls := hown
  have hl : lv_has ls 5 [(0, .ref h0), (1, .int p0), (2, .int 0), (3, .ref h1)] := hl
  have hSF : CF p m c cL_bearing 5 s args RL := ⟨hx, hb, hml, hown, hG⟩
  refine lv_aload_n hx hb dL_bearing_0 rfl (lv_at hl 3 rfl) ?_
  refine lv_iconst (v := 0) hx hb dL_bearing_1 (by decide) ?_
  refine lv_aload_n hx hb dL_bearing_2 rfl (lv_at hl 0 rfl) ?_
  refine lv_iload_n hx hb dL_bearing_3 rfl (lv_at hl 1 rfl) ?_
  refine lv_iload_n hx hb dL_bearing_4 rfl (lv_at hl 2 rfl) ?_
  refine cx_V (wr := []) hSF hl.1 hP hD hS hA hK hGV (c139_X6_bearing l hfl D cA g h0 h2 h3 h4 h5 h6 (p0) k0) goV_L_34 pd_X6_bearing ⟨(Nat.le_of_ble_eq_true rfl), (Nat.le_of_ble_eq_true rfl)⟩ ⟨(Nat.le_of_ble_eq_true rfl), (Nat.le_of_ble_eq_true rfl)⟩ (va_recv hK hP (ci := 9) (q0 := 0) rfl rfl) dL_bearing_5 rfl (Nat.le_of_ble_eq_true rfl) [0] [] rfl (by decide) rfl (by decide) (by decide) (fun q => [(h0, .inr (9, [.ref h2, .ref h3, .ref h4, .ref h5, .ref h6]))]) (fun _ => rfl) (fun q1 H locs x9 ce9 hP hD hS h9 hv9 hcl9 => ?_)
  refine vx_catch (own := RL) (name := "java/lang/IndexOutOfBoundsException") hown [] { startPc := 0, endPc := 9, handlerPc := 12, catchType := 21 } [{ startPc := 0, endPc := 9, handlerPc := 16, catchType := 15 }] (htab.trans rfl) (fun z hz => nomatch hz) rfl (by decide) (hG _ gw763) (va_Nw.use rfl (hGV.2.2.2.2.1 _ gw797)) h9 hv9 hcl9 ?_
  refine W.eq (g2 := F0 m 12 ls [.ref x9]) rfl ?_
  refine lv_astore (lv' := [(4, .ref x9), (0, .ref h0), (1, .int p0), (2, .int 0), (3, .ref h1)]) hx hb dL_bearing_12 hl (by decide) rfl (fun ls hl => ?_)
  refine lv_iconst (v := 1) hx hb dL_bearing_14 (by decide) ?_
  exact e_i (fun _ => 0) hx hb hr hlocks rfl rfl hP hD hS (Nat.le_of_ble_eq_true rfl) (Nat.le_of_ble_eq_true rfl) dL_bearing_15
set_option maxHeartbeats 4000000 in
set_option maxRecDepth 100000 in
theorem c141_X12_bearing (l : Launch) (hfl : l.stackTraces = false) (D : va_G) (cA : Nat → ClassId) (g : gv_T) (h0 h1 h2 h3 h4 h5 h6 h7 h8 h9 h10 h11 h12 h13 h14 h15 h16 h17 h18 : Nat) (p0 : Int32) (k0 : (lg_cmp p0.toInt64 0) < 0) : CT l yX12_bearing cX12_bearing 3 (some .long) (RM 2 0 0 44) D cA g [.ref h0, .int p0, .int 0] [(h0, .inr (15, [.ref h1, .ref h2, .ref h3, .ref h4, .ref h5, .ref h6, .ref h7, .ref h8, .ref h9, .ref h10, .ref h11, .ref h12, .ref h13, .ref h14, .ref h15, .ref h16, .ref h17, .ref h18, .long 0, .int 0, .int 2, .int 0, .int 0, .int 0, .int 0, .int 0, .int 0])), (h1, .inr (2, [.int 0, .ref g.1, .int 0]))] (fun q => some (.long 0)) (fun q => [(h0, .inr (15, [.ref h1, .ref h2, .ref h3, .ref h4, .ref h5, .ref h6, .ref h7, .ref h8, .ref h9, .ref h10, .ref h11, .ref h12, .ref h13, .ref h14, .ref h15, .ref h16, .ref h17, .ref h18, .long 0, .int 1, .int 2, .int 0, .int 0, .int 0, .int 0, .int 0, .int 0])), (h1, .inr (2, [.int 0, .ref g.1, .int 0]))]) := by
  refine CT.of (by decide +kernel) (Nat.le_of_ble_eq_true rfl) ?_
  intro p e s m args below meth c A ls hx hb hr hml hown hG hlocks hnm hA hS hP hK hD hGV hl
  have hown : s.vm.findClass RX12 = some m.cls := hown
  have hl : lv_has ls 3 [(0, .ref h0), (1, .int p0), (2, .int 0)] := hl
  have hSF : CF p m c cX12_bearing 3 s args RX12 := ⟨hx, hb, hml, hown, hG⟩
  refine lv_aload_n hx hb dX12_bearing_0 rfl (lv_at hl 0 rfl) ?_
  refine lv_iload_n hx hb dX12_bearing_1 rfl (lv_at hl 1 rfl) ?_
  refine ct_V (wr := []) hSF hl.1 hP hD hS hA hK hGV (c95_X12_isNode l hfl D cA g h0 h1 h2 h3 h4 h5 h6 h7 h8 h9 h10 h11 h12 h13 h14 h15 h16 h17 h18 (p0) k0) goV_X12_305 pd_X12_isNode ⟨(Nat.le_of_ble_eq_true rfl), (Nat.le_of_ble_eq_true rfl)⟩ ⟨(Nat.le_of_ble_eq_true rfl), (Nat.le_of_ble_eq_true rfl)⟩ (va_recv hK hP (ci := 15) (q0 := 0) rfl rfl) dX12_bearing_2 rfl (Nat.le_of_ble_eq_true rfl) [0, 1] [] rfl (by decide) rfl (by decide) (by decide) (fun q => [(h0, .inr (15, [.ref h1, .ref h2, .ref h3, .ref h4, .ref h5, .ref h6, .ref h7, .ref h8, .ref h9, .ref h10, .ref h11, .ref h12, .ref h13, .ref h14, .ref h15, .ref h16, .ref h17, .ref h18, .long 0, .int 0, .int 2, .int 0, .int 0, .int 0, .int 0, .int 0, .int 0])), (h1, .inr (2, [.int 0, .ref g.1, .int 0]))]) (fun _ => rfl) (fun q1 H locs hP hD hS => ?_)
  refine W.eq (g2 := F0 m 5 ls [.int 0]) rfl ?_
  refine k_if_ne_f (tgt := 14) hx hb dX12_bearing_5 (by decide) (by decide) ?_
  refine lv_aload_n hx hb dX12_bearing_8 rfl (lv_at hl 0 rfl) ?_
  refine lv_iconst (v := 1) hx hb dX12_bearing_9 (by decide) ?_
  refine ct_V (wr := [(h1, .inr (2, [.int 0, .ref g.1, .int 0]))]) hSF hl.1 hP hD hS hA hK hGV (c126_X12_failsLong l hfl D cA g h0 h1 h2 h3 h4 h5 h6 h7 h8 h9 h10 h11 h12 h13 h14 h15 h16 h17 h18) goV_X12_317 pd_X12_failsLong ⟨(Nat.le_of_ble_eq_true rfl), (Nat.le_of_ble_eq_true rfl)⟩ ⟨(Nat.le_of_ble_eq_true rfl), (Nat.le_of_ble_eq_true rfl)⟩ (va_recv hK hP (ci := 15) (q0 := 0) rfl rfl) dX12_bearing_10 rfl (Nat.le_of_ble_eq_true rfl) [0] [1] rfl (by decide) rfl (by decide) (by decide) (fun q => [(h1, .inr (2, [.int 0, .ref g.1, .int 0])), (h0, .inr (15, [.ref h1, .ref h2, .ref h3, .ref h4, .ref h5, .ref h6, .ref h7, .ref h8, .ref h9, .ref h10, .ref h11, .ref h12, .ref h13, .ref h14, .ref h15, .ref h16, .ref h17, .ref h18, .long 0, .int 1, .int 2, .int 0, .int 0, .int 0, .int 0, .int 0, .int 0]))]) (fun _ => rfl) (fun q2 H locs hP hD hS => ?_)
  refine W.eq (g2 := F0 m 13 ls [.long 0]) rfl ?_
  exact e_l (fun _ => 0) hx hb hr hlocks rfl (hP.sub [1, 0] rfl) (hD.sub [1, 0] (by decide) rfl) hS (Nat.le_of_ble_eq_true rfl) (Nat.le_of_ble_eq_true rfl) dX12_bearing_13
set_option maxHeartbeats 4000000 in
set_option maxRecDepth 100000 in
theorem c142_X6_bearing (l : Launch) (hfl : l.stackTraces = false) (D : va_G) (cA : Nat → ClassId) (g : gv_T) (h0 h1 h2 h3 h4 h5 : Nat) (p0 : Int32) (k0 : p0 < 0) : CX l yX6_bearing cX6_bearing 3 (some .long) (RM 7 1 6 116) D cA g [.ref h0, .int p0, .int 1] [(h0, .inr (9, [.ref h1, .ref h2, .ref h3, .ref h4, .ref h5]))] "java/lang/IndexOutOfBoundsException" (fun q => [(h0, .inr (9, [.ref h1, .ref h2, .ref h3, .ref h4, .ref h5]))]) := by
  refine CX.of (by decide +kernel) (Nat.le_of_ble_eq_true rfl) ?_
  intro p e s m args below meth c A ls hx hb hr hml hown hG hlocks htab hA hS hP hK hD hGV hl
  have hown : s.vm.findClass RX6 = some m.cls := hown
  have hl : lv_has ls 3 [(0, .ref h0), (1, .int p0), (2, .int 1)] := hl
  have hSF : CF p m c cX6_bearing 3 s args RX6 := ⟨hx, hb, hml, hown, hG⟩
  refine lv_aload_n hx hb dX6_bearing_0 rfl (lv_at hl 0 rfl) ?_
  refine lv_iload_n hx hb dX6_bearing_1 rfl (lv_at hl 1 rfl) ?_
  refine cx_V (wr := [(h0, .inr (9, [.ref h1, .ref h2, .ref h3, .ref h4, .ref h5]))]) hSF hl.1 hP hD hS hA hK hGV (c91_X6_checkNode l hfl D cA g h0 (p0) k0) goV_X6_80 pd_X6_checkNode ⟨(Nat.le_of_ble_eq_true rfl), (Nat.le_of_ble_eq_true rfl)⟩ ⟨(Nat.le_of_ble_eq_true rfl), (Nat.le_of_ble_eq_true rfl)⟩ (va_recv hK hP (ci := 9) (q0 := 0) rfl rfl) dX6_bearing_2 rfl (Nat.le_of_ble_eq_true rfl) [] [0] rfl (by decide) rfl (by decide) (by decide) (fun q => [(h0, .inr (9, [.ref h1, .ref h2, .ref h3, .ref h4, .ref h5]))]) (fun _ => rfl) (fun q1 H locs x9 ce9 hP hD hS h9 hv9 hcl9 => ?_)
  exact e_out (fun _ => 0) htab hlocks h9 hv9 hcl9 hP hD hS (Nat.le_of_ble_eq_true rfl) (Nat.le_of_ble_eq_true rfl)
set_option maxHeartbeats 4000000 in
set_option maxRecDepth 100000 in
theorem c143_L_bearing (l : Launch) (hfl : l.stackTraces = false) (D : va_G) (cA : Nat → ClassId) (g : gv_T) (h0 h1 h2 h3 h4 h5 h6 : Nat) (p0 : Int32) (k0 : p0 < 0) : CW l yL_bearing cL_bearing 5 (some .int) [(0, 9, 12, 21), (0, 9, 16, 15)] (RM 8 1 6 138) D cA g [.ref h0, .int p0, .int 1, .ref h1] [(h0, .inr (9, [.ref h2, .ref h3, .ref h4, .ref h5, .ref h6]))] (fun q => some (.int 1)) (fun q => [(h0, .inr (9, [.ref h2, .ref h3, .ref h4, .ref h5, .ref h6]))]) := by
  refine CW.of (by decide +kernel) (Nat.le_of_ble_eq_true rfl) ?_
  intro p e s m args below meth c A ls hx hb hr hml hown hG hlocks htab hA hS hP hK hD hGV hl
  have hown : s.vm.findClass RL = some m.cls := hown
  have hl : lv_has ls 5 [(0, .ref h0), (1, .int p0), (2, .int 1), (3, .ref h1)] := hl
  have hSF : CF p m c cL_bearing 5 s args RL := ⟨hx, hb, hml, hown, hG⟩
  refine lv_aload_n hx hb dL_bearing_0 rfl (lv_at hl 3 rfl) ?_
  refine lv_iconst (v := 0) hx hb dL_bearing_1 (by decide) ?_
  refine lv_aload_n hx hb dL_bearing_2 rfl (lv_at hl 0 rfl) ?_
  refine lv_iload_n hx hb dL_bearing_3 rfl (lv_at hl 1 rfl) ?_
  refine lv_iload_n hx hb dL_bearing_4 rfl (lv_at hl 2 rfl) ?_
  refine cx_V (wr := []) hSF hl.1 hP hD hS hA hK hGV (c142_X6_bearing l hfl D cA g h0 h2 h3 h4 h5 h6 (p0) k0) goV_L_34 pd_X6_bearing ⟨(Nat.le_of_ble_eq_true rfl), (Nat.le_of_ble_eq_true rfl)⟩ ⟨(Nat.le_of_ble_eq_true rfl), (Nat.le_of_ble_eq_true rfl)⟩ (va_recv hK hP (ci := 9) (q0 := 0) rfl rfl) dL_bearing_5 rfl (Nat.le_of_ble_eq_true rfl) [0] [] rfl (by decide) rfl (by decide) (by decide) (fun q => [(h0, .inr (9, [.ref h2, .ref h3, .ref h4, .ref h5, .ref h6]))]) (fun _ => rfl) (fun q1 H locs x9 ce9 hP hD hS h9 hv9 hcl9 => ?_)
  refine vx_catch (own := RL) (name := "java/lang/IndexOutOfBoundsException") hown [] { startPc := 0, endPc := 9, handlerPc := 12, catchType := 21 } [{ startPc := 0, endPc := 9, handlerPc := 16, catchType := 15 }] (htab.trans rfl) (fun z hz => nomatch hz) rfl (by decide) (hG _ gw763) (va_Nw.use rfl (hGV.2.2.2.2.1 _ gw797)) h9 hv9 hcl9 ?_
  refine W.eq (g2 := F0 m 12 ls [.ref x9]) rfl ?_
  refine lv_astore (lv' := [(4, .ref x9), (0, .ref h0), (1, .int p0), (2, .int 1), (3, .ref h1)]) hx hb dL_bearing_12 hl (by decide) rfl (fun ls hl => ?_)
  refine lv_iconst (v := 1) hx hb dL_bearing_14 (by decide) ?_
  exact e_i (fun _ => 0) hx hb hr hlocks rfl rfl hP hD hS (Nat.le_of_ble_eq_true rfl) (Nat.le_of_ble_eq_true rfl) dL_bearing_15
set_option maxHeartbeats 4000000 in
set_option maxRecDepth 100000 in
theorem c144_X12_bearing (l : Launch) (hfl : l.stackTraces = false) (D : va_G) (cA : Nat → ClassId) (g : gv_T) (h0 h1 h2 h3 h4 h5 h6 h7 h8 h9 h10 h11 h12 h13 h14 h15 h16 h17 h18 : Nat) (p0 : Int32) (k0 : (lg_cmp p0.toInt64 0) < 0) : CT l yX12_bearing cX12_bearing 3 (some .long) (RM 2 0 0 44) D cA g [.ref h0, .int p0, .int 1] [(h0, .inr (15, [.ref h1, .ref h2, .ref h3, .ref h4, .ref h5, .ref h6, .ref h7, .ref h8, .ref h9, .ref h10, .ref h11, .ref h12, .ref h13, .ref h14, .ref h15, .ref h16, .ref h17, .ref h18, .long 0, .int 0, .int 2, .int 0, .int 0, .int 0, .int 0, .int 0, .int 0])), (h1, .inr (2, [.int 0, .ref g.1, .int 0]))] (fun q => some (.long 0)) (fun q => [(h0, .inr (15, [.ref h1, .ref h2, .ref h3, .ref h4, .ref h5, .ref h6, .ref h7, .ref h8, .ref h9, .ref h10, .ref h11, .ref h12, .ref h13, .ref h14, .ref h15, .ref h16, .ref h17, .ref h18, .long 0, .int 1, .int 2, .int 0, .int 0, .int 0, .int 0, .int 0, .int 0])), (h1, .inr (2, [.int 0, .ref g.1, .int 0]))]) := by
  refine CT.of (by decide +kernel) (Nat.le_of_ble_eq_true rfl) ?_
  intro p e s m args below meth c A ls hx hb hr hml hown hG hlocks hnm hA hS hP hK hD hGV hl
  have hown : s.vm.findClass RX12 = some m.cls := hown
  have hl : lv_has ls 3 [(0, .ref h0), (1, .int p0), (2, .int 1)] := hl
  have hSF : CF p m c cX12_bearing 3 s args RX12 := ⟨hx, hb, hml, hown, hG⟩
  refine lv_aload_n hx hb dX12_bearing_0 rfl (lv_at hl 0 rfl) ?_
  refine lv_iload_n hx hb dX12_bearing_1 rfl (lv_at hl 1 rfl) ?_
  refine ct_V (wr := []) hSF hl.1 hP hD hS hA hK hGV (c95_X12_isNode l hfl D cA g h0 h1 h2 h3 h4 h5 h6 h7 h8 h9 h10 h11 h12 h13 h14 h15 h16 h17 h18 (p0) k0) goV_X12_305 pd_X12_isNode ⟨(Nat.le_of_ble_eq_true rfl), (Nat.le_of_ble_eq_true rfl)⟩ ⟨(Nat.le_of_ble_eq_true rfl), (Nat.le_of_ble_eq_true rfl)⟩ (va_recv hK hP (ci := 15) (q0 := 0) rfl rfl) dX12_bearing_2 rfl (Nat.le_of_ble_eq_true rfl) [0, 1] [] rfl (by decide) rfl (by decide) (by decide) (fun q => [(h0, .inr (15, [.ref h1, .ref h2, .ref h3, .ref h4, .ref h5, .ref h6, .ref h7, .ref h8, .ref h9, .ref h10, .ref h11, .ref h12, .ref h13, .ref h14, .ref h15, .ref h16, .ref h17, .ref h18, .long 0, .int 0, .int 2, .int 0, .int 0, .int 0, .int 0, .int 0, .int 0])), (h1, .inr (2, [.int 0, .ref g.1, .int 0]))]) (fun _ => rfl) (fun q1 H locs hP hD hS => ?_)
  refine W.eq (g2 := F0 m 5 ls [.int 0]) rfl ?_
  refine k_if_ne_f (tgt := 14) hx hb dX12_bearing_5 (by decide) (by decide) ?_
  refine lv_aload_n hx hb dX12_bearing_8 rfl (lv_at hl 0 rfl) ?_
  refine lv_iconst (v := 1) hx hb dX12_bearing_9 (by decide) ?_
  refine ct_V (wr := [(h1, .inr (2, [.int 0, .ref g.1, .int 0]))]) hSF hl.1 hP hD hS hA hK hGV (c126_X12_failsLong l hfl D cA g h0 h1 h2 h3 h4 h5 h6 h7 h8 h9 h10 h11 h12 h13 h14 h15 h16 h17 h18) goV_X12_317 pd_X12_failsLong ⟨(Nat.le_of_ble_eq_true rfl), (Nat.le_of_ble_eq_true rfl)⟩ ⟨(Nat.le_of_ble_eq_true rfl), (Nat.le_of_ble_eq_true rfl)⟩ (va_recv hK hP (ci := 15) (q0 := 0) rfl rfl) dX12_bearing_10 rfl (Nat.le_of_ble_eq_true rfl) [0] [1] rfl (by decide) rfl (by decide) (by decide) (fun q => [(h1, .inr (2, [.int 0, .ref g.1, .int 0])), (h0, .inr (15, [.ref h1, .ref h2, .ref h3, .ref h4, .ref h5, .ref h6, .ref h7, .ref h8, .ref h9, .ref h10, .ref h11, .ref h12, .ref h13, .ref h14, .ref h15, .ref h16, .ref h17, .ref h18, .long 0, .int 1, .int 2, .int 0, .int 0, .int 0, .int 0, .int 0, .int 0]))]) (fun _ => rfl) (fun q2 H locs hP hD hS => ?_)
  refine W.eq (g2 := F0 m 13 ls [.long 0]) rfl ?_
  exact e_l (fun _ => 0) hx hb hr hlocks rfl (hP.sub [1, 0] rfl) (hD.sub [1, 0] (by decide) rfl) hS (Nat.le_of_ble_eq_true rfl) (Nat.le_of_ble_eq_true rfl) dX12_bearing_13
set_option maxHeartbeats 4000000 in
set_option maxRecDepth 100000 in
theorem c145_X6_bearing (l : Launch) (hfl : l.stackTraces = false) (D : va_G) (cA : Nat → ClassId) (g : gv_T) (h0 h1 h2 h3 h4 h5 h6 h7 h8 h9 h10 h11 h12 h13 h14 h15 : Nat) (p0 : Int32) (k0 : ¬ p0 < 0) : CX l yX6_bearing cX6_bearing 3 (some .long) (RM 7 1 6 116) D cA g [.ref h0, .int p0, .int 0] [(h0, .inr (9, [.ref h1, .ref h2, .ref h3, .ref h4, .ref h5])), (h1, .inr (5, [.int 0, .int 0, .ref h6, .ref h7, .ref h8, .ref h9, .ref h10, .ref h11, .ref h12, .ref h13, .ref h14, .ref h15]))] "java/lang/IndexOutOfBoundsException" (fun q => [(h0, .inr (9, [.ref h1, .ref h2, .ref h3, .ref h4, .ref h5])), (h1, .inr (5, [.int 0, .int 0, .ref h6, .ref h7, .ref h8, .ref h9, .ref h10, .ref h11, .ref h12, .ref h13, .ref h14, .ref h15]))]) := by
  refine CX.of (by decide +kernel) (Nat.le_of_ble_eq_true rfl) ?_
  intro p e s m args below meth c A ls hx hb hr hml hown hG hlocks htab hA hS hP hK hD hGV hl
  have hown : s.vm.findClass RX6 = some m.cls := hown
  have hl : lv_has ls 3 [(0, .ref h0), (1, .int p0), (2, .int 0)] := hl
  have hSF : CF p m c cX6_bearing 3 s args RX6 := ⟨hx, hb, hml, hown, hG⟩
  refine lv_aload_n hx hb dX6_bearing_0 rfl (lv_at hl 0 rfl) ?_
  refine lv_iload_n hx hb dX6_bearing_1 rfl (lv_at hl 1 rfl) ?_
  refine cx_V (wr := []) hSF hl.1 hP hD hS hA hK hGV (c97_X6_checkNode l hfl D cA g h0 h1 h2 h3 h4 h5 h6 h7 h8 h9 h10 h11 h12 h13 h14 h15 (p0) k0) goV_X6_80 pd_X6_checkNode ⟨(Nat.le_of_ble_eq_true rfl), (Nat.le_of_ble_eq_true rfl)⟩ ⟨(Nat.le_of_ble_eq_true rfl), (Nat.le_of_ble_eq_true rfl)⟩ (va_recv hK hP (ci := 9) (q0 := 0) rfl rfl) dX6_bearing_2 rfl (Nat.le_of_ble_eq_true rfl) [0, 1] [] rfl (by decide) rfl (by decide) (by decide) (fun q => [(h0, .inr (9, [.ref h1, .ref h2, .ref h3, .ref h4, .ref h5])), (h1, .inr (5, [.int 0, .int 0, .ref h6, .ref h7, .ref h8, .ref h9, .ref h10, .ref h11, .ref h12, .ref h13, .ref h14, .ref h15]))]) (fun _ => rfl) (fun q1 H locs x9 ce9 hP hD hS h9 hv9 hcl9 => ?_)
  exact e_out (fun _ => 0) htab hlocks h9 hv9 hcl9 hP hD hS (Nat.le_of_ble_eq_true rfl) (Nat.le_of_ble_eq_true rfl)
set_option maxHeartbeats 4000000 in
set_option maxRecDepth 100000 in
theorem c146_L_bearing (l : Launch) (hfl : l.stackTraces = false) (D : va_G) (cA : Nat → ClassId) (g : gv_T) (h0 h1 h2 h3 h4 h5 h6 h7 h8 h9 h10 h11 h12 h13 h14 h15 h16 : Nat) (p0 : Int32) (k0 : ¬ p0 < 0) : CW l yL_bearing cL_bearing 5 (some .int) [(0, 9, 12, 21), (0, 9, 16, 15)] (RM 8 1 6 138) D cA g [.ref h0, .int p0, .int 0, .ref h1] [(h0, .inr (9, [.ref h2, .ref h3, .ref h4, .ref h5, .ref h6])), (h2, .inr (5, [.int 0, .int 0, .ref h7, .ref h8, .ref h9, .ref h10, .ref h11, .ref h12, .ref h13, .ref h14, .ref h15, .ref h16]))] (fun q => some (.int 1)) (fun q => [(h0, .inr (9, [.ref h2, .ref h3, .ref h4, .ref h5, .ref h6])), (h2, .inr (5, [.int 0, .int 0, .ref h7, .ref h8, .ref h9, .ref h10, .ref h11, .ref h12, .ref h13, .ref h14, .ref h15, .ref h16]))]) := by
  refine CW.of (by decide +kernel) (Nat.le_of_ble_eq_true rfl) ?_
  intro p e s m args below meth c A ls hx hb hr hml hown hG hlocks htab hA hS hP hK hD hGV hl
  have hown : s.vm.findClass RL = some m.cls := hown
  have hl : lv_has ls 5 [(0, .ref h0), (1, .int p0), (2, .int 0), (3, .ref h1)] := hl
  have hSF : CF p m c cL_bearing 5 s args RL := ⟨hx, hb, hml, hown, hG⟩
  refine lv_aload_n hx hb dL_bearing_0 rfl (lv_at hl 3 rfl) ?_
  refine lv_iconst (v := 0) hx hb dL_bearing_1 (by decide) ?_
  refine lv_aload_n hx hb dL_bearing_2 rfl (lv_at hl 0 rfl) ?_
  refine lv_iload_n hx hb dL_bearing_3 rfl (lv_at hl 1 rfl) ?_
  refine lv_iload_n hx hb dL_bearing_4 rfl (lv_at hl 2 rfl) ?_
  refine cx_V (wr := []) hSF hl.1 hP hD hS hA hK hGV (c145_X6_bearing l hfl D cA g h0 h2 h3 h4 h5 h6 h7 h8 h9 h10 h11 h12 h13 h14 h15 h16 (p0) k0) goV_L_34 pd_X6_bearing ⟨(Nat.le_of_ble_eq_true rfl), (Nat.le_of_ble_eq_true rfl)⟩ ⟨(Nat.le_of_ble_eq_true rfl), (Nat.le_of_ble_eq_true rfl)⟩ (va_recv hK hP (ci := 9) (q0 := 0) rfl rfl) dL_bearing_5 rfl (Nat.le_of_ble_eq_true rfl) [0, 1] [] rfl (by decide) rfl (by decide) (by decide) (fun q => [(h0, .inr (9, [.ref h2, .ref h3, .ref h4, .ref h5, .ref h6])), (h2, .inr (5, [.int 0, .int 0, .ref h7, .ref h8, .ref h9, .ref h10, .ref h11, .ref h12, .ref h13, .ref h14, .ref h15, .ref h16]))]) (fun _ => rfl) (fun q1 H locs x9 ce9 hP hD hS h9 hv9 hcl9 => ?_)
  refine vx_catch (own := RL) (name := "java/lang/IndexOutOfBoundsException") hown [] { startPc := 0, endPc := 9, handlerPc := 12, catchType := 21 } [{ startPc := 0, endPc := 9, handlerPc := 16, catchType := 15 }] (htab.trans rfl) (fun z hz => nomatch hz) rfl (by decide) (hG _ gw763) (va_Nw.use rfl (hGV.2.2.2.2.1 _ gw797)) h9 hv9 hcl9 ?_
  refine W.eq (g2 := F0 m 12 ls [.ref x9]) rfl ?_
  refine lv_astore (lv' := [(4, .ref x9), (0, .ref h0), (1, .int p0), (2, .int 0), (3, .ref h1)]) hx hb dL_bearing_12 hl (by decide) rfl (fun ls hl => ?_)
  refine lv_iconst (v := 1) hx hb dL_bearing_14 (by decide) ?_
  exact e_i (fun _ => 0) hx hb hr hlocks rfl rfl hP hD hS (Nat.le_of_ble_eq_true rfl) (Nat.le_of_ble_eq_true rfl) dL_bearing_15
set_option maxHeartbeats 4000000 in
set_option maxRecDepth 100000 in
theorem c147_X12_bearing (l : Launch) (hfl : l.stackTraces = false) (D : va_G) (cA : Nat → ClassId) (g : gv_T) (h0 h1 h2 h3 h4 h5 h6 h7 h8 h9 h10 h11 h12 h13 h14 h15 h16 h17 h18 : Nat) (p0 : Int32) (k0 : ¬ (lg_cmp p0.toInt64 0) < 0) (k1 : 0 < (lg_cmp p0.toInt64 (-1))) : CT l yX12_bearing cX12_bearing 3 (some .long) (RM 2 0 0 44) D cA g [.ref h0, .int p0, .int 0] [(h0, .inr (15, [.ref h1, .ref h2, .ref h3, .ref h4, .ref h5, .ref h6, .ref h7, .ref h8, .ref h9, .ref h10, .ref h11, .ref h12, .ref h13, .ref h14, .ref h15, .ref h16, .ref h17, .ref h18, .long 0, .int 0, .int 2, .int 0, .int 0, .int 0, .int 0, .int 0, .int 0])), (h1, .inr (2, [.int 0, .ref g.1, .int 0]))] (fun q => some (.long 0)) (fun q => [(h0, .inr (15, [.ref h1, .ref h2, .ref h3, .ref h4, .ref h5, .ref h6, .ref h7, .ref h8, .ref h9, .ref h10, .ref h11, .ref h12, .ref h13, .ref h14, .ref h15, .ref h16, .ref h17, .ref h18, .long 0, .int 1, .int 2, .int 0, .int 0, .int 0, .int 0, .int 0, .int 0])), (h1, .inr (2, [.int 0, .ref g.1, .int 0]))]) := by
  refine CT.of (by decide +kernel) (Nat.le_of_ble_eq_true rfl) ?_
  intro p e s m args below meth c A ls hx hb hr hml hown hG hlocks hnm hA hS hP hK hD hGV hl
  have hown : s.vm.findClass RX12 = some m.cls := hown
  have hl : lv_has ls 3 [(0, .ref h0), (1, .int p0), (2, .int 0)] := hl
  have hSF : CF p m c cX12_bearing 3 s args RX12 := ⟨hx, hb, hml, hown, hG⟩
  refine lv_aload_n hx hb dX12_bearing_0 rfl (lv_at hl 0 rfl) ?_
  refine lv_iload_n hx hb dX12_bearing_1 rfl (lv_at hl 1 rfl) ?_
  refine ct_V (wr := []) hSF hl.1 hP hD hS hA hK hGV (c101_X12_isNode l hfl D cA g h0 h1 h2 h3 h4 h5 h6 h7 h8 h9 h10 h11 h12 h13 h14 h15 h16 h17 h18 (p0) k0 k1) goV_X12_305 pd_X12_isNode ⟨(Nat.le_of_ble_eq_true rfl), (Nat.le_of_ble_eq_true rfl)⟩ ⟨(Nat.le_of_ble_eq_true rfl), (Nat.le_of_ble_eq_true rfl)⟩ (va_recv hK hP (ci := 15) (q0 := 0) rfl rfl) dX12_bearing_2 rfl (Nat.le_of_ble_eq_true rfl) [0, 1] [] rfl (by decide) rfl (by decide) (by decide) (fun q => [(h0, .inr (15, [.ref h1, .ref h2, .ref h3, .ref h4, .ref h5, .ref h6, .ref h7, .ref h8, .ref h9, .ref h10, .ref h11, .ref h12, .ref h13, .ref h14, .ref h15, .ref h16, .ref h17, .ref h18, .long 0, .int 0, .int 2, .int 0, .int 0, .int 0, .int 0, .int 0, .int 0])), (h1, .inr (2, [.int 0, .ref g.1, .int 0]))]) (fun _ => rfl) (fun q1 H locs hP hD hS => ?_)
  refine W.eq (g2 := F0 m 5 ls [.int 0]) rfl ?_
  refine k_if_ne_f (tgt := 14) hx hb dX12_bearing_5 (by decide) (by decide) ?_
  refine lv_aload_n hx hb dX12_bearing_8 rfl (lv_at hl 0 rfl) ?_
  refine lv_iconst (v := 1) hx hb dX12_bearing_9 (by decide) ?_
  refine ct_V (wr := [(h1, .inr (2, [.int 0, .ref g.1, .int 0]))]) hSF hl.1 hP hD hS hA hK hGV (c126_X12_failsLong l hfl D cA g h0 h1 h2 h3 h4 h5 h6 h7 h8 h9 h10 h11 h12 h13 h14 h15 h16 h17 h18) goV_X12_317 pd_X12_failsLong ⟨(Nat.le_of_ble_eq_true rfl), (Nat.le_of_ble_eq_true rfl)⟩ ⟨(Nat.le_of_ble_eq_true rfl), (Nat.le_of_ble_eq_true rfl)⟩ (va_recv hK hP (ci := 15) (q0 := 0) rfl rfl) dX12_bearing_10 rfl (Nat.le_of_ble_eq_true rfl) [0] [1] rfl (by decide) rfl (by decide) (by decide) (fun q => [(h1, .inr (2, [.int 0, .ref g.1, .int 0])), (h0, .inr (15, [.ref h1, .ref h2, .ref h3, .ref h4, .ref h5, .ref h6, .ref h7, .ref h8, .ref h9, .ref h10, .ref h11, .ref h12, .ref h13, .ref h14, .ref h15, .ref h16, .ref h17, .ref h18, .long 0, .int 1, .int 2, .int 0, .int 0, .int 0, .int 0, .int 0, .int 0]))]) (fun _ => rfl) (fun q2 H locs hP hD hS => ?_)
  refine W.eq (g2 := F0 m 13 ls [.long 0]) rfl ?_
  exact e_l (fun _ => 0) hx hb hr hlocks rfl (hP.sub [1, 0] rfl) (hD.sub [1, 0] (by decide) rfl) hS (Nat.le_of_ble_eq_true rfl) (Nat.le_of_ble_eq_true rfl) dX12_bearing_13
set_option maxHeartbeats 4000000 in
set_option maxRecDepth 100000 in
theorem c148_X6_bearing (l : Launch) (hfl : l.stackTraces = false) (D : va_G) (cA : Nat → ClassId) (g : gv_T) (h0 h1 h2 h3 h4 h5 h6 h7 h8 h9 h10 h11 h12 h13 h14 h15 : Nat) (p0 : Int32) (k0 : ¬ p0 < 0) : CX l yX6_bearing cX6_bearing 3 (some .long) (RM 7 1 6 116) D cA g [.ref h0, .int p0, .int 1] [(h0, .inr (9, [.ref h1, .ref h2, .ref h3, .ref h4, .ref h5])), (h1, .inr (5, [.int 0, .int 0, .ref h6, .ref h7, .ref h8, .ref h9, .ref h10, .ref h11, .ref h12, .ref h13, .ref h14, .ref h15]))] "java/lang/IndexOutOfBoundsException" (fun q => [(h0, .inr (9, [.ref h1, .ref h2, .ref h3, .ref h4, .ref h5])), (h1, .inr (5, [.int 0, .int 0, .ref h6, .ref h7, .ref h8, .ref h9, .ref h10, .ref h11, .ref h12, .ref h13, .ref h14, .ref h15]))]) := by
  refine CX.of (by decide +kernel) (Nat.le_of_ble_eq_true rfl) ?_
  intro p e s m args below meth c A ls hx hb hr hml hown hG hlocks htab hA hS hP hK hD hGV hl
  have hown : s.vm.findClass RX6 = some m.cls := hown
  have hl : lv_has ls 3 [(0, .ref h0), (1, .int p0), (2, .int 1)] := hl
  have hSF : CF p m c cX6_bearing 3 s args RX6 := ⟨hx, hb, hml, hown, hG⟩
  refine lv_aload_n hx hb dX6_bearing_0 rfl (lv_at hl 0 rfl) ?_
  refine lv_iload_n hx hb dX6_bearing_1 rfl (lv_at hl 1 rfl) ?_
  refine cx_V (wr := []) hSF hl.1 hP hD hS hA hK hGV (c97_X6_checkNode l hfl D cA g h0 h1 h2 h3 h4 h5 h6 h7 h8 h9 h10 h11 h12 h13 h14 h15 (p0) k0) goV_X6_80 pd_X6_checkNode ⟨(Nat.le_of_ble_eq_true rfl), (Nat.le_of_ble_eq_true rfl)⟩ ⟨(Nat.le_of_ble_eq_true rfl), (Nat.le_of_ble_eq_true rfl)⟩ (va_recv hK hP (ci := 9) (q0 := 0) rfl rfl) dX6_bearing_2 rfl (Nat.le_of_ble_eq_true rfl) [0, 1] [] rfl (by decide) rfl (by decide) (by decide) (fun q => [(h0, .inr (9, [.ref h1, .ref h2, .ref h3, .ref h4, .ref h5])), (h1, .inr (5, [.int 0, .int 0, .ref h6, .ref h7, .ref h8, .ref h9, .ref h10, .ref h11, .ref h12, .ref h13, .ref h14, .ref h15]))]) (fun _ => rfl) (fun q1 H locs x9 ce9 hP hD hS h9 hv9 hcl9 => ?_)
  exact e_out (fun _ => 0) htab hlocks h9 hv9 hcl9 hP hD hS (Nat.le_of_ble_eq_true rfl) (Nat.le_of_ble_eq_true rfl)
set_option maxHeartbeats 4000000 in
set_option maxRecDepth 100000 in
theorem c149_L_bearing (l : Launch) (hfl : l.stackTraces = false) (D : va_G) (cA : Nat → ClassId) (g : gv_T) (h0 h1 h2 h3 h4 h5 h6 h7 h8 h9 h10 h11 h12 h13 h14 h15 h16 : Nat) (p0 : Int32) (k0 : ¬ p0 < 0) : CW l yL_bearing cL_bearing 5 (some .int) [(0, 9, 12, 21), (0, 9, 16, 15)] (RM 8 1 6 138) D cA g [.ref h0, .int p0, .int 1, .ref h1] [(h0, .inr (9, [.ref h2, .ref h3, .ref h4, .ref h5, .ref h6])), (h2, .inr (5, [.int 0, .int 0, .ref h7, .ref h8, .ref h9, .ref h10, .ref h11, .ref h12, .ref h13, .ref h14, .ref h15, .ref h16]))] (fun q => some (.int 1)) (fun q => [(h0, .inr (9, [.ref h2, .ref h3, .ref h4, .ref h5, .ref h6])), (h2, .inr (5, [.int 0, .int 0, .ref h7, .ref h8, .ref h9, .ref h10, .ref h11, .ref h12, .ref h13, .ref h14, .ref h15, .ref h16]))]) := by
  refine CW.of (by decide +kernel) (Nat.le_of_ble_eq_true rfl) ?_
  intro p e s m args below meth c A ls hx hb hr hml hown hG hlocks htab hA hS hP hK hD hGV hl
  have hown : s.vm.findClass RL = some m.cls := hown
  have hl : lv_has ls 5 [(0, .ref h0), (1, .int p0), (2, .int 1), (3, .ref h1)] := hl
  have hSF : CF p m c cL_bearing 5 s args RL := ⟨hx, hb, hml, hown, hG⟩
  refine lv_aload_n hx hb dL_bearing_0 rfl (lv_at hl 3 rfl) ?_
  refine lv_iconst (v := 0) hx hb dL_bearing_1 (by decide) ?_
  refine lv_aload_n hx hb dL_bearing_2 rfl (lv_at hl 0 rfl) ?_
  refine lv_iload_n hx hb dL_bearing_3 rfl (lv_at hl 1 rfl) ?_
  refine lv_iload_n hx hb dL_bearing_4 rfl (lv_at hl 2 rfl) ?_
  refine cx_V (wr := []) hSF hl.1 hP hD hS hA hK hGV (c148_X6_bearing l hfl D cA g h0 h2 h3 h4 h5 h6 h7 h8 h9 h10 h11 h12 h13 h14 h15 h16 (p0) k0) goV_L_34 pd_X6_bearing ⟨(Nat.le_of_ble_eq_true rfl), (Nat.le_of_ble_eq_true rfl)⟩ ⟨(Nat.le_of_ble_eq_true rfl), (Nat.le_of_ble_eq_true rfl)⟩ (va_recv hK hP (ci := 9) (q0 := 0) rfl rfl) dL_bearing_5 rfl (Nat.le_of_ble_eq_true rfl) [0, 1] [] rfl (by decide) rfl (by decide) (by decide) (fun q => [(h0, .inr (9, [.ref h2, .ref h3, .ref h4, .ref h5, .ref h6])), (h2, .inr (5, [.int 0, .int 0, .ref h7, .ref h8, .ref h9, .ref h10, .ref h11, .ref h12, .ref h13, .ref h14, .ref h15, .ref h16]))]) (fun _ => rfl) (fun q1 H locs x9 ce9 hP hD hS h9 hv9 hcl9 => ?_)
  refine vx_catch (own := RL) (name := "java/lang/IndexOutOfBoundsException") hown [] { startPc := 0, endPc := 9, handlerPc := 12, catchType := 21 } [{ startPc := 0, endPc := 9, handlerPc := 16, catchType := 15 }] (htab.trans rfl) (fun z hz => nomatch hz) rfl (by decide) (hG _ gw763) (va_Nw.use rfl (hGV.2.2.2.2.1 _ gw797)) h9 hv9 hcl9 ?_
  refine W.eq (g2 := F0 m 12 ls [.ref x9]) rfl ?_
  refine lv_astore (lv' := [(4, .ref x9), (0, .ref h0), (1, .int p0), (2, .int 1), (3, .ref h1)]) hx hb dL_bearing_12 hl (by decide) rfl (fun ls hl => ?_)
  refine lv_iconst (v := 1) hx hb dL_bearing_14 (by decide) ?_
  exact e_i (fun _ => 0) hx hb hr hlocks rfl rfl hP hD hS (Nat.le_of_ble_eq_true rfl) (Nat.le_of_ble_eq_true rfl) dL_bearing_15
set_option maxHeartbeats 4000000 in
set_option maxRecDepth 100000 in
theorem c150_X12_bearing (l : Launch) (hfl : l.stackTraces = false) (D : va_G) (cA : Nat → ClassId) (g : gv_T) (h0 h1 h2 h3 h4 h5 h6 h7 h8 h9 h10 h11 h12 h13 h14 h15 h16 h17 h18 : Nat) (p0 : Int32) (k0 : ¬ (lg_cmp p0.toInt64 0) < 0) (k1 : 0 < (lg_cmp p0.toInt64 (-1))) : CT l yX12_bearing cX12_bearing 3 (some .long) (RM 2 0 0 44) D cA g [.ref h0, .int p0, .int 1] [(h0, .inr (15, [.ref h1, .ref h2, .ref h3, .ref h4, .ref h5, .ref h6, .ref h7, .ref h8, .ref h9, .ref h10, .ref h11, .ref h12, .ref h13, .ref h14, .ref h15, .ref h16, .ref h17, .ref h18, .long 0, .int 0, .int 2, .int 0, .int 0, .int 0, .int 0, .int 0, .int 0])), (h1, .inr (2, [.int 0, .ref g.1, .int 0]))] (fun q => some (.long 0)) (fun q => [(h0, .inr (15, [.ref h1, .ref h2, .ref h3, .ref h4, .ref h5, .ref h6, .ref h7, .ref h8, .ref h9, .ref h10, .ref h11, .ref h12, .ref h13, .ref h14, .ref h15, .ref h16, .ref h17, .ref h18, .long 0, .int 1, .int 2, .int 0, .int 0, .int 0, .int 0, .int 0, .int 0])), (h1, .inr (2, [.int 0, .ref g.1, .int 0]))]) := by
  refine CT.of (by decide +kernel) (Nat.le_of_ble_eq_true rfl) ?_
  intro p e s m args below meth c A ls hx hb hr hml hown hG hlocks hnm hA hS hP hK hD hGV hl
  have hown : s.vm.findClass RX12 = some m.cls := hown
  have hl : lv_has ls 3 [(0, .ref h0), (1, .int p0), (2, .int 1)] := hl
  have hSF : CF p m c cX12_bearing 3 s args RX12 := ⟨hx, hb, hml, hown, hG⟩
  refine lv_aload_n hx hb dX12_bearing_0 rfl (lv_at hl 0 rfl) ?_
  refine lv_iload_n hx hb dX12_bearing_1 rfl (lv_at hl 1 rfl) ?_
  refine ct_V (wr := []) hSF hl.1 hP hD hS hA hK hGV (c101_X12_isNode l hfl D cA g h0 h1 h2 h3 h4 h5 h6 h7 h8 h9 h10 h11 h12 h13 h14 h15 h16 h17 h18 (p0) k0 k1) goV_X12_305 pd_X12_isNode ⟨(Nat.le_of_ble_eq_true rfl), (Nat.le_of_ble_eq_true rfl)⟩ ⟨(Nat.le_of_ble_eq_true rfl), (Nat.le_of_ble_eq_true rfl)⟩ (va_recv hK hP (ci := 15) (q0 := 0) rfl rfl) dX12_bearing_2 rfl (Nat.le_of_ble_eq_true rfl) [0, 1] [] rfl (by decide) rfl (by decide) (by decide) (fun q => [(h0, .inr (15, [.ref h1, .ref h2, .ref h3, .ref h4, .ref h5, .ref h6, .ref h7, .ref h8, .ref h9, .ref h10, .ref h11, .ref h12, .ref h13, .ref h14, .ref h15, .ref h16, .ref h17, .ref h18, .long 0, .int 0, .int 2, .int 0, .int 0, .int 0, .int 0, .int 0, .int 0])), (h1, .inr (2, [.int 0, .ref g.1, .int 0]))]) (fun _ => rfl) (fun q1 H locs hP hD hS => ?_)
  refine W.eq (g2 := F0 m 5 ls [.int 0]) rfl ?_
  refine k_if_ne_f (tgt := 14) hx hb dX12_bearing_5 (by decide) (by decide) ?_
  refine lv_aload_n hx hb dX12_bearing_8 rfl (lv_at hl 0 rfl) ?_
  refine lv_iconst (v := 1) hx hb dX12_bearing_9 (by decide) ?_
  refine ct_V (wr := [(h1, .inr (2, [.int 0, .ref g.1, .int 0]))]) hSF hl.1 hP hD hS hA hK hGV (c126_X12_failsLong l hfl D cA g h0 h1 h2 h3 h4 h5 h6 h7 h8 h9 h10 h11 h12 h13 h14 h15 h16 h17 h18) goV_X12_317 pd_X12_failsLong ⟨(Nat.le_of_ble_eq_true rfl), (Nat.le_of_ble_eq_true rfl)⟩ ⟨(Nat.le_of_ble_eq_true rfl), (Nat.le_of_ble_eq_true rfl)⟩ (va_recv hK hP (ci := 15) (q0 := 0) rfl rfl) dX12_bearing_10 rfl (Nat.le_of_ble_eq_true rfl) [0] [1] rfl (by decide) rfl (by decide) (by decide) (fun q => [(h1, .inr (2, [.int 0, .ref g.1, .int 0])), (h0, .inr (15, [.ref h1, .ref h2, .ref h3, .ref h4, .ref h5, .ref h6, .ref h7, .ref h8, .ref h9, .ref h10, .ref h11, .ref h12, .ref h13, .ref h14, .ref h15, .ref h16, .ref h17, .ref h18, .long 0, .int 1, .int 2, .int 0, .int 0, .int 0, .int 0, .int 0, .int 0]))]) (fun _ => rfl) (fun q2 H locs hP hD hS => ?_)
  refine W.eq (g2 := F0 m 13 ls [.long 0]) rfl ?_
  exact e_l (fun _ => 0) hx hb hr hlocks rfl (hP.sub [1, 0] rfl) (hD.sub [1, 0] (by decide) rfl) hS (Nat.le_of_ble_eq_true rfl) (Nat.le_of_ble_eq_true rfl) dX12_bearing_13
set_option maxHeartbeats 4000000 in
set_option maxRecDepth 100000 in
theorem c151_X6_isBalanced (l : Launch) (hfl : l.stackTraces = false) (D : va_G) (cA : Nat → ClassId) (g : gv_T) (h0 : Nat) (p0 : Int32) (k0 : p0 < 0) : CX l yX6_isBalanced cX6_isBalanced 2 (some .boolean) (RM 6 1 6 95) D cA g [.ref h0, .int p0] [] "java/lang/IllegalArgumentException" (fun q => []) := by
  refine CX.of (by decide +kernel) (Nat.le_of_ble_eq_true rfl) ?_
  intro p e s m args below meth c A ls hx hb hr hml hown hG hlocks htab hA hS hP hK hD hGV hl
  have hown : s.vm.findClass RX6 = some m.cls := hown
  have hl : lv_has ls 2 [(0, .ref h0), (1, .int p0)] := hl
  have hSF : CF p m c cX6_isBalanced 2 s args RX6 := ⟨hx, hb, hml, hown, hG⟩
  refine lv_iload_n hx hb dX6_isBalanced_0 rfl (lv_at hl 1 rfl) ?_
  refine lv_iconst (v := 0) hx hb dX6_isBalanced_1 (by decide) ?_
  refine lv_bipush (v := 30) hx hb dX6_isBalanced_2 (by decide) ?_
  refine ct_S (wr := []) hSF hl.1 hP hD hS hA hK hGV (c11_X6_isWithin l hfl D cA g (p0) k0) goS_X6_44 pd_X6_isWithin.2 ⟨(Nat.le_of_ble_eq_true rfl), (Nat.le_of_ble_eq_true rfl)⟩ ⟨(Nat.le_of_ble_eq_true rfl), (Nat.le_of_ble_eq_true rfl)⟩ dX6_isBalanced_4 rfl (Nat.le_of_ble_eq_true rfl) [] [] rfl (by decide) rfl (by decide) (by decide) (fun q => []) (fun _ => rfl) (fun q1 H locs hP hD hS => ?_)
  refine W.eq (g2 := F0 m 7 ls [.int 0]) rfl ?_
  refine k_if_ne_f (tgt := 20) hx hb dX6_isBalanced_7 (by decide) (by decide) ?_
  exact e_throw (fun _ => 0) (names := ["java/lang/RuntimeException", "java/lang/Exception"]) 9 hx hb hfl hown hG hGV htab hlocks (hl.1.trans hml.symm) (by decide +kernel) (by decide +kernel) gw668 gw95 rfl xat_X6_60 hP hD hS dX6_isBalanced_10 dX6_isBalanced_13 dX6_isBalanced_14 dX6_isBalanced_16 dX6_isBalanced_19 (Nat.le_of_ble_eq_true rfl) (Nat.le_of_ble_eq_true rfl) (Nat.le_of_ble_eq_true rfl) (Nat.le_of_ble_eq_true rfl) (Nat.le_of_ble_eq_true rfl) (Nat.le_of_ble_eq_true rfl)
set_option maxHeartbeats 4000000 in
set_option maxRecDepth 100000 in
theorem c152_L_isBalanced (l : Launch) (hfl : l.stackTraces = false) (D : va_G) (cA : Nat → ClassId) (g : gv_T) (h0 h1 h2 h3 h4 h5 h6 : Nat) (p0 : Int32) (k0 : p0 < 0) : CW l yL_isBalanced cL_isBalanced 4 (some .int) [(0, 16, 19, 13), (0, 16, 22, 15)] (RM 7 1 6 116) D cA g [.ref h0, .int p0, .ref h1] [(h0, .inr (9, [.ref h2, .ref h3, .ref h4, .ref h5, .ref h6]))] (fun q => some (.int 1)) (fun q => [(h0, .inr (9, [.ref h2, .ref h3, .ref h4, .ref h5, .ref h6]))]) := by
  refine CW.of (by decide +kernel) (Nat.le_of_ble_eq_true rfl) ?_
  intro p e s m args below meth c A ls hx hb hr hml hown hG hlocks htab hA hS hP hK hD hGV hl
  have hown : s.vm.findClass RL = some m.cls := hown
  have hl : lv_has ls 4 [(0, .ref h0), (1, .int p0), (2, .ref h1)] := hl
  have hSF : CF p m c cL_isBalanced 4 s args RL := ⟨hx, hb, hml, hown, hG⟩
  refine lv_aload_n hx hb dL_isBalanced_0 rfl (lv_at hl 2 rfl) ?_
  refine lv_iconst (v := 0) hx hb dL_isBalanced_1 (by decide) ?_
  refine lv_aload_n hx hb dL_isBalanced_2 rfl (lv_at hl 0 rfl) ?_
  refine lv_iload_n hx hb dL_isBalanced_3 rfl (lv_at hl 1 rfl) ?_
  refine cx_V (wr := [(h0, .inr (9, [.ref h2, .ref h3, .ref h4, .ref h5, .ref h6]))]) hSF hl.1 hP hD hS hA hK hGV (c151_X6_isBalanced l hfl D cA g h0 (p0) k0) goV_L_38 pd_X6_isBalanced ⟨(Nat.le_of_ble_eq_true rfl), (Nat.le_of_ble_eq_true rfl)⟩ ⟨(Nat.le_of_ble_eq_true rfl), (Nat.le_of_ble_eq_true rfl)⟩ (va_recv hK hP (ci := 9) (q0 := 0) rfl rfl) dL_isBalanced_4 rfl (Nat.le_of_ble_eq_true rfl) [] [0] rfl (by decide) rfl (by decide) (by decide) (fun q => [(h0, .inr (9, [.ref h2, .ref h3, .ref h4, .ref h5, .ref h6]))]) (fun _ => rfl) (fun q1 H locs x9 ce9 hP hD hS h9 hv9 hcl9 => ?_)
  refine vx_catch (own := RL) (name := "java/lang/IllegalArgumentException") hown [] { startPc := 0, endPc := 16, handlerPc := 19, catchType := 13 } [{ startPc := 0, endPc := 16, handlerPc := 22, catchType := 15 }] (htab.trans rfl) (fun z hz => nomatch hz) rfl (by decide) (hG _ gw572) (va_Nw.use rfl (hGV.2.2.2.2.1 _ gw670)) h9 hv9 hcl9 ?_
  refine W.eq (g2 := F0 m 19 ls [.ref x9]) rfl ?_
  refine lv_astore_n (lv' := [(3, .ref x9), (0, .ref h0), (1, .int p0), (2, .ref h1)]) hx hb dL_isBalanced_19 rfl hl (by decide) rfl (fun ls hl => ?_)
  refine lv_iconst (v := 1) hx hb dL_isBalanced_20 (by decide) ?_
  exact e_i (fun _ => 0) hx hb hr hlocks rfl rfl hP hD hS (Nat.le_of_ble_eq_true rfl) (Nat.le_of_ble_eq_true rfl) dL_isBalanced_21
set_option maxHeartbeats 4000000 in
set_option maxRecDepth 100000 in
theorem c153_X12_refuses (l : Launch) (hfl : l.stackTraces = false) (D : va_G) (cA : Nat → ClassId) (g : gv_T) (h0 h1 h2 h3 h4 h5 h6 h7 h8 h9 h10 h11 h12 h13 h14 h15 h16 h17 h18 : Nat) : CT l yX12_refuses cX12_refuses 2 (some .boolean) (RM 0 0 0 0) D cA g [.ref h0, .int 1] [(h0, .inr (15, [.ref h1, .ref h2, .ref h3, .ref h4, .ref h5, .ref h6, .ref h7, .ref h8, .ref h9, .ref h10, .ref h11, .ref h12, .ref h13, .ref h14, .ref h15, .ref h16, .ref h17, .ref h18, .long 0, .int 0, .int 2, .int 0, .int 0, .int 0, .int 0, .int 0, .int 0]))] (fun q => some (.int 0)) (fun q => [(h0, .inr (15, [.ref h1, .ref h2, .ref h3, .ref h4, .ref h5, .ref h6, .ref h7, .ref h8, .ref h9, .ref h10, .ref h11, .ref h12, .ref h13, .ref h14, .ref h15, .ref h16, .ref h17, .ref h18, .long 0, .int 1, .int 2, .int 0, .int 0, .int 0, .int 0, .int 0, .int 0]))]) := by
  refine CT.of (by decide +kernel) (Nat.le_of_ble_eq_true rfl) ?_
  intro p e s m args below meth c A ls hx hb hr hml hown hG hlocks hnm hA hS hP hK hD hGV hl
  have hown : s.vm.findClass RX12 = some m.cls := hown
  have hl : lv_has ls 2 [(0, .ref h0), (1, .int 1)] := hl
  have hSF : CF p m c cX12_refuses 2 s args RX12 := ⟨hx, hb, hml, hown, hG⟩
  refine lv_aload_n hx hb dX12_refuses_0 rfl (lv_at hl 0 rfl) ?_
  refine lv_iload_n hx hb dX12_refuses_1 rfl (lv_at hl 1 rfl) ?_
  refine k_put (ci := 15) (C := RX12) (T := TX12) (N := 27) (v := .int 1) (ws1 := [(h0, .inr (15, [.ref h1, .ref h2, .ref h3, .ref h4, .ref h5, .ref h6, .ref h7, .ref h8, .ref h9, .ref h10, .ref h11, .ref h12, .ref h13, .ref h14, .ref h15, .ref h16, .ref h17, .ref h18, .long 0, .int 1, .int 2, .int 0, .int 0, .int 0, .int 0, .int 0, .int 0]))]) hx hb hG inX12 tyX12 tyX12_ok nmX12 hown hK hP hD hS 0 rfl rfl 19 (by decide) gw1238 rfl ⟨rfl, rfl⟩ rfl (Nat.le_of_ble_eq_true rfl) dX12_refuses_2 (fun H locs hP hD hS => ?_)
  refine lv_iconst (v := 0) hx hb dX12_refuses_5 (by decide) ?_
  exact e_i (fun _ => 0) hx hb hr hlocks rfl rfl hP hD hS (Nat.le_of_ble_eq_true rfl) (Nat.le_of_ble_eq_true rfl) dX12_refuses_6
set_option maxHeartbeats 4000000 in
set_option maxRecDepth 100000 in
theorem c154_X12_isBalanced (l : Launch) (hfl : l.stackTraces = false) (D : va_G) (cA : Nat → ClassId) (g : gv_T) (h0 h1 h2 h3 h4 h5 h6 h7 h8 h9 h10 h11 h12 h13 h14 h15 h16 h17 h18 : Nat) (p0 : Int32) (k0 : (lg_cmp p0.toInt64 0) < 0) : CT l yX12_isBalanced cX12_isBalanced 2 (some .boolean) (RM 1 0 0 23) D cA g [.ref h0, .int p0] [(h0, .inr (15, [.ref h1, .ref h2, .ref h3, .ref h4, .ref h5, .ref h6, .ref h7, .ref h8, .ref h9, .ref h10, .ref h11, .ref h12, .ref h13, .ref h14, .ref h15, .ref h16, .ref h17, .ref h18, .long 0, .int 0, .int 2, .int 0, .int 0, .int 0, .int 0, .int 0, .int 0]))] (fun q => some (.int 0)) (fun q => [(h0, .inr (15, [.ref h1, .ref h2, .ref h3, .ref h4, .ref h5, .ref h6, .ref h7, .ref h8, .ref h9, .ref h10, .ref h11, .ref h12, .ref h13, .ref h14, .ref h15, .ref h16, .ref h17, .ref h18, .long 0, .int 1, .int 2, .int 0, .int 0, .int 0, .int 0, .int 0, .int 0]))]) := by
  refine CT.of (by decide +kernel) (Nat.le_of_ble_eq_true rfl) ?_
  intro p e s m args below meth c A ls hx hb hr hml hown hG hlocks hnm hA hS hP hK hD hGV hl
  have hown : s.vm.findClass RX12 = some m.cls := hown
  have hl : lv_has ls 2 [(0, .ref h0), (1, .int p0)] := hl
  have hSF : CF p m c cX12_isBalanced 2 s args RX12 := ⟨hx, hb, hml, hown, hG⟩
  refine lv_iload_n hx hb dX12_isBalanced_0 rfl (lv_at hl 1 rfl) ?_
  refine lv_i2l (v := p0.toInt64) hx hb dX12_isBalanced_1 rfl ?_
  refine lv_iconst (v := 0) hx hb dX12_isBalanced_2 (by decide) ?_
  refine lv_bipush (v := 30) hx hb dX12_isBalanced_3 (by decide) ?_
  refine ct_S (wr := [(h0, .inr (15, [.ref h1, .ref h2, .ref h3, .ref h4, .ref h5, .ref h6, .ref h7, .ref h8, .ref h9, .ref h10, .ref h11, .ref h12, .ref h13, .ref h14, .ref h15, .ref h16, .ref h17, .ref h18, .long 0, .int 0, .int 2, .int 0, .int 0, .int 0, .int 0, .int 0, .int 0]))]) hSF hl.1 hP hD hS hA hK hGV (c14_X12_in l hfl D cA g (p0.toInt64) k0) goS_X12_285 pd_X12_in.2 ⟨(Nat.le_of_ble_eq_true rfl), (Nat.le_of_ble_eq_true rfl)⟩ ⟨(Nat.le_of_ble_eq_true rfl), (Nat.le_of_ble_eq_true rfl)⟩ dX12_isBalanced_5 rfl (Nat.le_of_ble_eq_true rfl) [] [0] rfl (by decide) rfl (by decide) (by decide) (fun q => [(h0, .inr (15, [.ref h1, .ref h2, .ref h3, .ref h4, .ref h5, .ref h6, .ref h7, .ref h8, .ref h9, .ref h10, .ref h11, .ref h12, .ref h13, .ref h14, .ref h15, .ref h16, .ref h17, .ref h18, .long 0, .int 0, .int 2, .int 0, .int 0, .int 0, .int 0, .int 0, .int 0]))]) (fun _ => rfl) (fun q1 H locs hP hD hS => ?_)
  refine W.eq (g2 := F0 m 8 ls [.int 0]) rfl ?_
  refine k_if_ne_f (tgt := 17) hx hb dX12_isBalanced_8 (by decide) (by decide) ?_
  refine lv_aload_n hx hb dX12_isBalanced_11 rfl (lv_at hl 0 rfl) ?_
  refine lv_iconst (v := 1) hx hb dX12_isBalanced_12 (by decide) ?_
  refine ct_V (wr := []) hSF hl.1 hP hD hS hA hK hGV (c153_X12_refuses l hfl D cA g h0 h1 h2 h3 h4 h5 h6 h7 h8 h9 h10 h11 h12 h13 h14 h15 h16 h17 h18) goV_X12_336 pd_X12_refuses ⟨(Nat.le_of_ble_eq_true rfl), (Nat.le_of_ble_eq_true rfl)⟩ ⟨(Nat.le_of_ble_eq_true rfl), (Nat.le_of_ble_eq_true rfl)⟩ (va_recv hK hP (ci := 15) (q0 := 0) rfl rfl) dX12_isBalanced_13 rfl (Nat.le_of_ble_eq_true rfl) [0] [] rfl (by decide) rfl (by decide) (by decide) (fun q => [(h0, .inr (15, [.ref h1, .ref h2, .ref h3, .ref h4, .ref h5, .ref h6, .ref h7, .ref h8, .ref h9, .ref h10, .ref h11, .ref h12, .ref h13, .ref h14, .ref h15, .ref h16, .ref h17, .ref h18, .long 0, .int 1, .int 2, .int 0, .int 0, .int 0, .int 0, .int 0, .int 0]))]) (fun _ => rfl) (fun q2 H locs hP hD hS => ?_)
  refine W.eq (g2 := F0 m 16 ls [.int 0]) rfl ?_
  exact e_i (fun _ => 0) hx hb hr hlocks rfl rfl hP hD hS (Nat.le_of_ble_eq_true rfl) (Nat.le_of_ble_eq_true rfl) dX12_isBalanced_16
set_option maxHeartbeats 4000000 in
set_option maxRecDepth 100000 in
theorem c155_X6_isBalanced (l : Launch) (hfl : l.stackTraces = false) (D : va_G) (cA : Nat → ClassId) (g : gv_T) (h0 : Nat) (p0 : Int32) (k0 : ¬ p0 < 0) (k1 : 30 < p0) : CX l yX6_isBalanced cX6_isBalanced 2 (some .boolean) (RM 6 1 6 95) D cA g [.ref h0, .int p0] [] "java/lang/IllegalArgumentException" (fun q => []) := by
  refine CX.of (by decide +kernel) (Nat.le_of_ble_eq_true rfl) ?_
  intro p e s m args below meth c A ls hx hb hr hml hown hG hlocks htab hA hS hP hK hD hGV hl
  have hown : s.vm.findClass RX6 = some m.cls := hown
  have hl : lv_has ls 2 [(0, .ref h0), (1, .int p0)] := hl
  have hSF : CF p m c cX6_isBalanced 2 s args RX6 := ⟨hx, hb, hml, hown, hG⟩
  refine lv_iload_n hx hb dX6_isBalanced_0 rfl (lv_at hl 1 rfl) ?_
  refine lv_iconst (v := 0) hx hb dX6_isBalanced_1 (by decide) ?_
  refine lv_bipush (v := 30) hx hb dX6_isBalanced_2 (by decide) ?_
  refine ct_S (wr := []) hSF hl.1 hP hD hS hA hK hGV (c18_X6_isWithin l hfl D cA g (p0) k0 k1) goS_X6_44 pd_X6_isWithin.2 ⟨(Nat.le_of_ble_eq_true rfl), (Nat.le_of_ble_eq_true rfl)⟩ ⟨(Nat.le_of_ble_eq_true rfl), (Nat.le_of_ble_eq_true rfl)⟩ dX6_isBalanced_4 rfl (Nat.le_of_ble_eq_true rfl) [] [] rfl (by decide) rfl (by decide) (by decide) (fun q => []) (fun _ => rfl) (fun q1 H locs hP hD hS => ?_)
  refine W.eq (g2 := F0 m 7 ls [.int 0]) rfl ?_
  refine k_if_ne_f (tgt := 20) hx hb dX6_isBalanced_7 (by decide) (by decide) ?_
  exact e_throw (fun _ => 0) (names := ["java/lang/RuntimeException", "java/lang/Exception"]) 9 hx hb hfl hown hG hGV htab hlocks (hl.1.trans hml.symm) (by decide +kernel) (by decide +kernel) gw668 gw95 rfl xat_X6_60 hP hD hS dX6_isBalanced_10 dX6_isBalanced_13 dX6_isBalanced_14 dX6_isBalanced_16 dX6_isBalanced_19 (Nat.le_of_ble_eq_true rfl) (Nat.le_of_ble_eq_true rfl) (Nat.le_of_ble_eq_true rfl) (Nat.le_of_ble_eq_true rfl) (Nat.le_of_ble_eq_true rfl) (Nat.le_of_ble_eq_true rfl)
set_option maxHeartbeats 4000000 in
set_option maxRecDepth 100000 in
theorem c156_L_isBalanced (l : Launch) (hfl : l.stackTraces = false) (D : va_G) (cA : Nat → ClassId) (g : gv_T) (h0 h1 h2 h3 h4 h5 h6 : Nat) (p0 : Int32) (k0 : ¬ p0 < 0) (k1 : 30 < p0) : CW l yL_isBalanced cL_isBalanced 4 (some .int) [(0, 16, 19, 13), (0, 16, 22, 15)] (RM 7 1 6 116) D cA g [.ref h0, .int p0, .ref h1] [(h0, .inr (9, [.ref h2, .ref h3, .ref h4, .ref h5, .ref h6]))] (fun q => some (.int 1)) (fun q => [(h0, .inr (9, [.ref h2, .ref h3, .ref h4, .ref h5, .ref h6]))]) := by
  refine CW.of (by decide +kernel) (Nat.le_of_ble_eq_true rfl) ?_
  intro p e s m args below meth c A ls hx hb hr hml hown hG hlocks htab hA hS hP hK hD hGV hl
  have hown : s.vm.findClass RL = some m.cls := hown
  have hl : lv_has ls 4 [(0, .ref h0), (1, .int p0), (2, .ref h1)] := hl
  have hSF : CF p m c cL_isBalanced 4 s args RL := ⟨hx, hb, hml, hown, hG⟩
  refine lv_aload_n hx hb dL_isBalanced_0 rfl (lv_at hl 2 rfl) ?_
  refine lv_iconst (v := 0) hx hb dL_isBalanced_1 (by decide) ?_
  refine lv_aload_n hx hb dL_isBalanced_2 rfl (lv_at hl 0 rfl) ?_
  refine lv_iload_n hx hb dL_isBalanced_3 rfl (lv_at hl 1 rfl) ?_
  refine cx_V (wr := [(h0, .inr (9, [.ref h2, .ref h3, .ref h4, .ref h5, .ref h6]))]) hSF hl.1 hP hD hS hA hK hGV (c155_X6_isBalanced l hfl D cA g h0 (p0) k0 k1) goV_L_38 pd_X6_isBalanced ⟨(Nat.le_of_ble_eq_true rfl), (Nat.le_of_ble_eq_true rfl)⟩ ⟨(Nat.le_of_ble_eq_true rfl), (Nat.le_of_ble_eq_true rfl)⟩ (va_recv hK hP (ci := 9) (q0 := 0) rfl rfl) dL_isBalanced_4 rfl (Nat.le_of_ble_eq_true rfl) [] [0] rfl (by decide) rfl (by decide) (by decide) (fun q => [(h0, .inr (9, [.ref h2, .ref h3, .ref h4, .ref h5, .ref h6]))]) (fun _ => rfl) (fun q1 H locs x9 ce9 hP hD hS h9 hv9 hcl9 => ?_)
  refine vx_catch (own := RL) (name := "java/lang/IllegalArgumentException") hown [] { startPc := 0, endPc := 16, handlerPc := 19, catchType := 13 } [{ startPc := 0, endPc := 16, handlerPc := 22, catchType := 15 }] (htab.trans rfl) (fun z hz => nomatch hz) rfl (by decide) (hG _ gw572) (va_Nw.use rfl (hGV.2.2.2.2.1 _ gw670)) h9 hv9 hcl9 ?_
  refine W.eq (g2 := F0 m 19 ls [.ref x9]) rfl ?_
  refine lv_astore_n (lv' := [(3, .ref x9), (0, .ref h0), (1, .int p0), (2, .ref h1)]) hx hb dL_isBalanced_19 rfl hl (by decide) rfl (fun ls hl => ?_)
  refine lv_iconst (v := 1) hx hb dL_isBalanced_20 (by decide) ?_
  exact e_i (fun _ => 0) hx hb hr hlocks rfl rfl hP hD hS (Nat.le_of_ble_eq_true rfl) (Nat.le_of_ble_eq_true rfl) dL_isBalanced_21
set_option maxHeartbeats 4000000 in
set_option maxRecDepth 100000 in
theorem c157_X12_isBalanced (l : Launch) (hfl : l.stackTraces = false) (D : va_G) (cA : Nat → ClassId) (g : gv_T) (h0 h1 h2 h3 h4 h5 h6 h7 h8 h9 h10 h11 h12 h13 h14 h15 h16 h17 h18 : Nat) (p0 : Int32) (k0 : ¬ (lg_cmp p0.toInt64 0) < 0) (k1 : 0 < (lg_cmp p0.toInt64 30)) : CT l yX12_isBalanced cX12_isBalanced 2 (some .boolean) (RM 1 0 0 23) D cA g [.ref h0, .int p0] [(h0, .inr (15, [.ref h1, .ref h2, .ref h3, .ref h4, .ref h5, .ref h6, .ref h7, .ref h8, .ref h9, .ref h10, .ref h11, .ref h12, .ref h13, .ref h14, .ref h15, .ref h16, .ref h17, .ref h18, .long 0, .int 0, .int 2, .int 0, .int 0, .int 0, .int 0, .int 0, .int 0]))] (fun q => some (.int 0)) (fun q => [(h0, .inr (15, [.ref h1, .ref h2, .ref h3, .ref h4, .ref h5, .ref h6, .ref h7, .ref h8, .ref h9, .ref h10, .ref h11, .ref h12, .ref h13, .ref h14, .ref h15, .ref h16, .ref h17, .ref h18, .long 0, .int 1, .int 2, .int 0, .int 0, .int 0, .int 0, .int 0, .int 0]))]) := by
  refine CT.of (by decide +kernel) (Nat.le_of_ble_eq_true rfl) ?_
  intro p e s m args below meth c A ls hx hb hr hml hown hG hlocks hnm hA hS hP hK hD hGV hl
  have hown : s.vm.findClass RX12 = some m.cls := hown
  have hl : lv_has ls 2 [(0, .ref h0), (1, .int p0)] := hl
  have hSF : CF p m c cX12_isBalanced 2 s args RX12 := ⟨hx, hb, hml, hown, hG⟩
  refine lv_iload_n hx hb dX12_isBalanced_0 rfl (lv_at hl 1 rfl) ?_
  refine lv_i2l (v := p0.toInt64) hx hb dX12_isBalanced_1 rfl ?_
  refine lv_iconst (v := 0) hx hb dX12_isBalanced_2 (by decide) ?_
  refine lv_bipush (v := 30) hx hb dX12_isBalanced_3 (by decide) ?_
  refine ct_S (wr := [(h0, .inr (15, [.ref h1, .ref h2, .ref h3, .ref h4, .ref h5, .ref h6, .ref h7, .ref h8, .ref h9, .ref h10, .ref h11, .ref h12, .ref h13, .ref h14, .ref h15, .ref h16, .ref h17, .ref h18, .long 0, .int 0, .int 2, .int 0, .int 0, .int 0, .int 0, .int 0, .int 0]))]) hSF hl.1 hP hD hS hA hK hGV (c21_X12_in l hfl D cA g (p0.toInt64) k0 k1) goS_X12_285 pd_X12_in.2 ⟨(Nat.le_of_ble_eq_true rfl), (Nat.le_of_ble_eq_true rfl)⟩ ⟨(Nat.le_of_ble_eq_true rfl), (Nat.le_of_ble_eq_true rfl)⟩ dX12_isBalanced_5 rfl (Nat.le_of_ble_eq_true rfl) [] [0] rfl (by decide) rfl (by decide) (by decide) (fun q => [(h0, .inr (15, [.ref h1, .ref h2, .ref h3, .ref h4, .ref h5, .ref h6, .ref h7, .ref h8, .ref h9, .ref h10, .ref h11, .ref h12, .ref h13, .ref h14, .ref h15, .ref h16, .ref h17, .ref h18, .long 0, .int 0, .int 2, .int 0, .int 0, .int 0, .int 0, .int 0, .int 0]))]) (fun _ => rfl) (fun q1 H locs hP hD hS => ?_)
  refine W.eq (g2 := F0 m 8 ls [.int 0]) rfl ?_
  refine k_if_ne_f (tgt := 17) hx hb dX12_isBalanced_8 (by decide) (by decide) ?_
  refine lv_aload_n hx hb dX12_isBalanced_11 rfl (lv_at hl 0 rfl) ?_
  refine lv_iconst (v := 1) hx hb dX12_isBalanced_12 (by decide) ?_
  refine ct_V (wr := []) hSF hl.1 hP hD hS hA hK hGV (c153_X12_refuses l hfl D cA g h0 h1 h2 h3 h4 h5 h6 h7 h8 h9 h10 h11 h12 h13 h14 h15 h16 h17 h18) goV_X12_336 pd_X12_refuses ⟨(Nat.le_of_ble_eq_true rfl), (Nat.le_of_ble_eq_true rfl)⟩ ⟨(Nat.le_of_ble_eq_true rfl), (Nat.le_of_ble_eq_true rfl)⟩ (va_recv hK hP (ci := 15) (q0 := 0) rfl rfl) dX12_isBalanced_13 rfl (Nat.le_of_ble_eq_true rfl) [0] [] rfl (by decide) rfl (by decide) (by decide) (fun q => [(h0, .inr (15, [.ref h1, .ref h2, .ref h3, .ref h4, .ref h5, .ref h6, .ref h7, .ref h8, .ref h9, .ref h10, .ref h11, .ref h12, .ref h13, .ref h14, .ref h15, .ref h16, .ref h17, .ref h18, .long 0, .int 1, .int 2, .int 0, .int 0, .int 0, .int 0, .int 0, .int 0]))]) (fun _ => rfl) (fun q2 H locs hP hD hS => ?_)
  refine W.eq (g2 := F0 m 16 ls [.int 0]) rfl ?_
  exact e_i (fun _ => 0) hx hb hr hlocks rfl rfl hP hD hS (Nat.le_of_ble_eq_true rfl) (Nat.le_of_ble_eq_true rfl) dX12_isBalanced_16
set_option maxHeartbeats 4000000 in
set_option maxRecDepth 100000 in
theorem c158_X6_checkStanding (l : Launch) (hfl : l.stackTraces = false) (D : va_G) (cA : Nat → ClassId) (g : gv_T) (h0 h1 h2 h3 h4 h5 h6 h7 h8 h9 h10 h11 h12 h13 h14 h15 h16 h17 h18 h19 h20 h21 h22 h23 h24 h25 h26 h27 h28 h29 h30 : Nat) : CT l yX6_checkStanding cX6_checkStanding 1 none (RM 4 0 0 90) D cA g [.ref h0] [(h0, .inr (9, [.ref h1, .ref h2, .ref h3, .ref h4, .ref h5])), (h2, .inr (4, [.int 0, .int 0, .long 0, .ref h6, .ref h7, .ref h8, .ref h9, .ref h10, .ref h11, .ref h12, .ref h13, .ref h14, .ref h15, .ref h16, .ref h17, .ref h18, .ref h19])), (h1, .inr (5, [.int 0, .int 0, .ref h20, .ref h21, .ref h22, .ref h23, .ref h24, .ref h25, .ref h26, .ref h27, .ref h28, .ref h29])), (h12, .inl (cA 1, 512, .inr (.inl (fun _ => 0)))), (h16, .inr (8, [.ref h30])), (h30, .inl (cA 1, 8, .inr (.inl (fun _ => 0))))] (fun q => none) (fun q => [(h0, .inr (9, [.ref h1, .ref h2, .ref h3, .ref h4, .ref h5])), (h2, .inr (4, [.int 1, .int 46, .long 1, .ref h6, .ref h7, .ref h8, .ref h9, .ref h10, .ref h11, .ref h12, .ref h13, .ref h14, .ref h15, .ref h16, .ref h17, .ref h18, .ref h19])), (h1, .inr (5, [.int 0, .int 0, .ref h20, .ref h21, .ref h22, .ref h23, .ref h24, .ref h25, .ref h26, .ref h27, .ref h28, .ref h29])), (h12, .inl (cA 1, 512, .inr (.inl (vp_updL (fun _ => 0) 0 1)))), (h16, .inr (8, [.ref h30])), (h30, .inl (cA 1, 8, .inr (.inl (vp_updL (vp_updL (vp_updL (vp_updL (vp_updL (vp_updL (vp_updL (vp_updL (fun _ => 0) 2 0) 3 0) 4 0) 5 0) 6 0) 7 0) 0 1) 1 0))))]) := by
  refine CT.of (by decide +kernel) (Nat.le_of_ble_eq_true rfl) ?_
  intro p e s m args below meth c A ls hx hb hr hml hown hG hlocks hnm hA hS hP hK hD hGV hl
  have hown : s.vm.findClass RX6 = some m.cls := hown
  have hl : lv_has ls 1 [(0, .ref h0)] := hl
  have hSF : CF p m c cX6_checkStanding 1 s args RX6 := ⟨hx, hb, hml, hown, hG⟩
  refine lv_aload_n hx hb dX6_checkStanding_0 rfl (lv_at hl 0 rfl) ?_
  refine k_get (ci := 9) (C := RX6) (T := TX6) (N := 5) (v := .ref h2) hx hb hG inX6 hown hK hP 0 rfl rfl 1 (by decide) gw364 rfl dX6_checkStanding_1 ?_
  refine lv_aload_n hx hb dX6_checkStanding_4 rfl (lv_at hl 0 rfl) ?_
  refine k_get (ci := 9) (C := RX6) (T := TX6) (N := 5) (v := .ref h1) hx hb hG inX6 hown hK hP 0 rfl rfl 0 (by decide) gw363 rfl dX6_checkStanding_5 ?_
  refine ct_V (wr := [(h0, .inr (9, [.ref h1, .ref h2, .ref h3, .ref h4, .ref h5]))]) hSF hl.1 hP hD hS hA hK hGV (c116_X1_find l hfl D cA g h2 h1 h6 h7 h8 h9 h10 h11 h12 h13 h14 h15 h16 h17 h18 h19 h20 h21 h22 h23 h24 h25 h26 h27 h28 h29 h30) goV_X6_110 pd_X1_find ⟨(Nat.le_of_ble_eq_true rfl), (Nat.le_of_ble_eq_true rfl)⟩ ⟨(Nat.le_of_ble_eq_true rfl), (Nat.le_of_ble_eq_true rfl)⟩ (va_recv hK hP (ci := 4) (q0 := 1) rfl rfl) dX6_checkStanding_8 rfl (Nat.le_of_ble_eq_true rfl) [1, 2, 3, 4, 5] [0] rfl (by decide) rfl (by decide) (by decide) (fun q => [(h0, .inr (9, [.ref h1, .ref h2, .ref h3, .ref h4, .ref h5])), (h2, .inr (4, [.int 1, .int 46, .long 1, .ref h6, .ref h7, .ref h8, .ref h9, .ref h10, .ref h11, .ref h12, .ref h13, .ref h14, .ref h15, .ref h16, .ref h17, .ref h18, .ref h19])), (h1, .inr (5, [.int 0, .int 0, .ref h20, .ref h21, .ref h22, .ref h23, .ref h24, .ref h25, .ref h26, .ref h27, .ref h28, .ref h29])), (h12, .inl (cA 1, 512, .inr (.inl (vp_updL (fun _ => 0) 0 1)))), (h16, .inr (8, [.ref h30])), (h30, .inl (cA 1, 8, .inr (.inl (vp_updL (vp_updL (vp_updL (vp_updL (vp_updL (vp_updL (vp_updL (vp_updL (fun _ => 0) 2 0) 3 0) 4 0) 5 0) 6 0) 7 0) 0 1) 1 0))))]) (fun _ => rfl) (fun q1 H locs hP hD hS => ?_)
  refine W.eq (g2 := F0 m 11 ls []) rfl ?_
  refine lv_aload_n hx hb dX6_checkStanding_11 rfl (lv_at hl 0 rfl) ?_
  refine k_get (ci := 9) (C := RX6) (T := TX6) (N := 5) (v := .ref h2) hx hb hG inX6 hown hK hP 0 rfl rfl 1 (by decide) gw364 rfl dX6_checkStanding_12 ?_
  refine k_get (ci := 4) (C := RX1) (T := TX1) (N := 17) (v := .int 46) hx hb hG inX1 hown hK hP 1 rfl rfl 1 (by decide) gw200 rfl dX6_checkStanding_15 ?_
  refine lv_bipush (v := 46) hx hb dX6_checkStanding_18 (by decide) ?_
  refine k_icmp_eq_t (tgt := 34) hx hb dX6_checkStanding_20 (by decide) (by decide) ?_
  exact e_v (fun _ => 0) hx hb hr hlocks rfl hP hD hS (Nat.le_of_ble_eq_true rfl) (Nat.le_of_ble_eq_true rfl) dX6_checkStanding_34
set_option maxHeartbeats 4000000 in
set_option maxRecDepth 100000 in
theorem c159_X1_holdsAlong (l : Launch) (hfl : l.stackTraces = false) (D : va_G) (cA : Nat → ClassId) (g : gv_T) (h0 h1 h2 h3 h4 h5 h6 h7 h8 h9 h10 h11 h12 h13 h14 h15 h16 h17 h18 h19 h20 h21 h22 h23 h24 h25 : Nat) (p0 : Int32) : CT l yX1_holdsAlong cX1_holdsAlong 12 (some .boolean) (RM 0 0 0 0) D cA g [.ref h0, .ref h1, .int p0, .int 0] [(h1, .inr (5, [.int 0, .int 0, .ref h2, .ref h3, .ref h4, .ref h5, .ref h6, .ref h7, .ref h8, .ref h9, .ref h10, .ref h11])), (h0, .inr (4, [.int 1, .int 46, .long 1, .ref h12, .ref h13, .ref h14, .ref h15, .ref h16, .ref h17, .ref h18, .ref h19, .ref h20, .ref h21, .ref h22, .ref h23, .ref h24, .ref h25]))] (fun q => some (.int 1)) (fun q => [(h1, .inr (5, [.int 0, .int 0, .ref h2, .ref h3, .ref h4, .ref h5, .ref h6, .ref h7, .ref h8, .ref h9, .ref h10, .ref h11])), (h0, .inr (4, [.int 1, .int 46, .long 1, .ref h12, .ref h13, .ref h14, .ref h15, .ref h16, .ref h17, .ref h18, .ref h19, .ref h20, .ref h21, .ref h22, .ref h23, .ref h24, .ref h25]))]) := by
  refine CT.of (by decide +kernel) (Nat.le_of_ble_eq_true rfl) ?_
  intro p e s m args below meth c A ls hx hb hr hml hown hG hlocks hnm hA hS hP hK hD hGV hl
  have hown : s.vm.findClass RX1 = some m.cls := hown
  have hl : lv_has ls 12 [(0, .ref h0), (1, .ref h1), (2, .int p0), (3, .int 0)] := hl
  have hSF : CF p m c cX1_holdsAlong 12 s args RX1 := ⟨hx, hb, hml, hown, hG⟩
  refine lv_lconst (v := 0) hx hb dX1_holdsAlong_0 (by decide) ?_
  refine lv_lstore (lv' := [(4, .long 0), (0, .ref h0), (1, .ref h1), (2, .int p0), (3, .int 0)]) hx hb dX1_holdsAlong_1 hl (by decide) rfl (fun ls hl => ?_)
  refine lv_lconst (v := 0) hx hb dX1_holdsAlong_3 (by decide) ?_
  refine lv_lstore (lv' := [(6, .long 0), (4, .long 0), (0, .ref h0), (1, .ref h1), (2, .int p0), (3, .int 0)]) hx hb dX1_holdsAlong_4 hl (by decide) rfl (fun ls hl => ?_)
  refine lv_iconst (v := 0) hx hb dX1_holdsAlong_6 (by decide) ?_
  refine lv_istore (lv' := [(8, .int 0), (6, .long 0), (4, .long 0), (0, .ref h0), (1, .ref h1), (2, .int p0), (3, .int 0)]) hx hb dX1_holdsAlong_7 hl (by decide) rfl (fun ls hl => ?_)
  refine lv_iload hx hb dX1_holdsAlong_9 (lv_at hl 0 rfl) ?_
  refine lv_aload_n hx hb dX1_holdsAlong_11 rfl (lv_at hl 4 rfl) ?_
  refine k_get (ci := 5) (C := RX2) (T := TX2) (N := 12) (v := .int 0) hx hb hG inX2 hown hK hP 0 rfl rfl 0 (by decide) gw128 rfl dX1_holdsAlong_12 ?_
  refine k_icmp_ge_t (tgt := 180) hx hb dX1_holdsAlong_15 (by decide) (by decide) ?_
  refine lv_aload_n hx hb dX1_holdsAlong_180 rfl (lv_at hl 3 rfl) ?_
  refine k_get (ci := 4) (C := RX1) (T := TX1) (N := 17) (v := .long 1) hx hb hG inX1 hown hK hP 1 rfl rfl 2 (by decide) gw201 rfl dX1_holdsAlong_181 ?_
  refine lv_lconst (v := 0) hx hb dX1_holdsAlong_184 (by decide) ?_
  refine k_lcmp (v := 1) hx hb dX1_holdsAlong_185 (by decide +kernel) ?_
  refine k_if_le_f (tgt := 220) hx hb dX1_holdsAlong_186 (by decide) (by decide) ?_
  refine lv_lload hx hb dX1_holdsAlong_189 (lv_at hl 1 rfl) ?_
  refine lv_aload_n hx hb dX1_holdsAlong_191 rfl (lv_at hl 3 rfl) ?_
  refine k_get (ci := 4) (C := RX1) (T := TX1) (N := 17) (v := .long 1) hx hb hG inX1 hown hK hP 1 rfl rfl 2 (by decide) gw201 rfl dX1_holdsAlong_192 ?_
  refine k_lrem (v := 0) hx hb dX1_holdsAlong_195 (by decide +kernel) (by decide +kernel) ?_
  refine lv_lconst (v := 0) hx hb dX1_holdsAlong_196 (by decide) ?_
  refine k_lcmp (v := 0) hx hb dX1_holdsAlong_197 (by decide +kernel) ?_
  refine k_if_ne_f (tgt := 220) hx hb dX1_holdsAlong_198 (by decide) (by decide) ?_
  refine lv_lload hx hb dX1_holdsAlong_201 (lv_at hl 2 rfl) ?_
  refine lv_lload hx hb dX1_holdsAlong_203 (lv_at hl 1 rfl) ?_
  refine lv_aload_n hx hb dX1_holdsAlong_205 rfl (lv_at hl 3 rfl) ?_
  refine k_get (ci := 4) (C := RX1) (T := TX1) (N := 17) (v := .long 1) hx hb hG inX1 hown hK hP 1 rfl rfl 2 (by decide) gw201 rfl dX1_holdsAlong_206 ?_
  refine k_ldiv (v := 0) hx hb dX1_holdsAlong_209 (by decide +kernel) (by decide +kernel) ?_
  refine k_ladd (v := 0) hx hb dX1_holdsAlong_210 (by decide +kernel) ?_
  refine lv_lconst (v := 0) hx hb dX1_holdsAlong_211 (by decide) ?_
  refine k_lcmp (v := 0) hx hb dX1_holdsAlong_212 (by decide +kernel) ?_
  refine k_if_ne_f (tgt := 220) hx hb dX1_holdsAlong_213 (by decide) (by decide) ?_
  refine lv_iconst (v := 1) hx hb dX1_holdsAlong_216 (by decide) ?_
  refine lv_goto (tgt := 221) hx hb dX1_holdsAlong_217 (by decide) ?_
  exact e_i (fun _ => 0) hx hb hr hlocks rfl rfl hP hD hS (Nat.le_of_ble_eq_true rfl) (Nat.le_of_ble_eq_true rfl) dX1_holdsAlong_221
set_option maxHeartbeats 4000000 in
set_option maxRecDepth 100000 in
theorem c160_X1_holdsAlong (l : Launch) (hfl : l.stackTraces = false) (D : va_G) (cA : Nat → ClassId) (g : gv_T) (h0 h1 h2 h3 h4 h5 h6 h7 h8 h9 h10 h11 h12 h13 h14 h15 h16 h17 h18 h19 h20 h21 h22 h23 h24 h25 : Nat) (p0 : Int32) : CT l yX1_holdsAlong cX1_holdsAlong 12 (some .boolean) (RM 0 0 0 0) D cA g [.ref h0, .ref h1, .int p0, .int 1] [(h1, .inr (5, [.int 0, .int 0, .ref h2, .ref h3, .ref h4, .ref h5, .ref h6, .ref h7, .ref h8, .ref h9, .ref h10, .ref h11])), (h0, .inr (4, [.int 1, .int 46, .long 1, .ref h12, .ref h13, .ref h14, .ref h15, .ref h16, .ref h17, .ref h18, .ref h19, .ref h20, .ref h21, .ref h22, .ref h23, .ref h24, .ref h25]))] (fun q => some (.int 1)) (fun q => [(h1, .inr (5, [.int 0, .int 0, .ref h2, .ref h3, .ref h4, .ref h5, .ref h6, .ref h7, .ref h8, .ref h9, .ref h10, .ref h11])), (h0, .inr (4, [.int 1, .int 46, .long 1, .ref h12, .ref h13, .ref h14, .ref h15, .ref h16, .ref h17, .ref h18, .ref h19, .ref h20, .ref h21, .ref h22, .ref h23, .ref h24, .ref h25]))]) := by
  refine CT.of (by decide +kernel) (Nat.le_of_ble_eq_true rfl) ?_
  intro p e s m args below meth c A ls hx hb hr hml hown hG hlocks hnm hA hS hP hK hD hGV hl
  have hown : s.vm.findClass RX1 = some m.cls := hown
  have hl : lv_has ls 12 [(0, .ref h0), (1, .ref h1), (2, .int p0), (3, .int 1)] := hl
  have hSF : CF p m c cX1_holdsAlong 12 s args RX1 := ⟨hx, hb, hml, hown, hG⟩
  refine lv_lconst (v := 0) hx hb dX1_holdsAlong_0 (by decide) ?_
  refine lv_lstore (lv' := [(4, .long 0), (0, .ref h0), (1, .ref h1), (2, .int p0), (3, .int 1)]) hx hb dX1_holdsAlong_1 hl (by decide) rfl (fun ls hl => ?_)
  refine lv_lconst (v := 0) hx hb dX1_holdsAlong_3 (by decide) ?_
  refine lv_lstore (lv' := [(6, .long 0), (4, .long 0), (0, .ref h0), (1, .ref h1), (2, .int p0), (3, .int 1)]) hx hb dX1_holdsAlong_4 hl (by decide) rfl (fun ls hl => ?_)
  refine lv_iconst (v := 0) hx hb dX1_holdsAlong_6 (by decide) ?_
  refine lv_istore (lv' := [(8, .int 0), (6, .long 0), (4, .long 0), (0, .ref h0), (1, .ref h1), (2, .int p0), (3, .int 1)]) hx hb dX1_holdsAlong_7 hl (by decide) rfl (fun ls hl => ?_)
  refine lv_iload hx hb dX1_holdsAlong_9 (lv_at hl 0 rfl) ?_
  refine lv_aload_n hx hb dX1_holdsAlong_11 rfl (lv_at hl 4 rfl) ?_
  refine k_get (ci := 5) (C := RX2) (T := TX2) (N := 12) (v := .int 0) hx hb hG inX2 hown hK hP 0 rfl rfl 0 (by decide) gw128 rfl dX1_holdsAlong_12 ?_
  refine k_icmp_ge_t (tgt := 180) hx hb dX1_holdsAlong_15 (by decide) (by decide) ?_
  refine lv_aload_n hx hb dX1_holdsAlong_180 rfl (lv_at hl 3 rfl) ?_
  refine k_get (ci := 4) (C := RX1) (T := TX1) (N := 17) (v := .long 1) hx hb hG inX1 hown hK hP 1 rfl rfl 2 (by decide) gw201 rfl dX1_holdsAlong_181 ?_
  refine lv_lconst (v := 0) hx hb dX1_holdsAlong_184 (by decide) ?_
  refine k_lcmp (v := 1) hx hb dX1_holdsAlong_185 (by decide +kernel) ?_
  refine k_if_le_f (tgt := 220) hx hb dX1_holdsAlong_186 (by decide) (by decide) ?_
  refine lv_lload hx hb dX1_holdsAlong_189 (lv_at hl 1 rfl) ?_
  refine lv_aload_n hx hb dX1_holdsAlong_191 rfl (lv_at hl 3 rfl) ?_
  refine k_get (ci := 4) (C := RX1) (T := TX1) (N := 17) (v := .long 1) hx hb hG inX1 hown hK hP 1 rfl rfl 2 (by decide) gw201 rfl dX1_holdsAlong_192 ?_
  refine k_lrem (v := 0) hx hb dX1_holdsAlong_195 (by decide +kernel) (by decide +kernel) ?_
  refine lv_lconst (v := 0) hx hb dX1_holdsAlong_196 (by decide) ?_
  refine k_lcmp (v := 0) hx hb dX1_holdsAlong_197 (by decide +kernel) ?_
  refine k_if_ne_f (tgt := 220) hx hb dX1_holdsAlong_198 (by decide) (by decide) ?_
  refine lv_lload hx hb dX1_holdsAlong_201 (lv_at hl 2 rfl) ?_
  refine lv_lload hx hb dX1_holdsAlong_203 (lv_at hl 1 rfl) ?_
  refine lv_aload_n hx hb dX1_holdsAlong_205 rfl (lv_at hl 3 rfl) ?_
  refine k_get (ci := 4) (C := RX1) (T := TX1) (N := 17) (v := .long 1) hx hb hG inX1 hown hK hP 1 rfl rfl 2 (by decide) gw201 rfl dX1_holdsAlong_206 ?_
  refine k_ldiv (v := 0) hx hb dX1_holdsAlong_209 (by decide +kernel) (by decide +kernel) ?_
  refine k_ladd (v := 0) hx hb dX1_holdsAlong_210 (by decide +kernel) ?_
  refine lv_lconst (v := 0) hx hb dX1_holdsAlong_211 (by decide) ?_
  refine k_lcmp (v := 0) hx hb dX1_holdsAlong_212 (by decide +kernel) ?_
  refine k_if_ne_f (tgt := 220) hx hb dX1_holdsAlong_213 (by decide) (by decide) ?_
  refine lv_iconst (v := 1) hx hb dX1_holdsAlong_216 (by decide) ?_
  refine lv_goto (tgt := 221) hx hb dX1_holdsAlong_217 (by decide) ?_
  exact e_i (fun _ => 0) hx hb hr hlocks rfl rfl hP hD hS (Nat.le_of_ble_eq_true rfl) (Nat.le_of_ble_eq_true rfl) dX1_holdsAlong_221
set_option maxHeartbeats 4000000 in
set_option maxRecDepth 100000 in
theorem c161_X1_holdsAt (l : Launch) (hfl : l.stackTraces = false) (D : va_G) (cA : Nat → ClassId) (g : gv_T) (h0 h1 h2 h3 h4 h5 h6 h7 h8 h9 h10 h11 h12 h13 h14 h15 h16 h17 h18 h19 h20 h21 h22 h23 h24 h25 : Nat) (p0 : Int32) : CT l yX1_holdsAt cX1_holdsAt 3 (some .boolean) (RM 1 0 0 31) D cA g [.ref h0, .ref h1, .int p0] [(h0, .inr (4, [.int 1, .int 46, .long 1, .ref h2, .ref h3, .ref h4, .ref h5, .ref h6, .ref h7, .ref h8, .ref h9, .ref h10, .ref h11, .ref h12, .ref h13, .ref h14, .ref h15])), (h1, .inr (5, [.int 0, .int 0, .ref h16, .ref h17, .ref h18, .ref h19, .ref h20, .ref h21, .ref h22, .ref h23, .ref h24, .ref h25]))] (fun q => some (.int 1)) (fun q => [(h0, .inr (4, [.int 1, .int 46, .long 1, .ref h2, .ref h3, .ref h4, .ref h5, .ref h6, .ref h7, .ref h8, .ref h9, .ref h10, .ref h11, .ref h12, .ref h13, .ref h14, .ref h15])), (h1, .inr (5, [.int 0, .int 0, .ref h16, .ref h17, .ref h18, .ref h19, .ref h20, .ref h21, .ref h22, .ref h23, .ref h24, .ref h25]))]) := by
  refine CT.of (by decide +kernel) (Nat.le_of_ble_eq_true rfl) ?_
  intro p e s m args below meth c A ls hx hb hr hml hown hG hlocks hnm hA hS hP hK hD hGV hl
  have hown : s.vm.findClass RX1 = some m.cls := hown
  have hl : lv_has ls 3 [(0, .ref h0), (1, .ref h1), (2, .int p0)] := hl
  have hSF : CF p m c cX1_holdsAt 3 s args RX1 := ⟨hx, hb, hml, hown, hG⟩
  refine lv_aload_n hx hb dX1_holdsAt_0 rfl (lv_at hl 0 rfl) ?_
  refine lv_aload_n hx hb dX1_holdsAt_1 rfl (lv_at hl 1 rfl) ?_
  refine lv_iload_n hx hb dX1_holdsAt_2 rfl (lv_at hl 2 rfl) ?_
  refine lv_iconst (v := 0) hx hb dX1_holdsAt_3 (by decide) ?_
  refine ct_V (wr := []) hSF hl.1 hP hD hS hA hK hGV (c159_X1_holdsAlong l hfl D cA g h0 h1 h16 h17 h18 h19 h20 h21 h22 h23 h24 h25 h2 h3 h4 h5 h6 h7 h8 h9 h10 h11 h12 h13 h14 h15 (p0)) goV_X1_185 pd_X1_holdsAlong ⟨(Nat.le_of_ble_eq_true rfl), (Nat.le_of_ble_eq_true rfl)⟩ ⟨(Nat.le_of_ble_eq_true rfl), (Nat.le_of_ble_eq_true rfl)⟩ (va_recv hK hP (ci := 4) (q0 := 0) rfl rfl) dX1_holdsAt_4 rfl (Nat.le_of_ble_eq_true rfl) [1, 0] [] rfl (by decide) rfl (by decide) (by decide) (fun q => [(h1, .inr (5, [.int 0, .int 0, .ref h16, .ref h17, .ref h18, .ref h19, .ref h20, .ref h21, .ref h22, .ref h23, .ref h24, .ref h25])), (h0, .inr (4, [.int 1, .int 46, .long 1, .ref h2, .ref h3, .ref h4, .ref h5, .ref h6, .ref h7, .ref h8, .ref h9, .ref h10, .ref h11, .ref h12, .ref h13, .ref h14, .ref h15]))]) (fun _ => rfl) (fun q1 H locs hP hD hS => ?_)
  refine W.eq (g2 := F0 m 7 ls [.int 1]) rfl ?_
  refine k_if_eq_f (tgt := 24) hx hb dX1_holdsAt_7 (by decide) (by decide) ?_
  refine lv_aload_n hx hb dX1_holdsAt_10 rfl (lv_at hl 0 rfl) ?_
  refine lv_aload_n hx hb dX1_holdsAt_11 rfl (lv_at hl 1 rfl) ?_
  refine lv_iload_n hx hb dX1_holdsAt_12 rfl (lv_at hl 2 rfl) ?_
  refine lv_iconst (v := 1) hx hb dX1_holdsAt_13 (by decide) ?_
  refine ct_V (wr := []) hSF hl.1 hP hD hS hA hK hGV (c160_X1_holdsAlong l hfl D cA g h0 h1 h16 h17 h18 h19 h20 h21 h22 h23 h24 h25 h2 h3 h4 h5 h6 h7 h8 h9 h10 h11 h12 h13 h14 h15 (p0)) goV_X1_185 pd_X1_holdsAlong ⟨(Nat.le_of_ble_eq_true rfl), (Nat.le_of_ble_eq_true rfl)⟩ ⟨(Nat.le_of_ble_eq_true rfl), (Nat.le_of_ble_eq_true rfl)⟩ (va_recv hK hP (ci := 4) (q0 := 1) rfl rfl) dX1_holdsAt_14 rfl (Nat.le_of_ble_eq_true rfl) [0, 1] [] rfl (by decide) rfl (by decide) (by decide) (fun q => [(h1, .inr (5, [.int 0, .int 0, .ref h16, .ref h17, .ref h18, .ref h19, .ref h20, .ref h21, .ref h22, .ref h23, .ref h24, .ref h25])), (h0, .inr (4, [.int 1, .int 46, .long 1, .ref h2, .ref h3, .ref h4, .ref h5, .ref h6, .ref h7, .ref h8, .ref h9, .ref h10, .ref h11, .ref h12, .ref h13, .ref h14, .ref h15]))]) (fun _ => rfl) (fun q2 H locs hP hD hS => ?_)
  refine W.eq (g2 := F0 m 17 ls [.int 1]) rfl ?_
  refine k_if_eq_f (tgt := 24) hx hb dX1_holdsAt_17 (by decide) (by decide) ?_
  refine lv_iconst (v := 1) hx hb dX1_holdsAt_20 (by decide) ?_
  refine lv_goto (tgt := 25) hx hb dX1_holdsAt_21 (by decide) ?_
  exact e_i (fun _ => 0) hx hb hr hlocks rfl rfl (hP.sub [1, 0] rfl) (hD.sub [1, 0] (by decide) rfl) hS (Nat.le_of_ble_eq_true rfl) (Nat.le_of_ble_eq_true rfl) dX1_holdsAt_25
set_option maxHeartbeats 4000000 in
set_option maxRecDepth 100000 in
theorem c162_X6_isBalanced (l : Launch) (hfl : l.stackTraces = false) (D : va_G) (cA : Nat → ClassId) (g : gv_T) (h0 h1 h2 h3 h4 h5 h6 h7 h8 h9 h10 h11 h12 h13 h14 h15 h16 h17 h18 h19 h20 h21 h22 h23 h24 h25 h26 h27 h28 h29 h30 : Nat) (p0 : Int32) (k0 : ¬ p0 < 0) (k1 : ¬ 30 < p0) : CT l yX6_isBalanced cX6_isBalanced 2 (some .boolean) (RM 5 0 0 110) D cA g [.ref h0, .int p0] [(h0, .inr (9, [.ref h1, .ref h2, .ref h3, .ref h4, .ref h5])), (h2, .inr (4, [.int 0, .int 0, .long 0, .ref h6, .ref h7, .ref h8, .ref h9, .ref h10, .ref h11, .ref h12, .ref h13, .ref h14, .ref h15, .ref h16, .ref h17, .ref h18, .ref h19])), (h1, .inr (5, [.int 0, .int 0, .ref h20, .ref h21, .ref h22, .ref h23, .ref h24, .ref h25, .ref h26, .ref h27, .ref h28, .ref h29])), (h12, .inl (cA 1, 512, .inr (.inl (fun _ => 0)))), (h16, .inr (8, [.ref h30])), (h30, .inl (cA 1, 8, .inr (.inl (fun _ => 0))))] (fun q => some (.int 1)) (fun q => [(h0, .inr (9, [.ref h1, .ref h2, .ref h3, .ref h4, .ref h5])), (h2, .inr (4, [.int 1, .int 46, .long 1, .ref h6, .ref h7, .ref h8, .ref h9, .ref h10, .ref h11, .ref h12, .ref h13, .ref h14, .ref h15, .ref h16, .ref h17, .ref h18, .ref h19])), (h1, .inr (5, [.int 0, .int 0, .ref h20, .ref h21, .ref h22, .ref h23, .ref h24, .ref h25, .ref h26, .ref h27, .ref h28, .ref h29])), (h12, .inl (cA 1, 512, .inr (.inl (vp_updL (fun _ => 0) 0 1)))), (h16, .inr (8, [.ref h30])), (h30, .inl (cA 1, 8, .inr (.inl (vp_updL (vp_updL (vp_updL (vp_updL (vp_updL (vp_updL (vp_updL (vp_updL (fun _ => 0) 2 0) 3 0) 4 0) 5 0) 6 0) 7 0) 0 1) 1 0))))]) := by
  refine CT.of (by decide +kernel) (Nat.le_of_ble_eq_true rfl) ?_
  intro p e s m args below meth c A ls hx hb hr hml hown hG hlocks hnm hA hS hP hK hD hGV hl
  have hown : s.vm.findClass RX6 = some m.cls := hown
  have hl : lv_has ls 2 [(0, .ref h0), (1, .int p0)] := hl
  have hSF : CF p m c cX6_isBalanced 2 s args RX6 := ⟨hx, hb, hml, hown, hG⟩
  refine lv_iload_n hx hb dX6_isBalanced_0 rfl (lv_at hl 1 rfl) ?_
  refine lv_iconst (v := 0) hx hb dX6_isBalanced_1 (by decide) ?_
  refine lv_bipush (v := 30) hx hb dX6_isBalanced_2 (by decide) ?_
  refine ct_S (wr := [(h0, .inr (9, [.ref h1, .ref h2, .ref h3, .ref h4, .ref h5])), (h2, .inr (4, [.int 0, .int 0, .long 0, .ref h6, .ref h7, .ref h8, .ref h9, .ref h10, .ref h11, .ref h12, .ref h13, .ref h14, .ref h15, .ref h16, .ref h17, .ref h18, .ref h19])), (h1, .inr (5, [.int 0, .int 0, .ref h20, .ref h21, .ref h22, .ref h23, .ref h24, .ref h25, .ref h26, .ref h27, .ref h28, .ref h29])), (h12, .inl (cA 1, 512, .inr (.inl (fun _ => 0)))), (h16, .inr (8, [.ref h30])), (h30, .inl (cA 1, 8, .inr (.inl (fun _ => 0))))]) hSF hl.1 hP hD hS hA hK hGV (c23_X6_isWithin l hfl D cA g (p0) k0 k1) goS_X6_44 pd_X6_isWithin.2 ⟨(Nat.le_of_ble_eq_true rfl), (Nat.le_of_ble_eq_true rfl)⟩ ⟨(Nat.le_of_ble_eq_true rfl), (Nat.le_of_ble_eq_true rfl)⟩ dX6_isBalanced_4 rfl (Nat.le_of_ble_eq_true rfl) [] [0, 1, 2, 3, 4, 5] rfl (by decide) rfl (by decide) (by decide) (fun q => [(h0, .inr (9, [.ref h1, .ref h2, .ref h3, .ref h4, .ref h5])), (h2, .inr (4, [.int 0, .int 0, .long 0, .ref h6, .ref h7, .ref h8, .ref h9, .ref h10, .ref h11, .ref h12, .ref h13, .ref h14, .ref h15, .ref h16, .ref h17, .ref h18, .ref h19])), (h1, .inr (5, [.int 0, .int 0, .ref h20, .ref h21, .ref h22, .ref h23, .ref h24, .ref h25, .ref h26, .ref h27, .ref h28, .ref h29])), (h12, .inl (cA 1, 512, .inr (.inl (fun _ => 0)))), (h16, .inr (8, [.ref h30])), (h30, .inl (cA 1, 8, .inr (.inl (fun _ => 0))))]) (fun _ => rfl) (fun q1 H locs hP hD hS => ?_)
  refine W.eq (g2 := F0 m 7 ls [.int 1]) rfl ?_
  refine k_if_ne_t (tgt := 20) hx hb dX6_isBalanced_7 (by decide) (by decide) ?_
  refine lv_aload_n hx hb dX6_isBalanced_20 rfl (lv_at hl 0 rfl) ?_
  refine ct_V (wr := []) hSF hl.1 hP hD hS hA hK hGV (c158_X6_checkStanding l hfl D cA g h0 h1 h2 h3 h4 h5 h6 h7 h8 h9 h10 h11 h12 h13 h14 h15 h16 h17 h18 h19 h20 h21 h22 h23 h24 h25 h26 h27 h28 h29 h30) goV_X6_121 pd_X6_checkStanding ⟨(Nat.le_of_ble_eq_true rfl), (Nat.le_of_ble_eq_true rfl)⟩ ⟨(Nat.le_of_ble_eq_true rfl), (Nat.le_of_ble_eq_true rfl)⟩ (va_recv hK hP (ci := 9) (q0 := 0) rfl rfl) dX6_isBalanced_21 rfl (Nat.le_of_ble_eq_true rfl) [0, 1, 2, 3, 4, 5] [] rfl (by decide) rfl (by decide) (by decide) (fun q => [(h0, .inr (9, [.ref h1, .ref h2, .ref h3, .ref h4, .ref h5])), (h2, .inr (4, [.int 1, .int 46, .long 1, .ref h6, .ref h7, .ref h8, .ref h9, .ref h10, .ref h11, .ref h12, .ref h13, .ref h14, .ref h15, .ref h16, .ref h17, .ref h18, .ref h19])), (h1, .inr (5, [.int 0, .int 0, .ref h20, .ref h21, .ref h22, .ref h23, .ref h24, .ref h25, .ref h26, .ref h27, .ref h28, .ref h29])), (h12, .inl (cA 1, 512, .inr (.inl (vp_updL (fun _ => 0) 0 1)))), (h16, .inr (8, [.ref h30])), (h30, .inl (cA 1, 8, .inr (.inl (vp_updL (vp_updL (vp_updL (vp_updL (vp_updL (vp_updL (vp_updL (vp_updL (fun _ => 0) 2 0) 3 0) 4 0) 5 0) 6 0) 7 0) 0 1) 1 0))))]) (fun _ => rfl) (fun q2 H locs hP hD hS => ?_)
  refine W.eq (g2 := F0 m 24 ls []) rfl ?_
  refine lv_aload_n hx hb dX6_isBalanced_24 rfl (lv_at hl 0 rfl) ?_
  refine k_get (ci := 9) (C := RX6) (T := TX6) (N := 5) (v := .ref h2) hx hb hG inX6 hown hK hP 0 rfl rfl 1 (by decide) gw364 rfl dX6_isBalanced_25 ?_
  refine lv_aload_n hx hb dX6_isBalanced_28 rfl (lv_at hl 0 rfl) ?_
  refine k_get (ci := 9) (C := RX6) (T := TX6) (N := 5) (v := .ref h1) hx hb hG inX6 hown hK hP 0 rfl rfl 0 (by decide) gw363 rfl dX6_isBalanced_29 ?_
  refine lv_iload_n hx hb dX6_isBalanced_32 rfl (lv_at hl 1 rfl) ?_
  refine ct_V (wr := [(h0, .inr (9, [.ref h1, .ref h2, .ref h3, .ref h4, .ref h5])), (h12, .inl (cA 1, 512, .inr (.inl (vp_updL (fun _ => 0) 0 1)))), (h16, .inr (8, [.ref h30])), (h30, .inl (cA 1, 8, .inr (.inl (vp_updL (vp_updL (vp_updL (vp_updL (vp_updL (vp_updL (vp_updL (vp_updL (fun _ => 0) 2 0) 3 0) 4 0) 5 0) 6 0) 7 0) 0 1) 1 0))))]) hSF hl.1 hP hD hS hA hK hGV (c161_X1_holdsAt l hfl D cA g h2 h1 h6 h7 h8 h9 h10 h11 h12 h13 h14 h15 h16 h17 h18 h19 h20 h21 h22 h23 h24 h25 h26 h27 h28 h29 (p0)) goV_X6_138 pd_X1_holdsAt ⟨(Nat.le_of_ble_eq_true rfl), (Nat.le_of_ble_eq_true rfl)⟩ ⟨(Nat.le_of_ble_eq_true rfl), (Nat.le_of_ble_eq_true rfl)⟩ (va_recv hK hP (ci := 4) (q0 := 1) rfl rfl) dX6_isBalanced_33 rfl (Nat.le_of_ble_eq_true rfl) [1, 2] [0, 3, 4, 5] rfl (by decide) rfl (by decide) (by decide) (fun q => [(h0, .inr (9, [.ref h1, .ref h2, .ref h3, .ref h4, .ref h5])), (h12, .inl (cA 1, 512, .inr (.inl (vp_updL (fun _ => 0) 0 1)))), (h16, .inr (8, [.ref h30])), (h30, .inl (cA 1, 8, .inr (.inl (vp_updL (vp_updL (vp_updL (vp_updL (vp_updL (vp_updL (vp_updL (vp_updL (fun _ => 0) 2 0) 3 0) 4 0) 5 0) 6 0) 7 0) 0 1) 1 0)))), (h2, .inr (4, [.int 1, .int 46, .long 1, .ref h6, .ref h7, .ref h8, .ref h9, .ref h10, .ref h11, .ref h12, .ref h13, .ref h14, .ref h15, .ref h16, .ref h17, .ref h18, .ref h19])), (h1, .inr (5, [.int 0, .int 0, .ref h20, .ref h21, .ref h22, .ref h23, .ref h24, .ref h25, .ref h26, .ref h27, .ref h28, .ref h29]))]) (fun _ => rfl) (fun q3 H locs hP hD hS => ?_)
  refine W.eq (g2 := F0 m 36 ls [.int 1]) rfl ?_
  exact e_i (fun _ => 0) hx hb hr hlocks rfl rfl (hP.sub [0, 4, 5, 1, 2, 3] rfl) (hD.sub [0, 4, 5, 1, 2, 3] (by decide) rfl) hS (Nat.le_of_ble_eq_true rfl) (Nat.le_of_ble_eq_true rfl) dX6_isBalanced_36
set_option maxHeartbeats 4000000 in
set_option maxRecDepth 100000 in
theorem c163_L_isBalanced (l : Launch) (hfl : l.stackTraces = false) (D : va_G) (cA : Nat → ClassId) (g : gv_T) (h0 h1 h2 h3 h4 h5 h6 h7 h8 h9 h10 h11 h12 h13 h14 h15 h16 h17 h18 h19 h20 h21 h22 h23 h24 h25 h26 h27 h28 h29 h30 h31 : Nat) (p0 : Int32) (k0 : ¬ p0 < 0) (k1 : ¬ 30 < p0) : CW l yL_isBalanced cL_isBalanced 4 (some .int) [(0, 16, 19, 13), (0, 16, 22, 15)] (RM 6 0 0 131) D cA g [.ref h0, .int p0, .ref h1] [(h0, .inr (9, [.ref h2, .ref h3, .ref h4, .ref h5, .ref h6])), (h3, .inr (4, [.int 0, .int 0, .long 0, .ref h7, .ref h8, .ref h9, .ref h10, .ref h11, .ref h12, .ref h13, .ref h14, .ref h15, .ref h16, .ref h17, .ref h18, .ref h19, .ref h20])), (h2, .inr (5, [.int 0, .int 0, .ref h21, .ref h22, .ref h23, .ref h24, .ref h25, .ref h26, .ref h27, .ref h28, .ref h29, .ref h30])), (h13, .inl (cA 1, 512, .inr (.inl (fun _ => 0)))), (h17, .inr (8, [.ref h31])), (h31, .inl (cA 1, 8, .inr (.inl (fun _ => 0)))), (h1, .inl (cA 1, 1, .inr (.inl (fun _ => 0))))] (fun q => some (.int 0)) (fun q => [(h0, .inr (9, [.ref h2, .ref h3, .ref h4, .ref h5, .ref h6])), (h3, .inr (4, [.int 1, .int 46, .long 1, .ref h7, .ref h8, .ref h9, .ref h10, .ref h11, .ref h12, .ref h13, .ref h14, .ref h15, .ref h16, .ref h17, .ref h18, .ref h19, .ref h20])), (h2, .inr (5, [.int 0, .int 0, .ref h21, .ref h22, .ref h23, .ref h24, .ref h25, .ref h26, .ref h27, .ref h28, .ref h29, .ref h30])), (h13, .inl (cA 1, 512, .inr (.inl (vp_updL (fun _ => 0) 0 1)))), (h17, .inr (8, [.ref h31])), (h31, .inl (cA 1, 8, .inr (.inl (vp_updL (vp_updL (vp_updL (vp_updL (vp_updL (vp_updL (vp_updL (vp_updL (fun _ => 0) 2 0) 3 0) 4 0) 5 0) 6 0) 7 0) 0 1) 1 0)))), (h1, .inl (cA 1, 1, .inr (.inl (vp_updL (fun _ => 0) 0 1))))]) := by
  refine CW.of (by decide +kernel) (Nat.le_of_ble_eq_true rfl) ?_
  intro p e s m args below meth c A ls hx hb hr hml hown hG hlocks htab hA hS hP hK hD hGV hl
  have hown : s.vm.findClass RL = some m.cls := hown
  have hl : lv_has ls 4 [(0, .ref h0), (1, .int p0), (2, .ref h1)] := hl
  have hSF : CF p m c cL_isBalanced 4 s args RL := ⟨hx, hb, hml, hown, hG⟩
  refine lv_aload_n hx hb dL_isBalanced_0 rfl (lv_at hl 2 rfl) ?_
  refine lv_iconst (v := 0) hx hb dL_isBalanced_1 (by decide) ?_
  refine lv_aload_n hx hb dL_isBalanced_2 rfl (lv_at hl 0 rfl) ?_
  refine lv_iload_n hx hb dL_isBalanced_3 rfl (lv_at hl 1 rfl) ?_
  refine ct_V (wr := [(h1, .inl (cA 1, 1, .inr (.inl (fun _ => 0))))]) hSF hl.1 hP hD hS hA hK hGV (c162_X6_isBalanced l hfl D cA g h0 h2 h3 h4 h5 h6 h7 h8 h9 h10 h11 h12 h13 h14 h15 h16 h17 h18 h19 h20 h21 h22 h23 h24 h25 h26 h27 h28 h29 h30 h31 (p0) k0 k1) goV_L_38 pd_X6_isBalanced ⟨(Nat.le_of_ble_eq_true rfl), (Nat.le_of_ble_eq_true rfl)⟩ ⟨(Nat.le_of_ble_eq_true rfl), (Nat.le_of_ble_eq_true rfl)⟩ (va_recv hK hP (ci := 9) (q0 := 0) rfl rfl) dL_isBalanced_4 rfl (Nat.le_of_ble_eq_true rfl) [0, 1, 2, 3, 4, 5] [6] rfl (by decide) rfl (by decide) (by decide) (fun q => [(h1, .inl (cA 1, 1, .inr (.inl (fun _ => 0)))), (h0, .inr (9, [.ref h2, .ref h3, .ref h4, .ref h5, .ref h6])), (h3, .inr (4, [.int 1, .int 46, .long 1, .ref h7, .ref h8, .ref h9, .ref h10, .ref h11, .ref h12, .ref h13, .ref h14, .ref h15, .ref h16, .ref h17, .ref h18, .ref h19, .ref h20])), (h2, .inr (5, [.int 0, .int 0, .ref h21, .ref h22, .ref h23, .ref h24, .ref h25, .ref h26, .ref h27, .ref h28, .ref h29, .ref h30])), (h13, .inl (cA 1, 512, .inr (.inl (vp_updL (fun _ => 0) 0 1)))), (h17, .inr (8, [.ref h31])), (h31, .inl (cA 1, 8, .inr (.inl (vp_updL (vp_updL (vp_updL (vp_updL (vp_updL (vp_updL (vp_updL (vp_updL (fun _ => 0) 2 0) 3 0) 4 0) 5 0) 6 0) 7 0) 0 1) 1 0))))]) (fun _ => rfl) (fun q1 H locs hP hD hS => ?_)
  refine W.eq (g2 := F0 m 7 ls [.int 1, .int 0, .ref h1]) rfl ?_
  refine k_if_eq_f (tgt := 14) hx hb dL_isBalanced_7 (by decide) (by decide) ?_
  refine lv_lconst (v := 1) hx hb dL_isBalanced_10 (by decide) ?_
  refine lv_goto (tgt := 15) hx hb dL_isBalanced_11 (by decide) ?_
  refine k_last (ws1 := [(h1, .inl (cA 1, 1, .inr (.inl (vp_updL (fun _ => 0) 0 1)))), (h0, .inr (9, [.ref h2, .ref h3, .ref h4, .ref h5, .ref h6])), (h3, .inr (4, [.int 1, .int 46, .long 1, .ref h7, .ref h8, .ref h9, .ref h10, .ref h11, .ref h12, .ref h13, .ref h14, .ref h15, .ref h16, .ref h17, .ref h18, .ref h19, .ref h20])), (h2, .inr (5, [.int 0, .int 0, .ref h21, .ref h22, .ref h23, .ref h24, .ref h25, .ref h26, .ref h27, .ref h28, .ref h29, .ref h30])), (h13, .inl (cA 1, 512, .inr (.inl (vp_updL (fun _ => 0) 0 1)))), (h17, .inr (8, [.ref h31])), (h31, .inl (cA 1, 8, .inr (.inl (vp_updL (vp_updL (vp_updL (vp_updL (vp_updL (vp_updL (vp_updL (vp_updL (fun _ => 0) 2 0) 3 0) 4 0) 5 0) 6 0) 7 0) 0 1) 1 0))))]) hx hb hK hP hD hS 0 rfl rfl (by unfold vp_in; decide) dL_isBalanced_15 (fun H locs hP hD hS => ?_)
  refine lv_goto (tgt := 25) hx hb dL_isBalanced_16 (by decide) ?_
  refine lv_iconst (v := 0) hx hb dL_isBalanced_25 (by decide) ?_
  exact e_i (fun _ => 0) hx hb hr hlocks rfl rfl (hP.sub [1, 2, 3, 4, 5, 6, 0] rfl) (hD.sub [1, 2, 3, 4, 5, 6, 0] (by decide) rfl) hS (Nat.le_of_ble_eq_true rfl) (Nat.le_of_ble_eq_true rfl) dL_isBalanced_26
set_option maxHeartbeats 4000000 in
set_option maxRecDepth 100000 in
theorem c164_X12_stands (l : Launch) (hfl : l.stackTraces = false) (D : va_G) (cA : Nat → ClassId) (g : gv_T) (h0 h1 h2 h3 h4 h5 h6 h7 h8 h9 h10 h11 h12 h13 h14 h15 h16 h17 h18 : Nat) : CT l yX12_stands cX12_stands 1 (some .boolean) (RM 3 0 0 67) D cA g [.ref h0] [(h0, .inr (15, [.ref h1, .ref h2, .ref h3, .ref h4, .ref h5, .ref h6, .ref h7, .ref h8, .ref h9, .ref h10, .ref h11, .ref h12, .ref h13, .ref h14, .ref h15, .ref h16, .ref h17, .ref h18, .long 0, .int 0, .int 2, .int 0, .int 0, .int 0, .int 0, .int 0, .int 0])), (h2, .inr (2, [.int 0, .ref g.1, .int 0])), (h1, .inr (2, [.int 0, .ref g.1, .int 0])), (h5, .inl (cA 1, 512, .inr (.inl (fun _ => 0))))] (fun q => some (.int 1)) (fun q => [(h0, .inr (15, [.ref h1, .ref h2, .ref h3, .ref h4, .ref h5, .ref h6, .ref h7, .ref h8, .ref h9, .ref h10, .ref h11, .ref h12, .ref h13, .ref h14, .ref h15, .ref h16, .ref h17, .ref h18, .long 1, .int 0, .int 2, .int 0, .int 1, .int 0, .int 0, .int 0, .int 46])), (h2, .inr (2, [.int 0, .ref g.1, .int 0])), (h1, .inr (2, [.int 0, .ref g.1, .int 0])), (h5, .inl (cA 1, 512, .inr (.inl (vp_updL (vp_updL (fun _ => 0) 0 0) 0 1))))]) := by
  refine CT.of (by decide +kernel) (Nat.le_of_ble_eq_true rfl) ?_
  intro p e s m args below meth c A ls hx hb hr hml hown hG hlocks hnm hA hS hP hK hD hGV hl
  have hown : s.vm.findClass RX12 = some m.cls := hown
  have hl : lv_has ls 1 [(0, .ref h0)] := hl
  have hSF : CF p m c cX12_stands 1 s args RX12 := ⟨hx, hb, hml, hown, hG⟩
  refine lv_aload_n hx hb dX12_stands_0 rfl (lv_at hl 0 rfl) ?_
  refine ct_V (wr := []) hSF hl.1 hP hD hS hA hK hGV (c120_X12_reckons l hfl D cA g h0 h1 h2 h3 h4 h5 h6 h7 h8 h9 h10 h11 h12 h13 h14 h15 h16 h17 h18) goV_X12_166 pd_X12_reckons ⟨(Nat.le_of_ble_eq_true rfl), (Nat.le_of_ble_eq_true rfl)⟩ ⟨(Nat.le_of_ble_eq_true rfl), (Nat.le_of_ble_eq_true rfl)⟩ (va_recv hK hP (ci := 15) (q0 := 0) rfl rfl) dX12_stands_1 rfl (Nat.le_of_ble_eq_true rfl) [0, 1, 2, 3] [] rfl (by decide) rfl (by decide) (by decide) (fun q => [(h0, .inr (15, [.ref h1, .ref h2, .ref h3, .ref h4, .ref h5, .ref h6, .ref h7, .ref h8, .ref h9, .ref h10, .ref h11, .ref h12, .ref h13, .ref h14, .ref h15, .ref h16, .ref h17, .ref h18, .long 1, .int 0, .int 2, .int 0, .int 1, .int 0, .int 0, .int 0, .int 46])), (h2, .inr (2, [.int 0, .ref g.1, .int 0])), (h1, .inr (2, [.int 0, .ref g.1, .int 0])), (h5, .inl (cA 1, 512, .inr (.inl (vp_updL (vp_updL (fun _ => 0) 0 0) 0 1))))]) (fun _ => rfl) (fun q1 H locs hP hD hS => ?_)
  refine W.eq (g2 := F0 m 4 ls []) rfl ?_
  refine lv_aload_n hx hb dX12_stands_4 rfl (lv_at hl 0 rfl) ?_
  refine k_get (ci := 15) (C := RX12) (T := TX12) (N := 27) (v := .int 46) hx hb hG inX12 hown hK hP 0 rfl rfl 26 (by decide) gw1245 rfl dX12_stands_5 ?_
  refine lv_bipush (v := 46) hx hb dX12_stands_8 (by decide) ?_
  refine k_icmp_ne_f (tgt := 17) hx hb dX12_stands_10 (by decide) (by decide) ?_
  refine lv_iconst (v := 1) hx hb dX12_stands_13 (by decide) ?_
  refine lv_goto (tgt := 18) hx hb dX12_stands_14 (by decide) ?_
  exact e_i (fun _ => 0) hx hb hr hlocks rfl rfl hP hD hS (Nat.le_of_ble_eq_true rfl) (Nat.le_of_ble_eq_true rfl) dX12_stands_18
set_option maxHeartbeats 4000000 in
set_option maxRecDepth 100000 in
theorem c165_X12_restOf (l : Launch) (hfl : l.stackTraces = false) (D : va_G) (cA : Nat → ClassId) (g : gv_T) (h0 h1 h2 h3 h4 h5 h6 h7 h8 h9 h10 h11 h12 h13 h14 h15 h16 h17 h18 : Nat) (p0 : Int32) : CT l yX12_restOf cX12_restOf 10 (some .long) (RM 1 0 0 20) D cA g [.ref h0, .int p0, .int 0] [(h0, .inr (15, [.ref h1, .ref h2, .ref h3, .ref h4, .ref h5, .ref h6, .ref h7, .ref h8, .ref h9, .ref h10, .ref h11, .ref h12, .ref h13, .ref h14, .ref h15, .ref h16, .ref h17, .ref h18, .long 1, .int 0, .int 2, .int 0, .int 1, .int 0, .int 0, .int 0, .int 46])), (h1, .inr (2, [.int 0, .ref g.1, .int 0]))] (fun q => some (.long 0)) (fun q => [(h0, .inr (15, [.ref h1, .ref h2, .ref h3, .ref h4, .ref h5, .ref h6, .ref h7, .ref h8, .ref h9, .ref h10, .ref h11, .ref h12, .ref h13, .ref h14, .ref h15, .ref h16, .ref h17, .ref h18, .long 1, .int 0, .int 2, .int 0, .int 1, .int 0, .int 0, .int 0, .int 46])), (h1, .inr (2, [.int 0, .ref g.1, .int 0]))]) := by
  refine CT.of (by decide +kernel) (Nat.le_of_ble_eq_true rfl) ?_
  intro p e s m args below meth c A ls hx hb hr hml hown hG hlocks hnm hA hS hP hK hD hGV hl
  have hown : s.vm.findClass RX12 = some m.cls := hown
  have hl : lv_has ls 10 [(0, .ref h0), (1, .int p0), (2, .int 0)] := hl
  have hSF : CF p m c cX12_restOf 10 s args RX12 := ⟨hx, hb, hml, hown, hG⟩
  refine lv_lconst (v := 0) hx hb dX12_restOf_0 (by decide) ?_
  refine lv_lstore_n (lv' := [(3, .long 0), (0, .ref h0), (1, .int p0), (2, .int 0)]) hx hb dX12_restOf_1 rfl hl (by decide) rfl (fun ls hl => ?_)
  refine lv_iconst (v := 0) hx hb dX12_restOf_2 (by decide) ?_
  refine lv_istore (lv' := [(5, .int 0), (3, .long 0), (0, .ref h0), (1, .int p0), (2, .int 0)]) hx hb dX12_restOf_3 hl (by decide) rfl (fun ls hl => ?_)
  refine lv_iload hx hb dX12_restOf_5 (lv_at hl 0 rfl) ?_
  refine lv_aload_n hx hb dX12_restOf_7 rfl (lv_at hl 2 rfl) ?_
  refine k_get (ci := 15) (C := RX12) (T := TX12) (N := 27) (v := .ref h1) hx hb hG inX12 hown hK hP 0 rfl rfl 0 (by decide) gw1219 rfl dX12_restOf_8 ?_
  refine ct_V (wr := [(h0, .inr (15, [.ref h1, .ref h2, .ref h3, .ref h4, .ref h5, .ref h6, .ref h7, .ref h8, .ref h9, .ref h10, .ref h11, .ref h12, .ref h13, .ref h14, .ref h15, .ref h16, .ref h17, .ref h18, .long 1, .int 0, .int 2, .int 0, .int 1, .int 0, .int 0, .int 0, .int 46]))]) hSF hl.1 hP hD hS hA hK hGV (c56_Jx4a65c_size_8abf5 l hfl D cA g h1) goV_X12_125 pd_Jx4a65c_size_8abf5 ⟨(Nat.le_of_ble_eq_true rfl), (Nat.le_of_ble_eq_true rfl)⟩ ⟨(Nat.le_of_ble_eq_true rfl), (Nat.le_of_ble_eq_true rfl)⟩ (va_recv hK hP (ci := 2) (q0 := 1) rfl rfl) dX12_restOf_11 rfl (Nat.le_of_ble_eq_true rfl) [1] [0] rfl (by decide) rfl (by decide) (by decide) (fun q => [(h0, .inr (15, [.ref h1, .ref h2, .ref h3, .ref h4, .ref h5, .ref h6, .ref h7, .ref h8, .ref h9, .ref h10, .ref h11, .ref h12, .ref h13, .ref h14, .ref h15, .ref h16, .ref h17, .ref h18, .long 1, .int 0, .int 2, .int 0, .int 1, .int 0, .int 0, .int 0, .int 46])), (h1, .inr (2, [.int 0, .ref g.1, .int 0]))]) (fun _ => rfl) (fun q1 H locs hP hD hS => ?_)
  refine W.eq (g2 := F0 m 14 ls [.int 0, .int 0]) rfl ?_
  refine k_icmp_ge_t (tgt := 219) hx hb dX12_restOf_14 (by decide) (by decide) ?_
  refine lv_lload_n hx hb dX12_restOf_219 rfl (lv_at hl 1 rfl) ?_
  exact e_l (fun _ => 0) hx hb hr hlocks rfl hP hD hS (Nat.le_of_ble_eq_true rfl) (Nat.le_of_ble_eq_true rfl) dX12_restOf_220
set_option maxHeartbeats 4000000 in
set_option maxRecDepth 100000 in
theorem c166_X12_restOf (l : Launch) (hfl : l.stackTraces = false) (D : va_G) (cA : Nat → ClassId) (g : gv_T) (h0 h1 h2 h3 h4 h5 h6 h7 h8 h9 h10 h11 h12 h13 h14 h15 h16 h17 h18 : Nat) (p0 : Int32) : CT l yX12_restOf cX12_restOf 10 (some .long) (RM 1 0 0 20) D cA g [.ref h0, .int p0, .int 1] [(h0, .inr (15, [.ref h1, .ref h2, .ref h3, .ref h4, .ref h5, .ref h6, .ref h7, .ref h8, .ref h9, .ref h10, .ref h11, .ref h12, .ref h13, .ref h14, .ref h15, .ref h16, .ref h17, .ref h18, .long 1, .int 0, .int 2, .int 0, .int 1, .int 0, .int 0, .int 0, .int 46])), (h1, .inr (2, [.int 0, .ref g.1, .int 0]))] (fun q => some (.long 0)) (fun q => [(h0, .inr (15, [.ref h1, .ref h2, .ref h3, .ref h4, .ref h5, .ref h6, .ref h7, .ref h8, .ref h9, .ref h10, .ref h11, .ref h12, .ref h13, .ref h14, .ref h15, .ref h16, .ref h17, .ref h18, .long 1, .int 0, .int 2, .int 0, .int 1, .int 0, .int 0, .int 0, .int 46])), (h1, .inr (2, [.int 0, .ref g.1, .int 0]))]) := by
  refine CT.of (by decide +kernel) (Nat.le_of_ble_eq_true rfl) ?_
  intro p e s m args below meth c A ls hx hb hr hml hown hG hlocks hnm hA hS hP hK hD hGV hl
  have hown : s.vm.findClass RX12 = some m.cls := hown
  have hl : lv_has ls 10 [(0, .ref h0), (1, .int p0), (2, .int 1)] := hl
  have hSF : CF p m c cX12_restOf 10 s args RX12 := ⟨hx, hb, hml, hown, hG⟩
  refine lv_lconst (v := 0) hx hb dX12_restOf_0 (by decide) ?_
  refine lv_lstore_n (lv' := [(3, .long 0), (0, .ref h0), (1, .int p0), (2, .int 1)]) hx hb dX12_restOf_1 rfl hl (by decide) rfl (fun ls hl => ?_)
  refine lv_iconst (v := 0) hx hb dX12_restOf_2 (by decide) ?_
  refine lv_istore (lv' := [(5, .int 0), (3, .long 0), (0, .ref h0), (1, .int p0), (2, .int 1)]) hx hb dX12_restOf_3 hl (by decide) rfl (fun ls hl => ?_)
  refine lv_iload hx hb dX12_restOf_5 (lv_at hl 0 rfl) ?_
  refine lv_aload_n hx hb dX12_restOf_7 rfl (lv_at hl 2 rfl) ?_
  refine k_get (ci := 15) (C := RX12) (T := TX12) (N := 27) (v := .ref h1) hx hb hG inX12 hown hK hP 0 rfl rfl 0 (by decide) gw1219 rfl dX12_restOf_8 ?_
  refine ct_V (wr := [(h0, .inr (15, [.ref h1, .ref h2, .ref h3, .ref h4, .ref h5, .ref h6, .ref h7, .ref h8, .ref h9, .ref h10, .ref h11, .ref h12, .ref h13, .ref h14, .ref h15, .ref h16, .ref h17, .ref h18, .long 1, .int 0, .int 2, .int 0, .int 1, .int 0, .int 0, .int 0, .int 46]))]) hSF hl.1 hP hD hS hA hK hGV (c56_Jx4a65c_size_8abf5 l hfl D cA g h1) goV_X12_125 pd_Jx4a65c_size_8abf5 ⟨(Nat.le_of_ble_eq_true rfl), (Nat.le_of_ble_eq_true rfl)⟩ ⟨(Nat.le_of_ble_eq_true rfl), (Nat.le_of_ble_eq_true rfl)⟩ (va_recv hK hP (ci := 2) (q0 := 1) rfl rfl) dX12_restOf_11 rfl (Nat.le_of_ble_eq_true rfl) [1] [0] rfl (by decide) rfl (by decide) (by decide) (fun q => [(h0, .inr (15, [.ref h1, .ref h2, .ref h3, .ref h4, .ref h5, .ref h6, .ref h7, .ref h8, .ref h9, .ref h10, .ref h11, .ref h12, .ref h13, .ref h14, .ref h15, .ref h16, .ref h17, .ref h18, .long 1, .int 0, .int 2, .int 0, .int 1, .int 0, .int 0, .int 0, .int 46])), (h1, .inr (2, [.int 0, .ref g.1, .int 0]))]) (fun _ => rfl) (fun q1 H locs hP hD hS => ?_)
  refine W.eq (g2 := F0 m 14 ls [.int 0, .int 0]) rfl ?_
  refine k_icmp_ge_t (tgt := 219) hx hb dX12_restOf_14 (by decide) (by decide) ?_
  refine lv_lload_n hx hb dX12_restOf_219 rfl (lv_at hl 1 rfl) ?_
  exact e_l (fun _ => 0) hx hb hr hlocks rfl hP hD hS (Nat.le_of_ble_eq_true rfl) (Nat.le_of_ble_eq_true rfl) dX12_restOf_220
set_option maxHeartbeats 4000000 in
set_option maxRecDepth 100000 in
theorem c167_X12_tells (l : Launch) (hfl : l.stackTraces = false) (D : va_G) (cA : Nat → ClassId) (g : gv_T) (h0 h1 h2 h3 h4 h5 h6 h7 h8 h9 h10 h11 h12 h13 h14 h15 h16 h17 h18 : Nat) : CT l yX12_tells cX12_tells 2 (some .boolean) (RM 0 0 0 0) D cA g [.ref h0, .int 1] [(h0, .inr (15, [.ref h1, .ref h2, .ref h3, .ref h4, .ref h5, .ref h6, .ref h7, .ref h8, .ref h9, .ref h10, .ref h11, .ref h12, .ref h13, .ref h14, .ref h15, .ref h16, .ref h17, .ref h18, .long 1, .int 0, .int 2, .int 0, .int 1, .int 0, .int 0, .int 0, .int 46]))] (fun q => some (.int 1)) (fun q => [(h0, .inr (15, [.ref h1, .ref h2, .ref h3, .ref h4, .ref h5, .ref h6, .ref h7, .ref h8, .ref h9, .ref h10, .ref h11, .ref h12, .ref h13, .ref h14, .ref h15, .ref h16, .ref h17, .ref h18, .long 1, .int 0, .int 2, .int 0, .int 1, .int 0, .int 0, .int 0, .int 46]))]) := by
  refine CT.of (by decide +kernel) (Nat.le_of_ble_eq_true rfl) ?_
  intro p e s m args below meth c A ls hx hb hr hml hown hG hlocks hnm hA hS hP hK hD hGV hl
  have hown : s.vm.findClass RX12 = some m.cls := hown
  have hl : lv_has ls 2 [(0, .ref h0), (1, .int 1)] := hl
  have hSF : CF p m c cX12_tells 2 s args RX12 := ⟨hx, hb, hml, hown, hG⟩
  refine lv_aload_n hx hb dX12_tells_0 rfl (lv_at hl 0 rfl) ?_
  refine lv_iconst (v := 0) hx hb dX12_tells_1 (by decide) ?_
  refine k_put (ci := 15) (C := RX12) (T := TX12) (N := 27) (v := .int 0) (ws1 := [(h0, .inr (15, [.ref h1, .ref h2, .ref h3, .ref h4, .ref h5, .ref h6, .ref h7, .ref h8, .ref h9, .ref h10, .ref h11, .ref h12, .ref h13, .ref h14, .ref h15, .ref h16, .ref h17, .ref h18, .long 1, .int 0, .int 2, .int 0, .int 1, .int 0, .int 0, .int 0, .int 46]))]) hx hb hG inX12 tyX12 tyX12_ok nmX12 hown hK hP hD hS 0 rfl rfl 19 (by decide) gw1238 rfl ⟨rfl, rfl⟩ rfl (Nat.le_of_ble_eq_true rfl) dX12_tells_2 (fun H locs hP hD hS => ?_)
  refine lv_iload_n hx hb dX12_tells_5 rfl (lv_at hl 1 rfl) ?_
  exact e_i (fun _ => 0) hx hb hr hlocks rfl rfl hP hD hS (Nat.le_of_ble_eq_true rfl) (Nat.le_of_ble_eq_true rfl) dX12_tells_6
set_option maxHeartbeats 4000000 in
set_option maxRecDepth 100000 in
theorem c168_X12_isBalanced (l : Launch) (hfl : l.stackTraces = false) (D : va_G) (cA : Nat → ClassId) (g : gv_T) (h0 h1 h2 h3 h4 h5 h6 h7 h8 h9 h10 h11 h12 h13 h14 h15 h16 h17 h18 : Nat) (p0 : Int32) (k0 : ¬ (lg_cmp p0.toInt64 0) < 0) (k1 : ¬ 0 < (lg_cmp p0.toInt64 30)) : CT l yX12_isBalanced cX12_isBalanced 2 (some .boolean) (RM 4 0 0 87) D cA g [.ref h0, .int p0] [(h0, .inr (15, [.ref h1, .ref h2, .ref h3, .ref h4, .ref h5, .ref h6, .ref h7, .ref h8, .ref h9, .ref h10, .ref h11, .ref h12, .ref h13, .ref h14, .ref h15, .ref h16, .ref h17, .ref h18, .long 0, .int 0, .int 2, .int 0, .int 0, .int 0, .int 0, .int 0, .int 0])), (h2, .inr (2, [.int 0, .ref g.1, .int 0])), (h1, .inr (2, [.int 0, .ref g.1, .int 0])), (h5, .inl (cA 1, 512, .inr (.inl (fun _ => 0))))] (fun q => some (.int 1)) (fun q => [(h0, .inr (15, [.ref h1, .ref h2, .ref h3, .ref h4, .ref h5, .ref h6, .ref h7, .ref h8, .ref h9, .ref h10, .ref h11, .ref h12, .ref h13, .ref h14, .ref h15, .ref h16, .ref h17, .ref h18, .long 1, .int 0, .int 2, .int 0, .int 1, .int 0, .int 0, .int 0, .int 46])), (h2, .inr (2, [.int 0, .ref g.1, .int 0])), (h1, .inr (2, [.int 0, .ref g.1, .int 0])), (h5, .inl (cA 1, 512, .inr (.inl (vp_updL (vp_updL (fun _ => 0) 0 0) 0 1))))]) := by
  refine CT.of (by decide +kernel) (Nat.le_of_ble_eq_true rfl) ?_
  intro p e s m args below meth c A ls hx hb hr hml hown hG hlocks hnm hA hS hP hK hD hGV hl
  have hown : s.vm.findClass RX12 = some m.cls := hown
  have hl : lv_has ls 2 [(0, .ref h0), (1, .int p0)] := hl
  have hSF : CF p m c cX12_isBalanced 2 s args RX12 := ⟨hx, hb, hml, hown, hG⟩
  refine lv_iload_n hx hb dX12_isBalanced_0 rfl (lv_at hl 1 rfl) ?_
  refine lv_i2l (v := p0.toInt64) hx hb dX12_isBalanced_1 rfl ?_
  refine lv_iconst (v := 0) hx hb dX12_isBalanced_2 (by decide) ?_
  refine lv_bipush (v := 30) hx hb dX12_isBalanced_3 (by decide) ?_
  refine ct_S (wr := [(h0, .inr (15, [.ref h1, .ref h2, .ref h3, .ref h4, .ref h5, .ref h6, .ref h7, .ref h8, .ref h9, .ref h10, .ref h11, .ref h12, .ref h13, .ref h14, .ref h15, .ref h16, .ref h17, .ref h18, .long 0, .int 0, .int 2, .int 0, .int 0, .int 0, .int 0, .int 0, .int 0])), (h2, .inr (2, [.int 0, .ref g.1, .int 0])), (h1, .inr (2, [.int 0, .ref g.1, .int 0])), (h5, .inl (cA 1, 512, .inr (.inl (fun _ => 0))))]) hSF hl.1 hP hD hS hA hK hGV (c26_X12_in l hfl D cA g (p0.toInt64) k0 k1) goS_X12_285 pd_X12_in.2 ⟨(Nat.le_of_ble_eq_true rfl), (Nat.le_of_ble_eq_true rfl)⟩ ⟨(Nat.le_of_ble_eq_true rfl), (Nat.le_of_ble_eq_true rfl)⟩ dX12_isBalanced_5 rfl (Nat.le_of_ble_eq_true rfl) [] [0, 1, 2, 3] rfl (by decide) rfl (by decide) (by decide) (fun q => [(h0, .inr (15, [.ref h1, .ref h2, .ref h3, .ref h4, .ref h5, .ref h6, .ref h7, .ref h8, .ref h9, .ref h10, .ref h11, .ref h12, .ref h13, .ref h14, .ref h15, .ref h16, .ref h17, .ref h18, .long 0, .int 0, .int 2, .int 0, .int 0, .int 0, .int 0, .int 0, .int 0])), (h2, .inr (2, [.int 0, .ref g.1, .int 0])), (h1, .inr (2, [.int 0, .ref g.1, .int 0])), (h5, .inl (cA 1, 512, .inr (.inl (fun _ => 0))))]) (fun _ => rfl) (fun q1 H locs hP hD hS => ?_)
  refine W.eq (g2 := F0 m 8 ls [.int 1]) rfl ?_
  refine k_if_ne_t (tgt := 17) hx hb dX12_isBalanced_8 (by decide) (by decide) ?_
  refine lv_aload_n hx hb dX12_isBalanced_17 rfl (lv_at hl 0 rfl) ?_
  refine ct_V (wr := []) hSF hl.1 hP hD hS hA hK hGV (c164_X12_stands l hfl D cA g h0 h1 h2 h3 h4 h5 h6 h7 h8 h9 h10 h11 h12 h13 h14 h15 h16 h17 h18) goV_X12_320 pd_X12_stands ⟨(Nat.le_of_ble_eq_true rfl), (Nat.le_of_ble_eq_true rfl)⟩ ⟨(Nat.le_of_ble_eq_true rfl), (Nat.le_of_ble_eq_true rfl)⟩ (va_recv hK hP (ci := 15) (q0 := 0) rfl rfl) dX12_isBalanced_18 rfl (Nat.le_of_ble_eq_true rfl) [0, 1, 2, 3] [] rfl (by decide) rfl (by decide) (by decide) (fun q => [(h0, .inr (15, [.ref h1, .ref h2, .ref h3, .ref h4, .ref h5, .ref h6, .ref h7, .ref h8, .ref h9, .ref h10, .ref h11, .ref h12, .ref h13, .ref h14, .ref h15, .ref h16, .ref h17, .ref h18, .long 1, .int 0, .int 2, .int 0, .int 1, .int 0, .int 0, .int 0, .int 46])), (h2, .inr (2, [.int 0, .ref g.1, .int 0])), (h1, .inr (2, [.int 0, .ref g.1, .int 0])), (h5, .inl (cA 1, 512, .inr (.inl (vp_updL (vp_updL (fun _ => 0) 0 0) 0 1))))]) (fun _ => rfl) (fun q2 H locs hP hD hS => ?_)
  refine W.eq (g2 := F0 m 21 ls [.int 1]) rfl ?_
  refine k_if_eq_f (tgt := 58) hx hb dX12_isBalanced_21 (by decide) (by decide) ?_
  refine lv_aload_n hx hb dX12_isBalanced_24 rfl (lv_at hl 0 rfl) ?_
  refine lv_aload_n hx hb dX12_isBalanced_25 rfl (lv_at hl 0 rfl) ?_
  refine lv_iload_n hx hb dX12_isBalanced_26 rfl (lv_at hl 1 rfl) ?_
  refine lv_iconst (v := 0) hx hb dX12_isBalanced_27 (by decide) ?_
  refine ct_V (wr := [(h2, .inr (2, [.int 0, .ref g.1, .int 0])), (h5, .inl (cA 1, 512, .inr (.inl (vp_updL (vp_updL (fun _ => 0) 0 0) 0 1))))]) hSF hl.1 hP hD hS hA hK hGV (c165_X12_restOf l hfl D cA g h0 h1 h2 h3 h4 h5 h6 h7 h8 h9 h10 h11 h12 h13 h14 h15 h16 h17 h18 (p0)) goV_X12_339 pd_X12_restOf ⟨(Nat.le_of_ble_eq_true rfl), (Nat.le_of_ble_eq_true rfl)⟩ ⟨(Nat.le_of_ble_eq_true rfl), (Nat.le_of_ble_eq_true rfl)⟩ (va_recv hK hP (ci := 15) (q0 := 0) rfl rfl) dX12_isBalanced_28 rfl (Nat.le_of_ble_eq_true rfl) [0, 2] [1, 3] rfl (by decide) rfl (by decide) (by decide) (fun q => [(h2, .inr (2, [.int 0, .ref g.1, .int 0])), (h5, .inl (cA 1, 512, .inr (.inl (vp_updL (vp_updL (fun _ => 0) 0 0) 0 1)))), (h0, .inr (15, [.ref h1, .ref h2, .ref h3, .ref h4, .ref h5, .ref h6, .ref h7, .ref h8, .ref h9, .ref h10, .ref h11, .ref h12, .ref h13, .ref h14, .ref h15, .ref h16, .ref h17, .ref h18, .long 1, .int 0, .int 2, .int 0, .int 1, .int 0, .int 0, .int 0, .int 46])), (h1, .inr (2, [.int 0, .ref g.1, .int 0]))]) (fun _ => rfl) (fun q3 H locs hP hD hS => ?_)
  refine W.eq (g2 := F0 m 31 ls [.long 0, .ref h0]) rfl ?_
  refine lv_lconst (v := 0) hx hb dX12_isBalanced_31 (by decide) ?_
  refine k_lcmp (v := 0) hx hb dX12_isBalanced_32 (by decide +kernel) ?_
  refine k_if_ne_f (tgt := 51) hx hb dX12_isBalanced_33 (by decide) (by decide) ?_
  refine lv_aload_n hx hb dX12_isBalanced_36 rfl (lv_at hl 0 rfl) ?_
  refine lv_iload_n hx hb dX12_isBalanced_37 rfl (lv_at hl 1 rfl) ?_
  refine lv_iconst (v := 1) hx hb dX12_isBalanced_38 (by decide) ?_
  refine ct_V (wr := [(h2, .inr (2, [.int 0, .ref g.1, .int 0])), (h5, .inl (cA 1, 512, .inr (.inl (vp_updL (vp_updL (fun _ => 0) 0 0) 0 1))))]) hSF hl.1 hP hD hS hA hK hGV (c166_X12_restOf l hfl D cA g h0 h1 h2 h3 h4 h5 h6 h7 h8 h9 h10 h11 h12 h13 h14 h15 h16 h17 h18 (p0)) goV_X12_339 pd_X12_restOf ⟨(Nat.le_of_ble_eq_true rfl), (Nat.le_of_ble_eq_true rfl)⟩ ⟨(Nat.le_of_ble_eq_true rfl), (Nat.le_of_ble_eq_true rfl)⟩ (va_recv hK hP (ci := 15) (q0 := 2) rfl rfl) dX12_isBalanced_39 rfl (Nat.le_of_ble_eq_true rfl) [2, 3] [0, 1] rfl (by decide) rfl (by decide) (by decide) (fun q => [(h2, .inr (2, [.int 0, .ref g.1, .int 0])), (h5, .inl (cA 1, 512, .inr (.inl (vp_updL (vp_updL (fun _ => 0) 0 0) 0 1)))), (h0, .inr (15, [.ref h1, .ref h2, .ref h3, .ref h4, .ref h5, .ref h6, .ref h7, .ref h8, .ref h9, .ref h10, .ref h11, .ref h12, .ref h13, .ref h14, .ref h15, .ref h16, .ref h17, .ref h18, .long 1, .int 0, .int 2, .int 0, .int 1, .int 0, .int 0, .int 0, .int 46])), (h1, .inr (2, [.int 0, .ref g.1, .int 0]))]) (fun _ => rfl) (fun q4 H locs hP hD hS => ?_)
  refine W.eq (g2 := F0 m 42 ls [.long 0, .ref h0]) rfl ?_
  refine lv_lconst (v := 0) hx hb dX12_isBalanced_42 (by decide) ?_
  refine k_lcmp (v := 0) hx hb dX12_isBalanced_43 (by decide +kernel) ?_
  refine k_if_ne_f (tgt := 51) hx hb dX12_isBalanced_44 (by decide) (by decide) ?_
  refine lv_iconst (v := 1) hx hb dX12_isBalanced_47 (by decide) ?_
  refine lv_goto (tgt := 52) hx hb dX12_isBalanced_48 (by decide) ?_
  refine ct_V (wr := [(h2, .inr (2, [.int 0, .ref g.1, .int 0])), (h5, .inl (cA 1, 512, .inr (.inl (vp_updL (vp_updL (fun _ => 0) 0 0) 0 1)))), (h1, .inr (2, [.int 0, .ref g.1, .int 0]))]) hSF hl.1 hP hD hS hA hK hGV (c167_X12_tells l hfl D cA g h0 h1 h2 h3 h4 h5 h6 h7 h8 h9 h10 h11 h12 h13 h14 h15 h16 h17 h18) goV_X12_343 pd_X12_tells ⟨(Nat.le_of_ble_eq_true rfl), (Nat.le_of_ble_eq_true rfl)⟩ ⟨(Nat.le_of_ble_eq_true rfl), (Nat.le_of_ble_eq_true rfl)⟩ (va_recv hK hP (ci := 15) (q0 := 2) rfl rfl) dX12_isBalanced_52 rfl (Nat.le_of_ble_eq_true rfl) [2] [0, 1, 3] rfl (by decide) rfl (by decide) (by decide) (fun q => [(h2, .inr (2, [.int 0, .ref g.1, .int 0])), (h5, .inl (cA 1, 512, .inr (.inl (vp_updL (vp_updL (fun _ => 0) 0 0) 0 1)))), (h1, .inr (2, [.int 0, .ref g.1, .int 0])), (h0, .inr (15, [.ref h1, .ref h2, .ref h3, .ref h4, .ref h5, .ref h6, .ref h7, .ref h8, .ref h9, .ref h10, .ref h11, .ref h12, .ref h13, .ref h14, .ref h15, .ref h16, .ref h17, .ref h18, .long 1, .int 0, .int 2, .int 0, .int 1, .int 0, .int 0, .int 0, .int 46]))]) (fun _ => rfl) (fun q5 H locs hP hD hS => ?_)
  refine W.eq (g2 := F0 m 55 ls [.int 1]) rfl ?_
  refine lv_goto (tgt := 63) hx hb dX12_isBalanced_55 (by decide) ?_
  exact e_i (fun _ => 0) hx hb hr hlocks rfl rfl (hP.sub [3, 0, 2, 1] rfl) (hD.sub [3, 0, 2, 1] (by decide) rfl) hS (Nat.le_of_ble_eq_true rfl) (Nat.le_of_ble_eq_true rfl) dX12_isBalanced_63
set_option maxHeartbeats 4000000 in
set_option maxRecDepth 100000 in
theorem c169_X12_thrown (l : Launch) (hfl : l.stackTraces = false) (D : va_G) (cA : Nat → ClassId) (g : gv_T) (h0 h1 h2 h3 h4 h5 h6 h7 h8 h9 h10 h11 h12 h13 h14 h15 h16 h17 h18 : Nat) : CT l yX12_thrown cX12_thrown 1 (some .int) (RM 0 0 0 0) D cA g [.ref h0] [(h0, .inr (15, [.ref h1, .ref h2, .ref h3, .ref h4, .ref h5, .ref h6, .ref h7, .ref h8, .ref h9, .ref h10, .ref h11, .ref h12, .ref h13, .ref h14, .ref h15, .ref h16, .ref h17, .ref h18, .long 1, .int 0, .int 2, .int 0, .int 1, .int 0, .int 0, .int 0, .int 46]))] (fun q => some (.int 0)) (fun q => [(h0, .inr (15, [.ref h1, .ref h2, .ref h3, .ref h4, .ref h5, .ref h6, .ref h7, .ref h8, .ref h9, .ref h10, .ref h11, .ref h12, .ref h13, .ref h14, .ref h15, .ref h16, .ref h17, .ref h18, .long 1, .int 0, .int 2, .int 0, .int 1, .int 0, .int 0, .int 0, .int 46]))]) := by
  refine CT.of (by decide +kernel) (Nat.le_of_ble_eq_true rfl) ?_
  intro p e s m args below meth c A ls hx hb hr hml hown hG hlocks hnm hA hS hP hK hD hGV hl
  have hown : s.vm.findClass RX12 = some m.cls := hown
  have hl : lv_has ls 1 [(0, .ref h0)] := hl
  have hSF : CF p m c cX12_thrown 1 s args RX12 := ⟨hx, hb, hml, hown, hG⟩
  refine lv_aload_n hx hb dX12_thrown_0 rfl (lv_at hl 0 rfl) ?_
  refine k_get (ci := 15) (C := RX12) (T := TX12) (N := 27) (v := .int 0) hx hb hG inX12 hown hK hP 0 rfl rfl 19 (by decide) gw1238 rfl dX12_thrown_1 ?_
  exact e_i (fun _ => 0) hx hb hr hlocks rfl rfl hP hD hS (Nat.le_of_ble_eq_true rfl) (Nat.le_of_ble_eq_true rfl) dX12_thrown_4
set_option maxHeartbeats 4000000 in
set_option maxRecDepth 100000 in
theorem c170_X6_weakest (l : Launch) (hfl : l.stackTraces = false) (D : va_G) (cA : Nat → ClassId) (g : gv_T) (h0 h1 h2 h3 h4 h5 h6 h7 h8 h9 h10 h11 h12 h13 h14 h15 h16 h17 h18 h19 h20 h21 h22 h23 h24 h25 h26 h27 h28 h29 h30 : Nat) : CX l yX6_weakest cX6_weakest 3 (some .int) (RM 6 1 6 110) D cA g [.ref h0] [(h0, .inr (9, [.ref h1, .ref h2, .ref h3, .ref h4, .ref h5])), (h2, .inr (4, [.int 0, .int 0, .long 0, .ref h6, .ref h7, .ref h8, .ref h9, .ref h10, .ref h11, .ref h12, .ref h13, .ref h14, .ref h15, .ref h16, .ref h17, .ref h18, .ref h19])), (h1, .inr (5, [.int 0, .int 0, .ref h20, .ref h21, .ref h22, .ref h23, .ref h24, .ref h25, .ref h26, .ref h27, .ref h28, .ref h29])), (h12, .inl (cA 1, 512, .inr (.inl (fun _ => 0)))), (h16, .inr (8, [.ref h30])), (h30, .inl (cA 1, 8, .inr (.inl (fun _ => 0))))] "java/util/NoSuchElementException" (fun q => [(h0, .inr (9, [.ref h1, .ref h2, .ref h3, .ref h4, .ref h5])), (h2, .inr (4, [.int 1, .int 46, .long 1, .ref h6, .ref h7, .ref h8, .ref h9, .ref h10, .ref h11, .ref h12, .ref h13, .ref h14, .ref h15, .ref h16, .ref h17, .ref h18, .ref h19])), (h1, .inr (5, [.int 0, .int 0, .ref h20, .ref h21, .ref h22, .ref h23, .ref h24, .ref h25, .ref h26, .ref h27, .ref h28, .ref h29])), (h12, .inl (cA 1, 512, .inr (.inl (vp_updL (fun _ => 0) 0 1)))), (h16, .inr (8, [.ref h30])), (h30, .inl (cA 1, 8, .inr (.inl (vp_updL (vp_updL (vp_updL (vp_updL (vp_updL (vp_updL (vp_updL (vp_updL (fun _ => 0) 2 0) 3 0) 4 0) 5 0) 6 0) 7 0) 0 1) 1 0))))]) := by
  refine CX.of (by decide +kernel) (Nat.le_of_ble_eq_true rfl) ?_
  intro p e s m args below meth c A ls hx hb hr hml hown hG hlocks htab hA hS hP hK hD hGV hl
  have hown : s.vm.findClass RX6 = some m.cls := hown
  have hl : lv_has ls 3 [(0, .ref h0)] := hl
  have hSF : CF p m c cX6_weakest 3 s args RX6 := ⟨hx, hb, hml, hown, hG⟩
  refine lv_aload_n hx hb dX6_weakest_0 rfl (lv_at hl 0 rfl) ?_
  refine ct_V (wr := []) hSF hl.1 hP hD hS hA hK hGV (c158_X6_checkStanding l hfl D cA g h0 h1 h2 h3 h4 h5 h6 h7 h8 h9 h10 h11 h12 h13 h14 h15 h16 h17 h18 h19 h20 h21 h22 h23 h24 h25 h26 h27 h28 h29 h30) goV_X6_121 pd_X6_checkStanding ⟨(Nat.le_of_ble_eq_true rfl), (Nat.le_of_ble_eq_true rfl)⟩ ⟨(Nat.le_of_ble_eq_true rfl), (Nat.le_of_ble_eq_true rfl)⟩ (va_recv hK hP (ci := 9) (q0 := 0) rfl rfl) dX6_weakest_1 rfl (Nat.le_of_ble_eq_true rfl) [0, 1, 2, 3, 4, 5] [] rfl (by decide) rfl (by decide) (by decide) (fun q => [(h0, .inr (9, [.ref h1, .ref h2, .ref h3, .ref h4, .ref h5])), (h2, .inr (4, [.int 1, .int 46, .long 1, .ref h6, .ref h7, .ref h8, .ref h9, .ref h10, .ref h11, .ref h12, .ref h13, .ref h14, .ref h15, .ref h16, .ref h17, .ref h18, .ref h19])), (h1, .inr (5, [.int 0, .int 0, .ref h20, .ref h21, .ref h22, .ref h23, .ref h24, .ref h25, .ref h26, .ref h27, .ref h28, .ref h29])), (h12, .inl (cA 1, 512, .inr (.inl (vp_updL (fun _ => 0) 0 1)))), (h16, .inr (8, [.ref h30])), (h30, .inl (cA 1, 8, .inr (.inl (vp_updL (vp_updL (vp_updL (vp_updL (vp_updL (vp_updL (vp_updL (vp_updL (fun _ => 0) 2 0) 3 0) 4 0) 5 0) 6 0) 7 0) 0 1) 1 0))))]) (fun _ => rfl) (fun q1 H locs hP hD hS => ?_)
  refine W.eq (g2 := F0 m 4 ls []) rfl ?_
  refine lv_aload_n hx hb dX6_weakest_4 rfl (lv_at hl 0 rfl) ?_
  refine k_get (ci := 9) (C := RX6) (T := TX6) (N := 5) (v := .ref h1) hx hb hG inX6 hown hK hP 0 rfl rfl 0 (by decide) gw363 rfl dX6_weakest_5 ?_
  refine k_get (ci := 5) (C := RX2) (T := TX2) (N := 12) (v := .int 0) hx hb hG inX2 hown hK hP 2 rfl rfl 1 (by decide) gw131 rfl dX6_weakest_8 ?_
  refine k_if_ne_f (tgt := 24) hx hb dX6_weakest_11 (by decide) (by decide) ?_
  exact e_throwN (fun _ => 0) (Y0 := "java/lang/RuntimeException") (idx := 13) (bs := prog_44_method_4_code) (names := ["java/lang/Exception"]) 10 hx hb hfl hown hG hGV htab hlocks (hl.1.trans hml.symm) (by decide +kernel) (by decide +kernel) (by decide +kernel) ns_0 ns_1 ns_2 ns_5 gw891 gw107 rfl xat_X6_146 hP hD hS dX6_weakest_14 dX6_weakest_17 dX6_weakest_18 dX6_weakest_20 dX6_weakest_23 (Nat.le_of_ble_eq_true rfl) (Nat.le_of_ble_eq_true rfl) (Nat.le_of_ble_eq_true rfl) (Nat.le_of_ble_eq_true rfl) (Nat.le_of_ble_eq_true rfl) (Nat.le_of_ble_eq_true rfl)
set_option maxHeartbeats 4000000 in
set_option maxRecDepth 100000 in
theorem c171_L_weakest (l : Launch) (hfl : l.stackTraces = false) (D : va_G) (cA : Nat → ClassId) (g : gv_T) (h0 h1 h2 h3 h4 h5 h6 h7 h8 h9 h10 h11 h12 h13 h14 h15 h16 h17 h18 h19 h20 h21 h22 h23 h24 h25 h26 h27 h28 h29 h30 h31 : Nat) : CW l yL_weakest cL_weakest 3 (some .int) [(0, 8, 11, 15), (0, 8, 14, 46)] (RM 7 1 6 132) D cA g [.ref h0, .ref h1] [(h0, .inr (9, [.ref h2, .ref h3, .ref h4, .ref h5, .ref h6])), (h3, .inr (4, [.int 0, .int 0, .long 0, .ref h7, .ref h8, .ref h9, .ref h10, .ref h11, .ref h12, .ref h13, .ref h14, .ref h15, .ref h16, .ref h17, .ref h18, .ref h19, .ref h20])), (h2, .inr (5, [.int 0, .int 0, .ref h21, .ref h22, .ref h23, .ref h24, .ref h25, .ref h26, .ref h27, .ref h28, .ref h29, .ref h30])), (h13, .inl (cA 1, 512, .inr (.inl (fun _ => 0)))), (h17, .inr (8, [.ref h31])), (h31, .inl (cA 1, 8, .inr (.inl (fun _ => 0))))] (fun q => some (.int 2)) (fun q => [(h0, .inr (9, [.ref h2, .ref h3, .ref h4, .ref h5, .ref h6])), (h3, .inr (4, [.int 1, .int 46, .long 1, .ref h7, .ref h8, .ref h9, .ref h10, .ref h11, .ref h12, .ref h13, .ref h14, .ref h15, .ref h16, .ref h17, .ref h18, .ref h19, .ref h20])), (h2, .inr (5, [.int 0, .int 0, .ref h21, .ref h22, .ref h23, .ref h24, .ref h25, .ref h26, .ref h27, .ref h28, .ref h29, .ref h30])), (h13, .inl (cA 1, 512, .inr (.inl (vp_updL (fun _ => 0) 0 1)))), (h17, .inr (8, [.ref h31])), (h31, .inl (cA 1, 8, .inr (.inl (vp_updL (vp_updL (vp_updL (vp_updL (vp_updL (vp_updL (vp_updL (vp_updL (fun _ => 0) 2 0) 3 0) 4 0) 5 0) 6 0) 7 0) 0 1) 1 0))))]) := by
  refine CW.of (by decide +kernel) (Nat.le_of_ble_eq_true rfl) ?_
  intro p e s m args below meth c A ls hx hb hr hml hown hG hlocks htab hA hS hP hK hD hGV hl
  have hown : s.vm.findClass RL = some m.cls := hown
  have hl : lv_has ls 3 [(0, .ref h0), (1, .ref h1)] := hl
  have hSF : CF p m c cL_weakest 3 s args RL := ⟨hx, hb, hml, hown, hG⟩
  refine lv_aload_n hx hb dL_weakest_0 rfl (lv_at hl 1 rfl) ?_
  refine lv_iconst (v := 0) hx hb dL_weakest_1 (by decide) ?_
  refine lv_aload_n hx hb dL_weakest_2 rfl (lv_at hl 0 rfl) ?_
  refine cx_V (wr := []) hSF hl.1 hP hD hS hA hK hGV (c170_X6_weakest l hfl D cA g h0 h2 h3 h4 h5 h6 h7 h8 h9 h10 h11 h12 h13 h14 h15 h16 h17 h18 h19 h20 h21 h22 h23 h24 h25 h26 h27 h28 h29 h30 h31) goV_L_42 pd_X6_weakest ⟨(Nat.le_of_ble_eq_true rfl), (Nat.le_of_ble_eq_true rfl)⟩ ⟨(Nat.le_of_ble_eq_true rfl), (Nat.le_of_ble_eq_true rfl)⟩ (va_recv hK hP (ci := 9) (q0 := 0) rfl rfl) dL_weakest_3 rfl (Nat.le_of_ble_eq_true rfl) [0, 1, 2, 3, 4, 5] [] rfl (by decide) rfl (by decide) (by decide) (fun q => [(h0, .inr (9, [.ref h2, .ref h3, .ref h4, .ref h5, .ref h6])), (h3, .inr (4, [.int 1, .int 46, .long 1, .ref h7, .ref h8, .ref h9, .ref h10, .ref h11, .ref h12, .ref h13, .ref h14, .ref h15, .ref h16, .ref h17, .ref h18, .ref h19, .ref h20])), (h2, .inr (5, [.int 0, .int 0, .ref h21, .ref h22, .ref h23, .ref h24, .ref h25, .ref h26, .ref h27, .ref h28, .ref h29, .ref h30])), (h13, .inl (cA 1, 512, .inr (.inl (vp_updL (fun _ => 0) 0 1)))), (h17, .inr (8, [.ref h31])), (h31, .inl (cA 1, 8, .inr (.inl (vp_updL (vp_updL (vp_updL (vp_updL (vp_updL (vp_updL (vp_updL (vp_updL (fun _ => 0) 2 0) 3 0) 4 0) 5 0) 6 0) 7 0) 0 1) 1 0))))]) (fun _ => rfl) (fun q1 H locs x9 ce9 hP hD hS h9 hv9 hcl9 => ?_)
  refine vx_catch (own := RL) (name := "java/util/NoSuchElementException") hown [{ startPc := 0, endPc := 8, handlerPc := 11, catchType := 15 }] { startPc := 0, endPc := 8, handlerPc := 14, catchType := 46 } [] (htab.trans rfl) (fun z hz => by rcases List.mem_singleton.mp hz with rfl; exact Or.inr ⟨by decide, "java/lang/IllegalStateException", hG _ gw573, hGV.2.2.2.2.2.1 ("java/util/NoSuchElementException", "java/lang/IllegalStateException") (by decide)⟩) rfl (by decide) (hG _ gw886) (va_Nw.use rfl (hGV.2.2.2.2.1 _ gw893)) h9 hv9 hcl9 ?_
  refine W.eq (g2 := F0 m 14 ls [.ref x9]) rfl ?_
  refine lv_astore_n (lv' := [(2, .ref x9), (0, .ref h0), (1, .ref h1)]) hx hb dL_weakest_14 rfl hl (by decide) rfl (fun ls hl => ?_)
  refine lv_iconst (v := 2) hx hb dL_weakest_15 (by decide) ?_
  exact e_i (fun _ => 0) hx hb hr hlocks rfl rfl hP hD hS (Nat.le_of_ble_eq_true rfl) (Nat.le_of_ble_eq_true rfl) dL_weakest_16
