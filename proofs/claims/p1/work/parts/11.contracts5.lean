set_option maxHeartbeats 4000000 in
set_option maxRecDepth 100000 in
theorem c334_X12_raised (l : Launch) (hfl : l.stackTraces = false) (D : va_G) (cA : Nat → ClassId) (g : gv_T) (h0 h1 h2 h3 h4 h5 h6 h7 h8 h9 h10 h11 h12 h13 h14 h15 h16 h17 h18 : Nat) (p0 : Int32) (k0 : ¬ (lg_cmp p0.toInt64 0) < 0) (k1 : 0 < (lg_cmp p0.toInt64 (-1))) : CT l yX12_raised cX12_raised 2 (some .int) (RM 3 0 0 64) D cA g [.ref h0, .int p0] [(h0, .inr (15, [.ref h1, .ref h2, .ref h3, .ref h4, .ref h5, .ref h6, .ref h7, .ref h8, .ref h9, .ref h10, .ref h11, .ref h12, .ref h13, .ref h14, .ref h15, .ref h16, .ref h17, .ref h18, .long 0, .int 0, .int 2, .int 0, .int 0, .int 0, .int 0, .int 0, .int 0])), (h2, .inr (2, [.int 0, .ref g.1, .int 0])), (h10, .inl (cA 0, 512, .inl (fun _ => 0)))] (fun q => some (.int 0)) (fun q => [(h0, .inr (15, [.ref h1, .ref h2, .ref h3, .ref h4, .ref h5, .ref h6, .ref h7, .ref h8, .ref h9, .ref h10, .ref h11, .ref h12, .ref h13, .ref h14, .ref h15, .ref h16, .ref h17, .ref h18, .long 0, .int 2, .int 2, .int 0, .int 0, .int 0, .int 1, .int 0, .int 0])), (h2, .inr (2, [.int 0, .ref g.1, .int 0])), (h10, .inl (cA 0, 512, .inl (upd (fun _ => 0) 0 1)))]) := by
  refine CT.of (by decide +kernel) (Nat.le_of_ble_eq_true rfl) ?_
  intro p e s m args below meth c A ls hx hb hr hml hown hG hlocks hnm hA hS hP hK hD hGV hl
  have hown : s.vm.findClass RX12 = some m.cls := hown
  have hl : lv_has ls 2 [(0, .ref h0), (1, .int p0)] := hl
  have hSF : CF p m c cX12_raised 2 s args RX12 := ⟨hx, hb, hml, hown, hG⟩
  refine lv_aload_n hx hb dX12_raised_0 rfl (lv_at hl 0 rfl) ?_
  refine ct_V (wr := []) hSF hl.1 hP hD hS hA hK hGV (c327_X12_hasOrder l hfl D cA g h0 h1 h2 h3 h4 h5 h6 h7 h8 h9 h10 h11 h12 h13 h14 h15 h16 h17 h18) goV_X12_395 pd_X12_hasOrder ⟨(Nat.le_of_ble_eq_true rfl), (Nat.le_of_ble_eq_true rfl)⟩ ⟨(Nat.le_of_ble_eq_true rfl), (Nat.le_of_ble_eq_true rfl)⟩ (va_recv hK hP (ci := 15) (q0 := 0) rfl rfl) dX12_raised_1 rfl (Nat.le_of_ble_eq_true rfl) [0, 1, 2] [] rfl (by decide) rfl (by decide) (by decide) (fun q => [(h0, .inr (15, [.ref h1, .ref h2, .ref h3, .ref h4, .ref h5, .ref h6, .ref h7, .ref h8, .ref h9, .ref h10, .ref h11, .ref h12, .ref h13, .ref h14, .ref h15, .ref h16, .ref h17, .ref h18, .long 0, .int 0, .int 2, .int 0, .int 0, .int 0, .int 1, .int 0, .int 0])), (h2, .inr (2, [.int 0, .ref g.1, .int 0])), (h10, .inl (cA 0, 512, .inl (upd (fun _ => 0) 0 1)))]) (fun _ => rfl) (fun q1 H locs hP hD hS => ?_)
  refine W.eq (g2 := F0 m 4 ls [.int 1]) rfl ?_
  refine k_if_ne_t (tgt := 13) hx hb dX12_raised_4 (by decide) (by decide) ?_
  refine lv_iload_n hx hb dX12_raised_13 rfl (lv_at hl 1 rfl) ?_
  refine lv_i2l (v := p0.toInt64) hx hb dX12_raised_14 rfl ?_
  refine lv_iconst (v := 0) hx hb dX12_raised_15 (by decide) ?_
  refine lv_aload_n hx hb dX12_raised_16 rfl (lv_at hl 0 rfl) ?_
  refine k_get (ci := 15) (C := RX12) (T := TX12) (N := 27) (v := .ref h2) hx hb hG inX12 hown hK hP 0 rfl rfl 1 (by decide) gw1220 rfl dX12_raised_17 ?_
  refine ct_V (wr := [(h0, .inr (15, [.ref h1, .ref h2, .ref h3, .ref h4, .ref h5, .ref h6, .ref h7, .ref h8, .ref h9, .ref h10, .ref h11, .ref h12, .ref h13, .ref h14, .ref h15, .ref h16, .ref h17, .ref h18, .long 0, .int 0, .int 2, .int 0, .int 0, .int 0, .int 1, .int 0, .int 0])), (h10, .inl (cA 0, 512, .inl (upd (fun _ => 0) 0 1)))]) hSF hl.1 hP hD hS hA hK hGV (c56_Jx4a65c_size_8abf5 l hfl D cA g h2) goV_X12_125 pd_Jx4a65c_size_8abf5 ⟨(Nat.le_of_ble_eq_true rfl), (Nat.le_of_ble_eq_true rfl)⟩ ⟨(Nat.le_of_ble_eq_true rfl), (Nat.le_of_ble_eq_true rfl)⟩ (va_recv hK hP (ci := 2) (q0 := 1) rfl rfl) dX12_raised_20 rfl (Nat.le_of_ble_eq_true rfl) [1] [0, 2] rfl (by decide) rfl (by decide) (by decide) (fun q => [(h0, .inr (15, [.ref h1, .ref h2, .ref h3, .ref h4, .ref h5, .ref h6, .ref h7, .ref h8, .ref h9, .ref h10, .ref h11, .ref h12, .ref h13, .ref h14, .ref h15, .ref h16, .ref h17, .ref h18, .long 0, .int 0, .int 2, .int 0, .int 0, .int 0, .int 1, .int 0, .int 0])), (h10, .inl (cA 0, 512, .inl (upd (fun _ => 0) 0 1))), (h2, .inr (2, [.int 0, .ref g.1, .int 0]))]) (fun _ => rfl) (fun q2 H locs hP hD hS => ?_)
  refine W.eq (g2 := F0 m 23 ls [.int 0, .int 0, .long (p0.toInt64)]) rfl ?_
  refine lv_iconst (v := 1) hx hb dX12_raised_23 (by decide) ?_
  refine k_isub (v := (-1)) hx hb dX12_raised_24 (by decide) ?_
  refine ct_S (wr := [(h0, .inr (15, [.ref h1, .ref h2, .ref h3, .ref h4, .ref h5, .ref h6, .ref h7, .ref h8, .ref h9, .ref h10, .ref h11, .ref h12, .ref h13, .ref h14, .ref h15, .ref h16, .ref h17, .ref h18, .long 0, .int 0, .int 2, .int 0, .int 0, .int 0, .int 1, .int 0, .int 0])), (h10, .inl (cA 0, 512, .inl (upd (fun _ => 0) 0 1))), (h2, .inr (2, [.int 0, .ref g.1, .int 0]))]) hSF hl.1 hP hD hS hA hK hGV (c100_X12_in l hfl D cA g (p0.toInt64) k0 k1) goS_X12_285 pd_X12_in.2 ⟨(Nat.le_of_ble_eq_true rfl), (Nat.le_of_ble_eq_true rfl)⟩ ⟨(Nat.le_of_ble_eq_true rfl), (Nat.le_of_ble_eq_true rfl)⟩ dX12_raised_25 rfl (Nat.le_of_ble_eq_true rfl) [] [0, 1, 2] rfl (by decide) rfl (by decide) (by decide) (fun q => [(h0, .inr (15, [.ref h1, .ref h2, .ref h3, .ref h4, .ref h5, .ref h6, .ref h7, .ref h8, .ref h9, .ref h10, .ref h11, .ref h12, .ref h13, .ref h14, .ref h15, .ref h16, .ref h17, .ref h18, .long 0, .int 0, .int 2, .int 0, .int 0, .int 0, .int 1, .int 0, .int 0])), (h10, .inl (cA 0, 512, .inl (upd (fun _ => 0) 0 1))), (h2, .inr (2, [.int 0, .ref g.1, .int 0]))]) (fun _ => rfl) (fun q3 H locs hP hD hS => ?_)
  refine W.eq (g2 := F0 m 28 ls [.int 0]) rfl ?_
  refine k_if_eq_t (tgt := 44) hx hb dX12_raised_28 (by decide) (by decide) ?_
  refine lv_aload_n hx hb dX12_raised_44 rfl (lv_at hl 0 rfl) ?_
  refine lv_iconst (v := 2) hx hb dX12_raised_45 (by decide) ?_
  refine ct_V (wr := [(h10, .inl (cA 0, 512, .inl (upd (fun _ => 0) 0 1))), (h2, .inr (2, [.int 0, .ref g.1, .int 0]))]) hSF hl.1 hP hD hS hA hK hGV (c328_X12_fails l hfl D cA g h0 h1 h2 h3 h4 h5 h6 h7 h8 h9 h10 h11 h12 h13 h14 h15 h16 h17 h18) goV_X12_289 pd_X12_fails ⟨(Nat.le_of_ble_eq_true rfl), (Nat.le_of_ble_eq_true rfl)⟩ ⟨(Nat.le_of_ble_eq_true rfl), (Nat.le_of_ble_eq_true rfl)⟩ (va_recv hK hP (ci := 15) (q0 := 0) rfl rfl) dX12_raised_46 rfl (Nat.le_of_ble_eq_true rfl) [0] [1, 2] rfl (by decide) rfl (by decide) (by decide) (fun q => [(h10, .inl (cA 0, 512, .inl (upd (fun _ => 0) 0 1))), (h2, .inr (2, [.int 0, .ref g.1, .int 0])), (h0, .inr (15, [.ref h1, .ref h2, .ref h3, .ref h4, .ref h5, .ref h6, .ref h7, .ref h8, .ref h9, .ref h10, .ref h11, .ref h12, .ref h13, .ref h14, .ref h15, .ref h16, .ref h17, .ref h18, .long 0, .int 2, .int 2, .int 0, .int 0, .int 0, .int 1, .int 0, .int 0]))]) (fun _ => rfl) (fun q4 H locs hP hD hS => ?_)
  refine W.eq (g2 := F0 m 49 ls [.int 0]) rfl ?_
  exact e_i (fun _ => 0) hx hb hr hlocks rfl rfl (hP.sub [2, 1, 0] rfl) (hD.sub [2, 1, 0] (by decide) rfl) hS (Nat.le_of_ble_eq_true rfl) (Nat.le_of_ble_eq_true rfl) dX12_raised_49
set_option maxHeartbeats 4000000 in
set_option maxRecDepth 100000 in
theorem c335_X6_canRaise (l : Launch) (hfl : l.stackTraces = false) (D : va_G) (cA : Nat → ClassId) (g : gv_T) (h0 h1 h2 h3 h4 h5 h6 h7 h8 h9 h10 h11 h12 h13 h14 h15 h16 h17 h18 h19 h20 : Nat) : CT l yX6_canRaise cX6_canRaise 1 (some .boolean) (RM 2 0 0 47) D cA g [.ref h0] [(h0, .inr (9, [.ref h1, .ref h2, .ref h3, .ref h4, .ref h5])), (h5, .inr (7, [.int 2, .int 0, .int 0, .int 0, .ref h6, .ref h7, .ref h8, .ref h9, .ref h10])), (h1, .inr (5, [.int 0, .int 0, .ref h11, .ref h12, .ref h13, .ref h14, .ref h15, .ref h16, .ref h17, .ref h18, .ref h19, .ref h20])), (h8, .inl (cA 0, 512, .inl (fun _ => 0))), (h9, .inl (cA 3, 512, .inl (fun _ => 0)))] (fun q => some (.int 1)) (fun q => [(h0, .inr (9, [.ref h1, .ref h2, .ref h3, .ref h4, .ref h5])), (h5, .inr (7, [.int 2, .int 1, .int 0, .int 0, .ref h6, .ref h7, .ref h8, .ref h9, .ref h10])), (h1, .inr (5, [.int 0, .int 0, .ref h11, .ref h12, .ref h13, .ref h14, .ref h15, .ref h16, .ref h17, .ref h18, .ref h19, .ref h20])), (h8, .inl (cA 0, 512, .inl (upd (fun _ => 0) 0 1))), (h9, .inl (cA 3, 512, .inl (upd (fun _ => 0) 0 1)))]) := by
  refine CT.of (by decide +kernel) (Nat.le_of_ble_eq_true rfl) ?_
  intro p e s m args below meth c A ls hx hb hr hml hown hG hlocks hnm hA hS hP hK hD hGV hl
  have hown : s.vm.findClass RX6 = some m.cls := hown
  have hl : lv_has ls 1 [(0, .ref h0)] := hl
  have hSF : CF p m c cX6_canRaise 1 s args RX6 := ⟨hx, hb, hml, hown, hG⟩
  refine lv_aload_n hx hb dX6_canRaise_0 rfl (lv_at hl 0 rfl) ?_
  refine k_get (ci := 9) (C := RX6) (T := TX6) (N := 5) (v := .ref h5) hx hb hG inX6 hown hK hP 0 rfl rfl 4 (by decide) gw367 rfl dX6_canRaise_1 ?_
  refine lv_aload_n hx hb dX6_canRaise_4 rfl (lv_at hl 0 rfl) ?_
  refine k_get (ci := 9) (C := RX6) (T := TX6) (N := 5) (v := .ref h1) hx hb hG inX6 hown hK hP 0 rfl rfl 0 (by decide) gw363 rfl dX6_canRaise_5 ?_
  refine lv_aload_n hx hb dX6_canRaise_8 rfl (lv_at hl 0 rfl) ?_
  refine k_get (ci := 9) (C := RX6) (T := TX6) (N := 5) (v := .ref h3) hx hb hG inX6 hown hK hP 0 rfl rfl 2 (by decide) gw365 rfl dX6_canRaise_9 ?_
  refine ct_V (wr := [(h0, .inr (9, [.ref h1, .ref h2, .ref h3, .ref h4, .ref h5]))]) hSF hl.1 hP hD hS hA hK hGV (c321_X4_find l hfl D cA g h5 h1 h3 h6 h7 h8 h9 h10 h11 h12 h13 h14 h15 h16 h17 h18 h19 h20) goV_X6_247 pd_X4_find ⟨(Nat.le_of_ble_eq_true rfl), (Nat.le_of_ble_eq_true rfl)⟩ ⟨(Nat.le_of_ble_eq_true rfl), (Nat.le_of_ble_eq_true rfl)⟩ (va_recv hK hP (ci := 7) (q0 := 1) rfl rfl) dX6_canRaise_12 rfl (Nat.le_of_ble_eq_true rfl) [1, 2, 3, 4] [0] rfl (by decide) rfl (by decide) (by decide) (fun q => [(h0, .inr (9, [.ref h1, .ref h2, .ref h3, .ref h4, .ref h5])), (h5, .inr (7, [.int 2, .int 1, .int 0, .int 0, .ref h6, .ref h7, .ref h8, .ref h9, .ref h10])), (h1, .inr (5, [.int 0, .int 0, .ref h11, .ref h12, .ref h13, .ref h14, .ref h15, .ref h16, .ref h17, .ref h18, .ref h19, .ref h20])), (h8, .inl (cA 0, 512, .inl (upd (fun _ => 0) 0 1))), (h9, .inl (cA 3, 512, .inl (upd (fun _ => 0) 0 1)))]) (fun _ => rfl) (fun q1 H locs hP hD hS => ?_)
  refine W.eq (g2 := F0 m 15 ls []) rfl ?_
  refine lv_aload_n hx hb dX6_canRaise_15 rfl (lv_at hl 0 rfl) ?_
  refine k_get (ci := 9) (C := RX6) (T := TX6) (N := 5) (v := .ref h5) hx hb hG inX6 hown hK hP 0 rfl rfl 4 (by decide) gw367 rfl dX6_canRaise_16 ?_
  refine ct_V (wr := [(h0, .inr (9, [.ref h1, .ref h2, .ref h3, .ref h4, .ref h5])), (h1, .inr (5, [.int 0, .int 0, .ref h11, .ref h12, .ref h13, .ref h14, .ref h15, .ref h16, .ref h17, .ref h18, .ref h19, .ref h20])), (h9, .inl (cA 3, 512, .inl (upd (fun _ => 0) 0 1)))]) hSF hl.1 hP hD hS hA hK hGV (c322_X4_orderCount l hfl D cA g h5 h6 h7 h8 h9 h10) goV_X6_250 pd_X4_orderCount ⟨(Nat.le_of_ble_eq_true rfl), (Nat.le_of_ble_eq_true rfl)⟩ ⟨(Nat.le_of_ble_eq_true rfl), (Nat.le_of_ble_eq_true rfl)⟩ (va_recv hK hP (ci := 7) (q0 := 1) rfl rfl) dX6_canRaise_19 rfl (Nat.le_of_ble_eq_true rfl) [1, 3] [0, 2, 4] rfl (by decide) rfl (by decide) (by decide) (fun q => [(h0, .inr (9, [.ref h1, .ref h2, .ref h3, .ref h4, .ref h5])), (h1, .inr (5, [.int 0, .int 0, .ref h11, .ref h12, .ref h13, .ref h14, .ref h15, .ref h16, .ref h17, .ref h18, .ref h19, .ref h20])), (h9, .inl (cA 3, 512, .inl (upd (fun _ => 0) 0 1))), (h5, .inr (7, [.int 2, .int 1, .int 0, .int 0, .ref h6, .ref h7, .ref h8, .ref h9, .ref h10])), (h8, .inl (cA 0, 512, .inl (upd (fun _ => 0) 0 1)))]) (fun _ => rfl) (fun q2 H locs hP hD hS => ?_)
  refine W.eq (g2 := F0 m 22 ls [.int 1]) rfl ?_
  refine k_if_le_f (tgt := 29) hx hb dX6_canRaise_22 (by decide) (by decide) ?_
  refine lv_iconst (v := 1) hx hb dX6_canRaise_25 (by decide) ?_
  refine lv_goto (tgt := 30) hx hb dX6_canRaise_26 (by decide) ?_
  exact e_i (fun _ => 0) hx hb hr hlocks rfl rfl (hP.sub [0, 3, 1, 4, 2] rfl) (hD.sub [0, 3, 1, 4, 2] (by decide) rfl) hS (Nat.le_of_ble_eq_true rfl) (Nat.le_of_ble_eq_true rfl) dX6_canRaise_30
set_option maxHeartbeats 4000000 in
set_option maxRecDepth 100000 in
theorem c336_X12_tells (l : Launch) (hfl : l.stackTraces = false) (D : va_G) (cA : Nat → ClassId) (g : gv_T) (h0 h1 h2 h3 h4 h5 h6 h7 h8 h9 h10 h11 h12 h13 h14 h15 h16 h17 h18 : Nat) : CT l yX12_tells cX12_tells 2 (some .boolean) (RM 0 0 0 0) D cA g [.ref h0, .int 1] [(h0, .inr (15, [.ref h1, .ref h2, .ref h3, .ref h4, .ref h5, .ref h6, .ref h7, .ref h8, .ref h9, .ref h10, .ref h11, .ref h12, .ref h13, .ref h14, .ref h15, .ref h16, .ref h17, .ref h18, .long 0, .int 0, .int 2, .int 0, .int 0, .int 0, .int 1, .int 0, .int 0]))] (fun q => some (.int 1)) (fun q => [(h0, .inr (15, [.ref h1, .ref h2, .ref h3, .ref h4, .ref h5, .ref h6, .ref h7, .ref h8, .ref h9, .ref h10, .ref h11, .ref h12, .ref h13, .ref h14, .ref h15, .ref h16, .ref h17, .ref h18, .long 0, .int 0, .int 2, .int 0, .int 0, .int 0, .int 1, .int 0, .int 0]))]) := by
  refine CT.of (by decide +kernel) (Nat.le_of_ble_eq_true rfl) ?_
  intro p e s m args below meth c A ls hx hb hr hml hown hG hlocks hnm hA hS hP hK hD hGV hl
  have hown : s.vm.findClass RX12 = some m.cls := hown
  have hl : lv_has ls 2 [(0, .ref h0), (1, .int 1)] := hl
  have hSF : CF p m c cX12_tells 2 s args RX12 := ⟨hx, hb, hml, hown, hG⟩
  refine lv_aload_n hx hb dX12_tells_0 rfl (lv_at hl 0 rfl) ?_
  refine lv_iconst (v := 0) hx hb dX12_tells_1 (by decide) ?_
  refine k_put (ci := 15) (C := RX12) (T := TX12) (N := 27) (v := .int 0) (ws1 := [(h0, .inr (15, [.ref h1, .ref h2, .ref h3, .ref h4, .ref h5, .ref h6, .ref h7, .ref h8, .ref h9, .ref h10, .ref h11, .ref h12, .ref h13, .ref h14, .ref h15, .ref h16, .ref h17, .ref h18, .long 0, .int 0, .int 2, .int 0, .int 0, .int 0, .int 1, .int 0, .int 0]))]) hx hb hG inX12 tyX12 tyX12_ok nmX12 hown hK hP hD hS 0 rfl rfl 19 (by decide) gw1238 rfl ⟨rfl, rfl⟩ rfl (Nat.le_of_ble_eq_true rfl) dX12_tells_2 (fun H locs hP hD hS => ?_)
  refine lv_iload_n hx hb dX12_tells_5 rfl (lv_at hl 1 rfl) ?_
  exact e_i (fun _ => 0) hx hb hr hlocks rfl rfl hP hD hS (Nat.le_of_ble_eq_true rfl) (Nat.le_of_ble_eq_true rfl) dX12_tells_6
set_option maxHeartbeats 4000000 in
set_option maxRecDepth 100000 in
theorem c337_X12_canRaise (l : Launch) (hfl : l.stackTraces = false) (D : va_G) (cA : Nat → ClassId) (g : gv_T) (h0 h1 h2 h3 h4 h5 h6 h7 h8 h9 h10 h11 h12 h13 h14 h15 h16 h17 h18 : Nat) : CT l yX12_canRaise cX12_canRaise 1 (some .boolean) (RM 3 0 0 64) D cA g [.ref h0] [(h0, .inr (15, [.ref h1, .ref h2, .ref h3, .ref h4, .ref h5, .ref h6, .ref h7, .ref h8, .ref h9, .ref h10, .ref h11, .ref h12, .ref h13, .ref h14, .ref h15, .ref h16, .ref h17, .ref h18, .long 0, .int 0, .int 2, .int 0, .int 0, .int 0, .int 0, .int 0, .int 0])), (h2, .inr (2, [.int 0, .ref g.1, .int 0])), (h10, .inl (cA 0, 512, .inl (fun _ => 0)))] (fun q => some (.int 1)) (fun q => [(h0, .inr (15, [.ref h1, .ref h2, .ref h3, .ref h4, .ref h5, .ref h6, .ref h7, .ref h8, .ref h9, .ref h10, .ref h11, .ref h12, .ref h13, .ref h14, .ref h15, .ref h16, .ref h17, .ref h18, .long 0, .int 0, .int 2, .int 0, .int 0, .int 0, .int 1, .int 0, .int 0])), (h2, .inr (2, [.int 0, .ref g.1, .int 0])), (h10, .inl (cA 0, 512, .inl (upd (fun _ => 0) 0 1)))]) := by
  refine CT.of (by decide +kernel) (Nat.le_of_ble_eq_true rfl) ?_
  intro p e s m args below meth c A ls hx hb hr hml hown hG hlocks hnm hA hS hP hK hD hGV hl
  have hown : s.vm.findClass RX12 = some m.cls := hown
  have hl : lv_has ls 1 [(0, .ref h0)] := hl
  have hSF : CF p m c cX12_canRaise 1 s args RX12 := ⟨hx, hb, hml, hown, hG⟩
  refine lv_aload_n hx hb dX12_canRaise_0 rfl (lv_at hl 0 rfl) ?_
  refine lv_aload_n hx hb dX12_canRaise_1 rfl (lv_at hl 0 rfl) ?_
  refine ct_V (wr := []) hSF hl.1 hP hD hS hA hK hGV (c327_X12_hasOrder l hfl D cA g h0 h1 h2 h3 h4 h5 h6 h7 h8 h9 h10 h11 h12 h13 h14 h15 h16 h17 h18) goV_X12_395 pd_X12_hasOrder ⟨(Nat.le_of_ble_eq_true rfl), (Nat.le_of_ble_eq_true rfl)⟩ ⟨(Nat.le_of_ble_eq_true rfl), (Nat.le_of_ble_eq_true rfl)⟩ (va_recv hK hP (ci := 15) (q0 := 0) rfl rfl) dX12_canRaise_2 rfl (Nat.le_of_ble_eq_true rfl) [0, 1, 2] [] rfl (by decide) rfl (by decide) (by decide) (fun q => [(h0, .inr (15, [.ref h1, .ref h2, .ref h3, .ref h4, .ref h5, .ref h6, .ref h7, .ref h8, .ref h9, .ref h10, .ref h11, .ref h12, .ref h13, .ref h14, .ref h15, .ref h16, .ref h17, .ref h18, .long 0, .int 0, .int 2, .int 0, .int 0, .int 0, .int 1, .int 0, .int 0])), (h2, .inr (2, [.int 0, .ref g.1, .int 0])), (h10, .inl (cA 0, 512, .inl (upd (fun _ => 0) 0 1)))]) (fun _ => rfl) (fun q1 H locs hP hD hS => ?_)
  refine W.eq (g2 := F0 m 5 ls [.int 1, .ref h0]) rfl ?_
  refine ct_V (wr := [(h2, .inr (2, [.int 0, .ref g.1, .int 0])), (h10, .inl (cA 0, 512, .inl (upd (fun _ => 0) 0 1)))]) hSF hl.1 hP hD hS hA hK hGV (c336_X12_tells l hfl D cA g h0 h1 h2 h3 h4 h5 h6 h7 h8 h9 h10 h11 h12 h13 h14 h15 h16 h17 h18) goV_X12_343 pd_X12_tells ⟨(Nat.le_of_ble_eq_true rfl), (Nat.le_of_ble_eq_true rfl)⟩ ⟨(Nat.le_of_ble_eq_true rfl), (Nat.le_of_ble_eq_true rfl)⟩ (va_recv hK hP (ci := 15) (q0 := 0) rfl rfl) dX12_canRaise_5 rfl (Nat.le_of_ble_eq_true rfl) [0] [1, 2] rfl (by decide) rfl (by decide) (by decide) (fun q => [(h2, .inr (2, [.int 0, .ref g.1, .int 0])), (h10, .inl (cA 0, 512, .inl (upd (fun _ => 0) 0 1))), (h0, .inr (15, [.ref h1, .ref h2, .ref h3, .ref h4, .ref h5, .ref h6, .ref h7, .ref h8, .ref h9, .ref h10, .ref h11, .ref h12, .ref h13, .ref h14, .ref h15, .ref h16, .ref h17, .ref h18, .long 0, .int 0, .int 2, .int 0, .int 0, .int 0, .int 1, .int 0, .int 0]))]) (fun _ => rfl) (fun q2 H locs hP hD hS => ?_)
  refine W.eq (g2 := F0 m 8 ls [.int 1]) rfl ?_
  exact e_i (fun _ => 0) hx hb hr hlocks rfl rfl (hP.sub [2, 0, 1] rfl) (hD.sub [2, 0, 1] (by decide) rfl) hS (Nat.le_of_ble_eq_true rfl) (Nat.le_of_ble_eq_true rfl) dX12_canRaise_8
set_option maxHeartbeats 4000000 in
set_option maxRecDepth 100000 in
theorem c338_X6_canTakeAway (l : Launch) (hfl : l.stackTraces = false) (D : va_G) (cA : Nat → ClassId) (g : gv_T) (h0 h1 h2 h3 h4 h5 h6 h7 h8 h9 h10 h11 h12 h13 h14 h15 h16 h17 h18 h19 h20 : Nat) : CT l yX6_canTakeAway cX6_canTakeAway 1 (some .boolean) (RM 2 0 0 47) D cA g [.ref h0] [(h0, .inr (9, [.ref h1, .ref h2, .ref h3, .ref h4, .ref h5])), (h5, .inr (7, [.int 2, .int 0, .int 0, .int 0, .ref h6, .ref h7, .ref h8, .ref h9, .ref h10])), (h1, .inr (5, [.int 0, .int 0, .ref h11, .ref h12, .ref h13, .ref h14, .ref h15, .ref h16, .ref h17, .ref h18, .ref h19, .ref h20])), (h8, .inl (cA 0, 512, .inl (fun _ => 0))), (h9, .inl (cA 3, 512, .inl (fun _ => 0)))] (fun q => some (.int 1)) (fun q => [(h0, .inr (9, [.ref h1, .ref h2, .ref h3, .ref h4, .ref h5])), (h5, .inr (7, [.int 2, .int 1, .int 0, .int 0, .ref h6, .ref h7, .ref h8, .ref h9, .ref h10])), (h1, .inr (5, [.int 0, .int 0, .ref h11, .ref h12, .ref h13, .ref h14, .ref h15, .ref h16, .ref h17, .ref h18, .ref h19, .ref h20])), (h8, .inl (cA 0, 512, .inl (upd (fun _ => 0) 0 1))), (h9, .inl (cA 3, 512, .inl (upd (fun _ => 0) 0 1)))]) := by
  refine CT.of (by decide +kernel) (Nat.le_of_ble_eq_true rfl) ?_
  intro p e s m args below meth c A ls hx hb hr hml hown hG hlocks hnm hA hS hP hK hD hGV hl
  have hown : s.vm.findClass RX6 = some m.cls := hown
  have hl : lv_has ls 1 [(0, .ref h0)] := hl
  have hSF : CF p m c cX6_canTakeAway 1 s args RX6 := ⟨hx, hb, hml, hown, hG⟩
  refine lv_aload_n hx hb dX6_canTakeAway_0 rfl (lv_at hl 0 rfl) ?_
  refine k_get (ci := 9) (C := RX6) (T := TX6) (N := 5) (v := .ref h5) hx hb hG inX6 hown hK hP 0 rfl rfl 4 (by decide) gw367 rfl dX6_canTakeAway_1 ?_
  refine lv_aload_n hx hb dX6_canTakeAway_4 rfl (lv_at hl 0 rfl) ?_
  refine k_get (ci := 9) (C := RX6) (T := TX6) (N := 5) (v := .ref h1) hx hb hG inX6 hown hK hP 0 rfl rfl 0 (by decide) gw363 rfl dX6_canTakeAway_5 ?_
  refine lv_aload_n hx hb dX6_canTakeAway_8 rfl (lv_at hl 0 rfl) ?_
  refine k_get (ci := 9) (C := RX6) (T := TX6) (N := 5) (v := .ref h3) hx hb hG inX6 hown hK hP 0 rfl rfl 2 (by decide) gw365 rfl dX6_canTakeAway_9 ?_
  refine ct_V (wr := [(h0, .inr (9, [.ref h1, .ref h2, .ref h3, .ref h4, .ref h5]))]) hSF hl.1 hP hD hS hA hK hGV (c321_X4_find l hfl D cA g h5 h1 h3 h6 h7 h8 h9 h10 h11 h12 h13 h14 h15 h16 h17 h18 h19 h20) goV_X6_247 pd_X4_find ⟨(Nat.le_of_ble_eq_true rfl), (Nat.le_of_ble_eq_true rfl)⟩ ⟨(Nat.le_of_ble_eq_true rfl), (Nat.le_of_ble_eq_true rfl)⟩ (va_recv hK hP (ci := 7) (q0 := 1) rfl rfl) dX6_canTakeAway_12 rfl (Nat.le_of_ble_eq_true rfl) [1, 2, 3, 4] [0] rfl (by decide) rfl (by decide) (by decide) (fun q => [(h0, .inr (9, [.ref h1, .ref h2, .ref h3, .ref h4, .ref h5])), (h5, .inr (7, [.int 2, .int 1, .int 0, .int 0, .ref h6, .ref h7, .ref h8, .ref h9, .ref h10])), (h1, .inr (5, [.int 0, .int 0, .ref h11, .ref h12, .ref h13, .ref h14, .ref h15, .ref h16, .ref h17, .ref h18, .ref h19, .ref h20])), (h8, .inl (cA 0, 512, .inl (upd (fun _ => 0) 0 1))), (h9, .inl (cA 3, 512, .inl (upd (fun _ => 0) 0 1)))]) (fun _ => rfl) (fun q1 H locs hP hD hS => ?_)
  refine W.eq (g2 := F0 m 15 ls []) rfl ?_
  refine lv_aload_n hx hb dX6_canTakeAway_15 rfl (lv_at hl 0 rfl) ?_
  refine k_get (ci := 9) (C := RX6) (T := TX6) (N := 5) (v := .ref h5) hx hb hG inX6 hown hK hP 0 rfl rfl 4 (by decide) gw367 rfl dX6_canTakeAway_16 ?_
  refine k_get (ci := 7) (C := RX4) (T := TX4) (N := 9) (v := .ref h9) hx hb hG inX4 hown hK hP 1 rfl rfl 7 (by decide) gw340 rfl dX6_canTakeAway_19 ?_
  refine lv_iconst (v := 0) hx hb dX6_canTakeAway_22 (by decide) ?_
  refine k_zald (v := 1) hx hb hK hP 4 rfl 0 (by decide) rfl (by unfold vp_in; decide) dX6_canTakeAway_23 ?_
  exact e_i (fun _ => 0) hx hb hr hlocks rfl rfl hP hD hS (Nat.le_of_ble_eq_true rfl) (Nat.le_of_ble_eq_true rfl) dX6_canTakeAway_24
set_option maxHeartbeats 4000000 in
set_option maxRecDepth 100000 in
theorem c339_X12_isTakenAway (l : Launch) (hfl : l.stackTraces = false) (D : va_G) (cA : Nat → ClassId) (g : gv_T) (h0 h1 h2 h3 h4 h5 h6 h7 h8 h9 h10 h11 h12 h13 h14 h15 h16 h17 h18 : Nat) : CT l yX12_isTakenAway cX12_isTakenAway 5 (some .boolean) (RM 1 0 0 20) D cA g [.ref h0, .int 0] [(h0, .inr (15, [.ref h1, .ref h2, .ref h3, .ref h4, .ref h5, .ref h6, .ref h7, .ref h8, .ref h9, .ref h10, .ref h11, .ref h12, .ref h13, .ref h14, .ref h15, .ref h16, .ref h17, .ref h18, .long 0, .int 0, .int 2, .int 0, .int 0, .int 0, .int 0, .int 0, .int 0])), (h2, .inr (2, [.int 0, .ref g.1, .int 0])), (h8, .inl (cA 3, 512, .inl (fun _ => 0)))] (fun q => some (.int 1)) (fun q => [(h0, .inr (15, [.ref h1, .ref h2, .ref h3, .ref h4, .ref h5, .ref h6, .ref h7, .ref h8, .ref h9, .ref h10, .ref h11, .ref h12, .ref h13, .ref h14, .ref h15, .ref h16, .ref h17, .ref h18, .long 0, .int 0, .int 2, .int 0, .int 0, .int 0, .int 0, .int 0, .int 0])), (h2, .inr (2, [.int 0, .ref g.1, .int 0])), (h8, .inl (cA 3, 512, .inl (upd (upd (fun _ => 0) 0 0) 0 1)))]) := by
  refine CT.of (by decide +kernel) (Nat.le_of_ble_eq_true rfl) ?_
  intro p e s m args below meth c A ls hx hb hr hml hown hG hlocks hnm hA hS hP hK hD hGV hl
  have hown : s.vm.findClass RX12 = some m.cls := hown
  have hl : lv_has ls 5 [(0, .ref h0), (1, .int 0)] := hl
  have hSF : CF p m c cX12_isTakenAway 5 s args RX12 := ⟨hx, hb, hml, hown, hG⟩
  refine lv_iconst (v := 0) hx hb dX12_isTakenAway_0 (by decide) ?_
  refine lv_istore_n (lv' := [(2, .int 0), (0, .ref h0), (1, .int 0)]) hx hb dX12_isTakenAway_1 rfl hl (by decide) rfl (fun ls hl => ?_)
  refine lv_iload_n hx hb dX12_isTakenAway_2 rfl (lv_at hl 0 rfl) ?_
  refine lv_iconst (v := 1) hx hb dX12_isTakenAway_3 (by decide) ?_
  refine lv_aload_n hx hb dX12_isTakenAway_4 rfl (lv_at hl 1 rfl) ?_
  refine k_get (ci := 15) (C := RX12) (T := TX12) (N := 27) (v := .ref h2) hx hb hG inX12 hown hK hP 0 rfl rfl 1 (by decide) gw1220 rfl dX12_isTakenAway_5 ?_
  refine ct_V (wr := [(h0, .inr (15, [.ref h1, .ref h2, .ref h3, .ref h4, .ref h5, .ref h6, .ref h7, .ref h8, .ref h9, .ref h10, .ref h11, .ref h12, .ref h13, .ref h14, .ref h15, .ref h16, .ref h17, .ref h18, .long 0, .int 0, .int 2, .int 0, .int 0, .int 0, .int 0, .int 0, .int 0])), (h8, .inl (cA 3, 512, .inl (fun _ => 0)))]) hSF hl.1 hP hD hS hA hK hGV (c56_Jx4a65c_size_8abf5 l hfl D cA g h2) goV_X12_125 pd_Jx4a65c_size_8abf5 ⟨(Nat.le_of_ble_eq_true rfl), (Nat.le_of_ble_eq_true rfl)⟩ ⟨(Nat.le_of_ble_eq_true rfl), (Nat.le_of_ble_eq_true rfl)⟩ (va_recv hK hP (ci := 2) (q0 := 1) rfl rfl) dX12_isTakenAway_8 rfl (Nat.le_of_ble_eq_true rfl) [1] [0, 2] rfl (by decide) rfl (by decide) (by decide) (fun q => [(h0, .inr (15, [.ref h1, .ref h2, .ref h3, .ref h4, .ref h5, .ref h6, .ref h7, .ref h8, .ref h9, .ref h10, .ref h11, .ref h12, .ref h13, .ref h14, .ref h15, .ref h16, .ref h17, .ref h18, .long 0, .int 0, .int 2, .int 0, .int 0, .int 0, .int 0, .int 0, .int 0])), (h8, .inl (cA 3, 512, .inl (fun _ => 0))), (h2, .inr (2, [.int 0, .ref g.1, .int 0]))]) (fun _ => rfl) (fun q1 H locs hP hD hS => ?_)
  refine W.eq (g2 := F0 m 11 ls [.int 0, .int 1, .int 0]) rfl ?_
  refine k_ishl (v := 1) hx hb dX12_isTakenAway_11 (by decide) ?_
  refine k_icmp_ge_f (tgt := 28) hx hb dX12_isTakenAway_12 (by decide) (by decide) ?_
  refine lv_aload_n hx hb dX12_isTakenAway_15 rfl (lv_at hl 1 rfl) ?_
  refine k_get (ci := 15) (C := RX12) (T := TX12) (N := 27) (v := .ref h8) hx hb hG inX12 hown hK hP 0 rfl rfl 7 (by decide) gw1226 rfl dX12_isTakenAway_16 ?_
  refine lv_iload_n hx hb dX12_isTakenAway_19 rfl (lv_at hl 0 rfl) ?_
  refine lv_iconst (v := 0) hx hb dX12_isTakenAway_20 (by decide) ?_
  refine k_zast (ws1 := [(h0, .inr (15, [.ref h1, .ref h2, .ref h3, .ref h4, .ref h5, .ref h6, .ref h7, .ref h8, .ref h9, .ref h10, .ref h11, .ref h12, .ref h13, .ref h14, .ref h15, .ref h16, .ref h17, .ref h18, .long 0, .int 0, .int 2, .int 0, .int 0, .int 0, .int 0, .int 0, .int 0])), (h8, .inl (cA 3, 512, .inl (upd (fun _ => 0) 0 0))), (h2, .inr (2, [.int 0, .ref g.1, .int 0]))]) hx hb hK hP hD hS 1 rfl rfl (by unfold vp_in; decide) dX12_isTakenAway_21 (fun H locs hP hD hS => ?_)
  refine lv_iinc (v := 1) (lv' := [(2, .int 1), (0, .ref h0), (1, .int 0)]) hx hb dX12_isTakenAway_22 hl (k := 0) rfl (by decide) (by decide) rfl (fun ls hl => ?_)
  refine lv_goto (tgt := 2) hx hb dX12_isTakenAway_25 (by decide) ?_
  refine lv_iload_n hx hb dX12_isTakenAway_2 rfl (lv_at hl 0 rfl) ?_
  refine lv_iconst (v := 1) hx hb dX12_isTakenAway_3 (by decide) ?_
  refine lv_aload_n hx hb dX12_isTakenAway_4 rfl (lv_at hl 1 rfl) ?_
  refine k_get (ci := 15) (C := RX12) (T := TX12) (N := 27) (v := .ref h2) hx hb hG inX12 hown hK hP 0 rfl rfl 1 (by decide) gw1220 rfl dX12_isTakenAway_5 ?_
  refine ct_V (wr := [(h0, .inr (15, [.ref h1, .ref h2, .ref h3, .ref h4, .ref h5, .ref h6, .ref h7, .ref h8, .ref h9, .ref h10, .ref h11, .ref h12, .ref h13, .ref h14, .ref h15, .ref h16, .ref h17, .ref h18, .long 0, .int 0, .int 2, .int 0, .int 0, .int 0, .int 0, .int 0, .int 0])), (h8, .inl (cA 3, 512, .inl (upd (fun _ => 0) 0 0)))]) hSF hl.1 hP hD hS hA hK hGV (c56_Jx4a65c_size_8abf5 l hfl D cA g h2) goV_X12_125 pd_Jx4a65c_size_8abf5 ⟨(Nat.le_of_ble_eq_true rfl), (Nat.le_of_ble_eq_true rfl)⟩ ⟨(Nat.le_of_ble_eq_true rfl), (Nat.le_of_ble_eq_true rfl)⟩ (va_recv hK hP (ci := 2) (q0 := 2) rfl rfl) dX12_isTakenAway_8 rfl (Nat.le_of_ble_eq_true rfl) [2] [0, 1] rfl (by decide) rfl (by decide) (by decide) (fun q => [(h0, .inr (15, [.ref h1, .ref h2, .ref h3, .ref h4, .ref h5, .ref h6, .ref h7, .ref h8, .ref h9, .ref h10, .ref h11, .ref h12, .ref h13, .ref h14, .ref h15, .ref h16, .ref h17, .ref h18, .long 0, .int 0, .int 2, .int 0, .int 0, .int 0, .int 0, .int 0, .int 0])), (h8, .inl (cA 3, 512, .inl (upd (fun _ => 0) 0 0))), (h2, .inr (2, [.int 0, .ref g.1, .int 0]))]) (fun _ => rfl) (fun q2 H locs hP hD hS => ?_)
  refine W.eq (g2 := F0 m 11 ls [.int 0, .int 1, .int 1]) rfl ?_
  refine k_ishl (v := 1) hx hb dX12_isTakenAway_11 (by decide) ?_
  refine k_icmp_ge_t (tgt := 28) hx hb dX12_isTakenAway_12 (by decide) (by decide) ?_
  refine lv_aload_n hx hb dX12_isTakenAway_28 rfl (lv_at hl 1 rfl) ?_
  refine k_get (ci := 15) (C := RX12) (T := TX12) (N := 27) (v := .ref h8) hx hb hG inX12 hown hK hP 0 rfl rfl 7 (by decide) gw1226 rfl dX12_isTakenAway_29 ?_
  refine lv_iload_n hx hb dX12_isTakenAway_32 rfl (lv_at hl 2 rfl) ?_
  refine lv_iconst (v := 1) hx hb dX12_isTakenAway_33 (by decide) ?_
  refine k_zast (ws1 := [(h0, .inr (15, [.ref h1, .ref h2, .ref h3, .ref h4, .ref h5, .ref h6, .ref h7, .ref h8, .ref h9, .ref h10, .ref h11, .ref h12, .ref h13, .ref h14, .ref h15, .ref h16, .ref h17, .ref h18, .long 0, .int 0, .int 2, .int 0, .int 0, .int 0, .int 0, .int 0, .int 0])), (h8, .inl (cA 3, 512, .inl (upd (upd (fun _ => 0) 0 0) 0 1))), (h2, .inr (2, [.int 0, .ref g.1, .int 0]))]) hx hb hK hP hD hS 1 rfl rfl (by unfold vp_in; decide) dX12_isTakenAway_34 (fun H locs hP hD hS => ?_)
  refine lv_iload_n hx hb dX12_isTakenAway_35 rfl (lv_at hl 2 rfl) ?_
  refine lv_istore_n (lv' := [(2, .int 0), (0, .ref h0), (1, .int 0)]) hx hb dX12_isTakenAway_36 rfl hl (by decide) rfl (fun ls hl => ?_)
  refine lv_iload_n hx hb dX12_isTakenAway_37 rfl (lv_at hl 0 rfl) ?_
  refine k_if_le_t (tgt := 143) hx hb dX12_isTakenAway_38 (by decide) (by decide) ?_
  refine lv_aload_n hx hb dX12_isTakenAway_143 rfl (lv_at hl 1 rfl) ?_
  refine k_get (ci := 15) (C := RX12) (T := TX12) (N := 27) (v := .ref h8) hx hb hG inX12 hown hK hP 0 rfl rfl 7 (by decide) gw1226 rfl dX12_isTakenAway_144 ?_
  refine lv_iconst (v := 0) hx hb dX12_isTakenAway_147 (by decide) ?_
  refine k_zald (v := 1) hx hb hK hP 1 rfl 0 (by decide) rfl (by unfold vp_in; decide) dX12_isTakenAway_148 ?_
  exact e_i (fun _ => 0) hx hb hr hlocks rfl rfl (hP.sub [0, 2, 1] rfl) (hD.sub [0, 2, 1] (by decide) rfl) hS (Nat.le_of_ble_eq_true rfl) (Nat.le_of_ble_eq_true rfl) dX12_isTakenAway_149
set_option maxHeartbeats 4000000 in
set_option maxRecDepth 100000 in
theorem c340_X12_tells (l : Launch) (hfl : l.stackTraces = false) (D : va_G) (cA : Nat → ClassId) (g : gv_T) (h0 h1 h2 h3 h4 h5 h6 h7 h8 h9 h10 h11 h12 h13 h14 h15 h16 h17 h18 : Nat) : CT l yX12_tells cX12_tells 2 (some .boolean) (RM 0 0 0 0) D cA g [.ref h0, .int 1] [(h0, .inr (15, [.ref h1, .ref h2, .ref h3, .ref h4, .ref h5, .ref h6, .ref h7, .ref h8, .ref h9, .ref h10, .ref h11, .ref h12, .ref h13, .ref h14, .ref h15, .ref h16, .ref h17, .ref h18, .long 0, .int 0, .int 2, .int 0, .int 0, .int 0, .int 0, .int 0, .int 0]))] (fun q => some (.int 1)) (fun q => [(h0, .inr (15, [.ref h1, .ref h2, .ref h3, .ref h4, .ref h5, .ref h6, .ref h7, .ref h8, .ref h9, .ref h10, .ref h11, .ref h12, .ref h13, .ref h14, .ref h15, .ref h16, .ref h17, .ref h18, .long 0, .int 0, .int 2, .int 0, .int 0, .int 0, .int 0, .int 0, .int 0]))]) := by
  refine CT.of (by decide +kernel) (Nat.le_of_ble_eq_true rfl) ?_
  intro p e s m args below meth c A ls hx hb hr hml hown hG hlocks hnm hA hS hP hK hD hGV hl
  have hown : s.vm.findClass RX12 = some m.cls := hown
  have hl : lv_has ls 2 [(0, .ref h0), (1, .int 1)] := hl
  have hSF : CF p m c cX12_tells 2 s args RX12 := ⟨hx, hb, hml, hown, hG⟩
  refine lv_aload_n hx hb dX12_tells_0 rfl (lv_at hl 0 rfl) ?_
  refine lv_iconst (v := 0) hx hb dX12_tells_1 (by decide) ?_
  refine k_put (ci := 15) (C := RX12) (T := TX12) (N := 27) (v := .int 0) (ws1 := [(h0, .inr (15, [.ref h1, .ref h2, .ref h3, .ref h4, .ref h5, .ref h6, .ref h7, .ref h8, .ref h9, .ref h10, .ref h11, .ref h12, .ref h13, .ref h14, .ref h15, .ref h16, .ref h17, .ref h18, .long 0, .int 0, .int 2, .int 0, .int 0, .int 0, .int 0, .int 0, .int 0]))]) hx hb hG inX12 tyX12 tyX12_ok nmX12 hown hK hP hD hS 0 rfl rfl 19 (by decide) gw1238 rfl ⟨rfl, rfl⟩ rfl (Nat.le_of_ble_eq_true rfl) dX12_tells_2 (fun H locs hP hD hS => ?_)
  refine lv_iload_n hx hb dX12_tells_5 rfl (lv_at hl 1 rfl) ?_
  exact e_i (fun _ => 0) hx hb hr hlocks rfl rfl hP hD hS (Nat.le_of_ble_eq_true rfl) (Nat.le_of_ble_eq_true rfl) dX12_tells_6
set_option maxHeartbeats 4000000 in
set_option maxRecDepth 100000 in
theorem c341_X12_canTakeAway (l : Launch) (hfl : l.stackTraces = false) (D : va_G) (cA : Nat → ClassId) (g : gv_T) (h0 h1 h2 h3 h4 h5 h6 h7 h8 h9 h10 h11 h12 h13 h14 h15 h16 h17 h18 : Nat) : CT l yX12_canTakeAway cX12_canTakeAway 1 (some .boolean) (RM 2 0 0 44) D cA g [.ref h0] [(h0, .inr (15, [.ref h1, .ref h2, .ref h3, .ref h4, .ref h5, .ref h6, .ref h7, .ref h8, .ref h9, .ref h10, .ref h11, .ref h12, .ref h13, .ref h14, .ref h15, .ref h16, .ref h17, .ref h18, .long 0, .int 0, .int 2, .int 0, .int 0, .int 0, .int 0, .int 0, .int 0])), (h2, .inr (2, [.int 0, .ref g.1, .int 0])), (h8, .inl (cA 3, 512, .inl (fun _ => 0)))] (fun q => some (.int 1)) (fun q => [(h0, .inr (15, [.ref h1, .ref h2, .ref h3, .ref h4, .ref h5, .ref h6, .ref h7, .ref h8, .ref h9, .ref h10, .ref h11, .ref h12, .ref h13, .ref h14, .ref h15, .ref h16, .ref h17, .ref h18, .long 0, .int 0, .int 2, .int 0, .int 0, .int 0, .int 0, .int 0, .int 0])), (h2, .inr (2, [.int 0, .ref g.1, .int 0])), (h8, .inl (cA 3, 512, .inl (upd (upd (fun _ => 0) 0 0) 0 1)))]) := by
  refine CT.of (by decide +kernel) (Nat.le_of_ble_eq_true rfl) ?_
  intro p e s m args below meth c A ls hx hb hr hml hown hG hlocks hnm hA hS hP hK hD hGV hl
  have hown : s.vm.findClass RX12 = some m.cls := hown
  have hl : lv_has ls 1 [(0, .ref h0)] := hl
  have hSF : CF p m c cX12_canTakeAway 1 s args RX12 := ⟨hx, hb, hml, hown, hG⟩
  refine lv_aload_n hx hb dX12_canTakeAway_0 rfl (lv_at hl 0 rfl) ?_
  refine lv_aload_n hx hb dX12_canTakeAway_1 rfl (lv_at hl 0 rfl) ?_
  refine lv_iconst (v := 1) hx hb dX12_canTakeAway_2 (by decide) ?_
  refine lv_aload_n hx hb dX12_canTakeAway_3 rfl (lv_at hl 0 rfl) ?_
  refine k_get (ci := 15) (C := RX12) (T := TX12) (N := 27) (v := .ref h2) hx hb hG inX12 hown hK hP 0 rfl rfl 1 (by decide) gw1220 rfl dX12_canTakeAway_4 ?_
  refine ct_V (wr := [(h0, .inr (15, [.ref h1, .ref h2, .ref h3, .ref h4, .ref h5, .ref h6, .ref h7, .ref h8, .ref h9, .ref h10, .ref h11, .ref h12, .ref h13, .ref h14, .ref h15, .ref h16, .ref h17, .ref h18, .long 0, .int 0, .int 2, .int 0, .int 0, .int 0, .int 0, .int 0, .int 0])), (h8, .inl (cA 3, 512, .inl (fun _ => 0)))]) hSF hl.1 hP hD hS hA hK hGV (c56_Jx4a65c_size_8abf5 l hfl D cA g h2) goV_X12_125 pd_Jx4a65c_size_8abf5 ⟨(Nat.le_of_ble_eq_true rfl), (Nat.le_of_ble_eq_true rfl)⟩ ⟨(Nat.le_of_ble_eq_true rfl), (Nat.le_of_ble_eq_true rfl)⟩ (va_recv hK hP (ci := 2) (q0 := 1) rfl rfl) dX12_canTakeAway_7 rfl (Nat.le_of_ble_eq_true rfl) [1] [0, 2] rfl (by decide) rfl (by decide) (by decide) (fun q => [(h0, .inr (15, [.ref h1, .ref h2, .ref h3, .ref h4, .ref h5, .ref h6, .ref h7, .ref h8, .ref h9, .ref h10, .ref h11, .ref h12, .ref h13, .ref h14, .ref h15, .ref h16, .ref h17, .ref h18, .long 0, .int 0, .int 2, .int 0, .int 0, .int 0, .int 0, .int 0, .int 0])), (h8, .inl (cA 3, 512, .inl (fun _ => 0))), (h2, .inr (2, [.int 0, .ref g.1, .int 0]))]) (fun _ => rfl) (fun q1 H locs hP hD hS => ?_)
  refine W.eq (g2 := F0 m 10 ls [.int 0, .int 1, .ref h0, .ref h0]) rfl ?_
  refine k_ishl (v := 1) hx hb dX12_canTakeAway_10 (by decide) ?_
  refine lv_iconst (v := 1) hx hb dX12_canTakeAway_11 (by decide) ?_
  refine k_isub (v := 0) hx hb dX12_canTakeAway_12 (by decide) ?_
  refine ct_V (wr := []) hSF hl.1 hP hD hS hA hK hGV (c339_X12_isTakenAway l hfl D cA g h0 h1 h2 h3 h4 h5 h6 h7 h8 h9 h10 h11 h12 h13 h14 h15 h16 h17 h18) goV_X12_398 pd_X12_isTakenAway ⟨(Nat.le_of_ble_eq_true rfl), (Nat.le_of_ble_eq_true rfl)⟩ ⟨(Nat.le_of_ble_eq_true rfl), (Nat.le_of_ble_eq_true rfl)⟩ (va_recv hK hP (ci := 15) (q0 := 0) rfl rfl) dX12_canTakeAway_13 rfl (Nat.le_of_ble_eq_true rfl) [0, 2, 1] [] rfl (by decide) rfl (by decide) (by decide) (fun q => [(h0, .inr (15, [.ref h1, .ref h2, .ref h3, .ref h4, .ref h5, .ref h6, .ref h7, .ref h8, .ref h9, .ref h10, .ref h11, .ref h12, .ref h13, .ref h14, .ref h15, .ref h16, .ref h17, .ref h18, .long 0, .int 0, .int 2, .int 0, .int 0, .int 0, .int 0, .int 0, .int 0])), (h2, .inr (2, [.int 0, .ref g.1, .int 0])), (h8, .inl (cA 3, 512, .inl (upd (upd (fun _ => 0) 0 0) 0 1)))]) (fun _ => rfl) (fun q2 H locs hP hD hS => ?_)
  refine W.eq (g2 := F0 m 16 ls [.int 1, .ref h0]) rfl ?_
  refine ct_V (wr := [(h2, .inr (2, [.int 0, .ref g.1, .int 0])), (h8, .inl (cA 3, 512, .inl (upd (upd (fun _ => 0) 0 0) 0 1)))]) hSF hl.1 hP hD hS hA hK hGV (c340_X12_tells l hfl D cA g h0 h1 h2 h3 h4 h5 h6 h7 h8 h9 h10 h11 h12 h13 h14 h15 h16 h17 h18) goV_X12_343 pd_X12_tells ⟨(Nat.le_of_ble_eq_true rfl), (Nat.le_of_ble_eq_true rfl)⟩ ⟨(Nat.le_of_ble_eq_true rfl), (Nat.le_of_ble_eq_true rfl)⟩ (va_recv hK hP (ci := 15) (q0 := 0) rfl rfl) dX12_canTakeAway_16 rfl (Nat.le_of_ble_eq_true rfl) [0] [1, 2] rfl (by decide) rfl (by decide) (by decide) (fun q => [(h2, .inr (2, [.int 0, .ref g.1, .int 0])), (h8, .inl (cA 3, 512, .inl (upd (upd (fun _ => 0) 0 0) 0 1))), (h0, .inr (15, [.ref h1, .ref h2, .ref h3, .ref h4, .ref h5, .ref h6, .ref h7, .ref h8, .ref h9, .ref h10, .ref h11, .ref h12, .ref h13, .ref h14, .ref h15, .ref h16, .ref h17, .ref h18, .long 0, .int 0, .int 2, .int 0, .int 0, .int 0, .int 0, .int 0, .int 0]))]) (fun _ => rfl) (fun q3 H locs hP hD hS => ?_)
  refine W.eq (g2 := F0 m 19 ls [.int 1]) rfl ?_
  exact e_i (fun _ => 0) hx hb hr hlocks rfl rfl (hP.sub [2, 0, 1] rfl) (hD.sub [2, 0, 1] (by decide) rfl) hS (Nat.le_of_ble_eq_true rfl) (Nat.le_of_ble_eq_true rfl) dX12_canTakeAway_19
set_option maxHeartbeats 4000000 in
set_option maxRecDepth 100000 in
theorem c342_X6_orders (l : Launch) (hfl : l.stackTraces = false) (D : va_G) (cA : Nat → ClassId) (g : gv_T) (h0 h1 h2 h3 h4 h5 h6 h7 h8 h9 h10 h11 h12 h13 h14 h15 h16 h17 h18 h19 h20 : Nat) : CT l yX6_orders cX6_orders 1 (some .int) (RM 2 0 0 47) D cA g [.ref h0] [(h0, .inr (9, [.ref h1, .ref h2, .ref h3, .ref h4, .ref h5])), (h5, .inr (7, [.int 2, .int 0, .int 0, .int 0, .ref h6, .ref h7, .ref h8, .ref h9, .ref h10])), (h1, .inr (5, [.int 0, .int 0, .ref h11, .ref h12, .ref h13, .ref h14, .ref h15, .ref h16, .ref h17, .ref h18, .ref h19, .ref h20])), (h8, .inl (cA 0, 512, .inl (fun _ => 0))), (h9, .inl (cA 3, 512, .inl (fun _ => 0)))] (fun q => some (.int 1)) (fun q => [(h0, .inr (9, [.ref h1, .ref h2, .ref h3, .ref h4, .ref h5])), (h5, .inr (7, [.int 2, .int 1, .int 0, .int 0, .ref h6, .ref h7, .ref h8, .ref h9, .ref h10])), (h1, .inr (5, [.int 0, .int 0, .ref h11, .ref h12, .ref h13, .ref h14, .ref h15, .ref h16, .ref h17, .ref h18, .ref h19, .ref h20])), (h8, .inl (cA 0, 512, .inl (upd (fun _ => 0) 0 1))), (h9, .inl (cA 3, 512, .inl (upd (fun _ => 0) 0 1)))]) := by
  refine CT.of (by decide +kernel) (Nat.le_of_ble_eq_true rfl) ?_
  intro p e s m args below meth c A ls hx hb hr hml hown hG hlocks hnm hA hS hP hK hD hGV hl
  have hown : s.vm.findClass RX6 = some m.cls := hown
  have hl : lv_has ls 1 [(0, .ref h0)] := hl
  have hSF : CF p m c cX6_orders 1 s args RX6 := ⟨hx, hb, hml, hown, hG⟩
  refine lv_aload_n hx hb dX6_orders_0 rfl (lv_at hl 0 rfl) ?_
  refine k_get (ci := 9) (C := RX6) (T := TX6) (N := 5) (v := .ref h5) hx hb hG inX6 hown hK hP 0 rfl rfl 4 (by decide) gw367 rfl dX6_orders_1 ?_
  refine lv_aload_n hx hb dX6_orders_4 rfl (lv_at hl 0 rfl) ?_
  refine k_get (ci := 9) (C := RX6) (T := TX6) (N := 5) (v := .ref h1) hx hb hG inX6 hown hK hP 0 rfl rfl 0 (by decide) gw363 rfl dX6_orders_5 ?_
  refine lv_aload_n hx hb dX6_orders_8 rfl (lv_at hl 0 rfl) ?_
  refine k_get (ci := 9) (C := RX6) (T := TX6) (N := 5) (v := .ref h3) hx hb hG inX6 hown hK hP 0 rfl rfl 2 (by decide) gw365 rfl dX6_orders_9 ?_
  refine ct_V (wr := [(h0, .inr (9, [.ref h1, .ref h2, .ref h3, .ref h4, .ref h5]))]) hSF hl.1 hP hD hS hA hK hGV (c321_X4_find l hfl D cA g h5 h1 h3 h6 h7 h8 h9 h10 h11 h12 h13 h14 h15 h16 h17 h18 h19 h20) goV_X6_247 pd_X4_find ⟨(Nat.le_of_ble_eq_true rfl), (Nat.le_of_ble_eq_true rfl)⟩ ⟨(Nat.le_of_ble_eq_true rfl), (Nat.le_of_ble_eq_true rfl)⟩ (va_recv hK hP (ci := 7) (q0 := 1) rfl rfl) dX6_orders_12 rfl (Nat.le_of_ble_eq_true rfl) [1, 2, 3, 4] [0] rfl (by decide) rfl (by decide) (by decide) (fun q => [(h0, .inr (9, [.ref h1, .ref h2, .ref h3, .ref h4, .ref h5])), (h5, .inr (7, [.int 2, .int 1, .int 0, .int 0, .ref h6, .ref h7, .ref h8, .ref h9, .ref h10])), (h1, .inr (5, [.int 0, .int 0, .ref h11, .ref h12, .ref h13, .ref h14, .ref h15, .ref h16, .ref h17, .ref h18, .ref h19, .ref h20])), (h8, .inl (cA 0, 512, .inl (upd (fun _ => 0) 0 1))), (h9, .inl (cA 3, 512, .inl (upd (fun _ => 0) 0 1)))]) (fun _ => rfl) (fun q1 H locs hP hD hS => ?_)
  refine W.eq (g2 := F0 m 15 ls []) rfl ?_
  refine lv_aload_n hx hb dX6_orders_15 rfl (lv_at hl 0 rfl) ?_
  refine k_get (ci := 9) (C := RX6) (T := TX6) (N := 5) (v := .ref h5) hx hb hG inX6 hown hK hP 0 rfl rfl 4 (by decide) gw367 rfl dX6_orders_16 ?_
  refine ct_V (wr := [(h0, .inr (9, [.ref h1, .ref h2, .ref h3, .ref h4, .ref h5])), (h1, .inr (5, [.int 0, .int 0, .ref h11, .ref h12, .ref h13, .ref h14, .ref h15, .ref h16, .ref h17, .ref h18, .ref h19, .ref h20])), (h9, .inl (cA 3, 512, .inl (upd (fun _ => 0) 0 1)))]) hSF hl.1 hP hD hS hA hK hGV (c322_X4_orderCount l hfl D cA g h5 h6 h7 h8 h9 h10) goV_X6_250 pd_X4_orderCount ⟨(Nat.le_of_ble_eq_true rfl), (Nat.le_of_ble_eq_true rfl)⟩ ⟨(Nat.le_of_ble_eq_true rfl), (Nat.le_of_ble_eq_true rfl)⟩ (va_recv hK hP (ci := 7) (q0 := 1) rfl rfl) dX6_orders_19 rfl (Nat.le_of_ble_eq_true rfl) [1, 3] [0, 2, 4] rfl (by decide) rfl (by decide) (by decide) (fun q => [(h0, .inr (9, [.ref h1, .ref h2, .ref h3, .ref h4, .ref h5])), (h1, .inr (5, [.int 0, .int 0, .ref h11, .ref h12, .ref h13, .ref h14, .ref h15, .ref h16, .ref h17, .ref h18, .ref h19, .ref h20])), (h9, .inl (cA 3, 512, .inl (upd (fun _ => 0) 0 1))), (h5, .inr (7, [.int 2, .int 1, .int 0, .int 0, .ref h6, .ref h7, .ref h8, .ref h9, .ref h10])), (h8, .inl (cA 0, 512, .inl (upd (fun _ => 0) 0 1)))]) (fun _ => rfl) (fun q2 H locs hP hD hS => ?_)
  refine W.eq (g2 := F0 m 22 ls [.int 1]) rfl ?_
  exact e_i (fun _ => 0) hx hb hr hlocks rfl rfl (hP.sub [0, 3, 1, 4, 2] rfl) (hD.sub [0, 3, 1, 4, 2] (by decide) rfl) hS (Nat.le_of_ble_eq_true rfl) (Nat.le_of_ble_eq_true rfl) dX6_orders_22
set_option maxHeartbeats 4000000 in
set_option maxRecDepth 100000 in
theorem c343_X12_tell (l : Launch) (hfl : l.stackTraces = false) (D : va_G) (cA : Nat → ClassId) (g : gv_T) (h0 h1 h2 h3 h4 h5 h6 h7 h8 h9 h10 h11 h12 h13 h14 h15 h16 h17 h18 : Nat) : CT l yX12_tell cX12_tell 2 (some .int) (RM 0 0 0 0) D cA g [.ref h0, .int 1] [(h0, .inr (15, [.ref h1, .ref h2, .ref h3, .ref h4, .ref h5, .ref h6, .ref h7, .ref h8, .ref h9, .ref h10, .ref h11, .ref h12, .ref h13, .ref h14, .ref h15, .ref h16, .ref h17, .ref h18, .long 0, .int 0, .int 2, .int 0, .int 0, .int 0, .int 1, .int 0, .int 0]))] (fun q => some (.int 1)) (fun q => [(h0, .inr (15, [.ref h1, .ref h2, .ref h3, .ref h4, .ref h5, .ref h6, .ref h7, .ref h8, .ref h9, .ref h10, .ref h11, .ref h12, .ref h13, .ref h14, .ref h15, .ref h16, .ref h17, .ref h18, .long 0, .int 0, .int 2, .int 0, .int 0, .int 0, .int 1, .int 0, .int 0]))]) := by
  refine CT.of (by decide +kernel) (Nat.le_of_ble_eq_true rfl) ?_
  intro p e s m args below meth c A ls hx hb hr hml hown hG hlocks hnm hA hS hP hK hD hGV hl
  have hown : s.vm.findClass RX12 = some m.cls := hown
  have hl : lv_has ls 2 [(0, .ref h0), (1, .int 1)] := hl
  have hSF : CF p m c cX12_tell 2 s args RX12 := ⟨hx, hb, hml, hown, hG⟩
  refine lv_aload_n hx hb dX12_tell_0 rfl (lv_at hl 0 rfl) ?_
  refine lv_iconst (v := 0) hx hb dX12_tell_1 (by decide) ?_
  refine k_put (ci := 15) (C := RX12) (T := TX12) (N := 27) (v := .int 0) (ws1 := [(h0, .inr (15, [.ref h1, .ref h2, .ref h3, .ref h4, .ref h5, .ref h6, .ref h7, .ref h8, .ref h9, .ref h10, .ref h11, .ref h12, .ref h13, .ref h14, .ref h15, .ref h16, .ref h17, .ref h18, .long 0, .int 0, .int 2, .int 0, .int 0, .int 0, .int 1, .int 0, .int 0]))]) hx hb hG inX12 tyX12 tyX12_ok nmX12 hown hK hP hD hS 0 rfl rfl 19 (by decide) gw1238 rfl ⟨rfl, rfl⟩ rfl (Nat.le_of_ble_eq_true rfl) dX12_tell_2 (fun H locs hP hD hS => ?_)
  refine lv_iload_n hx hb dX12_tell_5 rfl (lv_at hl 1 rfl) ?_
  exact e_i (fun _ => 0) hx hb hr hlocks rfl rfl hP hD hS (Nat.le_of_ble_eq_true rfl) (Nat.le_of_ble_eq_true rfl) dX12_tell_6
set_option maxHeartbeats 4000000 in
set_option maxRecDepth 100000 in
theorem c344_X12_orders (l : Launch) (hfl : l.stackTraces = false) (D : va_G) (cA : Nat → ClassId) (g : gv_T) (h0 h1 h2 h3 h4 h5 h6 h7 h8 h9 h10 h11 h12 h13 h14 h15 h16 h17 h18 : Nat) : CT l yX12_orders cX12_orders 1 (some .int) (RM 2 0 0 44) D cA g [.ref h0] [(h0, .inr (15, [.ref h1, .ref h2, .ref h3, .ref h4, .ref h5, .ref h6, .ref h7, .ref h8, .ref h9, .ref h10, .ref h11, .ref h12, .ref h13, .ref h14, .ref h15, .ref h16, .ref h17, .ref h18, .long 0, .int 0, .int 2, .int 0, .int 0, .int 0, .int 0, .int 0, .int 0])), (h2, .inr (2, [.int 0, .ref g.1, .int 0])), (h10, .inl (cA 0, 512, .inl (fun _ => 0)))] (fun q => some (.int 1)) (fun q => [(h0, .inr (15, [.ref h1, .ref h2, .ref h3, .ref h4, .ref h5, .ref h6, .ref h7, .ref h8, .ref h9, .ref h10, .ref h11, .ref h12, .ref h13, .ref h14, .ref h15, .ref h16, .ref h17, .ref h18, .long 0, .int 0, .int 2, .int 0, .int 0, .int 0, .int 1, .int 0, .int 0])), (h2, .inr (2, [.int 0, .ref g.1, .int 0])), (h10, .inl (cA 0, 512, .inl (upd (fun _ => 0) 0 1)))]) := by
  refine CT.of (by decide +kernel) (Nat.le_of_ble_eq_true rfl) ?_
  intro p e s m args below meth c A ls hx hb hr hml hown hG hlocks hnm hA hS hP hK hD hGV hl
  have hown : s.vm.findClass RX12 = some m.cls := hown
  have hl : lv_has ls 1 [(0, .ref h0)] := hl
  have hSF : CF p m c cX12_orders 1 s args RX12 := ⟨hx, hb, hml, hown, hG⟩
  refine lv_aload_n hx hb dX12_orders_0 rfl (lv_at hl 0 rfl) ?_
  refine ct_V (wr := []) hSF hl.1 hP hD hS hA hK hGV (c326_X12_raises l hfl D cA g h0 h1 h2 h3 h4 h5 h6 h7 h8 h9 h10 h11 h12 h13 h14 h15 h16 h17 h18) goV_X12_392 pd_X12_raises ⟨(Nat.le_of_ble_eq_true rfl), (Nat.le_of_ble_eq_true rfl)⟩ ⟨(Nat.le_of_ble_eq_true rfl), (Nat.le_of_ble_eq_true rfl)⟩ (va_recv hK hP (ci := 15) (q0 := 0) rfl rfl) dX12_orders_1 rfl (Nat.le_of_ble_eq_true rfl) [0, 1, 2] [] rfl (by decide) rfl (by decide) (by decide) (fun q => [(h0, .inr (15, [.ref h1, .ref h2, .ref h3, .ref h4, .ref h5, .ref h6, .ref h7, .ref h8, .ref h9, .ref h10, .ref h11, .ref h12, .ref h13, .ref h14, .ref h15, .ref h16, .ref h17, .ref h18, .long 0, .int 0, .int 2, .int 0, .int 0, .int 0, .int 1, .int 0, .int 0])), (h2, .inr (2, [.int 0, .ref g.1, .int 0])), (h10, .inl (cA 0, 512, .inl (upd (fun _ => 0) 0 1)))]) (fun _ => rfl) (fun q1 H locs hP hD hS => ?_)
  refine W.eq (g2 := F0 m 4 ls []) rfl ?_
  refine lv_aload_n hx hb dX12_orders_4 rfl (lv_at hl 0 rfl) ?_
  refine lv_aload_n hx hb dX12_orders_5 rfl (lv_at hl 0 rfl) ?_
  refine k_get (ci := 15) (C := RX12) (T := TX12) (N := 27) (v := .ref h10) hx hb hG inX12 hown hK hP 0 rfl rfl 9 (by decide) gw1228 rfl dX12_orders_6 ?_
  refine lv_iconst (v := 0) hx hb dX12_orders_9 (by decide) ?_
  refine k_iald (v := 1) hx hb hK hP 2 rfl 0 (by decide) rfl (by unfold vp_in; decide) dX12_orders_10 ?_
  refine ct_V (wr := [(h2, .inr (2, [.int 0, .ref g.1, .int 0])), (h10, .inl (cA 0, 512, .inl (upd (fun _ => 0) 0 1)))]) hSF hl.1 hP hD hS hA hK hGV (c343_X12_tell l hfl D cA g h0 h1 h2 h3 h4 h5 h6 h7 h8 h9 h10 h11 h12 h13 h14 h15 h16 h17 h18) goV_X12_302 pd_X12_tell ⟨(Nat.le_of_ble_eq_true rfl), (Nat.le_of_ble_eq_true rfl)⟩ ⟨(Nat.le_of_ble_eq_true rfl), (Nat.le_of_ble_eq_true rfl)⟩ (va_recv hK hP (ci := 15) (q0 := 0) rfl rfl) dX12_orders_11 rfl (Nat.le_of_ble_eq_true rfl) [0] [1, 2] rfl (by decide) rfl (by decide) (by decide) (fun q => [(h2, .inr (2, [.int 0, .ref g.1, .int 0])), (h10, .inl (cA 0, 512, .inl (upd (fun _ => 0) 0 1))), (h0, .inr (15, [.ref h1, .ref h2, .ref h3, .ref h4, .ref h5, .ref h6, .ref h7, .ref h8, .ref h9, .ref h10, .ref h11, .ref h12, .ref h13, .ref h14, .ref h15, .ref h16, .ref h17, .ref h18, .long 0, .int 0, .int 2, .int 0, .int 0, .int 0, .int 1, .int 0, .int 0]))]) (fun _ => rfl) (fun q2 H locs hP hD hS => ?_)
  refine W.eq (g2 := F0 m 14 ls [.int 1]) rfl ?_
  exact e_i (fun _ => 0) hx hb hr hlocks rfl rfl (hP.sub [2, 0, 1] rfl) (hD.sub [2, 0, 1] (by decide) rfl) hS (Nat.le_of_ble_eq_true rfl) (Nat.le_of_ble_eq_true rfl) dX12_orders_14
set_option maxHeartbeats 4000000 in
set_option maxRecDepth 100000 in
theorem c345_X6_props (l : Launch) (hfl : l.stackTraces = false) (D : va_G) (cA : Nat → ClassId) (g : gv_T) (h0 h1 h2 h3 h4 h5 h6 h7 h8 h9 h10 h11 h12 h13 h14 h15 h16 h17 h18 h19 h20 : Nat) (p0 : Int32) (k0 : p0 < 0) : CX l yX6_props cX6_props 4 (some .int) (RM 7 1 6 116) D cA g [.ref h0, .int p0] [(h0, .inr (9, [.ref h1, .ref h2, .ref h3, .ref h4, .ref h5])), (h5, .inr (7, [.int 2, .int 0, .int 0, .int 0, .ref h6, .ref h7, .ref h8, .ref h9, .ref h10])), (h1, .inr (5, [.int 0, .int 0, .ref h11, .ref h12, .ref h13, .ref h14, .ref h15, .ref h16, .ref h17, .ref h18, .ref h19, .ref h20])), (h8, .inl (cA 0, 512, .inl (fun _ => 0))), (h9, .inl (cA 3, 512, .inl (fun _ => 0)))] "java/lang/IndexOutOfBoundsException" (fun q => [(h0, .inr (9, [.ref h1, .ref h2, .ref h3, .ref h4, .ref h5])), (h5, .inr (7, [.int 2, .int 1, .int 0, .int 0, .ref h6, .ref h7, .ref h8, .ref h9, .ref h10])), (h1, .inr (5, [.int 0, .int 0, .ref h11, .ref h12, .ref h13, .ref h14, .ref h15, .ref h16, .ref h17, .ref h18, .ref h19, .ref h20])), (h8, .inl (cA 0, 512, .inl (upd (fun _ => 0) 0 1))), (h9, .inl (cA 3, 512, .inl (upd (fun _ => 0) 0 1)))]) := by
  refine CX.of (by decide +kernel) (Nat.le_of_ble_eq_true rfl) ?_
  intro p e s m args below meth c A ls hx hb hr hml hown hG hlocks htab hA hS hP hK hD hGV hl
  have hown : s.vm.findClass RX6 = some m.cls := hown
  have hl : lv_has ls 4 [(0, .ref h0), (1, .int p0)] := hl
  have hSF : CF p m c cX6_props 4 s args RX6 := ⟨hx, hb, hml, hown, hG⟩
  refine lv_aload_n hx hb dX6_props_0 rfl (lv_at hl 0 rfl) ?_
  refine lv_iload_n hx hb dX6_props_1 rfl (lv_at hl 1 rfl) ?_
  refine cx_V (wr := []) hSF hl.1 hP hD hS hA hK hGV (c323_X6_checkPlaceInOrder l hfl D cA g h0 h1 h2 h3 h4 h5 h6 h7 h8 h9 h10 h11 h12 h13 h14 h15 h16 h17 h18 h19 h20 (p0) k0) goV_X6_241 pd_X6_checkPlaceInOrder ⟨(Nat.le_of_ble_eq_true rfl), (Nat.le_of_ble_eq_true rfl)⟩ ⟨(Nat.le_of_ble_eq_true rfl), (Nat.le_of_ble_eq_true rfl)⟩ (va_recv hK hP (ci := 9) (q0 := 0) rfl rfl) dX6_props_2 rfl (Nat.le_of_ble_eq_true rfl) [0, 1, 2, 3, 4] [] rfl (by decide) rfl (by decide) (by decide) (fun q => [(h0, .inr (9, [.ref h1, .ref h2, .ref h3, .ref h4, .ref h5])), (h5, .inr (7, [.int 2, .int 1, .int 0, .int 0, .ref h6, .ref h7, .ref h8, .ref h9, .ref h10])), (h1, .inr (5, [.int 0, .int 0, .ref h11, .ref h12, .ref h13, .ref h14, .ref h15, .ref h16, .ref h17, .ref h18, .ref h19, .ref h20])), (h8, .inl (cA 0, 512, .inl (upd (fun _ => 0) 0 1))), (h9, .inl (cA 3, 512, .inl (upd (fun _ => 0) 0 1)))]) (fun _ => rfl) (fun q1 H locs x9 ce9 hP hD hS h9 hv9 hcl9 => ?_)
  exact e_out (fun _ => 0) htab hlocks h9 hv9 hcl9 hP hD hS (Nat.le_of_ble_eq_true rfl) (Nat.le_of_ble_eq_true rfl)
set_option maxHeartbeats 4000000 in
set_option maxRecDepth 100000 in
theorem c346_L_props (l : Launch) (hfl : l.stackTraces = false) (D : va_G) (cA : Nat → ClassId) (g : gv_T) (h0 h1 h2 h3 h4 h5 h6 h7 h8 h9 h10 h11 h12 h13 h14 h15 h16 h17 h18 h19 h20 h21 : Nat) (p0 : Int32) (k0 : p0 < 0) : CW l yL_props cL_props 4 (some .int) [(0, 9, 12, 46), (0, 9, 15, 21)] (RM 8 1 6 139) D cA g [.ref h0, .int p0, .ref h1] [(h0, .inr (9, [.ref h2, .ref h3, .ref h4, .ref h5, .ref h6])), (h6, .inr (7, [.int 2, .int 0, .int 0, .int 0, .ref h7, .ref h8, .ref h9, .ref h10, .ref h11])), (h2, .inr (5, [.int 0, .int 0, .ref h12, .ref h13, .ref h14, .ref h15, .ref h16, .ref h17, .ref h18, .ref h19, .ref h20, .ref h21])), (h9, .inl (cA 0, 512, .inl (fun _ => 0))), (h10, .inl (cA 3, 512, .inl (fun _ => 0)))] (fun q => some (.int 2)) (fun q => [(h0, .inr (9, [.ref h2, .ref h3, .ref h4, .ref h5, .ref h6])), (h6, .inr (7, [.int 2, .int 1, .int 0, .int 0, .ref h7, .ref h8, .ref h9, .ref h10, .ref h11])), (h2, .inr (5, [.int 0, .int 0, .ref h12, .ref h13, .ref h14, .ref h15, .ref h16, .ref h17, .ref h18, .ref h19, .ref h20, .ref h21])), (h9, .inl (cA 0, 512, .inl (upd (fun _ => 0) 0 1))), (h10, .inl (cA 3, 512, .inl (upd (fun _ => 0) 0 1)))]) := by
  refine CW.of (by decide +kernel) (Nat.le_of_ble_eq_true rfl) ?_
  intro p e s m args below meth c A ls hx hb hr hml hown hG hlocks htab hA hS hP hK hD hGV hl
  have hown : s.vm.findClass RL = some m.cls := hown
  have hl : lv_has ls 4 [(0, .ref h0), (1, .int p0), (2, .ref h1)] := hl
  have hSF : CF p m c cL_props 4 s args RL := ⟨hx, hb, hml, hown, hG⟩
  refine lv_aload_n hx hb dL_props_0 rfl (lv_at hl 2 rfl) ?_
  refine lv_iconst (v := 0) hx hb dL_props_1 (by decide) ?_
  refine lv_aload_n hx hb dL_props_2 rfl (lv_at hl 0 rfl) ?_
  refine lv_iload_n hx hb dL_props_3 rfl (lv_at hl 1 rfl) ?_
  refine cx_V (wr := []) hSF hl.1 hP hD hS hA hK hGV (c345_X6_props l hfl D cA g h0 h2 h3 h4 h5 h6 h7 h8 h9 h10 h11 h12 h13 h14 h15 h16 h17 h18 h19 h20 h21 (p0) k0) goV_L_95 pd_X6_props ⟨(Nat.le_of_ble_eq_true rfl), (Nat.le_of_ble_eq_true rfl)⟩ ⟨(Nat.le_of_ble_eq_true rfl), (Nat.le_of_ble_eq_true rfl)⟩ (va_recv hK hP (ci := 9) (q0 := 0) rfl rfl) dL_props_4 rfl (Nat.le_of_ble_eq_true rfl) [0, 1, 2, 3, 4] [] rfl (by decide) rfl (by decide) (by decide) (fun q => [(h0, .inr (9, [.ref h2, .ref h3, .ref h4, .ref h5, .ref h6])), (h6, .inr (7, [.int 2, .int 1, .int 0, .int 0, .ref h7, .ref h8, .ref h9, .ref h10, .ref h11])), (h2, .inr (5, [.int 0, .int 0, .ref h12, .ref h13, .ref h14, .ref h15, .ref h16, .ref h17, .ref h18, .ref h19, .ref h20, .ref h21])), (h9, .inl (cA 0, 512, .inl (upd (fun _ => 0) 0 1))), (h10, .inl (cA 3, 512, .inl (upd (fun _ => 0) 0 1)))]) (fun _ => rfl) (fun q1 H locs x9 ce9 hP hD hS h9 hv9 hcl9 => ?_)
  refine vx_catch (own := RL) (name := "java/lang/IndexOutOfBoundsException") hown [{ startPc := 0, endPc := 9, handlerPc := 12, catchType := 46 }] { startPc := 0, endPc := 9, handlerPc := 15, catchType := 21 } [] (htab.trans rfl) (fun z hz => by rcases List.mem_singleton.mp hz with rfl; exact Or.inr ⟨by decide, "java/util/NoSuchElementException", hG _ gw886, hGV.2.2.2.2.2.1 ("java/lang/IndexOutOfBoundsException", "java/util/NoSuchElementException") (by decide)⟩) rfl (by decide) (hG _ gw763) (va_Nw.use rfl (hGV.2.2.2.2.1 _ gw797)) h9 hv9 hcl9 ?_
  refine W.eq (g2 := F0 m 15 ls [.ref x9]) rfl ?_
  refine lv_astore_n (lv' := [(3, .ref x9), (0, .ref h0), (1, .int p0), (2, .ref h1)]) hx hb dL_props_15 rfl hl (by decide) rfl (fun ls hl => ?_)
  refine lv_iconst (v := 2) hx hb dL_props_16 (by decide) ?_
  exact e_i (fun _ => 0) hx hb hr hlocks rfl rfl hP hD hS (Nat.le_of_ble_eq_true rfl) (Nat.le_of_ble_eq_true rfl) dL_props_17
set_option maxHeartbeats 4000000 in
set_option maxRecDepth 100000 in
theorem c347_X12_props (l : Launch) (hfl : l.stackTraces = false) (D : va_G) (cA : Nat → ClassId) (g : gv_T) (h0 h1 h2 h3 h4 h5 h6 h7 h8 h9 h10 h11 h12 h13 h14 h15 h16 h17 h18 : Nat) (p0 : Int32) (k0 : (lg_cmp p0.toInt64 0) < 0) : CT l yX12_props cX12_props 4 (some .int) (RM 3 0 0 64) D cA g [.ref h0, .int p0] [(h0, .inr (15, [.ref h1, .ref h2, .ref h3, .ref h4, .ref h5, .ref h6, .ref h7, .ref h8, .ref h9, .ref h10, .ref h11, .ref h12, .ref h13, .ref h14, .ref h15, .ref h16, .ref h17, .ref h18, .long 0, .int 0, .int 2, .int 0, .int 0, .int 0, .int 0, .int 0, .int 0])), (h2, .inr (2, [.int 0, .ref g.1, .int 0])), (h10, .inl (cA 0, 512, .inl (fun _ => 0)))] (fun q => some (.int 0)) (fun q => [(h0, .inr (15, [.ref h1, .ref h2, .ref h3, .ref h4, .ref h5, .ref h6, .ref h7, .ref h8, .ref h9, .ref h10, .ref h11, .ref h12, .ref h13, .ref h14, .ref h15, .ref h16, .ref h17, .ref h18, .long 0, .int 2, .int 2, .int 0, .int 0, .int 0, .int 1, .int 0, .int 0])), (h2, .inr (2, [.int 0, .ref g.1, .int 0])), (h10, .inl (cA 0, 512, .inl (upd (fun _ => 0) 0 1)))]) := by
  refine CT.of (by decide +kernel) (Nat.le_of_ble_eq_true rfl) ?_
  intro p e s m args below meth c A ls hx hb hr hml hown hG hlocks hnm hA hS hP hK hD hGV hl
  have hown : s.vm.findClass RX12 = some m.cls := hown
  have hl : lv_has ls 4 [(0, .ref h0), (1, .int p0)] := hl
  have hSF : CF p m c cX12_props 4 s args RX12 := ⟨hx, hb, hml, hown, hG⟩
  refine lv_aload_n hx hb dX12_props_0 rfl (lv_at hl 0 rfl) ?_
  refine ct_V (wr := []) hSF hl.1 hP hD hS hA hK hGV (c327_X12_hasOrder l hfl D cA g h0 h1 h2 h3 h4 h5 h6 h7 h8 h9 h10 h11 h12 h13 h14 h15 h16 h17 h18) goV_X12_395 pd_X12_hasOrder ⟨(Nat.le_of_ble_eq_true rfl), (Nat.le_of_ble_eq_true rfl)⟩ ⟨(Nat.le_of_ble_eq_true rfl), (Nat.le_of_ble_eq_true rfl)⟩ (va_recv hK hP (ci := 15) (q0 := 0) rfl rfl) dX12_props_1 rfl (Nat.le_of_ble_eq_true rfl) [0, 1, 2] [] rfl (by decide) rfl (by decide) (by decide) (fun q => [(h0, .inr (15, [.ref h1, .ref h2, .ref h3, .ref h4, .ref h5, .ref h6, .ref h7, .ref h8, .ref h9, .ref h10, .ref h11, .ref h12, .ref h13, .ref h14, .ref h15, .ref h16, .ref h17, .ref h18, .long 0, .int 0, .int 2, .int 0, .int 0, .int 0, .int 1, .int 0, .int 0])), (h2, .inr (2, [.int 0, .ref g.1, .int 0])), (h10, .inl (cA 0, 512, .inl (upd (fun _ => 0) 0 1)))]) (fun _ => rfl) (fun q1 H locs hP hD hS => ?_)
  refine W.eq (g2 := F0 m 4 ls [.int 1]) rfl ?_
  refine k_if_ne_t (tgt := 13) hx hb dX12_props_4 (by decide) (by decide) ?_
  refine lv_iload_n hx hb dX12_props_13 rfl (lv_at hl 1 rfl) ?_
  refine lv_i2l (v := p0.toInt64) hx hb dX12_props_14 rfl ?_
  refine lv_iconst (v := 0) hx hb dX12_props_15 (by decide) ?_
  refine lv_aload_n hx hb dX12_props_16 rfl (lv_at hl 0 rfl) ?_
  refine k_get (ci := 15) (C := RX12) (T := TX12) (N := 27) (v := .ref h2) hx hb hG inX12 hown hK hP 0 rfl rfl 1 (by decide) gw1220 rfl dX12_props_17 ?_
  refine ct_V (wr := [(h0, .inr (15, [.ref h1, .ref h2, .ref h3, .ref h4, .ref h5, .ref h6, .ref h7, .ref h8, .ref h9, .ref h10, .ref h11, .ref h12, .ref h13, .ref h14, .ref h15, .ref h16, .ref h17, .ref h18, .long 0, .int 0, .int 2, .int 0, .int 0, .int 0, .int 1, .int 0, .int 0])), (h10, .inl (cA 0, 512, .inl (upd (fun _ => 0) 0 1)))]) hSF hl.1 hP hD hS hA hK hGV (c56_Jx4a65c_size_8abf5 l hfl D cA g h2) goV_X12_125 pd_Jx4a65c_size_8abf5 ⟨(Nat.le_of_ble_eq_true rfl), (Nat.le_of_ble_eq_true rfl)⟩ ⟨(Nat.le_of_ble_eq_true rfl), (Nat.le_of_ble_eq_true rfl)⟩ (va_recv hK hP (ci := 2) (q0 := 1) rfl rfl) dX12_props_20 rfl (Nat.le_of_ble_eq_true rfl) [1] [0, 2] rfl (by decide) rfl (by decide) (by decide) (fun q => [(h0, .inr (15, [.ref h1, .ref h2, .ref h3, .ref h4, .ref h5, .ref h6, .ref h7, .ref h8, .ref h9, .ref h10, .ref h11, .ref h12, .ref h13, .ref h14, .ref h15, .ref h16, .ref h17, .ref h18, .long 0, .int 0, .int 2, .int 0, .int 0, .int 0, .int 1, .int 0, .int 0])), (h10, .inl (cA 0, 512, .inl (upd (fun _ => 0) 0 1))), (h2, .inr (2, [.int 0, .ref g.1, .int 0]))]) (fun _ => rfl) (fun q2 H locs hP hD hS => ?_)
  refine W.eq (g2 := F0 m 23 ls [.int 0, .int 0, .long (p0.toInt64)]) rfl ?_
  refine lv_iconst (v := 1) hx hb dX12_props_23 (by decide) ?_
  refine k_isub (v := (-1)) hx hb dX12_props_24 (by decide) ?_
  refine ct_S (wr := [(h0, .inr (15, [.ref h1, .ref h2, .ref h3, .ref h4, .ref h5, .ref h6, .ref h7, .ref h8, .ref h9, .ref h10, .ref h11, .ref h12, .ref h13, .ref h14, .ref h15, .ref h16, .ref h17, .ref h18, .long 0, .int 0, .int 2, .int 0, .int 0, .int 0, .int 1, .int 0, .int 0])), (h10, .inl (cA 0, 512, .inl (upd (fun _ => 0) 0 1))), (h2, .inr (2, [.int 0, .ref g.1, .int 0]))]) hSF hl.1 hP hD hS hA hK hGV (c94_X12_in l hfl D cA g (p0.toInt64) k0) goS_X12_285 pd_X12_in.2 ⟨(Nat.le_of_ble_eq_true rfl), (Nat.le_of_ble_eq_true rfl)⟩ ⟨(Nat.le_of_ble_eq_true rfl), (Nat.le_of_ble_eq_true rfl)⟩ dX12_props_25 rfl (Nat.le_of_ble_eq_true rfl) [] [0, 1, 2] rfl (by decide) rfl (by decide) (by decide) (fun q => [(h0, .inr (15, [.ref h1, .ref h2, .ref h3, .ref h4, .ref h5, .ref h6, .ref h7, .ref h8, .ref h9, .ref h10, .ref h11, .ref h12, .ref h13, .ref h14, .ref h15, .ref h16, .ref h17, .ref h18, .long 0, .int 0, .int 2, .int 0, .int 0, .int 0, .int 1, .int 0, .int 0])), (h10, .inl (cA 0, 512, .inl (upd (fun _ => 0) 0 1))), (h2, .inr (2, [.int 0, .ref g.1, .int 0]))]) (fun _ => rfl) (fun q3 H locs hP hD hS => ?_)
  refine W.eq (g2 := F0 m 28 ls [.int 0]) rfl ?_
  refine k_if_ne_f (tgt := 37) hx hb dX12_props_28 (by decide) (by decide) ?_
  refine lv_aload_n hx hb dX12_props_31 rfl (lv_at hl 0 rfl) ?_
  refine lv_iconst (v := 2) hx hb dX12_props_32 (by decide) ?_
  refine ct_V (wr := [(h10, .inl (cA 0, 512, .inl (upd (fun _ => 0) 0 1))), (h2, .inr (2, [.int 0, .ref g.1, .int 0]))]) hSF hl.1 hP hD hS hA hK hGV (c328_X12_fails l hfl D cA g h0 h1 h2 h3 h4 h5 h6 h7 h8 h9 h10 h11 h12 h13 h14 h15 h16 h17 h18) goV_X12_289 pd_X12_fails ⟨(Nat.le_of_ble_eq_true rfl), (Nat.le_of_ble_eq_true rfl)⟩ ⟨(Nat.le_of_ble_eq_true rfl), (Nat.le_of_ble_eq_true rfl)⟩ (va_recv hK hP (ci := 15) (q0 := 0) rfl rfl) dX12_props_33 rfl (Nat.le_of_ble_eq_true rfl) [0] [1, 2] rfl (by decide) rfl (by decide) (by decide) (fun q => [(h10, .inl (cA 0, 512, .inl (upd (fun _ => 0) 0 1))), (h2, .inr (2, [.int 0, .ref g.1, .int 0])), (h0, .inr (15, [.ref h1, .ref h2, .ref h3, .ref h4, .ref h5, .ref h6, .ref h7, .ref h8, .ref h9, .ref h10, .ref h11, .ref h12, .ref h13, .ref h14, .ref h15, .ref h16, .ref h17, .ref h18, .long 0, .int 2, .int 2, .int 0, .int 0, .int 0, .int 1, .int 0, .int 0]))]) (fun _ => rfl) (fun q4 H locs hP hD hS => ?_)
  refine W.eq (g2 := F0 m 36 ls [.int 0]) rfl ?_
  exact e_i (fun _ => 0) hx hb hr hlocks rfl rfl (hP.sub [2, 1, 0] rfl) (hD.sub [2, 1, 0] (by decide) rfl) hS (Nat.le_of_ble_eq_true rfl) (Nat.le_of_ble_eq_true rfl) dX12_props_36
set_option maxHeartbeats 4000000 in
set_option maxRecDepth 100000 in
theorem c348_X6_props (l : Launch) (hfl : l.stackTraces = false) (D : va_G) (cA : Nat → ClassId) (g : gv_T) (h0 h1 h2 h3 h4 h5 h6 h7 h8 h9 h10 h11 h12 h13 h14 h15 h16 h17 h18 h19 h20 : Nat) (p0 : Int32) (k0 : ¬ p0 < 0) : CX l yX6_props cX6_props 4 (some .int) (RM 7 1 6 116) D cA g [.ref h0, .int p0] [(h0, .inr (9, [.ref h1, .ref h2, .ref h3, .ref h4, .ref h5])), (h5, .inr (7, [.int 2, .int 0, .int 0, .int 0, .ref h6, .ref h7, .ref h8, .ref h9, .ref h10])), (h1, .inr (5, [.int 0, .int 0, .ref h11, .ref h12, .ref h13, .ref h14, .ref h15, .ref h16, .ref h17, .ref h18, .ref h19, .ref h20])), (h8, .inl (cA 0, 512, .inl (fun _ => 0))), (h9, .inl (cA 3, 512, .inl (fun _ => 0)))] "java/lang/IndexOutOfBoundsException" (fun q => [(h0, .inr (9, [.ref h1, .ref h2, .ref h3, .ref h4, .ref h5])), (h5, .inr (7, [.int 2, .int 1, .int 0, .int 0, .ref h6, .ref h7, .ref h8, .ref h9, .ref h10])), (h1, .inr (5, [.int 0, .int 0, .ref h11, .ref h12, .ref h13, .ref h14, .ref h15, .ref h16, .ref h17, .ref h18, .ref h19, .ref h20])), (h8, .inl (cA 0, 512, .inl (upd (fun _ => 0) 0 1))), (h9, .inl (cA 3, 512, .inl (upd (fun _ => 0) 0 1)))]) := by
  refine CX.of (by decide +kernel) (Nat.le_of_ble_eq_true rfl) ?_
  intro p e s m args below meth c A ls hx hb hr hml hown hG hlocks htab hA hS hP hK hD hGV hl
  have hown : s.vm.findClass RX6 = some m.cls := hown
  have hl : lv_has ls 4 [(0, .ref h0), (1, .int p0)] := hl
  have hSF : CF p m c cX6_props 4 s args RX6 := ⟨hx, hb, hml, hown, hG⟩
  refine lv_aload_n hx hb dX6_props_0 rfl (lv_at hl 0 rfl) ?_
  refine lv_iload_n hx hb dX6_props_1 rfl (lv_at hl 1 rfl) ?_
  refine cx_V (wr := []) hSF hl.1 hP hD hS hA hK hGV (c331_X6_checkPlaceInOrder l hfl D cA g h0 h1 h2 h3 h4 h5 h6 h7 h8 h9 h10 h11 h12 h13 h14 h15 h16 h17 h18 h19 h20 (p0) k0) goV_X6_241 pd_X6_checkPlaceInOrder ⟨(Nat.le_of_ble_eq_true rfl), (Nat.le_of_ble_eq_true rfl)⟩ ⟨(Nat.le_of_ble_eq_true rfl), (Nat.le_of_ble_eq_true rfl)⟩ (va_recv hK hP (ci := 9) (q0 := 0) rfl rfl) dX6_props_2 rfl (Nat.le_of_ble_eq_true rfl) [0, 1, 2, 3, 4] [] rfl (by decide) rfl (by decide) (by decide) (fun q => [(h0, .inr (9, [.ref h1, .ref h2, .ref h3, .ref h4, .ref h5])), (h5, .inr (7, [.int 2, .int 1, .int 0, .int 0, .ref h6, .ref h7, .ref h8, .ref h9, .ref h10])), (h1, .inr (5, [.int 0, .int 0, .ref h11, .ref h12, .ref h13, .ref h14, .ref h15, .ref h16, .ref h17, .ref h18, .ref h19, .ref h20])), (h8, .inl (cA 0, 512, .inl (upd (fun _ => 0) 0 1))), (h9, .inl (cA 3, 512, .inl (upd (fun _ => 0) 0 1)))]) (fun _ => rfl) (fun q1 H locs x9 ce9 hP hD hS h9 hv9 hcl9 => ?_)
  exact e_out (fun _ => 0) htab hlocks h9 hv9 hcl9 hP hD hS (Nat.le_of_ble_eq_true rfl) (Nat.le_of_ble_eq_true rfl)
set_option maxHeartbeats 4000000 in
set_option maxRecDepth 100000 in
theorem c349_L_props (l : Launch) (hfl : l.stackTraces = false) (D : va_G) (cA : Nat → ClassId) (g : gv_T) (h0 h1 h2 h3 h4 h5 h6 h7 h8 h9 h10 h11 h12 h13 h14 h15 h16 h17 h18 h19 h20 h21 : Nat) (p0 : Int32) (k0 : ¬ p0 < 0) : CW l yL_props cL_props 4 (some .int) [(0, 9, 12, 46), (0, 9, 15, 21)] (RM 8 1 6 139) D cA g [.ref h0, .int p0, .ref h1] [(h0, .inr (9, [.ref h2, .ref h3, .ref h4, .ref h5, .ref h6])), (h6, .inr (7, [.int 2, .int 0, .int 0, .int 0, .ref h7, .ref h8, .ref h9, .ref h10, .ref h11])), (h2, .inr (5, [.int 0, .int 0, .ref h12, .ref h13, .ref h14, .ref h15, .ref h16, .ref h17, .ref h18, .ref h19, .ref h20, .ref h21])), (h9, .inl (cA 0, 512, .inl (fun _ => 0))), (h10, .inl (cA 3, 512, .inl (fun _ => 0)))] (fun q => some (.int 2)) (fun q => [(h0, .inr (9, [.ref h2, .ref h3, .ref h4, .ref h5, .ref h6])), (h6, .inr (7, [.int 2, .int 1, .int 0, .int 0, .ref h7, .ref h8, .ref h9, .ref h10, .ref h11])), (h2, .inr (5, [.int 0, .int 0, .ref h12, .ref h13, .ref h14, .ref h15, .ref h16, .ref h17, .ref h18, .ref h19, .ref h20, .ref h21])), (h9, .inl (cA 0, 512, .inl (upd (fun _ => 0) 0 1))), (h10, .inl (cA 3, 512, .inl (upd (fun _ => 0) 0 1)))]) := by
  refine CW.of (by decide +kernel) (Nat.le_of_ble_eq_true rfl) ?_
  intro p e s m args below meth c A ls hx hb hr hml hown hG hlocks htab hA hS hP hK hD hGV hl
  have hown : s.vm.findClass RL = some m.cls := hown
  have hl : lv_has ls 4 [(0, .ref h0), (1, .int p0), (2, .ref h1)] := hl
  have hSF : CF p m c cL_props 4 s args RL := ⟨hx, hb, hml, hown, hG⟩
  refine lv_aload_n hx hb dL_props_0 rfl (lv_at hl 2 rfl) ?_
  refine lv_iconst (v := 0) hx hb dL_props_1 (by decide) ?_
  refine lv_aload_n hx hb dL_props_2 rfl (lv_at hl 0 rfl) ?_
  refine lv_iload_n hx hb dL_props_3 rfl (lv_at hl 1 rfl) ?_
  refine cx_V (wr := []) hSF hl.1 hP hD hS hA hK hGV (c348_X6_props l hfl D cA g h0 h2 h3 h4 h5 h6 h7 h8 h9 h10 h11 h12 h13 h14 h15 h16 h17 h18 h19 h20 h21 (p0) k0) goV_L_95 pd_X6_props ⟨(Nat.le_of_ble_eq_true rfl), (Nat.le_of_ble_eq_true rfl)⟩ ⟨(Nat.le_of_ble_eq_true rfl), (Nat.le_of_ble_eq_true rfl)⟩ (va_recv hK hP (ci := 9) (q0 := 0) rfl rfl) dL_props_4 rfl (Nat.le_of_ble_eq_true rfl) [0, 1, 2, 3, 4] [] rfl (by decide) rfl (by decide) (by decide) (fun q => [(h0, .inr (9, [.ref h2, .ref h3, .ref h4, .ref h5, .ref h6])), (h6, .inr (7, [.int 2, .int 1, .int 0, .int 0, .ref h7, .ref h8, .ref h9, .ref h10, .ref h11])), (h2, .inr (5, [.int 0, .int 0, .ref h12, .ref h13, .ref h14, .ref h15, .ref h16, .ref h17, .ref h18, .ref h19, .ref h20, .ref h21])), (h9, .inl (cA 0, 512, .inl (upd (fun _ => 0) 0 1))), (h10, .inl (cA 3, 512, .inl (upd (fun _ => 0) 0 1)))]) (fun _ => rfl) (fun q1 H locs x9 ce9 hP hD hS h9 hv9 hcl9 => ?_)
  refine vx_catch (own := RL) (name := "java/lang/IndexOutOfBoundsException") hown [{ startPc := 0, endPc := 9, handlerPc := 12, catchType := 46 }] { startPc := 0, endPc := 9, handlerPc := 15, catchType := 21 } [] (htab.trans rfl) (fun z hz => by rcases List.mem_singleton.mp hz with rfl; exact Or.inr ⟨by decide, "java/util/NoSuchElementException", hG _ gw886, hGV.2.2.2.2.2.1 ("java/lang/IndexOutOfBoundsException", "java/util/NoSuchElementException") (by decide)⟩) rfl (by decide) (hG _ gw763) (va_Nw.use rfl (hGV.2.2.2.2.1 _ gw797)) h9 hv9 hcl9 ?_
  refine W.eq (g2 := F0 m 15 ls [.ref x9]) rfl ?_
  refine lv_astore_n (lv' := [(3, .ref x9), (0, .ref h0), (1, .int p0), (2, .ref h1)]) hx hb dL_props_15 rfl hl (by decide) rfl (fun ls hl => ?_)
  refine lv_iconst (v := 2) hx hb dL_props_16 (by decide) ?_
  exact e_i (fun _ => 0) hx hb hr hlocks rfl rfl hP hD hS (Nat.le_of_ble_eq_true rfl) (Nat.le_of_ble_eq_true rfl) dL_props_17
set_option maxHeartbeats 4000000 in
set_option maxRecDepth 100000 in
theorem c350_X12_props (l : Launch) (hfl : l.stackTraces = false) (D : va_G) (cA : Nat → ClassId) (g : gv_T) (h0 h1 h2 h3 h4 h5 h6 h7 h8 h9 h10 h11 h12 h13 h14 h15 h16 h17 h18 : Nat) (p0 : Int32) (k0 : ¬ (lg_cmp p0.toInt64 0) < 0) (k1 : 0 < (lg_cmp p0.toInt64 (-1))) : CT l yX12_props cX12_props 4 (some .int) (RM 3 0 0 64) D cA g [.ref h0, .int p0] [(h0, .inr (15, [.ref h1, .ref h2, .ref h3, .ref h4, .ref h5, .ref h6, .ref h7, .ref h8, .ref h9, .ref h10, .ref h11, .ref h12, .ref h13, .ref h14, .ref h15, .ref h16, .ref h17, .ref h18, .long 0, .int 0, .int 2, .int 0, .int 0, .int 0, .int 0, .int 0, .int 0])), (h2, .inr (2, [.int 0, .ref g.1, .int 0])), (h10, .inl (cA 0, 512, .inl (fun _ => 0)))] (fun q => some (.int 0)) (fun q => [(h0, .inr (15, [.ref h1, .ref h2, .ref h3, .ref h4, .ref h5, .ref h6, .ref h7, .ref h8, .ref h9, .ref h10, .ref h11, .ref h12, .ref h13, .ref h14, .ref h15, .ref h16, .ref h17, .ref h18, .long 0, .int 2, .int 2, .int 0, .int 0, .int 0, .int 1, .int 0, .int 0])), (h2, .inr (2, [.int 0, .ref g.1, .int 0])), (h10, .inl (cA 0, 512, .inl (upd (fun _ => 0) 0 1)))]) := by
  refine CT.of (by decide +kernel) (Nat.le_of_ble_eq_true rfl) ?_
  intro p e s m args below meth c A ls hx hb hr hml hown hG hlocks hnm hA hS hP hK hD hGV hl
  have hown : s.vm.findClass RX12 = some m.cls := hown
  have hl : lv_has ls 4 [(0, .ref h0), (1, .int p0)] := hl
  have hSF : CF p m c cX12_props 4 s args RX12 := ⟨hx, hb, hml, hown, hG⟩
  refine lv_aload_n hx hb dX12_props_0 rfl (lv_at hl 0 rfl) ?_
  refine ct_V (wr := []) hSF hl.1 hP hD hS hA hK hGV (c327_X12_hasOrder l hfl D cA g h0 h1 h2 h3 h4 h5 h6 h7 h8 h9 h10 h11 h12 h13 h14 h15 h16 h17 h18) goV_X12_395 pd_X12_hasOrder ⟨(Nat.le_of_ble_eq_true rfl), (Nat.le_of_ble_eq_true rfl)⟩ ⟨(Nat.le_of_ble_eq_true rfl), (Nat.le_of_ble_eq_true rfl)⟩ (va_recv hK hP (ci := 15) (q0 := 0) rfl rfl) dX12_props_1 rfl (Nat.le_of_ble_eq_true rfl) [0, 1, 2] [] rfl (by decide) rfl (by decide) (by decide) (fun q => [(h0, .inr (15, [.ref h1, .ref h2, .ref h3, .ref h4, .ref h5, .ref h6, .ref h7, .ref h8, .ref h9, .ref h10, .ref h11, .ref h12, .ref h13, .ref h14, .ref h15, .ref h16, .ref h17, .ref h18, .long 0, .int 0, .int 2, .int 0, .int 0, .int 0, .int 1, .int 0, .int 0])), (h2, .inr (2, [.int 0, .ref g.1, .int 0])), (h10, .inl (cA 0, 512, .inl (upd (fun _ => 0) 0 1)))]) (fun _ => rfl) (fun q1 H locs hP hD hS => ?_)
  refine W.eq (g2 := F0 m 4 ls [.int 1]) rfl ?_
  refine k_if_ne_t (tgt := 13) hx hb dX12_props_4 (by decide) (by decide) ?_
  refine lv_iload_n hx hb dX12_props_13 rfl (lv_at hl 1 rfl) ?_
  refine lv_i2l (v := p0.toInt64) hx hb dX12_props_14 rfl ?_
  refine lv_iconst (v := 0) hx hb dX12_props_15 (by decide) ?_
  refine lv_aload_n hx hb dX12_props_16 rfl (lv_at hl 0 rfl) ?_
  refine k_get (ci := 15) (C := RX12) (T := TX12) (N := 27) (v := .ref h2) hx hb hG inX12 hown hK hP 0 rfl rfl 1 (by decide) gw1220 rfl dX12_props_17 ?_
  refine ct_V (wr := [(h0, .inr (15, [.ref h1, .ref h2, .ref h3, .ref h4, .ref h5, .ref h6, .ref h7, .ref h8, .ref h9, .ref h10, .ref h11, .ref h12, .ref h13, .ref h14, .ref h15, .ref h16, .ref h17, .ref h18, .long 0, .int 0, .int 2, .int 0, .int 0, .int 0, .int 1, .int 0, .int 0])), (h10, .inl (cA 0, 512, .inl (upd (fun _ => 0) 0 1)))]) hSF hl.1 hP hD hS hA hK hGV (c56_Jx4a65c_size_8abf5 l hfl D cA g h2) goV_X12_125 pd_Jx4a65c_size_8abf5 ⟨(Nat.le_of_ble_eq_true rfl), (Nat.le_of_ble_eq_true rfl)⟩ ⟨(Nat.le_of_ble_eq_true rfl), (Nat.le_of_ble_eq_true rfl)⟩ (va_recv hK hP (ci := 2) (q0 := 1) rfl rfl) dX12_props_20 rfl (Nat.le_of_ble_eq_true rfl) [1] [0, 2] rfl (by decide) rfl (by decide) (by decide) (fun q => [(h0, .inr (15, [.ref h1, .ref h2, .ref h3, .ref h4, .ref h5, .ref h6, .ref h7, .ref h8, .ref h9, .ref h10, .ref h11, .ref h12, .ref h13, .ref h14, .ref h15, .ref h16, .ref h17, .ref h18, .long 0, .int 0, .int 2, .int 0, .int 0, .int 0, .int 1, .int 0, .int 0])), (h10, .inl (cA 0, 512, .inl (upd (fun _ => 0) 0 1))), (h2, .inr (2, [.int 0, .ref g.1, .int 0]))]) (fun _ => rfl) (fun q2 H locs hP hD hS => ?_)
  refine W.eq (g2 := F0 m 23 ls [.int 0, .int 0, .long (p0.toInt64)]) rfl ?_
  refine lv_iconst (v := 1) hx hb dX12_props_23 (by decide) ?_
  refine k_isub (v := (-1)) hx hb dX12_props_24 (by decide) ?_
  refine ct_S (wr := [(h0, .inr (15, [.ref h1, .ref h2, .ref h3, .ref h4, .ref h5, .ref h6, .ref h7, .ref h8, .ref h9, .ref h10, .ref h11, .ref h12, .ref h13, .ref h14, .ref h15, .ref h16, .ref h17, .ref h18, .long 0, .int 0, .int 2, .int 0, .int 0, .int 0, .int 1, .int 0, .int 0])), (h10, .inl (cA 0, 512, .inl (upd (fun _ => 0) 0 1))), (h2, .inr (2, [.int 0, .ref g.1, .int 0]))]) hSF hl.1 hP hD hS hA hK hGV (c100_X12_in l hfl D cA g (p0.toInt64) k0 k1) goS_X12_285 pd_X12_in.2 ⟨(Nat.le_of_ble_eq_true rfl), (Nat.le_of_ble_eq_true rfl)⟩ ⟨(Nat.le_of_ble_eq_true rfl), (Nat.le_of_ble_eq_true rfl)⟩ dX12_props_25 rfl (Nat.le_of_ble_eq_true rfl) [] [0, 1, 2] rfl (by decide) rfl (by decide) (by decide) (fun q => [(h0, .inr (15, [.ref h1, .ref h2, .ref h3, .ref h4, .ref h5, .ref h6, .ref h7, .ref h8, .ref h9, .ref h10, .ref h11, .ref h12, .ref h13, .ref h14, .ref h15, .ref h16, .ref h17, .ref h18, .long 0, .int 0, .int 2, .int 0, .int 0, .int 0, .int 1, .int 0, .int 0])), (h10, .inl (cA 0, 512, .inl (upd (fun _ => 0) 0 1))), (h2, .inr (2, [.int 0, .ref g.1, .int 0]))]) (fun _ => rfl) (fun q3 H locs hP hD hS => ?_)
  refine W.eq (g2 := F0 m 28 ls [.int 0]) rfl ?_
  refine k_if_ne_f (tgt := 37) hx hb dX12_props_28 (by decide) (by decide) ?_
  refine lv_aload_n hx hb dX12_props_31 rfl (lv_at hl 0 rfl) ?_
  refine lv_iconst (v := 2) hx hb dX12_props_32 (by decide) ?_
  refine ct_V (wr := [(h10, .inl (cA 0, 512, .inl (upd (fun _ => 0) 0 1))), (h2, .inr (2, [.int 0, .ref g.1, .int 0]))]) hSF hl.1 hP hD hS hA hK hGV (c328_X12_fails l hfl D cA g h0 h1 h2 h3 h4 h5 h6 h7 h8 h9 h10 h11 h12 h13 h14 h15 h16 h17 h18) goV_X12_289 pd_X12_fails ⟨(Nat.le_of_ble_eq_true rfl), (Nat.le_of_ble_eq_true rfl)⟩ ⟨(Nat.le_of_ble_eq_true rfl), (Nat.le_of_ble_eq_true rfl)⟩ (va_recv hK hP (ci := 15) (q0 := 0) rfl rfl) dX12_props_33 rfl (Nat.le_of_ble_eq_true rfl) [0] [1, 2] rfl (by decide) rfl (by decide) (by decide) (fun q => [(h10, .inl (cA 0, 512, .inl (upd (fun _ => 0) 0 1))), (h2, .inr (2, [.int 0, .ref g.1, .int 0])), (h0, .inr (15, [.ref h1, .ref h2, .ref h3, .ref h4, .ref h5, .ref h6, .ref h7, .ref h8, .ref h9, .ref h10, .ref h11, .ref h12, .ref h13, .ref h14, .ref h15, .ref h16, .ref h17, .ref h18, .long 0, .int 2, .int 2, .int 0, .int 0, .int 0, .int 1, .int 0, .int 0]))]) (fun _ => rfl) (fun q4 H locs hP hD hS => ?_)
  refine W.eq (g2 := F0 m 36 ls [.int 0]) rfl ?_
  exact e_i (fun _ => 0) hx hb hr hlocks rfl rfl (hP.sub [2, 1, 0] rfl) (hD.sub [2, 1, 0] (by decide) rfl) hS (Nat.le_of_ble_eq_true rfl) (Nat.le_of_ble_eq_true rfl) dX12_props_36
set_option maxHeartbeats 4000000 in
set_option maxRecDepth 100000 in
theorem c351_X4_lowestStuck (l : Launch) (hfl : l.stackTraces = false) (D : va_G) (cA : Nat → ClassId) (g : gv_T) (h0 h1 h2 h3 h4 h5 : Nat) : CT l yX4_lowestStuck cX4_lowestStuck 3 (some .int) (RM 0 0 0 0) D cA g [.ref h0] [(h0, .inr (7, [.int 2, .int 1, .int 0, .int 0, .ref h1, .ref h2, .ref h3, .ref h4, .ref h5]))] (fun q => some (.int (-1))) (fun q => [(h0, .inr (7, [.int 2, .int 1, .int 0, .int 0, .ref h1, .ref h2, .ref h3, .ref h4, .ref h5]))]) := by
  refine CT.of (by decide +kernel) (Nat.le_of_ble_eq_true rfl) ?_
  intro p e s m args below meth c A ls hx hb hr hml hown hG hlocks hnm hA hS hP hK hD hGV hl
  have hown : s.vm.findClass RX4 = some m.cls := hown
  have hl : lv_has ls 3 [(0, .ref h0)] := hl
  have hSF : CF p m c cX4_lowestStuck 3 s args RX4 := ⟨hx, hb, hml, hown, hG⟩
  refine lv_iconst (v := 0) hx hb dX4_lowestStuck_0 (by decide) ?_
  refine lv_istore_n (lv' := [(1, .int 0), (0, .ref h0)]) hx hb dX4_lowestStuck_1 rfl hl (by decide) rfl (fun ls hl => ?_)
  refine lv_iload_n hx hb dX4_lowestStuck_2 rfl (lv_at hl 0 rfl) ?_
  refine lv_bipush (v := 9) hx hb dX4_lowestStuck_3 (by decide) ?_
  refine k_icmp_ge_f (tgt := 43) hx hb dX4_lowestStuck_5 (by decide) (by decide) ?_
  refine lv_iconst (v := 1) hx hb dX4_lowestStuck_8 (by decide) ?_
  refine lv_iload_n hx hb dX4_lowestStuck_9 rfl (lv_at hl 0 rfl) ?_
  refine k_ishl (v := 1) hx hb dX4_lowestStuck_10 (by decide) ?_
  refine lv_istore_n (lv' := [(2, .int 1), (1, .int 0), (0, .ref h0)]) hx hb dX4_lowestStuck_11 rfl hl (by decide) rfl (fun ls hl => ?_)
  refine lv_aload_n hx hb dX4_lowestStuck_12 rfl (lv_at hl 2 rfl) ?_
  refine k_get (ci := 7) (C := RX4) (T := TX4) (N := 9) (v := .int 0) hx hb hG inX4 hown hK hP 0 rfl rfl 2 (by decide) gw334 rfl dX4_lowestStuck_13 ?_
  refine lv_iload_n hx hb dX4_lowestStuck_16 rfl (lv_at hl 0 rfl) ?_
  refine k_iand (v := 0) hx hb dX4_lowestStuck_17 (by decide) ?_
  refine k_if_eq_t (tgt := 37) hx hb dX4_lowestStuck_18 (by decide) (by decide) ?_
  refine lv_iinc (v := 1) (lv' := [(1, .int 1), (2, .int 1), (0, .ref h0)]) hx hb dX4_lowestStuck_37 hl (k := 1) rfl (by decide) (by decide) rfl (fun ls hl => ?_)
  refine lv_goto (tgt := 2) hx hb dX4_lowestStuck_40 (by decide) ?_
  refine lv_iload_n hx hb dX4_lowestStuck_2 rfl (lv_at hl 0 rfl) ?_
  refine lv_bipush (v := 9) hx hb dX4_lowestStuck_3 (by decide) ?_
  refine k_icmp_ge_f (tgt := 43) hx hb dX4_lowestStuck_5 (by decide) (by decide) ?_
  refine lv_iconst (v := 1) hx hb dX4_lowestStuck_8 (by decide) ?_
  refine lv_iload_n hx hb dX4_lowestStuck_9 rfl (lv_at hl 0 rfl) ?_
  refine k_ishl (v := 2) hx hb dX4_lowestStuck_10 (by decide) ?_
  refine lv_istore_n (lv' := [(2, .int 2), (1, .int 1), (0, .ref h0)]) hx hb dX4_lowestStuck_11 rfl hl (by decide) rfl (fun ls hl => ?_)
  refine lv_aload_n hx hb dX4_lowestStuck_12 rfl (lv_at hl 2 rfl) ?_
  refine k_get (ci := 7) (C := RX4) (T := TX4) (N := 9) (v := .int 0) hx hb hG inX4 hown hK hP 0 rfl rfl 2 (by decide) gw334 rfl dX4_lowestStuck_13 ?_
  refine lv_iload_n hx hb dX4_lowestStuck_16 rfl (lv_at hl 0 rfl) ?_
  refine k_iand (v := 0) hx hb dX4_lowestStuck_17 (by decide) ?_
  refine k_if_eq_t (tgt := 37) hx hb dX4_lowestStuck_18 (by decide) (by decide) ?_
  refine lv_iinc (v := 2) (lv' := [(1, .int 2), (2, .int 2), (0, .ref h0)]) hx hb dX4_lowestStuck_37 hl (k := 1) rfl (by decide) (by decide) rfl (fun ls hl => ?_)
  refine lv_goto (tgt := 2) hx hb dX4_lowestStuck_40 (by decide) ?_
  refine lv_iload_n hx hb dX4_lowestStuck_2 rfl (lv_at hl 0 rfl) ?_
  refine lv_bipush (v := 9) hx hb dX4_lowestStuck_3 (by decide) ?_
  refine k_icmp_ge_f (tgt := 43) hx hb dX4_lowestStuck_5 (by decide) (by decide) ?_
  refine lv_iconst (v := 1) hx hb dX4_lowestStuck_8 (by decide) ?_
  refine lv_iload_n hx hb dX4_lowestStuck_9 rfl (lv_at hl 0 rfl) ?_
  refine k_ishl (v := 4) hx hb dX4_lowestStuck_10 (by decide) ?_
  refine lv_istore_n (lv' := [(2, .int 4), (1, .int 2), (0, .ref h0)]) hx hb dX4_lowestStuck_11 rfl hl (by decide) rfl (fun ls hl => ?_)
  refine lv_aload_n hx hb dX4_lowestStuck_12 rfl (lv_at hl 2 rfl) ?_
  refine k_get (ci := 7) (C := RX4) (T := TX4) (N := 9) (v := .int 0) hx hb hG inX4 hown hK hP 0 rfl rfl 2 (by decide) gw334 rfl dX4_lowestStuck_13 ?_
  refine lv_iload_n hx hb dX4_lowestStuck_16 rfl (lv_at hl 0 rfl) ?_
  refine k_iand (v := 0) hx hb dX4_lowestStuck_17 (by decide) ?_
  refine k_if_eq_t (tgt := 37) hx hb dX4_lowestStuck_18 (by decide) (by decide) ?_
  refine lv_iinc (v := 3) (lv' := [(1, .int 3), (2, .int 4), (0, .ref h0)]) hx hb dX4_lowestStuck_37 hl (k := 1) rfl (by decide) (by decide) rfl (fun ls hl => ?_)
  refine lv_goto (tgt := 2) hx hb dX4_lowestStuck_40 (by decide) ?_
  refine lv_iload_n hx hb dX4_lowestStuck_2 rfl (lv_at hl 0 rfl) ?_
  refine lv_bipush (v := 9) hx hb dX4_lowestStuck_3 (by decide) ?_
  refine k_icmp_ge_f (tgt := 43) hx hb dX4_lowestStuck_5 (by decide) (by decide) ?_
  refine lv_iconst (v := 1) hx hb dX4_lowestStuck_8 (by decide) ?_
  refine lv_iload_n hx hb dX4_lowestStuck_9 rfl (lv_at hl 0 rfl) ?_
  refine k_ishl (v := 8) hx hb dX4_lowestStuck_10 (by decide) ?_
  refine lv_istore_n (lv' := [(2, .int 8), (1, .int 3), (0, .ref h0)]) hx hb dX4_lowestStuck_11 rfl hl (by decide) rfl (fun ls hl => ?_)
  refine lv_aload_n hx hb dX4_lowestStuck_12 rfl (lv_at hl 2 rfl) ?_
  refine k_get (ci := 7) (C := RX4) (T := TX4) (N := 9) (v := .int 0) hx hb hG inX4 hown hK hP 0 rfl rfl 2 (by decide) gw334 rfl dX4_lowestStuck_13 ?_
  refine lv_iload_n hx hb dX4_lowestStuck_16 rfl (lv_at hl 0 rfl) ?_
  refine k_iand (v := 0) hx hb dX4_lowestStuck_17 (by decide) ?_
  refine k_if_eq_t (tgt := 37) hx hb dX4_lowestStuck_18 (by decide) (by decide) ?_
  refine lv_iinc (v := 4) (lv' := [(1, .int 4), (2, .int 8), (0, .ref h0)]) hx hb dX4_lowestStuck_37 hl (k := 1) rfl (by decide) (by decide) rfl (fun ls hl => ?_)
  refine lv_goto (tgt := 2) hx hb dX4_lowestStuck_40 (by decide) ?_
  refine lv_iload_n hx hb dX4_lowestStuck_2 rfl (lv_at hl 0 rfl) ?_
  refine lv_bipush (v := 9) hx hb dX4_lowestStuck_3 (by decide) ?_
  refine k_icmp_ge_f (tgt := 43) hx hb dX4_lowestStuck_5 (by decide) (by decide) ?_
  refine lv_iconst (v := 1) hx hb dX4_lowestStuck_8 (by decide) ?_
  refine lv_iload_n hx hb dX4_lowestStuck_9 rfl (lv_at hl 0 rfl) ?_
  refine k_ishl (v := 16) hx hb dX4_lowestStuck_10 (by decide) ?_
  refine lv_istore_n (lv' := [(2, .int 16), (1, .int 4), (0, .ref h0)]) hx hb dX4_lowestStuck_11 rfl hl (by decide) rfl (fun ls hl => ?_)
  refine lv_aload_n hx hb dX4_lowestStuck_12 rfl (lv_at hl 2 rfl) ?_
  refine k_get (ci := 7) (C := RX4) (T := TX4) (N := 9) (v := .int 0) hx hb hG inX4 hown hK hP 0 rfl rfl 2 (by decide) gw334 rfl dX4_lowestStuck_13 ?_
  refine lv_iload_n hx hb dX4_lowestStuck_16 rfl (lv_at hl 0 rfl) ?_
  refine k_iand (v := 0) hx hb dX4_lowestStuck_17 (by decide) ?_
  refine k_if_eq_t (tgt := 37) hx hb dX4_lowestStuck_18 (by decide) (by decide) ?_
  refine lv_iinc (v := 5) (lv' := [(1, .int 5), (2, .int 16), (0, .ref h0)]) hx hb dX4_lowestStuck_37 hl (k := 1) rfl (by decide) (by decide) rfl (fun ls hl => ?_)
  refine lv_goto (tgt := 2) hx hb dX4_lowestStuck_40 (by decide) ?_
  refine lv_iload_n hx hb dX4_lowestStuck_2 rfl (lv_at hl 0 rfl) ?_
  refine lv_bipush (v := 9) hx hb dX4_lowestStuck_3 (by decide) ?_
  refine k_icmp_ge_f (tgt := 43) hx hb dX4_lowestStuck_5 (by decide) (by decide) ?_
  refine lv_iconst (v := 1) hx hb dX4_lowestStuck_8 (by decide) ?_
  refine lv_iload_n hx hb dX4_lowestStuck_9 rfl (lv_at hl 0 rfl) ?_
  refine k_ishl (v := 32) hx hb dX4_lowestStuck_10 (by decide) ?_
  refine lv_istore_n (lv' := [(2, .int 32), (1, .int 5), (0, .ref h0)]) hx hb dX4_lowestStuck_11 rfl hl (by decide) rfl (fun ls hl => ?_)
  refine lv_aload_n hx hb dX4_lowestStuck_12 rfl (lv_at hl 2 rfl) ?_
  refine k_get (ci := 7) (C := RX4) (T := TX4) (N := 9) (v := .int 0) hx hb hG inX4 hown hK hP 0 rfl rfl 2 (by decide) gw334 rfl dX4_lowestStuck_13 ?_
  refine lv_iload_n hx hb dX4_lowestStuck_16 rfl (lv_at hl 0 rfl) ?_
  refine k_iand (v := 0) hx hb dX4_lowestStuck_17 (by decide) ?_
  refine k_if_eq_t (tgt := 37) hx hb dX4_lowestStuck_18 (by decide) (by decide) ?_
  refine lv_iinc (v := 6) (lv' := [(1, .int 6), (2, .int 32), (0, .ref h0)]) hx hb dX4_lowestStuck_37 hl (k := 1) rfl (by decide) (by decide) rfl (fun ls hl => ?_)
  refine lv_goto (tgt := 2) hx hb dX4_lowestStuck_40 (by decide) ?_
  refine lv_iload_n hx hb dX4_lowestStuck_2 rfl (lv_at hl 0 rfl) ?_
  refine lv_bipush (v := 9) hx hb dX4_lowestStuck_3 (by decide) ?_
  refine k_icmp_ge_f (tgt := 43) hx hb dX4_lowestStuck_5 (by decide) (by decide) ?_
  refine lv_iconst (v := 1) hx hb dX4_lowestStuck_8 (by decide) ?_
  refine lv_iload_n hx hb dX4_lowestStuck_9 rfl (lv_at hl 0 rfl) ?_
  refine k_ishl (v := 64) hx hb dX4_lowestStuck_10 (by decide) ?_
  refine lv_istore_n (lv' := [(2, .int 64), (1, .int 6), (0, .ref h0)]) hx hb dX4_lowestStuck_11 rfl hl (by decide) rfl (fun ls hl => ?_)
  refine lv_aload_n hx hb dX4_lowestStuck_12 rfl (lv_at hl 2 rfl) ?_
  refine k_get (ci := 7) (C := RX4) (T := TX4) (N := 9) (v := .int 0) hx hb hG inX4 hown hK hP 0 rfl rfl 2 (by decide) gw334 rfl dX4_lowestStuck_13 ?_
  refine lv_iload_n hx hb dX4_lowestStuck_16 rfl (lv_at hl 0 rfl) ?_
  refine k_iand (v := 0) hx hb dX4_lowestStuck_17 (by decide) ?_
  refine k_if_eq_t (tgt := 37) hx hb dX4_lowestStuck_18 (by decide) (by decide) ?_
  refine lv_iinc (v := 7) (lv' := [(1, .int 7), (2, .int 64), (0, .ref h0)]) hx hb dX4_lowestStuck_37 hl (k := 1) rfl (by decide) (by decide) rfl (fun ls hl => ?_)
  refine lv_goto (tgt := 2) hx hb dX4_lowestStuck_40 (by decide) ?_
  refine lv_iload_n hx hb dX4_lowestStuck_2 rfl (lv_at hl 0 rfl) ?_
  refine lv_bipush (v := 9) hx hb dX4_lowestStuck_3 (by decide) ?_
  refine k_icmp_ge_f (tgt := 43) hx hb dX4_lowestStuck_5 (by decide) (by decide) ?_
  refine lv_iconst (v := 1) hx hb dX4_lowestStuck_8 (by decide) ?_
  refine lv_iload_n hx hb dX4_lowestStuck_9 rfl (lv_at hl 0 rfl) ?_
  refine k_ishl (v := 128) hx hb dX4_lowestStuck_10 (by decide) ?_
  refine lv_istore_n (lv' := [(2, .int 128), (1, .int 7), (0, .ref h0)]) hx hb dX4_lowestStuck_11 rfl hl (by decide) rfl (fun ls hl => ?_)
  refine lv_aload_n hx hb dX4_lowestStuck_12 rfl (lv_at hl 2 rfl) ?_
  refine k_get (ci := 7) (C := RX4) (T := TX4) (N := 9) (v := .int 0) hx hb hG inX4 hown hK hP 0 rfl rfl 2 (by decide) gw334 rfl dX4_lowestStuck_13 ?_
  refine lv_iload_n hx hb dX4_lowestStuck_16 rfl (lv_at hl 0 rfl) ?_
  refine k_iand (v := 0) hx hb dX4_lowestStuck_17 (by decide) ?_
  refine k_if_eq_t (tgt := 37) hx hb dX4_lowestStuck_18 (by decide) (by decide) ?_
  refine lv_iinc (v := 8) (lv' := [(1, .int 8), (2, .int 128), (0, .ref h0)]) hx hb dX4_lowestStuck_37 hl (k := 1) rfl (by decide) (by decide) rfl (fun ls hl => ?_)
  refine lv_goto (tgt := 2) hx hb dX4_lowestStuck_40 (by decide) ?_
  refine lv_iload_n hx hb dX4_lowestStuck_2 rfl (lv_at hl 0 rfl) ?_
  refine lv_bipush (v := 9) hx hb dX4_lowestStuck_3 (by decide) ?_
  refine k_icmp_ge_f (tgt := 43) hx hb dX4_lowestStuck_5 (by decide) (by decide) ?_
  refine lv_iconst (v := 1) hx hb dX4_lowestStuck_8 (by decide) ?_
  refine lv_iload_n hx hb dX4_lowestStuck_9 rfl (lv_at hl 0 rfl) ?_
  refine k_ishl (v := 256) hx hb dX4_lowestStuck_10 (by decide) ?_
  refine lv_istore_n (lv' := [(2, .int 256), (1, .int 8), (0, .ref h0)]) hx hb dX4_lowestStuck_11 rfl hl (by decide) rfl (fun ls hl => ?_)
  refine lv_aload_n hx hb dX4_lowestStuck_12 rfl (lv_at hl 2 rfl) ?_
  refine k_get (ci := 7) (C := RX4) (T := TX4) (N := 9) (v := .int 0) hx hb hG inX4 hown hK hP 0 rfl rfl 2 (by decide) gw334 rfl dX4_lowestStuck_13 ?_
  refine lv_iload_n hx hb dX4_lowestStuck_16 rfl (lv_at hl 0 rfl) ?_
  refine k_iand (v := 0) hx hb dX4_lowestStuck_17 (by decide) ?_
  refine k_if_eq_t (tgt := 37) hx hb dX4_lowestStuck_18 (by decide) (by decide) ?_
  refine lv_iinc (v := 9) (lv' := [(1, .int 9), (2, .int 256), (0, .ref h0)]) hx hb dX4_lowestStuck_37 hl (k := 1) rfl (by decide) (by decide) rfl (fun ls hl => ?_)
  refine lv_goto (tgt := 2) hx hb dX4_lowestStuck_40 (by decide) ?_
  refine lv_iload_n hx hb dX4_lowestStuck_2 rfl (lv_at hl 0 rfl) ?_
  refine lv_bipush (v := 9) hx hb dX4_lowestStuck_3 (by decide) ?_
  refine k_icmp_ge_t (tgt := 43) hx hb dX4_lowestStuck_5 (by decide) (by decide) ?_
  refine lv_iconst (v := (-1)) hx hb dX4_lowestStuck_43 (by decide) ?_
  exact e_i (fun _ => 0) hx hb hr hlocks rfl rfl hP hD hS (Nat.le_of_ble_eq_true rfl) (Nat.le_of_ble_eq_true rfl) dX4_lowestStuck_44
set_option maxHeartbeats 4000000 in
set_option maxRecDepth 100000 in
theorem c352_X6_stuck (l : Launch) (hfl : l.stackTraces = false) (D : va_G) (cA : Nat → ClassId) (g : gv_T) (h0 h1 h2 h3 h4 h5 h6 h7 h8 h9 h10 h11 h12 h13 h14 h15 h16 h17 h18 h19 h20 : Nat) : CX l yX6_stuck cX6_stuck 2 (some .int) (RM 6 1 6 95) D cA g [.ref h0] [(h0, .inr (9, [.ref h1, .ref h2, .ref h3, .ref h4, .ref h5])), (h5, .inr (7, [.int 2, .int 0, .int 0, .int 0, .ref h6, .ref h7, .ref h8, .ref h9, .ref h10])), (h1, .inr (5, [.int 0, .int 0, .ref h11, .ref h12, .ref h13, .ref h14, .ref h15, .ref h16, .ref h17, .ref h18, .ref h19, .ref h20])), (h8, .inl (cA 0, 512, .inl (fun _ => 0))), (h9, .inl (cA 3, 512, .inl (fun _ => 0)))] "java/util/NoSuchElementException" (fun q => [(h0, .inr (9, [.ref h1, .ref h2, .ref h3, .ref h4, .ref h5])), (h5, .inr (7, [.int 2, .int 1, .int 0, .int 0, .ref h6, .ref h7, .ref h8, .ref h9, .ref h10])), (h1, .inr (5, [.int 0, .int 0, .ref h11, .ref h12, .ref h13, .ref h14, .ref h15, .ref h16, .ref h17, .ref h18, .ref h19, .ref h20])), (h8, .inl (cA 0, 512, .inl (upd (fun _ => 0) 0 1))), (h9, .inl (cA 3, 512, .inl (upd (fun _ => 0) 0 1)))]) := by
  refine CX.of (by decide +kernel) (Nat.le_of_ble_eq_true rfl) ?_
  intro p e s m args below meth c A ls hx hb hr hml hown hG hlocks htab hA hS hP hK hD hGV hl
  have hown : s.vm.findClass RX6 = some m.cls := hown
  have hl : lv_has ls 2 [(0, .ref h0)] := hl
  have hSF : CF p m c cX6_stuck 2 s args RX6 := ⟨hx, hb, hml, hown, hG⟩
  refine lv_aload_n hx hb dX6_stuck_0 rfl (lv_at hl 0 rfl) ?_
  refine k_get (ci := 9) (C := RX6) (T := TX6) (N := 5) (v := .ref h5) hx hb hG inX6 hown hK hP 0 rfl rfl 4 (by decide) gw367 rfl dX6_stuck_1 ?_
  refine lv_aload_n hx hb dX6_stuck_4 rfl (lv_at hl 0 rfl) ?_
  refine k_get (ci := 9) (C := RX6) (T := TX6) (N := 5) (v := .ref h1) hx hb hG inX6 hown hK hP 0 rfl rfl 0 (by decide) gw363 rfl dX6_stuck_5 ?_
  refine lv_aload_n hx hb dX6_stuck_8 rfl (lv_at hl 0 rfl) ?_
  refine k_get (ci := 9) (C := RX6) (T := TX6) (N := 5) (v := .ref h3) hx hb hG inX6 hown hK hP 0 rfl rfl 2 (by decide) gw365 rfl dX6_stuck_9 ?_
  refine ct_V (wr := [(h0, .inr (9, [.ref h1, .ref h2, .ref h3, .ref h4, .ref h5]))]) hSF hl.1 hP hD hS hA hK hGV (c321_X4_find l hfl D cA g h5 h1 h3 h6 h7 h8 h9 h10 h11 h12 h13 h14 h15 h16 h17 h18 h19 h20) goV_X6_247 pd_X4_find ⟨(Nat.le_of_ble_eq_true rfl), (Nat.le_of_ble_eq_true rfl)⟩ ⟨(Nat.le_of_ble_eq_true rfl), (Nat.le_of_ble_eq_true rfl)⟩ (va_recv hK hP (ci := 7) (q0 := 1) rfl rfl) dX6_stuck_12 rfl (Nat.le_of_ble_eq_true rfl) [1, 2, 3, 4] [0] rfl (by decide) rfl (by decide) (by decide) (fun q => [(h0, .inr (9, [.ref h1, .ref h2, .ref h3, .ref h4, .ref h5])), (h5, .inr (7, [.int 2, .int 1, .int 0, .int 0, .ref h6, .ref h7, .ref h8, .ref h9, .ref h10])), (h1, .inr (5, [.int 0, .int 0, .ref h11, .ref h12, .ref h13, .ref h14, .ref h15, .ref h16, .ref h17, .ref h18, .ref h19, .ref h20])), (h8, .inl (cA 0, 512, .inl (upd (fun _ => 0) 0 1))), (h9, .inl (cA 3, 512, .inl (upd (fun _ => 0) 0 1)))]) (fun _ => rfl) (fun q1 H locs hP hD hS => ?_)
  refine W.eq (g2 := F0 m 15 ls []) rfl ?_
  refine lv_aload_n hx hb dX6_stuck_15 rfl (lv_at hl 0 rfl) ?_
  refine k_get (ci := 9) (C := RX6) (T := TX6) (N := 5) (v := .ref h5) hx hb hG inX6 hown hK hP 0 rfl rfl 4 (by decide) gw367 rfl dX6_stuck_16 ?_
  refine ct_V (wr := [(h0, .inr (9, [.ref h1, .ref h2, .ref h3, .ref h4, .ref h5])), (h1, .inr (5, [.int 0, .int 0, .ref h11, .ref h12, .ref h13, .ref h14, .ref h15, .ref h16, .ref h17, .ref h18, .ref h19, .ref h20])), (h8, .inl (cA 0, 512, .inl (upd (fun _ => 0) 0 1))), (h9, .inl (cA 3, 512, .inl (upd (fun _ => 0) 0 1)))]) hSF hl.1 hP hD hS hA hK hGV (c351_X4_lowestStuck l hfl D cA g h5 h6 h7 h8 h9 h10) goV_X6_261 pd_X4_lowestStuck ⟨(Nat.le_of_ble_eq_true rfl), (Nat.le_of_ble_eq_true rfl)⟩ ⟨(Nat.le_of_ble_eq_true rfl), (Nat.le_of_ble_eq_true rfl)⟩ (va_recv hK hP (ci := 7) (q0 := 1) rfl rfl) dX6_stuck_19 rfl (Nat.le_of_ble_eq_true rfl) [1] [0, 2, 3, 4] rfl (by decide) rfl (by decide) (by decide) (fun q => [(h0, .inr (9, [.ref h1, .ref h2, .ref h3, .ref h4, .ref h5])), (h1, .inr (5, [.int 0, .int 0, .ref h11, .ref h12, .ref h13, .ref h14, .ref h15, .ref h16, .ref h17, .ref h18, .ref h19, .ref h20])), (h8, .inl (cA 0, 512, .inl (upd (fun _ => 0) 0 1))), (h9, .inl (cA 3, 512, .inl (upd (fun _ => 0) 0 1))), (h5, .inr (7, [.int 2, .int 1, .int 0, .int 0, .ref h6, .ref h7, .ref h8, .ref h9, .ref h10]))]) (fun _ => rfl) (fun q2 H locs hP hD hS => ?_)
  refine W.eq (g2 := F0 m 22 ls [.int (-1)]) rfl ?_
  refine lv_istore_n (lv' := [(1, .int (-1)), (0, .ref h0)]) hx hb dX6_stuck_22 rfl hl (by decide) rfl (fun ls hl => ?_)
  refine lv_iload_n hx hb dX6_stuck_23 rfl (lv_at hl 0 rfl) ?_
  refine k_if_ge_f (tgt := 38) hx hb dX6_stuck_24 (by decide) (by decide) ?_
  exact e_throwNW (fun _ => 0) (Y0 := "java/lang/RuntimeException") (idx := 13) (bs := prog_44_method_4_code) (names := ["java/lang/Exception"]) 25 hx hb hfl hown hG hGV htab hlocks (hl.1.trans hml.symm) (by decide +kernel) (by decide +kernel) (by decide +kernel) ns_0 ns_1 ns_2 ns_5 gw891 gw107 rfl xat_X6_146 (hP.sub [0, 4, 1, 2, 3] rfl) (hD.sub [0, 4, 1, 2, 3] (by decide) rfl) hS dX6_stuck_27 dX6_stuck_30 dX6_stuck_31 dX6_stuck_34 dX6_stuck_37 (Nat.le_of_ble_eq_true rfl) (Nat.le_of_ble_eq_true rfl) (Nat.le_of_ble_eq_true rfl) (Nat.le_of_ble_eq_true rfl) (Nat.le_of_ble_eq_true rfl) (Nat.le_of_ble_eq_true rfl)
set_option maxHeartbeats 4000000 in
set_option maxRecDepth 100000 in
theorem c353_L_stuck (l : Launch) (hfl : l.stackTraces = false) (D : va_G) (cA : Nat → ClassId) (g : gv_T) (h0 h1 h2 h3 h4 h5 h6 h7 h8 h9 h10 h11 h12 h13 h14 h15 h16 h17 h18 h19 h20 h21 : Nat) : CW l yL_stuck cL_stuck 3 (some .int) [(0, 8, 11, 46)] (RM 7 1 6 116) D cA g [.ref h0, .ref h1] [(h0, .inr (9, [.ref h2, .ref h3, .ref h4, .ref h5, .ref h6])), (h6, .inr (7, [.int 2, .int 0, .int 0, .int 0, .ref h7, .ref h8, .ref h9, .ref h10, .ref h11])), (h2, .inr (5, [.int 0, .int 0, .ref h12, .ref h13, .ref h14, .ref h15, .ref h16, .ref h17, .ref h18, .ref h19, .ref h20, .ref h21])), (h9, .inl (cA 0, 512, .inl (fun _ => 0))), (h10, .inl (cA 3, 512, .inl (fun _ => 0)))] (fun q => some (.int 1)) (fun q => [(h0, .inr (9, [.ref h2, .ref h3, .ref h4, .ref h5, .ref h6])), (h6, .inr (7, [.int 2, .int 1, .int 0, .int 0, .ref h7, .ref h8, .ref h9, .ref h10, .ref h11])), (h2, .inr (5, [.int 0, .int 0, .ref h12, .ref h13, .ref h14, .ref h15, .ref h16, .ref h17, .ref h18, .ref h19, .ref h20, .ref h21])), (h9, .inl (cA 0, 512, .inl (upd (fun _ => 0) 0 1))), (h10, .inl (cA 3, 512, .inl (upd (fun _ => 0) 0 1)))]) := by
  refine CW.of (by decide +kernel) (Nat.le_of_ble_eq_true rfl) ?_
  intro p e s m args below meth c A ls hx hb hr hml hown hG hlocks htab hA hS hP hK hD hGV hl
  have hown : s.vm.findClass RL = some m.cls := hown
  have hl : lv_has ls 3 [(0, .ref h0), (1, .ref h1)] := hl
  have hSF : CF p m c cL_stuck 3 s args RL := ⟨hx, hb, hml, hown, hG⟩
  refine lv_aload_n hx hb dL_stuck_0 rfl (lv_at hl 1 rfl) ?_
  refine lv_iconst (v := 0) hx hb dL_stuck_1 (by decide) ?_
  refine lv_aload_n hx hb dL_stuck_2 rfl (lv_at hl 0 rfl) ?_
  refine cx_V (wr := []) hSF hl.1 hP hD hS hA hK hGV (c352_X6_stuck l hfl D cA g h0 h2 h3 h4 h5 h6 h7 h8 h9 h10 h11 h12 h13 h14 h15 h16 h17 h18 h19 h20 h21) goV_L_98 pd_X6_stuck ⟨(Nat.le_of_ble_eq_true rfl), (Nat.le_of_ble_eq_true rfl)⟩ ⟨(Nat.le_of_ble_eq_true rfl), (Nat.le_of_ble_eq_true rfl)⟩ (va_recv hK hP (ci := 9) (q0 := 0) rfl rfl) dL_stuck_3 rfl (Nat.le_of_ble_eq_true rfl) [0, 1, 2, 3, 4] [] rfl (by decide) rfl (by decide) (by decide) (fun q => [(h0, .inr (9, [.ref h2, .ref h3, .ref h4, .ref h5, .ref h6])), (h6, .inr (7, [.int 2, .int 1, .int 0, .int 0, .ref h7, .ref h8, .ref h9, .ref h10, .ref h11])), (h2, .inr (5, [.int 0, .int 0, .ref h12, .ref h13, .ref h14, .ref h15, .ref h16, .ref h17, .ref h18, .ref h19, .ref h20, .ref h21])), (h9, .inl (cA 0, 512, .inl (upd (fun _ => 0) 0 1))), (h10, .inl (cA 3, 512, .inl (upd (fun _ => 0) 0 1)))]) (fun _ => rfl) (fun q1 H locs x9 ce9 hP hD hS h9 hv9 hcl9 => ?_)
  refine vx_catch (own := RL) (name := "java/util/NoSuchElementException") hown [] { startPc := 0, endPc := 8, handlerPc := 11, catchType := 46 } [] (htab.trans rfl) (fun z hz => nomatch hz) rfl (by decide) (hG _ gw886) (va_Nw.use rfl (hGV.2.2.2.2.1 _ gw893)) h9 hv9 hcl9 ?_
  refine W.eq (g2 := F0 m 11 ls [.ref x9]) rfl ?_
  refine lv_astore_n (lv' := [(2, .ref x9), (0, .ref h0), (1, .ref h1)]) hx hb dL_stuck_11 rfl hl (by decide) rfl (fun ls hl => ?_)
  refine lv_iconst (v := 1) hx hb dL_stuck_12 (by decide) ?_
  exact e_i (fun _ => 0) hx hb hr hlocks rfl rfl hP hD hS (Nat.le_of_ble_eq_true rfl) (Nat.le_of_ble_eq_true rfl) dL_stuck_13
set_option maxHeartbeats 4000000 in
set_option maxRecDepth 100000 in
theorem c354_X12_stuck (l : Launch) (hfl : l.stackTraces = false) (D : va_G) (cA : Nat → ClassId) (g : gv_T) (h0 h1 h2 h3 h4 h5 h6 h7 h8 h9 h10 h11 h12 h13 h14 h15 h16 h17 h18 : Nat) : CT l yX12_stuck cX12_stuck 3 (some .int) (RM 1 0 0 21) D cA g [.ref h0] [(h0, .inr (15, [.ref h1, .ref h2, .ref h3, .ref h4, .ref h5, .ref h6, .ref h7, .ref h8, .ref h9, .ref h10, .ref h11, .ref h12, .ref h13, .ref h14, .ref h15, .ref h16, .ref h17, .ref h18, .long 0, .int 0, .int 2, .int 0, .int 0, .int 0, .int 0, .int 0, .int 0])), (h2, .inr (2, [.int 0, .ref g.1, .int 0]))] (fun q => some (.int 0)) (fun q => [(h0, .inr (15, [.ref h1, .ref h2, .ref h3, .ref h4, .ref h5, .ref h6, .ref h7, .ref h8, .ref h9, .ref h10, .ref h11, .ref h12, .ref h13, .ref h14, .ref h15, .ref h16, .ref h17, .ref h18, .long 0, .int 1, .int 2, .int 0, .int 0, .int 0, .int 0, .int 0, .int 0])), (h2, .inr (2, [.int 0, .ref g.1, .int 0]))]) := by
  refine CT.of (by decide +kernel) (Nat.le_of_ble_eq_true rfl) ?_
  intro p e s m args below meth c A ls hx hb hr hml hown hG hlocks hnm hA hS hP hK hD hGV hl
  have hown : s.vm.findClass RX12 = some m.cls := hown
  have hl : lv_has ls 3 [(0, .ref h0)] := hl
  have hSF : CF p m c cX12_stuck 3 s args RX12 := ⟨hx, hb, hml, hown, hG⟩
  refine lv_iconst (v := 1) hx hb dX12_stuck_0 (by decide) ?_
  refine lv_aload_n hx hb dX12_stuck_1 rfl (lv_at hl 0 rfl) ?_
  refine k_get (ci := 15) (C := RX12) (T := TX12) (N := 27) (v := .ref h2) hx hb hG inX12 hown hK hP 0 rfl rfl 1 (by decide) gw1220 rfl dX12_stuck_2 ?_
  refine ct_V (wr := [(h0, .inr (15, [.ref h1, .ref h2, .ref h3, .ref h4, .ref h5, .ref h6, .ref h7, .ref h8, .ref h9, .ref h10, .ref h11, .ref h12, .ref h13, .ref h14, .ref h15, .ref h16, .ref h17, .ref h18, .long 0, .int 0, .int 2, .int 0, .int 0, .int 0, .int 0, .int 0, .int 0]))]) hSF hl.1 hP hD hS hA hK hGV (c56_Jx4a65c_size_8abf5 l hfl D cA g h2) goV_X12_125 pd_Jx4a65c_size_8abf5 ⟨(Nat.le_of_ble_eq_true rfl), (Nat.le_of_ble_eq_true rfl)⟩ ⟨(Nat.le_of_ble_eq_true rfl), (Nat.le_of_ble_eq_true rfl)⟩ (va_recv hK hP (ci := 2) (q0 := 1) rfl rfl) dX12_stuck_5 rfl (Nat.le_of_ble_eq_true rfl) [1] [0] rfl (by decide) rfl (by decide) (by decide) (fun q => [(h0, .inr (15, [.ref h1, .ref h2, .ref h3, .ref h4, .ref h5, .ref h6, .ref h7, .ref h8, .ref h9, .ref h10, .ref h11, .ref h12, .ref h13, .ref h14, .ref h15, .ref h16, .ref h17, .ref h18, .long 0, .int 0, .int 2, .int 0, .int 0, .int 0, .int 0, .int 0, .int 0])), (h2, .inr (2, [.int 0, .ref g.1, .int 0]))]) (fun _ => rfl) (fun q1 H locs hP hD hS => ?_)
  refine W.eq (g2 := F0 m 8 ls [.int 0, .int 1]) rfl ?_
  refine k_ishl (v := 1) hx hb dX12_stuck_8 (by decide) ?_
  refine lv_iconst (v := 1) hx hb dX12_stuck_9 (by decide) ?_
  refine k_isub (v := 0) hx hb dX12_stuck_10 (by decide) ?_
  refine lv_istore_n (lv' := [(1, .int 0), (0, .ref h0)]) hx hb dX12_stuck_11 rfl hl (by decide) rfl (fun ls hl => ?_)
  refine lv_iconst (v := 0) hx hb dX12_stuck_12 (by decide) ?_
  refine lv_istore_n (lv' := [(2, .int 0), (1, .int 0), (0, .ref h0)]) hx hb dX12_stuck_13 rfl hl (by decide) rfl (fun ls hl => ?_)
  refine lv_iload_n hx hb dX12_stuck_14 rfl (lv_at hl 0 rfl) ?_
  refine lv_aload_n hx hb dX12_stuck_15 rfl (lv_at hl 2 rfl) ?_
  refine k_get (ci := 15) (C := RX12) (T := TX12) (N := 27) (v := .ref h2) hx hb hG inX12 hown hK hP 0 rfl rfl 1 (by decide) gw1220 rfl dX12_stuck_16 ?_
  refine ct_V (wr := [(h0, .inr (15, [.ref h1, .ref h2, .ref h3, .ref h4, .ref h5, .ref h6, .ref h7, .ref h8, .ref h9, .ref h10, .ref h11, .ref h12, .ref h13, .ref h14, .ref h15, .ref h16, .ref h17, .ref h18, .long 0, .int 0, .int 2, .int 0, .int 0, .int 0, .int 0, .int 0, .int 0]))]) hSF hl.1 hP hD hS hA hK hGV (c56_Jx4a65c_size_8abf5 l hfl D cA g h2) goV_X12_125 pd_Jx4a65c_size_8abf5 ⟨(Nat.le_of_ble_eq_true rfl), (Nat.le_of_ble_eq_true rfl)⟩ ⟨(Nat.le_of_ble_eq_true rfl), (Nat.le_of_ble_eq_true rfl)⟩ (va_recv hK hP (ci := 2) (q0 := 1) rfl rfl) dX12_stuck_19 rfl (Nat.le_of_ble_eq_true rfl) [1] [0] rfl (by decide) rfl (by decide) (by decide) (fun q => [(h0, .inr (15, [.ref h1, .ref h2, .ref h3, .ref h4, .ref h5, .ref h6, .ref h7, .ref h8, .ref h9, .ref h10, .ref h11, .ref h12, .ref h13, .ref h14, .ref h15, .ref h16, .ref h17, .ref h18, .long 0, .int 0, .int 2, .int 0, .int 0, .int 0, .int 0, .int 0, .int 0])), (h2, .inr (2, [.int 0, .ref g.1, .int 0]))]) (fun _ => rfl) (fun q2 H locs hP hD hS => ?_)
  refine W.eq (g2 := F0 m 22 ls [.int 0, .int 0]) rfl ?_
  refine k_icmp_ge_t (tgt := 52) hx hb dX12_stuck_22 (by decide) (by decide) ?_
  refine lv_aload_n hx hb dX12_stuck_52 rfl (lv_at hl 2 rfl) ?_
  refine lv_iconst (v := 1) hx hb dX12_stuck_53 (by decide) ?_
  refine ct_V (wr := [(h2, .inr (2, [.int 0, .ref g.1, .int 0]))]) hSF hl.1 hP hD hS hA hK hGV (c15_X12_fails l hfl D cA g h0 h1 h2 h3 h4 h5 h6 h7 h8 h9 h10 h11 h12 h13 h14 h15 h16 h17 h18) goV_X12_289 pd_X12_fails ⟨(Nat.le_of_ble_eq_true rfl), (Nat.le_of_ble_eq_true rfl)⟩ ⟨(Nat.le_of_ble_eq_true rfl), (Nat.le_of_ble_eq_true rfl)⟩ (va_recv hK hP (ci := 15) (q0 := 0) rfl rfl) dX12_stuck_54 rfl (Nat.le_of_ble_eq_true rfl) [0] [1] rfl (by decide) rfl (by decide) (by decide) (fun q => [(h2, .inr (2, [.int 0, .ref g.1, .int 0])), (h0, .inr (15, [.ref h1, .ref h2, .ref h3, .ref h4, .ref h5, .ref h6, .ref h7, .ref h8, .ref h9, .ref h10, .ref h11, .ref h12, .ref h13, .ref h14, .ref h15, .ref h16, .ref h17, .ref h18, .long 0, .int 1, .int 2, .int 0, .int 0, .int 0, .int 0, .int 0, .int 0]))]) (fun _ => rfl) (fun q3 H locs hP hD hS => ?_)
  refine W.eq (g2 := F0 m 57 ls [.int 0]) rfl ?_
  exact e_i (fun _ => 0) hx hb hr hlocks rfl rfl (hP.sub [1, 0] rfl) (hD.sub [1, 0] (by decide) rfl) hS (Nat.le_of_ble_eq_true rfl) (Nat.le_of_ble_eq_true rfl) dX12_stuck_57
set_option maxHeartbeats 4000000 in
set_option maxRecDepth 100000 in
theorem c355_X6_allForce (l : Launch) (hfl : l.stackTraces = false) (D : va_G) (cA : Nat → ClassId) (g : gv_T) (h0 h1 h2 h3 h4 h5 h6 h7 h8 h9 h10 h11 h12 h13 h14 h15 h16 h17 h18 h19 h20 h21 h22 h23 h24 h25 h26 h27 h28 h29 h30 : Nat) : CT l yX6_allForce cX6_allForce 4 (some .long) (RM 5 0 0 110) D cA g [.ref h0] [(h0, .inr (9, [.ref h1, .ref h2, .ref h3, .ref h4, .ref h5])), (h2, .inr (4, [.int 0, .int 0, .long 0, .ref h6, .ref h7, .ref h8, .ref h9, .ref h10, .ref h11, .ref h12, .ref h13, .ref h14, .ref h15, .ref h16, .ref h17, .ref h18, .ref h19])), (h1, .inr (5, [.int 0, .int 0, .ref h20, .ref h21, .ref h22, .ref h23, .ref h24, .ref h25, .ref h26, .ref h27, .ref h28, .ref h29])), (h12, .inl (cA 1, 512, .inr (.inl (fun _ => 0)))), (h16, .inr (8, [.ref h30])), (h30, .inl (cA 1, 8, .inr (.inl (fun _ => 0))))] (fun q => some (.long 0)) (fun q => [(h0, .inr (9, [.ref h1, .ref h2, .ref h3, .ref h4, .ref h5])), (h2, .inr (4, [.int 1, .int 46, .long 1, .ref h6, .ref h7, .ref h8, .ref h9, .ref h10, .ref h11, .ref h12, .ref h13, .ref h14, .ref h15, .ref h16, .ref h17, .ref h18, .ref h19])), (h1, .inr (5, [.int 0, .int 0, .ref h20, .ref h21, .ref h22, .ref h23, .ref h24, .ref h25, .ref h26, .ref h27, .ref h28, .ref h29])), (h12, .inl (cA 1, 512, .inr (.inl (vp_updL (fun _ => 0) 0 1)))), (h16, .inr (8, [.ref h30])), (h30, .inl (cA 1, 8, .inr (.inl (vp_updL (vp_updL (vp_updL (vp_updL (vp_updL (vp_updL (vp_updL (vp_updL (fun _ => 0) 2 0) 3 0) 4 0) 5 0) 6 0) 7 0) 0 1) 1 0))))]) := by
  refine CT.of (by decide +kernel) (Nat.le_of_ble_eq_true rfl) ?_
  intro p e s m args below meth c A ls hx hb hr hml hown hG hlocks hnm hA hS hP hK hD hGV hl
  have hown : s.vm.findClass RX6 = some m.cls := hown
  have hl : lv_has ls 4 [(0, .ref h0)] := hl
  have hSF : CF p m c cX6_allForce 4 s args RX6 := ⟨hx, hb, hml, hown, hG⟩
  refine lv_aload_n hx hb dX6_allForce_0 rfl (lv_at hl 0 rfl) ?_
  refine ct_V (wr := []) hSF hl.1 hP hD hS hA hK hGV (c158_X6_checkStanding l hfl D cA g h0 h1 h2 h3 h4 h5 h6 h7 h8 h9 h10 h11 h12 h13 h14 h15 h16 h17 h18 h19 h20 h21 h22 h23 h24 h25 h26 h27 h28 h29 h30) goV_X6_121 pd_X6_checkStanding ⟨(Nat.le_of_ble_eq_true rfl), (Nat.le_of_ble_eq_true rfl)⟩ ⟨(Nat.le_of_ble_eq_true rfl), (Nat.le_of_ble_eq_true rfl)⟩ (va_recv hK hP (ci := 9) (q0 := 0) rfl rfl) dX6_allForce_1 rfl (Nat.le_of_ble_eq_true rfl) [0, 1, 2, 3, 4, 5] [] rfl (by decide) rfl (by decide) (by decide) (fun q => [(h0, .inr (9, [.ref h1, .ref h2, .ref h3, .ref h4, .ref h5])), (h2, .inr (4, [.int 1, .int 46, .long 1, .ref h6, .ref h7, .ref h8, .ref h9, .ref h10, .ref h11, .ref h12, .ref h13, .ref h14, .ref h15, .ref h16, .ref h17, .ref h18, .ref h19])), (h1, .inr (5, [.int 0, .int 0, .ref h20, .ref h21, .ref h22, .ref h23, .ref h24, .ref h25, .ref h26, .ref h27, .ref h28, .ref h29])), (h12, .inl (cA 1, 512, .inr (.inl (vp_updL (fun _ => 0) 0 1)))), (h16, .inr (8, [.ref h30])), (h30, .inl (cA 1, 8, .inr (.inl (vp_updL (vp_updL (vp_updL (vp_updL (vp_updL (vp_updL (vp_updL (vp_updL (fun _ => 0) 2 0) 3 0) 4 0) 5 0) 6 0) 7 0) 0 1) 1 0))))]) (fun _ => rfl) (fun q1 H locs hP hD hS => ?_)
  refine W.eq (g2 := F0 m 4 ls []) rfl ?_
  refine lv_lconst (v := 0) hx hb dX6_allForce_4 (by decide) ?_
  refine lv_lstore_n (lv' := [(1, .long 0), (0, .ref h0)]) hx hb dX6_allForce_5 rfl hl (by decide) rfl (fun ls hl => ?_)
  refine lv_iconst (v := 0) hx hb dX6_allForce_6 (by decide) ?_
  refine lv_istore_n (lv' := [(3, .int 0), (1, .long 0), (0, .ref h0)]) hx hb dX6_allForce_7 rfl hl (by decide) rfl (fun ls hl => ?_)
  refine lv_iload_n hx hb dX6_allForce_8 rfl (lv_at hl 0 rfl) ?_
  refine lv_aload_n hx hb dX6_allForce_9 rfl (lv_at hl 2 rfl) ?_
  refine k_get (ci := 9) (C := RX6) (T := TX6) (N := 5) (v := .ref h1) hx hb hG inX6 hown hK hP 0 rfl rfl 0 (by decide) gw363 rfl dX6_allForce_10 ?_
  refine k_get (ci := 5) (C := RX2) (T := TX2) (N := 12) (v := .int 0) hx hb hG inX2 hown hK hP 2 rfl rfl 1 (by decide) gw131 rfl dX6_allForce_13 ?_
  refine k_icmp_ge_t (tgt := 40) hx hb dX6_allForce_16 (by decide) (by decide) ?_
  refine lv_lload_n hx hb dX6_allForce_40 rfl (lv_at hl 1 rfl) ?_
  exact e_l (fun _ => 0) hx hb hr hlocks rfl hP hD hS (Nat.le_of_ble_eq_true rfl) (Nat.le_of_ble_eq_true rfl) dX6_allForce_41
set_option maxHeartbeats 4000000 in
set_option maxRecDepth 100000 in
theorem c356_L_allForce (l : Launch) (hfl : l.stackTraces = false) (D : va_G) (cA : Nat → ClassId) (g : gv_T) (h0 h1 h2 h3 h4 h5 h6 h7 h8 h9 h10 h11 h12 h13 h14 h15 h16 h17 h18 h19 h20 h21 h22 h23 h24 h25 h26 h27 h28 h29 h30 h31 : Nat) : CW l yL_allForce cL_allForce 3 (some .int) [(0, 7, 10, 15)] (RM 6 0 0 133) D cA g [.ref h0, .ref h1] [(h0, .inr (9, [.ref h2, .ref h3, .ref h4, .ref h5, .ref h6])), (h3, .inr (4, [.int 0, .int 0, .long 0, .ref h7, .ref h8, .ref h9, .ref h10, .ref h11, .ref h12, .ref h13, .ref h14, .ref h15, .ref h16, .ref h17, .ref h18, .ref h19, .ref h20])), (h2, .inr (5, [.int 0, .int 0, .ref h21, .ref h22, .ref h23, .ref h24, .ref h25, .ref h26, .ref h27, .ref h28, .ref h29, .ref h30])), (h13, .inl (cA 1, 512, .inr (.inl (fun _ => 0)))), (h17, .inr (8, [.ref h31])), (h31, .inl (cA 1, 8, .inr (.inl (fun _ => 0)))), (h1, .inl (cA 1, 1, .inr (.inl (fun _ => 0))))] (fun q => some (.int 0)) (fun q => [(h0, .inr (9, [.ref h2, .ref h3, .ref h4, .ref h5, .ref h6])), (h3, .inr (4, [.int 1, .int 46, .long 1, .ref h7, .ref h8, .ref h9, .ref h10, .ref h11, .ref h12, .ref h13, .ref h14, .ref h15, .ref h16, .ref h17, .ref h18, .ref h19, .ref h20])), (h2, .inr (5, [.int 0, .int 0, .ref h21, .ref h22, .ref h23, .ref h24, .ref h25, .ref h26, .ref h27, .ref h28, .ref h29, .ref h30])), (h13, .inl (cA 1, 512, .inr (.inl (vp_updL (fun _ => 0) 0 1)))), (h17, .inr (8, [.ref h31])), (h31, .inl (cA 1, 8, .inr (.inl (vp_updL (vp_updL (vp_updL (vp_updL (vp_updL (vp_updL (vp_updL (vp_updL (fun _ => 0) 2 0) 3 0) 4 0) 5 0) 6 0) 7 0) 0 1) 1 0)))), (h1, .inl (cA 1, 1, .inr (.inl (vp_updL (fun _ => 0) 0 0))))]) := by
  refine CW.of (by decide +kernel) (Nat.le_of_ble_eq_true rfl) ?_
  intro p e s m args below meth c A ls hx hb hr hml hown hG hlocks htab hA hS hP hK hD hGV hl
  have hown : s.vm.findClass RL = some m.cls := hown
  have hl : lv_has ls 3 [(0, .ref h0), (1, .ref h1)] := hl
  have hSF : CF p m c cL_allForce 3 s args RL := ⟨hx, hb, hml, hown, hG⟩
  refine lv_aload_n hx hb dL_allForce_0 rfl (lv_at hl 1 rfl) ?_
  refine lv_iconst (v := 0) hx hb dL_allForce_1 (by decide) ?_
  refine lv_aload_n hx hb dL_allForce_2 rfl (lv_at hl 0 rfl) ?_
  refine ct_V (wr := [(h1, .inl (cA 1, 1, .inr (.inl (fun _ => 0))))]) hSF hl.1 hP hD hS hA hK hGV (c355_X6_allForce l hfl D cA g h0 h2 h3 h4 h5 h6 h7 h8 h9 h10 h11 h12 h13 h14 h15 h16 h17 h18 h19 h20 h21 h22 h23 h24 h25 h26 h27 h28 h29 h30 h31) goV_L_101 pd_X6_allForce ⟨(Nat.le_of_ble_eq_true rfl), (Nat.le_of_ble_eq_true rfl)⟩ ⟨(Nat.le_of_ble_eq_true rfl), (Nat.le_of_ble_eq_true rfl)⟩ (va_recv hK hP (ci := 9) (q0 := 0) rfl rfl) dL_allForce_3 rfl (Nat.le_of_ble_eq_true rfl) [0, 1, 2, 3, 4, 5] [6] rfl (by decide) rfl (by decide) (by decide) (fun q => [(h1, .inl (cA 1, 1, .inr (.inl (fun _ => 0)))), (h0, .inr (9, [.ref h2, .ref h3, .ref h4, .ref h5, .ref h6])), (h3, .inr (4, [.int 1, .int 46, .long 1, .ref h7, .ref h8, .ref h9, .ref h10, .ref h11, .ref h12, .ref h13, .ref h14, .ref h15, .ref h16, .ref h17, .ref h18, .ref h19, .ref h20])), (h2, .inr (5, [.int 0, .int 0, .ref h21, .ref h22, .ref h23, .ref h24, .ref h25, .ref h26, .ref h27, .ref h28, .ref h29, .ref h30])), (h13, .inl (cA 1, 512, .inr (.inl (vp_updL (fun _ => 0) 0 1)))), (h17, .inr (8, [.ref h31])), (h31, .inl (cA 1, 8, .inr (.inl (vp_updL (vp_updL (vp_updL (vp_updL (vp_updL (vp_updL (vp_updL (vp_updL (fun _ => 0) 2 0) 3 0) 4 0) 5 0) 6 0) 7 0) 0 1) 1 0))))]) (fun _ => rfl) (fun q1 H locs hP hD hS => ?_)
  refine W.eq (g2 := F0 m 6 ls [.long 0, .int 0, .ref h1]) rfl ?_
  refine k_last (ws1 := [(h1, .inl (cA 1, 1, .inr (.inl (vp_updL (fun _ => 0) 0 0)))), (h0, .inr (9, [.ref h2, .ref h3, .ref h4, .ref h5, .ref h6])), (h3, .inr (4, [.int 1, .int 46, .long 1, .ref h7, .ref h8, .ref h9, .ref h10, .ref h11, .ref h12, .ref h13, .ref h14, .ref h15, .ref h16, .ref h17, .ref h18, .ref h19, .ref h20])), (h2, .inr (5, [.int 0, .int 0, .ref h21, .ref h22, .ref h23, .ref h24, .ref h25, .ref h26, .ref h27, .ref h28, .ref h29, .ref h30])), (h13, .inl (cA 1, 512, .inr (.inl (vp_updL (fun _ => 0) 0 1)))), (h17, .inr (8, [.ref h31])), (h31, .inl (cA 1, 8, .inr (.inl (vp_updL (vp_updL (vp_updL (vp_updL (vp_updL (vp_updL (vp_updL (vp_updL (fun _ => 0) 2 0) 3 0) 4 0) 5 0) 6 0) 7 0) 0 1) 1 0))))]) hx hb hK hP hD hS 0 rfl rfl (by unfold vp_in; decide) dL_allForce_6 (fun H locs hP hD hS => ?_)
  refine lv_goto (tgt := 13) hx hb dL_allForce_7 (by decide) ?_
  refine lv_iconst (v := 0) hx hb dL_allForce_13 (by decide) ?_
  exact e_i (fun _ => 0) hx hb hr hlocks rfl rfl (hP.sub [1, 2, 3, 4, 5, 6, 0] rfl) (hD.sub [1, 2, 3, 4, 5, 6, 0] (by decide) rfl) hS (Nat.le_of_ble_eq_true rfl) (Nat.le_of_ble_eq_true rfl) dL_allForce_14
set_option maxHeartbeats 4000000 in
set_option maxRecDepth 100000 in
theorem c357_X12_tellLong (l : Launch) (hfl : l.stackTraces = false) (D : va_G) (cA : Nat → ClassId) (g : gv_T) (h0 h1 h2 h3 h4 h5 h6 h7 h8 h9 h10 h11 h12 h13 h14 h15 h16 h17 h18 : Nat) : CT l yX12_tellLong cX12_tellLong 3 (some .long) (RM 0 0 0 0) D cA g [.ref h0, .long 0] [(h0, .inr (15, [.ref h1, .ref h2, .ref h3, .ref h4, .ref h5, .ref h6, .ref h7, .ref h8, .ref h9, .ref h10, .ref h11, .ref h12, .ref h13, .ref h14, .ref h15, .ref h16, .ref h17, .ref h18, .long 1, .int 0, .int 2, .int 0, .int 1, .int 0, .int 0, .int 0, .int 46]))] (fun q => some (.long 0)) (fun q => [(h0, .inr (15, [.ref h1, .ref h2, .ref h3, .ref h4, .ref h5, .ref h6, .ref h7, .ref h8, .ref h9, .ref h10, .ref h11, .ref h12, .ref h13, .ref h14, .ref h15, .ref h16, .ref h17, .ref h18, .long 1, .int 0, .int 2, .int 0, .int 1, .int 0, .int 0, .int 0, .int 46]))]) := by
  refine CT.of (by decide +kernel) (Nat.le_of_ble_eq_true rfl) ?_
  intro p e s m args below meth c A ls hx hb hr hml hown hG hlocks hnm hA hS hP hK hD hGV hl
  have hown : s.vm.findClass RX12 = some m.cls := hown
  have hl : lv_has ls 3 [(0, .ref h0), (1, .long 0)] := hl
  have hSF : CF p m c cX12_tellLong 3 s args RX12 := ⟨hx, hb, hml, hown, hG⟩
  refine lv_aload_n hx hb dX12_tellLong_0 rfl (lv_at hl 0 rfl) ?_
  refine lv_iconst (v := 0) hx hb dX12_tellLong_1 (by decide) ?_
  refine k_put (ci := 15) (C := RX12) (T := TX12) (N := 27) (v := .int 0) (ws1 := [(h0, .inr (15, [.ref h1, .ref h2, .ref h3, .ref h4, .ref h5, .ref h6, .ref h7, .ref h8, .ref h9, .ref h10, .ref h11, .ref h12, .ref h13, .ref h14, .ref h15, .ref h16, .ref h17, .ref h18, .long 1, .int 0, .int 2, .int 0, .int 1, .int 0, .int 0, .int 0, .int 46]))]) hx hb hG inX12 tyX12 tyX12_ok nmX12 hown hK hP hD hS 0 rfl rfl 19 (by decide) gw1238 rfl ⟨rfl, rfl⟩ rfl (Nat.le_of_ble_eq_true rfl) dX12_tellLong_2 (fun H locs hP hD hS => ?_)
  refine lv_lload_n hx hb dX12_tellLong_5 rfl (lv_at hl 1 rfl) ?_
  exact e_l (fun _ => 0) hx hb hr hlocks rfl hP hD hS (Nat.le_of_ble_eq_true rfl) (Nat.le_of_ble_eq_true rfl) dX12_tellLong_6
set_option maxHeartbeats 4000000 in
set_option maxRecDepth 100000 in
theorem c358_X12_allForce (l : Launch) (hfl : l.stackTraces = false) (D : va_G) (cA : Nat → ClassId) (g : gv_T) (h0 h1 h2 h3 h4 h5 h6 h7 h8 h9 h10 h11 h12 h13 h14 h15 h16 h17 h18 : Nat) : CT l yX12_allForce cX12_allForce 4 (some .long) (RM 4 0 0 87) D cA g [.ref h0] [(h0, .inr (15, [.ref h1, .ref h2, .ref h3, .ref h4, .ref h5, .ref h6, .ref h7, .ref h8, .ref h9, .ref h10, .ref h11, .ref h12, .ref h13, .ref h14, .ref h15, .ref h16, .ref h17, .ref h18, .long 0, .int 0, .int 2, .int 0, .int 0, .int 0, .int 0, .int 0, .int 0])), (h2, .inr (2, [.int 0, .ref g.1, .int 0])), (h1, .inr (2, [.int 0, .ref g.1, .int 0])), (h5, .inl (cA 1, 512, .inr (.inl (fun _ => 0))))] (fun q => some (.long 0)) (fun q => [(h0, .inr (15, [.ref h1, .ref h2, .ref h3, .ref h4, .ref h5, .ref h6, .ref h7, .ref h8, .ref h9, .ref h10, .ref h11, .ref h12, .ref h13, .ref h14, .ref h15, .ref h16, .ref h17, .ref h18, .long 1, .int 0, .int 2, .int 0, .int 1, .int 0, .int 0, .int 0, .int 46])), (h2, .inr (2, [.int 0, .ref g.1, .int 0])), (h1, .inr (2, [.int 0, .ref g.1, .int 0])), (h5, .inl (cA 1, 512, .inr (.inl (vp_updL (vp_updL (fun _ => 0) 0 0) 0 1))))]) := by
  refine CT.of (by decide +kernel) (Nat.le_of_ble_eq_true rfl) ?_
  intro p e s m args below meth c A ls hx hb hr hml hown hG hlocks hnm hA hS hP hK hD hGV hl
  have hown : s.vm.findClass RX12 = some m.cls := hown
  have hl : lv_has ls 4 [(0, .ref h0)] := hl
  have hSF : CF p m c cX12_allForce 4 s args RX12 := ⟨hx, hb, hml, hown, hG⟩
  refine lv_aload_n hx hb dX12_allForce_0 rfl (lv_at hl 0 rfl) ?_
  refine ct_V (wr := []) hSF hl.1 hP hD hS hA hK hGV (c164_X12_stands l hfl D cA g h0 h1 h2 h3 h4 h5 h6 h7 h8 h9 h10 h11 h12 h13 h14 h15 h16 h17 h18) goV_X12_320 pd_X12_stands ⟨(Nat.le_of_ble_eq_true rfl), (Nat.le_of_ble_eq_true rfl)⟩ ⟨(Nat.le_of_ble_eq_true rfl), (Nat.le_of_ble_eq_true rfl)⟩ (va_recv hK hP (ci := 15) (q0 := 0) rfl rfl) dX12_allForce_1 rfl (Nat.le_of_ble_eq_true rfl) [0, 1, 2, 3] [] rfl (by decide) rfl (by decide) (by decide) (fun q => [(h0, .inr (15, [.ref h1, .ref h2, .ref h3, .ref h4, .ref h5, .ref h6, .ref h7, .ref h8, .ref h9, .ref h10, .ref h11, .ref h12, .ref h13, .ref h14, .ref h15, .ref h16, .ref h17, .ref h18, .long 1, .int 0, .int 2, .int 0, .int 1, .int 0, .int 0, .int 0, .int 46])), (h2, .inr (2, [.int 0, .ref g.1, .int 0])), (h1, .inr (2, [.int 0, .ref g.1, .int 0])), (h5, .inl (cA 1, 512, .inr (.inl (vp_updL (vp_updL (fun _ => 0) 0 0) 0 1))))]) (fun _ => rfl) (fun q1 H locs hP hD hS => ?_)
  refine W.eq (g2 := F0 m 4 ls [.int 1]) rfl ?_
  refine k_if_ne_t (tgt := 13) hx hb dX12_allForce_4 (by decide) (by decide) ?_
  refine lv_lconst (v := 0) hx hb dX12_allForce_13 (by decide) ?_
  refine lv_lstore_n (lv' := [(1, .long 0), (0, .ref h0)]) hx hb dX12_allForce_14 rfl hl (by decide) rfl (fun ls hl => ?_)
  refine lv_iconst (v := 0) hx hb dX12_allForce_15 (by decide) ?_
  refine lv_istore_n (lv' := [(3, .int 0), (1, .long 0), (0, .ref h0)]) hx hb dX12_allForce_16 rfl hl (by decide) rfl (fun ls hl => ?_)
  refine lv_iload_n hx hb dX12_allForce_17 rfl (lv_at hl 0 rfl) ?_
  refine lv_aload_n hx hb dX12_allForce_18 rfl (lv_at hl 2 rfl) ?_
  refine k_get (ci := 15) (C := RX12) (T := TX12) (N := 27) (v := .ref h2) hx hb hG inX12 hown hK hP 0 rfl rfl 1 (by decide) gw1220 rfl dX12_allForce_19 ?_
  refine ct_V (wr := [(h0, .inr (15, [.ref h1, .ref h2, .ref h3, .ref h4, .ref h5, .ref h6, .ref h7, .ref h8, .ref h9, .ref h10, .ref h11, .ref h12, .ref h13, .ref h14, .ref h15, .ref h16, .ref h17, .ref h18, .long 1, .int 0, .int 2, .int 0, .int 1, .int 0, .int 0, .int 0, .int 46])), (h1, .inr (2, [.int 0, .ref g.1, .int 0])), (h5, .inl (cA 1, 512, .inr (.inl (vp_updL (vp_updL (fun _ => 0) 0 0) 0 1))))]) hSF hl.1 hP hD hS hA hK hGV (c56_Jx4a65c_size_8abf5 l hfl D cA g h2) goV_X12_125 pd_Jx4a65c_size_8abf5 ⟨(Nat.le_of_ble_eq_true rfl), (Nat.le_of_ble_eq_true rfl)⟩ ⟨(Nat.le_of_ble_eq_true rfl), (Nat.le_of_ble_eq_true rfl)⟩ (va_recv hK hP (ci := 2) (q0 := 1) rfl rfl) dX12_allForce_22 rfl (Nat.le_of_ble_eq_true rfl) [1] [0, 2, 3] rfl (by decide) rfl (by decide) (by decide) (fun q => [(h0, .inr (15, [.ref h1, .ref h2, .ref h3, .ref h4, .ref h5, .ref h6, .ref h7, .ref h8, .ref h9, .ref h10, .ref h11, .ref h12, .ref h13, .ref h14, .ref h15, .ref h16, .ref h17, .ref h18, .long 1, .int 0, .int 2, .int 0, .int 1, .int 0, .int 0, .int 0, .int 46])), (h1, .inr (2, [.int 0, .ref g.1, .int 0])), (h5, .inl (cA 1, 512, .inr (.inl (vp_updL (vp_updL (fun _ => 0) 0 0) 0 1)))), (h2, .inr (2, [.int 0, .ref g.1, .int 0]))]) (fun _ => rfl) (fun q2 H locs hP hD hS => ?_)
  refine W.eq (g2 := F0 m 25 ls [.int 0, .int 0]) rfl ?_
  refine k_icmp_ge_t (tgt := 45) hx hb dX12_allForce_25 (by decide) (by decide) ?_
  refine lv_aload_n hx hb dX12_allForce_45 rfl (lv_at hl 2 rfl) ?_
  refine lv_lload_n hx hb dX12_allForce_46 rfl (lv_at hl 1 rfl) ?_
  refine ct_V (wr := [(h1, .inr (2, [.int 0, .ref g.1, .int 0])), (h5, .inl (cA 1, 512, .inr (.inl (vp_updL (vp_updL (fun _ => 0) 0 0) 0 1)))), (h2, .inr (2, [.int 0, .ref g.1, .int 0]))]) hSF hl.1 hP hD hS hA hK hGV (c357_X12_tellLong l hfl D cA g h0 h1 h2 h3 h4 h5 h6 h7 h8 h9 h10 h11 h12 h13 h14 h15 h16 h17 h18) goV_X12_326 pd_X12_tellLong ⟨(Nat.le_of_ble_eq_true rfl), (Nat.le_of_ble_eq_true rfl)⟩ ⟨(Nat.le_of_ble_eq_true rfl), (Nat.le_of_ble_eq_true rfl)⟩ (va_recv hK hP (ci := 15) (q0 := 0) rfl rfl) dX12_allForce_47 rfl (Nat.le_of_ble_eq_true rfl) [0] [1, 2, 3] rfl (by decide) rfl (by decide) (by decide) (fun q => [(h1, .inr (2, [.int 0, .ref g.1, .int 0])), (h5, .inl (cA 1, 512, .inr (.inl (vp_updL (vp_updL (fun _ => 0) 0 0) 0 1)))), (h2, .inr (2, [.int 0, .ref g.1, .int 0])), (h0, .inr (15, [.ref h1, .ref h2, .ref h3, .ref h4, .ref h5, .ref h6, .ref h7, .ref h8, .ref h9, .ref h10, .ref h11, .ref h12, .ref h13, .ref h14, .ref h15, .ref h16, .ref h17, .ref h18, .long 1, .int 0, .int 2, .int 0, .int 1, .int 0, .int 0, .int 0, .int 46]))]) (fun _ => rfl) (fun q3 H locs hP hD hS => ?_)
  refine W.eq (g2 := F0 m 50 ls [.long 0]) rfl ?_
  exact e_l (fun _ => 0) hx hb hr hlocks rfl (hP.sub [3, 2, 0, 1] rfl) (hD.sub [3, 2, 0, 1] (by decide) rfl) hS (Nat.le_of_ble_eq_true rfl) (Nat.le_of_ble_eq_true rfl) dX12_allForce_50
set_option maxHeartbeats 4000000 in
set_option maxRecDepth 100000 in
theorem c359_X6_rightShare (l : Launch) (hfl : l.stackTraces = false) (D : va_G) (cA : Nat → ClassId) (g : gv_T) (h0 h1 h2 h3 h4 h5 h6 h7 h8 h9 h10 : Nat) : CX l yX6_rightShare cX6_rightShare 3 (some .float) (RM 6 1 6 95) D cA g [.ref h0] [(h0, .inr (9, [.ref h1, .ref h2, .ref h3, .ref h4, .ref h5])), (h3, .inr (6, [.int 0, .ref h6, .ref h7, .ref h8, .ref h9, .ref h10]))] "java/lang/ArithmeticException" (fun q => [(h0, .inr (9, [.ref h1, .ref h2, .ref h3, .ref h4, .ref h5])), (h3, .inr (6, [.int 0, .ref h6, .ref h7, .ref h8, .ref h9, .ref h10]))]) := by
  refine CX.of (by decide +kernel) (Nat.le_of_ble_eq_true rfl) ?_
  intro p e s m args below meth c A ls hx hb hr hml hown hG hlocks htab hA hS hP hK hD hGV hl
  have hown : s.vm.findClass RX6 = some m.cls := hown
  have hl : lv_has ls 3 [(0, .ref h0)] := hl
  have hSF : CF p m c cX6_rightShare 3 s args RX6 := ⟨hx, hb, hml, hown, hG⟩
  refine lv_aload_n hx hb dX6_rightShare_0 rfl (lv_at hl 0 rfl) ?_
  refine k_get (ci := 9) (C := RX6) (T := TX6) (N := 5) (v := .ref h3) hx hb hG inX6 hown hK hP 0 rfl rfl 2 (by decide) gw365 rfl dX6_rightShare_1 ?_
  refine k_get (ci := 6) (C := RX3) (T := TX3) (N := 6) (v := .int 0) hx hb hG inX3 hown hK hP 1 rfl rfl 0 (by decide) gw260 rfl dX6_rightShare_4 ?_
  refine k_if_ne_f (tgt := 20) hx hb dX6_rightShare_7 (by decide) (by decide) ?_
  exact e_throw (fun _ => 0) (names := ["java/lang/RuntimeException", "java/lang/Exception"]) 17 hx hb hfl hown hG hGV htab hlocks (hl.1.trans hml.symm) (by decide +kernel) (by decide +kernel) gw1172 gw111 rfl xat_X6_268 hP hD hS dX6_rightShare_10 dX6_rightShare_13 dX6_rightShare_14 dX6_rightShare_16 dX6_rightShare_19 (Nat.le_of_ble_eq_true rfl) (Nat.le_of_ble_eq_true rfl) (Nat.le_of_ble_eq_true rfl) (Nat.le_of_ble_eq_true rfl) (Nat.le_of_ble_eq_true rfl) (Nat.le_of_ble_eq_true rfl)
set_option maxHeartbeats 4000000 in
set_option maxRecDepth 100000 in
theorem c360_L_rightShare (l : Launch) (hfl : l.stackTraces = false) (D : va_G) (cA : Nat → ClassId) (g : gv_T) (h0 h1 h2 h3 h4 h5 h6 h7 h8 h9 h10 h11 : Nat) : CW l yL_rightShare cL_rightShare 3 (some .int) [(0, 8, 11, 109)] (RM 7 1 6 117) D cA g [.ref h0, .ref h1] [(h0, .inr (9, [.ref h2, .ref h3, .ref h4, .ref h5, .ref h6])), (h4, .inr (6, [.int 0, .ref h7, .ref h8, .ref h9, .ref h10, .ref h11]))] (fun q => some (.int 1)) (fun q => [(h0, .inr (9, [.ref h2, .ref h3, .ref h4, .ref h5, .ref h6])), (h4, .inr (6, [.int 0, .ref h7, .ref h8, .ref h9, .ref h10, .ref h11]))]) := by
  refine CW.of (by decide +kernel) (Nat.le_of_ble_eq_true rfl) ?_
  intro p e s m args below meth c A ls hx hb hr hml hown hG hlocks htab hA hS hP hK hD hGV hl
  have hown : s.vm.findClass RL = some m.cls := hown
  have hl : lv_has ls 3 [(0, .ref h0), (1, .ref h1)] := hl
  have hSF : CF p m c cL_rightShare 3 s args RL := ⟨hx, hb, hml, hown, hG⟩
  refine lv_aload_n hx hb dL_rightShare_0 rfl (lv_at hl 1 rfl) ?_
  refine lv_iconst (v := 0) hx hb dL_rightShare_1 (by decide) ?_
  refine lv_aload_n hx hb dL_rightShare_2 rfl (lv_at hl 0 rfl) ?_
  refine cx_V (wr := []) hSF hl.1 hP hD hS hA hK hGV (c359_X6_rightShare l hfl D cA g h0 h2 h3 h4 h5 h6 h7 h8 h9 h10 h11) goV_L_105 pd_X6_rightShare ⟨(Nat.le_of_ble_eq_true rfl), (Nat.le_of_ble_eq_true rfl)⟩ ⟨(Nat.le_of_ble_eq_true rfl), (Nat.le_of_ble_eq_true rfl)⟩ (va_recv hK hP (ci := 9) (q0 := 0) rfl rfl) dL_rightShare_3 rfl (Nat.le_of_ble_eq_true rfl) [0, 1] [] rfl (by decide) rfl (by decide) (by decide) (fun q => [(h0, .inr (9, [.ref h2, .ref h3, .ref h4, .ref h5, .ref h6])), (h4, .inr (6, [.int 0, .ref h7, .ref h8, .ref h9, .ref h10, .ref h11]))]) (fun _ => rfl) (fun q1 H locs x9 ce9 hP hD hS h9 hv9 hcl9 => ?_)
  refine vx_catch (own := RL) (name := "java/lang/ArithmeticException") hown [] { startPc := 0, endPc := 8, handlerPc := 11, catchType := 109 } [] (htab.trans rfl) (fun z hz => nomatch hz) rfl (by decide) (hG _ gw1154) (va_Nw.use rfl (hGV.2.2.2.2.1 _ gw1166)) h9 hv9 hcl9 ?_
  refine W.eq (g2 := F0 m 11 ls [.ref x9]) rfl ?_
  refine lv_astore_n (lv' := [(2, .ref x9), (0, .ref h0), (1, .ref h1)]) hx hb dL_rightShare_11 rfl hl (by decide) rfl (fun ls hl => ?_)
  refine lv_iconst (v := 1) hx hb dL_rightShare_12 (by decide) ?_
  exact e_i (fun _ => 0) hx hb hr hlocks rfl rfl hP hD hS (Nat.le_of_ble_eq_true rfl) (Nat.le_of_ble_eq_true rfl) dL_rightShare_13
set_option maxHeartbeats 4000000 in
set_option maxRecDepth 100000 in
theorem c361_Jx4a65c_isEmpty_aae02 (l : Launch) (hfl : l.stackTraces = false) (D : va_G) (cA : Nat → ClassId) (g : gv_T) (h0 : Nat) : CT l yJx4a65c_isEmpty_aae02 cJx4a65c_isEmpty_aae02 1 (some .boolean) (RM 0 0 0 0) D cA g [.ref h0] [(h0, .inr (2, [.int 0, .ref g.1, .int 0]))] (fun q => some (.int 1)) (fun q => [(h0, .inr (2, [.int 0, .ref g.1, .int 0]))]) := by
  refine CT.of (by decide +kernel) (Nat.le_of_ble_eq_true rfl) ?_
  intro p e s m args below meth c A ls hx hb hr hml hown hG hlocks hnm hA hS hP hK hD hGV hl
  have hown : s.vm.findClass RJx4a65c = some m.cls := hown
  have hl : lv_has ls 1 [(0, .ref h0)] := hl
  have hSF : CF p m c cJx4a65c_isEmpty_aae02 1 s args RJx4a65c := ⟨hx, hb, hml, hown, hG⟩
  refine lv_aload_n hx hb dJx4a65c_isEmpty_aae02_0 rfl (lv_at hl 0 rfl) ?_
  refine k_get (ci := 2) (C := RJx4a65c) (T := TJx4a65c) (N := 3) (v := .int 0) hx hb hG inJx4a65c hown hK hP 0 rfl rfl 2 (by decide) gw1208 rfl dJx4a65c_isEmpty_aae02_1 ?_
  refine k_if_ne_f (tgt := 11) hx hb dJx4a65c_isEmpty_aae02_4 (by decide) (by decide) ?_
  refine lv_iconst (v := 1) hx hb dJx4a65c_isEmpty_aae02_7 (by decide) ?_
  refine lv_goto (tgt := 12) hx hb dJx4a65c_isEmpty_aae02_8 (by decide) ?_
  exact e_i (fun _ => 0) hx hb hr hlocks rfl rfl hP hD hS (Nat.le_of_ble_eq_true rfl) (Nat.le_of_ble_eq_true rfl) dJx4a65c_isEmpty_aae02_12
set_option maxHeartbeats 4000000 in
set_option maxRecDepth 100000 in
theorem c362_X12_rightShare (l : Launch) (hfl : l.stackTraces = false) (D : va_G) (cA : Nat → ClassId) (g : gv_T) (h0 h1 h2 h3 h4 h5 h6 h7 h8 h9 h10 h11 h12 h13 h14 h15 h16 h17 h18 : Nat) : CT l yX12_rightShare cX12_rightShare 3 (some .float) (RM 1 0 0 20) D cA g [.ref h0] [(h0, .inr (15, [.ref h1, .ref h2, .ref h3, .ref h4, .ref h5, .ref h6, .ref h7, .ref h8, .ref h9, .ref h10, .ref h11, .ref h12, .ref h13, .ref h14, .ref h15, .ref h16, .ref h17, .ref h18, .long 0, .int 0, .int 2, .int 0, .int 0, .int 0, .int 0, .int 0, .int 0])), (h3, .inr (2, [.int 0, .ref g.1, .int 0]))] (fun q => some (.float FP.fconst0)) (fun q => [(h0, .inr (15, [.ref h1, .ref h2, .ref h3, .ref h4, .ref h5, .ref h6, .ref h7, .ref h8, .ref h9, .ref h10, .ref h11, .ref h12, .ref h13, .ref h14, .ref h15, .ref h16, .ref h17, .ref h18, .long 0, .int 1, .int 2, .int 0, .int 0, .int 0, .int 0, .int 0, .int 0])), (h3, .inr (2, [.int 0, .ref g.1, .int 0]))]) := by
  refine CT.of (by decide +kernel) (Nat.le_of_ble_eq_true rfl) ?_
  intro p e s m args below meth c A ls hx hb hr hml hown hG hlocks hnm hA hS hP hK hD hGV hl
  have hown : s.vm.findClass RX12 = some m.cls := hown
  have hl : lv_has ls 3 [(0, .ref h0)] := hl
  have hSF : CF p m c cX12_rightShare 3 s args RX12 := ⟨hx, hb, hml, hown, hG⟩
  refine lv_iconst (v := 0) hx hb dX12_rightShare_0 (by decide) ?_
  refine lv_istore_n (lv' := [(1, .int 0), (0, .ref h0)]) hx hb dX12_rightShare_1 rfl hl (by decide) rfl (fun ls hl => ?_)
  refine lv_iconst (v := 0) hx hb dX12_rightShare_2 (by decide) ?_
  refine lv_istore_n (lv' := [(2, .int 0), (1, .int 0), (0, .ref h0)]) hx hb dX12_rightShare_3 rfl hl (by decide) rfl (fun ls hl => ?_)
  refine lv_iload_n hx hb dX12_rightShare_4 rfl (lv_at hl 0 rfl) ?_
  refine lv_aload_n hx hb dX12_rightShare_5 rfl (lv_at hl 2 rfl) ?_
  refine k_get (ci := 15) (C := RX12) (T := TX12) (N := 27) (v := .ref h3) hx hb hG inX12 hown hK hP 0 rfl rfl 2 (by decide) gw1221 rfl dX12_rightShare_6 ?_
  refine ct_V (wr := [(h0, .inr (15, [.ref h1, .ref h2, .ref h3, .ref h4, .ref h5, .ref h6, .ref h7, .ref h8, .ref h9, .ref h10, .ref h11, .ref h12, .ref h13, .ref h14, .ref h15, .ref h16, .ref h17, .ref h18, .long 0, .int 0, .int 2, .int 0, .int 0, .int 0, .int 0, .int 0, .int 0]))]) hSF hl.1 hP hD hS hA hK hGV (c56_Jx4a65c_size_8abf5 l hfl D cA g h3) goV_X12_125 pd_Jx4a65c_size_8abf5 ⟨(Nat.le_of_ble_eq_true rfl), (Nat.le_of_ble_eq_true rfl)⟩ ⟨(Nat.le_of_ble_eq_true rfl), (Nat.le_of_ble_eq_true rfl)⟩ (va_recv hK hP (ci := 2) (q0 := 1) rfl rfl) dX12_rightShare_9 rfl (Nat.le_of_ble_eq_true rfl) [1] [0] rfl (by decide) rfl (by decide) (by decide) (fun q => [(h0, .inr (15, [.ref h1, .ref h2, .ref h3, .ref h4, .ref h5, .ref h6, .ref h7, .ref h8, .ref h9, .ref h10, .ref h11, .ref h12, .ref h13, .ref h14, .ref h15, .ref h16, .ref h17, .ref h18, .long 0, .int 0, .int 2, .int 0, .int 0, .int 0, .int 0, .int 0, .int 0])), (h3, .inr (2, [.int 0, .ref g.1, .int 0]))]) (fun _ => rfl) (fun q1 H locs hP hD hS => ?_)
  refine W.eq (g2 := F0 m 12 ls [.int 0, .int 0]) rfl ?_
  refine k_icmp_ge_t (tgt := 47) hx hb dX12_rightShare_12 (by decide) (by decide) ?_
  refine lv_aload_n hx hb dX12_rightShare_47 rfl (lv_at hl 2 rfl) ?_
  refine lv_aload_n hx hb dX12_rightShare_48 rfl (lv_at hl 2 rfl) ?_
  refine k_get (ci := 15) (C := RX12) (T := TX12) (N := 27) (v := .ref h3) hx hb hG inX12 hown hK hP 0 rfl rfl 2 (by decide) gw1221 rfl dX12_rightShare_49 ?_
  refine ct_V (wr := [(h0, .inr (15, [.ref h1, .ref h2, .ref h3, .ref h4, .ref h5, .ref h6, .ref h7, .ref h8, .ref h9, .ref h10, .ref h11, .ref h12, .ref h13, .ref h14, .ref h15, .ref h16, .ref h17, .ref h18, .long 0, .int 0, .int 2, .int 0, .int 0, .int 0, .int 0, .int 0, .int 0]))]) hSF hl.1 hP hD hS hA hK hGV (c361_Jx4a65c_isEmpty_aae02 l hfl D cA g h3) goV_X12_401 pd_Jx4a65c_isEmpty_aae02 ⟨(Nat.le_of_ble_eq_true rfl), (Nat.le_of_ble_eq_true rfl)⟩ ⟨(Nat.le_of_ble_eq_true rfl), (Nat.le_of_ble_eq_true rfl)⟩ (va_recv hK hP (ci := 2) (q0 := 1) rfl rfl) dX12_rightShare_52 rfl (Nat.le_of_ble_eq_true rfl) [1] [0] rfl (by decide) rfl (by decide) (by decide) (fun q => [(h0, .inr (15, [.ref h1, .ref h2, .ref h3, .ref h4, .ref h5, .ref h6, .ref h7, .ref h8, .ref h9, .ref h10, .ref h11, .ref h12, .ref h13, .ref h14, .ref h15, .ref h16, .ref h17, .ref h18, .long 0, .int 0, .int 2, .int 0, .int 0, .int 0, .int 0, .int 0, .int 0])), (h3, .inr (2, [.int 0, .ref g.1, .int 0]))]) (fun _ => rfl) (fun q2 H locs hP hD hS => ?_)
  refine W.eq (g2 := F0 m 55 ls [.int 1, .ref h0]) rfl ?_
  refine k_if_eq_f (tgt := 62) hx hb dX12_rightShare_55 (by decide) (by decide) ?_
  refine lv_iconst (v := 1) hx hb dX12_rightShare_58 (by decide) ?_
  refine lv_goto (tgt := 63) hx hb dX12_rightShare_59 (by decide) ?_
  refine k_put (ci := 15) (C := RX12) (T := TX12) (N := 27) (v := .int 1) (ws1 := [(h0, .inr (15, [.ref h1, .ref h2, .ref h3, .ref h4, .ref h5, .ref h6, .ref h7, .ref h8, .ref h9, .ref h10, .ref h11, .ref h12, .ref h13, .ref h14, .ref h15, .ref h16, .ref h17, .ref h18, .long 0, .int 1, .int 2, .int 0, .int 0, .int 0, .int 0, .int 0, .int 0])), (h3, .inr (2, [.int 0, .ref g.1, .int 0]))]) hx hb hG inX12 tyX12 tyX12_ok nmX12 hown hK hP hD hS 0 rfl rfl 19 (by decide) gw1238 rfl ⟨rfl, rfl⟩ rfl (Nat.le_of_ble_eq_true rfl) dX12_rightShare_63 (fun H locs hP hD hS => ?_)
  refine lv_aload_n hx hb dX12_rightShare_66 rfl (lv_at hl 2 rfl) ?_
  refine k_get (ci := 15) (C := RX12) (T := TX12) (N := 27) (v := .int 1) hx hb hG inX12 hown hK hP 0 rfl rfl 19 (by decide) gw1238 rfl dX12_rightShare_67 ?_
  refine k_if_le_f (tgt := 77) hx hb dX12_rightShare_70 (by decide) (by decide) ?_
  refine lv_fconst0 hx hb dX12_rightShare_73 ?_
  refine lv_goto (tgt := 88) hx hb dX12_rightShare_74 (by decide) ?_
  exact e_f (fun _ => 0) hx hb hr hlocks rfl hP hD hS (Nat.le_of_ble_eq_true rfl) (Nat.le_of_ble_eq_true rfl) dX12_rightShare_88
set_option maxHeartbeats 4000000 in
set_option maxRecDepth 100000 in
theorem c363_X6_meanPull (l : Launch) (hfl : l.stackTraces = false) (D : va_G) (cA : Nat → ClassId) (g : gv_T) (h0 h1 h2 h3 h4 h5 h6 h7 h8 h9 h10 h11 h12 h13 h14 h15 h16 h17 h18 h19 h20 h21 h22 h23 h24 h25 h26 h27 h28 h29 h30 : Nat) : CX l yX6_meanPull cX6_meanPull 1 (some .double) (RM 6 1 6 110) D cA g [.ref h0] [(h0, .inr (9, [.ref h1, .ref h2, .ref h3, .ref h4, .ref h5])), (h2, .inr (4, [.int 0, .int 0, .long 0, .ref h6, .ref h7, .ref h8, .ref h9, .ref h10, .ref h11, .ref h12, .ref h13, .ref h14, .ref h15, .ref h16, .ref h17, .ref h18, .ref h19])), (h1, .inr (5, [.int 0, .int 0, .ref h20, .ref h21, .ref h22, .ref h23, .ref h24, .ref h25, .ref h26, .ref h27, .ref h28, .ref h29])), (h12, .inl (cA 1, 512, .inr (.inl (fun _ => 0)))), (h16, .inr (8, [.ref h30])), (h30, .inl (cA 1, 8, .inr (.inl (fun _ => 0))))] "java/lang/ArithmeticException" (fun q => [(h0, .inr (9, [.ref h1, .ref h2, .ref h3, .ref h4, .ref h5])), (h2, .inr (4, [.int 1, .int 46, .long 1, .ref h6, .ref h7, .ref h8, .ref h9, .ref h10, .ref h11, .ref h12, .ref h13, .ref h14, .ref h15, .ref h16, .ref h17, .ref h18, .ref h19])), (h1, .inr (5, [.int 0, .int 0, .ref h20, .ref h21, .ref h22, .ref h23, .ref h24, .ref h25, .ref h26, .ref h27, .ref h28, .ref h29])), (h12, .inl (cA 1, 512, .inr (.inl (vp_updL (fun _ => 0) 0 1)))), (h16, .inr (8, [.ref h30])), (h30, .inl (cA 1, 8, .inr (.inl (vp_updL (vp_updL (vp_updL (vp_updL (vp_updL (vp_updL (vp_updL (vp_updL (fun _ => 0) 2 0) 3 0) 4 0) 5 0) 6 0) 7 0) 0 1) 1 0))))]) := by
  refine CX.of (by decide +kernel) (Nat.le_of_ble_eq_true rfl) ?_
  intro p e s m args below meth c A ls hx hb hr hml hown hG hlocks htab hA hS hP hK hD hGV hl
  have hown : s.vm.findClass RX6 = some m.cls := hown
  have hl : lv_has ls 1 [(0, .ref h0)] := hl
  have hSF : CF p m c cX6_meanPull 1 s args RX6 := ⟨hx, hb, hml, hown, hG⟩
  refine lv_aload_n hx hb dX6_meanPull_0 rfl (lv_at hl 0 rfl) ?_
  refine ct_V (wr := []) hSF hl.1 hP hD hS hA hK hGV (c158_X6_checkStanding l hfl D cA g h0 h1 h2 h3 h4 h5 h6 h7 h8 h9 h10 h11 h12 h13 h14 h15 h16 h17 h18 h19 h20 h21 h22 h23 h24 h25 h26 h27 h28 h29 h30) goV_X6_121 pd_X6_checkStanding ⟨(Nat.le_of_ble_eq_true rfl), (Nat.le_of_ble_eq_true rfl)⟩ ⟨(Nat.le_of_ble_eq_true rfl), (Nat.le_of_ble_eq_true rfl)⟩ (va_recv hK hP (ci := 9) (q0 := 0) rfl rfl) dX6_meanPull_1 rfl (Nat.le_of_ble_eq_true rfl) [0, 1, 2, 3, 4, 5] [] rfl (by decide) rfl (by decide) (by decide) (fun q => [(h0, .inr (9, [.ref h1, .ref h2, .ref h3, .ref h4, .ref h5])), (h2, .inr (4, [.int 1, .int 46, .long 1, .ref h6, .ref h7, .ref h8, .ref h9, .ref h10, .ref h11, .ref h12, .ref h13, .ref h14, .ref h15, .ref h16, .ref h17, .ref h18, .ref h19])), (h1, .inr (5, [.int 0, .int 0, .ref h20, .ref h21, .ref h22, .ref h23, .ref h24, .ref h25, .ref h26, .ref h27, .ref h28, .ref h29])), (h12, .inl (cA 1, 512, .inr (.inl (vp_updL (fun _ => 0) 0 1)))), (h16, .inr (8, [.ref h30])), (h30, .inl (cA 1, 8, .inr (.inl (vp_updL (vp_updL (vp_updL (vp_updL (vp_updL (vp_updL (vp_updL (vp_updL (fun _ => 0) 2 0) 3 0) 4 0) 5 0) 6 0) 7 0) 0 1) 1 0))))]) (fun _ => rfl) (fun q1 H locs hP hD hS => ?_)
  refine W.eq (g2 := F0 m 4 ls []) rfl ?_
  refine lv_aload_n hx hb dX6_meanPull_4 rfl (lv_at hl 0 rfl) ?_
  refine k_get (ci := 9) (C := RX6) (T := TX6) (N := 5) (v := .ref h1) hx hb hG inX6 hown hK hP 0 rfl rfl 0 (by decide) gw363 rfl dX6_meanPull_5 ?_
  refine k_get (ci := 5) (C := RX2) (T := TX2) (N := 12) (v := .int 0) hx hb hG inX2 hown hK hP 2 rfl rfl 1 (by decide) gw131 rfl dX6_meanPull_8 ?_
  refine k_if_ne_f (tgt := 24) hx hb dX6_meanPull_11 (by decide) (by decide) ?_
  exact e_throw (fun _ => 0) (names := ["java/lang/RuntimeException", "java/lang/Exception"]) 10 hx hb hfl hown hG hGV htab hlocks (hl.1.trans hml.symm) (by decide +kernel) (by decide +kernel) gw1172 gw111 rfl xat_X6_268 hP hD hS dX6_meanPull_14 dX6_meanPull_17 dX6_meanPull_18 dX6_meanPull_20 dX6_meanPull_23 (Nat.le_of_ble_eq_true rfl) (Nat.le_of_ble_eq_true rfl) (Nat.le_of_ble_eq_true rfl) (Nat.le_of_ble_eq_true rfl) (Nat.le_of_ble_eq_true rfl) (Nat.le_of_ble_eq_true rfl)
set_option maxHeartbeats 4000000 in
set_option maxRecDepth 100000 in
theorem c364_L_meanPull (l : Launch) (hfl : l.stackTraces = false) (D : va_G) (cA : Nat → ClassId) (g : gv_T) (h0 h1 h2 h3 h4 h5 h6 h7 h8 h9 h10 h11 h12 h13 h14 h15 h16 h17 h18 h19 h20 h21 h22 h23 h24 h25 h26 h27 h28 h29 h30 h31 : Nat) : CW l yL_meanPull cL_meanPull 3 (some .int) [(0, 7, 10, 15), (0, 7, 13, 109)] (RM 7 1 6 130) D cA g [.ref h0, .ref h1] [(h0, .inr (9, [.ref h2, .ref h3, .ref h4, .ref h5, .ref h6])), (h3, .inr (4, [.int 0, .int 0, .long 0, .ref h7, .ref h8, .ref h9, .ref h10, .ref h11, .ref h12, .ref h13, .ref h14, .ref h15, .ref h16, .ref h17, .ref h18, .ref h19, .ref h20])), (h2, .inr (5, [.int 0, .int 0, .ref h21, .ref h22, .ref h23, .ref h24, .ref h25, .ref h26, .ref h27, .ref h28, .ref h29, .ref h30])), (h13, .inl (cA 1, 512, .inr (.inl (fun _ => 0)))), (h17, .inr (8, [.ref h31])), (h31, .inl (cA 1, 8, .inr (.inl (fun _ => 0))))] (fun q => some (.int 2)) (fun q => [(h0, .inr (9, [.ref h2, .ref h3, .ref h4, .ref h5, .ref h6])), (h3, .inr (4, [.int 1, .int 46, .long 1, .ref h7, .ref h8, .ref h9, .ref h10, .ref h11, .ref h12, .ref h13, .ref h14, .ref h15, .ref h16, .ref h17, .ref h18, .ref h19, .ref h20])), (h2, .inr (5, [.int 0, .int 0, .ref h21, .ref h22, .ref h23, .ref h24, .ref h25, .ref h26, .ref h27, .ref h28, .ref h29, .ref h30])), (h13, .inl (cA 1, 512, .inr (.inl (vp_updL (fun _ => 0) 0 1)))), (h17, .inr (8, [.ref h31])), (h31, .inl (cA 1, 8, .inr (.inl (vp_updL (vp_updL (vp_updL (vp_updL (vp_updL (vp_updL (vp_updL (vp_updL (fun _ => 0) 2 0) 3 0) 4 0) 5 0) 6 0) 7 0) 0 1) 1 0))))]) := by
  refine CW.of (by decide +kernel) (Nat.le_of_ble_eq_true rfl) ?_
  intro p e s m args below meth c A ls hx hb hr hml hown hG hlocks htab hA hS hP hK hD hGV hl
  have hown : s.vm.findClass RL = some m.cls := hown
  have hl : lv_has ls 3 [(0, .ref h0), (1, .ref h1)] := hl
  have hSF : CF p m c cL_meanPull 3 s args RL := ⟨hx, hb, hml, hown, hG⟩
  refine lv_aload_n hx hb dL_meanPull_0 rfl (lv_at hl 1 rfl) ?_
  refine lv_iconst (v := 0) hx hb dL_meanPull_1 (by decide) ?_
  refine lv_aload_n hx hb dL_meanPull_2 rfl (lv_at hl 0 rfl) ?_
  refine cx_V (wr := []) hSF hl.1 hP hD hS hA hK hGV (c363_X6_meanPull l hfl D cA g h0 h2 h3 h4 h5 h6 h7 h8 h9 h10 h11 h12 h13 h14 h15 h16 h17 h18 h19 h20 h21 h22 h23 h24 h25 h26 h27 h28 h29 h30 h31) goV_L_111 pd_X6_meanPull ⟨(Nat.le_of_ble_eq_true rfl), (Nat.le_of_ble_eq_true rfl)⟩ ⟨(Nat.le_of_ble_eq_true rfl), (Nat.le_of_ble_eq_true rfl)⟩ (va_recv hK hP (ci := 9) (q0 := 0) rfl rfl) dL_meanPull_3 rfl (Nat.le_of_ble_eq_true rfl) [0, 1, 2, 3, 4, 5] [] rfl (by decide) rfl (by decide) (by decide) (fun q => [(h0, .inr (9, [.ref h2, .ref h3, .ref h4, .ref h5, .ref h6])), (h3, .inr (4, [.int 1, .int 46, .long 1, .ref h7, .ref h8, .ref h9, .ref h10, .ref h11, .ref h12, .ref h13, .ref h14, .ref h15, .ref h16, .ref h17, .ref h18, .ref h19, .ref h20])), (h2, .inr (5, [.int 0, .int 0, .ref h21, .ref h22, .ref h23, .ref h24, .ref h25, .ref h26, .ref h27, .ref h28, .ref h29, .ref h30])), (h13, .inl (cA 1, 512, .inr (.inl (vp_updL (fun _ => 0) 0 1)))), (h17, .inr (8, [.ref h31])), (h31, .inl (cA 1, 8, .inr (.inl (vp_updL (vp_updL (vp_updL (vp_updL (vp_updL (vp_updL (vp_updL (vp_updL (fun _ => 0) 2 0) 3 0) 4 0) 5 0) 6 0) 7 0) 0 1) 1 0))))]) (fun _ => rfl) (fun q1 H locs x9 ce9 hP hD hS h9 hv9 hcl9 => ?_)
  refine vx_catch (own := RL) (name := "java/lang/ArithmeticException") hown [{ startPc := 0, endPc := 7, handlerPc := 10, catchType := 15 }] { startPc := 0, endPc := 7, handlerPc := 13, catchType := 109 } [] (htab.trans rfl) (fun z hz => by rcases List.mem_singleton.mp hz with rfl; exact Or.inr ⟨by decide, "java/lang/IllegalStateException", hG _ gw573, hGV.2.2.2.2.2.1 ("java/lang/ArithmeticException", "java/lang/IllegalStateException") (by decide)⟩) rfl (by decide) (hG _ gw1154) (va_Nw.use rfl (hGV.2.2.2.2.1 _ gw1166)) h9 hv9 hcl9 ?_
  refine W.eq (g2 := F0 m 13 ls [.ref x9]) rfl ?_
  refine lv_astore_n (lv' := [(2, .ref x9), (0, .ref h0), (1, .ref h1)]) hx hb dL_meanPull_13 rfl hl (by decide) rfl (fun ls hl => ?_)
  refine lv_iconst (v := 2) hx hb dL_meanPull_14 (by decide) ?_
  exact e_i (fun _ => 0) hx hb hr hlocks rfl rfl hP hD hS (Nat.le_of_ble_eq_true rfl) (Nat.le_of_ble_eq_true rfl) dL_meanPull_15
set_option maxHeartbeats 4000000 in
set_option maxRecDepth 100000 in
theorem c365_X12_meanPull (l : Launch) (hfl : l.stackTraces = false) (D : va_G) (cA : Nat → ClassId) (g : gv_T) (h0 h1 h2 h3 h4 h5 h6 h7 h8 h9 h10 h11 h12 h13 h14 h15 h16 h17 h18 : Nat) : CT l yX12_meanPull cX12_meanPull 4 (some .double) (RM 4 0 0 87) D cA g [.ref h0] [(h0, .inr (15, [.ref h1, .ref h2, .ref h3, .ref h4, .ref h5, .ref h6, .ref h7, .ref h8, .ref h9, .ref h10, .ref h11, .ref h12, .ref h13, .ref h14, .ref h15, .ref h16, .ref h17, .ref h18, .long 0, .int 0, .int 2, .int 0, .int 0, .int 0, .int 0, .int 0, .int 0])), (h2, .inr (2, [.int 0, .ref g.1, .int 0])), (h1, .inr (2, [.int 0, .ref g.1, .int 0])), (h5, .inl (cA 1, 512, .inr (.inl (fun _ => 0))))] (fun q => some (.double FP.dconst0)) (fun q => [(h0, .inr (15, [.ref h1, .ref h2, .ref h3, .ref h4, .ref h5, .ref h6, .ref h7, .ref h8, .ref h9, .ref h10, .ref h11, .ref h12, .ref h13, .ref h14, .ref h15, .ref h16, .ref h17, .ref h18, .long 1, .int 2, .int 2, .int 0, .int 1, .int 0, .int 0, .int 0, .int 46])), (h2, .inr (2, [.int 0, .ref g.1, .int 0])), (h1, .inr (2, [.int 0, .ref g.1, .int 0])), (h5, .inl (cA 1, 512, .inr (.inl (vp_updL (vp_updL (fun _ => 0) 0 0) 0 1))))]) := by
  refine CT.of (by decide +kernel) (Nat.le_of_ble_eq_true rfl) ?_
  intro p e s m args below meth c A ls hx hb hr hml hown hG hlocks hnm hA hS hP hK hD hGV hl
  have hown : s.vm.findClass RX12 = some m.cls := hown
  have hl : lv_has ls 4 [(0, .ref h0)] := hl
  have hSF : CF p m c cX12_meanPull 4 s args RX12 := ⟨hx, hb, hml, hown, hG⟩
  refine lv_aload_n hx hb dX12_meanPull_0 rfl (lv_at hl 0 rfl) ?_
  refine lv_aload_n hx hb dX12_meanPull_1 rfl (lv_at hl 0 rfl) ?_
  refine ct_V (wr := []) hSF hl.1 hP hD hS hA hK hGV (c164_X12_stands l hfl D cA g h0 h1 h2 h3 h4 h5 h6 h7 h8 h9 h10 h11 h12 h13 h14 h15 h16 h17 h18) goV_X12_320 pd_X12_stands ⟨(Nat.le_of_ble_eq_true rfl), (Nat.le_of_ble_eq_true rfl)⟩ ⟨(Nat.le_of_ble_eq_true rfl), (Nat.le_of_ble_eq_true rfl)⟩ (va_recv hK hP (ci := 15) (q0 := 0) rfl rfl) dX12_meanPull_2 rfl (Nat.le_of_ble_eq_true rfl) [0, 1, 2, 3] [] rfl (by decide) rfl (by decide) (by decide) (fun q => [(h0, .inr (15, [.ref h1, .ref h2, .ref h3, .ref h4, .ref h5, .ref h6, .ref h7, .ref h8, .ref h9, .ref h10, .ref h11, .ref h12, .ref h13, .ref h14, .ref h15, .ref h16, .ref h17, .ref h18, .long 1, .int 0, .int 2, .int 0, .int 1, .int 0, .int 0, .int 0, .int 46])), (h2, .inr (2, [.int 0, .ref g.1, .int 0])), (h1, .inr (2, [.int 0, .ref g.1, .int 0])), (h5, .inl (cA 1, 512, .inr (.inl (vp_updL (vp_updL (fun _ => 0) 0 0) 0 1))))]) (fun _ => rfl) (fun q1 H locs hP hD hS => ?_)
  refine W.eq (g2 := F0 m 5 ls [.int 1, .ref h0]) rfl ?_
  refine k_if_ne_t (tgt := 12) hx hb dX12_meanPull_5 (by decide) (by decide) ?_
  refine lv_aload_n hx hb dX12_meanPull_12 rfl (lv_at hl 0 rfl) ?_
  refine k_get (ci := 15) (C := RX12) (T := TX12) (N := 27) (v := .ref h2) hx hb hG inX12 hown hK hP 0 rfl rfl 1 (by decide) gw1220 rfl dX12_meanPull_13 ?_
  refine ct_V (wr := [(h0, .inr (15, [.ref h1, .ref h2, .ref h3, .ref h4, .ref h5, .ref h6, .ref h7, .ref h8, .ref h9, .ref h10, .ref h11, .ref h12, .ref h13, .ref h14, .ref h15, .ref h16, .ref h17, .ref h18, .long 1, .int 0, .int 2, .int 0, .int 1, .int 0, .int 0, .int 0, .int 46])), (h1, .inr (2, [.int 0, .ref g.1, .int 0])), (h5, .inl (cA 1, 512, .inr (.inl (vp_updL (vp_updL (fun _ => 0) 0 0) 0 1))))]) hSF hl.1 hP hD hS hA hK hGV (c361_Jx4a65c_isEmpty_aae02 l hfl D cA g h2) goV_X12_401 pd_Jx4a65c_isEmpty_aae02 ⟨(Nat.le_of_ble_eq_true rfl), (Nat.le_of_ble_eq_true rfl)⟩ ⟨(Nat.le_of_ble_eq_true rfl), (Nat.le_of_ble_eq_true rfl)⟩ (va_recv hK hP (ci := 2) (q0 := 1) rfl rfl) dX12_meanPull_16 rfl (Nat.le_of_ble_eq_true rfl) [1] [0, 2, 3] rfl (by decide) rfl (by decide) (by decide) (fun q => [(h0, .inr (15, [.ref h1, .ref h2, .ref h3, .ref h4, .ref h5, .ref h6, .ref h7, .ref h8, .ref h9, .ref h10, .ref h11, .ref h12, .ref h13, .ref h14, .ref h15, .ref h16, .ref h17, .ref h18, .long 1, .int 0, .int 2, .int 0, .int 1, .int 0, .int 0, .int 0, .int 46])), (h1, .inr (2, [.int 0, .ref g.1, .int 0])), (h5, .inl (cA 1, 512, .inr (.inl (vp_updL (vp_updL (fun _ => 0) 0 0) 0 1)))), (h2, .inr (2, [.int 0, .ref g.1, .int 0]))]) (fun _ => rfl) (fun q2 H locs hP hD hS => ?_)
  refine W.eq (g2 := F0 m 19 ls [.int 1, .ref h0]) rfl ?_
  refine k_if_eq_f (tgt := 26) hx hb dX12_meanPull_19 (by decide) (by decide) ?_
  refine lv_iconst (v := 2) hx hb dX12_meanPull_22 (by decide) ?_
  refine lv_goto (tgt := 27) hx hb dX12_meanPull_23 (by decide) ?_
  refine k_put (ci := 15) (C := RX12) (T := TX12) (N := 27) (v := .int 2) (ws1 := [(h0, .inr (15, [.ref h1, .ref h2, .ref h3, .ref h4, .ref h5, .ref h6, .ref h7, .ref h8, .ref h9, .ref h10, .ref h11, .ref h12, .ref h13, .ref h14, .ref h15, .ref h16, .ref h17, .ref h18, .long 1, .int 2, .int 2, .int 0, .int 1, .int 0, .int 0, .int 0, .int 46])), (h1, .inr (2, [.int 0, .ref g.1, .int 0])), (h5, .inl (cA 1, 512, .inr (.inl (vp_updL (vp_updL (fun _ => 0) 0 0) 0 1)))), (h2, .inr (2, [.int 0, .ref g.1, .int 0]))]) hx hb hG inX12 tyX12 tyX12_ok nmX12 hown hK hP hD hS 0 rfl rfl 19 (by decide) gw1238 rfl ⟨rfl, rfl⟩ rfl (Nat.le_of_ble_eq_true rfl) dX12_meanPull_27 (fun H locs hP hD hS => ?_)
  refine lv_aload_n hx hb dX12_meanPull_30 rfl (lv_at hl 0 rfl) ?_
  refine k_get (ci := 15) (C := RX12) (T := TX12) (N := 27) (v := .int 2) hx hb hG inX12 hown hK hP 0 rfl rfl 19 (by decide) gw1238 rfl dX12_meanPull_31 ?_
  refine k_if_le_f (tgt := 39) hx hb dX12_meanPull_34 (by decide) (by decide) ?_
  refine lv_dconst0 hx hb dX12_meanPull_37 ?_
  exact e_d (fun _ => 0) hx hb hr hlocks rfl (hP.sub [0, 3, 1, 2] rfl) (hD.sub [0, 3, 1, 2] (by decide) rfl) hS (Nat.le_of_ble_eq_true rfl) (Nat.le_of_ble_eq_true rfl) dX12_meanPull_38
set_option maxHeartbeats 4000000 in
set_option maxRecDepth 100000 in
theorem c366_X1_holdsAlong (l : Launch) (hfl : l.stackTraces = false) (D : va_G) (cA : Nat → ClassId) (g : gv_T) (h0 h1 h2 h3 h4 h5 h6 h7 h8 h9 h10 h11 h12 h13 h14 h15 h16 h17 h18 h19 h20 h21 h22 h23 h24 h25 : Nat) : CT l yX1_holdsAlong cX1_holdsAlong 12 (some .boolean) (RM 0 0 0 0) D cA g [.ref h0, .ref h1, .int 0, .int 0] [(h1, .inr (5, [.int 0, .int 0, .ref h2, .ref h3, .ref h4, .ref h5, .ref h6, .ref h7, .ref h8, .ref h9, .ref h10, .ref h11])), (h0, .inr (4, [.int 1, .int 46, .long 1, .ref h12, .ref h13, .ref h14, .ref h15, .ref h16, .ref h17, .ref h18, .ref h19, .ref h20, .ref h21, .ref h22, .ref h23, .ref h24, .ref h25]))] (fun q => some (.int 1)) (fun q => [(h1, .inr (5, [.int 0, .int 0, .ref h2, .ref h3, .ref h4, .ref h5, .ref h6, .ref h7, .ref h8, .ref h9, .ref h10, .ref h11])), (h0, .inr (4, [.int 1, .int 46, .long 1, .ref h12, .ref h13, .ref h14, .ref h15, .ref h16, .ref h17, .ref h18, .ref h19, .ref h20, .ref h21, .ref h22, .ref h23, .ref h24, .ref h25]))]) := by
  refine CT.of (by decide +kernel) (Nat.le_of_ble_eq_true rfl) ?_
  intro p e s m args below meth c A ls hx hb hr hml hown hG hlocks hnm hA hS hP hK hD hGV hl
  have hown : s.vm.findClass RX1 = some m.cls := hown
  have hl : lv_has ls 12 [(0, .ref h0), (1, .ref h1), (2, .int 0), (3, .int 0)] := hl
  have hSF : CF p m c cX1_holdsAlong 12 s args RX1 := ⟨hx, hb, hml, hown, hG⟩
  refine lv_lconst (v := 0) hx hb dX1_holdsAlong_0 (by decide) ?_
  refine lv_lstore (lv' := [(4, .long 0), (0, .ref h0), (1, .ref h1), (2, .int 0), (3, .int 0)]) hx hb dX1_holdsAlong_1 hl (by decide) rfl (fun ls hl => ?_)
  refine lv_lconst (v := 0) hx hb dX1_holdsAlong_3 (by decide) ?_
  refine lv_lstore (lv' := [(6, .long 0), (4, .long 0), (0, .ref h0), (1, .ref h1), (2, .int 0), (3, .int 0)]) hx hb dX1_holdsAlong_4 hl (by decide) rfl (fun ls hl => ?_)
  refine lv_iconst (v := 0) hx hb dX1_holdsAlong_6 (by decide) ?_
  refine lv_istore (lv' := [(8, .int 0), (6, .long 0), (4, .long 0), (0, .ref h0), (1, .ref h1), (2, .int 0), (3, .int 0)]) hx hb dX1_holdsAlong_7 hl (by decide) rfl (fun ls hl => ?_)
  refine lv_iload hx hb dX1_holdsAlong_9 (lv_at hl 0 rfl) ?_
  refine lv_aload_n hx hb dX1_holdsAlong_11 rfl (lv_at hl 4 rfl) ?_
  refine k_get (ci := 5) (C := RX2) (T := TX2) (N := 12) (v := .int 0) hx hb hG inX2 hown hK hP 0 rfl rfl 0 (by decide) gw128 rfl dX1_holdsAlong_12 ?_
  refine k_icmp_ge_t (tgt := 180) hx hb dX1_holdsAlong_15 (by decide) (by decide) ?_
  refine lv_aload_n hx hb dX1_holdsAlong_180 rfl (lv_at hl 3 rfl) ?_
  refine k_get (ci := 4) (C := RX1) (T := TX1) (N := 17) (v := .long 1) hx hb hG inX1 hown hK hP 1 rfl rfl 2 (by decide) gw201 rfl dX1_holdsAlong_181 ?_
  refine lv_lconst (v := 0) hx hb dX1_holdsAlong_184 (by decide) ?_
  refine k_lcmp (v := 1) hx hb dX1_holdsAlong_185 (by decide +kernel) ?_
  refine k_if_le_f (tgt := 220) hx hb dX1_holdsAlong_186 (by decide) (by decide) ?_
  refine lv_lload hx hb dX1_holdsAlong_189 (lv_at hl 1 rfl) ?_
  refine lv_aload_n hx hb dX1_holdsAlong_191 rfl (lv_at hl 3 rfl) ?_
  refine k_get (ci := 4) (C := RX1) (T := TX1) (N := 17) (v := .long 1) hx hb hG inX1 hown hK hP 1 rfl rfl 2 (by decide) gw201 rfl dX1_holdsAlong_192 ?_
  refine k_lrem (v := 0) hx hb dX1_holdsAlong_195 (by decide +kernel) (by decide +kernel) ?_
  refine lv_lconst (v := 0) hx hb dX1_holdsAlong_196 (by decide) ?_
  refine k_lcmp (v := 0) hx hb dX1_holdsAlong_197 (by decide +kernel) ?_
  refine k_if_ne_f (tgt := 220) hx hb dX1_holdsAlong_198 (by decide) (by decide) ?_
  refine lv_lload hx hb dX1_holdsAlong_201 (lv_at hl 2 rfl) ?_
  refine lv_lload hx hb dX1_holdsAlong_203 (lv_at hl 1 rfl) ?_
  refine lv_aload_n hx hb dX1_holdsAlong_205 rfl (lv_at hl 3 rfl) ?_
  refine k_get (ci := 4) (C := RX1) (T := TX1) (N := 17) (v := .long 1) hx hb hG inX1 hown hK hP 1 rfl rfl 2 (by decide) gw201 rfl dX1_holdsAlong_206 ?_
  refine k_ldiv (v := 0) hx hb dX1_holdsAlong_209 (by decide +kernel) (by decide +kernel) ?_
  refine k_ladd (v := 0) hx hb dX1_holdsAlong_210 (by decide +kernel) ?_
  refine lv_lconst (v := 0) hx hb dX1_holdsAlong_211 (by decide) ?_
  refine k_lcmp (v := 0) hx hb dX1_holdsAlong_212 (by decide +kernel) ?_
  refine k_if_ne_f (tgt := 220) hx hb dX1_holdsAlong_213 (by decide) (by decide) ?_
  refine lv_iconst (v := 1) hx hb dX1_holdsAlong_216 (by decide) ?_
  refine lv_goto (tgt := 221) hx hb dX1_holdsAlong_217 (by decide) ?_
  exact e_i (fun _ => 0) hx hb hr hlocks rfl rfl hP hD hS (Nat.le_of_ble_eq_true rfl) (Nat.le_of_ble_eq_true rfl) dX1_holdsAlong_221
set_option maxHeartbeats 4000000 in
set_option maxRecDepth 100000 in
theorem c367_X1_holdsAlong (l : Launch) (hfl : l.stackTraces = false) (D : va_G) (cA : Nat → ClassId) (g : gv_T) (h0 h1 h2 h3 h4 h5 h6 h7 h8 h9 h10 h11 h12 h13 h14 h15 h16 h17 h18 h19 h20 h21 h22 h23 h24 h25 : Nat) : CT l yX1_holdsAlong cX1_holdsAlong 12 (some .boolean) (RM 0 0 0 0) D cA g [.ref h0, .ref h1, .int 0, .int 1] [(h1, .inr (5, [.int 0, .int 0, .ref h2, .ref h3, .ref h4, .ref h5, .ref h6, .ref h7, .ref h8, .ref h9, .ref h10, .ref h11])), (h0, .inr (4, [.int 1, .int 46, .long 1, .ref h12, .ref h13, .ref h14, .ref h15, .ref h16, .ref h17, .ref h18, .ref h19, .ref h20, .ref h21, .ref h22, .ref h23, .ref h24, .ref h25]))] (fun q => some (.int 1)) (fun q => [(h1, .inr (5, [.int 0, .int 0, .ref h2, .ref h3, .ref h4, .ref h5, .ref h6, .ref h7, .ref h8, .ref h9, .ref h10, .ref h11])), (h0, .inr (4, [.int 1, .int 46, .long 1, .ref h12, .ref h13, .ref h14, .ref h15, .ref h16, .ref h17, .ref h18, .ref h19, .ref h20, .ref h21, .ref h22, .ref h23, .ref h24, .ref h25]))]) := by
  refine CT.of (by decide +kernel) (Nat.le_of_ble_eq_true rfl) ?_
  intro p e s m args below meth c A ls hx hb hr hml hown hG hlocks hnm hA hS hP hK hD hGV hl
  have hown : s.vm.findClass RX1 = some m.cls := hown
  have hl : lv_has ls 12 [(0, .ref h0), (1, .ref h1), (2, .int 0), (3, .int 1)] := hl
  have hSF : CF p m c cX1_holdsAlong 12 s args RX1 := ⟨hx, hb, hml, hown, hG⟩
  refine lv_lconst (v := 0) hx hb dX1_holdsAlong_0 (by decide) ?_
  refine lv_lstore (lv' := [(4, .long 0), (0, .ref h0), (1, .ref h1), (2, .int 0), (3, .int 1)]) hx hb dX1_holdsAlong_1 hl (by decide) rfl (fun ls hl => ?_)
  refine lv_lconst (v := 0) hx hb dX1_holdsAlong_3 (by decide) ?_
  refine lv_lstore (lv' := [(6, .long 0), (4, .long 0), (0, .ref h0), (1, .ref h1), (2, .int 0), (3, .int 1)]) hx hb dX1_holdsAlong_4 hl (by decide) rfl (fun ls hl => ?_)
  refine lv_iconst (v := 0) hx hb dX1_holdsAlong_6 (by decide) ?_
  refine lv_istore (lv' := [(8, .int 0), (6, .long 0), (4, .long 0), (0, .ref h0), (1, .ref h1), (2, .int 0), (3, .int 1)]) hx hb dX1_holdsAlong_7 hl (by decide) rfl (fun ls hl => ?_)
  refine lv_iload hx hb dX1_holdsAlong_9 (lv_at hl 0 rfl) ?_
  refine lv_aload_n hx hb dX1_holdsAlong_11 rfl (lv_at hl 4 rfl) ?_
  refine k_get (ci := 5) (C := RX2) (T := TX2) (N := 12) (v := .int 0) hx hb hG inX2 hown hK hP 0 rfl rfl 0 (by decide) gw128 rfl dX1_holdsAlong_12 ?_
  refine k_icmp_ge_t (tgt := 180) hx hb dX1_holdsAlong_15 (by decide) (by decide) ?_
  refine lv_aload_n hx hb dX1_holdsAlong_180 rfl (lv_at hl 3 rfl) ?_
  refine k_get (ci := 4) (C := RX1) (T := TX1) (N := 17) (v := .long 1) hx hb hG inX1 hown hK hP 1 rfl rfl 2 (by decide) gw201 rfl dX1_holdsAlong_181 ?_
  refine lv_lconst (v := 0) hx hb dX1_holdsAlong_184 (by decide) ?_
  refine k_lcmp (v := 1) hx hb dX1_holdsAlong_185 (by decide +kernel) ?_
  refine k_if_le_f (tgt := 220) hx hb dX1_holdsAlong_186 (by decide) (by decide) ?_
  refine lv_lload hx hb dX1_holdsAlong_189 (lv_at hl 1 rfl) ?_
  refine lv_aload_n hx hb dX1_holdsAlong_191 rfl (lv_at hl 3 rfl) ?_
  refine k_get (ci := 4) (C := RX1) (T := TX1) (N := 17) (v := .long 1) hx hb hG inX1 hown hK hP 1 rfl rfl 2 (by decide) gw201 rfl dX1_holdsAlong_192 ?_
  refine k_lrem (v := 0) hx hb dX1_holdsAlong_195 (by decide +kernel) (by decide +kernel) ?_
  refine lv_lconst (v := 0) hx hb dX1_holdsAlong_196 (by decide) ?_
  refine k_lcmp (v := 0) hx hb dX1_holdsAlong_197 (by decide +kernel) ?_
  refine k_if_ne_f (tgt := 220) hx hb dX1_holdsAlong_198 (by decide) (by decide) ?_
  refine lv_lload hx hb dX1_holdsAlong_201 (lv_at hl 2 rfl) ?_
  refine lv_lload hx hb dX1_holdsAlong_203 (lv_at hl 1 rfl) ?_
  refine lv_aload_n hx hb dX1_holdsAlong_205 rfl (lv_at hl 3 rfl) ?_
  refine k_get (ci := 4) (C := RX1) (T := TX1) (N := 17) (v := .long 1) hx hb hG inX1 hown hK hP 1 rfl rfl 2 (by decide) gw201 rfl dX1_holdsAlong_206 ?_
  refine k_ldiv (v := 0) hx hb dX1_holdsAlong_209 (by decide +kernel) (by decide +kernel) ?_
  refine k_ladd (v := 0) hx hb dX1_holdsAlong_210 (by decide +kernel) ?_
  refine lv_lconst (v := 0) hx hb dX1_holdsAlong_211 (by decide) ?_
  refine k_lcmp (v := 0) hx hb dX1_holdsAlong_212 (by decide +kernel) ?_
  refine k_if_ne_f (tgt := 220) hx hb dX1_holdsAlong_213 (by decide) (by decide) ?_
  refine lv_iconst (v := 1) hx hb dX1_holdsAlong_216 (by decide) ?_
  refine lv_goto (tgt := 221) hx hb dX1_holdsAlong_217 (by decide) ?_
  exact e_i (fun _ => 0) hx hb hr hlocks rfl rfl hP hD hS (Nat.le_of_ble_eq_true rfl) (Nat.le_of_ble_eq_true rfl) dX1_holdsAlong_221
set_option maxHeartbeats 4000000 in
set_option maxRecDepth 100000 in
theorem c368_X1_holdsAt (l : Launch) (hfl : l.stackTraces = false) (D : va_G) (cA : Nat → ClassId) (g : gv_T) (h0 h1 h2 h3 h4 h5 h6 h7 h8 h9 h10 h11 h12 h13 h14 h15 h16 h17 h18 h19 h20 h21 h22 h23 h24 h25 : Nat) : CT l yX1_holdsAt cX1_holdsAt 3 (some .boolean) (RM 1 0 0 31) D cA g [.ref h0, .ref h1, .int 0] [(h0, .inr (4, [.int 1, .int 46, .long 1, .ref h2, .ref h3, .ref h4, .ref h5, .ref h6, .ref h7, .ref h8, .ref h9, .ref h10, .ref h11, .ref h12, .ref h13, .ref h14, .ref h15])), (h1, .inr (5, [.int 0, .int 0, .ref h16, .ref h17, .ref h18, .ref h19, .ref h20, .ref h21, .ref h22, .ref h23, .ref h24, .ref h25]))] (fun q => some (.int 1)) (fun q => [(h0, .inr (4, [.int 1, .int 46, .long 1, .ref h2, .ref h3, .ref h4, .ref h5, .ref h6, .ref h7, .ref h8, .ref h9, .ref h10, .ref h11, .ref h12, .ref h13, .ref h14, .ref h15])), (h1, .inr (5, [.int 0, .int 0, .ref h16, .ref h17, .ref h18, .ref h19, .ref h20, .ref h21, .ref h22, .ref h23, .ref h24, .ref h25]))]) := by
  refine CT.of (by decide +kernel) (Nat.le_of_ble_eq_true rfl) ?_
  intro p e s m args below meth c A ls hx hb hr hml hown hG hlocks hnm hA hS hP hK hD hGV hl
  have hown : s.vm.findClass RX1 = some m.cls := hown
  have hl : lv_has ls 3 [(0, .ref h0), (1, .ref h1), (2, .int 0)] := hl
  have hSF : CF p m c cX1_holdsAt 3 s args RX1 := ⟨hx, hb, hml, hown, hG⟩
  refine lv_aload_n hx hb dX1_holdsAt_0 rfl (lv_at hl 0 rfl) ?_
  refine lv_aload_n hx hb dX1_holdsAt_1 rfl (lv_at hl 1 rfl) ?_
  refine lv_iload_n hx hb dX1_holdsAt_2 rfl (lv_at hl 2 rfl) ?_
  refine lv_iconst (v := 0) hx hb dX1_holdsAt_3 (by decide) ?_
  refine ct_V (wr := []) hSF hl.1 hP hD hS hA hK hGV (c366_X1_holdsAlong l hfl D cA g h0 h1 h16 h17 h18 h19 h20 h21 h22 h23 h24 h25 h2 h3 h4 h5 h6 h7 h8 h9 h10 h11 h12 h13 h14 h15) goV_X1_185 pd_X1_holdsAlong ⟨(Nat.le_of_ble_eq_true rfl), (Nat.le_of_ble_eq_true rfl)⟩ ⟨(Nat.le_of_ble_eq_true rfl), (Nat.le_of_ble_eq_true rfl)⟩ (va_recv hK hP (ci := 4) (q0 := 0) rfl rfl) dX1_holdsAt_4 rfl (Nat.le_of_ble_eq_true rfl) [1, 0] [] rfl (by decide) rfl (by decide) (by decide) (fun q => [(h1, .inr (5, [.int 0, .int 0, .ref h16, .ref h17, .ref h18, .ref h19, .ref h20, .ref h21, .ref h22, .ref h23, .ref h24, .ref h25])), (h0, .inr (4, [.int 1, .int 46, .long 1, .ref h2, .ref h3, .ref h4, .ref h5, .ref h6, .ref h7, .ref h8, .ref h9, .ref h10, .ref h11, .ref h12, .ref h13, .ref h14, .ref h15]))]) (fun _ => rfl) (fun q1 H locs hP hD hS => ?_)
  refine W.eq (g2 := F0 m 7 ls [.int 1]) rfl ?_
  refine k_if_eq_f (tgt := 24) hx hb dX1_holdsAt_7 (by decide) (by decide) ?_
  refine lv_aload_n hx hb dX1_holdsAt_10 rfl (lv_at hl 0 rfl) ?_
  refine lv_aload_n hx hb dX1_holdsAt_11 rfl (lv_at hl 1 rfl) ?_
  refine lv_iload_n hx hb dX1_holdsAt_12 rfl (lv_at hl 2 rfl) ?_
  refine lv_iconst (v := 1) hx hb dX1_holdsAt_13 (by decide) ?_
  refine ct_V (wr := []) hSF hl.1 hP hD hS hA hK hGV (c367_X1_holdsAlong l hfl D cA g h0 h1 h16 h17 h18 h19 h20 h21 h22 h23 h24 h25 h2 h3 h4 h5 h6 h7 h8 h9 h10 h11 h12 h13 h14 h15) goV_X1_185 pd_X1_holdsAlong ⟨(Nat.le_of_ble_eq_true rfl), (Nat.le_of_ble_eq_true rfl)⟩ ⟨(Nat.le_of_ble_eq_true rfl), (Nat.le_of_ble_eq_true rfl)⟩ (va_recv hK hP (ci := 4) (q0 := 1) rfl rfl) dX1_holdsAt_14 rfl (Nat.le_of_ble_eq_true rfl) [0, 1] [] rfl (by decide) rfl (by decide) (by decide) (fun q => [(h1, .inr (5, [.int 0, .int 0, .ref h16, .ref h17, .ref h18, .ref h19, .ref h20, .ref h21, .ref h22, .ref h23, .ref h24, .ref h25])), (h0, .inr (4, [.int 1, .int 46, .long 1, .ref h2, .ref h3, .ref h4, .ref h5, .ref h6, .ref h7, .ref h8, .ref h9, .ref h10, .ref h11, .ref h12, .ref h13, .ref h14, .ref h15]))]) (fun _ => rfl) (fun q2 H locs hP hD hS => ?_)
  refine W.eq (g2 := F0 m 17 ls [.int 1]) rfl ?_
  refine k_if_eq_f (tgt := 24) hx hb dX1_holdsAt_17 (by decide) (by decide) ?_
  refine lv_iconst (v := 1) hx hb dX1_holdsAt_20 (by decide) ?_
  refine lv_goto (tgt := 25) hx hb dX1_holdsAt_21 (by decide) ?_
  exact e_i (fun _ => 0) hx hb hr hlocks rfl rfl (hP.sub [1, 0] rfl) (hD.sub [1, 0] (by decide) rfl) hS (Nat.le_of_ble_eq_true rfl) (Nat.le_of_ble_eq_true rfl) dX1_holdsAt_25
set_option maxHeartbeats 4000000 in
set_option maxRecDepth 100000 in
theorem c369_X1_holdsAlong (l : Launch) (hfl : l.stackTraces = false) (D : va_G) (cA : Nat → ClassId) (g : gv_T) (h0 h1 h2 h3 h4 h5 h6 h7 h8 h9 h10 h11 h12 h13 h14 h15 h16 h17 h18 h19 h20 h21 h22 h23 h24 h25 : Nat) : CT l yX1_holdsAlong cX1_holdsAlong 12 (some .boolean) (RM 0 0 0 0) D cA g [.ref h0, .ref h1, .int 1, .int 0] [(h1, .inr (5, [.int 0, .int 0, .ref h2, .ref h3, .ref h4, .ref h5, .ref h6, .ref h7, .ref h8, .ref h9, .ref h10, .ref h11])), (h0, .inr (4, [.int 1, .int 46, .long 1, .ref h12, .ref h13, .ref h14, .ref h15, .ref h16, .ref h17, .ref h18, .ref h19, .ref h20, .ref h21, .ref h22, .ref h23, .ref h24, .ref h25]))] (fun q => some (.int 1)) (fun q => [(h1, .inr (5, [.int 0, .int 0, .ref h2, .ref h3, .ref h4, .ref h5, .ref h6, .ref h7, .ref h8, .ref h9, .ref h10, .ref h11])), (h0, .inr (4, [.int 1, .int 46, .long 1, .ref h12, .ref h13, .ref h14, .ref h15, .ref h16, .ref h17, .ref h18, .ref h19, .ref h20, .ref h21, .ref h22, .ref h23, .ref h24, .ref h25]))]) := by
  refine CT.of (by decide +kernel) (Nat.le_of_ble_eq_true rfl) ?_
  intro p e s m args below meth c A ls hx hb hr hml hown hG hlocks hnm hA hS hP hK hD hGV hl
  have hown : s.vm.findClass RX1 = some m.cls := hown
  have hl : lv_has ls 12 [(0, .ref h0), (1, .ref h1), (2, .int 1), (3, .int 0)] := hl
  have hSF : CF p m c cX1_holdsAlong 12 s args RX1 := ⟨hx, hb, hml, hown, hG⟩
  refine lv_lconst (v := 0) hx hb dX1_holdsAlong_0 (by decide) ?_
  refine lv_lstore (lv' := [(4, .long 0), (0, .ref h0), (1, .ref h1), (2, .int 1), (3, .int 0)]) hx hb dX1_holdsAlong_1 hl (by decide) rfl (fun ls hl => ?_)
  refine lv_lconst (v := 0) hx hb dX1_holdsAlong_3 (by decide) ?_
  refine lv_lstore (lv' := [(6, .long 0), (4, .long 0), (0, .ref h0), (1, .ref h1), (2, .int 1), (3, .int 0)]) hx hb dX1_holdsAlong_4 hl (by decide) rfl (fun ls hl => ?_)
  refine lv_iconst (v := 0) hx hb dX1_holdsAlong_6 (by decide) ?_
  refine lv_istore (lv' := [(8, .int 0), (6, .long 0), (4, .long 0), (0, .ref h0), (1, .ref h1), (2, .int 1), (3, .int 0)]) hx hb dX1_holdsAlong_7 hl (by decide) rfl (fun ls hl => ?_)
  refine lv_iload hx hb dX1_holdsAlong_9 (lv_at hl 0 rfl) ?_
  refine lv_aload_n hx hb dX1_holdsAlong_11 rfl (lv_at hl 4 rfl) ?_
  refine k_get (ci := 5) (C := RX2) (T := TX2) (N := 12) (v := .int 0) hx hb hG inX2 hown hK hP 0 rfl rfl 0 (by decide) gw128 rfl dX1_holdsAlong_12 ?_
  refine k_icmp_ge_t (tgt := 180) hx hb dX1_holdsAlong_15 (by decide) (by decide) ?_
  refine lv_aload_n hx hb dX1_holdsAlong_180 rfl (lv_at hl 3 rfl) ?_
  refine k_get (ci := 4) (C := RX1) (T := TX1) (N := 17) (v := .long 1) hx hb hG inX1 hown hK hP 1 rfl rfl 2 (by decide) gw201 rfl dX1_holdsAlong_181 ?_
  refine lv_lconst (v := 0) hx hb dX1_holdsAlong_184 (by decide) ?_
  refine k_lcmp (v := 1) hx hb dX1_holdsAlong_185 (by decide +kernel) ?_
  refine k_if_le_f (tgt := 220) hx hb dX1_holdsAlong_186 (by decide) (by decide) ?_
  refine lv_lload hx hb dX1_holdsAlong_189 (lv_at hl 1 rfl) ?_
  refine lv_aload_n hx hb dX1_holdsAlong_191 rfl (lv_at hl 3 rfl) ?_
  refine k_get (ci := 4) (C := RX1) (T := TX1) (N := 17) (v := .long 1) hx hb hG inX1 hown hK hP 1 rfl rfl 2 (by decide) gw201 rfl dX1_holdsAlong_192 ?_
  refine k_lrem (v := 0) hx hb dX1_holdsAlong_195 (by decide +kernel) (by decide +kernel) ?_
  refine lv_lconst (v := 0) hx hb dX1_holdsAlong_196 (by decide) ?_
  refine k_lcmp (v := 0) hx hb dX1_holdsAlong_197 (by decide +kernel) ?_
  refine k_if_ne_f (tgt := 220) hx hb dX1_holdsAlong_198 (by decide) (by decide) ?_
  refine lv_lload hx hb dX1_holdsAlong_201 (lv_at hl 2 rfl) ?_
  refine lv_lload hx hb dX1_holdsAlong_203 (lv_at hl 1 rfl) ?_
  refine lv_aload_n hx hb dX1_holdsAlong_205 rfl (lv_at hl 3 rfl) ?_
  refine k_get (ci := 4) (C := RX1) (T := TX1) (N := 17) (v := .long 1) hx hb hG inX1 hown hK hP 1 rfl rfl 2 (by decide) gw201 rfl dX1_holdsAlong_206 ?_
  refine k_ldiv (v := 0) hx hb dX1_holdsAlong_209 (by decide +kernel) (by decide +kernel) ?_
  refine k_ladd (v := 0) hx hb dX1_holdsAlong_210 (by decide +kernel) ?_
  refine lv_lconst (v := 0) hx hb dX1_holdsAlong_211 (by decide) ?_
  refine k_lcmp (v := 0) hx hb dX1_holdsAlong_212 (by decide +kernel) ?_
  refine k_if_ne_f (tgt := 220) hx hb dX1_holdsAlong_213 (by decide) (by decide) ?_
  refine lv_iconst (v := 1) hx hb dX1_holdsAlong_216 (by decide) ?_
  refine lv_goto (tgt := 221) hx hb dX1_holdsAlong_217 (by decide) ?_
  exact e_i (fun _ => 0) hx hb hr hlocks rfl rfl hP hD hS (Nat.le_of_ble_eq_true rfl) (Nat.le_of_ble_eq_true rfl) dX1_holdsAlong_221
set_option maxHeartbeats 4000000 in
set_option maxRecDepth 100000 in
theorem c370_X1_holdsAlong (l : Launch) (hfl : l.stackTraces = false) (D : va_G) (cA : Nat → ClassId) (g : gv_T) (h0 h1 h2 h3 h4 h5 h6 h7 h8 h9 h10 h11 h12 h13 h14 h15 h16 h17 h18 h19 h20 h21 h22 h23 h24 h25 : Nat) : CT l yX1_holdsAlong cX1_holdsAlong 12 (some .boolean) (RM 0 0 0 0) D cA g [.ref h0, .ref h1, .int 1, .int 1] [(h1, .inr (5, [.int 0, .int 0, .ref h2, .ref h3, .ref h4, .ref h5, .ref h6, .ref h7, .ref h8, .ref h9, .ref h10, .ref h11])), (h0, .inr (4, [.int 1, .int 46, .long 1, .ref h12, .ref h13, .ref h14, .ref h15, .ref h16, .ref h17, .ref h18, .ref h19, .ref h20, .ref h21, .ref h22, .ref h23, .ref h24, .ref h25]))] (fun q => some (.int 1)) (fun q => [(h1, .inr (5, [.int 0, .int 0, .ref h2, .ref h3, .ref h4, .ref h5, .ref h6, .ref h7, .ref h8, .ref h9, .ref h10, .ref h11])), (h0, .inr (4, [.int 1, .int 46, .long 1, .ref h12, .ref h13, .ref h14, .ref h15, .ref h16, .ref h17, .ref h18, .ref h19, .ref h20, .ref h21, .ref h22, .ref h23, .ref h24, .ref h25]))]) := by
  refine CT.of (by decide +kernel) (Nat.le_of_ble_eq_true rfl) ?_
  intro p e s m args below meth c A ls hx hb hr hml hown hG hlocks hnm hA hS hP hK hD hGV hl
  have hown : s.vm.findClass RX1 = some m.cls := hown
  have hl : lv_has ls 12 [(0, .ref h0), (1, .ref h1), (2, .int 1), (3, .int 1)] := hl
  have hSF : CF p m c cX1_holdsAlong 12 s args RX1 := ⟨hx, hb, hml, hown, hG⟩
  refine lv_lconst (v := 0) hx hb dX1_holdsAlong_0 (by decide) ?_
  refine lv_lstore (lv' := [(4, .long 0), (0, .ref h0), (1, .ref h1), (2, .int 1), (3, .int 1)]) hx hb dX1_holdsAlong_1 hl (by decide) rfl (fun ls hl => ?_)
  refine lv_lconst (v := 0) hx hb dX1_holdsAlong_3 (by decide) ?_
  refine lv_lstore (lv' := [(6, .long 0), (4, .long 0), (0, .ref h0), (1, .ref h1), (2, .int 1), (3, .int 1)]) hx hb dX1_holdsAlong_4 hl (by decide) rfl (fun ls hl => ?_)
  refine lv_iconst (v := 0) hx hb dX1_holdsAlong_6 (by decide) ?_
  refine lv_istore (lv' := [(8, .int 0), (6, .long 0), (4, .long 0), (0, .ref h0), (1, .ref h1), (2, .int 1), (3, .int 1)]) hx hb dX1_holdsAlong_7 hl (by decide) rfl (fun ls hl => ?_)
  refine lv_iload hx hb dX1_holdsAlong_9 (lv_at hl 0 rfl) ?_
  refine lv_aload_n hx hb dX1_holdsAlong_11 rfl (lv_at hl 4 rfl) ?_
  refine k_get (ci := 5) (C := RX2) (T := TX2) (N := 12) (v := .int 0) hx hb hG inX2 hown hK hP 0 rfl rfl 0 (by decide) gw128 rfl dX1_holdsAlong_12 ?_
  refine k_icmp_ge_t (tgt := 180) hx hb dX1_holdsAlong_15 (by decide) (by decide) ?_
  refine lv_aload_n hx hb dX1_holdsAlong_180 rfl (lv_at hl 3 rfl) ?_
  refine k_get (ci := 4) (C := RX1) (T := TX1) (N := 17) (v := .long 1) hx hb hG inX1 hown hK hP 1 rfl rfl 2 (by decide) gw201 rfl dX1_holdsAlong_181 ?_
  refine lv_lconst (v := 0) hx hb dX1_holdsAlong_184 (by decide) ?_
  refine k_lcmp (v := 1) hx hb dX1_holdsAlong_185 (by decide +kernel) ?_
  refine k_if_le_f (tgt := 220) hx hb dX1_holdsAlong_186 (by decide) (by decide) ?_
  refine lv_lload hx hb dX1_holdsAlong_189 (lv_at hl 1 rfl) ?_
  refine lv_aload_n hx hb dX1_holdsAlong_191 rfl (lv_at hl 3 rfl) ?_
  refine k_get (ci := 4) (C := RX1) (T := TX1) (N := 17) (v := .long 1) hx hb hG inX1 hown hK hP 1 rfl rfl 2 (by decide) gw201 rfl dX1_holdsAlong_192 ?_
  refine k_lrem (v := 0) hx hb dX1_holdsAlong_195 (by decide +kernel) (by decide +kernel) ?_
  refine lv_lconst (v := 0) hx hb dX1_holdsAlong_196 (by decide) ?_
  refine k_lcmp (v := 0) hx hb dX1_holdsAlong_197 (by decide +kernel) ?_
  refine k_if_ne_f (tgt := 220) hx hb dX1_holdsAlong_198 (by decide) (by decide) ?_
  refine lv_lload hx hb dX1_holdsAlong_201 (lv_at hl 2 rfl) ?_
  refine lv_lload hx hb dX1_holdsAlong_203 (lv_at hl 1 rfl) ?_
  refine lv_aload_n hx hb dX1_holdsAlong_205 rfl (lv_at hl 3 rfl) ?_
  refine k_get (ci := 4) (C := RX1) (T := TX1) (N := 17) (v := .long 1) hx hb hG inX1 hown hK hP 1 rfl rfl 2 (by decide) gw201 rfl dX1_holdsAlong_206 ?_
  refine k_ldiv (v := 0) hx hb dX1_holdsAlong_209 (by decide +kernel) (by decide +kernel) ?_
  refine k_ladd (v := 0) hx hb dX1_holdsAlong_210 (by decide +kernel) ?_
  refine lv_lconst (v := 0) hx hb dX1_holdsAlong_211 (by decide) ?_
  refine k_lcmp (v := 0) hx hb dX1_holdsAlong_212 (by decide +kernel) ?_
  refine k_if_ne_f (tgt := 220) hx hb dX1_holdsAlong_213 (by decide) (by decide) ?_
  refine lv_iconst (v := 1) hx hb dX1_holdsAlong_216 (by decide) ?_
  refine lv_goto (tgt := 221) hx hb dX1_holdsAlong_217 (by decide) ?_
  exact e_i (fun _ => 0) hx hb hr hlocks rfl rfl hP hD hS (Nat.le_of_ble_eq_true rfl) (Nat.le_of_ble_eq_true rfl) dX1_holdsAlong_221
set_option maxHeartbeats 4000000 in
set_option maxRecDepth 100000 in
theorem c371_X1_holdsAt (l : Launch) (hfl : l.stackTraces = false) (D : va_G) (cA : Nat → ClassId) (g : gv_T) (h0 h1 h2 h3 h4 h5 h6 h7 h8 h9 h10 h11 h12 h13 h14 h15 h16 h17 h18 h19 h20 h21 h22 h23 h24 h25 : Nat) : CT l yX1_holdsAt cX1_holdsAt 3 (some .boolean) (RM 1 0 0 31) D cA g [.ref h0, .ref h1, .int 1] [(h0, .inr (4, [.int 1, .int 46, .long 1, .ref h2, .ref h3, .ref h4, .ref h5, .ref h6, .ref h7, .ref h8, .ref h9, .ref h10, .ref h11, .ref h12, .ref h13, .ref h14, .ref h15])), (h1, .inr (5, [.int 0, .int 0, .ref h16, .ref h17, .ref h18, .ref h19, .ref h20, .ref h21, .ref h22, .ref h23, .ref h24, .ref h25]))] (fun q => some (.int 1)) (fun q => [(h0, .inr (4, [.int 1, .int 46, .long 1, .ref h2, .ref h3, .ref h4, .ref h5, .ref h6, .ref h7, .ref h8, .ref h9, .ref h10, .ref h11, .ref h12, .ref h13, .ref h14, .ref h15])), (h1, .inr (5, [.int 0, .int 0, .ref h16, .ref h17, .ref h18, .ref h19, .ref h20, .ref h21, .ref h22, .ref h23, .ref h24, .ref h25]))]) := by
  refine CT.of (by decide +kernel) (Nat.le_of_ble_eq_true rfl) ?_
  intro p e s m args below meth c A ls hx hb hr hml hown hG hlocks hnm hA hS hP hK hD hGV hl
  have hown : s.vm.findClass RX1 = some m.cls := hown
  have hl : lv_has ls 3 [(0, .ref h0), (1, .ref h1), (2, .int 1)] := hl
  have hSF : CF p m c cX1_holdsAt 3 s args RX1 := ⟨hx, hb, hml, hown, hG⟩
  refine lv_aload_n hx hb dX1_holdsAt_0 rfl (lv_at hl 0 rfl) ?_
  refine lv_aload_n hx hb dX1_holdsAt_1 rfl (lv_at hl 1 rfl) ?_
  refine lv_iload_n hx hb dX1_holdsAt_2 rfl (lv_at hl 2 rfl) ?_
  refine lv_iconst (v := 0) hx hb dX1_holdsAt_3 (by decide) ?_
  refine ct_V (wr := []) hSF hl.1 hP hD hS hA hK hGV (c369_X1_holdsAlong l hfl D cA g h0 h1 h16 h17 h18 h19 h20 h21 h22 h23 h24 h25 h2 h3 h4 h5 h6 h7 h8 h9 h10 h11 h12 h13 h14 h15) goV_X1_185 pd_X1_holdsAlong ⟨(Nat.le_of_ble_eq_true rfl), (Nat.le_of_ble_eq_true rfl)⟩ ⟨(Nat.le_of_ble_eq_true rfl), (Nat.le_of_ble_eq_true rfl)⟩ (va_recv hK hP (ci := 4) (q0 := 0) rfl rfl) dX1_holdsAt_4 rfl (Nat.le_of_ble_eq_true rfl) [1, 0] [] rfl (by decide) rfl (by decide) (by decide) (fun q => [(h1, .inr (5, [.int 0, .int 0, .ref h16, .ref h17, .ref h18, .ref h19, .ref h20, .ref h21, .ref h22, .ref h23, .ref h24, .ref h25])), (h0, .inr (4, [.int 1, .int 46, .long 1, .ref h2, .ref h3, .ref h4, .ref h5, .ref h6, .ref h7, .ref h8, .ref h9, .ref h10, .ref h11, .ref h12, .ref h13, .ref h14, .ref h15]))]) (fun _ => rfl) (fun q1 H locs hP hD hS => ?_)
  refine W.eq (g2 := F0 m 7 ls [.int 1]) rfl ?_
  refine k_if_eq_f (tgt := 24) hx hb dX1_holdsAt_7 (by decide) (by decide) ?_
  refine lv_aload_n hx hb dX1_holdsAt_10 rfl (lv_at hl 0 rfl) ?_
  refine lv_aload_n hx hb dX1_holdsAt_11 rfl (lv_at hl 1 rfl) ?_
  refine lv_iload_n hx hb dX1_holdsAt_12 rfl (lv_at hl 2 rfl) ?_
  refine lv_iconst (v := 1) hx hb dX1_holdsAt_13 (by decide) ?_
  refine ct_V (wr := []) hSF hl.1 hP hD hS hA hK hGV (c370_X1_holdsAlong l hfl D cA g h0 h1 h16 h17 h18 h19 h20 h21 h22 h23 h24 h25 h2 h3 h4 h5 h6 h7 h8 h9 h10 h11 h12 h13 h14 h15) goV_X1_185 pd_X1_holdsAlong ⟨(Nat.le_of_ble_eq_true rfl), (Nat.le_of_ble_eq_true rfl)⟩ ⟨(Nat.le_of_ble_eq_true rfl), (Nat.le_of_ble_eq_true rfl)⟩ (va_recv hK hP (ci := 4) (q0 := 1) rfl rfl) dX1_holdsAt_14 rfl (Nat.le_of_ble_eq_true rfl) [0, 1] [] rfl (by decide) rfl (by decide) (by decide) (fun q => [(h1, .inr (5, [.int 0, .int 0, .ref h16, .ref h17, .ref h18, .ref h19, .ref h20, .ref h21, .ref h22, .ref h23, .ref h24, .ref h25])), (h0, .inr (4, [.int 1, .int 46, .long 1, .ref h2, .ref h3, .ref h4, .ref h5, .ref h6, .ref h7, .ref h8, .ref h9, .ref h10, .ref h11, .ref h12, .ref h13, .ref h14, .ref h15]))]) (fun _ => rfl) (fun q2 H locs hP hD hS => ?_)
  refine W.eq (g2 := F0 m 17 ls [.int 1]) rfl ?_
  refine k_if_eq_f (tgt := 24) hx hb dX1_holdsAt_17 (by decide) (by decide) ?_
  refine lv_iconst (v := 1) hx hb dX1_holdsAt_20 (by decide) ?_
  refine lv_goto (tgt := 25) hx hb dX1_holdsAt_21 (by decide) ?_
  exact e_i (fun _ => 0) hx hb hr hlocks rfl rfl (hP.sub [1, 0] rfl) (hD.sub [1, 0] (by decide) rfl) hS (Nat.le_of_ble_eq_true rfl) (Nat.le_of_ble_eq_true rfl) dX1_holdsAt_25
set_option maxHeartbeats 4000000 in
set_option maxRecDepth 100000 in
theorem c372_X1_holdsAlong (l : Launch) (hfl : l.stackTraces = false) (D : va_G) (cA : Nat → ClassId) (g : gv_T) (h0 h1 h2 h3 h4 h5 h6 h7 h8 h9 h10 h11 h12 h13 h14 h15 h16 h17 h18 h19 h20 h21 h22 h23 h24 h25 : Nat) : CT l yX1_holdsAlong cX1_holdsAlong 12 (some .boolean) (RM 0 0 0 0) D cA g [.ref h0, .ref h1, .int 2, .int 0] [(h1, .inr (5, [.int 0, .int 0, .ref h2, .ref h3, .ref h4, .ref h5, .ref h6, .ref h7, .ref h8, .ref h9, .ref h10, .ref h11])), (h0, .inr (4, [.int 1, .int 46, .long 1, .ref h12, .ref h13, .ref h14, .ref h15, .ref h16, .ref h17, .ref h18, .ref h19, .ref h20, .ref h21, .ref h22, .ref h23, .ref h24, .ref h25]))] (fun q => some (.int 1)) (fun q => [(h1, .inr (5, [.int 0, .int 0, .ref h2, .ref h3, .ref h4, .ref h5, .ref h6, .ref h7, .ref h8, .ref h9, .ref h10, .ref h11])), (h0, .inr (4, [.int 1, .int 46, .long 1, .ref h12, .ref h13, .ref h14, .ref h15, .ref h16, .ref h17, .ref h18, .ref h19, .ref h20, .ref h21, .ref h22, .ref h23, .ref h24, .ref h25]))]) := by
  refine CT.of (by decide +kernel) (Nat.le_of_ble_eq_true rfl) ?_
  intro p e s m args below meth c A ls hx hb hr hml hown hG hlocks hnm hA hS hP hK hD hGV hl
  have hown : s.vm.findClass RX1 = some m.cls := hown
  have hl : lv_has ls 12 [(0, .ref h0), (1, .ref h1), (2, .int 2), (3, .int 0)] := hl
  have hSF : CF p m c cX1_holdsAlong 12 s args RX1 := ⟨hx, hb, hml, hown, hG⟩
  refine lv_lconst (v := 0) hx hb dX1_holdsAlong_0 (by decide) ?_
  refine lv_lstore (lv' := [(4, .long 0), (0, .ref h0), (1, .ref h1), (2, .int 2), (3, .int 0)]) hx hb dX1_holdsAlong_1 hl (by decide) rfl (fun ls hl => ?_)
  refine lv_lconst (v := 0) hx hb dX1_holdsAlong_3 (by decide) ?_
  refine lv_lstore (lv' := [(6, .long 0), (4, .long 0), (0, .ref h0), (1, .ref h1), (2, .int 2), (3, .int 0)]) hx hb dX1_holdsAlong_4 hl (by decide) rfl (fun ls hl => ?_)
  refine lv_iconst (v := 0) hx hb dX1_holdsAlong_6 (by decide) ?_
  refine lv_istore (lv' := [(8, .int 0), (6, .long 0), (4, .long 0), (0, .ref h0), (1, .ref h1), (2, .int 2), (3, .int 0)]) hx hb dX1_holdsAlong_7 hl (by decide) rfl (fun ls hl => ?_)
  refine lv_iload hx hb dX1_holdsAlong_9 (lv_at hl 0 rfl) ?_
  refine lv_aload_n hx hb dX1_holdsAlong_11 rfl (lv_at hl 4 rfl) ?_
  refine k_get (ci := 5) (C := RX2) (T := TX2) (N := 12) (v := .int 0) hx hb hG inX2 hown hK hP 0 rfl rfl 0 (by decide) gw128 rfl dX1_holdsAlong_12 ?_
  refine k_icmp_ge_t (tgt := 180) hx hb dX1_holdsAlong_15 (by decide) (by decide) ?_
  refine lv_aload_n hx hb dX1_holdsAlong_180 rfl (lv_at hl 3 rfl) ?_
  refine k_get (ci := 4) (C := RX1) (T := TX1) (N := 17) (v := .long 1) hx hb hG inX1 hown hK hP 1 rfl rfl 2 (by decide) gw201 rfl dX1_holdsAlong_181 ?_
  refine lv_lconst (v := 0) hx hb dX1_holdsAlong_184 (by decide) ?_
  refine k_lcmp (v := 1) hx hb dX1_holdsAlong_185 (by decide +kernel) ?_
  refine k_if_le_f (tgt := 220) hx hb dX1_holdsAlong_186 (by decide) (by decide) ?_
  refine lv_lload hx hb dX1_holdsAlong_189 (lv_at hl 1 rfl) ?_
  refine lv_aload_n hx hb dX1_holdsAlong_191 rfl (lv_at hl 3 rfl) ?_
  refine k_get (ci := 4) (C := RX1) (T := TX1) (N := 17) (v := .long 1) hx hb hG inX1 hown hK hP 1 rfl rfl 2 (by decide) gw201 rfl dX1_holdsAlong_192 ?_
  refine k_lrem (v := 0) hx hb dX1_holdsAlong_195 (by decide +kernel) (by decide +kernel) ?_
  refine lv_lconst (v := 0) hx hb dX1_holdsAlong_196 (by decide) ?_
  refine k_lcmp (v := 0) hx hb dX1_holdsAlong_197 (by decide +kernel) ?_
  refine k_if_ne_f (tgt := 220) hx hb dX1_holdsAlong_198 (by decide) (by decide) ?_
  refine lv_lload hx hb dX1_holdsAlong_201 (lv_at hl 2 rfl) ?_
  refine lv_lload hx hb dX1_holdsAlong_203 (lv_at hl 1 rfl) ?_
  refine lv_aload_n hx hb dX1_holdsAlong_205 rfl (lv_at hl 3 rfl) ?_
  refine k_get (ci := 4) (C := RX1) (T := TX1) (N := 17) (v := .long 1) hx hb hG inX1 hown hK hP 1 rfl rfl 2 (by decide) gw201 rfl dX1_holdsAlong_206 ?_
  refine k_ldiv (v := 0) hx hb dX1_holdsAlong_209 (by decide +kernel) (by decide +kernel) ?_
  refine k_ladd (v := 0) hx hb dX1_holdsAlong_210 (by decide +kernel) ?_
  refine lv_lconst (v := 0) hx hb dX1_holdsAlong_211 (by decide) ?_
  refine k_lcmp (v := 0) hx hb dX1_holdsAlong_212 (by decide +kernel) ?_
  refine k_if_ne_f (tgt := 220) hx hb dX1_holdsAlong_213 (by decide) (by decide) ?_
  refine lv_iconst (v := 1) hx hb dX1_holdsAlong_216 (by decide) ?_
  refine lv_goto (tgt := 221) hx hb dX1_holdsAlong_217 (by decide) ?_
  exact e_i (fun _ => 0) hx hb hr hlocks rfl rfl hP hD hS (Nat.le_of_ble_eq_true rfl) (Nat.le_of_ble_eq_true rfl) dX1_holdsAlong_221
set_option maxHeartbeats 4000000 in
set_option maxRecDepth 100000 in
theorem c373_X1_holdsAlong (l : Launch) (hfl : l.stackTraces = false) (D : va_G) (cA : Nat → ClassId) (g : gv_T) (h0 h1 h2 h3 h4 h5 h6 h7 h8 h9 h10 h11 h12 h13 h14 h15 h16 h17 h18 h19 h20 h21 h22 h23 h24 h25 : Nat) : CT l yX1_holdsAlong cX1_holdsAlong 12 (some .boolean) (RM 0 0 0 0) D cA g [.ref h0, .ref h1, .int 2, .int 1] [(h1, .inr (5, [.int 0, .int 0, .ref h2, .ref h3, .ref h4, .ref h5, .ref h6, .ref h7, .ref h8, .ref h9, .ref h10, .ref h11])), (h0, .inr (4, [.int 1, .int 46, .long 1, .ref h12, .ref h13, .ref h14, .ref h15, .ref h16, .ref h17, .ref h18, .ref h19, .ref h20, .ref h21, .ref h22, .ref h23, .ref h24, .ref h25]))] (fun q => some (.int 1)) (fun q => [(h1, .inr (5, [.int 0, .int 0, .ref h2, .ref h3, .ref h4, .ref h5, .ref h6, .ref h7, .ref h8, .ref h9, .ref h10, .ref h11])), (h0, .inr (4, [.int 1, .int 46, .long 1, .ref h12, .ref h13, .ref h14, .ref h15, .ref h16, .ref h17, .ref h18, .ref h19, .ref h20, .ref h21, .ref h22, .ref h23, .ref h24, .ref h25]))]) := by
  refine CT.of (by decide +kernel) (Nat.le_of_ble_eq_true rfl) ?_
  intro p e s m args below meth c A ls hx hb hr hml hown hG hlocks hnm hA hS hP hK hD hGV hl
  have hown : s.vm.findClass RX1 = some m.cls := hown
  have hl : lv_has ls 12 [(0, .ref h0), (1, .ref h1), (2, .int 2), (3, .int 1)] := hl
  have hSF : CF p m c cX1_holdsAlong 12 s args RX1 := ⟨hx, hb, hml, hown, hG⟩
  refine lv_lconst (v := 0) hx hb dX1_holdsAlong_0 (by decide) ?_
  refine lv_lstore (lv' := [(4, .long 0), (0, .ref h0), (1, .ref h1), (2, .int 2), (3, .int 1)]) hx hb dX1_holdsAlong_1 hl (by decide) rfl (fun ls hl => ?_)
  refine lv_lconst (v := 0) hx hb dX1_holdsAlong_3 (by decide) ?_
  refine lv_lstore (lv' := [(6, .long 0), (4, .long 0), (0, .ref h0), (1, .ref h1), (2, .int 2), (3, .int 1)]) hx hb dX1_holdsAlong_4 hl (by decide) rfl (fun ls hl => ?_)
  refine lv_iconst (v := 0) hx hb dX1_holdsAlong_6 (by decide) ?_
  refine lv_istore (lv' := [(8, .int 0), (6, .long 0), (4, .long 0), (0, .ref h0), (1, .ref h1), (2, .int 2), (3, .int 1)]) hx hb dX1_holdsAlong_7 hl (by decide) rfl (fun ls hl => ?_)
  refine lv_iload hx hb dX1_holdsAlong_9 (lv_at hl 0 rfl) ?_
  refine lv_aload_n hx hb dX1_holdsAlong_11 rfl (lv_at hl 4 rfl) ?_
  refine k_get (ci := 5) (C := RX2) (T := TX2) (N := 12) (v := .int 0) hx hb hG inX2 hown hK hP 0 rfl rfl 0 (by decide) gw128 rfl dX1_holdsAlong_12 ?_
  refine k_icmp_ge_t (tgt := 180) hx hb dX1_holdsAlong_15 (by decide) (by decide) ?_
  refine lv_aload_n hx hb dX1_holdsAlong_180 rfl (lv_at hl 3 rfl) ?_
  refine k_get (ci := 4) (C := RX1) (T := TX1) (N := 17) (v := .long 1) hx hb hG inX1 hown hK hP 1 rfl rfl 2 (by decide) gw201 rfl dX1_holdsAlong_181 ?_
  refine lv_lconst (v := 0) hx hb dX1_holdsAlong_184 (by decide) ?_
  refine k_lcmp (v := 1) hx hb dX1_holdsAlong_185 (by decide +kernel) ?_
  refine k_if_le_f (tgt := 220) hx hb dX1_holdsAlong_186 (by decide) (by decide) ?_
  refine lv_lload hx hb dX1_holdsAlong_189 (lv_at hl 1 rfl) ?_
  refine lv_aload_n hx hb dX1_holdsAlong_191 rfl (lv_at hl 3 rfl) ?_
  refine k_get (ci := 4) (C := RX1) (T := TX1) (N := 17) (v := .long 1) hx hb hG inX1 hown hK hP 1 rfl rfl 2 (by decide) gw201 rfl dX1_holdsAlong_192 ?_
  refine k_lrem (v := 0) hx hb dX1_holdsAlong_195 (by decide +kernel) (by decide +kernel) ?_
  refine lv_lconst (v := 0) hx hb dX1_holdsAlong_196 (by decide) ?_
  refine k_lcmp (v := 0) hx hb dX1_holdsAlong_197 (by decide +kernel) ?_
  refine k_if_ne_f (tgt := 220) hx hb dX1_holdsAlong_198 (by decide) (by decide) ?_
  refine lv_lload hx hb dX1_holdsAlong_201 (lv_at hl 2 rfl) ?_
  refine lv_lload hx hb dX1_holdsAlong_203 (lv_at hl 1 rfl) ?_
  refine lv_aload_n hx hb dX1_holdsAlong_205 rfl (lv_at hl 3 rfl) ?_
  refine k_get (ci := 4) (C := RX1) (T := TX1) (N := 17) (v := .long 1) hx hb hG inX1 hown hK hP 1 rfl rfl 2 (by decide) gw201 rfl dX1_holdsAlong_206 ?_
  refine k_ldiv (v := 0) hx hb dX1_holdsAlong_209 (by decide +kernel) (by decide +kernel) ?_
  refine k_ladd (v := 0) hx hb dX1_holdsAlong_210 (by decide +kernel) ?_
  refine lv_lconst (v := 0) hx hb dX1_holdsAlong_211 (by decide) ?_
  refine k_lcmp (v := 0) hx hb dX1_holdsAlong_212 (by decide +kernel) ?_
  refine k_if_ne_f (tgt := 220) hx hb dX1_holdsAlong_213 (by decide) (by decide) ?_
  refine lv_iconst (v := 1) hx hb dX1_holdsAlong_216 (by decide) ?_
  refine lv_goto (tgt := 221) hx hb dX1_holdsAlong_217 (by decide) ?_
  exact e_i (fun _ => 0) hx hb hr hlocks rfl rfl hP hD hS (Nat.le_of_ble_eq_true rfl) (Nat.le_of_ble_eq_true rfl) dX1_holdsAlong_221
set_option maxHeartbeats 4000000 in
set_option maxRecDepth 100000 in
theorem c374_X1_holdsAt (l : Launch) (hfl : l.stackTraces = false) (D : va_G) (cA : Nat → ClassId) (g : gv_T) (h0 h1 h2 h3 h4 h5 h6 h7 h8 h9 h10 h11 h12 h13 h14 h15 h16 h17 h18 h19 h20 h21 h22 h23 h24 h25 : Nat) : CT l yX1_holdsAt cX1_holdsAt 3 (some .boolean) (RM 1 0 0 31) D cA g [.ref h0, .ref h1, .int 2] [(h0, .inr (4, [.int 1, .int 46, .long 1, .ref h2, .ref h3, .ref h4, .ref h5, .ref h6, .ref h7, .ref h8, .ref h9, .ref h10, .ref h11, .ref h12, .ref h13, .ref h14, .ref h15])), (h1, .inr (5, [.int 0, .int 0, .ref h16, .ref h17, .ref h18, .ref h19, .ref h20, .ref h21, .ref h22, .ref h23, .ref h24, .ref h25]))] (fun q => some (.int 1)) (fun q => [(h0, .inr (4, [.int 1, .int 46, .long 1, .ref h2, .ref h3, .ref h4, .ref h5, .ref h6, .ref h7, .ref h8, .ref h9, .ref h10, .ref h11, .ref h12, .ref h13, .ref h14, .ref h15])), (h1, .inr (5, [.int 0, .int 0, .ref h16, .ref h17, .ref h18, .ref h19, .ref h20, .ref h21, .ref h22, .ref h23, .ref h24, .ref h25]))]) := by
  refine CT.of (by decide +kernel) (Nat.le_of_ble_eq_true rfl) ?_
  intro p e s m args below meth c A ls hx hb hr hml hown hG hlocks hnm hA hS hP hK hD hGV hl
  have hown : s.vm.findClass RX1 = some m.cls := hown
  have hl : lv_has ls 3 [(0, .ref h0), (1, .ref h1), (2, .int 2)] := hl
  have hSF : CF p m c cX1_holdsAt 3 s args RX1 := ⟨hx, hb, hml, hown, hG⟩
  refine lv_aload_n hx hb dX1_holdsAt_0 rfl (lv_at hl 0 rfl) ?_
  refine lv_aload_n hx hb dX1_holdsAt_1 rfl (lv_at hl 1 rfl) ?_
  refine lv_iload_n hx hb dX1_holdsAt_2 rfl (lv_at hl 2 rfl) ?_
  refine lv_iconst (v := 0) hx hb dX1_holdsAt_3 (by decide) ?_
  refine ct_V (wr := []) hSF hl.1 hP hD hS hA hK hGV (c372_X1_holdsAlong l hfl D cA g h0 h1 h16 h17 h18 h19 h20 h21 h22 h23 h24 h25 h2 h3 h4 h5 h6 h7 h8 h9 h10 h11 h12 h13 h14 h15) goV_X1_185 pd_X1_holdsAlong ⟨(Nat.le_of_ble_eq_true rfl), (Nat.le_of_ble_eq_true rfl)⟩ ⟨(Nat.le_of_ble_eq_true rfl), (Nat.le_of_ble_eq_true rfl)⟩ (va_recv hK hP (ci := 4) (q0 := 0) rfl rfl) dX1_holdsAt_4 rfl (Nat.le_of_ble_eq_true rfl) [1, 0] [] rfl (by decide) rfl (by decide) (by decide) (fun q => [(h1, .inr (5, [.int 0, .int 0, .ref h16, .ref h17, .ref h18, .ref h19, .ref h20, .ref h21, .ref h22, .ref h23, .ref h24, .ref h25])), (h0, .inr (4, [.int 1, .int 46, .long 1, .ref h2, .ref h3, .ref h4, .ref h5, .ref h6, .ref h7, .ref h8, .ref h9, .ref h10, .ref h11, .ref h12, .ref h13, .ref h14, .ref h15]))]) (fun _ => rfl) (fun q1 H locs hP hD hS => ?_)
  refine W.eq (g2 := F0 m 7 ls [.int 1]) rfl ?_
  refine k_if_eq_f (tgt := 24) hx hb dX1_holdsAt_7 (by decide) (by decide) ?_
  refine lv_aload_n hx hb dX1_holdsAt_10 rfl (lv_at hl 0 rfl) ?_
  refine lv_aload_n hx hb dX1_holdsAt_11 rfl (lv_at hl 1 rfl) ?_
  refine lv_iload_n hx hb dX1_holdsAt_12 rfl (lv_at hl 2 rfl) ?_
  refine lv_iconst (v := 1) hx hb dX1_holdsAt_13 (by decide) ?_
  refine ct_V (wr := []) hSF hl.1 hP hD hS hA hK hGV (c373_X1_holdsAlong l hfl D cA g h0 h1 h16 h17 h18 h19 h20 h21 h22 h23 h24 h25 h2 h3 h4 h5 h6 h7 h8 h9 h10 h11 h12 h13 h14 h15) goV_X1_185 pd_X1_holdsAlong ⟨(Nat.le_of_ble_eq_true rfl), (Nat.le_of_ble_eq_true rfl)⟩ ⟨(Nat.le_of_ble_eq_true rfl), (Nat.le_of_ble_eq_true rfl)⟩ (va_recv hK hP (ci := 4) (q0 := 1) rfl rfl) dX1_holdsAt_14 rfl (Nat.le_of_ble_eq_true rfl) [0, 1] [] rfl (by decide) rfl (by decide) (by decide) (fun q => [(h1, .inr (5, [.int 0, .int 0, .ref h16, .ref h17, .ref h18, .ref h19, .ref h20, .ref h21, .ref h22, .ref h23, .ref h24, .ref h25])), (h0, .inr (4, [.int 1, .int 46, .long 1, .ref h2, .ref h3, .ref h4, .ref h5, .ref h6, .ref h7, .ref h8, .ref h9, .ref h10, .ref h11, .ref h12, .ref h13, .ref h14, .ref h15]))]) (fun _ => rfl) (fun q2 H locs hP hD hS => ?_)
  refine W.eq (g2 := F0 m 17 ls [.int 1]) rfl ?_
  refine k_if_eq_f (tgt := 24) hx hb dX1_holdsAt_17 (by decide) (by decide) ?_
  refine lv_iconst (v := 1) hx hb dX1_holdsAt_20 (by decide) ?_
  refine lv_goto (tgt := 25) hx hb dX1_holdsAt_21 (by decide) ?_
  exact e_i (fun _ => 0) hx hb hr hlocks rfl rfl (hP.sub [1, 0] rfl) (hD.sub [1, 0] (by decide) rfl) hS (Nat.le_of_ble_eq_true rfl) (Nat.le_of_ble_eq_true rfl) dX1_holdsAt_25
set_option maxHeartbeats 4000000 in
set_option maxRecDepth 100000 in
theorem c375_X1_holdsAlong (l : Launch) (hfl : l.stackTraces = false) (D : va_G) (cA : Nat → ClassId) (g : gv_T) (h0 h1 h2 h3 h4 h5 h6 h7 h8 h9 h10 h11 h12 h13 h14 h15 h16 h17 h18 h19 h20 h21 h22 h23 h24 h25 : Nat) : CT l yX1_holdsAlong cX1_holdsAlong 12 (some .boolean) (RM 0 0 0 0) D cA g [.ref h0, .ref h1, .int 3, .int 0] [(h1, .inr (5, [.int 0, .int 0, .ref h2, .ref h3, .ref h4, .ref h5, .ref h6, .ref h7, .ref h8, .ref h9, .ref h10, .ref h11])), (h0, .inr (4, [.int 1, .int 46, .long 1, .ref h12, .ref h13, .ref h14, .ref h15, .ref h16, .ref h17, .ref h18, .ref h19, .ref h20, .ref h21, .ref h22, .ref h23, .ref h24, .ref h25]))] (fun q => some (.int 1)) (fun q => [(h1, .inr (5, [.int 0, .int 0, .ref h2, .ref h3, .ref h4, .ref h5, .ref h6, .ref h7, .ref h8, .ref h9, .ref h10, .ref h11])), (h0, .inr (4, [.int 1, .int 46, .long 1, .ref h12, .ref h13, .ref h14, .ref h15, .ref h16, .ref h17, .ref h18, .ref h19, .ref h20, .ref h21, .ref h22, .ref h23, .ref h24, .ref h25]))]) := by
  refine CT.of (by decide +kernel) (Nat.le_of_ble_eq_true rfl) ?_
  intro p e s m args below meth c A ls hx hb hr hml hown hG hlocks hnm hA hS hP hK hD hGV hl
  have hown : s.vm.findClass RX1 = some m.cls := hown
  have hl : lv_has ls 12 [(0, .ref h0), (1, .ref h1), (2, .int 3), (3, .int 0)] := hl
  have hSF : CF p m c cX1_holdsAlong 12 s args RX1 := ⟨hx, hb, hml, hown, hG⟩
  refine lv_lconst (v := 0) hx hb dX1_holdsAlong_0 (by decide) ?_
  refine lv_lstore (lv' := [(4, .long 0), (0, .ref h0), (1, .ref h1), (2, .int 3), (3, .int 0)]) hx hb dX1_holdsAlong_1 hl (by decide) rfl (fun ls hl => ?_)
  refine lv_lconst (v := 0) hx hb dX1_holdsAlong_3 (by decide) ?_
  refine lv_lstore (lv' := [(6, .long 0), (4, .long 0), (0, .ref h0), (1, .ref h1), (2, .int 3), (3, .int 0)]) hx hb dX1_holdsAlong_4 hl (by decide) rfl (fun ls hl => ?_)
  refine lv_iconst (v := 0) hx hb dX1_holdsAlong_6 (by decide) ?_
  refine lv_istore (lv' := [(8, .int 0), (6, .long 0), (4, .long 0), (0, .ref h0), (1, .ref h1), (2, .int 3), (3, .int 0)]) hx hb dX1_holdsAlong_7 hl (by decide) rfl (fun ls hl => ?_)
  refine lv_iload hx hb dX1_holdsAlong_9 (lv_at hl 0 rfl) ?_
  refine lv_aload_n hx hb dX1_holdsAlong_11 rfl (lv_at hl 4 rfl) ?_
  refine k_get (ci := 5) (C := RX2) (T := TX2) (N := 12) (v := .int 0) hx hb hG inX2 hown hK hP 0 rfl rfl 0 (by decide) gw128 rfl dX1_holdsAlong_12 ?_
  refine k_icmp_ge_t (tgt := 180) hx hb dX1_holdsAlong_15 (by decide) (by decide) ?_
  refine lv_aload_n hx hb dX1_holdsAlong_180 rfl (lv_at hl 3 rfl) ?_
  refine k_get (ci := 4) (C := RX1) (T := TX1) (N := 17) (v := .long 1) hx hb hG inX1 hown hK hP 1 rfl rfl 2 (by decide) gw201 rfl dX1_holdsAlong_181 ?_
  refine lv_lconst (v := 0) hx hb dX1_holdsAlong_184 (by decide) ?_
  refine k_lcmp (v := 1) hx hb dX1_holdsAlong_185 (by decide +kernel) ?_
  refine k_if_le_f (tgt := 220) hx hb dX1_holdsAlong_186 (by decide) (by decide) ?_
  refine lv_lload hx hb dX1_holdsAlong_189 (lv_at hl 1 rfl) ?_
  refine lv_aload_n hx hb dX1_holdsAlong_191 rfl (lv_at hl 3 rfl) ?_
  refine k_get (ci := 4) (C := RX1) (T := TX1) (N := 17) (v := .long 1) hx hb hG inX1 hown hK hP 1 rfl rfl 2 (by decide) gw201 rfl dX1_holdsAlong_192 ?_
  refine k_lrem (v := 0) hx hb dX1_holdsAlong_195 (by decide +kernel) (by decide +kernel) ?_
  refine lv_lconst (v := 0) hx hb dX1_holdsAlong_196 (by decide) ?_
  refine k_lcmp (v := 0) hx hb dX1_holdsAlong_197 (by decide +kernel) ?_
  refine k_if_ne_f (tgt := 220) hx hb dX1_holdsAlong_198 (by decide) (by decide) ?_
  refine lv_lload hx hb dX1_holdsAlong_201 (lv_at hl 2 rfl) ?_
  refine lv_lload hx hb dX1_holdsAlong_203 (lv_at hl 1 rfl) ?_
  refine lv_aload_n hx hb dX1_holdsAlong_205 rfl (lv_at hl 3 rfl) ?_
  refine k_get (ci := 4) (C := RX1) (T := TX1) (N := 17) (v := .long 1) hx hb hG inX1 hown hK hP 1 rfl rfl 2 (by decide) gw201 rfl dX1_holdsAlong_206 ?_
  refine k_ldiv (v := 0) hx hb dX1_holdsAlong_209 (by decide +kernel) (by decide +kernel) ?_
  refine k_ladd (v := 0) hx hb dX1_holdsAlong_210 (by decide +kernel) ?_
  refine lv_lconst (v := 0) hx hb dX1_holdsAlong_211 (by decide) ?_
  refine k_lcmp (v := 0) hx hb dX1_holdsAlong_212 (by decide +kernel) ?_
  refine k_if_ne_f (tgt := 220) hx hb dX1_holdsAlong_213 (by decide) (by decide) ?_
  refine lv_iconst (v := 1) hx hb dX1_holdsAlong_216 (by decide) ?_
  refine lv_goto (tgt := 221) hx hb dX1_holdsAlong_217 (by decide) ?_
  exact e_i (fun _ => 0) hx hb hr hlocks rfl rfl hP hD hS (Nat.le_of_ble_eq_true rfl) (Nat.le_of_ble_eq_true rfl) dX1_holdsAlong_221
set_option maxHeartbeats 4000000 in
set_option maxRecDepth 100000 in
theorem c376_X1_holdsAlong (l : Launch) (hfl : l.stackTraces = false) (D : va_G) (cA : Nat → ClassId) (g : gv_T) (h0 h1 h2 h3 h4 h5 h6 h7 h8 h9 h10 h11 h12 h13 h14 h15 h16 h17 h18 h19 h20 h21 h22 h23 h24 h25 : Nat) : CT l yX1_holdsAlong cX1_holdsAlong 12 (some .boolean) (RM 0 0 0 0) D cA g [.ref h0, .ref h1, .int 3, .int 1] [(h1, .inr (5, [.int 0, .int 0, .ref h2, .ref h3, .ref h4, .ref h5, .ref h6, .ref h7, .ref h8, .ref h9, .ref h10, .ref h11])), (h0, .inr (4, [.int 1, .int 46, .long 1, .ref h12, .ref h13, .ref h14, .ref h15, .ref h16, .ref h17, .ref h18, .ref h19, .ref h20, .ref h21, .ref h22, .ref h23, .ref h24, .ref h25]))] (fun q => some (.int 1)) (fun q => [(h1, .inr (5, [.int 0, .int 0, .ref h2, .ref h3, .ref h4, .ref h5, .ref h6, .ref h7, .ref h8, .ref h9, .ref h10, .ref h11])), (h0, .inr (4, [.int 1, .int 46, .long 1, .ref h12, .ref h13, .ref h14, .ref h15, .ref h16, .ref h17, .ref h18, .ref h19, .ref h20, .ref h21, .ref h22, .ref h23, .ref h24, .ref h25]))]) := by
  refine CT.of (by decide +kernel) (Nat.le_of_ble_eq_true rfl) ?_
  intro p e s m args below meth c A ls hx hb hr hml hown hG hlocks hnm hA hS hP hK hD hGV hl
  have hown : s.vm.findClass RX1 = some m.cls := hown
  have hl : lv_has ls 12 [(0, .ref h0), (1, .ref h1), (2, .int 3), (3, .int 1)] := hl
  have hSF : CF p m c cX1_holdsAlong 12 s args RX1 := ⟨hx, hb, hml, hown, hG⟩
  refine lv_lconst (v := 0) hx hb dX1_holdsAlong_0 (by decide) ?_
  refine lv_lstore (lv' := [(4, .long 0), (0, .ref h0), (1, .ref h1), (2, .int 3), (3, .int 1)]) hx hb dX1_holdsAlong_1 hl (by decide) rfl (fun ls hl => ?_)
  refine lv_lconst (v := 0) hx hb dX1_holdsAlong_3 (by decide) ?_
  refine lv_lstore (lv' := [(6, .long 0), (4, .long 0), (0, .ref h0), (1, .ref h1), (2, .int 3), (3, .int 1)]) hx hb dX1_holdsAlong_4 hl (by decide) rfl (fun ls hl => ?_)
  refine lv_iconst (v := 0) hx hb dX1_holdsAlong_6 (by decide) ?_
  refine lv_istore (lv' := [(8, .int 0), (6, .long 0), (4, .long 0), (0, .ref h0), (1, .ref h1), (2, .int 3), (3, .int 1)]) hx hb dX1_holdsAlong_7 hl (by decide) rfl (fun ls hl => ?_)
  refine lv_iload hx hb dX1_holdsAlong_9 (lv_at hl 0 rfl) ?_
  refine lv_aload_n hx hb dX1_holdsAlong_11 rfl (lv_at hl 4 rfl) ?_
  refine k_get (ci := 5) (C := RX2) (T := TX2) (N := 12) (v := .int 0) hx hb hG inX2 hown hK hP 0 rfl rfl 0 (by decide) gw128 rfl dX1_holdsAlong_12 ?_
  refine k_icmp_ge_t (tgt := 180) hx hb dX1_holdsAlong_15 (by decide) (by decide) ?_
  refine lv_aload_n hx hb dX1_holdsAlong_180 rfl (lv_at hl 3 rfl) ?_
  refine k_get (ci := 4) (C := RX1) (T := TX1) (N := 17) (v := .long 1) hx hb hG inX1 hown hK hP 1 rfl rfl 2 (by decide) gw201 rfl dX1_holdsAlong_181 ?_
  refine lv_lconst (v := 0) hx hb dX1_holdsAlong_184 (by decide) ?_
  refine k_lcmp (v := 1) hx hb dX1_holdsAlong_185 (by decide +kernel) ?_
  refine k_if_le_f (tgt := 220) hx hb dX1_holdsAlong_186 (by decide) (by decide) ?_
  refine lv_lload hx hb dX1_holdsAlong_189 (lv_at hl 1 rfl) ?_
  refine lv_aload_n hx hb dX1_holdsAlong_191 rfl (lv_at hl 3 rfl) ?_
  refine k_get (ci := 4) (C := RX1) (T := TX1) (N := 17) (v := .long 1) hx hb hG inX1 hown hK hP 1 rfl rfl 2 (by decide) gw201 rfl dX1_holdsAlong_192 ?_
  refine k_lrem (v := 0) hx hb dX1_holdsAlong_195 (by decide +kernel) (by decide +kernel) ?_
  refine lv_lconst (v := 0) hx hb dX1_holdsAlong_196 (by decide) ?_
  refine k_lcmp (v := 0) hx hb dX1_holdsAlong_197 (by decide +kernel) ?_
  refine k_if_ne_f (tgt := 220) hx hb dX1_holdsAlong_198 (by decide) (by decide) ?_
  refine lv_lload hx hb dX1_holdsAlong_201 (lv_at hl 2 rfl) ?_
  refine lv_lload hx hb dX1_holdsAlong_203 (lv_at hl 1 rfl) ?_
  refine lv_aload_n hx hb dX1_holdsAlong_205 rfl (lv_at hl 3 rfl) ?_
  refine k_get (ci := 4) (C := RX1) (T := TX1) (N := 17) (v := .long 1) hx hb hG inX1 hown hK hP 1 rfl rfl 2 (by decide) gw201 rfl dX1_holdsAlong_206 ?_
  refine k_ldiv (v := 0) hx hb dX1_holdsAlong_209 (by decide +kernel) (by decide +kernel) ?_
  refine k_ladd (v := 0) hx hb dX1_holdsAlong_210 (by decide +kernel) ?_
  refine lv_lconst (v := 0) hx hb dX1_holdsAlong_211 (by decide) ?_
  refine k_lcmp (v := 0) hx hb dX1_holdsAlong_212 (by decide +kernel) ?_
  refine k_if_ne_f (tgt := 220) hx hb dX1_holdsAlong_213 (by decide) (by decide) ?_
  refine lv_iconst (v := 1) hx hb dX1_holdsAlong_216 (by decide) ?_
  refine lv_goto (tgt := 221) hx hb dX1_holdsAlong_217 (by decide) ?_
  exact e_i (fun _ => 0) hx hb hr hlocks rfl rfl hP hD hS (Nat.le_of_ble_eq_true rfl) (Nat.le_of_ble_eq_true rfl) dX1_holdsAlong_221
set_option maxHeartbeats 4000000 in
set_option maxRecDepth 100000 in
theorem c377_X1_holdsAt (l : Launch) (hfl : l.stackTraces = false) (D : va_G) (cA : Nat → ClassId) (g : gv_T) (h0 h1 h2 h3 h4 h5 h6 h7 h8 h9 h10 h11 h12 h13 h14 h15 h16 h17 h18 h19 h20 h21 h22 h23 h24 h25 : Nat) : CT l yX1_holdsAt cX1_holdsAt 3 (some .boolean) (RM 1 0 0 31) D cA g [.ref h0, .ref h1, .int 3] [(h0, .inr (4, [.int 1, .int 46, .long 1, .ref h2, .ref h3, .ref h4, .ref h5, .ref h6, .ref h7, .ref h8, .ref h9, .ref h10, .ref h11, .ref h12, .ref h13, .ref h14, .ref h15])), (h1, .inr (5, [.int 0, .int 0, .ref h16, .ref h17, .ref h18, .ref h19, .ref h20, .ref h21, .ref h22, .ref h23, .ref h24, .ref h25]))] (fun q => some (.int 1)) (fun q => [(h0, .inr (4, [.int 1, .int 46, .long 1, .ref h2, .ref h3, .ref h4, .ref h5, .ref h6, .ref h7, .ref h8, .ref h9, .ref h10, .ref h11, .ref h12, .ref h13, .ref h14, .ref h15])), (h1, .inr (5, [.int 0, .int 0, .ref h16, .ref h17, .ref h18, .ref h19, .ref h20, .ref h21, .ref h22, .ref h23, .ref h24, .ref h25]))]) := by
  refine CT.of (by decide +kernel) (Nat.le_of_ble_eq_true rfl) ?_
  intro p e s m args below meth c A ls hx hb hr hml hown hG hlocks hnm hA hS hP hK hD hGV hl
  have hown : s.vm.findClass RX1 = some m.cls := hown
  have hl : lv_has ls 3 [(0, .ref h0), (1, .ref h1), (2, .int 3)] := hl
  have hSF : CF p m c cX1_holdsAt 3 s args RX1 := ⟨hx, hb, hml, hown, hG⟩
  refine lv_aload_n hx hb dX1_holdsAt_0 rfl (lv_at hl 0 rfl) ?_
  refine lv_aload_n hx hb dX1_holdsAt_1 rfl (lv_at hl 1 rfl) ?_
  refine lv_iload_n hx hb dX1_holdsAt_2 rfl (lv_at hl 2 rfl) ?_
  refine lv_iconst (v := 0) hx hb dX1_holdsAt_3 (by decide) ?_
  refine ct_V (wr := []) hSF hl.1 hP hD hS hA hK hGV (c375_X1_holdsAlong l hfl D cA g h0 h1 h16 h17 h18 h19 h20 h21 h22 h23 h24 h25 h2 h3 h4 h5 h6 h7 h8 h9 h10 h11 h12 h13 h14 h15) goV_X1_185 pd_X1_holdsAlong ⟨(Nat.le_of_ble_eq_true rfl), (Nat.le_of_ble_eq_true rfl)⟩ ⟨(Nat.le_of_ble_eq_true rfl), (Nat.le_of_ble_eq_true rfl)⟩ (va_recv hK hP (ci := 4) (q0 := 0) rfl rfl) dX1_holdsAt_4 rfl (Nat.le_of_ble_eq_true rfl) [1, 0] [] rfl (by decide) rfl (by decide) (by decide) (fun q => [(h1, .inr (5, [.int 0, .int 0, .ref h16, .ref h17, .ref h18, .ref h19, .ref h20, .ref h21, .ref h22, .ref h23, .ref h24, .ref h25])), (h0, .inr (4, [.int 1, .int 46, .long 1, .ref h2, .ref h3, .ref h4, .ref h5, .ref h6, .ref h7, .ref h8, .ref h9, .ref h10, .ref h11, .ref h12, .ref h13, .ref h14, .ref h15]))]) (fun _ => rfl) (fun q1 H locs hP hD hS => ?_)
  refine W.eq (g2 := F0 m 7 ls [.int 1]) rfl ?_
  refine k_if_eq_f (tgt := 24) hx hb dX1_holdsAt_7 (by decide) (by decide) ?_
  refine lv_aload_n hx hb dX1_holdsAt_10 rfl (lv_at hl 0 rfl) ?_
  refine lv_aload_n hx hb dX1_holdsAt_11 rfl (lv_at hl 1 rfl) ?_
  refine lv_iload_n hx hb dX1_holdsAt_12 rfl (lv_at hl 2 rfl) ?_
  refine lv_iconst (v := 1) hx hb dX1_holdsAt_13 (by decide) ?_
  refine ct_V (wr := []) hSF hl.1 hP hD hS hA hK hGV (c376_X1_holdsAlong l hfl D cA g h0 h1 h16 h17 h18 h19 h20 h21 h22 h23 h24 h25 h2 h3 h4 h5 h6 h7 h8 h9 h10 h11 h12 h13 h14 h15) goV_X1_185 pd_X1_holdsAlong ⟨(Nat.le_of_ble_eq_true rfl), (Nat.le_of_ble_eq_true rfl)⟩ ⟨(Nat.le_of_ble_eq_true rfl), (Nat.le_of_ble_eq_true rfl)⟩ (va_recv hK hP (ci := 4) (q0 := 1) rfl rfl) dX1_holdsAt_14 rfl (Nat.le_of_ble_eq_true rfl) [0, 1] [] rfl (by decide) rfl (by decide) (by decide) (fun q => [(h1, .inr (5, [.int 0, .int 0, .ref h16, .ref h17, .ref h18, .ref h19, .ref h20, .ref h21, .ref h22, .ref h23, .ref h24, .ref h25])), (h0, .inr (4, [.int 1, .int 46, .long 1, .ref h2, .ref h3, .ref h4, .ref h5, .ref h6, .ref h7, .ref h8, .ref h9, .ref h10, .ref h11, .ref h12, .ref h13, .ref h14, .ref h15]))]) (fun _ => rfl) (fun q2 H locs hP hD hS => ?_)
  refine W.eq (g2 := F0 m 17 ls [.int 1]) rfl ?_
  refine k_if_eq_f (tgt := 24) hx hb dX1_holdsAt_17 (by decide) (by decide) ?_
  refine lv_iconst (v := 1) hx hb dX1_holdsAt_20 (by decide) ?_
  refine lv_goto (tgt := 25) hx hb dX1_holdsAt_21 (by decide) ?_
  exact e_i (fun _ => 0) hx hb hr hlocks rfl rfl (hP.sub [1, 0] rfl) (hD.sub [1, 0] (by decide) rfl) hS (Nat.le_of_ble_eq_true rfl) (Nat.le_of_ble_eq_true rfl) dX1_holdsAt_25
set_option maxHeartbeats 4000000 in
set_option maxRecDepth 100000 in
theorem c378_X1_holdsAlong (l : Launch) (hfl : l.stackTraces = false) (D : va_G) (cA : Nat → ClassId) (g : gv_T) (h0 h1 h2 h3 h4 h5 h6 h7 h8 h9 h10 h11 h12 h13 h14 h15 h16 h17 h18 h19 h20 h21 h22 h23 h24 h25 : Nat) : CT l yX1_holdsAlong cX1_holdsAlong 12 (some .boolean) (RM 0 0 0 0) D cA g [.ref h0, .ref h1, .int 4, .int 0] [(h1, .inr (5, [.int 0, .int 0, .ref h2, .ref h3, .ref h4, .ref h5, .ref h6, .ref h7, .ref h8, .ref h9, .ref h10, .ref h11])), (h0, .inr (4, [.int 1, .int 46, .long 1, .ref h12, .ref h13, .ref h14, .ref h15, .ref h16, .ref h17, .ref h18, .ref h19, .ref h20, .ref h21, .ref h22, .ref h23, .ref h24, .ref h25]))] (fun q => some (.int 1)) (fun q => [(h1, .inr (5, [.int 0, .int 0, .ref h2, .ref h3, .ref h4, .ref h5, .ref h6, .ref h7, .ref h8, .ref h9, .ref h10, .ref h11])), (h0, .inr (4, [.int 1, .int 46, .long 1, .ref h12, .ref h13, .ref h14, .ref h15, .ref h16, .ref h17, .ref h18, .ref h19, .ref h20, .ref h21, .ref h22, .ref h23, .ref h24, .ref h25]))]) := by
  refine CT.of (by decide +kernel) (Nat.le_of_ble_eq_true rfl) ?_
  intro p e s m args below meth c A ls hx hb hr hml hown hG hlocks hnm hA hS hP hK hD hGV hl
  have hown : s.vm.findClass RX1 = some m.cls := hown
  have hl : lv_has ls 12 [(0, .ref h0), (1, .ref h1), (2, .int 4), (3, .int 0)] := hl
  have hSF : CF p m c cX1_holdsAlong 12 s args RX1 := ⟨hx, hb, hml, hown, hG⟩
  refine lv_lconst (v := 0) hx hb dX1_holdsAlong_0 (by decide) ?_
  refine lv_lstore (lv' := [(4, .long 0), (0, .ref h0), (1, .ref h1), (2, .int 4), (3, .int 0)]) hx hb dX1_holdsAlong_1 hl (by decide) rfl (fun ls hl => ?_)
  refine lv_lconst (v := 0) hx hb dX1_holdsAlong_3 (by decide) ?_
  refine lv_lstore (lv' := [(6, .long 0), (4, .long 0), (0, .ref h0), (1, .ref h1), (2, .int 4), (3, .int 0)]) hx hb dX1_holdsAlong_4 hl (by decide) rfl (fun ls hl => ?_)
  refine lv_iconst (v := 0) hx hb dX1_holdsAlong_6 (by decide) ?_
  refine lv_istore (lv' := [(8, .int 0), (6, .long 0), (4, .long 0), (0, .ref h0), (1, .ref h1), (2, .int 4), (3, .int 0)]) hx hb dX1_holdsAlong_7 hl (by decide) rfl (fun ls hl => ?_)
  refine lv_iload hx hb dX1_holdsAlong_9 (lv_at hl 0 rfl) ?_
  refine lv_aload_n hx hb dX1_holdsAlong_11 rfl (lv_at hl 4 rfl) ?_
  refine k_get (ci := 5) (C := RX2) (T := TX2) (N := 12) (v := .int 0) hx hb hG inX2 hown hK hP 0 rfl rfl 0 (by decide) gw128 rfl dX1_holdsAlong_12 ?_
  refine k_icmp_ge_t (tgt := 180) hx hb dX1_holdsAlong_15 (by decide) (by decide) ?_
  refine lv_aload_n hx hb dX1_holdsAlong_180 rfl (lv_at hl 3 rfl) ?_
  refine k_get (ci := 4) (C := RX1) (T := TX1) (N := 17) (v := .long 1) hx hb hG inX1 hown hK hP 1 rfl rfl 2 (by decide) gw201 rfl dX1_holdsAlong_181 ?_
  refine lv_lconst (v := 0) hx hb dX1_holdsAlong_184 (by decide) ?_
  refine k_lcmp (v := 1) hx hb dX1_holdsAlong_185 (by decide +kernel) ?_
  refine k_if_le_f (tgt := 220) hx hb dX1_holdsAlong_186 (by decide) (by decide) ?_
  refine lv_lload hx hb dX1_holdsAlong_189 (lv_at hl 1 rfl) ?_
  refine lv_aload_n hx hb dX1_holdsAlong_191 rfl (lv_at hl 3 rfl) ?_
  refine k_get (ci := 4) (C := RX1) (T := TX1) (N := 17) (v := .long 1) hx hb hG inX1 hown hK hP 1 rfl rfl 2 (by decide) gw201 rfl dX1_holdsAlong_192 ?_
  refine k_lrem (v := 0) hx hb dX1_holdsAlong_195 (by decide +kernel) (by decide +kernel) ?_
  refine lv_lconst (v := 0) hx hb dX1_holdsAlong_196 (by decide) ?_
  refine k_lcmp (v := 0) hx hb dX1_holdsAlong_197 (by decide +kernel) ?_
  refine k_if_ne_f (tgt := 220) hx hb dX1_holdsAlong_198 (by decide) (by decide) ?_
  refine lv_lload hx hb dX1_holdsAlong_201 (lv_at hl 2 rfl) ?_
  refine lv_lload hx hb dX1_holdsAlong_203 (lv_at hl 1 rfl) ?_
  refine lv_aload_n hx hb dX1_holdsAlong_205 rfl (lv_at hl 3 rfl) ?_
  refine k_get (ci := 4) (C := RX1) (T := TX1) (N := 17) (v := .long 1) hx hb hG inX1 hown hK hP 1 rfl rfl 2 (by decide) gw201 rfl dX1_holdsAlong_206 ?_
  refine k_ldiv (v := 0) hx hb dX1_holdsAlong_209 (by decide +kernel) (by decide +kernel) ?_
  refine k_ladd (v := 0) hx hb dX1_holdsAlong_210 (by decide +kernel) ?_
  refine lv_lconst (v := 0) hx hb dX1_holdsAlong_211 (by decide) ?_
  refine k_lcmp (v := 0) hx hb dX1_holdsAlong_212 (by decide +kernel) ?_
  refine k_if_ne_f (tgt := 220) hx hb dX1_holdsAlong_213 (by decide) (by decide) ?_
  refine lv_iconst (v := 1) hx hb dX1_holdsAlong_216 (by decide) ?_
  refine lv_goto (tgt := 221) hx hb dX1_holdsAlong_217 (by decide) ?_
  exact e_i (fun _ => 0) hx hb hr hlocks rfl rfl hP hD hS (Nat.le_of_ble_eq_true rfl) (Nat.le_of_ble_eq_true rfl) dX1_holdsAlong_221
set_option maxHeartbeats 4000000 in
set_option maxRecDepth 100000 in
theorem c379_X1_holdsAlong (l : Launch) (hfl : l.stackTraces = false) (D : va_G) (cA : Nat → ClassId) (g : gv_T) (h0 h1 h2 h3 h4 h5 h6 h7 h8 h9 h10 h11 h12 h13 h14 h15 h16 h17 h18 h19 h20 h21 h22 h23 h24 h25 : Nat) : CT l yX1_holdsAlong cX1_holdsAlong 12 (some .boolean) (RM 0 0 0 0) D cA g [.ref h0, .ref h1, .int 4, .int 1] [(h1, .inr (5, [.int 0, .int 0, .ref h2, .ref h3, .ref h4, .ref h5, .ref h6, .ref h7, .ref h8, .ref h9, .ref h10, .ref h11])), (h0, .inr (4, [.int 1, .int 46, .long 1, .ref h12, .ref h13, .ref h14, .ref h15, .ref h16, .ref h17, .ref h18, .ref h19, .ref h20, .ref h21, .ref h22, .ref h23, .ref h24, .ref h25]))] (fun q => some (.int 1)) (fun q => [(h1, .inr (5, [.int 0, .int 0, .ref h2, .ref h3, .ref h4, .ref h5, .ref h6, .ref h7, .ref h8, .ref h9, .ref h10, .ref h11])), (h0, .inr (4, [.int 1, .int 46, .long 1, .ref h12, .ref h13, .ref h14, .ref h15, .ref h16, .ref h17, .ref h18, .ref h19, .ref h20, .ref h21, .ref h22, .ref h23, .ref h24, .ref h25]))]) := by
  refine CT.of (by decide +kernel) (Nat.le_of_ble_eq_true rfl) ?_
  intro p e s m args below meth c A ls hx hb hr hml hown hG hlocks hnm hA hS hP hK hD hGV hl
  have hown : s.vm.findClass RX1 = some m.cls := hown
  have hl : lv_has ls 12 [(0, .ref h0), (1, .ref h1), (2, .int 4), (3, .int 1)] := hl
  have hSF : CF p m c cX1_holdsAlong 12 s args RX1 := ⟨hx, hb, hml, hown, hG⟩
  refine lv_lconst (v := 0) hx hb dX1_holdsAlong_0 (by decide) ?_
  refine lv_lstore (lv' := [(4, .long 0), (0, .ref h0), (1, .ref h1), (2, .int 4), (3, .int 1)]) hx hb dX1_holdsAlong_1 hl (by decide) rfl (fun ls hl => ?_)
  refine lv_lconst (v := 0) hx hb dX1_holdsAlong_3 (by decide) ?_
  refine lv_lstore (lv' := [(6, .long 0), (4, .long 0), (0, .ref h0), (1, .ref h1), (2, .int 4), (3, .int 1)]) hx hb dX1_holdsAlong_4 hl (by decide) rfl (fun ls hl => ?_)
  refine lv_iconst (v := 0) hx hb dX1_holdsAlong_6 (by decide) ?_
  refine lv_istore (lv' := [(8, .int 0), (6, .long 0), (4, .long 0), (0, .ref h0), (1, .ref h1), (2, .int 4), (3, .int 1)]) hx hb dX1_holdsAlong_7 hl (by decide) rfl (fun ls hl => ?_)
  refine lv_iload hx hb dX1_holdsAlong_9 (lv_at hl 0 rfl) ?_
  refine lv_aload_n hx hb dX1_holdsAlong_11 rfl (lv_at hl 4 rfl) ?_
  refine k_get (ci := 5) (C := RX2) (T := TX2) (N := 12) (v := .int 0) hx hb hG inX2 hown hK hP 0 rfl rfl 0 (by decide) gw128 rfl dX1_holdsAlong_12 ?_
  refine k_icmp_ge_t (tgt := 180) hx hb dX1_holdsAlong_15 (by decide) (by decide) ?_
  refine lv_aload_n hx hb dX1_holdsAlong_180 rfl (lv_at hl 3 rfl) ?_
  refine k_get (ci := 4) (C := RX1) (T := TX1) (N := 17) (v := .long 1) hx hb hG inX1 hown hK hP 1 rfl rfl 2 (by decide) gw201 rfl dX1_holdsAlong_181 ?_
  refine lv_lconst (v := 0) hx hb dX1_holdsAlong_184 (by decide) ?_
  refine k_lcmp (v := 1) hx hb dX1_holdsAlong_185 (by decide +kernel) ?_
  refine k_if_le_f (tgt := 220) hx hb dX1_holdsAlong_186 (by decide) (by decide) ?_
  refine lv_lload hx hb dX1_holdsAlong_189 (lv_at hl 1 rfl) ?_
  refine lv_aload_n hx hb dX1_holdsAlong_191 rfl (lv_at hl 3 rfl) ?_
  refine k_get (ci := 4) (C := RX1) (T := TX1) (N := 17) (v := .long 1) hx hb hG inX1 hown hK hP 1 rfl rfl 2 (by decide) gw201 rfl dX1_holdsAlong_192 ?_
  refine k_lrem (v := 0) hx hb dX1_holdsAlong_195 (by decide +kernel) (by decide +kernel) ?_
  refine lv_lconst (v := 0) hx hb dX1_holdsAlong_196 (by decide) ?_
  refine k_lcmp (v := 0) hx hb dX1_holdsAlong_197 (by decide +kernel) ?_
  refine k_if_ne_f (tgt := 220) hx hb dX1_holdsAlong_198 (by decide) (by decide) ?_
  refine lv_lload hx hb dX1_holdsAlong_201 (lv_at hl 2 rfl) ?_
  refine lv_lload hx hb dX1_holdsAlong_203 (lv_at hl 1 rfl) ?_
  refine lv_aload_n hx hb dX1_holdsAlong_205 rfl (lv_at hl 3 rfl) ?_
  refine k_get (ci := 4) (C := RX1) (T := TX1) (N := 17) (v := .long 1) hx hb hG inX1 hown hK hP 1 rfl rfl 2 (by decide) gw201 rfl dX1_holdsAlong_206 ?_
  refine k_ldiv (v := 0) hx hb dX1_holdsAlong_209 (by decide +kernel) (by decide +kernel) ?_
  refine k_ladd (v := 0) hx hb dX1_holdsAlong_210 (by decide +kernel) ?_
  refine lv_lconst (v := 0) hx hb dX1_holdsAlong_211 (by decide) ?_
  refine k_lcmp (v := 0) hx hb dX1_holdsAlong_212 (by decide +kernel) ?_
  refine k_if_ne_f (tgt := 220) hx hb dX1_holdsAlong_213 (by decide) (by decide) ?_
  refine lv_iconst (v := 1) hx hb dX1_holdsAlong_216 (by decide) ?_
  refine lv_goto (tgt := 221) hx hb dX1_holdsAlong_217 (by decide) ?_
  exact e_i (fun _ => 0) hx hb hr hlocks rfl rfl hP hD hS (Nat.le_of_ble_eq_true rfl) (Nat.le_of_ble_eq_true rfl) dX1_holdsAlong_221
set_option maxHeartbeats 4000000 in
set_option maxRecDepth 100000 in
theorem c380_X1_holdsAt (l : Launch) (hfl : l.stackTraces = false) (D : va_G) (cA : Nat → ClassId) (g : gv_T) (h0 h1 h2 h3 h4 h5 h6 h7 h8 h9 h10 h11 h12 h13 h14 h15 h16 h17 h18 h19 h20 h21 h22 h23 h24 h25 : Nat) : CT l yX1_holdsAt cX1_holdsAt 3 (some .boolean) (RM 1 0 0 31) D cA g [.ref h0, .ref h1, .int 4] [(h0, .inr (4, [.int 1, .int 46, .long 1, .ref h2, .ref h3, .ref h4, .ref h5, .ref h6, .ref h7, .ref h8, .ref h9, .ref h10, .ref h11, .ref h12, .ref h13, .ref h14, .ref h15])), (h1, .inr (5, [.int 0, .int 0, .ref h16, .ref h17, .ref h18, .ref h19, .ref h20, .ref h21, .ref h22, .ref h23, .ref h24, .ref h25]))] (fun q => some (.int 1)) (fun q => [(h0, .inr (4, [.int 1, .int 46, .long 1, .ref h2, .ref h3, .ref h4, .ref h5, .ref h6, .ref h7, .ref h8, .ref h9, .ref h10, .ref h11, .ref h12, .ref h13, .ref h14, .ref h15])), (h1, .inr (5, [.int 0, .int 0, .ref h16, .ref h17, .ref h18, .ref h19, .ref h20, .ref h21, .ref h22, .ref h23, .ref h24, .ref h25]))]) := by
  refine CT.of (by decide +kernel) (Nat.le_of_ble_eq_true rfl) ?_
  intro p e s m args below meth c A ls hx hb hr hml hown hG hlocks hnm hA hS hP hK hD hGV hl
  have hown : s.vm.findClass RX1 = some m.cls := hown
  have hl : lv_has ls 3 [(0, .ref h0), (1, .ref h1), (2, .int 4)] := hl
  have hSF : CF p m c cX1_holdsAt 3 s args RX1 := ⟨hx, hb, hml, hown, hG⟩
  refine lv_aload_n hx hb dX1_holdsAt_0 rfl (lv_at hl 0 rfl) ?_
  refine lv_aload_n hx hb dX1_holdsAt_1 rfl (lv_at hl 1 rfl) ?_
  refine lv_iload_n hx hb dX1_holdsAt_2 rfl (lv_at hl 2 rfl) ?_
  refine lv_iconst (v := 0) hx hb dX1_holdsAt_3 (by decide) ?_
  refine ct_V (wr := []) hSF hl.1 hP hD hS hA hK hGV (c378_X1_holdsAlong l hfl D cA g h0 h1 h16 h17 h18 h19 h20 h21 h22 h23 h24 h25 h2 h3 h4 h5 h6 h7 h8 h9 h10 h11 h12 h13 h14 h15) goV_X1_185 pd_X1_holdsAlong ⟨(Nat.le_of_ble_eq_true rfl), (Nat.le_of_ble_eq_true rfl)⟩ ⟨(Nat.le_of_ble_eq_true rfl), (Nat.le_of_ble_eq_true rfl)⟩ (va_recv hK hP (ci := 4) (q0 := 0) rfl rfl) dX1_holdsAt_4 rfl (Nat.le_of_ble_eq_true rfl) [1, 0] [] rfl (by decide) rfl (by decide) (by decide) (fun q => [(h1, .inr (5, [.int 0, .int 0, .ref h16, .ref h17, .ref h18, .ref h19, .ref h20, .ref h21, .ref h22, .ref h23, .ref h24, .ref h25])), (h0, .inr (4, [.int 1, .int 46, .long 1, .ref h2, .ref h3, .ref h4, .ref h5, .ref h6, .ref h7, .ref h8, .ref h9, .ref h10, .ref h11, .ref h12, .ref h13, .ref h14, .ref h15]))]) (fun _ => rfl) (fun q1 H locs hP hD hS => ?_)
  refine W.eq (g2 := F0 m 7 ls [.int 1]) rfl ?_
  refine k_if_eq_f (tgt := 24) hx hb dX1_holdsAt_7 (by decide) (by decide) ?_
  refine lv_aload_n hx hb dX1_holdsAt_10 rfl (lv_at hl 0 rfl) ?_
  refine lv_aload_n hx hb dX1_holdsAt_11 rfl (lv_at hl 1 rfl) ?_
  refine lv_iload_n hx hb dX1_holdsAt_12 rfl (lv_at hl 2 rfl) ?_
  refine lv_iconst (v := 1) hx hb dX1_holdsAt_13 (by decide) ?_
  refine ct_V (wr := []) hSF hl.1 hP hD hS hA hK hGV (c379_X1_holdsAlong l hfl D cA g h0 h1 h16 h17 h18 h19 h20 h21 h22 h23 h24 h25 h2 h3 h4 h5 h6 h7 h8 h9 h10 h11 h12 h13 h14 h15) goV_X1_185 pd_X1_holdsAlong ⟨(Nat.le_of_ble_eq_true rfl), (Nat.le_of_ble_eq_true rfl)⟩ ⟨(Nat.le_of_ble_eq_true rfl), (Nat.le_of_ble_eq_true rfl)⟩ (va_recv hK hP (ci := 4) (q0 := 1) rfl rfl) dX1_holdsAt_14 rfl (Nat.le_of_ble_eq_true rfl) [0, 1] [] rfl (by decide) rfl (by decide) (by decide) (fun q => [(h1, .inr (5, [.int 0, .int 0, .ref h16, .ref h17, .ref h18, .ref h19, .ref h20, .ref h21, .ref h22, .ref h23, .ref h24, .ref h25])), (h0, .inr (4, [.int 1, .int 46, .long 1, .ref h2, .ref h3, .ref h4, .ref h5, .ref h6, .ref h7, .ref h8, .ref h9, .ref h10, .ref h11, .ref h12, .ref h13, .ref h14, .ref h15]))]) (fun _ => rfl) (fun q2 H locs hP hD hS => ?_)
  refine W.eq (g2 := F0 m 17 ls [.int 1]) rfl ?_
  refine k_if_eq_f (tgt := 24) hx hb dX1_holdsAt_17 (by decide) (by decide) ?_
  refine lv_iconst (v := 1) hx hb dX1_holdsAt_20 (by decide) ?_
  refine lv_goto (tgt := 25) hx hb dX1_holdsAt_21 (by decide) ?_
  exact e_i (fun _ => 0) hx hb hr hlocks rfl rfl (hP.sub [1, 0] rfl) (hD.sub [1, 0] (by decide) rfl) hS (Nat.le_of_ble_eq_true rfl) (Nat.le_of_ble_eq_true rfl) dX1_holdsAt_25
set_option maxHeartbeats 4000000 in
set_option maxRecDepth 100000 in
theorem c381_X1_holdsAlong (l : Launch) (hfl : l.stackTraces = false) (D : va_G) (cA : Nat → ClassId) (g : gv_T) (h0 h1 h2 h3 h4 h5 h6 h7 h8 h9 h10 h11 h12 h13 h14 h15 h16 h17 h18 h19 h20 h21 h22 h23 h24 h25 : Nat) : CT l yX1_holdsAlong cX1_holdsAlong 12 (some .boolean) (RM 0 0 0 0) D cA g [.ref h0, .ref h1, .int 5, .int 0] [(h1, .inr (5, [.int 0, .int 0, .ref h2, .ref h3, .ref h4, .ref h5, .ref h6, .ref h7, .ref h8, .ref h9, .ref h10, .ref h11])), (h0, .inr (4, [.int 1, .int 46, .long 1, .ref h12, .ref h13, .ref h14, .ref h15, .ref h16, .ref h17, .ref h18, .ref h19, .ref h20, .ref h21, .ref h22, .ref h23, .ref h24, .ref h25]))] (fun q => some (.int 1)) (fun q => [(h1, .inr (5, [.int 0, .int 0, .ref h2, .ref h3, .ref h4, .ref h5, .ref h6, .ref h7, .ref h8, .ref h9, .ref h10, .ref h11])), (h0, .inr (4, [.int 1, .int 46, .long 1, .ref h12, .ref h13, .ref h14, .ref h15, .ref h16, .ref h17, .ref h18, .ref h19, .ref h20, .ref h21, .ref h22, .ref h23, .ref h24, .ref h25]))]) := by
  refine CT.of (by decide +kernel) (Nat.le_of_ble_eq_true rfl) ?_
  intro p e s m args below meth c A ls hx hb hr hml hown hG hlocks hnm hA hS hP hK hD hGV hl
  have hown : s.vm.findClass RX1 = some m.cls := hown
  have hl : lv_has ls 12 [(0, .ref h0), (1, .ref h1), (2, .int 5), (3, .int 0)] := hl
  have hSF : CF p m c cX1_holdsAlong 12 s args RX1 := ⟨hx, hb, hml, hown, hG⟩
  refine lv_lconst (v := 0) hx hb dX1_holdsAlong_0 (by decide) ?_
  refine lv_lstore (lv' := [(4, .long 0), (0, .ref h0), (1, .ref h1), (2, .int 5), (3, .int 0)]) hx hb dX1_holdsAlong_1 hl (by decide) rfl (fun ls hl => ?_)
  refine lv_lconst (v := 0) hx hb dX1_holdsAlong_3 (by decide) ?_
  refine lv_lstore (lv' := [(6, .long 0), (4, .long 0), (0, .ref h0), (1, .ref h1), (2, .int 5), (3, .int 0)]) hx hb dX1_holdsAlong_4 hl (by decide) rfl (fun ls hl => ?_)
  refine lv_iconst (v := 0) hx hb dX1_holdsAlong_6 (by decide) ?_
  refine lv_istore (lv' := [(8, .int 0), (6, .long 0), (4, .long 0), (0, .ref h0), (1, .ref h1), (2, .int 5), (3, .int 0)]) hx hb dX1_holdsAlong_7 hl (by decide) rfl (fun ls hl => ?_)
  refine lv_iload hx hb dX1_holdsAlong_9 (lv_at hl 0 rfl) ?_
  refine lv_aload_n hx hb dX1_holdsAlong_11 rfl (lv_at hl 4 rfl) ?_
  refine k_get (ci := 5) (C := RX2) (T := TX2) (N := 12) (v := .int 0) hx hb hG inX2 hown hK hP 0 rfl rfl 0 (by decide) gw128 rfl dX1_holdsAlong_12 ?_
  refine k_icmp_ge_t (tgt := 180) hx hb dX1_holdsAlong_15 (by decide) (by decide) ?_
  refine lv_aload_n hx hb dX1_holdsAlong_180 rfl (lv_at hl 3 rfl) ?_
  refine k_get (ci := 4) (C := RX1) (T := TX1) (N := 17) (v := .long 1) hx hb hG inX1 hown hK hP 1 rfl rfl 2 (by decide) gw201 rfl dX1_holdsAlong_181 ?_
  refine lv_lconst (v := 0) hx hb dX1_holdsAlong_184 (by decide) ?_
  refine k_lcmp (v := 1) hx hb dX1_holdsAlong_185 (by decide +kernel) ?_
  refine k_if_le_f (tgt := 220) hx hb dX1_holdsAlong_186 (by decide) (by decide) ?_
  refine lv_lload hx hb dX1_holdsAlong_189 (lv_at hl 1 rfl) ?_
  refine lv_aload_n hx hb dX1_holdsAlong_191 rfl (lv_at hl 3 rfl) ?_
  refine k_get (ci := 4) (C := RX1) (T := TX1) (N := 17) (v := .long 1) hx hb hG inX1 hown hK hP 1 rfl rfl 2 (by decide) gw201 rfl dX1_holdsAlong_192 ?_
  refine k_lrem (v := 0) hx hb dX1_holdsAlong_195 (by decide +kernel) (by decide +kernel) ?_
  refine lv_lconst (v := 0) hx hb dX1_holdsAlong_196 (by decide) ?_
  refine k_lcmp (v := 0) hx hb dX1_holdsAlong_197 (by decide +kernel) ?_
  refine k_if_ne_f (tgt := 220) hx hb dX1_holdsAlong_198 (by decide) (by decide) ?_
  refine lv_lload hx hb dX1_holdsAlong_201 (lv_at hl 2 rfl) ?_
  refine lv_lload hx hb dX1_holdsAlong_203 (lv_at hl 1 rfl) ?_
  refine lv_aload_n hx hb dX1_holdsAlong_205 rfl (lv_at hl 3 rfl) ?_
  refine k_get (ci := 4) (C := RX1) (T := TX1) (N := 17) (v := .long 1) hx hb hG inX1 hown hK hP 1 rfl rfl 2 (by decide) gw201 rfl dX1_holdsAlong_206 ?_
  refine k_ldiv (v := 0) hx hb dX1_holdsAlong_209 (by decide +kernel) (by decide +kernel) ?_
  refine k_ladd (v := 0) hx hb dX1_holdsAlong_210 (by decide +kernel) ?_
  refine lv_lconst (v := 0) hx hb dX1_holdsAlong_211 (by decide) ?_
  refine k_lcmp (v := 0) hx hb dX1_holdsAlong_212 (by decide +kernel) ?_
  refine k_if_ne_f (tgt := 220) hx hb dX1_holdsAlong_213 (by decide) (by decide) ?_
  refine lv_iconst (v := 1) hx hb dX1_holdsAlong_216 (by decide) ?_
  refine lv_goto (tgt := 221) hx hb dX1_holdsAlong_217 (by decide) ?_
  exact e_i (fun _ => 0) hx hb hr hlocks rfl rfl hP hD hS (Nat.le_of_ble_eq_true rfl) (Nat.le_of_ble_eq_true rfl) dX1_holdsAlong_221
set_option maxHeartbeats 4000000 in
set_option maxRecDepth 100000 in
theorem c382_X1_holdsAlong (l : Launch) (hfl : l.stackTraces = false) (D : va_G) (cA : Nat → ClassId) (g : gv_T) (h0 h1 h2 h3 h4 h5 h6 h7 h8 h9 h10 h11 h12 h13 h14 h15 h16 h17 h18 h19 h20 h21 h22 h23 h24 h25 : Nat) : CT l yX1_holdsAlong cX1_holdsAlong 12 (some .boolean) (RM 0 0 0 0) D cA g [.ref h0, .ref h1, .int 5, .int 1] [(h1, .inr (5, [.int 0, .int 0, .ref h2, .ref h3, .ref h4, .ref h5, .ref h6, .ref h7, .ref h8, .ref h9, .ref h10, .ref h11])), (h0, .inr (4, [.int 1, .int 46, .long 1, .ref h12, .ref h13, .ref h14, .ref h15, .ref h16, .ref h17, .ref h18, .ref h19, .ref h20, .ref h21, .ref h22, .ref h23, .ref h24, .ref h25]))] (fun q => some (.int 1)) (fun q => [(h1, .inr (5, [.int 0, .int 0, .ref h2, .ref h3, .ref h4, .ref h5, .ref h6, .ref h7, .ref h8, .ref h9, .ref h10, .ref h11])), (h0, .inr (4, [.int 1, .int 46, .long 1, .ref h12, .ref h13, .ref h14, .ref h15, .ref h16, .ref h17, .ref h18, .ref h19, .ref h20, .ref h21, .ref h22, .ref h23, .ref h24, .ref h25]))]) := by
  refine CT.of (by decide +kernel) (Nat.le_of_ble_eq_true rfl) ?_
  intro p e s m args below meth c A ls hx hb hr hml hown hG hlocks hnm hA hS hP hK hD hGV hl
  have hown : s.vm.findClass RX1 = some m.cls := hown
  have hl : lv_has ls 12 [(0, .ref h0), (1, .ref h1), (2, .int 5), (3, .int 1)] := hl
  have hSF : CF p m c cX1_holdsAlong 12 s args RX1 := ⟨hx, hb, hml, hown, hG⟩
  refine lv_lconst (v := 0) hx hb dX1_holdsAlong_0 (by decide) ?_
  refine lv_lstore (lv' := [(4, .long 0), (0, .ref h0), (1, .ref h1), (2, .int 5), (3, .int 1)]) hx hb dX1_holdsAlong_1 hl (by decide) rfl (fun ls hl => ?_)
  refine lv_lconst (v := 0) hx hb dX1_holdsAlong_3 (by decide) ?_
  refine lv_lstore (lv' := [(6, .long 0), (4, .long 0), (0, .ref h0), (1, .ref h1), (2, .int 5), (3, .int 1)]) hx hb dX1_holdsAlong_4 hl (by decide) rfl (fun ls hl => ?_)
  refine lv_iconst (v := 0) hx hb dX1_holdsAlong_6 (by decide) ?_
  refine lv_istore (lv' := [(8, .int 0), (6, .long 0), (4, .long 0), (0, .ref h0), (1, .ref h1), (2, .int 5), (3, .int 1)]) hx hb dX1_holdsAlong_7 hl (by decide) rfl (fun ls hl => ?_)
  refine lv_iload hx hb dX1_holdsAlong_9 (lv_at hl 0 rfl) ?_
  refine lv_aload_n hx hb dX1_holdsAlong_11 rfl (lv_at hl 4 rfl) ?_
  refine k_get (ci := 5) (C := RX2) (T := TX2) (N := 12) (v := .int 0) hx hb hG inX2 hown hK hP 0 rfl rfl 0 (by decide) gw128 rfl dX1_holdsAlong_12 ?_
  refine k_icmp_ge_t (tgt := 180) hx hb dX1_holdsAlong_15 (by decide) (by decide) ?_
  refine lv_aload_n hx hb dX1_holdsAlong_180 rfl (lv_at hl 3 rfl) ?_
  refine k_get (ci := 4) (C := RX1) (T := TX1) (N := 17) (v := .long 1) hx hb hG inX1 hown hK hP 1 rfl rfl 2 (by decide) gw201 rfl dX1_holdsAlong_181 ?_
  refine lv_lconst (v := 0) hx hb dX1_holdsAlong_184 (by decide) ?_
  refine k_lcmp (v := 1) hx hb dX1_holdsAlong_185 (by decide +kernel) ?_
  refine k_if_le_f (tgt := 220) hx hb dX1_holdsAlong_186 (by decide) (by decide) ?_
  refine lv_lload hx hb dX1_holdsAlong_189 (lv_at hl 1 rfl) ?_
  refine lv_aload_n hx hb dX1_holdsAlong_191 rfl (lv_at hl 3 rfl) ?_
  refine k_get (ci := 4) (C := RX1) (T := TX1) (N := 17) (v := .long 1) hx hb hG inX1 hown hK hP 1 rfl rfl 2 (by decide) gw201 rfl dX1_holdsAlong_192 ?_
  refine k_lrem (v := 0) hx hb dX1_holdsAlong_195 (by decide +kernel) (by decide +kernel) ?_
  refine lv_lconst (v := 0) hx hb dX1_holdsAlong_196 (by decide) ?_
  refine k_lcmp (v := 0) hx hb dX1_holdsAlong_197 (by decide +kernel) ?_
  refine k_if_ne_f (tgt := 220) hx hb dX1_holdsAlong_198 (by decide) (by decide) ?_
  refine lv_lload hx hb dX1_holdsAlong_201 (lv_at hl 2 rfl) ?_
  refine lv_lload hx hb dX1_holdsAlong_203 (lv_at hl 1 rfl) ?_
  refine lv_aload_n hx hb dX1_holdsAlong_205 rfl (lv_at hl 3 rfl) ?_
  refine k_get (ci := 4) (C := RX1) (T := TX1) (N := 17) (v := .long 1) hx hb hG inX1 hown hK hP 1 rfl rfl 2 (by decide) gw201 rfl dX1_holdsAlong_206 ?_
  refine k_ldiv (v := 0) hx hb dX1_holdsAlong_209 (by decide +kernel) (by decide +kernel) ?_
  refine k_ladd (v := 0) hx hb dX1_holdsAlong_210 (by decide +kernel) ?_
  refine lv_lconst (v := 0) hx hb dX1_holdsAlong_211 (by decide) ?_
  refine k_lcmp (v := 0) hx hb dX1_holdsAlong_212 (by decide +kernel) ?_
  refine k_if_ne_f (tgt := 220) hx hb dX1_holdsAlong_213 (by decide) (by decide) ?_
  refine lv_iconst (v := 1) hx hb dX1_holdsAlong_216 (by decide) ?_
  refine lv_goto (tgt := 221) hx hb dX1_holdsAlong_217 (by decide) ?_
  exact e_i (fun _ => 0) hx hb hr hlocks rfl rfl hP hD hS (Nat.le_of_ble_eq_true rfl) (Nat.le_of_ble_eq_true rfl) dX1_holdsAlong_221
set_option maxHeartbeats 4000000 in
set_option maxRecDepth 100000 in
theorem c383_X1_holdsAt (l : Launch) (hfl : l.stackTraces = false) (D : va_G) (cA : Nat → ClassId) (g : gv_T) (h0 h1 h2 h3 h4 h5 h6 h7 h8 h9 h10 h11 h12 h13 h14 h15 h16 h17 h18 h19 h20 h21 h22 h23 h24 h25 : Nat) : CT l yX1_holdsAt cX1_holdsAt 3 (some .boolean) (RM 1 0 0 31) D cA g [.ref h0, .ref h1, .int 5] [(h0, .inr (4, [.int 1, .int 46, .long 1, .ref h2, .ref h3, .ref h4, .ref h5, .ref h6, .ref h7, .ref h8, .ref h9, .ref h10, .ref h11, .ref h12, .ref h13, .ref h14, .ref h15])), (h1, .inr (5, [.int 0, .int 0, .ref h16, .ref h17, .ref h18, .ref h19, .ref h20, .ref h21, .ref h22, .ref h23, .ref h24, .ref h25]))] (fun q => some (.int 1)) (fun q => [(h0, .inr (4, [.int 1, .int 46, .long 1, .ref h2, .ref h3, .ref h4, .ref h5, .ref h6, .ref h7, .ref h8, .ref h9, .ref h10, .ref h11, .ref h12, .ref h13, .ref h14, .ref h15])), (h1, .inr (5, [.int 0, .int 0, .ref h16, .ref h17, .ref h18, .ref h19, .ref h20, .ref h21, .ref h22, .ref h23, .ref h24, .ref h25]))]) := by
  refine CT.of (by decide +kernel) (Nat.le_of_ble_eq_true rfl) ?_
  intro p e s m args below meth c A ls hx hb hr hml hown hG hlocks hnm hA hS hP hK hD hGV hl
  have hown : s.vm.findClass RX1 = some m.cls := hown
  have hl : lv_has ls 3 [(0, .ref h0), (1, .ref h1), (2, .int 5)] := hl
  have hSF : CF p m c cX1_holdsAt 3 s args RX1 := ⟨hx, hb, hml, hown, hG⟩
  refine lv_aload_n hx hb dX1_holdsAt_0 rfl (lv_at hl 0 rfl) ?_
  refine lv_aload_n hx hb dX1_holdsAt_1 rfl (lv_at hl 1 rfl) ?_
  refine lv_iload_n hx hb dX1_holdsAt_2 rfl (lv_at hl 2 rfl) ?_
  refine lv_iconst (v := 0) hx hb dX1_holdsAt_3 (by decide) ?_
  refine ct_V (wr := []) hSF hl.1 hP hD hS hA hK hGV (c381_X1_holdsAlong l hfl D cA g h0 h1 h16 h17 h18 h19 h20 h21 h22 h23 h24 h25 h2 h3 h4 h5 h6 h7 h8 h9 h10 h11 h12 h13 h14 h15) goV_X1_185 pd_X1_holdsAlong ⟨(Nat.le_of_ble_eq_true rfl), (Nat.le_of_ble_eq_true rfl)⟩ ⟨(Nat.le_of_ble_eq_true rfl), (Nat.le_of_ble_eq_true rfl)⟩ (va_recv hK hP (ci := 4) (q0 := 0) rfl rfl) dX1_holdsAt_4 rfl (Nat.le_of_ble_eq_true rfl) [1, 0] [] rfl (by decide) rfl (by decide) (by decide) (fun q => [(h1, .inr (5, [.int 0, .int 0, .ref h16, .ref h17, .ref h18, .ref h19, .ref h20, .ref h21, .ref h22, .ref h23, .ref h24, .ref h25])), (h0, .inr (4, [.int 1, .int 46, .long 1, .ref h2, .ref h3, .ref h4, .ref h5, .ref h6, .ref h7, .ref h8, .ref h9, .ref h10, .ref h11, .ref h12, .ref h13, .ref h14, .ref h15]))]) (fun _ => rfl) (fun q1 H locs hP hD hS => ?_)
  refine W.eq (g2 := F0 m 7 ls [.int 1]) rfl ?_
  refine k_if_eq_f (tgt := 24) hx hb dX1_holdsAt_7 (by decide) (by decide) ?_
  refine lv_aload_n hx hb dX1_holdsAt_10 rfl (lv_at hl 0 rfl) ?_
  refine lv_aload_n hx hb dX1_holdsAt_11 rfl (lv_at hl 1 rfl) ?_
  refine lv_iload_n hx hb dX1_holdsAt_12 rfl (lv_at hl 2 rfl) ?_
  refine lv_iconst (v := 1) hx hb dX1_holdsAt_13 (by decide) ?_
  refine ct_V (wr := []) hSF hl.1 hP hD hS hA hK hGV (c382_X1_holdsAlong l hfl D cA g h0 h1 h16 h17 h18 h19 h20 h21 h22 h23 h24 h25 h2 h3 h4 h5 h6 h7 h8 h9 h10 h11 h12 h13 h14 h15) goV_X1_185 pd_X1_holdsAlong ⟨(Nat.le_of_ble_eq_true rfl), (Nat.le_of_ble_eq_true rfl)⟩ ⟨(Nat.le_of_ble_eq_true rfl), (Nat.le_of_ble_eq_true rfl)⟩ (va_recv hK hP (ci := 4) (q0 := 1) rfl rfl) dX1_holdsAt_14 rfl (Nat.le_of_ble_eq_true rfl) [0, 1] [] rfl (by decide) rfl (by decide) (by decide) (fun q => [(h1, .inr (5, [.int 0, .int 0, .ref h16, .ref h17, .ref h18, .ref h19, .ref h20, .ref h21, .ref h22, .ref h23, .ref h24, .ref h25])), (h0, .inr (4, [.int 1, .int 46, .long 1, .ref h2, .ref h3, .ref h4, .ref h5, .ref h6, .ref h7, .ref h8, .ref h9, .ref h10, .ref h11, .ref h12, .ref h13, .ref h14, .ref h15]))]) (fun _ => rfl) (fun q2 H locs hP hD hS => ?_)
  refine W.eq (g2 := F0 m 17 ls [.int 1]) rfl ?_
  refine k_if_eq_f (tgt := 24) hx hb dX1_holdsAt_17 (by decide) (by decide) ?_
  refine lv_iconst (v := 1) hx hb dX1_holdsAt_20 (by decide) ?_
  refine lv_goto (tgt := 25) hx hb dX1_holdsAt_21 (by decide) ?_
  exact e_i (fun _ => 0) hx hb hr hlocks rfl rfl (hP.sub [1, 0] rfl) (hD.sub [1, 0] (by decide) rfl) hS (Nat.le_of_ble_eq_true rfl) (Nat.le_of_ble_eq_true rfl) dX1_holdsAt_25
set_option maxHeartbeats 4000000 in
set_option maxRecDepth 100000 in
theorem c384_X1_holdsAlong (l : Launch) (hfl : l.stackTraces = false) (D : va_G) (cA : Nat → ClassId) (g : gv_T) (h0 h1 h2 h3 h4 h5 h6 h7 h8 h9 h10 h11 h12 h13 h14 h15 h16 h17 h18 h19 h20 h21 h22 h23 h24 h25 : Nat) : CT l yX1_holdsAlong cX1_holdsAlong 12 (some .boolean) (RM 0 0 0 0) D cA g [.ref h0, .ref h1, .int 6, .int 0] [(h1, .inr (5, [.int 0, .int 0, .ref h2, .ref h3, .ref h4, .ref h5, .ref h6, .ref h7, .ref h8, .ref h9, .ref h10, .ref h11])), (h0, .inr (4, [.int 1, .int 46, .long 1, .ref h12, .ref h13, .ref h14, .ref h15, .ref h16, .ref h17, .ref h18, .ref h19, .ref h20, .ref h21, .ref h22, .ref h23, .ref h24, .ref h25]))] (fun q => some (.int 1)) (fun q => [(h1, .inr (5, [.int 0, .int 0, .ref h2, .ref h3, .ref h4, .ref h5, .ref h6, .ref h7, .ref h8, .ref h9, .ref h10, .ref h11])), (h0, .inr (4, [.int 1, .int 46, .long 1, .ref h12, .ref h13, .ref h14, .ref h15, .ref h16, .ref h17, .ref h18, .ref h19, .ref h20, .ref h21, .ref h22, .ref h23, .ref h24, .ref h25]))]) := by
  refine CT.of (by decide +kernel) (Nat.le_of_ble_eq_true rfl) ?_
  intro p e s m args below meth c A ls hx hb hr hml hown hG hlocks hnm hA hS hP hK hD hGV hl
  have hown : s.vm.findClass RX1 = some m.cls := hown
  have hl : lv_has ls 12 [(0, .ref h0), (1, .ref h1), (2, .int 6), (3, .int 0)] := hl
  have hSF : CF p m c cX1_holdsAlong 12 s args RX1 := ⟨hx, hb, hml, hown, hG⟩
  refine lv_lconst (v := 0) hx hb dX1_holdsAlong_0 (by decide) ?_
  refine lv_lstore (lv' := [(4, .long 0), (0, .ref h0), (1, .ref h1), (2, .int 6), (3, .int 0)]) hx hb dX1_holdsAlong_1 hl (by decide) rfl (fun ls hl => ?_)
  refine lv_lconst (v := 0) hx hb dX1_holdsAlong_3 (by decide) ?_
  refine lv_lstore (lv' := [(6, .long 0), (4, .long 0), (0, .ref h0), (1, .ref h1), (2, .int 6), (3, .int 0)]) hx hb dX1_holdsAlong_4 hl (by decide) rfl (fun ls hl => ?_)
  refine lv_iconst (v := 0) hx hb dX1_holdsAlong_6 (by decide) ?_
  refine lv_istore (lv' := [(8, .int 0), (6, .long 0), (4, .long 0), (0, .ref h0), (1, .ref h1), (2, .int 6), (3, .int 0)]) hx hb dX1_holdsAlong_7 hl (by decide) rfl (fun ls hl => ?_)
  refine lv_iload hx hb dX1_holdsAlong_9 (lv_at hl 0 rfl) ?_
  refine lv_aload_n hx hb dX1_holdsAlong_11 rfl (lv_at hl 4 rfl) ?_
  refine k_get (ci := 5) (C := RX2) (T := TX2) (N := 12) (v := .int 0) hx hb hG inX2 hown hK hP 0 rfl rfl 0 (by decide) gw128 rfl dX1_holdsAlong_12 ?_
  refine k_icmp_ge_t (tgt := 180) hx hb dX1_holdsAlong_15 (by decide) (by decide) ?_
  refine lv_aload_n hx hb dX1_holdsAlong_180 rfl (lv_at hl 3 rfl) ?_
  refine k_get (ci := 4) (C := RX1) (T := TX1) (N := 17) (v := .long 1) hx hb hG inX1 hown hK hP 1 rfl rfl 2 (by decide) gw201 rfl dX1_holdsAlong_181 ?_
  refine lv_lconst (v := 0) hx hb dX1_holdsAlong_184 (by decide) ?_
  refine k_lcmp (v := 1) hx hb dX1_holdsAlong_185 (by decide +kernel) ?_
  refine k_if_le_f (tgt := 220) hx hb dX1_holdsAlong_186 (by decide) (by decide) ?_
  refine lv_lload hx hb dX1_holdsAlong_189 (lv_at hl 1 rfl) ?_
  refine lv_aload_n hx hb dX1_holdsAlong_191 rfl (lv_at hl 3 rfl) ?_
  refine k_get (ci := 4) (C := RX1) (T := TX1) (N := 17) (v := .long 1) hx hb hG inX1 hown hK hP 1 rfl rfl 2 (by decide) gw201 rfl dX1_holdsAlong_192 ?_
  refine k_lrem (v := 0) hx hb dX1_holdsAlong_195 (by decide +kernel) (by decide +kernel) ?_
  refine lv_lconst (v := 0) hx hb dX1_holdsAlong_196 (by decide) ?_
  refine k_lcmp (v := 0) hx hb dX1_holdsAlong_197 (by decide +kernel) ?_
  refine k_if_ne_f (tgt := 220) hx hb dX1_holdsAlong_198 (by decide) (by decide) ?_
  refine lv_lload hx hb dX1_holdsAlong_201 (lv_at hl 2 rfl) ?_
  refine lv_lload hx hb dX1_holdsAlong_203 (lv_at hl 1 rfl) ?_
  refine lv_aload_n hx hb dX1_holdsAlong_205 rfl (lv_at hl 3 rfl) ?_
  refine k_get (ci := 4) (C := RX1) (T := TX1) (N := 17) (v := .long 1) hx hb hG inX1 hown hK hP 1 rfl rfl 2 (by decide) gw201 rfl dX1_holdsAlong_206 ?_
  refine k_ldiv (v := 0) hx hb dX1_holdsAlong_209 (by decide +kernel) (by decide +kernel) ?_
  refine k_ladd (v := 0) hx hb dX1_holdsAlong_210 (by decide +kernel) ?_
  refine lv_lconst (v := 0) hx hb dX1_holdsAlong_211 (by decide) ?_
  refine k_lcmp (v := 0) hx hb dX1_holdsAlong_212 (by decide +kernel) ?_
  refine k_if_ne_f (tgt := 220) hx hb dX1_holdsAlong_213 (by decide) (by decide) ?_
  refine lv_iconst (v := 1) hx hb dX1_holdsAlong_216 (by decide) ?_
  refine lv_goto (tgt := 221) hx hb dX1_holdsAlong_217 (by decide) ?_
  exact e_i (fun _ => 0) hx hb hr hlocks rfl rfl hP hD hS (Nat.le_of_ble_eq_true rfl) (Nat.le_of_ble_eq_true rfl) dX1_holdsAlong_221
set_option maxHeartbeats 4000000 in
set_option maxRecDepth 100000 in
theorem c385_X1_holdsAlong (l : Launch) (hfl : l.stackTraces = false) (D : va_G) (cA : Nat → ClassId) (g : gv_T) (h0 h1 h2 h3 h4 h5 h6 h7 h8 h9 h10 h11 h12 h13 h14 h15 h16 h17 h18 h19 h20 h21 h22 h23 h24 h25 : Nat) : CT l yX1_holdsAlong cX1_holdsAlong 12 (some .boolean) (RM 0 0 0 0) D cA g [.ref h0, .ref h1, .int 6, .int 1] [(h1, .inr (5, [.int 0, .int 0, .ref h2, .ref h3, .ref h4, .ref h5, .ref h6, .ref h7, .ref h8, .ref h9, .ref h10, .ref h11])), (h0, .inr (4, [.int 1, .int 46, .long 1, .ref h12, .ref h13, .ref h14, .ref h15, .ref h16, .ref h17, .ref h18, .ref h19, .ref h20, .ref h21, .ref h22, .ref h23, .ref h24, .ref h25]))] (fun q => some (.int 1)) (fun q => [(h1, .inr (5, [.int 0, .int 0, .ref h2, .ref h3, .ref h4, .ref h5, .ref h6, .ref h7, .ref h8, .ref h9, .ref h10, .ref h11])), (h0, .inr (4, [.int 1, .int 46, .long 1, .ref h12, .ref h13, .ref h14, .ref h15, .ref h16, .ref h17, .ref h18, .ref h19, .ref h20, .ref h21, .ref h22, .ref h23, .ref h24, .ref h25]))]) := by
  refine CT.of (by decide +kernel) (Nat.le_of_ble_eq_true rfl) ?_
  intro p e s m args below meth c A ls hx hb hr hml hown hG hlocks hnm hA hS hP hK hD hGV hl
  have hown : s.vm.findClass RX1 = some m.cls := hown
  have hl : lv_has ls 12 [(0, .ref h0), (1, .ref h1), (2, .int 6), (3, .int 1)] := hl
  have hSF : CF p m c cX1_holdsAlong 12 s args RX1 := ⟨hx, hb, hml, hown, hG⟩
  refine lv_lconst (v := 0) hx hb dX1_holdsAlong_0 (by decide) ?_
  refine lv_lstore (lv' := [(4, .long 0), (0, .ref h0), (1, .ref h1), (2, .int 6), (3, .int 1)]) hx hb dX1_holdsAlong_1 hl (by decide) rfl (fun ls hl => ?_)
  refine lv_lconst (v := 0) hx hb dX1_holdsAlong_3 (by decide) ?_
  refine lv_lstore (lv' := [(6, .long 0), (4, .long 0), (0, .ref h0), (1, .ref h1), (2, .int 6), (3, .int 1)]) hx hb dX1_holdsAlong_4 hl (by decide) rfl (fun ls hl => ?_)
  refine lv_iconst (v := 0) hx hb dX1_holdsAlong_6 (by decide) ?_
  refine lv_istore (lv' := [(8, .int 0), (6, .long 0), (4, .long 0), (0, .ref h0), (1, .ref h1), (2, .int 6), (3, .int 1)]) hx hb dX1_holdsAlong_7 hl (by decide) rfl (fun ls hl => ?_)
  refine lv_iload hx hb dX1_holdsAlong_9 (lv_at hl 0 rfl) ?_
  refine lv_aload_n hx hb dX1_holdsAlong_11 rfl (lv_at hl 4 rfl) ?_
  refine k_get (ci := 5) (C := RX2) (T := TX2) (N := 12) (v := .int 0) hx hb hG inX2 hown hK hP 0 rfl rfl 0 (by decide) gw128 rfl dX1_holdsAlong_12 ?_
  refine k_icmp_ge_t (tgt := 180) hx hb dX1_holdsAlong_15 (by decide) (by decide) ?_
  refine lv_aload_n hx hb dX1_holdsAlong_180 rfl (lv_at hl 3 rfl) ?_
  refine k_get (ci := 4) (C := RX1) (T := TX1) (N := 17) (v := .long 1) hx hb hG inX1 hown hK hP 1 rfl rfl 2 (by decide) gw201 rfl dX1_holdsAlong_181 ?_
  refine lv_lconst (v := 0) hx hb dX1_holdsAlong_184 (by decide) ?_
  refine k_lcmp (v := 1) hx hb dX1_holdsAlong_185 (by decide +kernel) ?_
  refine k_if_le_f (tgt := 220) hx hb dX1_holdsAlong_186 (by decide) (by decide) ?_
  refine lv_lload hx hb dX1_holdsAlong_189 (lv_at hl 1 rfl) ?_
  refine lv_aload_n hx hb dX1_holdsAlong_191 rfl (lv_at hl 3 rfl) ?_
  refine k_get (ci := 4) (C := RX1) (T := TX1) (N := 17) (v := .long 1) hx hb hG inX1 hown hK hP 1 rfl rfl 2 (by decide) gw201 rfl dX1_holdsAlong_192 ?_
  refine k_lrem (v := 0) hx hb dX1_holdsAlong_195 (by decide +kernel) (by decide +kernel) ?_
  refine lv_lconst (v := 0) hx hb dX1_holdsAlong_196 (by decide) ?_
  refine k_lcmp (v := 0) hx hb dX1_holdsAlong_197 (by decide +kernel) ?_
  refine k_if_ne_f (tgt := 220) hx hb dX1_holdsAlong_198 (by decide) (by decide) ?_
  refine lv_lload hx hb dX1_holdsAlong_201 (lv_at hl 2 rfl) ?_
  refine lv_lload hx hb dX1_holdsAlong_203 (lv_at hl 1 rfl) ?_
  refine lv_aload_n hx hb dX1_holdsAlong_205 rfl (lv_at hl 3 rfl) ?_
  refine k_get (ci := 4) (C := RX1) (T := TX1) (N := 17) (v := .long 1) hx hb hG inX1 hown hK hP 1 rfl rfl 2 (by decide) gw201 rfl dX1_holdsAlong_206 ?_
  refine k_ldiv (v := 0) hx hb dX1_holdsAlong_209 (by decide +kernel) (by decide +kernel) ?_
  refine k_ladd (v := 0) hx hb dX1_holdsAlong_210 (by decide +kernel) ?_
  refine lv_lconst (v := 0) hx hb dX1_holdsAlong_211 (by decide) ?_
  refine k_lcmp (v := 0) hx hb dX1_holdsAlong_212 (by decide +kernel) ?_
  refine k_if_ne_f (tgt := 220) hx hb dX1_holdsAlong_213 (by decide) (by decide) ?_
  refine lv_iconst (v := 1) hx hb dX1_holdsAlong_216 (by decide) ?_
  refine lv_goto (tgt := 221) hx hb dX1_holdsAlong_217 (by decide) ?_
  exact e_i (fun _ => 0) hx hb hr hlocks rfl rfl hP hD hS (Nat.le_of_ble_eq_true rfl) (Nat.le_of_ble_eq_true rfl) dX1_holdsAlong_221
set_option maxHeartbeats 4000000 in
set_option maxRecDepth 100000 in
theorem c386_X1_holdsAt (l : Launch) (hfl : l.stackTraces = false) (D : va_G) (cA : Nat → ClassId) (g : gv_T) (h0 h1 h2 h3 h4 h5 h6 h7 h8 h9 h10 h11 h12 h13 h14 h15 h16 h17 h18 h19 h20 h21 h22 h23 h24 h25 : Nat) : CT l yX1_holdsAt cX1_holdsAt 3 (some .boolean) (RM 1 0 0 31) D cA g [.ref h0, .ref h1, .int 6] [(h0, .inr (4, [.int 1, .int 46, .long 1, .ref h2, .ref h3, .ref h4, .ref h5, .ref h6, .ref h7, .ref h8, .ref h9, .ref h10, .ref h11, .ref h12, .ref h13, .ref h14, .ref h15])), (h1, .inr (5, [.int 0, .int 0, .ref h16, .ref h17, .ref h18, .ref h19, .ref h20, .ref h21, .ref h22, .ref h23, .ref h24, .ref h25]))] (fun q => some (.int 1)) (fun q => [(h0, .inr (4, [.int 1, .int 46, .long 1, .ref h2, .ref h3, .ref h4, .ref h5, .ref h6, .ref h7, .ref h8, .ref h9, .ref h10, .ref h11, .ref h12, .ref h13, .ref h14, .ref h15])), (h1, .inr (5, [.int 0, .int 0, .ref h16, .ref h17, .ref h18, .ref h19, .ref h20, .ref h21, .ref h22, .ref h23, .ref h24, .ref h25]))]) := by
  refine CT.of (by decide +kernel) (Nat.le_of_ble_eq_true rfl) ?_
  intro p e s m args below meth c A ls hx hb hr hml hown hG hlocks hnm hA hS hP hK hD hGV hl
  have hown : s.vm.findClass RX1 = some m.cls := hown
  have hl : lv_has ls 3 [(0, .ref h0), (1, .ref h1), (2, .int 6)] := hl
  have hSF : CF p m c cX1_holdsAt 3 s args RX1 := ⟨hx, hb, hml, hown, hG⟩
  refine lv_aload_n hx hb dX1_holdsAt_0 rfl (lv_at hl 0 rfl) ?_
  refine lv_aload_n hx hb dX1_holdsAt_1 rfl (lv_at hl 1 rfl) ?_
  refine lv_iload_n hx hb dX1_holdsAt_2 rfl (lv_at hl 2 rfl) ?_
  refine lv_iconst (v := 0) hx hb dX1_holdsAt_3 (by decide) ?_
  refine ct_V (wr := []) hSF hl.1 hP hD hS hA hK hGV (c384_X1_holdsAlong l hfl D cA g h0 h1 h16 h17 h18 h19 h20 h21 h22 h23 h24 h25 h2 h3 h4 h5 h6 h7 h8 h9 h10 h11 h12 h13 h14 h15) goV_X1_185 pd_X1_holdsAlong ⟨(Nat.le_of_ble_eq_true rfl), (Nat.le_of_ble_eq_true rfl)⟩ ⟨(Nat.le_of_ble_eq_true rfl), (Nat.le_of_ble_eq_true rfl)⟩ (va_recv hK hP (ci := 4) (q0 := 0) rfl rfl) dX1_holdsAt_4 rfl (Nat.le_of_ble_eq_true rfl) [1, 0] [] rfl (by decide) rfl (by decide) (by decide) (fun q => [(h1, .inr (5, [.int 0, .int 0, .ref h16, .ref h17, .ref h18, .ref h19, .ref h20, .ref h21, .ref h22, .ref h23, .ref h24, .ref h25])), (h0, .inr (4, [.int 1, .int 46, .long 1, .ref h2, .ref h3, .ref h4, .ref h5, .ref h6, .ref h7, .ref h8, .ref h9, .ref h10, .ref h11, .ref h12, .ref h13, .ref h14, .ref h15]))]) (fun _ => rfl) (fun q1 H locs hP hD hS => ?_)
  refine W.eq (g2 := F0 m 7 ls [.int 1]) rfl ?_
  refine k_if_eq_f (tgt := 24) hx hb dX1_holdsAt_7 (by decide) (by decide) ?_
  refine lv_aload_n hx hb dX1_holdsAt_10 rfl (lv_at hl 0 rfl) ?_
  refine lv_aload_n hx hb dX1_holdsAt_11 rfl (lv_at hl 1 rfl) ?_
  refine lv_iload_n hx hb dX1_holdsAt_12 rfl (lv_at hl 2 rfl) ?_
  refine lv_iconst (v := 1) hx hb dX1_holdsAt_13 (by decide) ?_
  refine ct_V (wr := []) hSF hl.1 hP hD hS hA hK hGV (c385_X1_holdsAlong l hfl D cA g h0 h1 h16 h17 h18 h19 h20 h21 h22 h23 h24 h25 h2 h3 h4 h5 h6 h7 h8 h9 h10 h11 h12 h13 h14 h15) goV_X1_185 pd_X1_holdsAlong ⟨(Nat.le_of_ble_eq_true rfl), (Nat.le_of_ble_eq_true rfl)⟩ ⟨(Nat.le_of_ble_eq_true rfl), (Nat.le_of_ble_eq_true rfl)⟩ (va_recv hK hP (ci := 4) (q0 := 1) rfl rfl) dX1_holdsAt_14 rfl (Nat.le_of_ble_eq_true rfl) [0, 1] [] rfl (by decide) rfl (by decide) (by decide) (fun q => [(h1, .inr (5, [.int 0, .int 0, .ref h16, .ref h17, .ref h18, .ref h19, .ref h20, .ref h21, .ref h22, .ref h23, .ref h24, .ref h25])), (h0, .inr (4, [.int 1, .int 46, .long 1, .ref h2, .ref h3, .ref h4, .ref h5, .ref h6, .ref h7, .ref h8, .ref h9, .ref h10, .ref h11, .ref h12, .ref h13, .ref h14, .ref h15]))]) (fun _ => rfl) (fun q2 H locs hP hD hS => ?_)
  refine W.eq (g2 := F0 m 17 ls [.int 1]) rfl ?_
  refine k_if_eq_f (tgt := 24) hx hb dX1_holdsAt_17 (by decide) (by decide) ?_
  refine lv_iconst (v := 1) hx hb dX1_holdsAt_20 (by decide) ?_
  refine lv_goto (tgt := 25) hx hb dX1_holdsAt_21 (by decide) ?_
  exact e_i (fun _ => 0) hx hb hr hlocks rfl rfl (hP.sub [1, 0] rfl) (hD.sub [1, 0] (by decide) rfl) hS (Nat.le_of_ble_eq_true rfl) (Nat.le_of_ble_eq_true rfl) dX1_holdsAt_25
set_option maxHeartbeats 4000000 in
set_option maxRecDepth 100000 in
theorem c387_X1_holdsAlong (l : Launch) (hfl : l.stackTraces = false) (D : va_G) (cA : Nat → ClassId) (g : gv_T) (h0 h1 h2 h3 h4 h5 h6 h7 h8 h9 h10 h11 h12 h13 h14 h15 h16 h17 h18 h19 h20 h21 h22 h23 h24 h25 : Nat) : CT l yX1_holdsAlong cX1_holdsAlong 12 (some .boolean) (RM 0 0 0 0) D cA g [.ref h0, .ref h1, .int 7, .int 0] [(h1, .inr (5, [.int 0, .int 0, .ref h2, .ref h3, .ref h4, .ref h5, .ref h6, .ref h7, .ref h8, .ref h9, .ref h10, .ref h11])), (h0, .inr (4, [.int 1, .int 46, .long 1, .ref h12, .ref h13, .ref h14, .ref h15, .ref h16, .ref h17, .ref h18, .ref h19, .ref h20, .ref h21, .ref h22, .ref h23, .ref h24, .ref h25]))] (fun q => some (.int 1)) (fun q => [(h1, .inr (5, [.int 0, .int 0, .ref h2, .ref h3, .ref h4, .ref h5, .ref h6, .ref h7, .ref h8, .ref h9, .ref h10, .ref h11])), (h0, .inr (4, [.int 1, .int 46, .long 1, .ref h12, .ref h13, .ref h14, .ref h15, .ref h16, .ref h17, .ref h18, .ref h19, .ref h20, .ref h21, .ref h22, .ref h23, .ref h24, .ref h25]))]) := by
  refine CT.of (by decide +kernel) (Nat.le_of_ble_eq_true rfl) ?_
  intro p e s m args below meth c A ls hx hb hr hml hown hG hlocks hnm hA hS hP hK hD hGV hl
  have hown : s.vm.findClass RX1 = some m.cls := hown
  have hl : lv_has ls 12 [(0, .ref h0), (1, .ref h1), (2, .int 7), (3, .int 0)] := hl
  have hSF : CF p m c cX1_holdsAlong 12 s args RX1 := ⟨hx, hb, hml, hown, hG⟩
  refine lv_lconst (v := 0) hx hb dX1_holdsAlong_0 (by decide) ?_
  refine lv_lstore (lv' := [(4, .long 0), (0, .ref h0), (1, .ref h1), (2, .int 7), (3, .int 0)]) hx hb dX1_holdsAlong_1 hl (by decide) rfl (fun ls hl => ?_)
  refine lv_lconst (v := 0) hx hb dX1_holdsAlong_3 (by decide) ?_
  refine lv_lstore (lv' := [(6, .long 0), (4, .long 0), (0, .ref h0), (1, .ref h1), (2, .int 7), (3, .int 0)]) hx hb dX1_holdsAlong_4 hl (by decide) rfl (fun ls hl => ?_)
  refine lv_iconst (v := 0) hx hb dX1_holdsAlong_6 (by decide) ?_
  refine lv_istore (lv' := [(8, .int 0), (6, .long 0), (4, .long 0), (0, .ref h0), (1, .ref h1), (2, .int 7), (3, .int 0)]) hx hb dX1_holdsAlong_7 hl (by decide) rfl (fun ls hl => ?_)
  refine lv_iload hx hb dX1_holdsAlong_9 (lv_at hl 0 rfl) ?_
  refine lv_aload_n hx hb dX1_holdsAlong_11 rfl (lv_at hl 4 rfl) ?_
  refine k_get (ci := 5) (C := RX2) (T := TX2) (N := 12) (v := .int 0) hx hb hG inX2 hown hK hP 0 rfl rfl 0 (by decide) gw128 rfl dX1_holdsAlong_12 ?_
  refine k_icmp_ge_t (tgt := 180) hx hb dX1_holdsAlong_15 (by decide) (by decide) ?_
  refine lv_aload_n hx hb dX1_holdsAlong_180 rfl (lv_at hl 3 rfl) ?_
  refine k_get (ci := 4) (C := RX1) (T := TX1) (N := 17) (v := .long 1) hx hb hG inX1 hown hK hP 1 rfl rfl 2 (by decide) gw201 rfl dX1_holdsAlong_181 ?_
  refine lv_lconst (v := 0) hx hb dX1_holdsAlong_184 (by decide) ?_
  refine k_lcmp (v := 1) hx hb dX1_holdsAlong_185 (by decide +kernel) ?_
  refine k_if_le_f (tgt := 220) hx hb dX1_holdsAlong_186 (by decide) (by decide) ?_
  refine lv_lload hx hb dX1_holdsAlong_189 (lv_at hl 1 rfl) ?_
  refine lv_aload_n hx hb dX1_holdsAlong_191 rfl (lv_at hl 3 rfl) ?_
  refine k_get (ci := 4) (C := RX1) (T := TX1) (N := 17) (v := .long 1) hx hb hG inX1 hown hK hP 1 rfl rfl 2 (by decide) gw201 rfl dX1_holdsAlong_192 ?_
  refine k_lrem (v := 0) hx hb dX1_holdsAlong_195 (by decide +kernel) (by decide +kernel) ?_
  refine lv_lconst (v := 0) hx hb dX1_holdsAlong_196 (by decide) ?_
  refine k_lcmp (v := 0) hx hb dX1_holdsAlong_197 (by decide +kernel) ?_
  refine k_if_ne_f (tgt := 220) hx hb dX1_holdsAlong_198 (by decide) (by decide) ?_
  refine lv_lload hx hb dX1_holdsAlong_201 (lv_at hl 2 rfl) ?_
  refine lv_lload hx hb dX1_holdsAlong_203 (lv_at hl 1 rfl) ?_
  refine lv_aload_n hx hb dX1_holdsAlong_205 rfl (lv_at hl 3 rfl) ?_
  refine k_get (ci := 4) (C := RX1) (T := TX1) (N := 17) (v := .long 1) hx hb hG inX1 hown hK hP 1 rfl rfl 2 (by decide) gw201 rfl dX1_holdsAlong_206 ?_
  refine k_ldiv (v := 0) hx hb dX1_holdsAlong_209 (by decide +kernel) (by decide +kernel) ?_
  refine k_ladd (v := 0) hx hb dX1_holdsAlong_210 (by decide +kernel) ?_
  refine lv_lconst (v := 0) hx hb dX1_holdsAlong_211 (by decide) ?_
  refine k_lcmp (v := 0) hx hb dX1_holdsAlong_212 (by decide +kernel) ?_
  refine k_if_ne_f (tgt := 220) hx hb dX1_holdsAlong_213 (by decide) (by decide) ?_
  refine lv_iconst (v := 1) hx hb dX1_holdsAlong_216 (by decide) ?_
  refine lv_goto (tgt := 221) hx hb dX1_holdsAlong_217 (by decide) ?_
  exact e_i (fun _ => 0) hx hb hr hlocks rfl rfl hP hD hS (Nat.le_of_ble_eq_true rfl) (Nat.le_of_ble_eq_true rfl) dX1_holdsAlong_221
set_option maxHeartbeats 4000000 in
set_option maxRecDepth 100000 in
theorem c388_X1_holdsAlong (l : Launch) (hfl : l.stackTraces = false) (D : va_G) (cA : Nat → ClassId) (g : gv_T) (h0 h1 h2 h3 h4 h5 h6 h7 h8 h9 h10 h11 h12 h13 h14 h15 h16 h17 h18 h19 h20 h21 h22 h23 h24 h25 : Nat) : CT l yX1_holdsAlong cX1_holdsAlong 12 (some .boolean) (RM 0 0 0 0) D cA g [.ref h0, .ref h1, .int 7, .int 1] [(h1, .inr (5, [.int 0, .int 0, .ref h2, .ref h3, .ref h4, .ref h5, .ref h6, .ref h7, .ref h8, .ref h9, .ref h10, .ref h11])), (h0, .inr (4, [.int 1, .int 46, .long 1, .ref h12, .ref h13, .ref h14, .ref h15, .ref h16, .ref h17, .ref h18, .ref h19, .ref h20, .ref h21, .ref h22, .ref h23, .ref h24, .ref h25]))] (fun q => some (.int 1)) (fun q => [(h1, .inr (5, [.int 0, .int 0, .ref h2, .ref h3, .ref h4, .ref h5, .ref h6, .ref h7, .ref h8, .ref h9, .ref h10, .ref h11])), (h0, .inr (4, [.int 1, .int 46, .long 1, .ref h12, .ref h13, .ref h14, .ref h15, .ref h16, .ref h17, .ref h18, .ref h19, .ref h20, .ref h21, .ref h22, .ref h23, .ref h24, .ref h25]))]) := by
  refine CT.of (by decide +kernel) (Nat.le_of_ble_eq_true rfl) ?_
  intro p e s m args below meth c A ls hx hb hr hml hown hG hlocks hnm hA hS hP hK hD hGV hl
  have hown : s.vm.findClass RX1 = some m.cls := hown
  have hl : lv_has ls 12 [(0, .ref h0), (1, .ref h1), (2, .int 7), (3, .int 1)] := hl
  have hSF : CF p m c cX1_holdsAlong 12 s args RX1 := ⟨hx, hb, hml, hown, hG⟩
  refine lv_lconst (v := 0) hx hb dX1_holdsAlong_0 (by decide) ?_
  refine lv_lstore (lv' := [(4, .long 0), (0, .ref h0), (1, .ref h1), (2, .int 7), (3, .int 1)]) hx hb dX1_holdsAlong_1 hl (by decide) rfl (fun ls hl => ?_)
  refine lv_lconst (v := 0) hx hb dX1_holdsAlong_3 (by decide) ?_
  refine lv_lstore (lv' := [(6, .long 0), (4, .long 0), (0, .ref h0), (1, .ref h1), (2, .int 7), (3, .int 1)]) hx hb dX1_holdsAlong_4 hl (by decide) rfl (fun ls hl => ?_)
  refine lv_iconst (v := 0) hx hb dX1_holdsAlong_6 (by decide) ?_
  refine lv_istore (lv' := [(8, .int 0), (6, .long 0), (4, .long 0), (0, .ref h0), (1, .ref h1), (2, .int 7), (3, .int 1)]) hx hb dX1_holdsAlong_7 hl (by decide) rfl (fun ls hl => ?_)
  refine lv_iload hx hb dX1_holdsAlong_9 (lv_at hl 0 rfl) ?_
  refine lv_aload_n hx hb dX1_holdsAlong_11 rfl (lv_at hl 4 rfl) ?_
  refine k_get (ci := 5) (C := RX2) (T := TX2) (N := 12) (v := .int 0) hx hb hG inX2 hown hK hP 0 rfl rfl 0 (by decide) gw128 rfl dX1_holdsAlong_12 ?_
  refine k_icmp_ge_t (tgt := 180) hx hb dX1_holdsAlong_15 (by decide) (by decide) ?_
  refine lv_aload_n hx hb dX1_holdsAlong_180 rfl (lv_at hl 3 rfl) ?_
  refine k_get (ci := 4) (C := RX1) (T := TX1) (N := 17) (v := .long 1) hx hb hG inX1 hown hK hP 1 rfl rfl 2 (by decide) gw201 rfl dX1_holdsAlong_181 ?_
  refine lv_lconst (v := 0) hx hb dX1_holdsAlong_184 (by decide) ?_
  refine k_lcmp (v := 1) hx hb dX1_holdsAlong_185 (by decide +kernel) ?_
  refine k_if_le_f (tgt := 220) hx hb dX1_holdsAlong_186 (by decide) (by decide) ?_
  refine lv_lload hx hb dX1_holdsAlong_189 (lv_at hl 1 rfl) ?_
  refine lv_aload_n hx hb dX1_holdsAlong_191 rfl (lv_at hl 3 rfl) ?_
  refine k_get (ci := 4) (C := RX1) (T := TX1) (N := 17) (v := .long 1) hx hb hG inX1 hown hK hP 1 rfl rfl 2 (by decide) gw201 rfl dX1_holdsAlong_192 ?_
  refine k_lrem (v := 0) hx hb dX1_holdsAlong_195 (by decide +kernel) (by decide +kernel) ?_
  refine lv_lconst (v := 0) hx hb dX1_holdsAlong_196 (by decide) ?_
  refine k_lcmp (v := 0) hx hb dX1_holdsAlong_197 (by decide +kernel) ?_
  refine k_if_ne_f (tgt := 220) hx hb dX1_holdsAlong_198 (by decide) (by decide) ?_
  refine lv_lload hx hb dX1_holdsAlong_201 (lv_at hl 2 rfl) ?_
  refine lv_lload hx hb dX1_holdsAlong_203 (lv_at hl 1 rfl) ?_
  refine lv_aload_n hx hb dX1_holdsAlong_205 rfl (lv_at hl 3 rfl) ?_
  refine k_get (ci := 4) (C := RX1) (T := TX1) (N := 17) (v := .long 1) hx hb hG inX1 hown hK hP 1 rfl rfl 2 (by decide) gw201 rfl dX1_holdsAlong_206 ?_
  refine k_ldiv (v := 0) hx hb dX1_holdsAlong_209 (by decide +kernel) (by decide +kernel) ?_
  refine k_ladd (v := 0) hx hb dX1_holdsAlong_210 (by decide +kernel) ?_
  refine lv_lconst (v := 0) hx hb dX1_holdsAlong_211 (by decide) ?_
  refine k_lcmp (v := 0) hx hb dX1_holdsAlong_212 (by decide +kernel) ?_
  refine k_if_ne_f (tgt := 220) hx hb dX1_holdsAlong_213 (by decide) (by decide) ?_
  refine lv_iconst (v := 1) hx hb dX1_holdsAlong_216 (by decide) ?_
  refine lv_goto (tgt := 221) hx hb dX1_holdsAlong_217 (by decide) ?_
  exact e_i (fun _ => 0) hx hb hr hlocks rfl rfl hP hD hS (Nat.le_of_ble_eq_true rfl) (Nat.le_of_ble_eq_true rfl) dX1_holdsAlong_221
set_option maxHeartbeats 4000000 in
set_option maxRecDepth 100000 in
theorem c389_X1_holdsAt (l : Launch) (hfl : l.stackTraces = false) (D : va_G) (cA : Nat → ClassId) (g : gv_T) (h0 h1 h2 h3 h4 h5 h6 h7 h8 h9 h10 h11 h12 h13 h14 h15 h16 h17 h18 h19 h20 h21 h22 h23 h24 h25 : Nat) : CT l yX1_holdsAt cX1_holdsAt 3 (some .boolean) (RM 1 0 0 31) D cA g [.ref h0, .ref h1, .int 7] [(h0, .inr (4, [.int 1, .int 46, .long 1, .ref h2, .ref h3, .ref h4, .ref h5, .ref h6, .ref h7, .ref h8, .ref h9, .ref h10, .ref h11, .ref h12, .ref h13, .ref h14, .ref h15])), (h1, .inr (5, [.int 0, .int 0, .ref h16, .ref h17, .ref h18, .ref h19, .ref h20, .ref h21, .ref h22, .ref h23, .ref h24, .ref h25]))] (fun q => some (.int 1)) (fun q => [(h0, .inr (4, [.int 1, .int 46, .long 1, .ref h2, .ref h3, .ref h4, .ref h5, .ref h6, .ref h7, .ref h8, .ref h9, .ref h10, .ref h11, .ref h12, .ref h13, .ref h14, .ref h15])), (h1, .inr (5, [.int 0, .int 0, .ref h16, .ref h17, .ref h18, .ref h19, .ref h20, .ref h21, .ref h22, .ref h23, .ref h24, .ref h25]))]) := by
  refine CT.of (by decide +kernel) (Nat.le_of_ble_eq_true rfl) ?_
  intro p e s m args below meth c A ls hx hb hr hml hown hG hlocks hnm hA hS hP hK hD hGV hl
  have hown : s.vm.findClass RX1 = some m.cls := hown
  have hl : lv_has ls 3 [(0, .ref h0), (1, .ref h1), (2, .int 7)] := hl
  have hSF : CF p m c cX1_holdsAt 3 s args RX1 := ⟨hx, hb, hml, hown, hG⟩
  refine lv_aload_n hx hb dX1_holdsAt_0 rfl (lv_at hl 0 rfl) ?_
  refine lv_aload_n hx hb dX1_holdsAt_1 rfl (lv_at hl 1 rfl) ?_
  refine lv_iload_n hx hb dX1_holdsAt_2 rfl (lv_at hl 2 rfl) ?_
  refine lv_iconst (v := 0) hx hb dX1_holdsAt_3 (by decide) ?_
  refine ct_V (wr := []) hSF hl.1 hP hD hS hA hK hGV (c387_X1_holdsAlong l hfl D cA g h0 h1 h16 h17 h18 h19 h20 h21 h22 h23 h24 h25 h2 h3 h4 h5 h6 h7 h8 h9 h10 h11 h12 h13 h14 h15) goV_X1_185 pd_X1_holdsAlong ⟨(Nat.le_of_ble_eq_true rfl), (Nat.le_of_ble_eq_true rfl)⟩ ⟨(Nat.le_of_ble_eq_true rfl), (Nat.le_of_ble_eq_true rfl)⟩ (va_recv hK hP (ci := 4) (q0 := 0) rfl rfl) dX1_holdsAt_4 rfl (Nat.le_of_ble_eq_true rfl) [1, 0] [] rfl (by decide) rfl (by decide) (by decide) (fun q => [(h1, .inr (5, [.int 0, .int 0, .ref h16, .ref h17, .ref h18, .ref h19, .ref h20, .ref h21, .ref h22, .ref h23, .ref h24, .ref h25])), (h0, .inr (4, [.int 1, .int 46, .long 1, .ref h2, .ref h3, .ref h4, .ref h5, .ref h6, .ref h7, .ref h8, .ref h9, .ref h10, .ref h11, .ref h12, .ref h13, .ref h14, .ref h15]))]) (fun _ => rfl) (fun q1 H locs hP hD hS => ?_)
  refine W.eq (g2 := F0 m 7 ls [.int 1]) rfl ?_
  refine k_if_eq_f (tgt := 24) hx hb dX1_holdsAt_7 (by decide) (by decide) ?_
  refine lv_aload_n hx hb dX1_holdsAt_10 rfl (lv_at hl 0 rfl) ?_
  refine lv_aload_n hx hb dX1_holdsAt_11 rfl (lv_at hl 1 rfl) ?_
  refine lv_iload_n hx hb dX1_holdsAt_12 rfl (lv_at hl 2 rfl) ?_
  refine lv_iconst (v := 1) hx hb dX1_holdsAt_13 (by decide) ?_
  refine ct_V (wr := []) hSF hl.1 hP hD hS hA hK hGV (c388_X1_holdsAlong l hfl D cA g h0 h1 h16 h17 h18 h19 h20 h21 h22 h23 h24 h25 h2 h3 h4 h5 h6 h7 h8 h9 h10 h11 h12 h13 h14 h15) goV_X1_185 pd_X1_holdsAlong ⟨(Nat.le_of_ble_eq_true rfl), (Nat.le_of_ble_eq_true rfl)⟩ ⟨(Nat.le_of_ble_eq_true rfl), (Nat.le_of_ble_eq_true rfl)⟩ (va_recv hK hP (ci := 4) (q0 := 1) rfl rfl) dX1_holdsAt_14 rfl (Nat.le_of_ble_eq_true rfl) [0, 1] [] rfl (by decide) rfl (by decide) (by decide) (fun q => [(h1, .inr (5, [.int 0, .int 0, .ref h16, .ref h17, .ref h18, .ref h19, .ref h20, .ref h21, .ref h22, .ref h23, .ref h24, .ref h25])), (h0, .inr (4, [.int 1, .int 46, .long 1, .ref h2, .ref h3, .ref h4, .ref h5, .ref h6, .ref h7, .ref h8, .ref h9, .ref h10, .ref h11, .ref h12, .ref h13, .ref h14, .ref h15]))]) (fun _ => rfl) (fun q2 H locs hP hD hS => ?_)
  refine W.eq (g2 := F0 m 17 ls [.int 1]) rfl ?_
  refine k_if_eq_f (tgt := 24) hx hb dX1_holdsAt_17 (by decide) (by decide) ?_
  refine lv_iconst (v := 1) hx hb dX1_holdsAt_20 (by decide) ?_
  refine lv_goto (tgt := 25) hx hb dX1_holdsAt_21 (by decide) ?_
  exact e_i (fun _ => 0) hx hb hr hlocks rfl rfl (hP.sub [1, 0] rfl) (hD.sub [1, 0] (by decide) rfl) hS (Nat.le_of_ble_eq_true rfl) (Nat.le_of_ble_eq_true rfl) dX1_holdsAt_25
set_option maxHeartbeats 4000000 in
set_option maxRecDepth 100000 in
theorem c390_X1_holdsAlong (l : Launch) (hfl : l.stackTraces = false) (D : va_G) (cA : Nat → ClassId) (g : gv_T) (h0 h1 h2 h3 h4 h5 h6 h7 h8 h9 h10 h11 h12 h13 h14 h15 h16 h17 h18 h19 h20 h21 h22 h23 h24 h25 : Nat) : CT l yX1_holdsAlong cX1_holdsAlong 12 (some .boolean) (RM 0 0 0 0) D cA g [.ref h0, .ref h1, .int 8, .int 0] [(h1, .inr (5, [.int 0, .int 0, .ref h2, .ref h3, .ref h4, .ref h5, .ref h6, .ref h7, .ref h8, .ref h9, .ref h10, .ref h11])), (h0, .inr (4, [.int 1, .int 46, .long 1, .ref h12, .ref h13, .ref h14, .ref h15, .ref h16, .ref h17, .ref h18, .ref h19, .ref h20, .ref h21, .ref h22, .ref h23, .ref h24, .ref h25]))] (fun q => some (.int 1)) (fun q => [(h1, .inr (5, [.int 0, .int 0, .ref h2, .ref h3, .ref h4, .ref h5, .ref h6, .ref h7, .ref h8, .ref h9, .ref h10, .ref h11])), (h0, .inr (4, [.int 1, .int 46, .long 1, .ref h12, .ref h13, .ref h14, .ref h15, .ref h16, .ref h17, .ref h18, .ref h19, .ref h20, .ref h21, .ref h22, .ref h23, .ref h24, .ref h25]))]) := by
  refine CT.of (by decide +kernel) (Nat.le_of_ble_eq_true rfl) ?_
  intro p e s m args below meth c A ls hx hb hr hml hown hG hlocks hnm hA hS hP hK hD hGV hl
  have hown : s.vm.findClass RX1 = some m.cls := hown
  have hl : lv_has ls 12 [(0, .ref h0), (1, .ref h1), (2, .int 8), (3, .int 0)] := hl
  have hSF : CF p m c cX1_holdsAlong 12 s args RX1 := ⟨hx, hb, hml, hown, hG⟩
  refine lv_lconst (v := 0) hx hb dX1_holdsAlong_0 (by decide) ?_
  refine lv_lstore (lv' := [(4, .long 0), (0, .ref h0), (1, .ref h1), (2, .int 8), (3, .int 0)]) hx hb dX1_holdsAlong_1 hl (by decide) rfl (fun ls hl => ?_)
  refine lv_lconst (v := 0) hx hb dX1_holdsAlong_3 (by decide) ?_
  refine lv_lstore (lv' := [(6, .long 0), (4, .long 0), (0, .ref h0), (1, .ref h1), (2, .int 8), (3, .int 0)]) hx hb dX1_holdsAlong_4 hl (by decide) rfl (fun ls hl => ?_)
  refine lv_iconst (v := 0) hx hb dX1_holdsAlong_6 (by decide) ?_
  refine lv_istore (lv' := [(8, .int 0), (6, .long 0), (4, .long 0), (0, .ref h0), (1, .ref h1), (2, .int 8), (3, .int 0)]) hx hb dX1_holdsAlong_7 hl (by decide) rfl (fun ls hl => ?_)
  refine lv_iload hx hb dX1_holdsAlong_9 (lv_at hl 0 rfl) ?_
  refine lv_aload_n hx hb dX1_holdsAlong_11 rfl (lv_at hl 4 rfl) ?_
  refine k_get (ci := 5) (C := RX2) (T := TX2) (N := 12) (v := .int 0) hx hb hG inX2 hown hK hP 0 rfl rfl 0 (by decide) gw128 rfl dX1_holdsAlong_12 ?_
  refine k_icmp_ge_t (tgt := 180) hx hb dX1_holdsAlong_15 (by decide) (by decide) ?_
  refine lv_aload_n hx hb dX1_holdsAlong_180 rfl (lv_at hl 3 rfl) ?_
  refine k_get (ci := 4) (C := RX1) (T := TX1) (N := 17) (v := .long 1) hx hb hG inX1 hown hK hP 1 rfl rfl 2 (by decide) gw201 rfl dX1_holdsAlong_181 ?_
  refine lv_lconst (v := 0) hx hb dX1_holdsAlong_184 (by decide) ?_
  refine k_lcmp (v := 1) hx hb dX1_holdsAlong_185 (by decide +kernel) ?_
  refine k_if_le_f (tgt := 220) hx hb dX1_holdsAlong_186 (by decide) (by decide) ?_
  refine lv_lload hx hb dX1_holdsAlong_189 (lv_at hl 1 rfl) ?_
  refine lv_aload_n hx hb dX1_holdsAlong_191 rfl (lv_at hl 3 rfl) ?_
  refine k_get (ci := 4) (C := RX1) (T := TX1) (N := 17) (v := .long 1) hx hb hG inX1 hown hK hP 1 rfl rfl 2 (by decide) gw201 rfl dX1_holdsAlong_192 ?_
  refine k_lrem (v := 0) hx hb dX1_holdsAlong_195 (by decide +kernel) (by decide +kernel) ?_
  refine lv_lconst (v := 0) hx hb dX1_holdsAlong_196 (by decide) ?_
  refine k_lcmp (v := 0) hx hb dX1_holdsAlong_197 (by decide +kernel) ?_
  refine k_if_ne_f (tgt := 220) hx hb dX1_holdsAlong_198 (by decide) (by decide) ?_
  refine lv_lload hx hb dX1_holdsAlong_201 (lv_at hl 2 rfl) ?_
  refine lv_lload hx hb dX1_holdsAlong_203 (lv_at hl 1 rfl) ?_
  refine lv_aload_n hx hb dX1_holdsAlong_205 rfl (lv_at hl 3 rfl) ?_
  refine k_get (ci := 4) (C := RX1) (T := TX1) (N := 17) (v := .long 1) hx hb hG inX1 hown hK hP 1 rfl rfl 2 (by decide) gw201 rfl dX1_holdsAlong_206 ?_
  refine k_ldiv (v := 0) hx hb dX1_holdsAlong_209 (by decide +kernel) (by decide +kernel) ?_
  refine k_ladd (v := 0) hx hb dX1_holdsAlong_210 (by decide +kernel) ?_
  refine lv_lconst (v := 0) hx hb dX1_holdsAlong_211 (by decide) ?_
  refine k_lcmp (v := 0) hx hb dX1_holdsAlong_212 (by decide +kernel) ?_
  refine k_if_ne_f (tgt := 220) hx hb dX1_holdsAlong_213 (by decide) (by decide) ?_
  refine lv_iconst (v := 1) hx hb dX1_holdsAlong_216 (by decide) ?_
  refine lv_goto (tgt := 221) hx hb dX1_holdsAlong_217 (by decide) ?_
  exact e_i (fun _ => 0) hx hb hr hlocks rfl rfl hP hD hS (Nat.le_of_ble_eq_true rfl) (Nat.le_of_ble_eq_true rfl) dX1_holdsAlong_221
