set_option maxHeartbeats 4000000 in
set_option maxRecDepth 100000 in
theorem c267_X12_stick (l : Launch) (hfl : l.stackTraces = false) (D : va_G) (cA : Nat → ClassId) (g : gv_T) (h0 h1 h2 h3 h4 h5 h6 h7 h8 h9 h10 h11 h12 h13 h14 h15 h16 h17 h18 : Nat) (p0 : Int32) (p1 : Int32) (p2 : Int32) (k0 : ¬ (lg_cmp p0.toInt64 1) < 0) (k1 : ¬ 0 < (lg_cmp p0.toInt64 900)) (k2 : ¬ (lg_cmp p1.toInt64 6) < 0) (k3 : ¬ 0 < (lg_cmp p1.toInt64 40)) (k4 : ¬ (lg_cmp p2.toInt64 0) < 0) (k5 : ¬ 0 < (lg_cmp p2.toInt64 3)) : CT l yX12_stick cX12_stick 4 (some .int) (RM 5 2 13 117) D cA g [.ref h0, .int p0, .int p1, .int p2] [(h0, .inr (15, [.ref h1, .ref h2, .ref h3, .ref h4, .ref h5, .ref h6, .ref h7, .ref h8, .ref h9, .ref h10, .ref h11, .ref h12, .ref h13, .ref h14, .ref h15, .ref h16, .ref h17, .ref h18, .long 0, .int 0, .int 2, .int 0, .int 0, .int 0, .int 0, .int 0, .int 0])), (h4, .inr (2, [.int 0, .ref g.1, .int 0]))] (fun q => some (.int 0)) (fun q => [(h0, .inr (15, [.ref h1, .ref h2, .ref h3, .ref h4, .ref h5, .ref h6, .ref h7, .ref h8, .ref h9, .ref h10, .ref h11, .ref h12, .ref h13, .ref h14, .ref h15, .ref h16, .ref h17, .ref h18, .long 0, .int 0, .int 2, .int 0, .int 0, .int 0, .int 0, .int 0, .int 0])), (h4, .inr (2, [.int 1, .ref (q 1), .int 1])), ((q 0), .inr (13, [.int p0, .int p1, .int p2])), ((q 1), .inl (cA 4, 10, .inr (.inr (.inr (.inr (va_up (fun _ => none) 0 (some (q 0))))))))]) := by
  refine CT.of (by decide +kernel) (Nat.le_of_ble_eq_true rfl) ?_
  intro p e s m args below meth c A ls hx hb hr hml hown hG hlocks hnm hA hS hP hK hD hGV hl
  have hown : s.vm.findClass RX12 = some m.cls := hown
  have hl : lv_has ls 4 [(0, .ref h0), (1, .int p0), (2, .int p1), (3, .int p2)] := hl
  have hSF : CF p m c cX12_stick 4 s args RX12 := ⟨hx, hb, hml, hown, hG⟩
  refine lv_iload_n hx hb dX12_stick_0 rfl (lv_at hl 1 rfl) ?_
  refine lv_i2l (v := p0.toInt64) hx hb dX12_stick_1 rfl ?_
  refine lv_iconst (v := 1) hx hb dX12_stick_2 (by decide) ?_
  refine lv_sipush (v := 900) hx hb dX12_stick_3 (by decide) ?_
  refine ct_S (wr := [(h0, .inr (15, [.ref h1, .ref h2, .ref h3, .ref h4, .ref h5, .ref h6, .ref h7, .ref h8, .ref h9, .ref h10, .ref h11, .ref h12, .ref h13, .ref h14, .ref h15, .ref h16, .ref h17, .ref h18, .long 0, .int 0, .int 2, .int 0, .int 0, .int 0, .int 0, .int 0, .int 0])), (h4, .inr (2, [.int 0, .ref g.1, .int 0]))]) hSF hl.1 hP hD hS hA hK hGV (c235_X12_in l hfl D cA g (p0.toInt64) k0 k1) goS_X12_285 pd_X12_in.2 ⟨(Nat.le_of_ble_eq_true rfl), (Nat.le_of_ble_eq_true rfl)⟩ ⟨(Nat.le_of_ble_eq_true rfl), (Nat.le_of_ble_eq_true rfl)⟩ dX12_stick_6 rfl (Nat.le_of_ble_eq_true rfl) [] [0, 1] rfl (by decide) rfl (by decide) (by decide) (fun q => [(h0, .inr (15, [.ref h1, .ref h2, .ref h3, .ref h4, .ref h5, .ref h6, .ref h7, .ref h8, .ref h9, .ref h10, .ref h11, .ref h12, .ref h13, .ref h14, .ref h15, .ref h16, .ref h17, .ref h18, .long 0, .int 0, .int 2, .int 0, .int 0, .int 0, .int 0, .int 0, .int 0])), (h4, .inr (2, [.int 0, .ref g.1, .int 0]))]) (fun _ => rfl) (fun q1 H locs hP hD hS => ?_)
  refine W.eq (g2 := F0 m 9 ls [.int 1]) rfl ?_
  refine k_if_eq_f (tgt := 34) hx hb dX12_stick_9 (by decide) (by decide) ?_
  refine lv_iload_n hx hb dX12_stick_12 rfl (lv_at hl 2 rfl) ?_
  refine lv_i2l (v := p1.toInt64) hx hb dX12_stick_13 rfl ?_
  refine lv_bipush (v := 6) hx hb dX12_stick_14 (by decide) ?_
  refine lv_bipush (v := 40) hx hb dX12_stick_16 (by decide) ?_
  refine ct_S (wr := [(h0, .inr (15, [.ref h1, .ref h2, .ref h3, .ref h4, .ref h5, .ref h6, .ref h7, .ref h8, .ref h9, .ref h10, .ref h11, .ref h12, .ref h13, .ref h14, .ref h15, .ref h16, .ref h17, .ref h18, .long 0, .int 0, .int 2, .int 0, .int 0, .int 0, .int 0, .int 0, .int 0])), (h4, .inr (2, [.int 0, .ref g.1, .int 0]))]) hSF hl.1 hP hD hS hA hK hGV (c249_X12_in l hfl D cA g (p1.toInt64) k2 k3) goS_X12_285 pd_X12_in.2 ⟨(Nat.le_of_ble_eq_true rfl), (Nat.le_of_ble_eq_true rfl)⟩ ⟨(Nat.le_of_ble_eq_true rfl), (Nat.le_of_ble_eq_true rfl)⟩ dX12_stick_18 rfl (Nat.le_of_ble_eq_true rfl) [] [0, 1] rfl (by decide) rfl (by decide) (by decide) (fun q => [(h0, .inr (15, [.ref h1, .ref h2, .ref h3, .ref h4, .ref h5, .ref h6, .ref h7, .ref h8, .ref h9, .ref h10, .ref h11, .ref h12, .ref h13, .ref h14, .ref h15, .ref h16, .ref h17, .ref h18, .long 0, .int 0, .int 2, .int 0, .int 0, .int 0, .int 0, .int 0, .int 0])), (h4, .inr (2, [.int 0, .ref g.1, .int 0]))]) (fun _ => rfl) (fun q2 H locs hP hD hS => ?_)
  refine W.eq (g2 := F0 m 21 ls [.int 1]) rfl ?_
  refine k_if_eq_f (tgt := 34) hx hb dX12_stick_21 (by decide) (by decide) ?_
  refine lv_iload_n hx hb dX12_stick_24 rfl (lv_at hl 3 rfl) ?_
  refine lv_i2l (v := p2.toInt64) hx hb dX12_stick_25 rfl ?_
  refine lv_iconst (v := 0) hx hb dX12_stick_26 (by decide) ?_
  refine lv_iconst (v := 3) hx hb dX12_stick_27 (by decide) ?_
  refine ct_S (wr := [(h0, .inr (15, [.ref h1, .ref h2, .ref h3, .ref h4, .ref h5, .ref h6, .ref h7, .ref h8, .ref h9, .ref h10, .ref h11, .ref h12, .ref h13, .ref h14, .ref h15, .ref h16, .ref h17, .ref h18, .long 0, .int 0, .int 2, .int 0, .int 0, .int 0, .int 0, .int 0, .int 0])), (h4, .inr (2, [.int 0, .ref g.1, .int 0]))]) hSF hl.1 hP hD hS hA hK hGV (c263_X12_in l hfl D cA g (p2.toInt64) k4 k5) goS_X12_285 pd_X12_in.2 ⟨(Nat.le_of_ble_eq_true rfl), (Nat.le_of_ble_eq_true rfl)⟩ ⟨(Nat.le_of_ble_eq_true rfl), (Nat.le_of_ble_eq_true rfl)⟩ dX12_stick_28 rfl (Nat.le_of_ble_eq_true rfl) [] [0, 1] rfl (by decide) rfl (by decide) (by decide) (fun q => [(h0, .inr (15, [.ref h1, .ref h2, .ref h3, .ref h4, .ref h5, .ref h6, .ref h7, .ref h8, .ref h9, .ref h10, .ref h11, .ref h12, .ref h13, .ref h14, .ref h15, .ref h16, .ref h17, .ref h18, .long 0, .int 0, .int 2, .int 0, .int 0, .int 0, .int 0, .int 0, .int 0])), (h4, .inr (2, [.int 0, .ref g.1, .int 0]))]) (fun _ => rfl) (fun q3 H locs hP hD hS => ?_)
  refine W.eq (g2 := F0 m 31 ls [.int 1]) rfl ?_
  refine k_if_ne_t (tgt := 40) hx hb dX12_stick_31 (by decide) (by decide) ?_
  refine lv_aload_n hx hb dX12_stick_40 rfl (lv_at hl 0 rfl) ?_
  refine k_get (ci := 15) (C := RX12) (T := TX12) (N := 27) (v := .ref h4) hx hb hG inX12 hown hK hP 0 rfl rfl 3 (by decide) gw1222 rfl dX12_stick_41 ?_
  refine ct_V (wr := [(h0, .inr (15, [.ref h1, .ref h2, .ref h3, .ref h4, .ref h5, .ref h6, .ref h7, .ref h8, .ref h9, .ref h10, .ref h11, .ref h12, .ref h13, .ref h14, .ref h15, .ref h16, .ref h17, .ref h18, .long 0, .int 0, .int 2, .int 0, .int 0, .int 0, .int 0, .int 0, .int 0]))]) hSF hl.1 hP hD hS hA hK hGV (c56_Jx4a65c_size_8abf5 l hfl D cA g h4) goV_X12_125 pd_Jx4a65c_size_8abf5 ⟨(Nat.le_of_ble_eq_true rfl), (Nat.le_of_ble_eq_true rfl)⟩ ⟨(Nat.le_of_ble_eq_true rfl), (Nat.le_of_ble_eq_true rfl)⟩ (va_recv hK hP (ci := 2) (q0 := 1) rfl rfl) dX12_stick_44 rfl (Nat.le_of_ble_eq_true rfl) [1] [0] rfl (by decide) rfl (by decide) (by decide) (fun q => [(h0, .inr (15, [.ref h1, .ref h2, .ref h3, .ref h4, .ref h5, .ref h6, .ref h7, .ref h8, .ref h9, .ref h10, .ref h11, .ref h12, .ref h13, .ref h14, .ref h15, .ref h16, .ref h17, .ref h18, .long 0, .int 0, .int 2, .int 0, .int 0, .int 0, .int 0, .int 0, .int 0])), (h4, .inr (2, [.int 0, .ref g.1, .int 0]))]) (fun _ => rfl) (fun q4 H locs hP hD hS => ?_)
  refine W.eq (g2 := F0 m 47 ls [.int 0]) rfl ?_
  refine lv_iconst (v := 5) hx hb dX12_stick_47 (by decide) ?_
  refine k_icmp_ne_t (tgt := 57) hx hb dX12_stick_48 (by decide) (by decide) ?_
  refine lv_aload_n hx hb dX12_stick_57 rfl (lv_at hl 0 rfl) ?_
  refine k_get (ci := 15) (C := RX12) (T := TX12) (N := 27) (v := .ref h4) hx hb hG inX12 hown hK hP 0 rfl rfl 3 (by decide) gw1222 rfl dX12_stick_58 ?_
  refine k_new (ci := 13) (C := RX10) (T := TX10) (N := 3) hx hb hG inX10 tyX10 tyX10_ok hown gw1706 gw1707 gw110 hK hP hD hS hA rfl [.int 0, .int 0, .int 0] rfl (Nat.le_of_ble_eq_true rfl) (Nat.le_of_ble_eq_true rfl) dX12_stick_61 (fun a19 H hP hD hS => ?_)
  have hP : va_P D vwCl [(h0, .inr (15, [.ref h1, .ref h2, .ref h3, .ref h4, .ref h5, .ref h6, .ref h7, .ref h8, .ref h9, .ref h10, .ref h11, .ref h12, .ref h13, .ref h14, .ref h15, .ref h16, .ref h17, .ref h18, .long 0, .int 0, .int 2, .int 0, .int 0, .int 0, .int 0, .int 0, .int 0])), (h4, .inr (2, [.int 0, .ref g.1, .int 0])), (a19, .inr (13, [.int 0, .int 0, .int 0]))] H := hP
  have hD : va_D _ [(h0, .inr (15, [.ref h1, .ref h2, .ref h3, .ref h4, .ref h5, .ref h6, .ref h7, .ref h8, .ref h9, .ref h10, .ref h11, .ref h12, .ref h13, .ref h14, .ref h15, .ref h16, .ref h17, .ref h18, .long 0, .int 0, .int 2, .int 0, .int 0, .int 0, .int 0, .int 0, .int 0])), (h4, .inr (2, [.int 0, .ref g.1, .int 0])), (a19, .inr (13, [.int 0, .int 0, .int 0]))] := hD
  refine lv_dup hx hb dX12_stick_64 rfl ?_
  refine lv_iload_n hx hb dX12_stick_65 rfl (lv_at hl 1 rfl) ?_
  refine lv_iload_n hx hb dX12_stick_66 rfl (lv_at hl 2 rfl) ?_
  refine lv_iload_n hx hb dX12_stick_67 rfl (lv_at hl 3 rfl) ?_
  refine ct_I (wr := [(h0, .inr (15, [.ref h1, .ref h2, .ref h3, .ref h4, .ref h5, .ref h6, .ref h7, .ref h8, .ref h9, .ref h10, .ref h11, .ref h12, .ref h13, .ref h14, .ref h15, .ref h16, .ref h17, .ref h18, .long 0, .int 0, .int 2, .int 0, .int 0, .int 0, .int 0, .int 0, .int 0])), (h4, .inr (2, [.int 0, .ref g.1, .int 0]))]) hSF hl.1 hP hD hS hA hK hGV (c264_X10_init l hfl D cA g a19 (p0) (p1) (p2)) gw1708 gw1709 gw110 gw1710 rfl pd_X10_init.2 ⟨(Nat.le_of_ble_eq_true rfl), (Nat.le_of_ble_eq_true rfl)⟩ ⟨(Nat.le_of_ble_eq_true rfl), (Nat.le_of_ble_eq_true rfl)⟩ dX12_stick_68 rfl (Nat.le_of_ble_eq_true rfl) [2] [0, 1] rfl (by decide) rfl (by decide) (by decide) (fun q => [(h0, .inr (15, [.ref h1, .ref h2, .ref h3, .ref h4, .ref h5, .ref h6, .ref h7, .ref h8, .ref h9, .ref h10, .ref h11, .ref h12, .ref h13, .ref h14, .ref h15, .ref h16, .ref h17, .ref h18, .long 0, .int 0, .int 2, .int 0, .int 0, .int 0, .int 0, .int 0, .int 0])), (h4, .inr (2, [.int 0, .ref g.1, .int 0])), (a19, .inr (13, [.int p0, .int p1, .int p2]))]) (fun _ => rfl) (fun q5 H locs hP hD hS => ?_)
  refine W.eq (g2 := F0 m 71 ls [.ref a19, .ref h4]) rfl ?_
  refine ct_V (wr := [(h0, .inr (15, [.ref h1, .ref h2, .ref h3, .ref h4, .ref h5, .ref h6, .ref h7, .ref h8, .ref h9, .ref h10, .ref h11, .ref h12, .ref h13, .ref h14, .ref h15, .ref h16, .ref h17, .ref h18, .long 0, .int 0, .int 2, .int 0, .int 0, .int 0, .int 0, .int 0, .int 0]))]) hSF hl.1 hP hD hS hA hK hGV (c266_Jx4a65c_add_9ea2d l hfl D cA g h4 a19 (p0) (p1) (p2)) goV_X12_295 pd_Jx4a65c_add_9ea2d ⟨(Nat.le_of_ble_eq_true rfl), (Nat.le_of_ble_eq_true rfl)⟩ ⟨(Nat.le_of_ble_eq_true rfl), (Nat.le_of_ble_eq_true rfl)⟩ (va_recv hK hP (ci := 2) (q0 := 1) rfl rfl) dX12_stick_71 rfl (Nat.le_of_ble_eq_true rfl) [1, 2] [0] rfl (by decide) rfl (by decide) (by decide) (fun q => [(h0, .inr (15, [.ref h1, .ref h2, .ref h3, .ref h4, .ref h5, .ref h6, .ref h7, .ref h8, .ref h9, .ref h10, .ref h11, .ref h12, .ref h13, .ref h14, .ref h15, .ref h16, .ref h17, .ref h18, .long 0, .int 0, .int 2, .int 0, .int 0, .int 0, .int 0, .int 0, .int 0])), (h4, .inr (2, [.int 1, .ref (q 0), .int 1])), (a19, .inr (13, [.int p0, .int p1, .int p2])), ((q 0), .inl (cA 4, 10, .inr (.inr (.inr (.inr (va_up (fun _ => none) 0 (some a19)))))))]) (fun _ => rfl) (fun q6 H locs hP hD hS => ?_)
  refine W.eq (g2 := F0 m 74 ls [.int 1]) rfl ?_
  refine lv_pop hx hb dX12_stick_74 rfl ?_
  refine lv_aload_n hx hb dX12_stick_75 rfl (lv_at hl 0 rfl) ?_
  refine lv_iconst (v := 0) hx hb dX12_stick_76 (by decide) ?_
  refine k_put (ci := 15) (C := RX12) (T := TX12) (N := 27) (v := .int 0) (ws1 := [(h0, .inr (15, [.ref h1, .ref h2, .ref h3, .ref h4, .ref h5, .ref h6, .ref h7, .ref h8, .ref h9, .ref h10, .ref h11, .ref h12, .ref h13, .ref h14, .ref h15, .ref h16, .ref h17, .ref h18, .long 0, .int 0, .int 2, .int 0, .int 0, .int 0, .int 0, .int 0, .int 0])), (h4, .inr (2, [.int 1, .ref (q6 0), .int 1])), (a19, .inr (13, [.int p0, .int p1, .int p2])), ((q6 0), .inl (cA 4, 10, .inr (.inr (.inr (.inr (va_up (fun _ => none) 0 (some a19)))))))]) hx hb hG inX12 tyX12 tyX12_ok nmX12 hown hK hP hD hS 0 rfl rfl 25 (by decide) gw1244 rfl ⟨rfl, rfl⟩ rfl (Nat.le_of_ble_eq_true rfl) dX12_stick_77 (fun H locs hP hD hS => ?_)
  refine lv_aload_n hx hb dX12_stick_80 rfl (lv_at hl 0 rfl) ?_
  refine lv_aload_n hx hb dX12_stick_81 rfl (lv_at hl 0 rfl) ?_
  refine k_get (ci := 15) (C := RX12) (T := TX12) (N := 27) (v := .ref h4) hx hb hG inX12 hown hK hP 0 rfl rfl 3 (by decide) gw1222 rfl dX12_stick_82 ?_
  refine ct_V (wr := [(h0, .inr (15, [.ref h1, .ref h2, .ref h3, .ref h4, .ref h5, .ref h6, .ref h7, .ref h8, .ref h9, .ref h10, .ref h11, .ref h12, .ref h13, .ref h14, .ref h15, .ref h16, .ref h17, .ref h18, .long 0, .int 0, .int 2, .int 0, .int 0, .int 0, .int 0, .int 0, .int 0])), (a19, .inr (13, [.int p0, .int p1, .int p2])), ((q6 0), .inl (cA 4, 10, .inr (.inr (.inr (.inr (va_up (fun _ => none) 0 (some a19)))))))]) hSF hl.1 hP hD hS hA hK hGV (c63_Jx4a65c_size_8abf5 l hfl D cA g h4 (q6 0)) goV_X12_125 pd_Jx4a65c_size_8abf5 ⟨(Nat.le_of_ble_eq_true rfl), (Nat.le_of_ble_eq_true rfl)⟩ ⟨(Nat.le_of_ble_eq_true rfl), (Nat.le_of_ble_eq_true rfl)⟩ (va_recv hK hP (ci := 2) (q0 := 1) rfl rfl) dX12_stick_85 rfl (Nat.le_of_ble_eq_true rfl) [1] [0, 2, 3] rfl (by decide) rfl (by decide) (by decide) (fun q => [(h0, .inr (15, [.ref h1, .ref h2, .ref h3, .ref h4, .ref h5, .ref h6, .ref h7, .ref h8, .ref h9, .ref h10, .ref h11, .ref h12, .ref h13, .ref h14, .ref h15, .ref h16, .ref h17, .ref h18, .long 0, .int 0, .int 2, .int 0, .int 0, .int 0, .int 0, .int 0, .int 0])), (a19, .inr (13, [.int p0, .int p1, .int p2])), ((q6 0), .inl (cA 4, 10, .inr (.inr (.inr (.inr (va_up (fun _ => none) 0 (some a19))))))), (h4, .inr (2, [.int 1, .ref (q6 0), .int 1]))]) (fun _ => rfl) (fun q7 H locs hP hD hS => ?_)
  refine W.eq (g2 := F0 m 88 ls [.int 1, .ref h0]) rfl ?_
  refine lv_iconst (v := 1) hx hb dX12_stick_88 (by decide) ?_
  refine k_isub (v := 0) hx hb dX12_stick_89 (by decide) ?_
  refine ct_V (wr := [(a19, .inr (13, [.int p0, .int p1, .int p2])), ((q6 0), .inl (cA 4, 10, .inr (.inr (.inr (.inr (va_up (fun _ => none) 0 (some a19))))))), (h4, .inr (2, [.int 1, .ref (q6 0), .int 1]))]) hSF hl.1 hP hD hS hA hK hGV (c64_X12_tell l hfl D cA g h0 h1 h2 h3 h4 h5 h6 h7 h8 h9 h10 h11 h12 h13 h14 h15 h16 h17 h18) goV_X12_302 pd_X12_tell ⟨(Nat.le_of_ble_eq_true rfl), (Nat.le_of_ble_eq_true rfl)⟩ ⟨(Nat.le_of_ble_eq_true rfl), (Nat.le_of_ble_eq_true rfl)⟩ (va_recv hK hP (ci := 15) (q0 := 0) rfl rfl) dX12_stick_90 rfl (Nat.le_of_ble_eq_true rfl) [0] [1, 2, 3] rfl (by decide) rfl (by decide) (by decide) (fun q => [(a19, .inr (13, [.int p0, .int p1, .int p2])), ((q6 0), .inl (cA 4, 10, .inr (.inr (.inr (.inr (va_up (fun _ => none) 0 (some a19))))))), (h4, .inr (2, [.int 1, .ref (q6 0), .int 1])), (h0, .inr (15, [.ref h1, .ref h2, .ref h3, .ref h4, .ref h5, .ref h6, .ref h7, .ref h8, .ref h9, .ref h10, .ref h11, .ref h12, .ref h13, .ref h14, .ref h15, .ref h16, .ref h17, .ref h18, .long 0, .int 0, .int 2, .int 0, .int 0, .int 0, .int 0, .int 0, .int 0]))]) (fun _ => rfl) (fun q8 H locs hP hD hS => ?_)
  refine W.eq (g2 := F0 m 93 ls [.int 0]) rfl ?_
  exact e_i (fun i => match i with | 0 => a19 | 1 => (q6 0) | _ => 0) hx hb hr hlocks rfl rfl (hP.sub [3, 2, 0, 1] rfl) (hD.sub [3, 2, 0, 1] (by decide) rfl) hS (Nat.le_of_ble_eq_true rfl) (Nat.le_of_ble_eq_true rfl) dX12_stick_93
set_option maxHeartbeats 4000000 in
set_option maxRecDepth 100000 in
theorem c268_X6_piece (l : Launch) (hfl : l.stackTraces = false) (D : va_G) (cA : Nat → ClassId) (g : gv_T) (h0 h1 h2 h3 h4 h5 : Nat) (p0 : Int32) (k0 : p0 < 0) : CX l yX6_piece cX6_piece 2 (some .int) (RM 7 1 6 116) D cA g [.ref h0, .int p0] [(h0, .inr (9, [.ref h1, .ref h2, .ref h3, .ref h4, .ref h5]))] "java/lang/IndexOutOfBoundsException" (fun q => [(h0, .inr (9, [.ref h1, .ref h2, .ref h3, .ref h4, .ref h5]))]) := by
  refine CX.of (by decide +kernel) (Nat.le_of_ble_eq_true rfl) ?_
  intro p e s m args below meth c A ls hx hb hr hml hown hG hlocks htab hA hS hP hK hD hGV hl
  have hown : s.vm.findClass RX6 = some m.cls := hown
  have hl : lv_has ls 2 [(0, .ref h0), (1, .int p0)] := hl
  have hSF : CF p m c cX6_piece 2 s args RX6 := ⟨hx, hb, hml, hown, hG⟩
  refine lv_aload_n hx hb dX6_piece_0 rfl (lv_at hl 0 rfl) ?_
  refine lv_iload_n hx hb dX6_piece_1 rfl (lv_at hl 1 rfl) ?_
  refine cx_V (wr := [(h0, .inr (9, [.ref h1, .ref h2, .ref h3, .ref h4, .ref h5]))]) hSF hl.1 hP hD hS hA hK hGV (c122_X6_checkMember l hfl D cA g h0 (p0) k0) goV_X6_118 pd_X6_checkMember ⟨(Nat.le_of_ble_eq_true rfl), (Nat.le_of_ble_eq_true rfl)⟩ ⟨(Nat.le_of_ble_eq_true rfl), (Nat.le_of_ble_eq_true rfl)⟩ (va_recv hK hP (ci := 9) (q0 := 0) rfl rfl) dX6_piece_2 rfl (Nat.le_of_ble_eq_true rfl) [] [0] rfl (by decide) rfl (by decide) (by decide) (fun q => [(h0, .inr (9, [.ref h1, .ref h2, .ref h3, .ref h4, .ref h5]))]) (fun _ => rfl) (fun q1 H locs x9 ce9 hP hD hS h9 hv9 hcl9 => ?_)
  exact e_out (fun _ => 0) htab hlocks h9 hv9 hcl9 hP hD hS (Nat.le_of_ble_eq_true rfl) (Nat.le_of_ble_eq_true rfl)
set_option maxHeartbeats 4000000 in
set_option maxRecDepth 100000 in
theorem c269_L_piece (l : Launch) (hfl : l.stackTraces = false) (D : va_G) (cA : Nat → ClassId) (g : gv_T) (h0 h1 h2 h3 h4 h5 h6 : Nat) (p0 : Int32) (k0 : p0 < 0) : CW l yL_piece cL_piece 4 (some .int) [(0, 9, 12, 21)] (RM 8 1 6 137) D cA g [.ref h0, .int p0, .ref h1] [(h0, .inr (9, [.ref h2, .ref h3, .ref h4, .ref h5, .ref h6]))] (fun q => some (.int 1)) (fun q => [(h0, .inr (9, [.ref h2, .ref h3, .ref h4, .ref h5, .ref h6]))]) := by
  refine CW.of (by decide +kernel) (Nat.le_of_ble_eq_true rfl) ?_
  intro p e s m args below meth c A ls hx hb hr hml hown hG hlocks htab hA hS hP hK hD hGV hl
  have hown : s.vm.findClass RL = some m.cls := hown
  have hl : lv_has ls 4 [(0, .ref h0), (1, .int p0), (2, .ref h1)] := hl
  have hSF : CF p m c cL_piece 4 s args RL := ⟨hx, hb, hml, hown, hG⟩
  refine lv_aload_n hx hb dL_piece_0 rfl (lv_at hl 2 rfl) ?_
  refine lv_iconst (v := 0) hx hb dL_piece_1 (by decide) ?_
  refine lv_aload_n hx hb dL_piece_2 rfl (lv_at hl 0 rfl) ?_
  refine lv_iload_n hx hb dL_piece_3 rfl (lv_at hl 1 rfl) ?_
  refine cx_V (wr := []) hSF hl.1 hP hD hS hA hK hGV (c268_X6_piece l hfl D cA g h0 h2 h3 h4 h5 h6 (p0) k0) goV_L_77 pd_X6_piece ⟨(Nat.le_of_ble_eq_true rfl), (Nat.le_of_ble_eq_true rfl)⟩ ⟨(Nat.le_of_ble_eq_true rfl), (Nat.le_of_ble_eq_true rfl)⟩ (va_recv hK hP (ci := 9) (q0 := 0) rfl rfl) dL_piece_4 rfl (Nat.le_of_ble_eq_true rfl) [0] [] rfl (by decide) rfl (by decide) (by decide) (fun q => [(h0, .inr (9, [.ref h2, .ref h3, .ref h4, .ref h5, .ref h6]))]) (fun _ => rfl) (fun q1 H locs x9 ce9 hP hD hS h9 hv9 hcl9 => ?_)
  refine vx_catch (own := RL) (name := "java/lang/IndexOutOfBoundsException") hown [] { startPc := 0, endPc := 9, handlerPc := 12, catchType := 21 } [] (htab.trans rfl) (fun z hz => nomatch hz) rfl (by decide) (hG _ gw763) (va_Nw.use rfl (hGV.2.2.2.2.1 _ gw797)) h9 hv9 hcl9 ?_
  refine W.eq (g2 := F0 m 12 ls [.ref x9]) rfl ?_
  refine lv_astore_n (lv' := [(3, .ref x9), (0, .ref h0), (1, .int p0), (2, .ref h1)]) hx hb dL_piece_12 rfl hl (by decide) rfl (fun ls hl => ?_)
  refine lv_iconst (v := 1) hx hb dL_piece_13 (by decide) ?_
  exact e_i (fun _ => 0) hx hb hr hlocks rfl rfl hP hD hS (Nat.le_of_ble_eq_true rfl) (Nat.le_of_ble_eq_true rfl) dL_piece_14
set_option maxHeartbeats 4000000 in
set_option maxRecDepth 100000 in
theorem c270_X12_piece (l : Launch) (hfl : l.stackTraces = false) (D : va_G) (cA : Nat → ClassId) (g : gv_T) (h0 h1 h2 h3 h4 h5 h6 h7 h8 h9 h10 h11 h12 h13 h14 h15 h16 h17 h18 : Nat) (p0 : Int32) (k0 : (lg_cmp p0.toInt64 0) < 0) : CT l yX12_piece cX12_piece 2 (some .int) (RM 2 0 0 44) D cA g [.ref h0, .int p0] [(h0, .inr (15, [.ref h1, .ref h2, .ref h3, .ref h4, .ref h5, .ref h6, .ref h7, .ref h8, .ref h9, .ref h10, .ref h11, .ref h12, .ref h13, .ref h14, .ref h15, .ref h16, .ref h17, .ref h18, .long 0, .int 0, .int 2, .int 0, .int 0, .int 0, .int 0, .int 0, .int 0])), (h2, .inr (2, [.int 0, .ref g.1, .int 0]))] (fun q => some (.int 0)) (fun q => [(h0, .inr (15, [.ref h1, .ref h2, .ref h3, .ref h4, .ref h5, .ref h6, .ref h7, .ref h8, .ref h9, .ref h10, .ref h11, .ref h12, .ref h13, .ref h14, .ref h15, .ref h16, .ref h17, .ref h18, .long 0, .int 1, .int 2, .int 0, .int 0, .int 0, .int 0, .int 0, .int 0])), (h2, .inr (2, [.int 0, .ref g.1, .int 0]))]) := by
  refine CT.of (by decide +kernel) (Nat.le_of_ble_eq_true rfl) ?_
  intro p e s m args below meth c A ls hx hb hr hml hown hG hlocks hnm hA hS hP hK hD hGV hl
  have hown : s.vm.findClass RX12 = some m.cls := hown
  have hl : lv_has ls 2 [(0, .ref h0), (1, .int p0)] := hl
  have hSF : CF p m c cX12_piece 2 s args RX12 := ⟨hx, hb, hml, hown, hG⟩
  refine lv_aload_n hx hb dX12_piece_0 rfl (lv_at hl 0 rfl) ?_
  refine lv_iload_n hx hb dX12_piece_1 rfl (lv_at hl 1 rfl) ?_
  refine ct_V (wr := []) hSF hl.1 hP hD hS hA hK hGV (c125_X12_isMember l hfl D cA g h0 h1 h2 h3 h4 h5 h6 h7 h8 h9 h10 h11 h12 h13 h14 h15 h16 h17 h18 (p0) k0) goV_X12_314 pd_X12_isMember ⟨(Nat.le_of_ble_eq_true rfl), (Nat.le_of_ble_eq_true rfl)⟩ ⟨(Nat.le_of_ble_eq_true rfl), (Nat.le_of_ble_eq_true rfl)⟩ (va_recv hK hP (ci := 15) (q0 := 0) rfl rfl) dX12_piece_2 rfl (Nat.le_of_ble_eq_true rfl) [0, 1] [] rfl (by decide) rfl (by decide) (by decide) (fun q => [(h0, .inr (15, [.ref h1, .ref h2, .ref h3, .ref h4, .ref h5, .ref h6, .ref h7, .ref h8, .ref h9, .ref h10, .ref h11, .ref h12, .ref h13, .ref h14, .ref h15, .ref h16, .ref h17, .ref h18, .long 0, .int 0, .int 2, .int 0, .int 0, .int 0, .int 0, .int 0, .int 0])), (h2, .inr (2, [.int 0, .ref g.1, .int 0]))]) (fun _ => rfl) (fun q1 H locs hP hD hS => ?_)
  refine W.eq (g2 := F0 m 5 ls [.int 0]) rfl ?_
  refine k_if_eq_t (tgt := 20) hx hb dX12_piece_5 (by decide) (by decide) ?_
  refine lv_aload_n hx hb dX12_piece_20 rfl (lv_at hl 0 rfl) ?_
  refine lv_iconst (v := 1) hx hb dX12_piece_21 (by decide) ?_
  refine ct_V (wr := [(h2, .inr (2, [.int 0, .ref g.1, .int 0]))]) hSF hl.1 hP hD hS hA hK hGV (c15_X12_fails l hfl D cA g h0 h1 h2 h3 h4 h5 h6 h7 h8 h9 h10 h11 h12 h13 h14 h15 h16 h17 h18) goV_X12_289 pd_X12_fails ⟨(Nat.le_of_ble_eq_true rfl), (Nat.le_of_ble_eq_true rfl)⟩ ⟨(Nat.le_of_ble_eq_true rfl), (Nat.le_of_ble_eq_true rfl)⟩ (va_recv hK hP (ci := 15) (q0 := 0) rfl rfl) dX12_piece_22 rfl (Nat.le_of_ble_eq_true rfl) [0] [1] rfl (by decide) rfl (by decide) (by decide) (fun q => [(h2, .inr (2, [.int 0, .ref g.1, .int 0])), (h0, .inr (15, [.ref h1, .ref h2, .ref h3, .ref h4, .ref h5, .ref h6, .ref h7, .ref h8, .ref h9, .ref h10, .ref h11, .ref h12, .ref h13, .ref h14, .ref h15, .ref h16, .ref h17, .ref h18, .long 0, .int 1, .int 2, .int 0, .int 0, .int 0, .int 0, .int 0, .int 0]))]) (fun _ => rfl) (fun q2 H locs hP hD hS => ?_)
  refine W.eq (g2 := F0 m 25 ls [.int 0]) rfl ?_
  exact e_i (fun _ => 0) hx hb hr hlocks rfl rfl (hP.sub [1, 0] rfl) (hD.sub [1, 0] (by decide) rfl) hS (Nat.le_of_ble_eq_true rfl) (Nat.le_of_ble_eq_true rfl) dX12_piece_25
set_option maxHeartbeats 4000000 in
set_option maxRecDepth 100000 in
theorem c271_X6_piece (l : Launch) (hfl : l.stackTraces = false) (D : va_G) (cA : Nat → ClassId) (g : gv_T) (h0 h1 h2 h3 h4 h5 h6 h7 h8 h9 h10 h11 h12 h13 h14 h15 : Nat) (p0 : Int32) (k0 : ¬ p0 < 0) : CX l yX6_piece cX6_piece 2 (some .int) (RM 7 1 6 116) D cA g [.ref h0, .int p0] [(h0, .inr (9, [.ref h1, .ref h2, .ref h3, .ref h4, .ref h5])), (h1, .inr (5, [.int 0, .int 0, .ref h6, .ref h7, .ref h8, .ref h9, .ref h10, .ref h11, .ref h12, .ref h13, .ref h14, .ref h15]))] "java/lang/IndexOutOfBoundsException" (fun q => [(h0, .inr (9, [.ref h1, .ref h2, .ref h3, .ref h4, .ref h5])), (h1, .inr (5, [.int 0, .int 0, .ref h6, .ref h7, .ref h8, .ref h9, .ref h10, .ref h11, .ref h12, .ref h13, .ref h14, .ref h15]))]) := by
  refine CX.of (by decide +kernel) (Nat.le_of_ble_eq_true rfl) ?_
  intro p e s m args below meth c A ls hx hb hr hml hown hG hlocks htab hA hS hP hK hD hGV hl
  have hown : s.vm.findClass RX6 = some m.cls := hown
  have hl : lv_has ls 2 [(0, .ref h0), (1, .int p0)] := hl
  have hSF : CF p m c cX6_piece 2 s args RX6 := ⟨hx, hb, hml, hown, hG⟩
  refine lv_aload_n hx hb dX6_piece_0 rfl (lv_at hl 0 rfl) ?_
  refine lv_iload_n hx hb dX6_piece_1 rfl (lv_at hl 1 rfl) ?_
  refine cx_V (wr := []) hSF hl.1 hP hD hS hA hK hGV (c128_X6_checkMember l hfl D cA g h0 h1 h2 h3 h4 h5 h6 h7 h8 h9 h10 h11 h12 h13 h14 h15 (p0) k0) goV_X6_118 pd_X6_checkMember ⟨(Nat.le_of_ble_eq_true rfl), (Nat.le_of_ble_eq_true rfl)⟩ ⟨(Nat.le_of_ble_eq_true rfl), (Nat.le_of_ble_eq_true rfl)⟩ (va_recv hK hP (ci := 9) (q0 := 0) rfl rfl) dX6_piece_2 rfl (Nat.le_of_ble_eq_true rfl) [0, 1] [] rfl (by decide) rfl (by decide) (by decide) (fun q => [(h0, .inr (9, [.ref h1, .ref h2, .ref h3, .ref h4, .ref h5])), (h1, .inr (5, [.int 0, .int 0, .ref h6, .ref h7, .ref h8, .ref h9, .ref h10, .ref h11, .ref h12, .ref h13, .ref h14, .ref h15]))]) (fun _ => rfl) (fun q1 H locs x9 ce9 hP hD hS h9 hv9 hcl9 => ?_)
  exact e_out (fun _ => 0) htab hlocks h9 hv9 hcl9 hP hD hS (Nat.le_of_ble_eq_true rfl) (Nat.le_of_ble_eq_true rfl)
set_option maxHeartbeats 4000000 in
set_option maxRecDepth 100000 in
theorem c272_L_piece (l : Launch) (hfl : l.stackTraces = false) (D : va_G) (cA : Nat → ClassId) (g : gv_T) (h0 h1 h2 h3 h4 h5 h6 h7 h8 h9 h10 h11 h12 h13 h14 h15 h16 : Nat) (p0 : Int32) (k0 : ¬ p0 < 0) : CW l yL_piece cL_piece 4 (some .int) [(0, 9, 12, 21)] (RM 8 1 6 137) D cA g [.ref h0, .int p0, .ref h1] [(h0, .inr (9, [.ref h2, .ref h3, .ref h4, .ref h5, .ref h6])), (h2, .inr (5, [.int 0, .int 0, .ref h7, .ref h8, .ref h9, .ref h10, .ref h11, .ref h12, .ref h13, .ref h14, .ref h15, .ref h16]))] (fun q => some (.int 1)) (fun q => [(h0, .inr (9, [.ref h2, .ref h3, .ref h4, .ref h5, .ref h6])), (h2, .inr (5, [.int 0, .int 0, .ref h7, .ref h8, .ref h9, .ref h10, .ref h11, .ref h12, .ref h13, .ref h14, .ref h15, .ref h16]))]) := by
  refine CW.of (by decide +kernel) (Nat.le_of_ble_eq_true rfl) ?_
  intro p e s m args below meth c A ls hx hb hr hml hown hG hlocks htab hA hS hP hK hD hGV hl
  have hown : s.vm.findClass RL = some m.cls := hown
  have hl : lv_has ls 4 [(0, .ref h0), (1, .int p0), (2, .ref h1)] := hl
  have hSF : CF p m c cL_piece 4 s args RL := ⟨hx, hb, hml, hown, hG⟩
  refine lv_aload_n hx hb dL_piece_0 rfl (lv_at hl 2 rfl) ?_
  refine lv_iconst (v := 0) hx hb dL_piece_1 (by decide) ?_
  refine lv_aload_n hx hb dL_piece_2 rfl (lv_at hl 0 rfl) ?_
  refine lv_iload_n hx hb dL_piece_3 rfl (lv_at hl 1 rfl) ?_
  refine cx_V (wr := []) hSF hl.1 hP hD hS hA hK hGV (c271_X6_piece l hfl D cA g h0 h2 h3 h4 h5 h6 h7 h8 h9 h10 h11 h12 h13 h14 h15 h16 (p0) k0) goV_L_77 pd_X6_piece ⟨(Nat.le_of_ble_eq_true rfl), (Nat.le_of_ble_eq_true rfl)⟩ ⟨(Nat.le_of_ble_eq_true rfl), (Nat.le_of_ble_eq_true rfl)⟩ (va_recv hK hP (ci := 9) (q0 := 0) rfl rfl) dL_piece_4 rfl (Nat.le_of_ble_eq_true rfl) [0, 1] [] rfl (by decide) rfl (by decide) (by decide) (fun q => [(h0, .inr (9, [.ref h2, .ref h3, .ref h4, .ref h5, .ref h6])), (h2, .inr (5, [.int 0, .int 0, .ref h7, .ref h8, .ref h9, .ref h10, .ref h11, .ref h12, .ref h13, .ref h14, .ref h15, .ref h16]))]) (fun _ => rfl) (fun q1 H locs x9 ce9 hP hD hS h9 hv9 hcl9 => ?_)
  refine vx_catch (own := RL) (name := "java/lang/IndexOutOfBoundsException") hown [] { startPc := 0, endPc := 9, handlerPc := 12, catchType := 21 } [] (htab.trans rfl) (fun z hz => nomatch hz) rfl (by decide) (hG _ gw763) (va_Nw.use rfl (hGV.2.2.2.2.1 _ gw797)) h9 hv9 hcl9 ?_
  refine W.eq (g2 := F0 m 12 ls [.ref x9]) rfl ?_
  refine lv_astore_n (lv' := [(3, .ref x9), (0, .ref h0), (1, .int p0), (2, .ref h1)]) hx hb dL_piece_12 rfl hl (by decide) rfl (fun ls hl => ?_)
  refine lv_iconst (v := 1) hx hb dL_piece_13 (by decide) ?_
  exact e_i (fun _ => 0) hx hb hr hlocks rfl rfl hP hD hS (Nat.le_of_ble_eq_true rfl) (Nat.le_of_ble_eq_true rfl) dL_piece_14
set_option maxHeartbeats 4000000 in
set_option maxRecDepth 100000 in
theorem c273_X12_piece (l : Launch) (hfl : l.stackTraces = false) (D : va_G) (cA : Nat → ClassId) (g : gv_T) (h0 h1 h2 h3 h4 h5 h6 h7 h8 h9 h10 h11 h12 h13 h14 h15 h16 h17 h18 : Nat) (p0 : Int32) (k0 : ¬ (lg_cmp p0.toInt64 0) < 0) (k1 : 0 < (lg_cmp p0.toInt64 (-1))) : CT l yX12_piece cX12_piece 2 (some .int) (RM 2 0 0 44) D cA g [.ref h0, .int p0] [(h0, .inr (15, [.ref h1, .ref h2, .ref h3, .ref h4, .ref h5, .ref h6, .ref h7, .ref h8, .ref h9, .ref h10, .ref h11, .ref h12, .ref h13, .ref h14, .ref h15, .ref h16, .ref h17, .ref h18, .long 0, .int 0, .int 2, .int 0, .int 0, .int 0, .int 0, .int 0, .int 0])), (h2, .inr (2, [.int 0, .ref g.1, .int 0]))] (fun q => some (.int 0)) (fun q => [(h0, .inr (15, [.ref h1, .ref h2, .ref h3, .ref h4, .ref h5, .ref h6, .ref h7, .ref h8, .ref h9, .ref h10, .ref h11, .ref h12, .ref h13, .ref h14, .ref h15, .ref h16, .ref h17, .ref h18, .long 0, .int 1, .int 2, .int 0, .int 0, .int 0, .int 0, .int 0, .int 0])), (h2, .inr (2, [.int 0, .ref g.1, .int 0]))]) := by
  refine CT.of (by decide +kernel) (Nat.le_of_ble_eq_true rfl) ?_
  intro p e s m args below meth c A ls hx hb hr hml hown hG hlocks hnm hA hS hP hK hD hGV hl
  have hown : s.vm.findClass RX12 = some m.cls := hown
  have hl : lv_has ls 2 [(0, .ref h0), (1, .int p0)] := hl
  have hSF : CF p m c cX12_piece 2 s args RX12 := ⟨hx, hb, hml, hown, hG⟩
  refine lv_aload_n hx hb dX12_piece_0 rfl (lv_at hl 0 rfl) ?_
  refine lv_iload_n hx hb dX12_piece_1 rfl (lv_at hl 1 rfl) ?_
  refine ct_V (wr := []) hSF hl.1 hP hD hS hA hK hGV (c131_X12_isMember l hfl D cA g h0 h1 h2 h3 h4 h5 h6 h7 h8 h9 h10 h11 h12 h13 h14 h15 h16 h17 h18 (p0) k0 k1) goV_X12_314 pd_X12_isMember ⟨(Nat.le_of_ble_eq_true rfl), (Nat.le_of_ble_eq_true rfl)⟩ ⟨(Nat.le_of_ble_eq_true rfl), (Nat.le_of_ble_eq_true rfl)⟩ (va_recv hK hP (ci := 15) (q0 := 0) rfl rfl) dX12_piece_2 rfl (Nat.le_of_ble_eq_true rfl) [0, 1] [] rfl (by decide) rfl (by decide) (by decide) (fun q => [(h0, .inr (15, [.ref h1, .ref h2, .ref h3, .ref h4, .ref h5, .ref h6, .ref h7, .ref h8, .ref h9, .ref h10, .ref h11, .ref h12, .ref h13, .ref h14, .ref h15, .ref h16, .ref h17, .ref h18, .long 0, .int 0, .int 2, .int 0, .int 0, .int 0, .int 0, .int 0, .int 0])), (h2, .inr (2, [.int 0, .ref g.1, .int 0]))]) (fun _ => rfl) (fun q1 H locs hP hD hS => ?_)
  refine W.eq (g2 := F0 m 5 ls [.int 0]) rfl ?_
  refine k_if_eq_t (tgt := 20) hx hb dX12_piece_5 (by decide) (by decide) ?_
  refine lv_aload_n hx hb dX12_piece_20 rfl (lv_at hl 0 rfl) ?_
  refine lv_iconst (v := 1) hx hb dX12_piece_21 (by decide) ?_
  refine ct_V (wr := [(h2, .inr (2, [.int 0, .ref g.1, .int 0]))]) hSF hl.1 hP hD hS hA hK hGV (c15_X12_fails l hfl D cA g h0 h1 h2 h3 h4 h5 h6 h7 h8 h9 h10 h11 h12 h13 h14 h15 h16 h17 h18) goV_X12_289 pd_X12_fails ⟨(Nat.le_of_ble_eq_true rfl), (Nat.le_of_ble_eq_true rfl)⟩ ⟨(Nat.le_of_ble_eq_true rfl), (Nat.le_of_ble_eq_true rfl)⟩ (va_recv hK hP (ci := 15) (q0 := 0) rfl rfl) dX12_piece_22 rfl (Nat.le_of_ble_eq_true rfl) [0] [1] rfl (by decide) rfl (by decide) (by decide) (fun q => [(h2, .inr (2, [.int 0, .ref g.1, .int 0])), (h0, .inr (15, [.ref h1, .ref h2, .ref h3, .ref h4, .ref h5, .ref h6, .ref h7, .ref h8, .ref h9, .ref h10, .ref h11, .ref h12, .ref h13, .ref h14, .ref h15, .ref h16, .ref h17, .ref h18, .long 0, .int 1, .int 2, .int 0, .int 0, .int 0, .int 0, .int 0, .int 0]))]) (fun _ => rfl) (fun q2 H locs hP hD hS => ?_)
  refine W.eq (g2 := F0 m 25 ls [.int 0]) rfl ?_
  exact e_i (fun _ => 0) hx hb hr hlocks rfl rfl (hP.sub [1, 0] rfl) (hD.sub [1, 0] (by decide) rfl) hS (Nat.le_of_ble_eq_true rfl) (Nat.le_of_ble_eq_true rfl) dX12_piece_25
set_option maxHeartbeats 4000000 in
set_option maxRecDepth 100000 in
theorem c274_X6_stickOf (l : Launch) (hfl : l.stackTraces = false) (D : va_G) (cA : Nat → ClassId) (g : gv_T) (h0 h1 h2 h3 h4 h5 : Nat) (p0 : Int32) (k0 : p0 < 0) : CX l yX6_stickOf cX6_stickOf 2 (some .int) (RM 7 1 6 116) D cA g [.ref h0, .int p0] [(h0, .inr (9, [.ref h1, .ref h2, .ref h3, .ref h4, .ref h5]))] "java/lang/IndexOutOfBoundsException" (fun q => [(h0, .inr (9, [.ref h1, .ref h2, .ref h3, .ref h4, .ref h5]))]) := by
  refine CX.of (by decide +kernel) (Nat.le_of_ble_eq_true rfl) ?_
  intro p e s m args below meth c A ls hx hb hr hml hown hG hlocks htab hA hS hP hK hD hGV hl
  have hown : s.vm.findClass RX6 = some m.cls := hown
  have hl : lv_has ls 2 [(0, .ref h0), (1, .int p0)] := hl
  have hSF : CF p m c cX6_stickOf 2 s args RX6 := ⟨hx, hb, hml, hown, hG⟩
  refine lv_aload_n hx hb dX6_stickOf_0 rfl (lv_at hl 0 rfl) ?_
  refine lv_iload_n hx hb dX6_stickOf_1 rfl (lv_at hl 1 rfl) ?_
  refine cx_V (wr := [(h0, .inr (9, [.ref h1, .ref h2, .ref h3, .ref h4, .ref h5]))]) hSF hl.1 hP hD hS hA hK hGV (c122_X6_checkMember l hfl D cA g h0 (p0) k0) goV_X6_118 pd_X6_checkMember ⟨(Nat.le_of_ble_eq_true rfl), (Nat.le_of_ble_eq_true rfl)⟩ ⟨(Nat.le_of_ble_eq_true rfl), (Nat.le_of_ble_eq_true rfl)⟩ (va_recv hK hP (ci := 9) (q0 := 0) rfl rfl) dX6_stickOf_2 rfl (Nat.le_of_ble_eq_true rfl) [] [0] rfl (by decide) rfl (by decide) (by decide) (fun q => [(h0, .inr (9, [.ref h1, .ref h2, .ref h3, .ref h4, .ref h5]))]) (fun _ => rfl) (fun q1 H locs x9 ce9 hP hD hS h9 hv9 hcl9 => ?_)
  exact e_out (fun _ => 0) htab hlocks h9 hv9 hcl9 hP hD hS (Nat.le_of_ble_eq_true rfl) (Nat.le_of_ble_eq_true rfl)
set_option maxHeartbeats 4000000 in
set_option maxRecDepth 100000 in
theorem c275_L_stickOf (l : Launch) (hfl : l.stackTraces = false) (D : va_G) (cA : Nat → ClassId) (g : gv_T) (h0 h1 h2 h3 h4 h5 h6 : Nat) (p0 : Int32) (k0 : p0 < 0) : CW l yL_stickOf cL_stickOf 4 (some .int) [(0, 9, 12, 21), (0, 9, 15, 46)] (RM 8 1 6 137) D cA g [.ref h0, .int p0, .ref h1] [(h0, .inr (9, [.ref h2, .ref h3, .ref h4, .ref h5, .ref h6]))] (fun q => some (.int 1)) (fun q => [(h0, .inr (9, [.ref h2, .ref h3, .ref h4, .ref h5, .ref h6]))]) := by
  refine CW.of (by decide +kernel) (Nat.le_of_ble_eq_true rfl) ?_
  intro p e s m args below meth c A ls hx hb hr hml hown hG hlocks htab hA hS hP hK hD hGV hl
  have hown : s.vm.findClass RL = some m.cls := hown
  have hl : lv_has ls 4 [(0, .ref h0), (1, .int p0), (2, .ref h1)] := hl
  have hSF : CF p m c cL_stickOf 4 s args RL := ⟨hx, hb, hml, hown, hG⟩
  refine lv_aload_n hx hb dL_stickOf_0 rfl (lv_at hl 2 rfl) ?_
  refine lv_iconst (v := 0) hx hb dL_stickOf_1 (by decide) ?_
  refine lv_aload_n hx hb dL_stickOf_2 rfl (lv_at hl 0 rfl) ?_
  refine lv_iload_n hx hb dL_stickOf_3 rfl (lv_at hl 1 rfl) ?_
  refine cx_V (wr := []) hSF hl.1 hP hD hS hA hK hGV (c274_X6_stickOf l hfl D cA g h0 h2 h3 h4 h5 h6 (p0) k0) goV_L_80 pd_X6_stickOf ⟨(Nat.le_of_ble_eq_true rfl), (Nat.le_of_ble_eq_true rfl)⟩ ⟨(Nat.le_of_ble_eq_true rfl), (Nat.le_of_ble_eq_true rfl)⟩ (va_recv hK hP (ci := 9) (q0 := 0) rfl rfl) dL_stickOf_4 rfl (Nat.le_of_ble_eq_true rfl) [0] [] rfl (by decide) rfl (by decide) (by decide) (fun q => [(h0, .inr (9, [.ref h2, .ref h3, .ref h4, .ref h5, .ref h6]))]) (fun _ => rfl) (fun q1 H locs x9 ce9 hP hD hS h9 hv9 hcl9 => ?_)
  refine vx_catch (own := RL) (name := "java/lang/IndexOutOfBoundsException") hown [] { startPc := 0, endPc := 9, handlerPc := 12, catchType := 21 } [{ startPc := 0, endPc := 9, handlerPc := 15, catchType := 46 }] (htab.trans rfl) (fun z hz => nomatch hz) rfl (by decide) (hG _ gw763) (va_Nw.use rfl (hGV.2.2.2.2.1 _ gw797)) h9 hv9 hcl9 ?_
  refine W.eq (g2 := F0 m 12 ls [.ref x9]) rfl ?_
  refine lv_astore_n (lv' := [(3, .ref x9), (0, .ref h0), (1, .int p0), (2, .ref h1)]) hx hb dL_stickOf_12 rfl hl (by decide) rfl (fun ls hl => ?_)
  refine lv_iconst (v := 1) hx hb dL_stickOf_13 (by decide) ?_
  exact e_i (fun _ => 0) hx hb hr hlocks rfl rfl hP hD hS (Nat.le_of_ble_eq_true rfl) (Nat.le_of_ble_eq_true rfl) dL_stickOf_14
set_option maxHeartbeats 4000000 in
set_option maxRecDepth 100000 in
theorem c276_X12_stickOf (l : Launch) (hfl : l.stackTraces = false) (D : va_G) (cA : Nat → ClassId) (g : gv_T) (h0 h1 h2 h3 h4 h5 h6 h7 h8 h9 h10 h11 h12 h13 h14 h15 h16 h17 h18 : Nat) (p0 : Int32) (k0 : (lg_cmp p0.toInt64 0) < 0) : CT l yX12_stickOf cX12_stickOf 2 (some .int) (RM 2 0 0 44) D cA g [.ref h0, .int p0] [(h0, .inr (15, [.ref h1, .ref h2, .ref h3, .ref h4, .ref h5, .ref h6, .ref h7, .ref h8, .ref h9, .ref h10, .ref h11, .ref h12, .ref h13, .ref h14, .ref h15, .ref h16, .ref h17, .ref h18, .long 0, .int 0, .int 2, .int 0, .int 0, .int 0, .int 0, .int 0, .int 0])), (h2, .inr (2, [.int 0, .ref g.1, .int 0]))] (fun q => some (.int 0)) (fun q => [(h0, .inr (15, [.ref h1, .ref h2, .ref h3, .ref h4, .ref h5, .ref h6, .ref h7, .ref h8, .ref h9, .ref h10, .ref h11, .ref h12, .ref h13, .ref h14, .ref h15, .ref h16, .ref h17, .ref h18, .long 0, .int 1, .int 2, .int 0, .int 0, .int 0, .int 0, .int 0, .int 0])), (h2, .inr (2, [.int 0, .ref g.1, .int 0]))]) := by
  refine CT.of (by decide +kernel) (Nat.le_of_ble_eq_true rfl) ?_
  intro p e s m args below meth c A ls hx hb hr hml hown hG hlocks hnm hA hS hP hK hD hGV hl
  have hown : s.vm.findClass RX12 = some m.cls := hown
  have hl : lv_has ls 2 [(0, .ref h0), (1, .int p0)] := hl
  have hSF : CF p m c cX12_stickOf 2 s args RX12 := ⟨hx, hb, hml, hown, hG⟩
  refine lv_aload_n hx hb dX12_stickOf_0 rfl (lv_at hl 0 rfl) ?_
  refine lv_iload_n hx hb dX12_stickOf_1 rfl (lv_at hl 1 rfl) ?_
  refine ct_V (wr := []) hSF hl.1 hP hD hS hA hK hGV (c125_X12_isMember l hfl D cA g h0 h1 h2 h3 h4 h5 h6 h7 h8 h9 h10 h11 h12 h13 h14 h15 h16 h17 h18 (p0) k0) goV_X12_314 pd_X12_isMember ⟨(Nat.le_of_ble_eq_true rfl), (Nat.le_of_ble_eq_true rfl)⟩ ⟨(Nat.le_of_ble_eq_true rfl), (Nat.le_of_ble_eq_true rfl)⟩ (va_recv hK hP (ci := 15) (q0 := 0) rfl rfl) dX12_stickOf_2 rfl (Nat.le_of_ble_eq_true rfl) [0, 1] [] rfl (by decide) rfl (by decide) (by decide) (fun q => [(h0, .inr (15, [.ref h1, .ref h2, .ref h3, .ref h4, .ref h5, .ref h6, .ref h7, .ref h8, .ref h9, .ref h10, .ref h11, .ref h12, .ref h13, .ref h14, .ref h15, .ref h16, .ref h17, .ref h18, .long 0, .int 0, .int 2, .int 0, .int 0, .int 0, .int 0, .int 0, .int 0])), (h2, .inr (2, [.int 0, .ref g.1, .int 0]))]) (fun _ => rfl) (fun q1 H locs hP hD hS => ?_)
  refine W.eq (g2 := F0 m 5 ls [.int 0]) rfl ?_
  refine k_if_ne_f (tgt := 14) hx hb dX12_stickOf_5 (by decide) (by decide) ?_
  refine lv_aload_n hx hb dX12_stickOf_8 rfl (lv_at hl 0 rfl) ?_
  refine lv_iconst (v := 1) hx hb dX12_stickOf_9 (by decide) ?_
  refine ct_V (wr := [(h2, .inr (2, [.int 0, .ref g.1, .int 0]))]) hSF hl.1 hP hD hS hA hK hGV (c15_X12_fails l hfl D cA g h0 h1 h2 h3 h4 h5 h6 h7 h8 h9 h10 h11 h12 h13 h14 h15 h16 h17 h18) goV_X12_289 pd_X12_fails ⟨(Nat.le_of_ble_eq_true rfl), (Nat.le_of_ble_eq_true rfl)⟩ ⟨(Nat.le_of_ble_eq_true rfl), (Nat.le_of_ble_eq_true rfl)⟩ (va_recv hK hP (ci := 15) (q0 := 0) rfl rfl) dX12_stickOf_10 rfl (Nat.le_of_ble_eq_true rfl) [0] [1] rfl (by decide) rfl (by decide) (by decide) (fun q => [(h2, .inr (2, [.int 0, .ref g.1, .int 0])), (h0, .inr (15, [.ref h1, .ref h2, .ref h3, .ref h4, .ref h5, .ref h6, .ref h7, .ref h8, .ref h9, .ref h10, .ref h11, .ref h12, .ref h13, .ref h14, .ref h15, .ref h16, .ref h17, .ref h18, .long 0, .int 1, .int 2, .int 0, .int 0, .int 0, .int 0, .int 0, .int 0]))]) (fun _ => rfl) (fun q2 H locs hP hD hS => ?_)
  refine W.eq (g2 := F0 m 13 ls [.int 0]) rfl ?_
  exact e_i (fun _ => 0) hx hb hr hlocks rfl rfl (hP.sub [1, 0] rfl) (hD.sub [1, 0] (by decide) rfl) hS (Nat.le_of_ble_eq_true rfl) (Nat.le_of_ble_eq_true rfl) dX12_stickOf_13
set_option maxHeartbeats 4000000 in
set_option maxRecDepth 100000 in
theorem c277_X6_stickOf (l : Launch) (hfl : l.stackTraces = false) (D : va_G) (cA : Nat → ClassId) (g : gv_T) (h0 h1 h2 h3 h4 h5 h6 h7 h8 h9 h10 h11 h12 h13 h14 h15 : Nat) (p0 : Int32) (k0 : ¬ p0 < 0) : CX l yX6_stickOf cX6_stickOf 2 (some .int) (RM 7 1 6 116) D cA g [.ref h0, .int p0] [(h0, .inr (9, [.ref h1, .ref h2, .ref h3, .ref h4, .ref h5])), (h1, .inr (5, [.int 0, .int 0, .ref h6, .ref h7, .ref h8, .ref h9, .ref h10, .ref h11, .ref h12, .ref h13, .ref h14, .ref h15]))] "java/lang/IndexOutOfBoundsException" (fun q => [(h0, .inr (9, [.ref h1, .ref h2, .ref h3, .ref h4, .ref h5])), (h1, .inr (5, [.int 0, .int 0, .ref h6, .ref h7, .ref h8, .ref h9, .ref h10, .ref h11, .ref h12, .ref h13, .ref h14, .ref h15]))]) := by
  refine CX.of (by decide +kernel) (Nat.le_of_ble_eq_true rfl) ?_
  intro p e s m args below meth c A ls hx hb hr hml hown hG hlocks htab hA hS hP hK hD hGV hl
  have hown : s.vm.findClass RX6 = some m.cls := hown
  have hl : lv_has ls 2 [(0, .ref h0), (1, .int p0)] := hl
  have hSF : CF p m c cX6_stickOf 2 s args RX6 := ⟨hx, hb, hml, hown, hG⟩
  refine lv_aload_n hx hb dX6_stickOf_0 rfl (lv_at hl 0 rfl) ?_
  refine lv_iload_n hx hb dX6_stickOf_1 rfl (lv_at hl 1 rfl) ?_
  refine cx_V (wr := []) hSF hl.1 hP hD hS hA hK hGV (c128_X6_checkMember l hfl D cA g h0 h1 h2 h3 h4 h5 h6 h7 h8 h9 h10 h11 h12 h13 h14 h15 (p0) k0) goV_X6_118 pd_X6_checkMember ⟨(Nat.le_of_ble_eq_true rfl), (Nat.le_of_ble_eq_true rfl)⟩ ⟨(Nat.le_of_ble_eq_true rfl), (Nat.le_of_ble_eq_true rfl)⟩ (va_recv hK hP (ci := 9) (q0 := 0) rfl rfl) dX6_stickOf_2 rfl (Nat.le_of_ble_eq_true rfl) [0, 1] [] rfl (by decide) rfl (by decide) (by decide) (fun q => [(h0, .inr (9, [.ref h1, .ref h2, .ref h3, .ref h4, .ref h5])), (h1, .inr (5, [.int 0, .int 0, .ref h6, .ref h7, .ref h8, .ref h9, .ref h10, .ref h11, .ref h12, .ref h13, .ref h14, .ref h15]))]) (fun _ => rfl) (fun q1 H locs x9 ce9 hP hD hS h9 hv9 hcl9 => ?_)
  exact e_out (fun _ => 0) htab hlocks h9 hv9 hcl9 hP hD hS (Nat.le_of_ble_eq_true rfl) (Nat.le_of_ble_eq_true rfl)
set_option maxHeartbeats 4000000 in
set_option maxRecDepth 100000 in
theorem c278_L_stickOf (l : Launch) (hfl : l.stackTraces = false) (D : va_G) (cA : Nat → ClassId) (g : gv_T) (h0 h1 h2 h3 h4 h5 h6 h7 h8 h9 h10 h11 h12 h13 h14 h15 h16 : Nat) (p0 : Int32) (k0 : ¬ p0 < 0) : CW l yL_stickOf cL_stickOf 4 (some .int) [(0, 9, 12, 21), (0, 9, 15, 46)] (RM 8 1 6 137) D cA g [.ref h0, .int p0, .ref h1] [(h0, .inr (9, [.ref h2, .ref h3, .ref h4, .ref h5, .ref h6])), (h2, .inr (5, [.int 0, .int 0, .ref h7, .ref h8, .ref h9, .ref h10, .ref h11, .ref h12, .ref h13, .ref h14, .ref h15, .ref h16]))] (fun q => some (.int 1)) (fun q => [(h0, .inr (9, [.ref h2, .ref h3, .ref h4, .ref h5, .ref h6])), (h2, .inr (5, [.int 0, .int 0, .ref h7, .ref h8, .ref h9, .ref h10, .ref h11, .ref h12, .ref h13, .ref h14, .ref h15, .ref h16]))]) := by
  refine CW.of (by decide +kernel) (Nat.le_of_ble_eq_true rfl) ?_
  intro p e s m args below meth c A ls hx hb hr hml hown hG hlocks htab hA hS hP hK hD hGV hl
  have hown : s.vm.findClass RL = some m.cls := hown
  have hl : lv_has ls 4 [(0, .ref h0), (1, .int p0), (2, .ref h1)] := hl
  have hSF : CF p m c cL_stickOf 4 s args RL := ⟨hx, hb, hml, hown, hG⟩
  refine lv_aload_n hx hb dL_stickOf_0 rfl (lv_at hl 2 rfl) ?_
  refine lv_iconst (v := 0) hx hb dL_stickOf_1 (by decide) ?_
  refine lv_aload_n hx hb dL_stickOf_2 rfl (lv_at hl 0 rfl) ?_
  refine lv_iload_n hx hb dL_stickOf_3 rfl (lv_at hl 1 rfl) ?_
  refine cx_V (wr := []) hSF hl.1 hP hD hS hA hK hGV (c277_X6_stickOf l hfl D cA g h0 h2 h3 h4 h5 h6 h7 h8 h9 h10 h11 h12 h13 h14 h15 h16 (p0) k0) goV_L_80 pd_X6_stickOf ⟨(Nat.le_of_ble_eq_true rfl), (Nat.le_of_ble_eq_true rfl)⟩ ⟨(Nat.le_of_ble_eq_true rfl), (Nat.le_of_ble_eq_true rfl)⟩ (va_recv hK hP (ci := 9) (q0 := 0) rfl rfl) dL_stickOf_4 rfl (Nat.le_of_ble_eq_true rfl) [0, 1] [] rfl (by decide) rfl (by decide) (by decide) (fun q => [(h0, .inr (9, [.ref h2, .ref h3, .ref h4, .ref h5, .ref h6])), (h2, .inr (5, [.int 0, .int 0, .ref h7, .ref h8, .ref h9, .ref h10, .ref h11, .ref h12, .ref h13, .ref h14, .ref h15, .ref h16]))]) (fun _ => rfl) (fun q1 H locs x9 ce9 hP hD hS h9 hv9 hcl9 => ?_)
  refine vx_catch (own := RL) (name := "java/lang/IndexOutOfBoundsException") hown [] { startPc := 0, endPc := 9, handlerPc := 12, catchType := 21 } [{ startPc := 0, endPc := 9, handlerPc := 15, catchType := 46 }] (htab.trans rfl) (fun z hz => nomatch hz) rfl (by decide) (hG _ gw763) (va_Nw.use rfl (hGV.2.2.2.2.1 _ gw797)) h9 hv9 hcl9 ?_
  refine W.eq (g2 := F0 m 12 ls [.ref x9]) rfl ?_
  refine lv_astore_n (lv' := [(3, .ref x9), (0, .ref h0), (1, .int p0), (2, .ref h1)]) hx hb dL_stickOf_12 rfl hl (by decide) rfl (fun ls hl => ?_)
  refine lv_iconst (v := 1) hx hb dL_stickOf_13 (by decide) ?_
  exact e_i (fun _ => 0) hx hb hr hlocks rfl rfl hP hD hS (Nat.le_of_ble_eq_true rfl) (Nat.le_of_ble_eq_true rfl) dL_stickOf_14
set_option maxHeartbeats 4000000 in
set_option maxRecDepth 100000 in
theorem c279_X12_stickOf (l : Launch) (hfl : l.stackTraces = false) (D : va_G) (cA : Nat → ClassId) (g : gv_T) (h0 h1 h2 h3 h4 h5 h6 h7 h8 h9 h10 h11 h12 h13 h14 h15 h16 h17 h18 : Nat) (p0 : Int32) (k0 : ¬ (lg_cmp p0.toInt64 0) < 0) (k1 : 0 < (lg_cmp p0.toInt64 (-1))) : CT l yX12_stickOf cX12_stickOf 2 (some .int) (RM 2 0 0 44) D cA g [.ref h0, .int p0] [(h0, .inr (15, [.ref h1, .ref h2, .ref h3, .ref h4, .ref h5, .ref h6, .ref h7, .ref h8, .ref h9, .ref h10, .ref h11, .ref h12, .ref h13, .ref h14, .ref h15, .ref h16, .ref h17, .ref h18, .long 0, .int 0, .int 2, .int 0, .int 0, .int 0, .int 0, .int 0, .int 0])), (h2, .inr (2, [.int 0, .ref g.1, .int 0]))] (fun q => some (.int 0)) (fun q => [(h0, .inr (15, [.ref h1, .ref h2, .ref h3, .ref h4, .ref h5, .ref h6, .ref h7, .ref h8, .ref h9, .ref h10, .ref h11, .ref h12, .ref h13, .ref h14, .ref h15, .ref h16, .ref h17, .ref h18, .long 0, .int 1, .int 2, .int 0, .int 0, .int 0, .int 0, .int 0, .int 0])), (h2, .inr (2, [.int 0, .ref g.1, .int 0]))]) := by
  refine CT.of (by decide +kernel) (Nat.le_of_ble_eq_true rfl) ?_
  intro p e s m args below meth c A ls hx hb hr hml hown hG hlocks hnm hA hS hP hK hD hGV hl
  have hown : s.vm.findClass RX12 = some m.cls := hown
  have hl : lv_has ls 2 [(0, .ref h0), (1, .int p0)] := hl
  have hSF : CF p m c cX12_stickOf 2 s args RX12 := ⟨hx, hb, hml, hown, hG⟩
  refine lv_aload_n hx hb dX12_stickOf_0 rfl (lv_at hl 0 rfl) ?_
  refine lv_iload_n hx hb dX12_stickOf_1 rfl (lv_at hl 1 rfl) ?_
  refine ct_V (wr := []) hSF hl.1 hP hD hS hA hK hGV (c131_X12_isMember l hfl D cA g h0 h1 h2 h3 h4 h5 h6 h7 h8 h9 h10 h11 h12 h13 h14 h15 h16 h17 h18 (p0) k0 k1) goV_X12_314 pd_X12_isMember ⟨(Nat.le_of_ble_eq_true rfl), (Nat.le_of_ble_eq_true rfl)⟩ ⟨(Nat.le_of_ble_eq_true rfl), (Nat.le_of_ble_eq_true rfl)⟩ (va_recv hK hP (ci := 15) (q0 := 0) rfl rfl) dX12_stickOf_2 rfl (Nat.le_of_ble_eq_true rfl) [0, 1] [] rfl (by decide) rfl (by decide) (by decide) (fun q => [(h0, .inr (15, [.ref h1, .ref h2, .ref h3, .ref h4, .ref h5, .ref h6, .ref h7, .ref h8, .ref h9, .ref h10, .ref h11, .ref h12, .ref h13, .ref h14, .ref h15, .ref h16, .ref h17, .ref h18, .long 0, .int 0, .int 2, .int 0, .int 0, .int 0, .int 0, .int 0, .int 0])), (h2, .inr (2, [.int 0, .ref g.1, .int 0]))]) (fun _ => rfl) (fun q1 H locs hP hD hS => ?_)
  refine W.eq (g2 := F0 m 5 ls [.int 0]) rfl ?_
  refine k_if_ne_f (tgt := 14) hx hb dX12_stickOf_5 (by decide) (by decide) ?_
  refine lv_aload_n hx hb dX12_stickOf_8 rfl (lv_at hl 0 rfl) ?_
  refine lv_iconst (v := 1) hx hb dX12_stickOf_9 (by decide) ?_
  refine ct_V (wr := [(h2, .inr (2, [.int 0, .ref g.1, .int 0]))]) hSF hl.1 hP hD hS hA hK hGV (c15_X12_fails l hfl D cA g h0 h1 h2 h3 h4 h5 h6 h7 h8 h9 h10 h11 h12 h13 h14 h15 h16 h17 h18) goV_X12_289 pd_X12_fails ⟨(Nat.le_of_ble_eq_true rfl), (Nat.le_of_ble_eq_true rfl)⟩ ⟨(Nat.le_of_ble_eq_true rfl), (Nat.le_of_ble_eq_true rfl)⟩ (va_recv hK hP (ci := 15) (q0 := 0) rfl rfl) dX12_stickOf_10 rfl (Nat.le_of_ble_eq_true rfl) [0] [1] rfl (by decide) rfl (by decide) (by decide) (fun q => [(h2, .inr (2, [.int 0, .ref g.1, .int 0])), (h0, .inr (15, [.ref h1, .ref h2, .ref h3, .ref h4, .ref h5, .ref h6, .ref h7, .ref h8, .ref h9, .ref h10, .ref h11, .ref h12, .ref h13, .ref h14, .ref h15, .ref h16, .ref h17, .ref h18, .long 0, .int 1, .int 2, .int 0, .int 0, .int 0, .int 0, .int 0, .int 0]))]) (fun _ => rfl) (fun q2 H locs hP hD hS => ?_)
  refine W.eq (g2 := F0 m 13 ls [.int 0]) rfl ?_
  exact e_i (fun _ => 0) hx hb hr hlocks rfl rfl (hP.sub [1, 0] rfl) (hD.sub [1, 0] (by decide) rfl) hS (Nat.le_of_ble_eq_true rfl) (Nat.le_of_ble_eq_true rfl) dX12_stickOf_13
set_option maxHeartbeats 4000000 in
set_option maxRecDepth 100000 in
theorem c280_X0_measure (l : Launch) (hfl : l.stackTraces = false) (D : va_G) (cA : Nat → ClassId) (g : gv_T) (h0 h1 h2 h3 h4 h5 h6 h7 h8 h9 h10 h11 h12 : Nat) : CT l yX0_measure cX0_measure 8 none (RM 0 0 0 0) D cA g [.ref h0, .ref h1, .ref h2] [(h1, .inr (5, [.int 0, .int 0, .ref h3, .ref h4, .ref h5, .ref h6, .ref h7, .ref h8, .ref h9, .ref h10, .ref h11, .ref h12]))] (fun q => none) (fun q => [(h1, .inr (5, [.int 0, .int 0, .ref h3, .ref h4, .ref h5, .ref h6, .ref h7, .ref h8, .ref h9, .ref h10, .ref h11, .ref h12]))]) := by
  refine CT.of (by decide +kernel) (Nat.le_of_ble_eq_true rfl) ?_
  intro p e s m args below meth c A ls hx hb hr hml hown hG hlocks hnm hA hS hP hK hD hGV hl
  have hown : s.vm.findClass RX0 = some m.cls := hown
  have hl : lv_has ls 8 [(0, .ref h0), (1, .ref h1), (2, .ref h2)] := hl
  have hSF : CF p m c cX0_measure 8 s args RX0 := ⟨hx, hb, hml, hown, hG⟩
  refine lv_ldc hx hb hown (hG _ gw1064) dX0_measure_0 ?_
  refine lv_istore_n (lv' := [(3, .int 390625), (0, .ref h0), (1, .ref h1), (2, .ref h2)]) hx hb dX0_measure_2 rfl hl (by decide) rfl (fun ls hl => ?_)
  refine lv_iconst (v := 0) hx hb dX0_measure_3 (by decide) ?_
  refine lv_istore (lv' := [(4, .int 0), (3, .int 390625), (0, .ref h0), (1, .ref h1), (2, .ref h2)]) hx hb dX0_measure_4 hl (by decide) rfl (fun ls hl => ?_)
  refine lv_iload hx hb dX0_measure_6 (lv_at hl 0 rfl) ?_
  refine lv_aload_n hx hb dX0_measure_8 rfl (lv_at hl 3 rfl) ?_
  refine k_get (ci := 5) (C := RX2) (T := TX2) (N := 12) (v := .int 0) hx hb hG inX2 hown hK hP 0 rfl rfl 1 (by decide) gw132 rfl dX0_measure_9 ?_
  refine k_icmp_ge_t (tgt := 101) hx hb dX0_measure_12 (by decide) (by decide) ?_
  exact e_v (fun _ => 0) hx hb hr hlocks rfl hP hD hS (Nat.le_of_ble_eq_true rfl) (Nat.le_of_ble_eq_true rfl) dX0_measure_101
set_option maxHeartbeats 4000000 in
set_option maxRecDepth 100000 in
theorem c281_X0_choose (l : Launch) (hfl : l.stackTraces = false) (D : va_G) (cA : Nat → ClassId) (g : gv_T) (h0 h1 h2 h3 h4 h5 h6 h7 : Nat) : CT l yX0_choose cX0_choose 5 none (RM 0 0 0 0) D cA g [.ref h0, .long 0] [(h0, .inr (3, [.int 0, .int 0, .int 0, .int 0, .ref h1, .ref h2, .ref h3, .ref h4, .ref h5, .ref h6, .ref h7])), (h1, .inl (cA 0, 9, .inl (fun _ => 0)))] (fun q => none) (fun q => [(h0, .inr (3, [.int 0, .int 0, .int 1, .int 0, .ref h1, .ref h2, .ref h3, .ref h4, .ref h5, .ref h6, .ref h7])), (h1, .inl (cA 0, 9, .inl (upd (upd (upd (upd (upd (upd (upd (upd (upd (fun _ => 0) 8 0) 7 0) 6 0) 5 0) 4 0) 3 0) 2 0) 1 0) 0 0)))]) := by
  refine CT.of (by decide +kernel) (Nat.le_of_ble_eq_true rfl) ?_
  intro p e s m args below meth c A ls hx hb hr hml hown hG hlocks hnm hA hS hP hK hD hGV hl
  have hown : s.vm.findClass RX0 = some m.cls := hown
  have hl : lv_has ls 5 [(0, .ref h0), (1, .long 0)] := hl
  have hSF : CF p m c cX0_choose 5 s args RX0 := ⟨hx, hb, hml, hown, hG⟩
  refine lv_aload_n hx hb dX0_choose_0 rfl (lv_at hl 0 rfl) ?_
  refine lv_lload_n hx hb dX0_choose_1 rfl (lv_at hl 1 rfl) ?_
  refine lv_ldc2 hx hb hown (hG _ gw1066) dX0_choose_2 ?_
  refine k_lcmp (v := (-1)) hx hb dX0_choose_5 (by decide +kernel) ?_
  refine k_if_eq_f (tgt := 13) hx hb dX0_choose_6 (by decide) (by decide) ?_
  refine lv_iconst (v := 1) hx hb dX0_choose_9 (by decide) ?_
  refine lv_goto (tgt := 14) hx hb dX0_choose_10 (by decide) ?_
  refine k_put (ci := 3) (C := RX0) (T := TX0) (N := 11) (v := .int 1) (ws1 := [(h0, .inr (3, [.int 0, .int 0, .int 1, .int 0, .ref h1, .ref h2, .ref h3, .ref h4, .ref h5, .ref h6, .ref h7])), (h1, .inl (cA 0, 9, .inl (fun _ => 0)))]) hx hb hG inX0 tyX0 tyX0_ok nmX0 hown hK hP hD hS 0 rfl rfl 2 (by decide) gw289 rfl ⟨rfl, rfl⟩ rfl (Nat.le_of_ble_eq_true rfl) dX0_choose_14 (fun H locs hP hD hS => ?_)
  refine lv_aload_n hx hb dX0_choose_17 rfl (lv_at hl 0 rfl) ?_
  refine k_get (ci := 3) (C := RX0) (T := TX0) (N := 11) (v := .int 1) hx hb hG inX0 hown hK hP 0 rfl rfl 2 (by decide) gw289 rfl dX0_choose_18 ?_
  refine k_if_ne_t (tgt := 25) hx hb dX0_choose_21 (by decide) (by decide) ?_
  refine lv_aload_n hx hb dX0_choose_25 rfl (lv_at hl 0 rfl) ?_
  refine lv_lload_n hx hb dX0_choose_26 rfl (lv_at hl 1 rfl) ?_
  refine lv_ldc2 hx hb hown (hG _ gw1075) dX0_choose_27 ?_
  refine k_ldiv (v := 0) hx hb dX0_choose_30 (by decide +kernel) (by decide +kernel) ?_
  refine lv_l2i (v := 0) hx hb dX0_choose_31 (by decide +kernel) ?_
  refine k_put (ci := 3) (C := RX0) (T := TX0) (N := 11) (v := .int 0) (ws1 := [(h0, .inr (3, [.int 0, .int 0, .int 1, .int 0, .ref h1, .ref h2, .ref h3, .ref h4, .ref h5, .ref h6, .ref h7])), (h1, .inl (cA 0, 9, .inl (fun _ => 0)))]) hx hb hG inX0 tyX0 tyX0_ok nmX0 hown hK hP hD hS 0 rfl rfl 3 (by decide) gw291 rfl ⟨rfl, rfl⟩ rfl (Nat.le_of_ble_eq_true rfl) dX0_choose_32 (fun H locs hP hD hS => ?_)
  refine lv_lload_n hx hb dX0_choose_35 rfl (lv_at hl 1 rfl) ?_
  refine lv_ldc2 hx hb hown (hG _ gw1075) dX0_choose_36 ?_
  refine k_lrem (v := 0) hx hb dX0_choose_39 (by decide +kernel) (by decide +kernel) ?_
  refine lv_l2i (v := 0) hx hb dX0_choose_40 (by decide +kernel) ?_
  refine lv_istore_n (lv' := [(3, .int 0), (0, .ref h0), (1, .long 0)]) hx hb dX0_choose_41 rfl hl (by decide) rfl (fun ls hl => ?_)
  refine lv_bipush (v := 8) hx hb dX0_choose_42 (by decide) ?_
  refine lv_istore (lv' := [(4, .int 8), (3, .int 0), (0, .ref h0), (1, .long 0)]) hx hb dX0_choose_44 hl (by decide) rfl (fun ls hl => ?_)
  refine lv_iload hx hb dX0_choose_46 (lv_at hl 0 rfl) ?_
  refine k_if_lt_f (tgt := 71) hx hb dX0_choose_48 (by decide) (by decide) ?_
  refine lv_aload_n hx hb dX0_choose_51 rfl (lv_at hl 2 rfl) ?_
  refine k_get (ci := 3) (C := RX0) (T := TX0) (N := 11) (v := .ref h1) hx hb hG inX0 hown hK hP 0 rfl rfl 4 (by decide) gw293 rfl dX0_choose_52 ?_
  refine lv_iload hx hb dX0_choose_55 (lv_at hl 0 rfl) ?_
  refine lv_iload_n hx hb dX0_choose_57 rfl (lv_at hl 1 rfl) ?_
  refine lv_iconst (v := 5) hx hb dX0_choose_58 (by decide) ?_
  refine k_irem (v := 0) hx hb dX0_choose_59 (by decide +kernel) (by decide +kernel) ?_
  refine k_iast (ws1 := [(h0, .inr (3, [.int 0, .int 0, .int 1, .int 0, .ref h1, .ref h2, .ref h3, .ref h4, .ref h5, .ref h6, .ref h7])), (h1, .inl (cA 0, 9, .inl (upd (fun _ => 0) 8 0)))]) hx hb hK hP hD hS 1 rfl rfl (by unfold vp_in; decide) dX0_choose_60 (fun H locs hP hD hS => ?_)
  refine lv_iload_n hx hb dX0_choose_61 rfl (lv_at hl 1 rfl) ?_
  refine lv_iconst (v := 5) hx hb dX0_choose_62 (by decide) ?_
  refine k_idiv (v := 0) hx hb dX0_choose_63 (by decide +kernel) (by decide +kernel) ?_
  refine lv_istore_n (lv' := [(3, .int 0), (4, .int 8), (0, .ref h0), (1, .long 0)]) hx hb dX0_choose_64 rfl hl (by decide) rfl (fun ls hl => ?_)
  refine lv_iinc (v := 7) (lv' := [(4, .int 7), (3, .int 0), (0, .ref h0), (1, .long 0)]) hx hb dX0_choose_65 hl (k := 1) rfl (by decide) (by decide) rfl (fun ls hl => ?_)
  refine lv_goto (tgt := 46) hx hb dX0_choose_68 (by decide) ?_
  refine lv_iload hx hb dX0_choose_46 (lv_at hl 0 rfl) ?_
  refine k_if_lt_f (tgt := 71) hx hb dX0_choose_48 (by decide) (by decide) ?_
  refine lv_aload_n hx hb dX0_choose_51 rfl (lv_at hl 2 rfl) ?_
  refine k_get (ci := 3) (C := RX0) (T := TX0) (N := 11) (v := .ref h1) hx hb hG inX0 hown hK hP 0 rfl rfl 4 (by decide) gw293 rfl dX0_choose_52 ?_
  refine lv_iload hx hb dX0_choose_55 (lv_at hl 0 rfl) ?_
  refine lv_iload_n hx hb dX0_choose_57 rfl (lv_at hl 1 rfl) ?_
  refine lv_iconst (v := 5) hx hb dX0_choose_58 (by decide) ?_
  refine k_irem (v := 0) hx hb dX0_choose_59 (by decide +kernel) (by decide +kernel) ?_
  refine k_iast (ws1 := [(h0, .inr (3, [.int 0, .int 0, .int 1, .int 0, .ref h1, .ref h2, .ref h3, .ref h4, .ref h5, .ref h6, .ref h7])), (h1, .inl (cA 0, 9, .inl (upd (upd (fun _ => 0) 8 0) 7 0)))]) hx hb hK hP hD hS 1 rfl rfl (by unfold vp_in; decide) dX0_choose_60 (fun H locs hP hD hS => ?_)
  refine lv_iload_n hx hb dX0_choose_61 rfl (lv_at hl 1 rfl) ?_
  refine lv_iconst (v := 5) hx hb dX0_choose_62 (by decide) ?_
  refine k_idiv (v := 0) hx hb dX0_choose_63 (by decide +kernel) (by decide +kernel) ?_
  refine lv_istore_n (lv' := [(3, .int 0), (4, .int 7), (0, .ref h0), (1, .long 0)]) hx hb dX0_choose_64 rfl hl (by decide) rfl (fun ls hl => ?_)
  refine lv_iinc (v := 6) (lv' := [(4, .int 6), (3, .int 0), (0, .ref h0), (1, .long 0)]) hx hb dX0_choose_65 hl (k := 1) rfl (by decide) (by decide) rfl (fun ls hl => ?_)
  refine lv_goto (tgt := 46) hx hb dX0_choose_68 (by decide) ?_
  refine lv_iload hx hb dX0_choose_46 (lv_at hl 0 rfl) ?_
  refine k_if_lt_f (tgt := 71) hx hb dX0_choose_48 (by decide) (by decide) ?_
  refine lv_aload_n hx hb dX0_choose_51 rfl (lv_at hl 2 rfl) ?_
  refine k_get (ci := 3) (C := RX0) (T := TX0) (N := 11) (v := .ref h1) hx hb hG inX0 hown hK hP 0 rfl rfl 4 (by decide) gw293 rfl dX0_choose_52 ?_
  refine lv_iload hx hb dX0_choose_55 (lv_at hl 0 rfl) ?_
  refine lv_iload_n hx hb dX0_choose_57 rfl (lv_at hl 1 rfl) ?_
  refine lv_iconst (v := 5) hx hb dX0_choose_58 (by decide) ?_
  refine k_irem (v := 0) hx hb dX0_choose_59 (by decide +kernel) (by decide +kernel) ?_
  refine k_iast (ws1 := [(h0, .inr (3, [.int 0, .int 0, .int 1, .int 0, .ref h1, .ref h2, .ref h3, .ref h4, .ref h5, .ref h6, .ref h7])), (h1, .inl (cA 0, 9, .inl (upd (upd (upd (fun _ => 0) 8 0) 7 0) 6 0)))]) hx hb hK hP hD hS 1 rfl rfl (by unfold vp_in; decide) dX0_choose_60 (fun H locs hP hD hS => ?_)
  refine lv_iload_n hx hb dX0_choose_61 rfl (lv_at hl 1 rfl) ?_
  refine lv_iconst (v := 5) hx hb dX0_choose_62 (by decide) ?_
  refine k_idiv (v := 0) hx hb dX0_choose_63 (by decide +kernel) (by decide +kernel) ?_
  refine lv_istore_n (lv' := [(3, .int 0), (4, .int 6), (0, .ref h0), (1, .long 0)]) hx hb dX0_choose_64 rfl hl (by decide) rfl (fun ls hl => ?_)
  refine lv_iinc (v := 5) (lv' := [(4, .int 5), (3, .int 0), (0, .ref h0), (1, .long 0)]) hx hb dX0_choose_65 hl (k := 1) rfl (by decide) (by decide) rfl (fun ls hl => ?_)
  refine lv_goto (tgt := 46) hx hb dX0_choose_68 (by decide) ?_
  refine lv_iload hx hb dX0_choose_46 (lv_at hl 0 rfl) ?_
  refine k_if_lt_f (tgt := 71) hx hb dX0_choose_48 (by decide) (by decide) ?_
  refine lv_aload_n hx hb dX0_choose_51 rfl (lv_at hl 2 rfl) ?_
  refine k_get (ci := 3) (C := RX0) (T := TX0) (N := 11) (v := .ref h1) hx hb hG inX0 hown hK hP 0 rfl rfl 4 (by decide) gw293 rfl dX0_choose_52 ?_
  refine lv_iload hx hb dX0_choose_55 (lv_at hl 0 rfl) ?_
  refine lv_iload_n hx hb dX0_choose_57 rfl (lv_at hl 1 rfl) ?_
  refine lv_iconst (v := 5) hx hb dX0_choose_58 (by decide) ?_
  refine k_irem (v := 0) hx hb dX0_choose_59 (by decide +kernel) (by decide +kernel) ?_
  refine k_iast (ws1 := [(h0, .inr (3, [.int 0, .int 0, .int 1, .int 0, .ref h1, .ref h2, .ref h3, .ref h4, .ref h5, .ref h6, .ref h7])), (h1, .inl (cA 0, 9, .inl (upd (upd (upd (upd (fun _ => 0) 8 0) 7 0) 6 0) 5 0)))]) hx hb hK hP hD hS 1 rfl rfl (by unfold vp_in; decide) dX0_choose_60 (fun H locs hP hD hS => ?_)
  refine lv_iload_n hx hb dX0_choose_61 rfl (lv_at hl 1 rfl) ?_
  refine lv_iconst (v := 5) hx hb dX0_choose_62 (by decide) ?_
  refine k_idiv (v := 0) hx hb dX0_choose_63 (by decide +kernel) (by decide +kernel) ?_
  refine lv_istore_n (lv' := [(3, .int 0), (4, .int 5), (0, .ref h0), (1, .long 0)]) hx hb dX0_choose_64 rfl hl (by decide) rfl (fun ls hl => ?_)
  refine lv_iinc (v := 4) (lv' := [(4, .int 4), (3, .int 0), (0, .ref h0), (1, .long 0)]) hx hb dX0_choose_65 hl (k := 1) rfl (by decide) (by decide) rfl (fun ls hl => ?_)
  refine lv_goto (tgt := 46) hx hb dX0_choose_68 (by decide) ?_
  refine lv_iload hx hb dX0_choose_46 (lv_at hl 0 rfl) ?_
  refine k_if_lt_f (tgt := 71) hx hb dX0_choose_48 (by decide) (by decide) ?_
  refine lv_aload_n hx hb dX0_choose_51 rfl (lv_at hl 2 rfl) ?_
  refine k_get (ci := 3) (C := RX0) (T := TX0) (N := 11) (v := .ref h1) hx hb hG inX0 hown hK hP 0 rfl rfl 4 (by decide) gw293 rfl dX0_choose_52 ?_
  refine lv_iload hx hb dX0_choose_55 (lv_at hl 0 rfl) ?_
  refine lv_iload_n hx hb dX0_choose_57 rfl (lv_at hl 1 rfl) ?_
  refine lv_iconst (v := 5) hx hb dX0_choose_58 (by decide) ?_
  refine k_irem (v := 0) hx hb dX0_choose_59 (by decide +kernel) (by decide +kernel) ?_
  refine k_iast (ws1 := [(h0, .inr (3, [.int 0, .int 0, .int 1, .int 0, .ref h1, .ref h2, .ref h3, .ref h4, .ref h5, .ref h6, .ref h7])), (h1, .inl (cA 0, 9, .inl (upd (upd (upd (upd (upd (fun _ => 0) 8 0) 7 0) 6 0) 5 0) 4 0)))]) hx hb hK hP hD hS 1 rfl rfl (by unfold vp_in; decide) dX0_choose_60 (fun H locs hP hD hS => ?_)
  refine lv_iload_n hx hb dX0_choose_61 rfl (lv_at hl 1 rfl) ?_
  refine lv_iconst (v := 5) hx hb dX0_choose_62 (by decide) ?_
  refine k_idiv (v := 0) hx hb dX0_choose_63 (by decide +kernel) (by decide +kernel) ?_
  refine lv_istore_n (lv' := [(3, .int 0), (4, .int 4), (0, .ref h0), (1, .long 0)]) hx hb dX0_choose_64 rfl hl (by decide) rfl (fun ls hl => ?_)
  refine lv_iinc (v := 3) (lv' := [(4, .int 3), (3, .int 0), (0, .ref h0), (1, .long 0)]) hx hb dX0_choose_65 hl (k := 1) rfl (by decide) (by decide) rfl (fun ls hl => ?_)
  refine lv_goto (tgt := 46) hx hb dX0_choose_68 (by decide) ?_
  refine lv_iload hx hb dX0_choose_46 (lv_at hl 0 rfl) ?_
  refine k_if_lt_f (tgt := 71) hx hb dX0_choose_48 (by decide) (by decide) ?_
  refine lv_aload_n hx hb dX0_choose_51 rfl (lv_at hl 2 rfl) ?_
  refine k_get (ci := 3) (C := RX0) (T := TX0) (N := 11) (v := .ref h1) hx hb hG inX0 hown hK hP 0 rfl rfl 4 (by decide) gw293 rfl dX0_choose_52 ?_
  refine lv_iload hx hb dX0_choose_55 (lv_at hl 0 rfl) ?_
  refine lv_iload_n hx hb dX0_choose_57 rfl (lv_at hl 1 rfl) ?_
  refine lv_iconst (v := 5) hx hb dX0_choose_58 (by decide) ?_
  refine k_irem (v := 0) hx hb dX0_choose_59 (by decide +kernel) (by decide +kernel) ?_
  refine k_iast (ws1 := [(h0, .inr (3, [.int 0, .int 0, .int 1, .int 0, .ref h1, .ref h2, .ref h3, .ref h4, .ref h5, .ref h6, .ref h7])), (h1, .inl (cA 0, 9, .inl (upd (upd (upd (upd (upd (upd (fun _ => 0) 8 0) 7 0) 6 0) 5 0) 4 0) 3 0)))]) hx hb hK hP hD hS 1 rfl rfl (by unfold vp_in; decide) dX0_choose_60 (fun H locs hP hD hS => ?_)
  refine lv_iload_n hx hb dX0_choose_61 rfl (lv_at hl 1 rfl) ?_
  refine lv_iconst (v := 5) hx hb dX0_choose_62 (by decide) ?_
  refine k_idiv (v := 0) hx hb dX0_choose_63 (by decide +kernel) (by decide +kernel) ?_
  refine lv_istore_n (lv' := [(3, .int 0), (4, .int 3), (0, .ref h0), (1, .long 0)]) hx hb dX0_choose_64 rfl hl (by decide) rfl (fun ls hl => ?_)
  refine lv_iinc (v := 2) (lv' := [(4, .int 2), (3, .int 0), (0, .ref h0), (1, .long 0)]) hx hb dX0_choose_65 hl (k := 1) rfl (by decide) (by decide) rfl (fun ls hl => ?_)
  refine lv_goto (tgt := 46) hx hb dX0_choose_68 (by decide) ?_
  refine lv_iload hx hb dX0_choose_46 (lv_at hl 0 rfl) ?_
  refine k_if_lt_f (tgt := 71) hx hb dX0_choose_48 (by decide) (by decide) ?_
  refine lv_aload_n hx hb dX0_choose_51 rfl (lv_at hl 2 rfl) ?_
  refine k_get (ci := 3) (C := RX0) (T := TX0) (N := 11) (v := .ref h1) hx hb hG inX0 hown hK hP 0 rfl rfl 4 (by decide) gw293 rfl dX0_choose_52 ?_
  refine lv_iload hx hb dX0_choose_55 (lv_at hl 0 rfl) ?_
  refine lv_iload_n hx hb dX0_choose_57 rfl (lv_at hl 1 rfl) ?_
  refine lv_iconst (v := 5) hx hb dX0_choose_58 (by decide) ?_
  refine k_irem (v := 0) hx hb dX0_choose_59 (by decide +kernel) (by decide +kernel) ?_
  refine k_iast (ws1 := [(h0, .inr (3, [.int 0, .int 0, .int 1, .int 0, .ref h1, .ref h2, .ref h3, .ref h4, .ref h5, .ref h6, .ref h7])), (h1, .inl (cA 0, 9, .inl (upd (upd (upd (upd (upd (upd (upd (fun _ => 0) 8 0) 7 0) 6 0) 5 0) 4 0) 3 0) 2 0)))]) hx hb hK hP hD hS 1 rfl rfl (by unfold vp_in; decide) dX0_choose_60 (fun H locs hP hD hS => ?_)
  refine lv_iload_n hx hb dX0_choose_61 rfl (lv_at hl 1 rfl) ?_
  refine lv_iconst (v := 5) hx hb dX0_choose_62 (by decide) ?_
  refine k_idiv (v := 0) hx hb dX0_choose_63 (by decide +kernel) (by decide +kernel) ?_
  refine lv_istore_n (lv' := [(3, .int 0), (4, .int 2), (0, .ref h0), (1, .long 0)]) hx hb dX0_choose_64 rfl hl (by decide) rfl (fun ls hl => ?_)
  refine lv_iinc (v := 1) (lv' := [(4, .int 1), (3, .int 0), (0, .ref h0), (1, .long 0)]) hx hb dX0_choose_65 hl (k := 1) rfl (by decide) (by decide) rfl (fun ls hl => ?_)
  refine lv_goto (tgt := 46) hx hb dX0_choose_68 (by decide) ?_
  refine lv_iload hx hb dX0_choose_46 (lv_at hl 0 rfl) ?_
  refine k_if_lt_f (tgt := 71) hx hb dX0_choose_48 (by decide) (by decide) ?_
  refine lv_aload_n hx hb dX0_choose_51 rfl (lv_at hl 2 rfl) ?_
  refine k_get (ci := 3) (C := RX0) (T := TX0) (N := 11) (v := .ref h1) hx hb hG inX0 hown hK hP 0 rfl rfl 4 (by decide) gw293 rfl dX0_choose_52 ?_
  refine lv_iload hx hb dX0_choose_55 (lv_at hl 0 rfl) ?_
  refine lv_iload_n hx hb dX0_choose_57 rfl (lv_at hl 1 rfl) ?_
  refine lv_iconst (v := 5) hx hb dX0_choose_58 (by decide) ?_
  refine k_irem (v := 0) hx hb dX0_choose_59 (by decide +kernel) (by decide +kernel) ?_
  refine k_iast (ws1 := [(h0, .inr (3, [.int 0, .int 0, .int 1, .int 0, .ref h1, .ref h2, .ref h3, .ref h4, .ref h5, .ref h6, .ref h7])), (h1, .inl (cA 0, 9, .inl (upd (upd (upd (upd (upd (upd (upd (upd (fun _ => 0) 8 0) 7 0) 6 0) 5 0) 4 0) 3 0) 2 0) 1 0)))]) hx hb hK hP hD hS 1 rfl rfl (by unfold vp_in; decide) dX0_choose_60 (fun H locs hP hD hS => ?_)
  refine lv_iload_n hx hb dX0_choose_61 rfl (lv_at hl 1 rfl) ?_
  refine lv_iconst (v := 5) hx hb dX0_choose_62 (by decide) ?_
  refine k_idiv (v := 0) hx hb dX0_choose_63 (by decide +kernel) (by decide +kernel) ?_
  refine lv_istore_n (lv' := [(3, .int 0), (4, .int 1), (0, .ref h0), (1, .long 0)]) hx hb dX0_choose_64 rfl hl (by decide) rfl (fun ls hl => ?_)
  refine lv_iinc (v := 0) (lv' := [(4, .int 0), (3, .int 0), (0, .ref h0), (1, .long 0)]) hx hb dX0_choose_65 hl (k := 1) rfl (by decide) (by decide) rfl (fun ls hl => ?_)
  refine lv_goto (tgt := 46) hx hb dX0_choose_68 (by decide) ?_
  refine lv_iload hx hb dX0_choose_46 (lv_at hl 0 rfl) ?_
  refine k_if_lt_f (tgt := 71) hx hb dX0_choose_48 (by decide) (by decide) ?_
  refine lv_aload_n hx hb dX0_choose_51 rfl (lv_at hl 2 rfl) ?_
  refine k_get (ci := 3) (C := RX0) (T := TX0) (N := 11) (v := .ref h1) hx hb hG inX0 hown hK hP 0 rfl rfl 4 (by decide) gw293 rfl dX0_choose_52 ?_
  refine lv_iload hx hb dX0_choose_55 (lv_at hl 0 rfl) ?_
  refine lv_iload_n hx hb dX0_choose_57 rfl (lv_at hl 1 rfl) ?_
  refine lv_iconst (v := 5) hx hb dX0_choose_58 (by decide) ?_
  refine k_irem (v := 0) hx hb dX0_choose_59 (by decide +kernel) (by decide +kernel) ?_
  refine k_iast (ws1 := [(h0, .inr (3, [.int 0, .int 0, .int 1, .int 0, .ref h1, .ref h2, .ref h3, .ref h4, .ref h5, .ref h6, .ref h7])), (h1, .inl (cA 0, 9, .inl (upd (upd (upd (upd (upd (upd (upd (upd (upd (fun _ => 0) 8 0) 7 0) 6 0) 5 0) 4 0) 3 0) 2 0) 1 0) 0 0)))]) hx hb hK hP hD hS 1 rfl rfl (by unfold vp_in; decide) dX0_choose_60 (fun H locs hP hD hS => ?_)
  refine lv_iload_n hx hb dX0_choose_61 rfl (lv_at hl 1 rfl) ?_
  refine lv_iconst (v := 5) hx hb dX0_choose_62 (by decide) ?_
  refine k_idiv (v := 0) hx hb dX0_choose_63 (by decide +kernel) (by decide +kernel) ?_
  refine lv_istore_n (lv' := [(3, .int 0), (4, .int 0), (0, .ref h0), (1, .long 0)]) hx hb dX0_choose_64 rfl hl (by decide) rfl (fun ls hl => ?_)
  refine lv_iinc (v := (-1)) (lv' := [(4, .int (-1)), (3, .int 0), (0, .ref h0), (1, .long 0)]) hx hb dX0_choose_65 hl (k := 1) rfl (by decide) (by decide) rfl (fun ls hl => ?_)
  refine lv_goto (tgt := 46) hx hb dX0_choose_68 (by decide) ?_
  refine lv_iload hx hb dX0_choose_46 (lv_at hl 0 rfl) ?_
  refine k_if_lt_t (tgt := 71) hx hb dX0_choose_48 (by decide) (by decide) ?_
  exact e_v (fun _ => 0) hx hb hr hlocks rfl hP hD hS (Nat.le_of_ble_eq_true rfl) (Nat.le_of_ble_eq_true rfl) dX0_choose_71
set_option maxHeartbeats 4000000 in
set_option maxRecDepth 100000 in
theorem c282_X0_find (l : Launch) (hfl : l.stackTraces = false) (D : va_G) (cA : Nat → ClassId) (g : gv_T) (h0 h1 h2 h3 h4 h5 h6 h7 h8 h9 h10 h11 h12 h13 h14 h15 h16 h17 h18 h19 : Nat) : CT l yX0_find cX0_find 5 none (RM 1 0 0 27) D cA g [.ref h0, .ref h1, .ref h2] [(h0, .inr (3, [.int 0, .int 0, .int 0, .int 0, .ref h3, .ref h4, .ref h5, .ref h6, .ref h7, .ref h8, .ref h9])), (h1, .inr (5, [.int 0, .int 0, .ref h10, .ref h11, .ref h12, .ref h13, .ref h14, .ref h15, .ref h16, .ref h17, .ref h18, .ref h19])), (h9, .inl (cA 1, 512, .inr (.inl (fun _ => 0)))), (h3, .inl (cA 0, 9, .inl (fun _ => 0)))] (fun q => none) (fun q => [(h0, .inr (3, [.int 0, .int 1, .int 1, .int 0, .ref h3, .ref h4, .ref h5, .ref h6, .ref h7, .ref h8, .ref h9])), (h1, .inr (5, [.int 0, .int 0, .ref h10, .ref h11, .ref h12, .ref h13, .ref h14, .ref h15, .ref h16, .ref h17, .ref h18, .ref h19])), (h9, .inl (cA 1, 512, .inr (.inl (vp_updL (fun _ => 0) 0 0)))), (h3, .inl (cA 0, 9, .inl (upd (upd (upd (upd (upd (upd (upd (upd (upd (fun _ => 0) 8 0) 7 0) 6 0) 5 0) 4 0) 3 0) 2 0) 1 0) 0 0)))]) := by
  refine CT.of (by decide +kernel) (Nat.le_of_ble_eq_true rfl) ?_
  intro p e s m args below meth c A ls hx hb hr hml hown hG hlocks hnm hA hS hP hK hD hGV hl
  have hown : s.vm.findClass RX0 = some m.cls := hown
  have hl : lv_has ls 5 [(0, .ref h0), (1, .ref h1), (2, .ref h2)] := hl
  have hSF : CF p m c cX0_find 5 s args RX0 := ⟨hx, hb, hml, hown, hG⟩
  refine lv_aload_n hx hb dX0_find_0 rfl (lv_at hl 0 rfl) ?_
  refine k_get (ci := 3) (C := RX0) (T := TX0) (N := 11) (v := .int 0) hx hb hG inX0 hown hK hP 0 rfl rfl 1 (by decide) gw288 rfl dX0_find_1 ?_
  refine k_if_eq_t (tgt := 8) hx hb dX0_find_4 (by decide) (by decide) ?_
  refine lv_iconst (v := 1) hx hb dX0_find_8 (by decide) ?_
  refine lv_aload_n hx hb dX0_find_9 rfl (lv_at hl 1 rfl) ?_
  refine k_get (ci := 5) (C := RX2) (T := TX2) (N := 12) (v := .int 0) hx hb hG inX2 hown hK hP 1 rfl rfl 1 (by decide) gw132 rfl dX0_find_10 ?_
  refine k_ishl (v := 1) hx hb dX0_find_13 (by decide) ?_
  refine lv_istore_n (lv' := [(3, .int 1), (0, .ref h0), (1, .ref h1), (2, .ref h2)]) hx hb dX0_find_14 rfl hl (by decide) rfl (fun ls hl => ?_)
  refine lv_aload_n hx hb dX0_find_15 rfl (lv_at hl 1 rfl) ?_
  refine lv_aload_n hx hb dX0_find_16 rfl (lv_at hl 2 rfl) ?_
  refine lv_aload_n hx hb dX0_find_17 rfl (lv_at hl 3 rfl) ?_
  refine ct_V (wr := [(h0, .inr (3, [.int 0, .int 0, .int 0, .int 0, .ref h3, .ref h4, .ref h5, .ref h6, .ref h7, .ref h8, .ref h9])), (h9, .inl (cA 1, 512, .inr (.inl (fun _ => 0)))), (h3, .inl (cA 0, 9, .inl (fun _ => 0)))]) hSF hl.1 hP hD hS hA hK hGV (c280_X0_measure l hfl D cA g h0 h1 h2 h10 h11 h12 h13 h14 h15 h16 h17 h18 h19) goV_X0_56 pd_X0_measure ⟨(Nat.le_of_ble_eq_true rfl), (Nat.le_of_ble_eq_true rfl)⟩ ⟨(Nat.le_of_ble_eq_true rfl), (Nat.le_of_ble_eq_true rfl)⟩ (va_recv hK hP (ci := 3) (q0 := 0) rfl rfl) dX0_find_18 rfl (Nat.le_of_ble_eq_true rfl) [1] [0, 2, 3] rfl (by decide) rfl (by decide) (by decide) (fun q => [(h0, .inr (3, [.int 0, .int 0, .int 0, .int 0, .ref h3, .ref h4, .ref h5, .ref h6, .ref h7, .ref h8, .ref h9])), (h9, .inl (cA 1, 512, .inr (.inl (fun _ => 0)))), (h3, .inl (cA 0, 9, .inl (fun _ => 0))), (h1, .inr (5, [.int 0, .int 0, .ref h10, .ref h11, .ref h12, .ref h13, .ref h14, .ref h15, .ref h16, .ref h17, .ref h18, .ref h19]))]) (fun _ => rfl) (fun q1 H locs hP hD hS => ?_)
  refine W.eq (g2 := F0 m 21 ls []) rfl ?_
  refine lv_iconst (v := 0) hx hb dX0_find_21 (by decide) ?_
  refine lv_istore (lv' := [(4, .int 0), (3, .int 1), (0, .ref h0), (1, .ref h1), (2, .ref h2)]) hx hb dX0_find_22 hl (by decide) rfl (fun ls hl => ?_)
  refine lv_iload hx hb dX0_find_24 (lv_at hl 0 rfl) ?_
  refine lv_iload_n hx hb dX0_find_26 rfl (lv_at hl 1 rfl) ?_
  refine k_icmp_ge_f (tgt := 55) hx hb dX0_find_27 (by decide) (by decide) ?_
  refine lv_aload_n hx hb dX0_find_30 rfl (lv_at hl 2 rfl) ?_
  refine k_get (ci := 3) (C := RX0) (T := TX0) (N := 11) (v := .ref h9) hx hb hG inX0 hown hK hP 0 rfl rfl 10 (by decide) gw300 rfl dX0_find_31 ?_
  refine lv_iload hx hb dX0_find_34 (lv_at hl 0 rfl) ?_
  refine lv_iload hx hb dX0_find_36 (lv_at hl 0 rfl) ?_
  refine k_if_ne_f (tgt := 45) hx hb dX0_find_38 (by decide) (by decide) ?_
  refine lv_lconst (v := 0) hx hb dX0_find_41 (by decide) ?_
  refine lv_goto (tgt := 48) hx hb dX0_find_42 (by decide) ?_
  refine k_last (ws1 := [(h0, .inr (3, [.int 0, .int 0, .int 0, .int 0, .ref h3, .ref h4, .ref h5, .ref h6, .ref h7, .ref h8, .ref h9])), (h9, .inl (cA 1, 512, .inr (.inl (vp_updL (fun _ => 0) 0 0)))), (h3, .inl (cA 0, 9, .inl (fun _ => 0))), (h1, .inr (5, [.int 0, .int 0, .ref h10, .ref h11, .ref h12, .ref h13, .ref h14, .ref h15, .ref h16, .ref h17, .ref h18, .ref h19]))]) hx hb hK hP hD hS 1 rfl rfl (by unfold vp_in; decide) dX0_find_48 (fun H locs hP hD hS => ?_)
  refine lv_iinc (v := 1) (lv' := [(4, .int 1), (3, .int 1), (0, .ref h0), (1, .ref h1), (2, .ref h2)]) hx hb dX0_find_49 hl (k := 0) rfl (by decide) (by decide) rfl (fun ls hl => ?_)
  refine lv_goto (tgt := 24) hx hb dX0_find_52 (by decide) ?_
  refine lv_iload hx hb dX0_find_24 (lv_at hl 0 rfl) ?_
  refine lv_iload_n hx hb dX0_find_26 rfl (lv_at hl 1 rfl) ?_
  refine k_icmp_ge_t (tgt := 55) hx hb dX0_find_27 (by decide) (by decide) ?_
  refine lv_iconst (v := 0) hx hb dX0_find_55 (by decide) ?_
  refine lv_istore (lv' := [(4, .int 0), (3, .int 1), (0, .ref h0), (1, .ref h1), (2, .ref h2)]) hx hb dX0_find_56 hl (by decide) rfl (fun ls hl => ?_)
  refine lv_iload hx hb dX0_find_58 (lv_at hl 0 rfl) ?_
  refine lv_aload_n hx hb dX0_find_60 rfl (lv_at hl 2 rfl) ?_
  refine k_get (ci := 3) (C := RX0) (T := TX0) (N := 11) (v := .int 0) hx hb hG inX0 hown hK hP 0 rfl rfl 0 (by decide) gw285 rfl dX0_find_61 ?_
  refine k_icmp_ge_t (tgt := 87) hx hb dX0_find_64 (by decide) (by decide) ?_
  refine lv_aload_n hx hb dX0_find_87 rfl (lv_at hl 2 rfl) ?_
  refine lv_aload_n hx hb dX0_find_88 rfl (lv_at hl 2 rfl) ?_
  refine k_get (ci := 3) (C := RX0) (T := TX0) (N := 11) (v := .ref h9) hx hb hG inX0 hown hK hP 0 rfl rfl 10 (by decide) gw300 rfl dX0_find_89 ?_
  refine lv_iload_n hx hb dX0_find_92 rfl (lv_at hl 1 rfl) ?_
  refine lv_iconst (v := 1) hx hb dX0_find_93 (by decide) ?_
  refine k_isub (v := 0) hx hb dX0_find_94 (by decide) ?_
  refine k_lald (v := 0) hx hb hK hP 1 rfl 0 (by decide) rfl (by unfold vp_in; decide) dX0_find_95 ?_
  refine ct_V (wr := [(h9, .inl (cA 1, 512, .inr (.inl (vp_updL (fun _ => 0) 0 0)))), (h1, .inr (5, [.int 0, .int 0, .ref h10, .ref h11, .ref h12, .ref h13, .ref h14, .ref h15, .ref h16, .ref h17, .ref h18, .ref h19]))]) hSF hl.1 hP hD hS hA hK hGV (c281_X0_choose l hfl D cA g h0 h3 h4 h5 h6 h7 h8 h9) goV_X0_70 pd_X0_choose ⟨(Nat.le_of_ble_eq_true rfl), (Nat.le_of_ble_eq_true rfl)⟩ ⟨(Nat.le_of_ble_eq_true rfl), (Nat.le_of_ble_eq_true rfl)⟩ (va_recv hK hP (ci := 3) (q0 := 0) rfl rfl) dX0_find_96 rfl (Nat.le_of_ble_eq_true rfl) [0, 2] [1, 3] rfl (by decide) rfl (by decide) (by decide) (fun q => [(h9, .inl (cA 1, 512, .inr (.inl (vp_updL (fun _ => 0) 0 0)))), (h1, .inr (5, [.int 0, .int 0, .ref h10, .ref h11, .ref h12, .ref h13, .ref h14, .ref h15, .ref h16, .ref h17, .ref h18, .ref h19])), (h0, .inr (3, [.int 0, .int 0, .int 1, .int 0, .ref h3, .ref h4, .ref h5, .ref h6, .ref h7, .ref h8, .ref h9])), (h3, .inl (cA 0, 9, .inl (upd (upd (upd (upd (upd (upd (upd (upd (upd (fun _ => 0) 8 0) 7 0) 6 0) 5 0) 4 0) 3 0) 2 0) 1 0) 0 0)))]) (fun _ => rfl) (fun q2 H locs hP hD hS => ?_)
  refine W.eq (g2 := F0 m 99 ls []) rfl ?_
  refine lv_aload_n hx hb dX0_find_99 rfl (lv_at hl 2 rfl) ?_
  refine lv_iconst (v := 1) hx hb dX0_find_100 (by decide) ?_
  refine k_put (ci := 3) (C := RX0) (T := TX0) (N := 11) (v := .int 1) (ws1 := [(h9, .inl (cA 1, 512, .inr (.inl (vp_updL (fun _ => 0) 0 0)))), (h1, .inr (5, [.int 0, .int 0, .ref h10, .ref h11, .ref h12, .ref h13, .ref h14, .ref h15, .ref h16, .ref h17, .ref h18, .ref h19])), (h0, .inr (3, [.int 0, .int 1, .int 1, .int 0, .ref h3, .ref h4, .ref h5, .ref h6, .ref h7, .ref h8, .ref h9])), (h3, .inl (cA 0, 9, .inl (upd (upd (upd (upd (upd (upd (upd (upd (upd (fun _ => 0) 8 0) 7 0) 6 0) 5 0) 4 0) 3 0) 2 0) 1 0) 0 0)))]) hx hb hG inX0 tyX0 tyX0_ok nmX0 hown hK hP hD hS 2 rfl rfl 1 (by decide) gw288 rfl ⟨rfl, rfl⟩ rfl (Nat.le_of_ble_eq_true rfl) dX0_find_101 (fun H locs hP hD hS => ?_)
  exact e_v (fun _ => 0) hx hb hr hlocks rfl (hP.sub [2, 1, 0, 3] rfl) (hD.sub [2, 1, 0, 3] (by decide) rfl) hS (Nat.le_of_ble_eq_true rfl) (Nat.le_of_ble_eq_true rfl) dX0_find_104
set_option maxHeartbeats 4000000 in
set_option maxRecDepth 100000 in
theorem c283_X6_checkCut (l : Launch) (hfl : l.stackTraces = false) (D : va_G) (cA : Nat → ClassId) (g : gv_T) (h0 h1 h2 h3 h4 h5 h6 h7 h8 h9 h10 h11 h12 h13 h14 h15 h16 h17 h18 h19 h20 h21 h22 : Nat) : CT l yX6_checkCut cX6_checkCut 1 none (RM 2 0 0 51) D cA g [.ref h0] [(h0, .inr (9, [.ref h1, .ref h2, .ref h3, .ref h4, .ref h5])), (h4, .inr (3, [.int 0, .int 0, .int 0, .int 0, .ref h6, .ref h7, .ref h8, .ref h9, .ref h10, .ref h11, .ref h12])), (h1, .inr (5, [.int 0, .int 0, .ref h13, .ref h14, .ref h15, .ref h16, .ref h17, .ref h18, .ref h19, .ref h20, .ref h21, .ref h22])), (h12, .inl (cA 1, 512, .inr (.inl (fun _ => 0)))), (h6, .inl (cA 0, 9, .inl (fun _ => 0)))] (fun q => none) (fun q => [(h0, .inr (9, [.ref h1, .ref h2, .ref h3, .ref h4, .ref h5])), (h4, .inr (3, [.int 0, .int 1, .int 1, .int 0, .ref h6, .ref h7, .ref h8, .ref h9, .ref h10, .ref h11, .ref h12])), (h1, .inr (5, [.int 0, .int 0, .ref h13, .ref h14, .ref h15, .ref h16, .ref h17, .ref h18, .ref h19, .ref h20, .ref h21, .ref h22])), (h12, .inl (cA 1, 512, .inr (.inl (vp_updL (fun _ => 0) 0 0)))), (h6, .inl (cA 0, 9, .inl (upd (upd (upd (upd (upd (upd (upd (upd (upd (fun _ => 0) 8 0) 7 0) 6 0) 5 0) 4 0) 3 0) 2 0) 1 0) 0 0)))]) := by
  refine CT.of (by decide +kernel) (Nat.le_of_ble_eq_true rfl) ?_
  intro p e s m args below meth c A ls hx hb hr hml hown hG hlocks hnm hA hS hP hK hD hGV hl
  have hown : s.vm.findClass RX6 = some m.cls := hown
  have hl : lv_has ls 1 [(0, .ref h0)] := hl
  have hSF : CF p m c cX6_checkCut 1 s args RX6 := ⟨hx, hb, hml, hown, hG⟩
  refine lv_aload_n hx hb dX6_checkCut_0 rfl (lv_at hl 0 rfl) ?_
  refine k_get (ci := 9) (C := RX6) (T := TX6) (N := 5) (v := .ref h4) hx hb hG inX6 hown hK hP 0 rfl rfl 3 (by decide) gw366 rfl dX6_checkCut_1 ?_
  refine lv_aload_n hx hb dX6_checkCut_4 rfl (lv_at hl 0 rfl) ?_
  refine k_get (ci := 9) (C := RX6) (T := TX6) (N := 5) (v := .ref h1) hx hb hG inX6 hown hK hP 0 rfl rfl 0 (by decide) gw363 rfl dX6_checkCut_5 ?_
  refine lv_aload_n hx hb dX6_checkCut_8 rfl (lv_at hl 0 rfl) ?_
  refine k_get (ci := 9) (C := RX6) (T := TX6) (N := 5) (v := .ref h3) hx hb hG inX6 hown hK hP 0 rfl rfl 2 (by decide) gw365 rfl dX6_checkCut_9 ?_
  refine ct_V (wr := [(h0, .inr (9, [.ref h1, .ref h2, .ref h3, .ref h4, .ref h5]))]) hSF hl.1 hP hD hS hA hK hGV (c282_X0_find l hfl D cA g h4 h1 h3 h6 h7 h8 h9 h10 h11 h12 h13 h14 h15 h16 h17 h18 h19 h20 h21 h22) goV_X6_290 pd_X0_find ⟨(Nat.le_of_ble_eq_true rfl), (Nat.le_of_ble_eq_true rfl)⟩ ⟨(Nat.le_of_ble_eq_true rfl), (Nat.le_of_ble_eq_true rfl)⟩ (va_recv hK hP (ci := 3) (q0 := 1) rfl rfl) dX6_checkCut_12 rfl (Nat.le_of_ble_eq_true rfl) [1, 2, 3, 4] [0] rfl (by decide) rfl (by decide) (by decide) (fun q => [(h0, .inr (9, [.ref h1, .ref h2, .ref h3, .ref h4, .ref h5])), (h4, .inr (3, [.int 0, .int 1, .int 1, .int 0, .ref h6, .ref h7, .ref h8, .ref h9, .ref h10, .ref h11, .ref h12])), (h1, .inr (5, [.int 0, .int 0, .ref h13, .ref h14, .ref h15, .ref h16, .ref h17, .ref h18, .ref h19, .ref h20, .ref h21, .ref h22])), (h12, .inl (cA 1, 512, .inr (.inl (vp_updL (fun _ => 0) 0 0)))), (h6, .inl (cA 0, 9, .inl (upd (upd (upd (upd (upd (upd (upd (upd (upd (fun _ => 0) 8 0) 7 0) 6 0) 5 0) 4 0) 3 0) 2 0) 1 0) 0 0)))]) (fun _ => rfl) (fun q1 H locs hP hD hS => ?_)
  refine W.eq (g2 := F0 m 15 ls []) rfl ?_
  refine lv_aload_n hx hb dX6_checkCut_15 rfl (lv_at hl 0 rfl) ?_
  refine k_get (ci := 9) (C := RX6) (T := TX6) (N := 5) (v := .ref h4) hx hb hG inX6 hown hK hP 0 rfl rfl 3 (by decide) gw366 rfl dX6_checkCut_16 ?_
  refine k_get (ci := 3) (C := RX0) (T := TX0) (N := 11) (v := .int 1) hx hb hG inX0 hown hK hP 1 rfl rfl 2 (by decide) gw290 rfl dX6_checkCut_19 ?_
  refine k_if_ne_t (tgt := 36) hx hb dX6_checkCut_22 (by decide) (by decide) ?_
  exact e_v (fun _ => 0) hx hb hr hlocks rfl hP hD hS (Nat.le_of_ble_eq_true rfl) (Nat.le_of_ble_eq_true rfl) dX6_checkCut_36
set_option maxHeartbeats 4000000 in
set_option maxRecDepth 100000 in
theorem c284_X6_wood (l : Launch) (hfl : l.stackTraces = false) (D : va_G) (cA : Nat → ClassId) (g : gv_T) (h0 h1 h2 h3 h4 h5 h6 h7 h8 h9 h10 h11 h12 h13 h14 h15 h16 h17 h18 h19 h20 h21 h22 : Nat) : CT l yX6_wood cX6_wood 1 (some .int) (RM 3 0 0 71) D cA g [.ref h0] [(h0, .inr (9, [.ref h1, .ref h2, .ref h3, .ref h4, .ref h5])), (h4, .inr (3, [.int 0, .int 0, .int 0, .int 0, .ref h6, .ref h7, .ref h8, .ref h9, .ref h10, .ref h11, .ref h12])), (h1, .inr (5, [.int 0, .int 0, .ref h13, .ref h14, .ref h15, .ref h16, .ref h17, .ref h18, .ref h19, .ref h20, .ref h21, .ref h22])), (h12, .inl (cA 1, 512, .inr (.inl (fun _ => 0)))), (h6, .inl (cA 0, 9, .inl (fun _ => 0)))] (fun q => some (.int 0)) (fun q => [(h0, .inr (9, [.ref h1, .ref h2, .ref h3, .ref h4, .ref h5])), (h4, .inr (3, [.int 0, .int 1, .int 1, .int 0, .ref h6, .ref h7, .ref h8, .ref h9, .ref h10, .ref h11, .ref h12])), (h1, .inr (5, [.int 0, .int 0, .ref h13, .ref h14, .ref h15, .ref h16, .ref h17, .ref h18, .ref h19, .ref h20, .ref h21, .ref h22])), (h12, .inl (cA 1, 512, .inr (.inl (vp_updL (fun _ => 0) 0 0)))), (h6, .inl (cA 0, 9, .inl (upd (upd (upd (upd (upd (upd (upd (upd (upd (fun _ => 0) 8 0) 7 0) 6 0) 5 0) 4 0) 3 0) 2 0) 1 0) 0 0)))]) := by
  refine CT.of (by decide +kernel) (Nat.le_of_ble_eq_true rfl) ?_
  intro p e s m args below meth c A ls hx hb hr hml hown hG hlocks hnm hA hS hP hK hD hGV hl
  have hown : s.vm.findClass RX6 = some m.cls := hown
  have hl : lv_has ls 1 [(0, .ref h0)] := hl
  have hSF : CF p m c cX6_wood 1 s args RX6 := ⟨hx, hb, hml, hown, hG⟩
  refine lv_aload_n hx hb dX6_wood_0 rfl (lv_at hl 0 rfl) ?_
  refine ct_V (wr := []) hSF hl.1 hP hD hS hA hK hGV (c283_X6_checkCut l hfl D cA g h0 h1 h2 h3 h4 h5 h6 h7 h8 h9 h10 h11 h12 h13 h14 h15 h16 h17 h18 h19 h20 h21 h22) goV_X6_219 pd_X6_checkCut ⟨(Nat.le_of_ble_eq_true rfl), (Nat.le_of_ble_eq_true rfl)⟩ ⟨(Nat.le_of_ble_eq_true rfl), (Nat.le_of_ble_eq_true rfl)⟩ (va_recv hK hP (ci := 9) (q0 := 0) rfl rfl) dX6_wood_1 rfl (Nat.le_of_ble_eq_true rfl) [0, 1, 2, 3, 4] [] rfl (by decide) rfl (by decide) (by decide) (fun q => [(h0, .inr (9, [.ref h1, .ref h2, .ref h3, .ref h4, .ref h5])), (h4, .inr (3, [.int 0, .int 1, .int 1, .int 0, .ref h6, .ref h7, .ref h8, .ref h9, .ref h10, .ref h11, .ref h12])), (h1, .inr (5, [.int 0, .int 0, .ref h13, .ref h14, .ref h15, .ref h16, .ref h17, .ref h18, .ref h19, .ref h20, .ref h21, .ref h22])), (h12, .inl (cA 1, 512, .inr (.inl (vp_updL (fun _ => 0) 0 0)))), (h6, .inl (cA 0, 9, .inl (upd (upd (upd (upd (upd (upd (upd (upd (upd (fun _ => 0) 8 0) 7 0) 6 0) 5 0) 4 0) 3 0) 2 0) 1 0) 0 0)))]) (fun _ => rfl) (fun q1 H locs hP hD hS => ?_)
  refine W.eq (g2 := F0 m 4 ls []) rfl ?_
  refine lv_aload_n hx hb dX6_wood_4 rfl (lv_at hl 0 rfl) ?_
  refine k_get (ci := 9) (C := RX6) (T := TX6) (N := 5) (v := .ref h4) hx hb hG inX6 hown hK hP 0 rfl rfl 3 (by decide) gw366 rfl dX6_wood_5 ?_
  refine k_get (ci := 3) (C := RX0) (T := TX0) (N := 11) (v := .int 0) hx hb hG inX0 hown hK hP 1 rfl rfl 3 (by decide) gw292 rfl dX6_wood_8 ?_
  exact e_i (fun _ => 0) hx hb hr hlocks rfl rfl hP hD hS (Nat.le_of_ble_eq_true rfl) (Nat.le_of_ble_eq_true rfl) dX6_wood_11
set_option maxHeartbeats 4000000 in
set_option maxRecDepth 100000 in
theorem c285_L_wood (l : Launch) (hfl : l.stackTraces = false) (D : va_G) (cA : Nat → ClassId) (g : gv_T) (h0 h1 h2 h3 h4 h5 h6 h7 h8 h9 h10 h11 h12 h13 h14 h15 h16 h17 h18 h19 h20 h21 h22 h23 : Nat) : CW l yL_wood cL_wood 3 (some .int) [(0, 8, 11, 46)] (RM 4 0 0 91) D cA g [.ref h0, .ref h1] [(h0, .inr (9, [.ref h2, .ref h3, .ref h4, .ref h5, .ref h6])), (h5, .inr (3, [.int 0, .int 0, .int 0, .int 0, .ref h7, .ref h8, .ref h9, .ref h10, .ref h11, .ref h12, .ref h13])), (h2, .inr (5, [.int 0, .int 0, .ref h14, .ref h15, .ref h16, .ref h17, .ref h18, .ref h19, .ref h20, .ref h21, .ref h22, .ref h23])), (h13, .inl (cA 1, 512, .inr (.inl (fun _ => 0)))), (h7, .inl (cA 0, 9, .inl (fun _ => 0))), (h1, .inl (cA 1, 1, .inr (.inl (fun _ => 0))))] (fun q => some (.int 0)) (fun q => [(h0, .inr (9, [.ref h2, .ref h3, .ref h4, .ref h5, .ref h6])), (h5, .inr (3, [.int 0, .int 1, .int 1, .int 0, .ref h7, .ref h8, .ref h9, .ref h10, .ref h11, .ref h12, .ref h13])), (h2, .inr (5, [.int 0, .int 0, .ref h14, .ref h15, .ref h16, .ref h17, .ref h18, .ref h19, .ref h20, .ref h21, .ref h22, .ref h23])), (h13, .inl (cA 1, 512, .inr (.inl (vp_updL (fun _ => 0) 0 0)))), (h7, .inl (cA 0, 9, .inl (upd (upd (upd (upd (upd (upd (upd (upd (upd (fun _ => 0) 8 0) 7 0) 6 0) 5 0) 4 0) 3 0) 2 0) 1 0) 0 0))), (h1, .inl (cA 1, 1, .inr (.inl (vp_updL (fun _ => 0) 0 0))))]) := by
  refine CW.of (by decide +kernel) (Nat.le_of_ble_eq_true rfl) ?_
  intro p e s m args below meth c A ls hx hb hr hml hown hG hlocks htab hA hS hP hK hD hGV hl
  have hown : s.vm.findClass RL = some m.cls := hown
  have hl : lv_has ls 3 [(0, .ref h0), (1, .ref h1)] := hl
  have hSF : CF p m c cL_wood 3 s args RL := ⟨hx, hb, hml, hown, hG⟩
  refine lv_aload_n hx hb dL_wood_0 rfl (lv_at hl 1 rfl) ?_
  refine lv_iconst (v := 0) hx hb dL_wood_1 (by decide) ?_
  refine lv_aload_n hx hb dL_wood_2 rfl (lv_at hl 0 rfl) ?_
  refine ct_V (wr := [(h1, .inl (cA 1, 1, .inr (.inl (fun _ => 0))))]) hSF hl.1 hP hD hS hA hK hGV (c284_X6_wood l hfl D cA g h0 h2 h3 h4 h5 h6 h7 h8 h9 h10 h11 h12 h13 h14 h15 h16 h17 h18 h19 h20 h21 h22 h23) goV_L_83 pd_X6_wood ⟨(Nat.le_of_ble_eq_true rfl), (Nat.le_of_ble_eq_true rfl)⟩ ⟨(Nat.le_of_ble_eq_true rfl), (Nat.le_of_ble_eq_true rfl)⟩ (va_recv hK hP (ci := 9) (q0 := 0) rfl rfl) dL_wood_3 rfl (Nat.le_of_ble_eq_true rfl) [0, 1, 2, 3, 4] [5] rfl (by decide) rfl (by decide) (by decide) (fun q => [(h1, .inl (cA 1, 1, .inr (.inl (fun _ => 0)))), (h0, .inr (9, [.ref h2, .ref h3, .ref h4, .ref h5, .ref h6])), (h5, .inr (3, [.int 0, .int 1, .int 1, .int 0, .ref h7, .ref h8, .ref h9, .ref h10, .ref h11, .ref h12, .ref h13])), (h2, .inr (5, [.int 0, .int 0, .ref h14, .ref h15, .ref h16, .ref h17, .ref h18, .ref h19, .ref h20, .ref h21, .ref h22, .ref h23])), (h13, .inl (cA 1, 512, .inr (.inl (vp_updL (fun _ => 0) 0 0)))), (h7, .inl (cA 0, 9, .inl (upd (upd (upd (upd (upd (upd (upd (upd (upd (fun _ => 0) 8 0) 7 0) 6 0) 5 0) 4 0) 3 0) 2 0) 1 0) 0 0)))]) (fun _ => rfl) (fun q1 H locs hP hD hS => ?_)
  refine W.eq (g2 := F0 m 6 ls [.int 0, .int 0, .ref h1]) rfl ?_
  refine lv_i2l (v := 0) hx hb dL_wood_6 (by decide +kernel) ?_
  refine k_last (ws1 := [(h1, .inl (cA 1, 1, .inr (.inl (vp_updL (fun _ => 0) 0 0)))), (h0, .inr (9, [.ref h2, .ref h3, .ref h4, .ref h5, .ref h6])), (h5, .inr (3, [.int 0, .int 1, .int 1, .int 0, .ref h7, .ref h8, .ref h9, .ref h10, .ref h11, .ref h12, .ref h13])), (h2, .inr (5, [.int 0, .int 0, .ref h14, .ref h15, .ref h16, .ref h17, .ref h18, .ref h19, .ref h20, .ref h21, .ref h22, .ref h23])), (h13, .inl (cA 1, 512, .inr (.inl (vp_updL (fun _ => 0) 0 0)))), (h7, .inl (cA 0, 9, .inl (upd (upd (upd (upd (upd (upd (upd (upd (upd (fun _ => 0) 8 0) 7 0) 6 0) 5 0) 4 0) 3 0) 2 0) 1 0) 0 0)))]) hx hb hK hP hD hS 0 rfl rfl (by unfold vp_in; decide) dL_wood_7 (fun H locs hP hD hS => ?_)
  refine lv_goto (tgt := 14) hx hb dL_wood_8 (by decide) ?_
  refine lv_iconst (v := 0) hx hb dL_wood_14 (by decide) ?_
  exact e_i (fun _ => 0) hx hb hr hlocks rfl rfl (hP.sub [1, 2, 3, 4, 5, 0] rfl) (hD.sub [1, 2, 3, 4, 5, 0] (by decide) rfl) hS (Nat.le_of_ble_eq_true rfl) (Nat.le_of_ble_eq_true rfl) dL_wood_15
set_option maxHeartbeats 4000000 in
set_option maxRecDepth 100000 in
theorem c286_X12_sums (l : Launch) (hfl : l.stackTraces = false) (D : va_G) (cA : Nat → ClassId) (g : gv_T) (h0 h1 h2 h3 h4 h5 h6 h7 h8 h9 h10 h11 h12 h13 h14 h15 h16 h17 h18 : Nat) : CT l yX12_sums cX12_sums 4 none (RM 1 0 0 20) D cA g [.ref h0] [(h0, .inr (15, [.ref h1, .ref h2, .ref h3, .ref h4, .ref h5, .ref h6, .ref h7, .ref h8, .ref h9, .ref h10, .ref h11, .ref h12, .ref h13, .ref h14, .ref h15, .ref h16, .ref h17, .ref h18, .long 0, .int 0, .int 2, .int (-1), .int 0, .int 0, .int 0, .int 1, .int 0])), (h2, .inr (2, [.int 0, .ref g.1, .int 0]))] (fun q => none) (fun q => [(h0, .inr (15, [.ref h1, .ref h2, .ref h3, .ref h4, .ref h5, .ref h6, .ref h7, .ref h8, .ref h9, .ref h10, .ref h11, .ref h12, .ref h13, .ref h14, .ref h15, .ref h16, .ref h17, .ref h18, .long 0, .int 0, .int 2, .int (-1), .int 0, .int 0, .int 0, .int 1, .int 0])), (h2, .inr (2, [.int 0, .ref g.1, .int 0]))]) := by
  refine CT.of (by decide +kernel) (Nat.le_of_ble_eq_true rfl) ?_
  intro p e s m args below meth c A ls hx hb hr hml hown hG hlocks hnm hA hS hP hK hD hGV hl
  have hown : s.vm.findClass RX12 = some m.cls := hown
  have hl : lv_has ls 4 [(0, .ref h0)] := hl
  have hSF : CF p m c cX12_sums 4 s args RX12 := ⟨hx, hb, hml, hown, hG⟩
  refine lv_iconst (v := 0) hx hb dX12_sums_0 (by decide) ?_
  refine lv_istore_n (lv' := [(1, .int 0), (0, .ref h0)]) hx hb dX12_sums_1 rfl hl (by decide) rfl (fun ls hl => ?_)
  refine lv_iload_n hx hb dX12_sums_2 rfl (lv_at hl 0 rfl) ?_
  refine lv_aload_n hx hb dX12_sums_3 rfl (lv_at hl 1 rfl) ?_
  refine k_get (ci := 15) (C := RX12) (T := TX12) (N := 27) (v := .ref h2) hx hb hG inX12 hown hK hP 0 rfl rfl 1 (by decide) gw1220 rfl dX12_sums_4 ?_
  refine ct_V (wr := [(h0, .inr (15, [.ref h1, .ref h2, .ref h3, .ref h4, .ref h5, .ref h6, .ref h7, .ref h8, .ref h9, .ref h10, .ref h11, .ref h12, .ref h13, .ref h14, .ref h15, .ref h16, .ref h17, .ref h18, .long 0, .int 0, .int 2, .int (-1), .int 0, .int 0, .int 0, .int 1, .int 0]))]) hSF hl.1 hP hD hS hA hK hGV (c56_Jx4a65c_size_8abf5 l hfl D cA g h2) goV_X12_125 pd_Jx4a65c_size_8abf5 ⟨(Nat.le_of_ble_eq_true rfl), (Nat.le_of_ble_eq_true rfl)⟩ ⟨(Nat.le_of_ble_eq_true rfl), (Nat.le_of_ble_eq_true rfl)⟩ (va_recv hK hP (ci := 2) (q0 := 1) rfl rfl) dX12_sums_7 rfl (Nat.le_of_ble_eq_true rfl) [1] [0] rfl (by decide) rfl (by decide) (by decide) (fun q => [(h0, .inr (15, [.ref h1, .ref h2, .ref h3, .ref h4, .ref h5, .ref h6, .ref h7, .ref h8, .ref h9, .ref h10, .ref h11, .ref h12, .ref h13, .ref h14, .ref h15, .ref h16, .ref h17, .ref h18, .long 0, .int 0, .int 2, .int (-1), .int 0, .int 0, .int 0, .int 1, .int 0])), (h2, .inr (2, [.int 0, .ref g.1, .int 0]))]) (fun _ => rfl) (fun q1 H locs hP hD hS => ?_)
  refine W.eq (g2 := F0 m 10 ls [.int 0, .int 0]) rfl ?_
  refine k_icmp_ge_t (tgt := 32) hx hb dX12_sums_10 (by decide) (by decide) ?_
  refine lv_iconst (v := 1) hx hb dX12_sums_32 (by decide) ?_
  refine lv_istore_n (lv' := [(1, .int 1), (0, .ref h0)]) hx hb dX12_sums_33 rfl hl (by decide) rfl (fun ls hl => ?_)
  refine lv_iload_n hx hb dX12_sums_34 rfl (lv_at hl 0 rfl) ?_
  refine lv_iconst (v := 1) hx hb dX12_sums_35 (by decide) ?_
  refine lv_aload_n hx hb dX12_sums_36 rfl (lv_at hl 1 rfl) ?_
  refine k_get (ci := 15) (C := RX12) (T := TX12) (N := 27) (v := .ref h2) hx hb hG inX12 hown hK hP 0 rfl rfl 1 (by decide) gw1220 rfl dX12_sums_37 ?_
  refine ct_V (wr := [(h0, .inr (15, [.ref h1, .ref h2, .ref h3, .ref h4, .ref h5, .ref h6, .ref h7, .ref h8, .ref h9, .ref h10, .ref h11, .ref h12, .ref h13, .ref h14, .ref h15, .ref h16, .ref h17, .ref h18, .long 0, .int 0, .int 2, .int (-1), .int 0, .int 0, .int 0, .int 1, .int 0]))]) hSF hl.1 hP hD hS hA hK hGV (c56_Jx4a65c_size_8abf5 l hfl D cA g h2) goV_X12_125 pd_Jx4a65c_size_8abf5 ⟨(Nat.le_of_ble_eq_true rfl), (Nat.le_of_ble_eq_true rfl)⟩ ⟨(Nat.le_of_ble_eq_true rfl), (Nat.le_of_ble_eq_true rfl)⟩ (va_recv hK hP (ci := 2) (q0 := 1) rfl rfl) dX12_sums_40 rfl (Nat.le_of_ble_eq_true rfl) [1] [0] rfl (by decide) rfl (by decide) (by decide) (fun q => [(h0, .inr (15, [.ref h1, .ref h2, .ref h3, .ref h4, .ref h5, .ref h6, .ref h7, .ref h8, .ref h9, .ref h10, .ref h11, .ref h12, .ref h13, .ref h14, .ref h15, .ref h16, .ref h17, .ref h18, .long 0, .int 0, .int 2, .int (-1), .int 0, .int 0, .int 0, .int 1, .int 0])), (h2, .inr (2, [.int 0, .ref g.1, .int 0]))]) (fun _ => rfl) (fun q2 H locs hP hD hS => ?_)
  refine W.eq (g2 := F0 m 43 ls [.int 0, .int 1, .int 1]) rfl ?_
  refine k_ishl (v := 1) hx hb dX12_sums_43 (by decide) ?_
  refine k_icmp_ge_t (tgt := 141) hx hb dX12_sums_44 (by decide) (by decide) ?_
  exact e_v (fun _ => 0) hx hb hr hlocks rfl hP hD hS (Nat.le_of_ble_eq_true rfl) (Nat.le_of_ble_eq_true rfl) dX12_sums_141
set_option maxHeartbeats 4000000 in
set_option maxRecDepth 100000 in
theorem c287_X12_areEnough (l : Launch) (hfl : l.stackTraces = false) (D : va_G) (cA : Nat → ClassId) (g : gv_T) (h0 h1 h2 h3 h4 h5 h6 h7 h8 h9 h10 h11 h12 h13 h14 h15 h16 h17 h18 : Nat) : CT l yX12_areEnough cX12_areEnough 5 (some .boolean) (RM 1 0 0 20) D cA g [.ref h0, .int 0] [(h0, .inr (15, [.ref h1, .ref h2, .ref h3, .ref h4, .ref h5, .ref h6, .ref h7, .ref h8, .ref h9, .ref h10, .ref h11, .ref h12, .ref h13, .ref h14, .ref h15, .ref h16, .ref h17, .ref h18, .long 0, .int 0, .int 2, .int (-1), .int 0, .int 0, .int 0, .int 1, .int 0])), (h2, .inr (2, [.int 0, .ref g.1, .int 0])), (h9, .inl (cA 3, 512, .inl (fun _ => 0))), (h4, .inr (2, [.int 0, .ref g.1, .int 0]))] (fun q => some (.int 1)) (fun q => [(h0, .inr (15, [.ref h1, .ref h2, .ref h3, .ref h4, .ref h5, .ref h6, .ref h7, .ref h8, .ref h9, .ref h10, .ref h11, .ref h12, .ref h13, .ref h14, .ref h15, .ref h16, .ref h17, .ref h18, .long 0, .int 0, .int 2, .int (-1), .int 0, .int 0, .int 0, .int 1, .int 0])), (h2, .inr (2, [.int 0, .ref g.1, .int 0])), (h9, .inl (cA 3, 512, .inl (upd (fun _ => 0) 0 1))), (h4, .inr (2, [.int 0, .ref g.1, .int 0]))]) := by
  refine CT.of (by decide +kernel) (Nat.le_of_ble_eq_true rfl) ?_
  intro p e s m args below meth c A ls hx hb hr hml hown hG hlocks hnm hA hS hP hK hD hGV hl
  have hown : s.vm.findClass RX12 = some m.cls := hown
  have hl : lv_has ls 5 [(0, .ref h0), (1, .int 0)] := hl
  have hSF : CF p m c cX12_areEnough 5 s args RX12 := ⟨hx, hb, hml, hown, hG⟩
  refine lv_iconst (v := 1) hx hb dX12_areEnough_0 (by decide) ?_
  refine lv_aload_n hx hb dX12_areEnough_1 rfl (lv_at hl 0 rfl) ?_
  refine k_get (ci := 15) (C := RX12) (T := TX12) (N := 27) (v := .ref h2) hx hb hG inX12 hown hK hP 0 rfl rfl 1 (by decide) gw1220 rfl dX12_areEnough_2 ?_
  refine ct_V (wr := [(h0, .inr (15, [.ref h1, .ref h2, .ref h3, .ref h4, .ref h5, .ref h6, .ref h7, .ref h8, .ref h9, .ref h10, .ref h11, .ref h12, .ref h13, .ref h14, .ref h15, .ref h16, .ref h17, .ref h18, .long 0, .int 0, .int 2, .int (-1), .int 0, .int 0, .int 0, .int 1, .int 0])), (h9, .inl (cA 3, 512, .inl (fun _ => 0))), (h4, .inr (2, [.int 0, .ref g.1, .int 0]))]) hSF hl.1 hP hD hS hA hK hGV (c56_Jx4a65c_size_8abf5 l hfl D cA g h2) goV_X12_125 pd_Jx4a65c_size_8abf5 ⟨(Nat.le_of_ble_eq_true rfl), (Nat.le_of_ble_eq_true rfl)⟩ ⟨(Nat.le_of_ble_eq_true rfl), (Nat.le_of_ble_eq_true rfl)⟩ (va_recv hK hP (ci := 2) (q0 := 1) rfl rfl) dX12_areEnough_5 rfl (Nat.le_of_ble_eq_true rfl) [1] [0, 2, 3] rfl (by decide) rfl (by decide) (by decide) (fun q => [(h0, .inr (15, [.ref h1, .ref h2, .ref h3, .ref h4, .ref h5, .ref h6, .ref h7, .ref h8, .ref h9, .ref h10, .ref h11, .ref h12, .ref h13, .ref h14, .ref h15, .ref h16, .ref h17, .ref h18, .long 0, .int 0, .int 2, .int (-1), .int 0, .int 0, .int 0, .int 1, .int 0])), (h9, .inl (cA 3, 512, .inl (fun _ => 0))), (h4, .inr (2, [.int 0, .ref g.1, .int 0])), (h2, .inr (2, [.int 0, .ref g.1, .int 0]))]) (fun _ => rfl) (fun q1 H locs hP hD hS => ?_)
  refine W.eq (g2 := F0 m 8 ls [.int 0, .int 1]) rfl ?_
  refine k_ishl (v := 1) hx hb dX12_areEnough_8 (by decide) ?_
  refine lv_iconst (v := 1) hx hb dX12_areEnough_9 (by decide) ?_
  refine k_isub (v := 0) hx hb dX12_areEnough_10 (by decide) ?_
  refine lv_istore_n (lv' := [(2, .int 0), (0, .ref h0), (1, .int 0)]) hx hb dX12_areEnough_11 rfl hl (by decide) rfl (fun ls hl => ?_)
  refine lv_iconst (v := 0) hx hb dX12_areEnough_12 (by decide) ?_
  refine lv_istore_n (lv' := [(3, .int 0), (2, .int 0), (0, .ref h0), (1, .int 0)]) hx hb dX12_areEnough_13 rfl hl (by decide) rfl (fun ls hl => ?_)
  refine lv_iload_n hx hb dX12_areEnough_14 rfl (lv_at hl 0 rfl) ?_
  refine lv_iload_n hx hb dX12_areEnough_15 rfl (lv_at hl 1 rfl) ?_
  refine k_icmp_gt_f (tgt := 40) hx hb dX12_areEnough_16 (by decide) (by decide) ?_
  refine lv_aload_n hx hb dX12_areEnough_19 rfl (lv_at hl 2 rfl) ?_
  refine k_get (ci := 15) (C := RX12) (T := TX12) (N := 27) (v := .ref h9) hx hb hG inX12 hown hK hP 0 rfl rfl 8 (by decide) gw1227 rfl dX12_areEnough_20 ?_
  refine lv_iload_n hx hb dX12_areEnough_23 rfl (lv_at hl 0 rfl) ?_
  refine lv_iload_n hx hb dX12_areEnough_24 rfl (lv_at hl 0 rfl) ?_
  refine k_if_ne_f (tgt := 32) hx hb dX12_areEnough_25 (by decide) (by decide) ?_
  refine lv_iconst (v := 1) hx hb dX12_areEnough_28 (by decide) ?_
  refine lv_goto (tgt := 33) hx hb dX12_areEnough_29 (by decide) ?_
  refine k_zast (ws1 := [(h0, .inr (15, [.ref h1, .ref h2, .ref h3, .ref h4, .ref h5, .ref h6, .ref h7, .ref h8, .ref h9, .ref h10, .ref h11, .ref h12, .ref h13, .ref h14, .ref h15, .ref h16, .ref h17, .ref h18, .long 0, .int 0, .int 2, .int (-1), .int 0, .int 0, .int 0, .int 1, .int 0])), (h9, .inl (cA 3, 512, .inl (upd (fun _ => 0) 0 1))), (h4, .inr (2, [.int 0, .ref g.1, .int 0])), (h2, .inr (2, [.int 0, .ref g.1, .int 0]))]) hx hb hK hP hD hS 1 rfl rfl (by unfold vp_in; decide) dX12_areEnough_33 (fun H locs hP hD hS => ?_)
  refine lv_iinc (v := 1) (lv' := [(3, .int 1), (2, .int 0), (0, .ref h0), (1, .int 0)]) hx hb dX12_areEnough_34 hl (k := 0) rfl (by decide) (by decide) rfl (fun ls hl => ?_)
  refine lv_goto (tgt := 14) hx hb dX12_areEnough_37 (by decide) ?_
  refine lv_iload_n hx hb dX12_areEnough_14 rfl (lv_at hl 0 rfl) ?_
  refine lv_iload_n hx hb dX12_areEnough_15 rfl (lv_at hl 1 rfl) ?_
  refine k_icmp_gt_t (tgt := 40) hx hb dX12_areEnough_16 (by decide) (by decide) ?_
  refine lv_iconst (v := 0) hx hb dX12_areEnough_40 (by decide) ?_
  refine lv_istore_n (lv' := [(3, .int 0), (2, .int 0), (0, .ref h0), (1, .int 0)]) hx hb dX12_areEnough_41 rfl hl (by decide) rfl (fun ls hl => ?_)
  refine lv_iload_n hx hb dX12_areEnough_42 rfl (lv_at hl 0 rfl) ?_
  refine lv_aload_n hx hb dX12_areEnough_43 rfl (lv_at hl 2 rfl) ?_
  refine k_get (ci := 15) (C := RX12) (T := TX12) (N := 27) (v := .ref h4) hx hb hG inX12 hown hK hP 0 rfl rfl 3 (by decide) gw1222 rfl dX12_areEnough_44 ?_
  refine ct_V (wr := [(h0, .inr (15, [.ref h1, .ref h2, .ref h3, .ref h4, .ref h5, .ref h6, .ref h7, .ref h8, .ref h9, .ref h10, .ref h11, .ref h12, .ref h13, .ref h14, .ref h15, .ref h16, .ref h17, .ref h18, .long 0, .int 0, .int 2, .int (-1), .int 0, .int 0, .int 0, .int 1, .int 0])), (h9, .inl (cA 3, 512, .inl (upd (fun _ => 0) 0 1))), (h2, .inr (2, [.int 0, .ref g.1, .int 0]))]) hSF hl.1 hP hD hS hA hK hGV (c56_Jx4a65c_size_8abf5 l hfl D cA g h4) goV_X12_125 pd_Jx4a65c_size_8abf5 ⟨(Nat.le_of_ble_eq_true rfl), (Nat.le_of_ble_eq_true rfl)⟩ ⟨(Nat.le_of_ble_eq_true rfl), (Nat.le_of_ble_eq_true rfl)⟩ (va_recv hK hP (ci := 2) (q0 := 2) rfl rfl) dX12_areEnough_47 rfl (Nat.le_of_ble_eq_true rfl) [2] [0, 1, 3] rfl (by decide) rfl (by decide) (by decide) (fun q => [(h0, .inr (15, [.ref h1, .ref h2, .ref h3, .ref h4, .ref h5, .ref h6, .ref h7, .ref h8, .ref h9, .ref h10, .ref h11, .ref h12, .ref h13, .ref h14, .ref h15, .ref h16, .ref h17, .ref h18, .long 0, .int 0, .int 2, .int (-1), .int 0, .int 0, .int 0, .int 1, .int 0])), (h9, .inl (cA 3, 512, .inl (upd (fun _ => 0) 0 1))), (h2, .inr (2, [.int 0, .ref g.1, .int 0])), (h4, .inr (2, [.int 0, .ref g.1, .int 0]))]) (fun _ => rfl) (fun q2 H locs hP hD hS => ?_)
  refine W.eq (g2 := F0 m 50 ls [.int 0, .int 0]) rfl ?_
  refine k_icmp_ge_t (tgt := 126) hx hb dX12_areEnough_50 (by decide) (by decide) ?_
  refine lv_aload_n hx hb dX12_areEnough_126 rfl (lv_at hl 2 rfl) ?_
  refine k_get (ci := 15) (C := RX12) (T := TX12) (N := 27) (v := .ref h9) hx hb hG inX12 hown hK hP 0 rfl rfl 8 (by decide) gw1227 rfl dX12_areEnough_127 ?_
  refine lv_iload_n hx hb dX12_areEnough_130 rfl (lv_at hl 1 rfl) ?_
  refine k_zald (v := 1) hx hb hK hP 1 rfl 0 (by decide) rfl (by unfold vp_in; decide) dX12_areEnough_131 ?_
  exact e_i (fun _ => 0) hx hb hr hlocks rfl rfl (hP.sub [0, 2, 1, 3] rfl) (hD.sub [0, 2, 1, 3] (by decide) rfl) hS (Nat.le_of_ble_eq_true rfl) (Nat.le_of_ble_eq_true rfl) dX12_areEnough_132
set_option maxHeartbeats 4000000 in
set_option maxRecDepth 100000 in
theorem c288_X12_cuts (l : Launch) (hfl : l.stackTraces = false) (D : va_G) (cA : Nat → ClassId) (g : gv_T) (h0 h1 h2 h3 h4 h5 h6 h7 h8 h9 h10 h11 h12 h13 h14 h15 h16 h17 h18 : Nat) : CT l yX12_cuts cX12_cuts 8 (some .boolean) (RM 1 0 0 20) D cA g [.ref h0, .int 0, .int 0] [(h0, .inr (15, [.ref h1, .ref h2, .ref h3, .ref h4, .ref h5, .ref h6, .ref h7, .ref h8, .ref h9, .ref h10, .ref h11, .ref h12, .ref h13, .ref h14, .ref h15, .ref h16, .ref h17, .ref h18, .long 0, .int 0, .int 2, .int (-1), .int 0, .int 0, .int 0, .int 1, .int 0])), (h2, .inr (2, [.int 0, .ref g.1, .int 0]))] (fun q => some (.int 1)) (fun q => [(h0, .inr (15, [.ref h1, .ref h2, .ref h3, .ref h4, .ref h5, .ref h6, .ref h7, .ref h8, .ref h9, .ref h10, .ref h11, .ref h12, .ref h13, .ref h14, .ref h15, .ref h16, .ref h17, .ref h18, .long 0, .int 0, .int 2, .int (-1), .int 0, .int 0, .int 0, .int 1, .int 0])), (h2, .inr (2, [.int 0, .ref g.1, .int 0]))]) := by
  refine CT.of (by decide +kernel) (Nat.le_of_ble_eq_true rfl) ?_
  intro p e s m args below meth c A ls hx hb hr hml hown hG hlocks hnm hA hS hP hK hD hGV hl
  have hown : s.vm.findClass RX12 = some m.cls := hown
  have hl : lv_has ls 8 [(0, .ref h0), (1, .int 0), (2, .int 0)] := hl
  have hSF : CF p m c cX12_cuts 8 s args RX12 := ⟨hx, hb, hml, hown, hG⟩
  refine lv_iload_n hx hb dX12_cuts_0 rfl (lv_at hl 2 rfl) ?_
  refine lv_aload_n hx hb dX12_cuts_1 rfl (lv_at hl 0 rfl) ?_
  refine k_get (ci := 15) (C := RX12) (T := TX12) (N := 27) (v := .ref h2) hx hb hG inX12 hown hK hP 0 rfl rfl 1 (by decide) gw1220 rfl dX12_cuts_2 ?_
  refine ct_V (wr := [(h0, .inr (15, [.ref h1, .ref h2, .ref h3, .ref h4, .ref h5, .ref h6, .ref h7, .ref h8, .ref h9, .ref h10, .ref h11, .ref h12, .ref h13, .ref h14, .ref h15, .ref h16, .ref h17, .ref h18, .long 0, .int 0, .int 2, .int (-1), .int 0, .int 0, .int 0, .int 1, .int 0]))]) hSF hl.1 hP hD hS hA hK hGV (c56_Jx4a65c_size_8abf5 l hfl D cA g h2) goV_X12_125 pd_Jx4a65c_size_8abf5 ⟨(Nat.le_of_ble_eq_true rfl), (Nat.le_of_ble_eq_true rfl)⟩ ⟨(Nat.le_of_ble_eq_true rfl), (Nat.le_of_ble_eq_true rfl)⟩ (va_recv hK hP (ci := 2) (q0 := 1) rfl rfl) dX12_cuts_5 rfl (Nat.le_of_ble_eq_true rfl) [1] [0] rfl (by decide) rfl (by decide) (by decide) (fun q => [(h0, .inr (15, [.ref h1, .ref h2, .ref h3, .ref h4, .ref h5, .ref h6, .ref h7, .ref h8, .ref h9, .ref h10, .ref h11, .ref h12, .ref h13, .ref h14, .ref h15, .ref h16, .ref h17, .ref h18, .long 0, .int 0, .int 2, .int (-1), .int 0, .int 0, .int 0, .int 1, .int 0])), (h2, .inr (2, [.int 0, .ref g.1, .int 0]))]) (fun _ => rfl) (fun q1 H locs hP hD hS => ?_)
  refine W.eq (g2 := F0 m 8 ls [.int 0, .int 0]) rfl ?_
  refine k_icmp_ne_f (tgt := 13) hx hb dX12_cuts_8 (by decide) (by decide) ?_
  refine lv_iconst (v := 1) hx hb dX12_cuts_11 (by decide) ?_
  exact e_i (fun _ => 0) hx hb hr hlocks rfl rfl hP hD hS (Nat.le_of_ble_eq_true rfl) (Nat.le_of_ble_eq_true rfl) dX12_cuts_12
set_option maxHeartbeats 4000000 in
set_option maxRecDepth 100000 in
theorem c289_X12_saws (l : Launch) (hfl : l.stackTraces = false) (D : va_G) (cA : Nat → ClassId) (g : gv_T) (h0 h1 h2 h3 h4 h5 h6 h7 h8 h9 h10 h11 h12 h13 h14 h15 h16 h17 h18 : Nat) : CT l yX12_saws cX12_saws 4 none (RM 2 0 0 47) D cA g [.ref h0] [(h0, .inr (15, [.ref h1, .ref h2, .ref h3, .ref h4, .ref h5, .ref h6, .ref h7, .ref h8, .ref h9, .ref h10, .ref h11, .ref h12, .ref h13, .ref h14, .ref h15, .ref h16, .ref h17, .ref h18, .long 0, .int 0, .int 2, .int 0, .int 0, .int 0, .int 0, .int 0, .int 0])), (h2, .inr (2, [.int 0, .ref g.1, .int 0])), (h4, .inr (2, [.int 0, .ref g.1, .int 0])), (h9, .inl (cA 3, 512, .inl (fun _ => 0)))] (fun q => none) (fun q => [(h0, .inr (15, [.ref h1, .ref h2, .ref h3, .ref h4, .ref h5, .ref h6, .ref h7, .ref h8, .ref h9, .ref h10, .ref h11, .ref h12, .ref h13, .ref h14, .ref h15, .ref h16, .ref h17, .ref h18, .long 0, .int 0, .int 2, .int 0, .int 0, .int 0, .int 0, .int 1, .int 0])), (h2, .inr (2, [.int 0, .ref g.1, .int 0])), (h4, .inr (2, [.int 0, .ref g.1, .int 0])), (h9, .inl (cA 3, 512, .inl (upd (fun _ => 0) 0 1)))]) := by
  refine CT.of (by decide +kernel) (Nat.le_of_ble_eq_true rfl) ?_
  intro p e s m args below meth c A ls hx hb hr hml hown hG hlocks hnm hA hS hP hK hD hGV hl
  have hown : s.vm.findClass RX12 = some m.cls := hown
  have hl : lv_has ls 4 [(0, .ref h0)] := hl
  have hSF : CF p m c cX12_saws 4 s args RX12 := ⟨hx, hb, hml, hown, hG⟩
  refine lv_aload_n hx hb dX12_saws_0 rfl (lv_at hl 0 rfl) ?_
  refine k_get (ci := 15) (C := RX12) (T := TX12) (N := 27) (v := .int 0) hx hb hG inX12 hown hK hP 0 rfl rfl 25 (by decide) gw1244 rfl dX12_saws_1 ?_
  refine k_if_eq_t (tgt := 8) hx hb dX12_saws_4 (by decide) (by decide) ?_
  refine lv_aload_n hx hb dX12_saws_8 rfl (lv_at hl 0 rfl) ?_
  refine lv_iconst (v := 1) hx hb dX12_saws_9 (by decide) ?_
  refine k_put (ci := 15) (C := RX12) (T := TX12) (N := 27) (v := .int 1) (ws1 := [(h0, .inr (15, [.ref h1, .ref h2, .ref h3, .ref h4, .ref h5, .ref h6, .ref h7, .ref h8, .ref h9, .ref h10, .ref h11, .ref h12, .ref h13, .ref h14, .ref h15, .ref h16, .ref h17, .ref h18, .long 0, .int 0, .int 2, .int 0, .int 0, .int 0, .int 0, .int 1, .int 0])), (h2, .inr (2, [.int 0, .ref g.1, .int 0])), (h4, .inr (2, [.int 0, .ref g.1, .int 0])), (h9, .inl (cA 3, 512, .inl (fun _ => 0)))]) hx hb hG inX12 tyX12 tyX12_ok nmX12 hown hK hP hD hS 0 rfl rfl 25 (by decide) gw1244 rfl ⟨rfl, rfl⟩ rfl (Nat.le_of_ble_eq_true rfl) dX12_saws_10 (fun H locs hP hD hS => ?_)
  refine lv_aload_n hx hb dX12_saws_13 rfl (lv_at hl 0 rfl) ?_
  refine lv_iconst (v := (-1)) hx hb dX12_saws_14 (by decide) ?_
  refine k_put (ci := 15) (C := RX12) (T := TX12) (N := 27) (v := .int (-1)) (ws1 := [(h0, .inr (15, [.ref h1, .ref h2, .ref h3, .ref h4, .ref h5, .ref h6, .ref h7, .ref h8, .ref h9, .ref h10, .ref h11, .ref h12, .ref h13, .ref h14, .ref h15, .ref h16, .ref h17, .ref h18, .long 0, .int 0, .int 2, .int (-1), .int 0, .int 0, .int 0, .int 1, .int 0])), (h2, .inr (2, [.int 0, .ref g.1, .int 0])), (h4, .inr (2, [.int 0, .ref g.1, .int 0])), (h9, .inl (cA 3, 512, .inl (fun _ => 0)))]) hx hb hG inX12 tyX12 tyX12_ok nmX12 hown hK hP hD hS 0 rfl rfl 21 (by decide) gw1240 rfl ⟨rfl, rfl⟩ rfl (Nat.le_of_ble_eq_true rfl) dX12_saws_15 (fun H locs hP hD hS => ?_)
  refine lv_aload_n hx hb dX12_saws_18 rfl (lv_at hl 0 rfl) ?_
  refine ct_V (wr := [(h4, .inr (2, [.int 0, .ref g.1, .int 0])), (h9, .inl (cA 3, 512, .inl (fun _ => 0)))]) hSF hl.1 hP hD hS hA hK hGV (c286_X12_sums l hfl D cA g h0 h1 h2 h3 h4 h5 h6 h7 h8 h9 h10 h11 h12 h13 h14 h15 h16 h17 h18) goV_X12_271 pd_X12_sums ⟨(Nat.le_of_ble_eq_true rfl), (Nat.le_of_ble_eq_true rfl)⟩ ⟨(Nat.le_of_ble_eq_true rfl), (Nat.le_of_ble_eq_true rfl)⟩ (va_recv hK hP (ci := 15) (q0 := 0) rfl rfl) dX12_saws_19 rfl (Nat.le_of_ble_eq_true rfl) [0, 1] [2, 3] rfl (by decide) rfl (by decide) (by decide) (fun q => [(h4, .inr (2, [.int 0, .ref g.1, .int 0])), (h9, .inl (cA 3, 512, .inl (fun _ => 0))), (h0, .inr (15, [.ref h1, .ref h2, .ref h3, .ref h4, .ref h5, .ref h6, .ref h7, .ref h8, .ref h9, .ref h10, .ref h11, .ref h12, .ref h13, .ref h14, .ref h15, .ref h16, .ref h17, .ref h18, .long 0, .int 0, .int 2, .int (-1), .int 0, .int 0, .int 0, .int 1, .int 0])), (h2, .inr (2, [.int 0, .ref g.1, .int 0]))]) (fun _ => rfl) (fun q1 H locs hP hD hS => ?_)
  refine W.eq (g2 := F0 m 22 ls []) rfl ?_
  refine lv_iconst (v := 0) hx hb dX12_saws_22 (by decide) ?_
  refine lv_istore_n (lv' := [(1, .int 0), (0, .ref h0)]) hx hb dX12_saws_23 rfl hl (by decide) rfl (fun ls hl => ?_)
  refine lv_iload_n hx hb dX12_saws_24 rfl (lv_at hl 0 rfl) ?_
  refine lv_iconst (v := 1) hx hb dX12_saws_25 (by decide) ?_
  refine lv_aload_n hx hb dX12_saws_26 rfl (lv_at hl 1 rfl) ?_
  refine k_get (ci := 15) (C := RX12) (T := TX12) (N := 27) (v := .ref h4) hx hb hG inX12 hown hK hP 2 rfl rfl 3 (by decide) gw1222 rfl dX12_saws_27 ?_
  refine ct_V (wr := [(h9, .inl (cA 3, 512, .inl (fun _ => 0))), (h0, .inr (15, [.ref h1, .ref h2, .ref h3, .ref h4, .ref h5, .ref h6, .ref h7, .ref h8, .ref h9, .ref h10, .ref h11, .ref h12, .ref h13, .ref h14, .ref h15, .ref h16, .ref h17, .ref h18, .long 0, .int 0, .int 2, .int (-1), .int 0, .int 0, .int 0, .int 1, .int 0])), (h2, .inr (2, [.int 0, .ref g.1, .int 0]))]) hSF hl.1 hP hD hS hA hK hGV (c56_Jx4a65c_size_8abf5 l hfl D cA g h4) goV_X12_125 pd_Jx4a65c_size_8abf5 ⟨(Nat.le_of_ble_eq_true rfl), (Nat.le_of_ble_eq_true rfl)⟩ ⟨(Nat.le_of_ble_eq_true rfl), (Nat.le_of_ble_eq_true rfl)⟩ (va_recv hK hP (ci := 2) (q0 := 0) rfl rfl) dX12_saws_30 rfl (Nat.le_of_ble_eq_true rfl) [0] [1, 2, 3] rfl (by decide) rfl (by decide) (by decide) (fun q => [(h9, .inl (cA 3, 512, .inl (fun _ => 0))), (h0, .inr (15, [.ref h1, .ref h2, .ref h3, .ref h4, .ref h5, .ref h6, .ref h7, .ref h8, .ref h9, .ref h10, .ref h11, .ref h12, .ref h13, .ref h14, .ref h15, .ref h16, .ref h17, .ref h18, .long 0, .int 0, .int 2, .int (-1), .int 0, .int 0, .int 0, .int 1, .int 0])), (h2, .inr (2, [.int 0, .ref g.1, .int 0])), (h4, .inr (2, [.int 0, .ref g.1, .int 0]))]) (fun _ => rfl) (fun q2 H locs hP hD hS => ?_)
  refine W.eq (g2 := F0 m 33 ls [.int 0, .int 1, .int 0]) rfl ?_
  refine k_ishl (v := 1) hx hb dX12_saws_33 (by decide) ?_
  refine k_icmp_ge_f (tgt := 212) hx hb dX12_saws_34 (by decide) (by decide) ?_
  refine lv_iconst (v := 0) hx hb dX12_saws_37 (by decide) ?_
  refine lv_istore_n (lv' := [(2, .int 0), (1, .int 0), (0, .ref h0)]) hx hb dX12_saws_38 rfl hl (by decide) rfl (fun ls hl => ?_)
  refine lv_iconst (v := 0) hx hb dX12_saws_39 (by decide) ?_
  refine lv_istore_n (lv' := [(3, .int 0), (2, .int 0), (1, .int 0), (0, .ref h0)]) hx hb dX12_saws_40 rfl hl (by decide) rfl (fun ls hl => ?_)
  refine lv_iload_n hx hb dX12_saws_41 rfl (lv_at hl 0 rfl) ?_
  refine lv_aload_n hx hb dX12_saws_42 rfl (lv_at hl 3 rfl) ?_
  refine k_get (ci := 15) (C := RX12) (T := TX12) (N := 27) (v := .ref h4) hx hb hG inX12 hown hK hP 1 rfl rfl 3 (by decide) gw1222 rfl dX12_saws_43 ?_
  refine ct_V (wr := [(h9, .inl (cA 3, 512, .inl (fun _ => 0))), (h0, .inr (15, [.ref h1, .ref h2, .ref h3, .ref h4, .ref h5, .ref h6, .ref h7, .ref h8, .ref h9, .ref h10, .ref h11, .ref h12, .ref h13, .ref h14, .ref h15, .ref h16, .ref h17, .ref h18, .long 0, .int 0, .int 2, .int (-1), .int 0, .int 0, .int 0, .int 1, .int 0])), (h2, .inr (2, [.int 0, .ref g.1, .int 0]))]) hSF hl.1 hP hD hS hA hK hGV (c56_Jx4a65c_size_8abf5 l hfl D cA g h4) goV_X12_125 pd_Jx4a65c_size_8abf5 ⟨(Nat.le_of_ble_eq_true rfl), (Nat.le_of_ble_eq_true rfl)⟩ ⟨(Nat.le_of_ble_eq_true rfl), (Nat.le_of_ble_eq_true rfl)⟩ (va_recv hK hP (ci := 2) (q0 := 3) rfl rfl) dX12_saws_46 rfl (Nat.le_of_ble_eq_true rfl) [3] [0, 1, 2] rfl (by decide) rfl (by decide) (by decide) (fun q => [(h9, .inl (cA 3, 512, .inl (fun _ => 0))), (h0, .inr (15, [.ref h1, .ref h2, .ref h3, .ref h4, .ref h5, .ref h6, .ref h7, .ref h8, .ref h9, .ref h10, .ref h11, .ref h12, .ref h13, .ref h14, .ref h15, .ref h16, .ref h17, .ref h18, .long 0, .int 0, .int 2, .int (-1), .int 0, .int 0, .int 0, .int 1, .int 0])), (h2, .inr (2, [.int 0, .ref g.1, .int 0])), (h4, .inr (2, [.int 0, .ref g.1, .int 0]))]) (fun _ => rfl) (fun q3 H locs hP hD hS => ?_)
  refine W.eq (g2 := F0 m 49 ls [.int 0, .int 0]) rfl ?_
  refine k_icmp_ge_t (tgt := 108) hx hb dX12_saws_49 (by decide) (by decide) ?_
  refine lv_aload_n hx hb dX12_saws_108 rfl (lv_at hl 3 rfl) ?_
  refine k_get (ci := 15) (C := RX12) (T := TX12) (N := 27) (v := .int (-1)) hx hb hG inX12 hown hK hP 1 rfl rfl 21 (by decide) gw1240 rfl dX12_saws_109 ?_
  refine lv_iconst (v := (-1)) hx hb dX12_saws_112 (by decide) ?_
  refine k_icmp_eq_t (tgt := 124) hx hb dX12_saws_113 (by decide) (by decide) ?_
  refine lv_aload_n hx hb dX12_saws_124 rfl (lv_at hl 3 rfl) ?_
  refine lv_iload_n hx hb dX12_saws_125 rfl (lv_at hl 2 rfl) ?_
  refine ct_V (wr := []) hSF hl.1 hP hD hS hA hK hGV (c287_X12_areEnough l hfl D cA g h0 h1 h2 h3 h4 h5 h6 h7 h8 h9 h10 h11 h12 h13 h14 h15 h16 h17 h18) goV_X12_274 pd_X12_areEnough ⟨(Nat.le_of_ble_eq_true rfl), (Nat.le_of_ble_eq_true rfl)⟩ ⟨(Nat.le_of_ble_eq_true rfl), (Nat.le_of_ble_eq_true rfl)⟩ (va_recv hK hP (ci := 15) (q0 := 1) rfl rfl) dX12_saws_126 rfl (Nat.le_of_ble_eq_true rfl) [1, 2, 0, 3] [] rfl (by decide) rfl (by decide) (by decide) (fun q => [(h0, .inr (15, [.ref h1, .ref h2, .ref h3, .ref h4, .ref h5, .ref h6, .ref h7, .ref h8, .ref h9, .ref h10, .ref h11, .ref h12, .ref h13, .ref h14, .ref h15, .ref h16, .ref h17, .ref h18, .long 0, .int 0, .int 2, .int (-1), .int 0, .int 0, .int 0, .int 1, .int 0])), (h2, .inr (2, [.int 0, .ref g.1, .int 0])), (h9, .inl (cA 3, 512, .inl (upd (fun _ => 0) 0 1))), (h4, .inr (2, [.int 0, .ref g.1, .int 0]))]) (fun _ => rfl) (fun q4 H locs hP hD hS => ?_)
  refine W.eq (g2 := F0 m 129 ls [.int 1]) rfl ?_
  refine k_if_eq_f (tgt := 206) hx hb dX12_saws_129 (by decide) (by decide) ?_
  refine lv_aload_n hx hb dX12_saws_132 rfl (lv_at hl 3 rfl) ?_
  refine lv_iload_n hx hb dX12_saws_133 rfl (lv_at hl 2 rfl) ?_
  refine lv_iconst (v := 0) hx hb dX12_saws_134 (by decide) ?_
  refine ct_V (wr := [(h9, .inl (cA 3, 512, .inl (upd (fun _ => 0) 0 1))), (h4, .inr (2, [.int 0, .ref g.1, .int 0]))]) hSF hl.1 hP hD hS hA hK hGV (c288_X12_cuts l hfl D cA g h0 h1 h2 h3 h4 h5 h6 h7 h8 h9 h10 h11 h12 h13 h14 h15 h16 h17 h18) goV_X12_249 pd_X12_cuts ⟨(Nat.le_of_ble_eq_true rfl), (Nat.le_of_ble_eq_true rfl)⟩ ⟨(Nat.le_of_ble_eq_true rfl), (Nat.le_of_ble_eq_true rfl)⟩ (va_recv hK hP (ci := 15) (q0 := 0) rfl rfl) dX12_saws_135 rfl (Nat.le_of_ble_eq_true rfl) [0, 1] [2, 3] rfl (by decide) rfl (by decide) (by decide) (fun q => [(h9, .inl (cA 3, 512, .inl (upd (fun _ => 0) 0 1))), (h4, .inr (2, [.int 0, .ref g.1, .int 0])), (h0, .inr (15, [.ref h1, .ref h2, .ref h3, .ref h4, .ref h5, .ref h6, .ref h7, .ref h8, .ref h9, .ref h10, .ref h11, .ref h12, .ref h13, .ref h14, .ref h15, .ref h16, .ref h17, .ref h18, .long 0, .int 0, .int 2, .int (-1), .int 0, .int 0, .int 0, .int 1, .int 0])), (h2, .inr (2, [.int 0, .ref g.1, .int 0]))]) (fun _ => rfl) (fun q5 H locs hP hD hS => ?_)
  refine W.eq (g2 := F0 m 138 ls [.int 1]) rfl ?_
  refine k_if_ne_t (tgt := 144) hx hb dX12_saws_138 (by decide) (by decide) ?_
  refine lv_aload_n hx hb dX12_saws_144 rfl (lv_at hl 3 rfl) ?_
  refine k_get (ci := 15) (C := RX12) (T := TX12) (N := 27) (v := .int (-1)) hx hb hG inX12 hown hK hP 2 rfl rfl 21 (by decide) gw1240 rfl dX12_saws_145 ?_
  refine lv_iconst (v := (-1)) hx hb dX12_saws_148 (by decide) ?_
  refine k_icmp_eq_t (tgt := 170) hx hb dX12_saws_149 (by decide) (by decide) ?_
  refine lv_aload_n hx hb dX12_saws_170 rfl (lv_at hl 3 rfl) ?_
  refine lv_iload_n hx hb dX12_saws_171 rfl (lv_at hl 1 rfl) ?_
  refine k_put (ci := 15) (C := RX12) (T := TX12) (N := 27) (v := .int 0) (ws1 := [(h9, .inl (cA 3, 512, .inl (upd (fun _ => 0) 0 1))), (h4, .inr (2, [.int 0, .ref g.1, .int 0])), (h0, .inr (15, [.ref h1, .ref h2, .ref h3, .ref h4, .ref h5, .ref h6, .ref h7, .ref h8, .ref h9, .ref h10, .ref h11, .ref h12, .ref h13, .ref h14, .ref h15, .ref h16, .ref h17, .ref h18, .long 0, .int 0, .int 2, .int 0, .int 0, .int 0, .int 0, .int 1, .int 0])), (h2, .inr (2, [.int 0, .ref g.1, .int 0]))]) hx hb hG inX12 tyX12 tyX12_ok nmX12 hown hK hP hD hS 2 rfl rfl 21 (by decide) gw1240 rfl ⟨rfl, rfl⟩ rfl (Nat.le_of_ble_eq_true rfl) dX12_saws_172 (fun H locs hP hD hS => ?_)
  refine lv_iconst (v := 0) hx hb dX12_saws_175 (by decide) ?_
  refine lv_istore_n (lv' := [(3, .int 0), (2, .int 0), (1, .int 0), (0, .ref h0)]) hx hb dX12_saws_176 rfl hl (by decide) rfl (fun ls hl => ?_)
  refine lv_iload_n hx hb dX12_saws_177 rfl (lv_at hl 0 rfl) ?_
  refine lv_aload_n hx hb dX12_saws_178 rfl (lv_at hl 3 rfl) ?_
  refine k_get (ci := 15) (C := RX12) (T := TX12) (N := 27) (v := .ref h2) hx hb hG inX12 hown hK hP 2 rfl rfl 1 (by decide) gw1220 rfl dX12_saws_179 ?_
  refine ct_V (wr := [(h9, .inl (cA 3, 512, .inl (upd (fun _ => 0) 0 1))), (h4, .inr (2, [.int 0, .ref g.1, .int 0])), (h0, .inr (15, [.ref h1, .ref h2, .ref h3, .ref h4, .ref h5, .ref h6, .ref h7, .ref h8, .ref h9, .ref h10, .ref h11, .ref h12, .ref h13, .ref h14, .ref h15, .ref h16, .ref h17, .ref h18, .long 0, .int 0, .int 2, .int 0, .int 0, .int 0, .int 0, .int 1, .int 0]))]) hSF hl.1 hP hD hS hA hK hGV (c56_Jx4a65c_size_8abf5 l hfl D cA g h2) goV_X12_125 pd_Jx4a65c_size_8abf5 ⟨(Nat.le_of_ble_eq_true rfl), (Nat.le_of_ble_eq_true rfl)⟩ ⟨(Nat.le_of_ble_eq_true rfl), (Nat.le_of_ble_eq_true rfl)⟩ (va_recv hK hP (ci := 2) (q0 := 3) rfl rfl) dX12_saws_182 rfl (Nat.le_of_ble_eq_true rfl) [3] [0, 1, 2] rfl (by decide) rfl (by decide) (by decide) (fun q => [(h9, .inl (cA 3, 512, .inl (upd (fun _ => 0) 0 1))), (h4, .inr (2, [.int 0, .ref g.1, .int 0])), (h0, .inr (15, [.ref h1, .ref h2, .ref h3, .ref h4, .ref h5, .ref h6, .ref h7, .ref h8, .ref h9, .ref h10, .ref h11, .ref h12, .ref h13, .ref h14, .ref h15, .ref h16, .ref h17, .ref h18, .long 0, .int 0, .int 2, .int 0, .int 0, .int 0, .int 0, .int 1, .int 0])), (h2, .inr (2, [.int 0, .ref g.1, .int 0]))]) (fun _ => rfl) (fun q6 H locs hP hD hS => ?_)
  refine W.eq (g2 := F0 m 185 ls [.int 0, .int 0]) rfl ?_
  refine k_icmp_ge_t (tgt := 206) hx hb dX12_saws_185 (by decide) (by decide) ?_
  refine lv_iinc (v := 1) (lv' := [(1, .int 1), (3, .int 0), (2, .int 0), (0, .ref h0)]) hx hb dX12_saws_206 hl (k := 2) rfl (by decide) (by decide) rfl (fun ls hl => ?_)
  refine lv_goto (tgt := 24) hx hb dX12_saws_209 (by decide) ?_
  refine lv_iload_n hx hb dX12_saws_24 rfl (lv_at hl 0 rfl) ?_
  refine lv_iconst (v := 1) hx hb dX12_saws_25 (by decide) ?_
  refine lv_aload_n hx hb dX12_saws_26 rfl (lv_at hl 3 rfl) ?_
  refine k_get (ci := 15) (C := RX12) (T := TX12) (N := 27) (v := .ref h4) hx hb hG inX12 hown hK hP 2 rfl rfl 3 (by decide) gw1222 rfl dX12_saws_27 ?_
  refine ct_V (wr := [(h9, .inl (cA 3, 512, .inl (upd (fun _ => 0) 0 1))), (h0, .inr (15, [.ref h1, .ref h2, .ref h3, .ref h4, .ref h5, .ref h6, .ref h7, .ref h8, .ref h9, .ref h10, .ref h11, .ref h12, .ref h13, .ref h14, .ref h15, .ref h16, .ref h17, .ref h18, .long 0, .int 0, .int 2, .int 0, .int 0, .int 0, .int 0, .int 1, .int 0])), (h2, .inr (2, [.int 0, .ref g.1, .int 0]))]) hSF hl.1 hP hD hS hA hK hGV (c56_Jx4a65c_size_8abf5 l hfl D cA g h4) goV_X12_125 pd_Jx4a65c_size_8abf5 ⟨(Nat.le_of_ble_eq_true rfl), (Nat.le_of_ble_eq_true rfl)⟩ ⟨(Nat.le_of_ble_eq_true rfl), (Nat.le_of_ble_eq_true rfl)⟩ (va_recv hK hP (ci := 2) (q0 := 1) rfl rfl) dX12_saws_30 rfl (Nat.le_of_ble_eq_true rfl) [1] [0, 2, 3] rfl (by decide) rfl (by decide) (by decide) (fun q => [(h9, .inl (cA 3, 512, .inl (upd (fun _ => 0) 0 1))), (h0, .inr (15, [.ref h1, .ref h2, .ref h3, .ref h4, .ref h5, .ref h6, .ref h7, .ref h8, .ref h9, .ref h10, .ref h11, .ref h12, .ref h13, .ref h14, .ref h15, .ref h16, .ref h17, .ref h18, .long 0, .int 0, .int 2, .int 0, .int 0, .int 0, .int 0, .int 1, .int 0])), (h2, .inr (2, [.int 0, .ref g.1, .int 0])), (h4, .inr (2, [.int 0, .ref g.1, .int 0]))]) (fun _ => rfl) (fun q7 H locs hP hD hS => ?_)
  refine W.eq (g2 := F0 m 33 ls [.int 0, .int 1, .int 1]) rfl ?_
  refine k_ishl (v := 1) hx hb dX12_saws_33 (by decide) ?_
  refine k_icmp_ge_t (tgt := 212) hx hb dX12_saws_34 (by decide) (by decide) ?_
  exact e_v (fun _ => 0) hx hb hr hlocks rfl (hP.sub [1, 2, 3, 0] rfl) (hD.sub [1, 2, 3, 0] (by decide) rfl) hS (Nat.le_of_ble_eq_true rfl) (Nat.le_of_ble_eq_true rfl) dX12_saws_212
set_option maxHeartbeats 4000000 in
set_option maxRecDepth 100000 in
theorem c290_X12_areCut (l : Launch) (hfl : l.stackTraces = false) (D : va_G) (cA : Nat → ClassId) (g : gv_T) (h0 h1 h2 h3 h4 h5 h6 h7 h8 h9 h10 h11 h12 h13 h14 h15 h16 h17 h18 : Nat) : CT l yX12_areCut cX12_areCut 1 (some .boolean) (RM 3 0 0 70) D cA g [.ref h0] [(h0, .inr (15, [.ref h1, .ref h2, .ref h3, .ref h4, .ref h5, .ref h6, .ref h7, .ref h8, .ref h9, .ref h10, .ref h11, .ref h12, .ref h13, .ref h14, .ref h15, .ref h16, .ref h17, .ref h18, .long 0, .int 0, .int 2, .int 0, .int 0, .int 0, .int 0, .int 0, .int 0])), (h2, .inr (2, [.int 0, .ref g.1, .int 0])), (h4, .inr (2, [.int 0, .ref g.1, .int 0])), (h9, .inl (cA 3, 512, .inl (fun _ => 0)))] (fun q => some (.int 1)) (fun q => [(h0, .inr (15, [.ref h1, .ref h2, .ref h3, .ref h4, .ref h5, .ref h6, .ref h7, .ref h8, .ref h9, .ref h10, .ref h11, .ref h12, .ref h13, .ref h14, .ref h15, .ref h16, .ref h17, .ref h18, .long 0, .int 0, .int 2, .int 0, .int 0, .int 0, .int 0, .int 1, .int 0])), (h2, .inr (2, [.int 0, .ref g.1, .int 0])), (h4, .inr (2, [.int 0, .ref g.1, .int 0])), (h9, .inl (cA 3, 512, .inl (upd (fun _ => 0) 0 1)))]) := by
  refine CT.of (by decide +kernel) (Nat.le_of_ble_eq_true rfl) ?_
  intro p e s m args below meth c A ls hx hb hr hml hown hG hlocks hnm hA hS hP hK hD hGV hl
  have hown : s.vm.findClass RX12 = some m.cls := hown
  have hl : lv_has ls 1 [(0, .ref h0)] := hl
  have hSF : CF p m c cX12_areCut 1 s args RX12 := ⟨hx, hb, hml, hown, hG⟩
  refine lv_aload_n hx hb dX12_areCut_0 rfl (lv_at hl 0 rfl) ?_
  refine ct_V (wr := []) hSF hl.1 hP hD hS hA hK hGV (c289_X12_saws l hfl D cA g h0 h1 h2 h3 h4 h5 h6 h7 h8 h9 h10 h11 h12 h13 h14 h15 h16 h17 h18) goV_X12_282 pd_X12_saws ⟨(Nat.le_of_ble_eq_true rfl), (Nat.le_of_ble_eq_true rfl)⟩ ⟨(Nat.le_of_ble_eq_true rfl), (Nat.le_of_ble_eq_true rfl)⟩ (va_recv hK hP (ci := 15) (q0 := 0) rfl rfl) dX12_areCut_1 rfl (Nat.le_of_ble_eq_true rfl) [0, 1, 2, 3] [] rfl (by decide) rfl (by decide) (by decide) (fun q => [(h0, .inr (15, [.ref h1, .ref h2, .ref h3, .ref h4, .ref h5, .ref h6, .ref h7, .ref h8, .ref h9, .ref h10, .ref h11, .ref h12, .ref h13, .ref h14, .ref h15, .ref h16, .ref h17, .ref h18, .long 0, .int 0, .int 2, .int 0, .int 0, .int 0, .int 0, .int 1, .int 0])), (h2, .inr (2, [.int 0, .ref g.1, .int 0])), (h4, .inr (2, [.int 0, .ref g.1, .int 0])), (h9, .inl (cA 3, 512, .inl (upd (fun _ => 0) 0 1)))]) (fun _ => rfl) (fun q1 H locs hP hD hS => ?_)
  refine W.eq (g2 := F0 m 4 ls []) rfl ?_
  refine lv_aload_n hx hb dX12_areCut_4 rfl (lv_at hl 0 rfl) ?_
  refine k_get (ci := 15) (C := RX12) (T := TX12) (N := 27) (v := .int 0) hx hb hG inX12 hown hK hP 0 rfl rfl 21 (by decide) gw1240 rfl dX12_areCut_5 ?_
  refine lv_iconst (v := (-1)) hx hb dX12_areCut_8 (by decide) ?_
  refine k_icmp_eq_f (tgt := 16) hx hb dX12_areCut_9 (by decide) (by decide) ?_
  refine lv_iconst (v := 1) hx hb dX12_areCut_12 (by decide) ?_
  refine lv_goto (tgt := 17) hx hb dX12_areCut_13 (by decide) ?_
  exact e_i (fun _ => 0) hx hb hr hlocks rfl rfl hP hD hS (Nat.le_of_ble_eq_true rfl) (Nat.le_of_ble_eq_true rfl) dX12_areCut_17
set_option maxHeartbeats 4000000 in
set_option maxRecDepth 100000 in
theorem c291_X12_tell (l : Launch) (hfl : l.stackTraces = false) (D : va_G) (cA : Nat → ClassId) (g : gv_T) (h0 h1 h2 h3 h4 h5 h6 h7 h8 h9 h10 h11 h12 h13 h14 h15 h16 h17 h18 : Nat) : CT l yX12_tell cX12_tell 2 (some .int) (RM 0 0 0 0) D cA g [.ref h0, .int 0] [(h0, .inr (15, [.ref h1, .ref h2, .ref h3, .ref h4, .ref h5, .ref h6, .ref h7, .ref h8, .ref h9, .ref h10, .ref h11, .ref h12, .ref h13, .ref h14, .ref h15, .ref h16, .ref h17, .ref h18, .long 0, .int 0, .int 2, .int 0, .int 0, .int 0, .int 0, .int 1, .int 0]))] (fun q => some (.int 0)) (fun q => [(h0, .inr (15, [.ref h1, .ref h2, .ref h3, .ref h4, .ref h5, .ref h6, .ref h7, .ref h8, .ref h9, .ref h10, .ref h11, .ref h12, .ref h13, .ref h14, .ref h15, .ref h16, .ref h17, .ref h18, .long 0, .int 0, .int 2, .int 0, .int 0, .int 0, .int 0, .int 1, .int 0]))]) := by
  refine CT.of (by decide +kernel) (Nat.le_of_ble_eq_true rfl) ?_
  intro p e s m args below meth c A ls hx hb hr hml hown hG hlocks hnm hA hS hP hK hD hGV hl
  have hown : s.vm.findClass RX12 = some m.cls := hown
  have hl : lv_has ls 2 [(0, .ref h0), (1, .int 0)] := hl
  have hSF : CF p m c cX12_tell 2 s args RX12 := ⟨hx, hb, hml, hown, hG⟩
  refine lv_aload_n hx hb dX12_tell_0 rfl (lv_at hl 0 rfl) ?_
  refine lv_iconst (v := 0) hx hb dX12_tell_1 (by decide) ?_
  refine k_put (ci := 15) (C := RX12) (T := TX12) (N := 27) (v := .int 0) (ws1 := [(h0, .inr (15, [.ref h1, .ref h2, .ref h3, .ref h4, .ref h5, .ref h6, .ref h7, .ref h8, .ref h9, .ref h10, .ref h11, .ref h12, .ref h13, .ref h14, .ref h15, .ref h16, .ref h17, .ref h18, .long 0, .int 0, .int 2, .int 0, .int 0, .int 0, .int 0, .int 1, .int 0]))]) hx hb hG inX12 tyX12 tyX12_ok nmX12 hown hK hP hD hS 0 rfl rfl 19 (by decide) gw1238 rfl ⟨rfl, rfl⟩ rfl (Nat.le_of_ble_eq_true rfl) dX12_tell_2 (fun H locs hP hD hS => ?_)
  refine lv_iload_n hx hb dX12_tell_5 rfl (lv_at hl 1 rfl) ?_
  exact e_i (fun _ => 0) hx hb hr hlocks rfl rfl hP hD hS (Nat.le_of_ble_eq_true rfl) (Nat.le_of_ble_eq_true rfl) dX12_tell_6
set_option maxHeartbeats 4000000 in
set_option maxRecDepth 100000 in
theorem c292_X12_wood (l : Launch) (hfl : l.stackTraces = false) (D : va_G) (cA : Nat → ClassId) (g : gv_T) (h0 h1 h2 h3 h4 h5 h6 h7 h8 h9 h10 h11 h12 h13 h14 h15 h16 h17 h18 : Nat) : CT l yX12_wood cX12_wood 1 (some .int) (RM 4 0 0 90) D cA g [.ref h0] [(h0, .inr (15, [.ref h1, .ref h2, .ref h3, .ref h4, .ref h5, .ref h6, .ref h7, .ref h8, .ref h9, .ref h10, .ref h11, .ref h12, .ref h13, .ref h14, .ref h15, .ref h16, .ref h17, .ref h18, .long 0, .int 0, .int 2, .int 0, .int 0, .int 0, .int 0, .int 0, .int 0])), (h2, .inr (2, [.int 0, .ref g.1, .int 0])), (h4, .inr (2, [.int 0, .ref g.1, .int 0])), (h9, .inl (cA 3, 512, .inl (fun _ => 0)))] (fun q => some (.int 0)) (fun q => [(h0, .inr (15, [.ref h1, .ref h2, .ref h3, .ref h4, .ref h5, .ref h6, .ref h7, .ref h8, .ref h9, .ref h10, .ref h11, .ref h12, .ref h13, .ref h14, .ref h15, .ref h16, .ref h17, .ref h18, .long 0, .int 0, .int 2, .int 0, .int 0, .int 0, .int 0, .int 1, .int 0])), (h2, .inr (2, [.int 0, .ref g.1, .int 0])), (h4, .inr (2, [.int 0, .ref g.1, .int 0])), (h9, .inl (cA 3, 512, .inl (upd (fun _ => 0) 0 1)))]) := by
  refine CT.of (by decide +kernel) (Nat.le_of_ble_eq_true rfl) ?_
  intro p e s m args below meth c A ls hx hb hr hml hown hG hlocks hnm hA hS hP hK hD hGV hl
  have hown : s.vm.findClass RX12 = some m.cls := hown
  have hl : lv_has ls 1 [(0, .ref h0)] := hl
  have hSF : CF p m c cX12_wood 1 s args RX12 := ⟨hx, hb, hml, hown, hG⟩
  refine lv_aload_n hx hb dX12_wood_0 rfl (lv_at hl 0 rfl) ?_
  refine ct_V (wr := []) hSF hl.1 hP hD hS hA hK hGV (c290_X12_areCut l hfl D cA g h0 h1 h2 h3 h4 h5 h6 h7 h8 h9 h10 h11 h12 h13 h14 h15 h16 h17 h18) goV_X12_389 pd_X12_areCut ⟨(Nat.le_of_ble_eq_true rfl), (Nat.le_of_ble_eq_true rfl)⟩ ⟨(Nat.le_of_ble_eq_true rfl), (Nat.le_of_ble_eq_true rfl)⟩ (va_recv hK hP (ci := 15) (q0 := 0) rfl rfl) dX12_wood_1 rfl (Nat.le_of_ble_eq_true rfl) [0, 1, 2, 3] [] rfl (by decide) rfl (by decide) (by decide) (fun q => [(h0, .inr (15, [.ref h1, .ref h2, .ref h3, .ref h4, .ref h5, .ref h6, .ref h7, .ref h8, .ref h9, .ref h10, .ref h11, .ref h12, .ref h13, .ref h14, .ref h15, .ref h16, .ref h17, .ref h18, .long 0, .int 0, .int 2, .int 0, .int 0, .int 0, .int 0, .int 1, .int 0])), (h2, .inr (2, [.int 0, .ref g.1, .int 0])), (h4, .inr (2, [.int 0, .ref g.1, .int 0])), (h9, .inl (cA 3, 512, .inl (upd (fun _ => 0) 0 1)))]) (fun _ => rfl) (fun q1 H locs hP hD hS => ?_)
  refine W.eq (g2 := F0 m 4 ls [.int 1]) rfl ?_
  refine k_if_eq_f (tgt := 18) hx hb dX12_wood_4 (by decide) (by decide) ?_
  refine lv_aload_n hx hb dX12_wood_7 rfl (lv_at hl 0 rfl) ?_
  refine lv_aload_n hx hb dX12_wood_8 rfl (lv_at hl 0 rfl) ?_
  refine k_get (ci := 15) (C := RX12) (T := TX12) (N := 27) (v := .int 0) hx hb hG inX12 hown hK hP 0 rfl rfl 21 (by decide) gw1240 rfl dX12_wood_9 ?_
  refine ct_V (wr := [(h2, .inr (2, [.int 0, .ref g.1, .int 0])), (h4, .inr (2, [.int 0, .ref g.1, .int 0])), (h9, .inl (cA 3, 512, .inl (upd (fun _ => 0) 0 1)))]) hSF hl.1 hP hD hS hA hK hGV (c291_X12_tell l hfl D cA g h0 h1 h2 h3 h4 h5 h6 h7 h8 h9 h10 h11 h12 h13 h14 h15 h16 h17 h18) goV_X12_302 pd_X12_tell ⟨(Nat.le_of_ble_eq_true rfl), (Nat.le_of_ble_eq_true rfl)⟩ ⟨(Nat.le_of_ble_eq_true rfl), (Nat.le_of_ble_eq_true rfl)⟩ (va_recv hK hP (ci := 15) (q0 := 0) rfl rfl) dX12_wood_12 rfl (Nat.le_of_ble_eq_true rfl) [0] [1, 2, 3] rfl (by decide) rfl (by decide) (by decide) (fun q => [(h2, .inr (2, [.int 0, .ref g.1, .int 0])), (h4, .inr (2, [.int 0, .ref g.1, .int 0])), (h9, .inl (cA 3, 512, .inl (upd (fun _ => 0) 0 1))), (h0, .inr (15, [.ref h1, .ref h2, .ref h3, .ref h4, .ref h5, .ref h6, .ref h7, .ref h8, .ref h9, .ref h10, .ref h11, .ref h12, .ref h13, .ref h14, .ref h15, .ref h16, .ref h17, .ref h18, .long 0, .int 0, .int 2, .int 0, .int 0, .int 0, .int 0, .int 1, .int 0]))]) (fun _ => rfl) (fun q2 H locs hP hD hS => ?_)
  refine W.eq (g2 := F0 m 15 ls [.int 0]) rfl ?_
  refine lv_goto (tgt := 23) hx hb dX12_wood_15 (by decide) ?_
  exact e_i (fun _ => 0) hx hb hr hlocks rfl rfl (hP.sub [3, 0, 1, 2] rfl) (hD.sub [3, 0, 1, 2] (by decide) rfl) hS (Nat.le_of_ble_eq_true rfl) (Nat.le_of_ble_eq_true rfl) dX12_wood_23
set_option maxHeartbeats 4000000 in
set_option maxRecDepth 100000 in
theorem c293_X12_thrown (l : Launch) (hfl : l.stackTraces = false) (D : va_G) (cA : Nat → ClassId) (g : gv_T) (h0 h1 h2 h3 h4 h5 h6 h7 h8 h9 h10 h11 h12 h13 h14 h15 h16 h17 h18 : Nat) : CT l yX12_thrown cX12_thrown 1 (some .int) (RM 0 0 0 0) D cA g [.ref h0] [(h0, .inr (15, [.ref h1, .ref h2, .ref h3, .ref h4, .ref h5, .ref h6, .ref h7, .ref h8, .ref h9, .ref h10, .ref h11, .ref h12, .ref h13, .ref h14, .ref h15, .ref h16, .ref h17, .ref h18, .long 0, .int 0, .int 2, .int 0, .int 0, .int 0, .int 0, .int 1, .int 0]))] (fun q => some (.int 0)) (fun q => [(h0, .inr (15, [.ref h1, .ref h2, .ref h3, .ref h4, .ref h5, .ref h6, .ref h7, .ref h8, .ref h9, .ref h10, .ref h11, .ref h12, .ref h13, .ref h14, .ref h15, .ref h16, .ref h17, .ref h18, .long 0, .int 0, .int 2, .int 0, .int 0, .int 0, .int 0, .int 1, .int 0]))]) := by
  refine CT.of (by decide +kernel) (Nat.le_of_ble_eq_true rfl) ?_
  intro p e s m args below meth c A ls hx hb hr hml hown hG hlocks hnm hA hS hP hK hD hGV hl
  have hown : s.vm.findClass RX12 = some m.cls := hown
  have hl : lv_has ls 1 [(0, .ref h0)] := hl
  have hSF : CF p m c cX12_thrown 1 s args RX12 := ⟨hx, hb, hml, hown, hG⟩
  refine lv_aload_n hx hb dX12_thrown_0 rfl (lv_at hl 0 rfl) ?_
  refine k_get (ci := 15) (C := RX12) (T := TX12) (N := 27) (v := .int 0) hx hb hG inX12 hown hK hP 0 rfl rfl 19 (by decide) gw1238 rfl dX12_thrown_1 ?_
  exact e_i (fun _ => 0) hx hb hr hlocks rfl rfl hP hD hS (Nat.le_of_ble_eq_true rfl) (Nat.le_of_ble_eq_true rfl) dX12_thrown_4
set_option maxHeartbeats 4000000 in
set_option maxRecDepth 100000 in
theorem c294_X6_waste (l : Launch) (hfl : l.stackTraces = false) (D : va_G) (cA : Nat → ClassId) (g : gv_T) (h0 : Nat) (p0 : Int32) (k0 : p0 < 0) : CX l yX6_waste cX6_waste 2 (some .int) (RM 6 1 6 95) D cA g [.ref h0, .int p0] [] "java/lang/IndexOutOfBoundsException" (fun q => []) := by
  refine CX.of (by decide +kernel) (Nat.le_of_ble_eq_true rfl) ?_
  intro p e s m args below meth c A ls hx hb hr hml hown hG hlocks htab hA hS hP hK hD hGV hl
  have hown : s.vm.findClass RX6 = some m.cls := hown
  have hl : lv_has ls 2 [(0, .ref h0), (1, .int p0)] := hl
  have hSF : CF p m c cX6_waste 2 s args RX6 := ⟨hx, hb, hml, hown, hG⟩
  refine lv_iload_n hx hb dX6_waste_0 rfl (lv_at hl 1 rfl) ?_
  refine k_if_lt_t (tgt := 15) hx hb dX6_waste_1 k0 (by decide) ?_
  exact e_throw (fun _ => 0) (names := ["java/lang/RuntimeException", "java/lang/Exception"]) 21 hx hb hfl hown hG hGV htab hlocks (hl.1.trans hml.symm) (by decide +kernel) (by decide +kernel) gw795 gw101 rfl xat_X6_232 hP hD hS dX6_waste_15 dX6_waste_18 dX6_waste_19 dX6_waste_21 dX6_waste_24 (Nat.le_of_ble_eq_true rfl) (Nat.le_of_ble_eq_true rfl) (Nat.le_of_ble_eq_true rfl) (Nat.le_of_ble_eq_true rfl) (Nat.le_of_ble_eq_true rfl) (Nat.le_of_ble_eq_true rfl)
set_option maxHeartbeats 4000000 in
set_option maxRecDepth 100000 in
theorem c295_L_waste (l : Launch) (hfl : l.stackTraces = false) (D : va_G) (cA : Nat → ClassId) (g : gv_T) (h0 h1 h2 h3 h4 h5 h6 : Nat) (p0 : Int32) (k0 : p0 < 0) : CW l yL_waste cL_waste 4 (some .int) [(0, 9, 12, 21), (0, 9, 15, 46)] (RM 7 1 6 116) D cA g [.ref h0, .int p0, .ref h1] [(h0, .inr (9, [.ref h2, .ref h3, .ref h4, .ref h5, .ref h6]))] (fun q => some (.int 1)) (fun q => [(h0, .inr (9, [.ref h2, .ref h3, .ref h4, .ref h5, .ref h6]))]) := by
  refine CW.of (by decide +kernel) (Nat.le_of_ble_eq_true rfl) ?_
  intro p e s m args below meth c A ls hx hb hr hml hown hG hlocks htab hA hS hP hK hD hGV hl
  have hown : s.vm.findClass RL = some m.cls := hown
  have hl : lv_has ls 4 [(0, .ref h0), (1, .int p0), (2, .ref h1)] := hl
  have hSF : CF p m c cL_waste 4 s args RL := ⟨hx, hb, hml, hown, hG⟩
  refine lv_aload_n hx hb dL_waste_0 rfl (lv_at hl 2 rfl) ?_
  refine lv_iconst (v := 0) hx hb dL_waste_1 (by decide) ?_
  refine lv_aload_n hx hb dL_waste_2 rfl (lv_at hl 0 rfl) ?_
  refine lv_iload_n hx hb dL_waste_3 rfl (lv_at hl 1 rfl) ?_
  refine cx_V (wr := [(h0, .inr (9, [.ref h2, .ref h3, .ref h4, .ref h5, .ref h6]))]) hSF hl.1 hP hD hS hA hK hGV (c294_X6_waste l hfl D cA g h0 (p0) k0) goV_L_86 pd_X6_waste ⟨(Nat.le_of_ble_eq_true rfl), (Nat.le_of_ble_eq_true rfl)⟩ ⟨(Nat.le_of_ble_eq_true rfl), (Nat.le_of_ble_eq_true rfl)⟩ (va_recv hK hP (ci := 9) (q0 := 0) rfl rfl) dL_waste_4 rfl (Nat.le_of_ble_eq_true rfl) [] [0] rfl (by decide) rfl (by decide) (by decide) (fun q => [(h0, .inr (9, [.ref h2, .ref h3, .ref h4, .ref h5, .ref h6]))]) (fun _ => rfl) (fun q1 H locs x9 ce9 hP hD hS h9 hv9 hcl9 => ?_)
  refine vx_catch (own := RL) (name := "java/lang/IndexOutOfBoundsException") hown [] { startPc := 0, endPc := 9, handlerPc := 12, catchType := 21 } [{ startPc := 0, endPc := 9, handlerPc := 15, catchType := 46 }] (htab.trans rfl) (fun z hz => nomatch hz) rfl (by decide) (hG _ gw763) (va_Nw.use rfl (hGV.2.2.2.2.1 _ gw797)) h9 hv9 hcl9 ?_
  refine W.eq (g2 := F0 m 12 ls [.ref x9]) rfl ?_
  refine lv_astore_n (lv' := [(3, .ref x9), (0, .ref h0), (1, .int p0), (2, .ref h1)]) hx hb dL_waste_12 rfl hl (by decide) rfl (fun ls hl => ?_)
  refine lv_iconst (v := 1) hx hb dL_waste_13 (by decide) ?_
  exact e_i (fun _ => 0) hx hb hr hlocks rfl rfl hP hD hS (Nat.le_of_ble_eq_true rfl) (Nat.le_of_ble_eq_true rfl) dL_waste_14
set_option maxHeartbeats 4000000 in
set_option maxRecDepth 100000 in
theorem c296_X12_waste (l : Launch) (hfl : l.stackTraces = false) (D : va_G) (cA : Nat → ClassId) (g : gv_T) (h0 h1 h2 h3 h4 h5 h6 h7 h8 h9 h10 h11 h12 h13 h14 h15 h16 h17 h18 : Nat) (p0 : Int32) (k0 : (lg_cmp p0.toInt64 0) < 0) : CT l yX12_waste cX12_waste 4 (some .int) (RM 1 0 0 23) D cA g [.ref h0, .int p0] [(h0, .inr (15, [.ref h1, .ref h2, .ref h3, .ref h4, .ref h5, .ref h6, .ref h7, .ref h8, .ref h9, .ref h10, .ref h11, .ref h12, .ref h13, .ref h14, .ref h15, .ref h16, .ref h17, .ref h18, .long 0, .int 0, .int 2, .int 0, .int 0, .int 0, .int 0, .int 0, .int 0])), (h4, .inr (2, [.int 0, .ref g.1, .int 0]))] (fun q => some (.int 0)) (fun q => [(h0, .inr (15, [.ref h1, .ref h2, .ref h3, .ref h4, .ref h5, .ref h6, .ref h7, .ref h8, .ref h9, .ref h10, .ref h11, .ref h12, .ref h13, .ref h14, .ref h15, .ref h16, .ref h17, .ref h18, .long 0, .int 1, .int 2, .int 0, .int 0, .int 0, .int 0, .int 0, .int 0])), (h4, .inr (2, [.int 0, .ref g.1, .int 0]))]) := by
  refine CT.of (by decide +kernel) (Nat.le_of_ble_eq_true rfl) ?_
  intro p e s m args below meth c A ls hx hb hr hml hown hG hlocks hnm hA hS hP hK hD hGV hl
  have hown : s.vm.findClass RX12 = some m.cls := hown
  have hl : lv_has ls 4 [(0, .ref h0), (1, .int p0)] := hl
  have hSF : CF p m c cX12_waste 4 s args RX12 := ⟨hx, hb, hml, hown, hG⟩
  refine lv_iload_n hx hb dX12_waste_0 rfl (lv_at hl 1 rfl) ?_
  refine lv_i2l (v := p0.toInt64) hx hb dX12_waste_1 rfl ?_
  refine lv_iconst (v := 0) hx hb dX12_waste_2 (by decide) ?_
  refine lv_aload_n hx hb dX12_waste_3 rfl (lv_at hl 0 rfl) ?_
  refine k_get (ci := 15) (C := RX12) (T := TX12) (N := 27) (v := .ref h4) hx hb hG inX12 hown hK hP 0 rfl rfl 3 (by decide) gw1222 rfl dX12_waste_4 ?_
  refine ct_V (wr := [(h0, .inr (15, [.ref h1, .ref h2, .ref h3, .ref h4, .ref h5, .ref h6, .ref h7, .ref h8, .ref h9, .ref h10, .ref h11, .ref h12, .ref h13, .ref h14, .ref h15, .ref h16, .ref h17, .ref h18, .long 0, .int 0, .int 2, .int 0, .int 0, .int 0, .int 0, .int 0, .int 0]))]) hSF hl.1 hP hD hS hA hK hGV (c56_Jx4a65c_size_8abf5 l hfl D cA g h4) goV_X12_125 pd_Jx4a65c_size_8abf5 ⟨(Nat.le_of_ble_eq_true rfl), (Nat.le_of_ble_eq_true rfl)⟩ ⟨(Nat.le_of_ble_eq_true rfl), (Nat.le_of_ble_eq_true rfl)⟩ (va_recv hK hP (ci := 2) (q0 := 1) rfl rfl) dX12_waste_7 rfl (Nat.le_of_ble_eq_true rfl) [1] [0] rfl (by decide) rfl (by decide) (by decide) (fun q => [(h0, .inr (15, [.ref h1, .ref h2, .ref h3, .ref h4, .ref h5, .ref h6, .ref h7, .ref h8, .ref h9, .ref h10, .ref h11, .ref h12, .ref h13, .ref h14, .ref h15, .ref h16, .ref h17, .ref h18, .long 0, .int 0, .int 2, .int 0, .int 0, .int 0, .int 0, .int 0, .int 0])), (h4, .inr (2, [.int 0, .ref g.1, .int 0]))]) (fun _ => rfl) (fun q1 H locs hP hD hS => ?_)
  refine W.eq (g2 := F0 m 10 ls [.int 0, .int 0, .long (p0.toInt64)]) rfl ?_
  refine lv_iconst (v := 1) hx hb dX12_waste_10 (by decide) ?_
  refine k_isub (v := (-1)) hx hb dX12_waste_11 (by decide) ?_
  refine ct_S (wr := [(h0, .inr (15, [.ref h1, .ref h2, .ref h3, .ref h4, .ref h5, .ref h6, .ref h7, .ref h8, .ref h9, .ref h10, .ref h11, .ref h12, .ref h13, .ref h14, .ref h15, .ref h16, .ref h17, .ref h18, .long 0, .int 0, .int 2, .int 0, .int 0, .int 0, .int 0, .int 0, .int 0])), (h4, .inr (2, [.int 0, .ref g.1, .int 0]))]) hSF hl.1 hP hD hS hA hK hGV (c94_X12_in l hfl D cA g (p0.toInt64) k0) goS_X12_285 pd_X12_in.2 ⟨(Nat.le_of_ble_eq_true rfl), (Nat.le_of_ble_eq_true rfl)⟩ ⟨(Nat.le_of_ble_eq_true rfl), (Nat.le_of_ble_eq_true rfl)⟩ dX12_waste_12 rfl (Nat.le_of_ble_eq_true rfl) [] [0, 1] rfl (by decide) rfl (by decide) (by decide) (fun q => [(h0, .inr (15, [.ref h1, .ref h2, .ref h3, .ref h4, .ref h5, .ref h6, .ref h7, .ref h8, .ref h9, .ref h10, .ref h11, .ref h12, .ref h13, .ref h14, .ref h15, .ref h16, .ref h17, .ref h18, .long 0, .int 0, .int 2, .int 0, .int 0, .int 0, .int 0, .int 0, .int 0])), (h4, .inr (2, [.int 0, .ref g.1, .int 0]))]) (fun _ => rfl) (fun q2 H locs hP hD hS => ?_)
  refine W.eq (g2 := F0 m 15 ls [.int 0]) rfl ?_
  refine k_if_ne_f (tgt := 24) hx hb dX12_waste_15 (by decide) (by decide) ?_
  refine lv_aload_n hx hb dX12_waste_18 rfl (lv_at hl 0 rfl) ?_
  refine lv_iconst (v := 1) hx hb dX12_waste_19 (by decide) ?_
  refine ct_V (wr := [(h4, .inr (2, [.int 0, .ref g.1, .int 0]))]) hSF hl.1 hP hD hS hA hK hGV (c15_X12_fails l hfl D cA g h0 h1 h2 h3 h4 h5 h6 h7 h8 h9 h10 h11 h12 h13 h14 h15 h16 h17 h18) goV_X12_289 pd_X12_fails ⟨(Nat.le_of_ble_eq_true rfl), (Nat.le_of_ble_eq_true rfl)⟩ ⟨(Nat.le_of_ble_eq_true rfl), (Nat.le_of_ble_eq_true rfl)⟩ (va_recv hK hP (ci := 15) (q0 := 0) rfl rfl) dX12_waste_20 rfl (Nat.le_of_ble_eq_true rfl) [0] [1] rfl (by decide) rfl (by decide) (by decide) (fun q => [(h4, .inr (2, [.int 0, .ref g.1, .int 0])), (h0, .inr (15, [.ref h1, .ref h2, .ref h3, .ref h4, .ref h5, .ref h6, .ref h7, .ref h8, .ref h9, .ref h10, .ref h11, .ref h12, .ref h13, .ref h14, .ref h15, .ref h16, .ref h17, .ref h18, .long 0, .int 1, .int 2, .int 0, .int 0, .int 0, .int 0, .int 0, .int 0]))]) (fun _ => rfl) (fun q3 H locs hP hD hS => ?_)
  refine W.eq (g2 := F0 m 23 ls [.int 0]) rfl ?_
  exact e_i (fun _ => 0) hx hb hr hlocks rfl rfl (hP.sub [1, 0] rfl) (hD.sub [1, 0] (by decide) rfl) hS (Nat.le_of_ble_eq_true rfl) (Nat.le_of_ble_eq_true rfl) dX12_waste_23
set_option maxHeartbeats 4000000 in
set_option maxRecDepth 100000 in
theorem c297_X6_waste (l : Launch) (hfl : l.stackTraces = false) (D : va_G) (cA : Nat → ClassId) (g : gv_T) (h0 h1 h2 h3 h4 h5 h6 h7 h8 h9 h10 h11 h12 : Nat) (p0 : Int32) (k0 : ¬ p0 < 0) : CX l yX6_waste cX6_waste 2 (some .int) (RM 6 1 6 95) D cA g [.ref h0, .int p0] [(h0, .inr (9, [.ref h1, .ref h2, .ref h3, .ref h4, .ref h5])), (h4, .inr (3, [.int 0, .int 0, .int 0, .int 0, .ref h6, .ref h7, .ref h8, .ref h9, .ref h10, .ref h11, .ref h12]))] "java/lang/IndexOutOfBoundsException" (fun q => [(h0, .inr (9, [.ref h1, .ref h2, .ref h3, .ref h4, .ref h5])), (h4, .inr (3, [.int 0, .int 0, .int 0, .int 0, .ref h6, .ref h7, .ref h8, .ref h9, .ref h10, .ref h11, .ref h12]))]) := by
  refine CX.of (by decide +kernel) (Nat.le_of_ble_eq_true rfl) ?_
  intro p e s m args below meth c A ls hx hb hr hml hown hG hlocks htab hA hS hP hK hD hGV hl
  have hown : s.vm.findClass RX6 = some m.cls := hown
  have hl : lv_has ls 2 [(0, .ref h0), (1, .int p0)] := hl
  have hSF : CF p m c cX6_waste 2 s args RX6 := ⟨hx, hb, hml, hown, hG⟩
  refine lv_iload_n hx hb dX6_waste_0 rfl (lv_at hl 1 rfl) ?_
  refine k_if_lt_f (tgt := 15) hx hb dX6_waste_1 k0 (by decide) ?_
  refine lv_iload_n hx hb dX6_waste_4 rfl (lv_at hl 1 rfl) ?_
  refine lv_aload_n hx hb dX6_waste_5 rfl (lv_at hl 0 rfl) ?_
  refine k_get (ci := 9) (C := RX6) (T := TX6) (N := 5) (v := .ref h4) hx hb hG inX6 hown hK hP 0 rfl rfl 3 (by decide) gw366 rfl dX6_waste_6 ?_
  refine k_get (ci := 3) (C := RX0) (T := TX0) (N := 11) (v := .int 0) hx hb hG inX0 hown hK hP 1 rfl rfl 0 (by decide) gw286 rfl dX6_waste_9 ?_
  refine k_icmp_lt_f (tgt := 25) hx hb dX6_waste_12 k0 (by decide) ?_
  exact e_throw (fun _ => 0) (names := ["java/lang/RuntimeException", "java/lang/Exception"]) 21 hx hb hfl hown hG hGV htab hlocks (hl.1.trans hml.symm) (by decide +kernel) (by decide +kernel) gw795 gw101 rfl xat_X6_232 hP hD hS dX6_waste_15 dX6_waste_18 dX6_waste_19 dX6_waste_21 dX6_waste_24 (Nat.le_of_ble_eq_true rfl) (Nat.le_of_ble_eq_true rfl) (Nat.le_of_ble_eq_true rfl) (Nat.le_of_ble_eq_true rfl) (Nat.le_of_ble_eq_true rfl) (Nat.le_of_ble_eq_true rfl)
set_option maxHeartbeats 4000000 in
set_option maxRecDepth 100000 in
theorem c298_L_waste (l : Launch) (hfl : l.stackTraces = false) (D : va_G) (cA : Nat → ClassId) (g : gv_T) (h0 h1 h2 h3 h4 h5 h6 h7 h8 h9 h10 h11 h12 h13 : Nat) (p0 : Int32) (k0 : ¬ p0 < 0) : CW l yL_waste cL_waste 4 (some .int) [(0, 9, 12, 21), (0, 9, 15, 46)] (RM 7 1 6 116) D cA g [.ref h0, .int p0, .ref h1] [(h0, .inr (9, [.ref h2, .ref h3, .ref h4, .ref h5, .ref h6])), (h5, .inr (3, [.int 0, .int 0, .int 0, .int 0, .ref h7, .ref h8, .ref h9, .ref h10, .ref h11, .ref h12, .ref h13]))] (fun q => some (.int 1)) (fun q => [(h0, .inr (9, [.ref h2, .ref h3, .ref h4, .ref h5, .ref h6])), (h5, .inr (3, [.int 0, .int 0, .int 0, .int 0, .ref h7, .ref h8, .ref h9, .ref h10, .ref h11, .ref h12, .ref h13]))]) := by
  refine CW.of (by decide +kernel) (Nat.le_of_ble_eq_true rfl) ?_
  intro p e s m args below meth c A ls hx hb hr hml hown hG hlocks htab hA hS hP hK hD hGV hl
  have hown : s.vm.findClass RL = some m.cls := hown
  have hl : lv_has ls 4 [(0, .ref h0), (1, .int p0), (2, .ref h1)] := hl
  have hSF : CF p m c cL_waste 4 s args RL := ⟨hx, hb, hml, hown, hG⟩
  refine lv_aload_n hx hb dL_waste_0 rfl (lv_at hl 2 rfl) ?_
  refine lv_iconst (v := 0) hx hb dL_waste_1 (by decide) ?_
  refine lv_aload_n hx hb dL_waste_2 rfl (lv_at hl 0 rfl) ?_
  refine lv_iload_n hx hb dL_waste_3 rfl (lv_at hl 1 rfl) ?_
  refine cx_V (wr := []) hSF hl.1 hP hD hS hA hK hGV (c297_X6_waste l hfl D cA g h0 h2 h3 h4 h5 h6 h7 h8 h9 h10 h11 h12 h13 (p0) k0) goV_L_86 pd_X6_waste ⟨(Nat.le_of_ble_eq_true rfl), (Nat.le_of_ble_eq_true rfl)⟩ ⟨(Nat.le_of_ble_eq_true rfl), (Nat.le_of_ble_eq_true rfl)⟩ (va_recv hK hP (ci := 9) (q0 := 0) rfl rfl) dL_waste_4 rfl (Nat.le_of_ble_eq_true rfl) [0, 1] [] rfl (by decide) rfl (by decide) (by decide) (fun q => [(h0, .inr (9, [.ref h2, .ref h3, .ref h4, .ref h5, .ref h6])), (h5, .inr (3, [.int 0, .int 0, .int 0, .int 0, .ref h7, .ref h8, .ref h9, .ref h10, .ref h11, .ref h12, .ref h13]))]) (fun _ => rfl) (fun q1 H locs x9 ce9 hP hD hS h9 hv9 hcl9 => ?_)
  refine vx_catch (own := RL) (name := "java/lang/IndexOutOfBoundsException") hown [] { startPc := 0, endPc := 9, handlerPc := 12, catchType := 21 } [{ startPc := 0, endPc := 9, handlerPc := 15, catchType := 46 }] (htab.trans rfl) (fun z hz => nomatch hz) rfl (by decide) (hG _ gw763) (va_Nw.use rfl (hGV.2.2.2.2.1 _ gw797)) h9 hv9 hcl9 ?_
  refine W.eq (g2 := F0 m 12 ls [.ref x9]) rfl ?_
  refine lv_astore_n (lv' := [(3, .ref x9), (0, .ref h0), (1, .int p0), (2, .ref h1)]) hx hb dL_waste_12 rfl hl (by decide) rfl (fun ls hl => ?_)
  refine lv_iconst (v := 1) hx hb dL_waste_13 (by decide) ?_
  exact e_i (fun _ => 0) hx hb hr hlocks rfl rfl hP hD hS (Nat.le_of_ble_eq_true rfl) (Nat.le_of_ble_eq_true rfl) dL_waste_14
set_option maxHeartbeats 4000000 in
set_option maxRecDepth 100000 in
theorem c299_X12_waste (l : Launch) (hfl : l.stackTraces = false) (D : va_G) (cA : Nat → ClassId) (g : gv_T) (h0 h1 h2 h3 h4 h5 h6 h7 h8 h9 h10 h11 h12 h13 h14 h15 h16 h17 h18 : Nat) (p0 : Int32) (k0 : ¬ (lg_cmp p0.toInt64 0) < 0) (k1 : 0 < (lg_cmp p0.toInt64 (-1))) : CT l yX12_waste cX12_waste 4 (some .int) (RM 1 0 0 23) D cA g [.ref h0, .int p0] [(h0, .inr (15, [.ref h1, .ref h2, .ref h3, .ref h4, .ref h5, .ref h6, .ref h7, .ref h8, .ref h9, .ref h10, .ref h11, .ref h12, .ref h13, .ref h14, .ref h15, .ref h16, .ref h17, .ref h18, .long 0, .int 0, .int 2, .int 0, .int 0, .int 0, .int 0, .int 0, .int 0])), (h4, .inr (2, [.int 0, .ref g.1, .int 0]))] (fun q => some (.int 0)) (fun q => [(h0, .inr (15, [.ref h1, .ref h2, .ref h3, .ref h4, .ref h5, .ref h6, .ref h7, .ref h8, .ref h9, .ref h10, .ref h11, .ref h12, .ref h13, .ref h14, .ref h15, .ref h16, .ref h17, .ref h18, .long 0, .int 1, .int 2, .int 0, .int 0, .int 0, .int 0, .int 0, .int 0])), (h4, .inr (2, [.int 0, .ref g.1, .int 0]))]) := by
  refine CT.of (by decide +kernel) (Nat.le_of_ble_eq_true rfl) ?_
  intro p e s m args below meth c A ls hx hb hr hml hown hG hlocks hnm hA hS hP hK hD hGV hl
  have hown : s.vm.findClass RX12 = some m.cls := hown
  have hl : lv_has ls 4 [(0, .ref h0), (1, .int p0)] := hl
  have hSF : CF p m c cX12_waste 4 s args RX12 := ⟨hx, hb, hml, hown, hG⟩
  refine lv_iload_n hx hb dX12_waste_0 rfl (lv_at hl 1 rfl) ?_
  refine lv_i2l (v := p0.toInt64) hx hb dX12_waste_1 rfl ?_
  refine lv_iconst (v := 0) hx hb dX12_waste_2 (by decide) ?_
  refine lv_aload_n hx hb dX12_waste_3 rfl (lv_at hl 0 rfl) ?_
  refine k_get (ci := 15) (C := RX12) (T := TX12) (N := 27) (v := .ref h4) hx hb hG inX12 hown hK hP 0 rfl rfl 3 (by decide) gw1222 rfl dX12_waste_4 ?_
  refine ct_V (wr := [(h0, .inr (15, [.ref h1, .ref h2, .ref h3, .ref h4, .ref h5, .ref h6, .ref h7, .ref h8, .ref h9, .ref h10, .ref h11, .ref h12, .ref h13, .ref h14, .ref h15, .ref h16, .ref h17, .ref h18, .long 0, .int 0, .int 2, .int 0, .int 0, .int 0, .int 0, .int 0, .int 0]))]) hSF hl.1 hP hD hS hA hK hGV (c56_Jx4a65c_size_8abf5 l hfl D cA g h4) goV_X12_125 pd_Jx4a65c_size_8abf5 ⟨(Nat.le_of_ble_eq_true rfl), (Nat.le_of_ble_eq_true rfl)⟩ ⟨(Nat.le_of_ble_eq_true rfl), (Nat.le_of_ble_eq_true rfl)⟩ (va_recv hK hP (ci := 2) (q0 := 1) rfl rfl) dX12_waste_7 rfl (Nat.le_of_ble_eq_true rfl) [1] [0] rfl (by decide) rfl (by decide) (by decide) (fun q => [(h0, .inr (15, [.ref h1, .ref h2, .ref h3, .ref h4, .ref h5, .ref h6, .ref h7, .ref h8, .ref h9, .ref h10, .ref h11, .ref h12, .ref h13, .ref h14, .ref h15, .ref h16, .ref h17, .ref h18, .long 0, .int 0, .int 2, .int 0, .int 0, .int 0, .int 0, .int 0, .int 0])), (h4, .inr (2, [.int 0, .ref g.1, .int 0]))]) (fun _ => rfl) (fun q1 H locs hP hD hS => ?_)
  refine W.eq (g2 := F0 m 10 ls [.int 0, .int 0, .long (p0.toInt64)]) rfl ?_
  refine lv_iconst (v := 1) hx hb dX12_waste_10 (by decide) ?_
  refine k_isub (v := (-1)) hx hb dX12_waste_11 (by decide) ?_
  refine ct_S (wr := [(h0, .inr (15, [.ref h1, .ref h2, .ref h3, .ref h4, .ref h5, .ref h6, .ref h7, .ref h8, .ref h9, .ref h10, .ref h11, .ref h12, .ref h13, .ref h14, .ref h15, .ref h16, .ref h17, .ref h18, .long 0, .int 0, .int 2, .int 0, .int 0, .int 0, .int 0, .int 0, .int 0])), (h4, .inr (2, [.int 0, .ref g.1, .int 0]))]) hSF hl.1 hP hD hS hA hK hGV (c100_X12_in l hfl D cA g (p0.toInt64) k0 k1) goS_X12_285 pd_X12_in.2 ⟨(Nat.le_of_ble_eq_true rfl), (Nat.le_of_ble_eq_true rfl)⟩ ⟨(Nat.le_of_ble_eq_true rfl), (Nat.le_of_ble_eq_true rfl)⟩ dX12_waste_12 rfl (Nat.le_of_ble_eq_true rfl) [] [0, 1] rfl (by decide) rfl (by decide) (by decide) (fun q => [(h0, .inr (15, [.ref h1, .ref h2, .ref h3, .ref h4, .ref h5, .ref h6, .ref h7, .ref h8, .ref h9, .ref h10, .ref h11, .ref h12, .ref h13, .ref h14, .ref h15, .ref h16, .ref h17, .ref h18, .long 0, .int 0, .int 2, .int 0, .int 0, .int 0, .int 0, .int 0, .int 0])), (h4, .inr (2, [.int 0, .ref g.1, .int 0]))]) (fun _ => rfl) (fun q2 H locs hP hD hS => ?_)
  refine W.eq (g2 := F0 m 15 ls [.int 0]) rfl ?_
  refine k_if_ne_f (tgt := 24) hx hb dX12_waste_15 (by decide) (by decide) ?_
  refine lv_aload_n hx hb dX12_waste_18 rfl (lv_at hl 0 rfl) ?_
  refine lv_iconst (v := 1) hx hb dX12_waste_19 (by decide) ?_
  refine ct_V (wr := [(h4, .inr (2, [.int 0, .ref g.1, .int 0]))]) hSF hl.1 hP hD hS hA hK hGV (c15_X12_fails l hfl D cA g h0 h1 h2 h3 h4 h5 h6 h7 h8 h9 h10 h11 h12 h13 h14 h15 h16 h17 h18) goV_X12_289 pd_X12_fails ⟨(Nat.le_of_ble_eq_true rfl), (Nat.le_of_ble_eq_true rfl)⟩ ⟨(Nat.le_of_ble_eq_true rfl), (Nat.le_of_ble_eq_true rfl)⟩ (va_recv hK hP (ci := 15) (q0 := 0) rfl rfl) dX12_waste_20 rfl (Nat.le_of_ble_eq_true rfl) [0] [1] rfl (by decide) rfl (by decide) (by decide) (fun q => [(h4, .inr (2, [.int 0, .ref g.1, .int 0])), (h0, .inr (15, [.ref h1, .ref h2, .ref h3, .ref h4, .ref h5, .ref h6, .ref h7, .ref h8, .ref h9, .ref h10, .ref h11, .ref h12, .ref h13, .ref h14, .ref h15, .ref h16, .ref h17, .ref h18, .long 0, .int 1, .int 2, .int 0, .int 0, .int 0, .int 0, .int 0, .int 0]))]) (fun _ => rfl) (fun q3 H locs hP hD hS => ?_)
  refine W.eq (g2 := F0 m 23 ls [.int 0]) rfl ?_
  exact e_i (fun _ => 0) hx hb hr hlocks rfl rfl (hP.sub [1, 0] rfl) (hD.sub [1, 0] (by decide) rfl) hS (Nat.le_of_ble_eq_true rfl) (Nat.le_of_ble_eq_true rfl) dX12_waste_23
set_option maxHeartbeats 4000000 in
set_option maxRecDepth 100000 in
theorem c300_X6_isWithin (l : Launch) (hfl : l.stackTraces = false) (D : va_G) (cA : Nat → ClassId) (g : gv_T) (p0 : Int32) (k0 : p0 < 0) : CT l yX6_isWithin cX6_isWithin 3 (some .boolean) (RM 0 0 0 0) D cA g [.int p0, .int 0, .int 9] [] (fun q => some (.int 0)) (fun q => []) := by
  refine CT.of (by decide +kernel) (Nat.le_of_ble_eq_true rfl) ?_
  intro p e s m args below meth c A ls hx hb hr hml hown hG hlocks hnm hA hS hP hK hD hGV hl
  have hown : s.vm.findClass RX6 = some m.cls := hown
  have hl : lv_has ls 3 [(0, .int p0), (1, .int 0), (2, .int 9)] := hl
  have hSF : CF p m c cX6_isWithin 3 s args RX6 := ⟨hx, hb, hml, hown, hG⟩
  refine lv_iload_n hx hb dX6_isWithin_0 rfl (lv_at hl 0 rfl) ?_
  refine lv_iload_n hx hb dX6_isWithin_1 rfl (lv_at hl 1 rfl) ?_
  refine k_icmp_lt_t (tgt := 14) hx hb dX6_isWithin_2 k0 (by decide) ?_
  refine lv_iconst (v := 0) hx hb dX6_isWithin_14 (by decide) ?_
  exact e_i (fun _ => 0) hx hb hr hlocks rfl rfl hP hD hS (Nat.le_of_ble_eq_true rfl) (Nat.le_of_ble_eq_true rfl) dX6_isWithin_15
set_option maxHeartbeats 4000000 in
set_option maxRecDepth 100000 in
theorem c301_X6_setProps (l : Launch) (hfl : l.stackTraces = false) (D : va_G) (cA : Nat → ClassId) (g : gv_T) (h0 : Nat) (p0 : Int32) (k0 : p0 < 0) : CX l yX6_setProps cX6_setProps 3 (some .int) (RM 6 1 6 95) D cA g [.ref h0, .int p0] [] "java/lang/IllegalArgumentException" (fun q => []) := by
  refine CX.of (by decide +kernel) (Nat.le_of_ble_eq_true rfl) ?_
  intro p e s m args below meth c A ls hx hb hr hml hown hG hlocks htab hA hS hP hK hD hGV hl
  have hown : s.vm.findClass RX6 = some m.cls := hown
  have hl : lv_has ls 3 [(0, .ref h0), (1, .int p0)] := hl
  have hSF : CF p m c cX6_setProps 3 s args RX6 := ⟨hx, hb, hml, hown, hG⟩
  refine lv_iload_n hx hb dX6_setProps_0 rfl (lv_at hl 1 rfl) ?_
  refine lv_iconst (v := 0) hx hb dX6_setProps_1 (by decide) ?_
  refine lv_bipush (v := 9) hx hb dX6_setProps_2 (by decide) ?_
  refine ct_S (wr := []) hSF hl.1 hP hD hS hA hK hGV (c300_X6_isWithin l hfl D cA g (p0) k0) goS_X6_44 pd_X6_isWithin.2 ⟨(Nat.le_of_ble_eq_true rfl), (Nat.le_of_ble_eq_true rfl)⟩ ⟨(Nat.le_of_ble_eq_true rfl), (Nat.le_of_ble_eq_true rfl)⟩ dX6_setProps_4 rfl (Nat.le_of_ble_eq_true rfl) [] [] rfl (by decide) rfl (by decide) (by decide) (fun q => []) (fun _ => rfl) (fun q1 H locs hP hD hS => ?_)
  refine W.eq (g2 := F0 m 7 ls [.int 0]) rfl ?_
  refine k_if_ne_f (tgt := 20) hx hb dX6_setProps_7 (by decide) (by decide) ?_
  exact e_throw (fun _ => 0) (names := ["java/lang/RuntimeException", "java/lang/Exception"]) 22 hx hb hfl hown hG hGV htab hlocks (hl.1.trans hml.symm) (by decide +kernel) (by decide +kernel) gw668 gw95 rfl xat_X6_60 hP hD hS dX6_setProps_10 dX6_setProps_13 dX6_setProps_14 dX6_setProps_16 dX6_setProps_19 (Nat.le_of_ble_eq_true rfl) (Nat.le_of_ble_eq_true rfl) (Nat.le_of_ble_eq_true rfl) (Nat.le_of_ble_eq_true rfl) (Nat.le_of_ble_eq_true rfl) (Nat.le_of_ble_eq_true rfl)
set_option maxHeartbeats 4000000 in
set_option maxRecDepth 100000 in
theorem c302_L_setProps (l : Launch) (hfl : l.stackTraces = false) (D : va_G) (cA : Nat → ClassId) (g : gv_T) (h0 h1 h2 h3 h4 h5 h6 : Nat) (p0 : Int32) (k0 : p0 < 0) : CW l yL_setProps cL_setProps 4 (some .int) [(0, 9, 12, 13)] (RM 7 1 6 117) D cA g [.ref h0, .int p0, .ref h1] [(h0, .inr (9, [.ref h2, .ref h3, .ref h4, .ref h5, .ref h6]))] (fun q => some (.int 1)) (fun q => [(h0, .inr (9, [.ref h2, .ref h3, .ref h4, .ref h5, .ref h6]))]) := by
  refine CW.of (by decide +kernel) (Nat.le_of_ble_eq_true rfl) ?_
  intro p e s m args below meth c A ls hx hb hr hml hown hG hlocks htab hA hS hP hK hD hGV hl
  have hown : s.vm.findClass RL = some m.cls := hown
  have hl : lv_has ls 4 [(0, .ref h0), (1, .int p0), (2, .ref h1)] := hl
  have hSF : CF p m c cL_setProps 4 s args RL := ⟨hx, hb, hml, hown, hG⟩
  refine lv_aload_n hx hb dL_setProps_0 rfl (lv_at hl 2 rfl) ?_
  refine lv_iconst (v := 0) hx hb dL_setProps_1 (by decide) ?_
  refine lv_aload_n hx hb dL_setProps_2 rfl (lv_at hl 0 rfl) ?_
  refine lv_iload_n hx hb dL_setProps_3 rfl (lv_at hl 1 rfl) ?_
  refine cx_V (wr := [(h0, .inr (9, [.ref h2, .ref h3, .ref h4, .ref h5, .ref h6]))]) hSF hl.1 hP hD hS hA hK hGV (c301_X6_setProps l hfl D cA g h0 (p0) k0) goV_L_89 pd_X6_setProps ⟨(Nat.le_of_ble_eq_true rfl), (Nat.le_of_ble_eq_true rfl)⟩ ⟨(Nat.le_of_ble_eq_true rfl), (Nat.le_of_ble_eq_true rfl)⟩ (va_recv hK hP (ci := 9) (q0 := 0) rfl rfl) dL_setProps_4 rfl (Nat.le_of_ble_eq_true rfl) [] [0] rfl (by decide) rfl (by decide) (by decide) (fun q => [(h0, .inr (9, [.ref h2, .ref h3, .ref h4, .ref h5, .ref h6]))]) (fun _ => rfl) (fun q1 H locs x9 ce9 hP hD hS h9 hv9 hcl9 => ?_)
  refine vx_catch (own := RL) (name := "java/lang/IllegalArgumentException") hown [] { startPc := 0, endPc := 9, handlerPc := 12, catchType := 13 } [] (htab.trans rfl) (fun z hz => nomatch hz) rfl (by decide) (hG _ gw572) (va_Nw.use rfl (hGV.2.2.2.2.1 _ gw670)) h9 hv9 hcl9 ?_
  refine W.eq (g2 := F0 m 12 ls [.ref x9]) rfl ?_
  refine lv_astore_n (lv' := [(3, .ref x9), (0, .ref h0), (1, .int p0), (2, .ref h1)]) hx hb dL_setProps_12 rfl hl (by decide) rfl (fun ls hl => ?_)
  refine lv_iconst (v := 1) hx hb dL_setProps_13 (by decide) ?_
  exact e_i (fun _ => 0) hx hb hr hlocks rfl rfl hP hD hS (Nat.le_of_ble_eq_true rfl) (Nat.le_of_ble_eq_true rfl) dL_setProps_14
set_option maxHeartbeats 4000000 in
set_option maxRecDepth 100000 in
theorem c303_X12_in (l : Launch) (hfl : l.stackTraces = false) (D : va_G) (cA : Nat → ClassId) (g : gv_T) (p0 : Int64) (k0 : (lg_cmp p0 0) < 0) : CT l yX12_in cX12_in 4 (some .boolean) (RM 0 0 0 0) D cA g [.long p0, .int 0, .int 9] [] (fun q => some (.int 0)) (fun q => []) := by
  refine CT.of (by decide +kernel) (Nat.le_of_ble_eq_true rfl) ?_
  intro p e s m args below meth c A ls hx hb hr hml hown hG hlocks hnm hA hS hP hK hD hGV hl
  have hown : s.vm.findClass RX12 = some m.cls := hown
  have hl : lv_has ls 4 [(0, .long p0), (2, .int 0), (3, .int 9)] := hl
  have hSF : CF p m c cX12_in 4 s args RX12 := ⟨hx, hb, hml, hown, hG⟩
  refine lv_lload_n hx hb dX12_in_0 rfl (lv_at hl 0 rfl) ?_
  refine lv_iload_n hx hb dX12_in_1 rfl (lv_at hl 1 rfl) ?_
  refine lv_i2l (v := 0) hx hb dX12_in_2 (by decide +kernel) ?_
  refine k_lcmp (v := (lg_cmp p0 0)) hx hb dX12_in_3 rfl ?_
  refine k_if_lt_t (tgt := 18) hx hb dX12_in_4 k0 (by decide) ?_
  refine lv_iconst (v := 0) hx hb dX12_in_18 (by decide) ?_
  exact e_i (fun _ => 0) hx hb hr hlocks rfl rfl hP hD hS (Nat.le_of_ble_eq_true rfl) (Nat.le_of_ble_eq_true rfl) dX12_in_19
set_option maxHeartbeats 4000000 in
set_option maxRecDepth 100000 in
theorem c304_X12_setProps (l : Launch) (hfl : l.stackTraces = false) (D : va_G) (cA : Nat → ClassId) (g : gv_T) (h0 h1 h2 h3 h4 h5 h6 h7 h8 h9 h10 h11 h12 h13 h14 h15 h16 h17 h18 : Nat) (p0 : Int32) (k0 : (lg_cmp p0.toInt64 0) < 0) : CT l yX12_setProps cX12_setProps 3 (some .int) (RM 1 0 0 23) D cA g [.ref h0, .int p0] [(h0, .inr (15, [.ref h1, .ref h2, .ref h3, .ref h4, .ref h5, .ref h6, .ref h7, .ref h8, .ref h9, .ref h10, .ref h11, .ref h12, .ref h13, .ref h14, .ref h15, .ref h16, .ref h17, .ref h18, .long 0, .int 0, .int 2, .int 0, .int 0, .int 0, .int 0, .int 0, .int 0]))] (fun q => some (.int 0)) (fun q => [(h0, .inr (15, [.ref h1, .ref h2, .ref h3, .ref h4, .ref h5, .ref h6, .ref h7, .ref h8, .ref h9, .ref h10, .ref h11, .ref h12, .ref h13, .ref h14, .ref h15, .ref h16, .ref h17, .ref h18, .long 0, .int 1, .int 2, .int 0, .int 0, .int 0, .int 0, .int 0, .int 0]))]) := by
  refine CT.of (by decide +kernel) (Nat.le_of_ble_eq_true rfl) ?_
  intro p e s m args below meth c A ls hx hb hr hml hown hG hlocks hnm hA hS hP hK hD hGV hl
  have hown : s.vm.findClass RX12 = some m.cls := hown
  have hl : lv_has ls 3 [(0, .ref h0), (1, .int p0)] := hl
  have hSF : CF p m c cX12_setProps 3 s args RX12 := ⟨hx, hb, hml, hown, hG⟩
  refine lv_iload_n hx hb dX12_setProps_0 rfl (lv_at hl 1 rfl) ?_
  refine lv_i2l (v := p0.toInt64) hx hb dX12_setProps_1 rfl ?_
  refine lv_iconst (v := 0) hx hb dX12_setProps_2 (by decide) ?_
  refine lv_bipush (v := 9) hx hb dX12_setProps_3 (by decide) ?_
  refine ct_S (wr := [(h0, .inr (15, [.ref h1, .ref h2, .ref h3, .ref h4, .ref h5, .ref h6, .ref h7, .ref h8, .ref h9, .ref h10, .ref h11, .ref h12, .ref h13, .ref h14, .ref h15, .ref h16, .ref h17, .ref h18, .long 0, .int 0, .int 2, .int 0, .int 0, .int 0, .int 0, .int 0, .int 0]))]) hSF hl.1 hP hD hS hA hK hGV (c303_X12_in l hfl D cA g (p0.toInt64) k0) goS_X12_285 pd_X12_in.2 ⟨(Nat.le_of_ble_eq_true rfl), (Nat.le_of_ble_eq_true rfl)⟩ ⟨(Nat.le_of_ble_eq_true rfl), (Nat.le_of_ble_eq_true rfl)⟩ dX12_setProps_5 rfl (Nat.le_of_ble_eq_true rfl) [] [0] rfl (by decide) rfl (by decide) (by decide) (fun q => [(h0, .inr (15, [.ref h1, .ref h2, .ref h3, .ref h4, .ref h5, .ref h6, .ref h7, .ref h8, .ref h9, .ref h10, .ref h11, .ref h12, .ref h13, .ref h14, .ref h15, .ref h16, .ref h17, .ref h18, .long 0, .int 0, .int 2, .int 0, .int 0, .int 0, .int 0, .int 0, .int 0]))]) (fun _ => rfl) (fun q1 H locs hP hD hS => ?_)
  refine W.eq (g2 := F0 m 8 ls [.int 0]) rfl ?_
  refine k_if_ne_f (tgt := 17) hx hb dX12_setProps_8 (by decide) (by decide) ?_
  refine lv_aload_n hx hb dX12_setProps_11 rfl (lv_at hl 0 rfl) ?_
  refine lv_iconst (v := 1) hx hb dX12_setProps_12 (by decide) ?_
  refine ct_V (wr := []) hSF hl.1 hP hD hS hA hK hGV (c15_X12_fails l hfl D cA g h0 h1 h2 h3 h4 h5 h6 h7 h8 h9 h10 h11 h12 h13 h14 h15 h16 h17 h18) goV_X12_289 pd_X12_fails ⟨(Nat.le_of_ble_eq_true rfl), (Nat.le_of_ble_eq_true rfl)⟩ ⟨(Nat.le_of_ble_eq_true rfl), (Nat.le_of_ble_eq_true rfl)⟩ (va_recv hK hP (ci := 15) (q0 := 0) rfl rfl) dX12_setProps_13 rfl (Nat.le_of_ble_eq_true rfl) [0] [] rfl (by decide) rfl (by decide) (by decide) (fun q => [(h0, .inr (15, [.ref h1, .ref h2, .ref h3, .ref h4, .ref h5, .ref h6, .ref h7, .ref h8, .ref h9, .ref h10, .ref h11, .ref h12, .ref h13, .ref h14, .ref h15, .ref h16, .ref h17, .ref h18, .long 0, .int 1, .int 2, .int 0, .int 0, .int 0, .int 0, .int 0, .int 0]))]) (fun _ => rfl) (fun q2 H locs hP hD hS => ?_)
  refine W.eq (g2 := F0 m 16 ls [.int 0]) rfl ?_
  exact e_i (fun _ => 0) hx hb hr hlocks rfl rfl hP hD hS (Nat.le_of_ble_eq_true rfl) (Nat.le_of_ble_eq_true rfl) dX12_setProps_16
set_option maxHeartbeats 4000000 in
set_option maxRecDepth 100000 in
theorem c305_X6_isWithin (l : Launch) (hfl : l.stackTraces = false) (D : va_G) (cA : Nat → ClassId) (g : gv_T) (p0 : Int32) (k0 : ¬ p0 < 0) (k1 : 9 < p0) : CT l yX6_isWithin cX6_isWithin 3 (some .boolean) (RM 0 0 0 0) D cA g [.int p0, .int 0, .int 9] [] (fun q => some (.int 0)) (fun q => []) := by
  refine CT.of (by decide +kernel) (Nat.le_of_ble_eq_true rfl) ?_
  intro p e s m args below meth c A ls hx hb hr hml hown hG hlocks hnm hA hS hP hK hD hGV hl
  have hown : s.vm.findClass RX6 = some m.cls := hown
  have hl : lv_has ls 3 [(0, .int p0), (1, .int 0), (2, .int 9)] := hl
  have hSF : CF p m c cX6_isWithin 3 s args RX6 := ⟨hx, hb, hml, hown, hG⟩
  refine lv_iload_n hx hb dX6_isWithin_0 rfl (lv_at hl 0 rfl) ?_
  refine lv_iload_n hx hb dX6_isWithin_1 rfl (lv_at hl 1 rfl) ?_
  refine k_icmp_lt_f (tgt := 14) hx hb dX6_isWithin_2 k0 (by decide) ?_
  refine lv_iload_n hx hb dX6_isWithin_5 rfl (lv_at hl 0 rfl) ?_
  refine lv_iload_n hx hb dX6_isWithin_6 rfl (lv_at hl 2 rfl) ?_
  refine k_icmp_gt_t (tgt := 14) hx hb dX6_isWithin_7 k1 (by decide) ?_
  refine lv_iconst (v := 0) hx hb dX6_isWithin_14 (by decide) ?_
  exact e_i (fun _ => 0) hx hb hr hlocks rfl rfl hP hD hS (Nat.le_of_ble_eq_true rfl) (Nat.le_of_ble_eq_true rfl) dX6_isWithin_15
set_option maxHeartbeats 4000000 in
set_option maxRecDepth 100000 in
theorem c306_X6_setProps (l : Launch) (hfl : l.stackTraces = false) (D : va_G) (cA : Nat → ClassId) (g : gv_T) (h0 : Nat) (p0 : Int32) (k0 : ¬ p0 < 0) (k1 : 9 < p0) : CX l yX6_setProps cX6_setProps 3 (some .int) (RM 6 1 6 95) D cA g [.ref h0, .int p0] [] "java/lang/IllegalArgumentException" (fun q => []) := by
  refine CX.of (by decide +kernel) (Nat.le_of_ble_eq_true rfl) ?_
  intro p e s m args below meth c A ls hx hb hr hml hown hG hlocks htab hA hS hP hK hD hGV hl
  have hown : s.vm.findClass RX6 = some m.cls := hown
  have hl : lv_has ls 3 [(0, .ref h0), (1, .int p0)] := hl
  have hSF : CF p m c cX6_setProps 3 s args RX6 := ⟨hx, hb, hml, hown, hG⟩
  refine lv_iload_n hx hb dX6_setProps_0 rfl (lv_at hl 1 rfl) ?_
  refine lv_iconst (v := 0) hx hb dX6_setProps_1 (by decide) ?_
  refine lv_bipush (v := 9) hx hb dX6_setProps_2 (by decide) ?_
  refine ct_S (wr := []) hSF hl.1 hP hD hS hA hK hGV (c305_X6_isWithin l hfl D cA g (p0) k0 k1) goS_X6_44 pd_X6_isWithin.2 ⟨(Nat.le_of_ble_eq_true rfl), (Nat.le_of_ble_eq_true rfl)⟩ ⟨(Nat.le_of_ble_eq_true rfl), (Nat.le_of_ble_eq_true rfl)⟩ dX6_setProps_4 rfl (Nat.le_of_ble_eq_true rfl) [] [] rfl (by decide) rfl (by decide) (by decide) (fun q => []) (fun _ => rfl) (fun q1 H locs hP hD hS => ?_)
  refine W.eq (g2 := F0 m 7 ls [.int 0]) rfl ?_
  refine k_if_ne_f (tgt := 20) hx hb dX6_setProps_7 (by decide) (by decide) ?_
  exact e_throw (fun _ => 0) (names := ["java/lang/RuntimeException", "java/lang/Exception"]) 22 hx hb hfl hown hG hGV htab hlocks (hl.1.trans hml.symm) (by decide +kernel) (by decide +kernel) gw668 gw95 rfl xat_X6_60 hP hD hS dX6_setProps_10 dX6_setProps_13 dX6_setProps_14 dX6_setProps_16 dX6_setProps_19 (Nat.le_of_ble_eq_true rfl) (Nat.le_of_ble_eq_true rfl) (Nat.le_of_ble_eq_true rfl) (Nat.le_of_ble_eq_true rfl) (Nat.le_of_ble_eq_true rfl) (Nat.le_of_ble_eq_true rfl)
set_option maxHeartbeats 4000000 in
set_option maxRecDepth 100000 in
theorem c307_L_setProps (l : Launch) (hfl : l.stackTraces = false) (D : va_G) (cA : Nat → ClassId) (g : gv_T) (h0 h1 h2 h3 h4 h5 h6 : Nat) (p0 : Int32) (k0 : ¬ p0 < 0) (k1 : 9 < p0) : CW l yL_setProps cL_setProps 4 (some .int) [(0, 9, 12, 13)] (RM 7 1 6 117) D cA g [.ref h0, .int p0, .ref h1] [(h0, .inr (9, [.ref h2, .ref h3, .ref h4, .ref h5, .ref h6]))] (fun q => some (.int 1)) (fun q => [(h0, .inr (9, [.ref h2, .ref h3, .ref h4, .ref h5, .ref h6]))]) := by
  refine CW.of (by decide +kernel) (Nat.le_of_ble_eq_true rfl) ?_
  intro p e s m args below meth c A ls hx hb hr hml hown hG hlocks htab hA hS hP hK hD hGV hl
  have hown : s.vm.findClass RL = some m.cls := hown
  have hl : lv_has ls 4 [(0, .ref h0), (1, .int p0), (2, .ref h1)] := hl
  have hSF : CF p m c cL_setProps 4 s args RL := ⟨hx, hb, hml, hown, hG⟩
  refine lv_aload_n hx hb dL_setProps_0 rfl (lv_at hl 2 rfl) ?_
  refine lv_iconst (v := 0) hx hb dL_setProps_1 (by decide) ?_
  refine lv_aload_n hx hb dL_setProps_2 rfl (lv_at hl 0 rfl) ?_
  refine lv_iload_n hx hb dL_setProps_3 rfl (lv_at hl 1 rfl) ?_
  refine cx_V (wr := [(h0, .inr (9, [.ref h2, .ref h3, .ref h4, .ref h5, .ref h6]))]) hSF hl.1 hP hD hS hA hK hGV (c306_X6_setProps l hfl D cA g h0 (p0) k0 k1) goV_L_89 pd_X6_setProps ⟨(Nat.le_of_ble_eq_true rfl), (Nat.le_of_ble_eq_true rfl)⟩ ⟨(Nat.le_of_ble_eq_true rfl), (Nat.le_of_ble_eq_true rfl)⟩ (va_recv hK hP (ci := 9) (q0 := 0) rfl rfl) dL_setProps_4 rfl (Nat.le_of_ble_eq_true rfl) [] [0] rfl (by decide) rfl (by decide) (by decide) (fun q => [(h0, .inr (9, [.ref h2, .ref h3, .ref h4, .ref h5, .ref h6]))]) (fun _ => rfl) (fun q1 H locs x9 ce9 hP hD hS h9 hv9 hcl9 => ?_)
  refine vx_catch (own := RL) (name := "java/lang/IllegalArgumentException") hown [] { startPc := 0, endPc := 9, handlerPc := 12, catchType := 13 } [] (htab.trans rfl) (fun z hz => nomatch hz) rfl (by decide) (hG _ gw572) (va_Nw.use rfl (hGV.2.2.2.2.1 _ gw670)) h9 hv9 hcl9 ?_
  refine W.eq (g2 := F0 m 12 ls [.ref x9]) rfl ?_
  refine lv_astore_n (lv' := [(3, .ref x9), (0, .ref h0), (1, .int p0), (2, .ref h1)]) hx hb dL_setProps_12 rfl hl (by decide) rfl (fun ls hl => ?_)
  refine lv_iconst (v := 1) hx hb dL_setProps_13 (by decide) ?_
  exact e_i (fun _ => 0) hx hb hr hlocks rfl rfl hP hD hS (Nat.le_of_ble_eq_true rfl) (Nat.le_of_ble_eq_true rfl) dL_setProps_14
set_option maxHeartbeats 4000000 in
set_option maxRecDepth 100000 in
theorem c308_X12_in (l : Launch) (hfl : l.stackTraces = false) (D : va_G) (cA : Nat → ClassId) (g : gv_T) (p0 : Int64) (k0 : ¬ (lg_cmp p0 0) < 0) (k1 : 0 < (lg_cmp p0 9)) : CT l yX12_in cX12_in 4 (some .boolean) (RM 0 0 0 0) D cA g [.long p0, .int 0, .int 9] [] (fun q => some (.int 0)) (fun q => []) := by
  refine CT.of (by decide +kernel) (Nat.le_of_ble_eq_true rfl) ?_
  intro p e s m args below meth c A ls hx hb hr hml hown hG hlocks hnm hA hS hP hK hD hGV hl
  have hown : s.vm.findClass RX12 = some m.cls := hown
  have hl : lv_has ls 4 [(0, .long p0), (2, .int 0), (3, .int 9)] := hl
  have hSF : CF p m c cX12_in 4 s args RX12 := ⟨hx, hb, hml, hown, hG⟩
  refine lv_lload_n hx hb dX12_in_0 rfl (lv_at hl 0 rfl) ?_
  refine lv_iload_n hx hb dX12_in_1 rfl (lv_at hl 1 rfl) ?_
  refine lv_i2l (v := 0) hx hb dX12_in_2 (by decide +kernel) ?_
  refine k_lcmp (v := (lg_cmp p0 0)) hx hb dX12_in_3 rfl ?_
  refine k_if_lt_f (tgt := 18) hx hb dX12_in_4 k0 (by decide) ?_
  refine lv_lload_n hx hb dX12_in_7 rfl (lv_at hl 0 rfl) ?_
  refine lv_iload_n hx hb dX12_in_8 rfl (lv_at hl 2 rfl) ?_
  refine lv_i2l (v := 9) hx hb dX12_in_9 (by decide +kernel) ?_
  refine k_lcmp (v := (lg_cmp p0 9)) hx hb dX12_in_10 rfl ?_
  refine k_if_gt_t (tgt := 18) hx hb dX12_in_11 k1 (by decide) ?_
  refine lv_iconst (v := 0) hx hb dX12_in_18 (by decide) ?_
  exact e_i (fun _ => 0) hx hb hr hlocks rfl rfl hP hD hS (Nat.le_of_ble_eq_true rfl) (Nat.le_of_ble_eq_true rfl) dX12_in_19
set_option maxHeartbeats 4000000 in
set_option maxRecDepth 100000 in
theorem c309_X12_setProps (l : Launch) (hfl : l.stackTraces = false) (D : va_G) (cA : Nat → ClassId) (g : gv_T) (h0 h1 h2 h3 h4 h5 h6 h7 h8 h9 h10 h11 h12 h13 h14 h15 h16 h17 h18 : Nat) (p0 : Int32) (k0 : ¬ (lg_cmp p0.toInt64 0) < 0) (k1 : 0 < (lg_cmp p0.toInt64 9)) : CT l yX12_setProps cX12_setProps 3 (some .int) (RM 1 0 0 23) D cA g [.ref h0, .int p0] [(h0, .inr (15, [.ref h1, .ref h2, .ref h3, .ref h4, .ref h5, .ref h6, .ref h7, .ref h8, .ref h9, .ref h10, .ref h11, .ref h12, .ref h13, .ref h14, .ref h15, .ref h16, .ref h17, .ref h18, .long 0, .int 0, .int 2, .int 0, .int 0, .int 0, .int 0, .int 0, .int 0]))] (fun q => some (.int 0)) (fun q => [(h0, .inr (15, [.ref h1, .ref h2, .ref h3, .ref h4, .ref h5, .ref h6, .ref h7, .ref h8, .ref h9, .ref h10, .ref h11, .ref h12, .ref h13, .ref h14, .ref h15, .ref h16, .ref h17, .ref h18, .long 0, .int 1, .int 2, .int 0, .int 0, .int 0, .int 0, .int 0, .int 0]))]) := by
  refine CT.of (by decide +kernel) (Nat.le_of_ble_eq_true rfl) ?_
  intro p e s m args below meth c A ls hx hb hr hml hown hG hlocks hnm hA hS hP hK hD hGV hl
  have hown : s.vm.findClass RX12 = some m.cls := hown
  have hl : lv_has ls 3 [(0, .ref h0), (1, .int p0)] := hl
  have hSF : CF p m c cX12_setProps 3 s args RX12 := ⟨hx, hb, hml, hown, hG⟩
  refine lv_iload_n hx hb dX12_setProps_0 rfl (lv_at hl 1 rfl) ?_
  refine lv_i2l (v := p0.toInt64) hx hb dX12_setProps_1 rfl ?_
  refine lv_iconst (v := 0) hx hb dX12_setProps_2 (by decide) ?_
  refine lv_bipush (v := 9) hx hb dX12_setProps_3 (by decide) ?_
  refine ct_S (wr := [(h0, .inr (15, [.ref h1, .ref h2, .ref h3, .ref h4, .ref h5, .ref h6, .ref h7, .ref h8, .ref h9, .ref h10, .ref h11, .ref h12, .ref h13, .ref h14, .ref h15, .ref h16, .ref h17, .ref h18, .long 0, .int 0, .int 2, .int 0, .int 0, .int 0, .int 0, .int 0, .int 0]))]) hSF hl.1 hP hD hS hA hK hGV (c308_X12_in l hfl D cA g (p0.toInt64) k0 k1) goS_X12_285 pd_X12_in.2 ⟨(Nat.le_of_ble_eq_true rfl), (Nat.le_of_ble_eq_true rfl)⟩ ⟨(Nat.le_of_ble_eq_true rfl), (Nat.le_of_ble_eq_true rfl)⟩ dX12_setProps_5 rfl (Nat.le_of_ble_eq_true rfl) [] [0] rfl (by decide) rfl (by decide) (by decide) (fun q => [(h0, .inr (15, [.ref h1, .ref h2, .ref h3, .ref h4, .ref h5, .ref h6, .ref h7, .ref h8, .ref h9, .ref h10, .ref h11, .ref h12, .ref h13, .ref h14, .ref h15, .ref h16, .ref h17, .ref h18, .long 0, .int 0, .int 2, .int 0, .int 0, .int 0, .int 0, .int 0, .int 0]))]) (fun _ => rfl) (fun q1 H locs hP hD hS => ?_)
  refine W.eq (g2 := F0 m 8 ls [.int 0]) rfl ?_
  refine k_if_ne_f (tgt := 17) hx hb dX12_setProps_8 (by decide) (by decide) ?_
  refine lv_aload_n hx hb dX12_setProps_11 rfl (lv_at hl 0 rfl) ?_
  refine lv_iconst (v := 1) hx hb dX12_setProps_12 (by decide) ?_
  refine ct_V (wr := []) hSF hl.1 hP hD hS hA hK hGV (c15_X12_fails l hfl D cA g h0 h1 h2 h3 h4 h5 h6 h7 h8 h9 h10 h11 h12 h13 h14 h15 h16 h17 h18) goV_X12_289 pd_X12_fails ⟨(Nat.le_of_ble_eq_true rfl), (Nat.le_of_ble_eq_true rfl)⟩ ⟨(Nat.le_of_ble_eq_true rfl), (Nat.le_of_ble_eq_true rfl)⟩ (va_recv hK hP (ci := 15) (q0 := 0) rfl rfl) dX12_setProps_13 rfl (Nat.le_of_ble_eq_true rfl) [0] [] rfl (by decide) rfl (by decide) (by decide) (fun q => [(h0, .inr (15, [.ref h1, .ref h2, .ref h3, .ref h4, .ref h5, .ref h6, .ref h7, .ref h8, .ref h9, .ref h10, .ref h11, .ref h12, .ref h13, .ref h14, .ref h15, .ref h16, .ref h17, .ref h18, .long 0, .int 1, .int 2, .int 0, .int 0, .int 0, .int 0, .int 0, .int 0]))]) (fun _ => rfl) (fun q2 H locs hP hD hS => ?_)
  refine W.eq (g2 := F0 m 16 ls [.int 0]) rfl ?_
  exact e_i (fun _ => 0) hx hb hr hlocks rfl rfl hP hD hS (Nat.le_of_ble_eq_true rfl) (Nat.le_of_ble_eq_true rfl) dX12_setProps_16
set_option maxHeartbeats 4000000 in
set_option maxRecDepth 100000 in
theorem c310_X6_isWithin (l : Launch) (hfl : l.stackTraces = false) (D : va_G) (cA : Nat → ClassId) (g : gv_T) (p0 : Int32) (k0 : ¬ p0 < 0) (k1 : ¬ 9 < p0) : CT l yX6_isWithin cX6_isWithin 3 (some .boolean) (RM 0 0 0 0) D cA g [.int p0, .int 0, .int 9] [] (fun q => some (.int 1)) (fun q => []) := by
  refine CT.of (by decide +kernel) (Nat.le_of_ble_eq_true rfl) ?_
  intro p e s m args below meth c A ls hx hb hr hml hown hG hlocks hnm hA hS hP hK hD hGV hl
  have hown : s.vm.findClass RX6 = some m.cls := hown
  have hl : lv_has ls 3 [(0, .int p0), (1, .int 0), (2, .int 9)] := hl
  have hSF : CF p m c cX6_isWithin 3 s args RX6 := ⟨hx, hb, hml, hown, hG⟩
  refine lv_iload_n hx hb dX6_isWithin_0 rfl (lv_at hl 0 rfl) ?_
  refine lv_iload_n hx hb dX6_isWithin_1 rfl (lv_at hl 1 rfl) ?_
  refine k_icmp_lt_f (tgt := 14) hx hb dX6_isWithin_2 k0 (by decide) ?_
  refine lv_iload_n hx hb dX6_isWithin_5 rfl (lv_at hl 0 rfl) ?_
  refine lv_iload_n hx hb dX6_isWithin_6 rfl (lv_at hl 2 rfl) ?_
  refine k_icmp_gt_f (tgt := 14) hx hb dX6_isWithin_7 k1 (by decide) ?_
  refine lv_iconst (v := 1) hx hb dX6_isWithin_10 (by decide) ?_
  refine lv_goto (tgt := 15) hx hb dX6_isWithin_11 (by decide) ?_
  exact e_i (fun _ => 0) hx hb hr hlocks rfl rfl hP hD hS (Nat.le_of_ble_eq_true rfl) (Nat.le_of_ble_eq_true rfl) dX6_isWithin_15
set_option maxHeartbeats 4000000 in
set_option maxRecDepth 100000 in
theorem c311_X6_setProps (l : Launch) (hfl : l.stackTraces = false) (D : va_G) (cA : Nat → ClassId) (g : gv_T) (h0 h1 h2 h3 h4 h5 h6 h7 h8 h9 h10 : Nat) (p0 : Int32) (k0 : ¬ p0 < 0) (k1 : ¬ 9 < p0) : CT l yX6_setProps cX6_setProps 3 (some .int) (RM 1 0 0 22) D cA g [.ref h0, .int p0] [(h0, .inr (9, [.ref h1, .ref h2, .ref h3, .ref h4, .ref h5])), (h5, .inr (7, [.int 2, .int 0, .int 0, .int 0, .ref h6, .ref h7, .ref h8, .ref h9, .ref h10]))] (fun q => some (.int 2)) (fun q => [(h0, .inr (9, [.ref h1, .ref h2, .ref h3, .ref h4, .ref h5])), (h5, .inr (7, [.int p0, .int 0, .int 0, .int 0, .ref h6, .ref h7, .ref h8, .ref h9, .ref h10]))]) := by
  refine CT.of (by decide +kernel) (Nat.le_of_ble_eq_true rfl) ?_
  intro p e s m args below meth c A ls hx hb hr hml hown hG hlocks hnm hA hS hP hK hD hGV hl
  have hown : s.vm.findClass RX6 = some m.cls := hown
  have hl : lv_has ls 3 [(0, .ref h0), (1, .int p0)] := hl
  have hSF : CF p m c cX6_setProps 3 s args RX6 := ⟨hx, hb, hml, hown, hG⟩
  refine lv_iload_n hx hb dX6_setProps_0 rfl (lv_at hl 1 rfl) ?_
  refine lv_iconst (v := 0) hx hb dX6_setProps_1 (by decide) ?_
  refine lv_bipush (v := 9) hx hb dX6_setProps_2 (by decide) ?_
  refine ct_S (wr := [(h0, .inr (9, [.ref h1, .ref h2, .ref h3, .ref h4, .ref h5])), (h5, .inr (7, [.int 2, .int 0, .int 0, .int 0, .ref h6, .ref h7, .ref h8, .ref h9, .ref h10]))]) hSF hl.1 hP hD hS hA hK hGV (c310_X6_isWithin l hfl D cA g (p0) k0 k1) goS_X6_44 pd_X6_isWithin.2 ⟨(Nat.le_of_ble_eq_true rfl), (Nat.le_of_ble_eq_true rfl)⟩ ⟨(Nat.le_of_ble_eq_true rfl), (Nat.le_of_ble_eq_true rfl)⟩ dX6_setProps_4 rfl (Nat.le_of_ble_eq_true rfl) [] [0, 1] rfl (by decide) rfl (by decide) (by decide) (fun q => [(h0, .inr (9, [.ref h1, .ref h2, .ref h3, .ref h4, .ref h5])), (h5, .inr (7, [.int 2, .int 0, .int 0, .int 0, .ref h6, .ref h7, .ref h8, .ref h9, .ref h10]))]) (fun _ => rfl) (fun q1 H locs hP hD hS => ?_)
  refine W.eq (g2 := F0 m 7 ls [.int 1]) rfl ?_
  refine k_if_ne_t (tgt := 20) hx hb dX6_setProps_7 (by decide) (by decide) ?_
  refine lv_aload_n hx hb dX6_setProps_20 rfl (lv_at hl 0 rfl) ?_
  refine k_get (ci := 9) (C := RX6) (T := TX6) (N := 5) (v := .ref h5) hx hb hG inX6 hown hK hP 0 rfl rfl 4 (by decide) gw367 rfl dX6_setProps_21 ?_
  refine k_get (ci := 7) (C := RX4) (T := TX4) (N := 9) (v := .int 2) hx hb hG inX4 hown hK hP 1 rfl rfl 0 (by decide) gw331 rfl dX6_setProps_24 ?_
  refine lv_istore_n (lv' := [(2, .int 2), (0, .ref h0), (1, .int p0)]) hx hb dX6_setProps_27 rfl hl (by decide) rfl (fun ls hl => ?_)
  refine lv_aload_n hx hb dX6_setProps_28 rfl (lv_at hl 1 rfl) ?_
  refine k_get (ci := 9) (C := RX6) (T := TX6) (N := 5) (v := .ref h5) hx hb hG inX6 hown hK hP 0 rfl rfl 4 (by decide) gw367 rfl dX6_setProps_29 ?_
  refine lv_iload_n hx hb dX6_setProps_32 rfl (lv_at hl 2 rfl) ?_
  refine k_put (ci := 7) (C := RX4) (T := TX4) (N := 9) (v := .int p0) (ws1 := [(h0, .inr (9, [.ref h1, .ref h2, .ref h3, .ref h4, .ref h5])), (h5, .inr (7, [.int p0, .int 0, .int 0, .int 0, .ref h6, .ref h7, .ref h8, .ref h9, .ref h10]))]) hx hb hG inX4 tyX4 tyX4_ok nmX4 hown hK hP hD hS 1 rfl rfl 0 (by decide) gw331 rfl ⟨rfl, rfl⟩ rfl (Nat.le_of_ble_eq_true rfl) dX6_setProps_33 (fun H locs hP hD hS => ?_)
  refine lv_aload_n hx hb dX6_setProps_36 rfl (lv_at hl 1 rfl) ?_
  refine k_get (ci := 9) (C := RX6) (T := TX6) (N := 5) (v := .ref h5) hx hb hG inX6 hown hK hP 0 rfl rfl 4 (by decide) gw367 rfl dX6_setProps_37 ?_
  refine lv_iconst (v := 0) hx hb dX6_setProps_40 (by decide) ?_
  refine k_put (ci := 7) (C := RX4) (T := TX4) (N := 9) (v := .int 0) (ws1 := [(h0, .inr (9, [.ref h1, .ref h2, .ref h3, .ref h4, .ref h5])), (h5, .inr (7, [.int p0, .int 0, .int 0, .int 0, .ref h6, .ref h7, .ref h8, .ref h9, .ref h10]))]) hx hb hG inX4 tyX4 tyX4_ok nmX4 hown hK hP hD hS 1 rfl rfl 1 (by decide) gw333 rfl ⟨rfl, rfl⟩ rfl (Nat.le_of_ble_eq_true rfl) dX6_setProps_41 (fun H locs hP hD hS => ?_)
  refine lv_iload_n hx hb dX6_setProps_44 rfl (lv_at hl 0 rfl) ?_
  exact e_i (fun _ => 0) hx hb hr hlocks rfl rfl hP hD hS (Nat.le_of_ble_eq_true rfl) (Nat.le_of_ble_eq_true rfl) dX6_setProps_45
set_option maxHeartbeats 4000000 in
set_option maxRecDepth 100000 in
theorem c312_L_setProps (l : Launch) (hfl : l.stackTraces = false) (D : va_G) (cA : Nat → ClassId) (g : gv_T) (h0 h1 h2 h3 h4 h5 h6 h7 h8 h9 h10 h11 : Nat) (p0 : Int32) (k0 : ¬ p0 < 0) (k1 : ¬ 9 < p0) : CW l yL_setProps cL_setProps 4 (some .int) [(0, 9, 12, 13)] (RM 2 0 0 44) D cA g [.ref h0, .int p0, .ref h1] [(h0, .inr (9, [.ref h2, .ref h3, .ref h4, .ref h5, .ref h6])), (h6, .inr (7, [.int 2, .int 0, .int 0, .int 0, .ref h7, .ref h8, .ref h9, .ref h10, .ref h11])), (h1, .inl (cA 1, 1, .inr (.inl (fun _ => 0))))] (fun q => some (.int 0)) (fun q => [(h0, .inr (9, [.ref h2, .ref h3, .ref h4, .ref h5, .ref h6])), (h6, .inr (7, [.int p0, .int 0, .int 0, .int 0, .ref h7, .ref h8, .ref h9, .ref h10, .ref h11])), (h1, .inl (cA 1, 1, .inr (.inl (vp_updL (fun _ => 0) 0 2))))]) := by
  refine CW.of (by decide +kernel) (Nat.le_of_ble_eq_true rfl) ?_
  intro p e s m args below meth c A ls hx hb hr hml hown hG hlocks htab hA hS hP hK hD hGV hl
  have hown : s.vm.findClass RL = some m.cls := hown
  have hl : lv_has ls 4 [(0, .ref h0), (1, .int p0), (2, .ref h1)] := hl
  have hSF : CF p m c cL_setProps 4 s args RL := ⟨hx, hb, hml, hown, hG⟩
  refine lv_aload_n hx hb dL_setProps_0 rfl (lv_at hl 2 rfl) ?_
  refine lv_iconst (v := 0) hx hb dL_setProps_1 (by decide) ?_
  refine lv_aload_n hx hb dL_setProps_2 rfl (lv_at hl 0 rfl) ?_
  refine lv_iload_n hx hb dL_setProps_3 rfl (lv_at hl 1 rfl) ?_
  refine ct_V (wr := [(h1, .inl (cA 1, 1, .inr (.inl (fun _ => 0))))]) hSF hl.1 hP hD hS hA hK hGV (c311_X6_setProps l hfl D cA g h0 h2 h3 h4 h5 h6 h7 h8 h9 h10 h11 (p0) k0 k1) goV_L_89 pd_X6_setProps ⟨(Nat.le_of_ble_eq_true rfl), (Nat.le_of_ble_eq_true rfl)⟩ ⟨(Nat.le_of_ble_eq_true rfl), (Nat.le_of_ble_eq_true rfl)⟩ (va_recv hK hP (ci := 9) (q0 := 0) rfl rfl) dL_setProps_4 rfl (Nat.le_of_ble_eq_true rfl) [0, 1] [2] rfl (by decide) rfl (by decide) (by decide) (fun q => [(h1, .inl (cA 1, 1, .inr (.inl (fun _ => 0)))), (h0, .inr (9, [.ref h2, .ref h3, .ref h4, .ref h5, .ref h6])), (h6, .inr (7, [.int p0, .int 0, .int 0, .int 0, .ref h7, .ref h8, .ref h9, .ref h10, .ref h11]))]) (fun _ => rfl) (fun q1 H locs hP hD hS => ?_)
  refine W.eq (g2 := F0 m 7 ls [.int 2, .int 0, .ref h1]) rfl ?_
  refine lv_i2l (v := 2) hx hb dL_setProps_7 (by decide +kernel) ?_
  refine k_last (ws1 := [(h1, .inl (cA 1, 1, .inr (.inl (vp_updL (fun _ => 0) 0 2)))), (h0, .inr (9, [.ref h2, .ref h3, .ref h4, .ref h5, .ref h6])), (h6, .inr (7, [.int p0, .int 0, .int 0, .int 0, .ref h7, .ref h8, .ref h9, .ref h10, .ref h11]))]) hx hb hK hP hD hS 0 rfl rfl (by unfold vp_in; decide) dL_setProps_8 (fun H locs hP hD hS => ?_)
  refine lv_goto (tgt := 15) hx hb dL_setProps_9 (by decide) ?_
  refine lv_iconst (v := 0) hx hb dL_setProps_15 (by decide) ?_
  exact e_i (fun _ => 0) hx hb hr hlocks rfl rfl (hP.sub [1, 2, 0] rfl) (hD.sub [1, 2, 0] (by decide) rfl) hS (Nat.le_of_ble_eq_true rfl) (Nat.le_of_ble_eq_true rfl) dL_setProps_16
set_option maxHeartbeats 4000000 in
set_option maxRecDepth 100000 in
theorem c313_X12_in (l : Launch) (hfl : l.stackTraces = false) (D : va_G) (cA : Nat → ClassId) (g : gv_T) (p0 : Int64) (k0 : ¬ (lg_cmp p0 0) < 0) (k1 : ¬ 0 < (lg_cmp p0 9)) : CT l yX12_in cX12_in 4 (some .boolean) (RM 0 0 0 0) D cA g [.long p0, .int 0, .int 9] [] (fun q => some (.int 1)) (fun q => []) := by
  refine CT.of (by decide +kernel) (Nat.le_of_ble_eq_true rfl) ?_
  intro p e s m args below meth c A ls hx hb hr hml hown hG hlocks hnm hA hS hP hK hD hGV hl
  have hown : s.vm.findClass RX12 = some m.cls := hown
  have hl : lv_has ls 4 [(0, .long p0), (2, .int 0), (3, .int 9)] := hl
  have hSF : CF p m c cX12_in 4 s args RX12 := ⟨hx, hb, hml, hown, hG⟩
  refine lv_lload_n hx hb dX12_in_0 rfl (lv_at hl 0 rfl) ?_
  refine lv_iload_n hx hb dX12_in_1 rfl (lv_at hl 1 rfl) ?_
  refine lv_i2l (v := 0) hx hb dX12_in_2 (by decide +kernel) ?_
  refine k_lcmp (v := (lg_cmp p0 0)) hx hb dX12_in_3 rfl ?_
  refine k_if_lt_f (tgt := 18) hx hb dX12_in_4 k0 (by decide) ?_
  refine lv_lload_n hx hb dX12_in_7 rfl (lv_at hl 0 rfl) ?_
  refine lv_iload_n hx hb dX12_in_8 rfl (lv_at hl 2 rfl) ?_
  refine lv_i2l (v := 9) hx hb dX12_in_9 (by decide +kernel) ?_
  refine k_lcmp (v := (lg_cmp p0 9)) hx hb dX12_in_10 rfl ?_
  refine k_if_gt_f (tgt := 18) hx hb dX12_in_11 k1 (by decide) ?_
  refine lv_iconst (v := 1) hx hb dX12_in_14 (by decide) ?_
  refine lv_goto (tgt := 19) hx hb dX12_in_15 (by decide) ?_
  exact e_i (fun _ => 0) hx hb hr hlocks rfl rfl hP hD hS (Nat.le_of_ble_eq_true rfl) (Nat.le_of_ble_eq_true rfl) dX12_in_19
set_option maxHeartbeats 4000000 in
set_option maxRecDepth 100000 in
theorem c314_X12_tell (l : Launch) (hfl : l.stackTraces = false) (D : va_G) (cA : Nat → ClassId) (g : gv_T) (h0 h1 h2 h3 h4 h5 h6 h7 h8 h9 h10 h11 h12 h13 h14 h15 h16 h17 h18 : Nat) (p0 : Int32) : CT l yX12_tell cX12_tell 2 (some .int) (RM 0 0 0 0) D cA g [.ref h0, .int 2] [(h0, .inr (15, [.ref h1, .ref h2, .ref h3, .ref h4, .ref h5, .ref h6, .ref h7, .ref h8, .ref h9, .ref h10, .ref h11, .ref h12, .ref h13, .ref h14, .ref h15, .ref h16, .ref h17, .ref h18, .long 0, .int 0, .int p0, .int 0, .int 0, .int 0, .int 0, .int 0, .int 0]))] (fun q => some (.int 2)) (fun q => [(h0, .inr (15, [.ref h1, .ref h2, .ref h3, .ref h4, .ref h5, .ref h6, .ref h7, .ref h8, .ref h9, .ref h10, .ref h11, .ref h12, .ref h13, .ref h14, .ref h15, .ref h16, .ref h17, .ref h18, .long 0, .int 0, .int p0, .int 0, .int 0, .int 0, .int 0, .int 0, .int 0]))]) := by
  refine CT.of (by decide +kernel) (Nat.le_of_ble_eq_true rfl) ?_
  intro p e s m args below meth c A ls hx hb hr hml hown hG hlocks hnm hA hS hP hK hD hGV hl
  have hown : s.vm.findClass RX12 = some m.cls := hown
  have hl : lv_has ls 2 [(0, .ref h0), (1, .int 2)] := hl
  have hSF : CF p m c cX12_tell 2 s args RX12 := ⟨hx, hb, hml, hown, hG⟩
  refine lv_aload_n hx hb dX12_tell_0 rfl (lv_at hl 0 rfl) ?_
  refine lv_iconst (v := 0) hx hb dX12_tell_1 (by decide) ?_
  refine k_put (ci := 15) (C := RX12) (T := TX12) (N := 27) (v := .int 0) (ws1 := [(h0, .inr (15, [.ref h1, .ref h2, .ref h3, .ref h4, .ref h5, .ref h6, .ref h7, .ref h8, .ref h9, .ref h10, .ref h11, .ref h12, .ref h13, .ref h14, .ref h15, .ref h16, .ref h17, .ref h18, .long 0, .int 0, .int p0, .int 0, .int 0, .int 0, .int 0, .int 0, .int 0]))]) hx hb hG inX12 tyX12 tyX12_ok nmX12 hown hK hP hD hS 0 rfl rfl 19 (by decide) gw1238 rfl ⟨rfl, rfl⟩ rfl (Nat.le_of_ble_eq_true rfl) dX12_tell_2 (fun H locs hP hD hS => ?_)
  refine lv_iload_n hx hb dX12_tell_5 rfl (lv_at hl 1 rfl) ?_
  exact e_i (fun _ => 0) hx hb hr hlocks rfl rfl hP hD hS (Nat.le_of_ble_eq_true rfl) (Nat.le_of_ble_eq_true rfl) dX12_tell_6
set_option maxHeartbeats 4000000 in
set_option maxRecDepth 100000 in
theorem c315_X12_setProps (l : Launch) (hfl : l.stackTraces = false) (D : va_G) (cA : Nat → ClassId) (g : gv_T) (h0 h1 h2 h3 h4 h5 h6 h7 h8 h9 h10 h11 h12 h13 h14 h15 h16 h17 h18 : Nat) (p0 : Int32) (k0 : ¬ (lg_cmp p0.toInt64 0) < 0) (k1 : ¬ 0 < (lg_cmp p0.toInt64 9)) : CT l yX12_setProps cX12_setProps 3 (some .int) (RM 1 0 0 23) D cA g [.ref h0, .int p0] [(h0, .inr (15, [.ref h1, .ref h2, .ref h3, .ref h4, .ref h5, .ref h6, .ref h7, .ref h8, .ref h9, .ref h10, .ref h11, .ref h12, .ref h13, .ref h14, .ref h15, .ref h16, .ref h17, .ref h18, .long 0, .int 0, .int 2, .int 0, .int 0, .int 0, .int 0, .int 0, .int 0]))] (fun q => some (.int 2)) (fun q => [(h0, .inr (15, [.ref h1, .ref h2, .ref h3, .ref h4, .ref h5, .ref h6, .ref h7, .ref h8, .ref h9, .ref h10, .ref h11, .ref h12, .ref h13, .ref h14, .ref h15, .ref h16, .ref h17, .ref h18, .long 0, .int 0, .int p0, .int 0, .int 0, .int 0, .int 0, .int 0, .int 0]))]) := by
  refine CT.of (by decide +kernel) (Nat.le_of_ble_eq_true rfl) ?_
  intro p e s m args below meth c A ls hx hb hr hml hown hG hlocks hnm hA hS hP hK hD hGV hl
  have hown : s.vm.findClass RX12 = some m.cls := hown
  have hl : lv_has ls 3 [(0, .ref h0), (1, .int p0)] := hl
  have hSF : CF p m c cX12_setProps 3 s args RX12 := ⟨hx, hb, hml, hown, hG⟩
  refine lv_iload_n hx hb dX12_setProps_0 rfl (lv_at hl 1 rfl) ?_
  refine lv_i2l (v := p0.toInt64) hx hb dX12_setProps_1 rfl ?_
  refine lv_iconst (v := 0) hx hb dX12_setProps_2 (by decide) ?_
  refine lv_bipush (v := 9) hx hb dX12_setProps_3 (by decide) ?_
  refine ct_S (wr := [(h0, .inr (15, [.ref h1, .ref h2, .ref h3, .ref h4, .ref h5, .ref h6, .ref h7, .ref h8, .ref h9, .ref h10, .ref h11, .ref h12, .ref h13, .ref h14, .ref h15, .ref h16, .ref h17, .ref h18, .long 0, .int 0, .int 2, .int 0, .int 0, .int 0, .int 0, .int 0, .int 0]))]) hSF hl.1 hP hD hS hA hK hGV (c313_X12_in l hfl D cA g (p0.toInt64) k0 k1) goS_X12_285 pd_X12_in.2 ⟨(Nat.le_of_ble_eq_true rfl), (Nat.le_of_ble_eq_true rfl)⟩ ⟨(Nat.le_of_ble_eq_true rfl), (Nat.le_of_ble_eq_true rfl)⟩ dX12_setProps_5 rfl (Nat.le_of_ble_eq_true rfl) [] [0] rfl (by decide) rfl (by decide) (by decide) (fun q => [(h0, .inr (15, [.ref h1, .ref h2, .ref h3, .ref h4, .ref h5, .ref h6, .ref h7, .ref h8, .ref h9, .ref h10, .ref h11, .ref h12, .ref h13, .ref h14, .ref h15, .ref h16, .ref h17, .ref h18, .long 0, .int 0, .int 2, .int 0, .int 0, .int 0, .int 0, .int 0, .int 0]))]) (fun _ => rfl) (fun q1 H locs hP hD hS => ?_)
  refine W.eq (g2 := F0 m 8 ls [.int 1]) rfl ?_
  refine k_if_ne_t (tgt := 17) hx hb dX12_setProps_8 (by decide) (by decide) ?_
  refine lv_aload_n hx hb dX12_setProps_17 rfl (lv_at hl 0 rfl) ?_
  refine k_get (ci := 15) (C := RX12) (T := TX12) (N := 27) (v := .int 2) hx hb hG inX12 hown hK hP 0 rfl rfl 20 (by decide) gw1239 rfl dX12_setProps_18 ?_
  refine lv_istore_n (lv' := [(2, .int 2), (0, .ref h0), (1, .int p0)]) hx hb dX12_setProps_21 rfl hl (by decide) rfl (fun ls hl => ?_)
  refine lv_aload_n hx hb dX12_setProps_22 rfl (lv_at hl 1 rfl) ?_
  refine lv_iload_n hx hb dX12_setProps_23 rfl (lv_at hl 2 rfl) ?_
  refine k_put (ci := 15) (C := RX12) (T := TX12) (N := 27) (v := .int p0) (ws1 := [(h0, .inr (15, [.ref h1, .ref h2, .ref h3, .ref h4, .ref h5, .ref h6, .ref h7, .ref h8, .ref h9, .ref h10, .ref h11, .ref h12, .ref h13, .ref h14, .ref h15, .ref h16, .ref h17, .ref h18, .long 0, .int 0, .int p0, .int 0, .int 0, .int 0, .int 0, .int 0, .int 0]))]) hx hb hG inX12 tyX12 tyX12_ok nmX12 hown hK hP hD hS 0 rfl rfl 20 (by decide) gw1239 rfl ⟨rfl, rfl⟩ rfl (Nat.le_of_ble_eq_true rfl) dX12_setProps_24 (fun H locs hP hD hS => ?_)
  refine lv_aload_n hx hb dX12_setProps_27 rfl (lv_at hl 1 rfl) ?_
  refine lv_iconst (v := 0) hx hb dX12_setProps_28 (by decide) ?_
  refine k_put (ci := 15) (C := RX12) (T := TX12) (N := 27) (v := .int 0) (ws1 := [(h0, .inr (15, [.ref h1, .ref h2, .ref h3, .ref h4, .ref h5, .ref h6, .ref h7, .ref h8, .ref h9, .ref h10, .ref h11, .ref h12, .ref h13, .ref h14, .ref h15, .ref h16, .ref h17, .ref h18, .long 0, .int 0, .int p0, .int 0, .int 0, .int 0, .int 0, .int 0, .int 0]))]) hx hb hG inX12 tyX12 tyX12_ok nmX12 hown hK hP hD hS 0 rfl rfl 24 (by decide) gw1243 rfl ⟨rfl, rfl⟩ rfl (Nat.le_of_ble_eq_true rfl) dX12_setProps_29 (fun H locs hP hD hS => ?_)
  refine lv_aload_n hx hb dX12_setProps_32 rfl (lv_at hl 1 rfl) ?_
  refine lv_iload_n hx hb dX12_setProps_33 rfl (lv_at hl 0 rfl) ?_
  refine ct_V (wr := []) hSF hl.1 hP hD hS hA hK hGV (c314_X12_tell l hfl D cA g h0 h1 h2 h3 h4 h5 h6 h7 h8 h9 h10 h11 h12 h13 h14 h15 h16 h17 h18 (p0)) goV_X12_302 pd_X12_tell ⟨(Nat.le_of_ble_eq_true rfl), (Nat.le_of_ble_eq_true rfl)⟩ ⟨(Nat.le_of_ble_eq_true rfl), (Nat.le_of_ble_eq_true rfl)⟩ (va_recv hK hP (ci := 15) (q0 := 0) rfl rfl) dX12_setProps_34 rfl (Nat.le_of_ble_eq_true rfl) [0] [] rfl (by decide) rfl (by decide) (by decide) (fun q => [(h0, .inr (15, [.ref h1, .ref h2, .ref h3, .ref h4, .ref h5, .ref h6, .ref h7, .ref h8, .ref h9, .ref h10, .ref h11, .ref h12, .ref h13, .ref h14, .ref h15, .ref h16, .ref h17, .ref h18, .long 0, .int 0, .int p0, .int 0, .int 0, .int 0, .int 0, .int 0, .int 0]))]) (fun _ => rfl) (fun q2 H locs hP hD hS => ?_)
  refine W.eq (g2 := F0 m 37 ls [.int 2]) rfl ?_
  exact e_i (fun _ => 0) hx hb hr hlocks rfl rfl hP hD hS (Nat.le_of_ble_eq_true rfl) (Nat.le_of_ble_eq_true rfl) dX12_setProps_37
set_option maxHeartbeats 4000000 in
set_option maxRecDepth 100000 in
theorem c316_X12_thrown (l : Launch) (hfl : l.stackTraces = false) (D : va_G) (cA : Nat → ClassId) (g : gv_T) (h0 h1 h2 h3 h4 h5 h6 h7 h8 h9 h10 h11 h12 h13 h14 h15 h16 h17 h18 : Nat) (p0 : Int32) : CT l yX12_thrown cX12_thrown 1 (some .int) (RM 0 0 0 0) D cA g [.ref h0] [(h0, .inr (15, [.ref h1, .ref h2, .ref h3, .ref h4, .ref h5, .ref h6, .ref h7, .ref h8, .ref h9, .ref h10, .ref h11, .ref h12, .ref h13, .ref h14, .ref h15, .ref h16, .ref h17, .ref h18, .long 0, .int 0, .int p0, .int 0, .int 0, .int 0, .int 0, .int 0, .int 0]))] (fun q => some (.int 0)) (fun q => [(h0, .inr (15, [.ref h1, .ref h2, .ref h3, .ref h4, .ref h5, .ref h6, .ref h7, .ref h8, .ref h9, .ref h10, .ref h11, .ref h12, .ref h13, .ref h14, .ref h15, .ref h16, .ref h17, .ref h18, .long 0, .int 0, .int p0, .int 0, .int 0, .int 0, .int 0, .int 0, .int 0]))]) := by
  refine CT.of (by decide +kernel) (Nat.le_of_ble_eq_true rfl) ?_
  intro p e s m args below meth c A ls hx hb hr hml hown hG hlocks hnm hA hS hP hK hD hGV hl
  have hown : s.vm.findClass RX12 = some m.cls := hown
  have hl : lv_has ls 1 [(0, .ref h0)] := hl
  have hSF : CF p m c cX12_thrown 1 s args RX12 := ⟨hx, hb, hml, hown, hG⟩
  refine lv_aload_n hx hb dX12_thrown_0 rfl (lv_at hl 0 rfl) ?_
  refine k_get (ci := 15) (C := RX12) (T := TX12) (N := 27) (v := .int 0) hx hb hG inX12 hown hK hP 0 rfl rfl 19 (by decide) gw1238 rfl dX12_thrown_1 ?_
  exact e_i (fun _ => 0) hx hb hr hlocks rfl rfl hP hD hS (Nat.le_of_ble_eq_true rfl) (Nat.le_of_ble_eq_true rfl) dX12_thrown_4
set_option maxHeartbeats 4000000 in
set_option maxRecDepth 100000 in
theorem c317_X4_gather (l : Launch) (hfl : l.stackTraces = false) (D : va_G) (cA : Nat → ClassId) (g : gv_T) (h0 h1 h2 h3 h4 h5 h6 h7 h8 h9 h10 h11 h12 h13 h14 h15 h16 h17 : Nat) : CT l yX4_gather cX4_gather 6 none (RM 0 0 0 0) D cA g [.ref h0, .ref h1, .ref h2] [(h0, .inr (7, [.int 2, .int 0, .int 0, .int 0, .ref h3, .ref h4, .ref h5, .ref h6, .ref h7])), (h1, .inr (5, [.int 0, .int 0, .ref h8, .ref h9, .ref h10, .ref h11, .ref h12, .ref h13, .ref h14, .ref h15, .ref h16, .ref h17]))] (fun q => none) (fun q => [(h0, .inr (7, [.int 2, .int 0, .int 0, .int 0, .ref h3, .ref h4, .ref h5, .ref h6, .ref h7])), (h1, .inr (5, [.int 0, .int 0, .ref h8, .ref h9, .ref h10, .ref h11, .ref h12, .ref h13, .ref h14, .ref h15, .ref h16, .ref h17]))]) := by
  refine CT.of (by decide +kernel) (Nat.le_of_ble_eq_true rfl) ?_
  intro p e s m args below meth c A ls hx hb hr hml hown hG hlocks hnm hA hS hP hK hD hGV hl
  have hown : s.vm.findClass RX4 = some m.cls := hown
  have hl : lv_has ls 6 [(0, .ref h0), (1, .ref h1), (2, .ref h2)] := hl
  have hSF : CF p m c cX4_gather 6 s args RX4 := ⟨hx, hb, hml, hown, hG⟩
  refine lv_aload_n hx hb dX4_gather_0 rfl (lv_at hl 0 rfl) ?_
  refine lv_iconst (v := 0) hx hb dX4_gather_1 (by decide) ?_
  refine k_put (ci := 7) (C := RX4) (T := TX4) (N := 9) (v := .int 0) (ws1 := [(h0, .inr (7, [.int 2, .int 0, .int 0, .int 0, .ref h3, .ref h4, .ref h5, .ref h6, .ref h7])), (h1, .inr (5, [.int 0, .int 0, .ref h8, .ref h9, .ref h10, .ref h11, .ref h12, .ref h13, .ref h14, .ref h15, .ref h16, .ref h17]))]) hx hb hG inX4 tyX4 tyX4_ok nmX4 hown hK hP hD hS 0 rfl rfl 3 (by decide) gw335 rfl ⟨rfl, rfl⟩ rfl (Nat.le_of_ble_eq_true rfl) dX4_gather_2 (fun H locs hP hD hS => ?_)
  refine lv_iconst (v := 0) hx hb dX4_gather_5 (by decide) ?_
  refine lv_istore_n (lv' := [(3, .int 0), (0, .ref h0), (1, .ref h1), (2, .ref h2)]) hx hb dX4_gather_6 rfl hl (by decide) rfl (fun ls hl => ?_)
  refine lv_iload_n hx hb dX4_gather_7 rfl (lv_at hl 0 rfl) ?_
  refine lv_aload_n hx hb dX4_gather_8 rfl (lv_at hl 2 rfl) ?_
  refine k_get (ci := 5) (C := RX2) (T := TX2) (N := 12) (v := .int 0) hx hb hG inX2 hown hK hP 1 rfl rfl 1 (by decide) gw130 rfl dX4_gather_9 ?_
  refine k_icmp_ge_t (tgt := 147) hx hb dX4_gather_12 (by decide) (by decide) ?_
  exact e_v (fun _ => 0) hx hb hr hlocks rfl hP hD hS (Nat.le_of_ble_eq_true rfl) (Nat.le_of_ble_eq_true rfl) dX4_gather_147
set_option maxHeartbeats 4000000 in
set_option maxRecDepth 100000 in
theorem c318_X4_goForward (l : Launch) (hfl : l.stackTraces = false) (D : va_G) (cA : Nat → ClassId) (g : gv_T) (h0 h1 h2 h3 h4 h5 : Nat) : CT l yX4_goForward cX4_goForward 6 none (RM 0 0 0 0) D cA g [.ref h0, .int 0] [(h0, .inr (7, [.int 2, .int 0, .int 0, .int 0, .ref h1, .ref h2, .ref h3, .ref h4, .ref h5])), (h3, .inl (cA 0, 512, .inl (fun _ => 0)))] (fun q => none) (fun q => [(h0, .inr (7, [.int 2, .int 0, .int 0, .int 0, .ref h1, .ref h2, .ref h3, .ref h4, .ref h5])), (h3, .inl (cA 0, 512, .inl (upd (fun _ => 0) 0 1)))]) := by
  refine CT.of (by decide +kernel) (Nat.le_of_ble_eq_true rfl) ?_
  intro p e s m args below meth c A ls hx hb hr hml hown hG hlocks hnm hA hS hP hK hD hGV hl
  have hown : s.vm.findClass RX4 = some m.cls := hown
  have hl : lv_has ls 6 [(0, .ref h0), (1, .int 0)] := hl
  have hSF : CF p m c cX4_goForward 6 s args RX4 := ⟨hx, hb, hml, hown, hG⟩
  refine lv_aload_n hx hb dX4_goForward_0 rfl (lv_at hl 0 rfl) ?_
  refine k_get (ci := 7) (C := RX4) (T := TX4) (N := 9) (v := .ref h3) hx hb hG inX4 hown hK hP 0 rfl rfl 6 (by decide) gw338 rfl dX4_goForward_1 ?_
  refine lv_iconst (v := 0) hx hb dX4_goForward_4 (by decide) ?_
  refine lv_iconst (v := 1) hx hb dX4_goForward_5 (by decide) ?_
  refine k_iast (ws1 := [(h0, .inr (7, [.int 2, .int 0, .int 0, .int 0, .ref h1, .ref h2, .ref h3, .ref h4, .ref h5])), (h3, .inl (cA 0, 512, .inl (upd (fun _ => 0) 0 1)))]) hx hb hK hP hD hS 1 rfl rfl (by unfold vp_in; decide) dX4_goForward_6 (fun H locs hP hD hS => ?_)
  refine lv_iconst (v := 1) hx hb dX4_goForward_7 (by decide) ?_
  refine lv_istore_n (lv' := [(2, .int 1), (0, .ref h0), (1, .int 0)]) hx hb dX4_goForward_8 rfl hl (by decide) rfl (fun ls hl => ?_)
  refine lv_iload_n hx hb dX4_goForward_9 rfl (lv_at hl 0 rfl) ?_
  refine lv_aload_n hx hb dX4_goForward_10 rfl (lv_at hl 1 rfl) ?_
  refine k_get (ci := 7) (C := RX4) (T := TX4) (N := 9) (v := .int 0) hx hb hG inX4 hown hK hP 0 rfl rfl 2 (by decide) gw334 rfl dX4_goForward_11 ?_
  refine k_icmp_gt_t (tgt := 120) hx hb dX4_goForward_14 (by decide) (by decide) ?_
  exact e_v (fun _ => 0) hx hb hr hlocks rfl hP hD hS (Nat.le_of_ble_eq_true rfl) (Nat.le_of_ble_eq_true rfl) dX4_goForward_120
set_option maxHeartbeats 4000000 in
set_option maxRecDepth 100000 in
theorem c319_X4_goBackward (l : Launch) (hfl : l.stackTraces = false) (D : va_G) (cA : Nat → ClassId) (g : gv_T) (h0 h1 h2 h3 h4 h5 : Nat) : CT l yX4_goBackward cX4_goBackward 6 none (RM 0 0 0 0) D cA g [.ref h0, .int 0] [(h0, .inr (7, [.int 2, .int 0, .int 0, .int 0, .ref h1, .ref h2, .ref h3, .ref h4, .ref h5])), (h4, .inl (cA 3, 512, .inl (fun _ => 0)))] (fun q => none) (fun q => [(h0, .inr (7, [.int 2, .int 0, .int 0, .int 0, .ref h1, .ref h2, .ref h3, .ref h4, .ref h5])), (h4, .inl (cA 3, 512, .inl (upd (fun _ => 0) 0 1)))]) := by
  refine CT.of (by decide +kernel) (Nat.le_of_ble_eq_true rfl) ?_
  intro p e s m args below meth c A ls hx hb hr hml hown hG hlocks hnm hA hS hP hK hD hGV hl
  have hown : s.vm.findClass RX4 = some m.cls := hown
  have hl : lv_has ls 6 [(0, .ref h0), (1, .int 0)] := hl
  have hSF : CF p m c cX4_goBackward 6 s args RX4 := ⟨hx, hb, hml, hown, hG⟩
  refine lv_iconst (v := 0) hx hb dX4_goBackward_0 (by decide) ?_
  refine lv_istore_n (lv' := [(2, .int 0), (0, .ref h0), (1, .int 0)]) hx hb dX4_goBackward_1 rfl hl (by decide) rfl (fun ls hl => ?_)
  refine lv_iload_n hx hb dX4_goBackward_2 rfl (lv_at hl 0 rfl) ?_
  refine lv_aload_n hx hb dX4_goBackward_3 rfl (lv_at hl 1 rfl) ?_
  refine k_get (ci := 7) (C := RX4) (T := TX4) (N := 9) (v := .int 0) hx hb hG inX4 hown hK hP 0 rfl rfl 2 (by decide) gw334 rfl dX4_goBackward_4 ?_
  refine k_icmp_gt_f (tgt := 35) hx hb dX4_goBackward_7 (by decide) (by decide) ?_
  refine lv_aload_n hx hb dX4_goBackward_10 rfl (lv_at hl 1 rfl) ?_
  refine k_get (ci := 7) (C := RX4) (T := TX4) (N := 9) (v := .ref h4) hx hb hG inX4 hown hK hP 0 rfl rfl 7 (by decide) gw339 rfl dX4_goBackward_11 ?_
  refine lv_iload_n hx hb dX4_goBackward_14 rfl (lv_at hl 0 rfl) ?_
  refine lv_iload_n hx hb dX4_goBackward_15 rfl (lv_at hl 0 rfl) ?_
  refine lv_aload_n hx hb dX4_goBackward_16 rfl (lv_at hl 1 rfl) ?_
  refine k_get (ci := 7) (C := RX4) (T := TX4) (N := 9) (v := .int 0) hx hb hG inX4 hown hK hP 0 rfl rfl 2 (by decide) gw334 rfl dX4_goBackward_17 ?_
  refine k_icmp_ne_f (tgt := 27) hx hb dX4_goBackward_20 (by decide) (by decide) ?_
  refine lv_iconst (v := 1) hx hb dX4_goBackward_23 (by decide) ?_
  refine lv_goto (tgt := 28) hx hb dX4_goBackward_24 (by decide) ?_
  refine k_zast (ws1 := [(h0, .inr (7, [.int 2, .int 0, .int 0, .int 0, .ref h1, .ref h2, .ref h3, .ref h4, .ref h5])), (h4, .inl (cA 3, 512, .inl (upd (fun _ => 0) 0 1)))]) hx hb hK hP hD hS 1 rfl rfl (by unfold vp_in; decide) dX4_goBackward_28 (fun H locs hP hD hS => ?_)
  refine lv_iinc (v := 1) (lv' := [(2, .int 1), (0, .ref h0), (1, .int 0)]) hx hb dX4_goBackward_29 hl (k := 0) rfl (by decide) (by decide) rfl (fun ls hl => ?_)
  refine lv_goto (tgt := 2) hx hb dX4_goBackward_32 (by decide) ?_
  refine lv_iload_n hx hb dX4_goBackward_2 rfl (lv_at hl 0 rfl) ?_
  refine lv_aload_n hx hb dX4_goBackward_3 rfl (lv_at hl 1 rfl) ?_
  refine k_get (ci := 7) (C := RX4) (T := TX4) (N := 9) (v := .int 0) hx hb hG inX4 hown hK hP 0 rfl rfl 2 (by decide) gw334 rfl dX4_goBackward_4 ?_
  refine k_icmp_gt_t (tgt := 35) hx hb dX4_goBackward_7 (by decide) (by decide) ?_
  refine lv_aload_n hx hb dX4_goBackward_35 rfl (lv_at hl 1 rfl) ?_
  refine k_get (ci := 7) (C := RX4) (T := TX4) (N := 9) (v := .int 0) hx hb hG inX4 hown hK hP 0 rfl rfl 2 (by decide) gw334 rfl dX4_goBackward_36 ?_
  refine lv_istore_n (lv' := [(2, .int 0), (0, .ref h0), (1, .int 0)]) hx hb dX4_goBackward_39 rfl hl (by decide) rfl (fun ls hl => ?_)
  refine lv_iload_n hx hb dX4_goBackward_40 rfl (lv_at hl 0 rfl) ?_
  refine k_if_le_t (tgt := 131) hx hb dX4_goBackward_41 (by decide) (by decide) ?_
  exact e_v (fun _ => 0) hx hb hr hlocks rfl hP hD hS (Nat.le_of_ble_eq_true rfl) (Nat.le_of_ble_eq_true rfl) dX4_goBackward_131
set_option maxHeartbeats 4000000 in
set_option maxRecDepth 100000 in
theorem c320_X4_findOrder (l : Launch) (hfl : l.stackTraces = false) (D : va_G) (cA : Nat → ClassId) (g : gv_T) (h0 : Nat) : CT l yX4_findOrder cX4_findOrder 5 none (RM 0 0 0 0) D cA g [.ref h0, .int 0] [] (fun q => none) (fun q => []) := by
  refine CT.of (by decide +kernel) (Nat.le_of_ble_eq_true rfl) ?_
  intro p e s m args below meth c A ls hx hb hr hml hown hG hlocks hnm hA hS hP hK hD hGV hl
  have hown : s.vm.findClass RX4 = some m.cls := hown
  have hl : lv_has ls 5 [(0, .ref h0), (1, .int 0)] := hl
  have hSF : CF p m c cX4_findOrder 5 s args RX4 := ⟨hx, hb, hml, hown, hG⟩
  refine lv_iconst (v := 0) hx hb dX4_findOrder_0 (by decide) ?_
  refine lv_istore_n (lv' := [(2, .int 0), (0, .ref h0), (1, .int 0)]) hx hb dX4_findOrder_1 rfl hl (by decide) rfl (fun ls hl => ?_)
  refine lv_iconst (v := 0) hx hb dX4_findOrder_2 (by decide) ?_
  refine lv_istore_n (lv' := [(3, .int 0), (2, .int 0), (0, .ref h0), (1, .int 0)]) hx hb dX4_findOrder_3 rfl hl (by decide) rfl (fun ls hl => ?_)
  refine lv_iload_n hx hb dX4_findOrder_4 rfl (lv_at hl 0 rfl) ?_
  refine lv_iload_n hx hb dX4_findOrder_5 rfl (lv_at hl 3 rfl) ?_
  refine k_icmp_ge_t (tgt := 44) hx hb dX4_findOrder_6 (by decide) (by decide) ?_
  exact e_v (fun _ => 0) hx hb hr hlocks rfl hP hD hS (Nat.le_of_ble_eq_true rfl) (Nat.le_of_ble_eq_true rfl) dX4_findOrder_44
set_option maxHeartbeats 4000000 in
set_option maxRecDepth 100000 in
theorem c321_X4_find (l : Launch) (hfl : l.stackTraces = false) (D : va_G) (cA : Nat → ClassId) (g : gv_T) (h0 h1 h2 h3 h4 h5 h6 h7 h8 h9 h10 h11 h12 h13 h14 h15 h16 h17 : Nat) : CT l yX4_find cX4_find 3 none (RM 1 0 0 25) D cA g [.ref h0, .ref h1, .ref h2] [(h0, .inr (7, [.int 2, .int 0, .int 0, .int 0, .ref h3, .ref h4, .ref h5, .ref h6, .ref h7])), (h1, .inr (5, [.int 0, .int 0, .ref h8, .ref h9, .ref h10, .ref h11, .ref h12, .ref h13, .ref h14, .ref h15, .ref h16, .ref h17])), (h5, .inl (cA 0, 512, .inl (fun _ => 0))), (h6, .inl (cA 3, 512, .inl (fun _ => 0)))] (fun q => none) (fun q => [(h0, .inr (7, [.int 2, .int 1, .int 0, .int 0, .ref h3, .ref h4, .ref h5, .ref h6, .ref h7])), (h1, .inr (5, [.int 0, .int 0, .ref h8, .ref h9, .ref h10, .ref h11, .ref h12, .ref h13, .ref h14, .ref h15, .ref h16, .ref h17])), (h5, .inl (cA 0, 512, .inl (upd (fun _ => 0) 0 1))), (h6, .inl (cA 3, 512, .inl (upd (fun _ => 0) 0 1)))]) := by
  refine CT.of (by decide +kernel) (Nat.le_of_ble_eq_true rfl) ?_
  intro p e s m args below meth c A ls hx hb hr hml hown hG hlocks hnm hA hS hP hK hD hGV hl
  have hown : s.vm.findClass RX4 = some m.cls := hown
  have hl : lv_has ls 3 [(0, .ref h0), (1, .ref h1), (2, .ref h2)] := hl
  have hSF : CF p m c cX4_find 3 s args RX4 := ⟨hx, hb, hml, hown, hG⟩
  refine lv_aload_n hx hb dX4_find_0 rfl (lv_at hl 0 rfl) ?_
  refine k_get (ci := 7) (C := RX4) (T := TX4) (N := 9) (v := .int 0) hx hb hG inX4 hown hK hP 0 rfl rfl 1 (by decide) gw332 rfl dX4_find_1 ?_
  refine k_if_eq_t (tgt := 8) hx hb dX4_find_4 (by decide) (by decide) ?_
  refine lv_aload_n hx hb dX4_find_8 rfl (lv_at hl 0 rfl) ?_
  refine lv_iconst (v := 1) hx hb dX4_find_9 (by decide) ?_
  refine lv_aload_n hx hb dX4_find_10 rfl (lv_at hl 1 rfl) ?_
  refine k_get (ci := 5) (C := RX2) (T := TX2) (N := 12) (v := .int 0) hx hb hG inX2 hown hK hP 1 rfl rfl 1 (by decide) gw130 rfl dX4_find_11 ?_
  refine k_ishl (v := 1) hx hb dX4_find_14 (by decide) ?_
  refine lv_iconst (v := 1) hx hb dX4_find_15 (by decide) ?_
  refine k_isub (v := 0) hx hb dX4_find_16 (by decide) ?_
  refine k_put (ci := 7) (C := RX4) (T := TX4) (N := 9) (v := .int 0) (ws1 := [(h0, .inr (7, [.int 2, .int 0, .int 0, .int 0, .ref h3, .ref h4, .ref h5, .ref h6, .ref h7])), (h1, .inr (5, [.int 0, .int 0, .ref h8, .ref h9, .ref h10, .ref h11, .ref h12, .ref h13, .ref h14, .ref h15, .ref h16, .ref h17])), (h5, .inl (cA 0, 512, .inl (fun _ => 0))), (h6, .inl (cA 3, 512, .inl (fun _ => 0)))]) hx hb hG inX4 tyX4 tyX4_ok nmX4 hown hK hP hD hS 0 rfl rfl 2 (by decide) gw334 rfl ⟨rfl, rfl⟩ rfl (Nat.le_of_ble_eq_true rfl) dX4_find_17 (fun H locs hP hD hS => ?_)
  refine lv_aload_n hx hb dX4_find_20 rfl (lv_at hl 0 rfl) ?_
  refine lv_aload_n hx hb dX4_find_21 rfl (lv_at hl 1 rfl) ?_
  refine lv_aload_n hx hb dX4_find_22 rfl (lv_at hl 2 rfl) ?_
  refine ct_V (wr := [(h5, .inl (cA 0, 512, .inl (fun _ => 0))), (h6, .inl (cA 3, 512, .inl (fun _ => 0)))]) hSF hl.1 hP hD hS hA hK hGV (c317_X4_gather l hfl D cA g h0 h1 h2 h3 h4 h5 h6 h7 h8 h9 h10 h11 h12 h13 h14 h15 h16 h17) goV_X4_46 pd_X4_gather ⟨(Nat.le_of_ble_eq_true rfl), (Nat.le_of_ble_eq_true rfl)⟩ ⟨(Nat.le_of_ble_eq_true rfl), (Nat.le_of_ble_eq_true rfl)⟩ (va_recv hK hP (ci := 7) (q0 := 0) rfl rfl) dX4_find_23 rfl (Nat.le_of_ble_eq_true rfl) [0, 1] [2, 3] rfl (by decide) rfl (by decide) (by decide) (fun q => [(h5, .inl (cA 0, 512, .inl (fun _ => 0))), (h6, .inl (cA 3, 512, .inl (fun _ => 0))), (h0, .inr (7, [.int 2, .int 0, .int 0, .int 0, .ref h3, .ref h4, .ref h5, .ref h6, .ref h7])), (h1, .inr (5, [.int 0, .int 0, .ref h8, .ref h9, .ref h10, .ref h11, .ref h12, .ref h13, .ref h14, .ref h15, .ref h16, .ref h17]))]) (fun _ => rfl) (fun q1 H locs hP hD hS => ?_)
  refine W.eq (g2 := F0 m 26 ls []) rfl ?_
  refine lv_aload_n hx hb dX4_find_26 rfl (lv_at hl 0 rfl) ?_
  refine lv_aload_n hx hb dX4_find_27 rfl (lv_at hl 1 rfl) ?_
  refine k_get (ci := 5) (C := RX2) (T := TX2) (N := 12) (v := .int 0) hx hb hG inX2 hown hK hP 3 rfl rfl 1 (by decide) gw130 rfl dX4_find_28 ?_
  refine ct_V (wr := [(h6, .inl (cA 3, 512, .inl (fun _ => 0))), (h1, .inr (5, [.int 0, .int 0, .ref h8, .ref h9, .ref h10, .ref h11, .ref h12, .ref h13, .ref h14, .ref h15, .ref h16, .ref h17]))]) hSF hl.1 hP hD hS hA hK hGV (c318_X4_goForward l hfl D cA g h0 h3 h4 h5 h6 h7) goV_X4_50 pd_X4_goForward ⟨(Nat.le_of_ble_eq_true rfl), (Nat.le_of_ble_eq_true rfl)⟩ ⟨(Nat.le_of_ble_eq_true rfl), (Nat.le_of_ble_eq_true rfl)⟩ (va_recv hK hP (ci := 7) (q0 := 2) rfl rfl) dX4_find_31 rfl (Nat.le_of_ble_eq_true rfl) [2, 0] [1, 3] rfl (by decide) rfl (by decide) (by decide) (fun q => [(h6, .inl (cA 3, 512, .inl (fun _ => 0))), (h1, .inr (5, [.int 0, .int 0, .ref h8, .ref h9, .ref h10, .ref h11, .ref h12, .ref h13, .ref h14, .ref h15, .ref h16, .ref h17])), (h0, .inr (7, [.int 2, .int 0, .int 0, .int 0, .ref h3, .ref h4, .ref h5, .ref h6, .ref h7])), (h5, .inl (cA 0, 512, .inl (upd (fun _ => 0) 0 1)))]) (fun _ => rfl) (fun q2 H locs hP hD hS => ?_)
  refine W.eq (g2 := F0 m 34 ls []) rfl ?_
  refine lv_aload_n hx hb dX4_find_34 rfl (lv_at hl 0 rfl) ?_
  refine lv_aload_n hx hb dX4_find_35 rfl (lv_at hl 1 rfl) ?_
  refine k_get (ci := 5) (C := RX2) (T := TX2) (N := 12) (v := .int 0) hx hb hG inX2 hown hK hP 1 rfl rfl 1 (by decide) gw130 rfl dX4_find_36 ?_
  refine ct_V (wr := [(h1, .inr (5, [.int 0, .int 0, .ref h8, .ref h9, .ref h10, .ref h11, .ref h12, .ref h13, .ref h14, .ref h15, .ref h16, .ref h17])), (h5, .inl (cA 0, 512, .inl (upd (fun _ => 0) 0 1)))]) hSF hl.1 hP hD hS hA hK hGV (c319_X4_goBackward l hfl D cA g h0 h3 h4 h5 h6 h7) goV_X4_54 pd_X4_goBackward ⟨(Nat.le_of_ble_eq_true rfl), (Nat.le_of_ble_eq_true rfl)⟩ ⟨(Nat.le_of_ble_eq_true rfl), (Nat.le_of_ble_eq_true rfl)⟩ (va_recv hK hP (ci := 7) (q0 := 2) rfl rfl) dX4_find_39 rfl (Nat.le_of_ble_eq_true rfl) [2, 0] [1, 3] rfl (by decide) rfl (by decide) (by decide) (fun q => [(h1, .inr (5, [.int 0, .int 0, .ref h8, .ref h9, .ref h10, .ref h11, .ref h12, .ref h13, .ref h14, .ref h15, .ref h16, .ref h17])), (h5, .inl (cA 0, 512, .inl (upd (fun _ => 0) 0 1))), (h0, .inr (7, [.int 2, .int 0, .int 0, .int 0, .ref h3, .ref h4, .ref h5, .ref h6, .ref h7])), (h6, .inl (cA 3, 512, .inl (upd (fun _ => 0) 0 1)))]) (fun _ => rfl) (fun q3 H locs hP hD hS => ?_)
  refine W.eq (g2 := F0 m 42 ls []) rfl ?_
  refine lv_aload_n hx hb dX4_find_42 rfl (lv_at hl 0 rfl) ?_
  refine lv_aload_n hx hb dX4_find_43 rfl (lv_at hl 1 rfl) ?_
  refine k_get (ci := 5) (C := RX2) (T := TX2) (N := 12) (v := .int 0) hx hb hG inX2 hown hK hP 0 rfl rfl 1 (by decide) gw130 rfl dX4_find_44 ?_
  refine ct_V (wr := [(h1, .inr (5, [.int 0, .int 0, .ref h8, .ref h9, .ref h10, .ref h11, .ref h12, .ref h13, .ref h14, .ref h15, .ref h16, .ref h17])), (h5, .inl (cA 0, 512, .inl (upd (fun _ => 0) 0 1))), (h0, .inr (7, [.int 2, .int 0, .int 0, .int 0, .ref h3, .ref h4, .ref h5, .ref h6, .ref h7])), (h6, .inl (cA 3, 512, .inl (upd (fun _ => 0) 0 1)))]) hSF hl.1 hP hD hS hA hK hGV (c320_X4_findOrder l hfl D cA g h0) goV_X4_57 pd_X4_findOrder ⟨(Nat.le_of_ble_eq_true rfl), (Nat.le_of_ble_eq_true rfl)⟩ ⟨(Nat.le_of_ble_eq_true rfl), (Nat.le_of_ble_eq_true rfl)⟩ (va_recv hK hP (ci := 7) (q0 := 2) rfl rfl) dX4_find_47 rfl (Nat.le_of_ble_eq_true rfl) [] [0, 1, 2, 3] rfl (by decide) rfl (by decide) (by decide) (fun q => [(h1, .inr (5, [.int 0, .int 0, .ref h8, .ref h9, .ref h10, .ref h11, .ref h12, .ref h13, .ref h14, .ref h15, .ref h16, .ref h17])), (h5, .inl (cA 0, 512, .inl (upd (fun _ => 0) 0 1))), (h0, .inr (7, [.int 2, .int 0, .int 0, .int 0, .ref h3, .ref h4, .ref h5, .ref h6, .ref h7])), (h6, .inl (cA 3, 512, .inl (upd (fun _ => 0) 0 1)))]) (fun _ => rfl) (fun q4 H locs hP hD hS => ?_)
  refine W.eq (g2 := F0 m 50 ls []) rfl ?_
  refine lv_aload_n hx hb dX4_find_50 rfl (lv_at hl 0 rfl) ?_
  refine lv_iconst (v := 1) hx hb dX4_find_51 (by decide) ?_
  refine k_put (ci := 7) (C := RX4) (T := TX4) (N := 9) (v := .int 1) (ws1 := [(h1, .inr (5, [.int 0, .int 0, .ref h8, .ref h9, .ref h10, .ref h11, .ref h12, .ref h13, .ref h14, .ref h15, .ref h16, .ref h17])), (h5, .inl (cA 0, 512, .inl (upd (fun _ => 0) 0 1))), (h0, .inr (7, [.int 2, .int 1, .int 0, .int 0, .ref h3, .ref h4, .ref h5, .ref h6, .ref h7])), (h6, .inl (cA 3, 512, .inl (upd (fun _ => 0) 0 1)))]) hx hb hG inX4 tyX4 tyX4_ok nmX4 hown hK hP hD hS 2 rfl rfl 1 (by decide) gw332 rfl ⟨rfl, rfl⟩ rfl (Nat.le_of_ble_eq_true rfl) dX4_find_52 (fun H locs hP hD hS => ?_)
  exact e_v (fun _ => 0) hx hb hr hlocks rfl (hP.sub [2, 0, 1, 3] rfl) (hD.sub [2, 0, 1, 3] (by decide) rfl) hS (Nat.le_of_ble_eq_true rfl) (Nat.le_of_ble_eq_true rfl) dX4_find_55
set_option maxHeartbeats 4000000 in
set_option maxRecDepth 100000 in
theorem c322_X4_orderCount (l : Launch) (hfl : l.stackTraces = false) (D : va_G) (cA : Nat → ClassId) (g : gv_T) (h0 h1 h2 h3 h4 h5 : Nat) : CT l yX4_orderCount cX4_orderCount 1 (some .int) (RM 0 0 0 0) D cA g [.ref h0] [(h0, .inr (7, [.int 2, .int 1, .int 0, .int 0, .ref h1, .ref h2, .ref h3, .ref h4, .ref h5])), (h3, .inl (cA 0, 512, .inl (upd (fun _ => 0) 0 1)))] (fun q => some (.int 1)) (fun q => [(h0, .inr (7, [.int 2, .int 1, .int 0, .int 0, .ref h1, .ref h2, .ref h3, .ref h4, .ref h5])), (h3, .inl (cA 0, 512, .inl (upd (fun _ => 0) 0 1)))]) := by
  refine CT.of (by decide +kernel) (Nat.le_of_ble_eq_true rfl) ?_
  intro p e s m args below meth c A ls hx hb hr hml hown hG hlocks hnm hA hS hP hK hD hGV hl
  have hown : s.vm.findClass RX4 = some m.cls := hown
  have hl : lv_has ls 1 [(0, .ref h0)] := hl
  have hSF : CF p m c cX4_orderCount 1 s args RX4 := ⟨hx, hb, hml, hown, hG⟩
  refine lv_aload_n hx hb dX4_orderCount_0 rfl (lv_at hl 0 rfl) ?_
  refine k_get (ci := 7) (C := RX4) (T := TX4) (N := 9) (v := .ref h3) hx hb hG inX4 hown hK hP 0 rfl rfl 6 (by decide) gw338 rfl dX4_orderCount_1 ?_
  refine lv_aload_n hx hb dX4_orderCount_4 rfl (lv_at hl 0 rfl) ?_
  refine k_get (ci := 7) (C := RX4) (T := TX4) (N := 9) (v := .int 0) hx hb hG inX4 hown hK hP 0 rfl rfl 2 (by decide) gw334 rfl dX4_orderCount_5 ?_
  refine k_iald (v := 1) hx hb hK hP 1 rfl 0 (by decide) rfl (by unfold vp_in; decide) dX4_orderCount_8 ?_
  exact e_i (fun _ => 0) hx hb hr hlocks rfl rfl hP hD hS (Nat.le_of_ble_eq_true rfl) (Nat.le_of_ble_eq_true rfl) dX4_orderCount_9
set_option maxHeartbeats 4000000 in
set_option maxRecDepth 100000 in
theorem c323_X6_checkPlaceInOrder (l : Launch) (hfl : l.stackTraces = false) (D : va_G) (cA : Nat → ClassId) (g : gv_T) (h0 h1 h2 h3 h4 h5 h6 h7 h8 h9 h10 h11 h12 h13 h14 h15 h16 h17 h18 h19 h20 : Nat) (p0 : Int32) (k0 : p0 < 0) : CX l yX6_checkPlaceInOrder cX6_checkPlaceInOrder 2 none (RM 6 1 6 95) D cA g [.ref h0, .int p0] [(h0, .inr (9, [.ref h1, .ref h2, .ref h3, .ref h4, .ref h5])), (h5, .inr (7, [.int 2, .int 0, .int 0, .int 0, .ref h6, .ref h7, .ref h8, .ref h9, .ref h10])), (h1, .inr (5, [.int 0, .int 0, .ref h11, .ref h12, .ref h13, .ref h14, .ref h15, .ref h16, .ref h17, .ref h18, .ref h19, .ref h20])), (h8, .inl (cA 0, 512, .inl (fun _ => 0))), (h9, .inl (cA 3, 512, .inl (fun _ => 0)))] "java/lang/IndexOutOfBoundsException" (fun q => [(h0, .inr (9, [.ref h1, .ref h2, .ref h3, .ref h4, .ref h5])), (h5, .inr (7, [.int 2, .int 1, .int 0, .int 0, .ref h6, .ref h7, .ref h8, .ref h9, .ref h10])), (h1, .inr (5, [.int 0, .int 0, .ref h11, .ref h12, .ref h13, .ref h14, .ref h15, .ref h16, .ref h17, .ref h18, .ref h19, .ref h20])), (h8, .inl (cA 0, 512, .inl (upd (fun _ => 0) 0 1))), (h9, .inl (cA 3, 512, .inl (upd (fun _ => 0) 0 1)))]) := by
  refine CX.of (by decide +kernel) (Nat.le_of_ble_eq_true rfl) ?_
  intro p e s m args below meth c A ls hx hb hr hml hown hG hlocks htab hA hS hP hK hD hGV hl
  have hown : s.vm.findClass RX6 = some m.cls := hown
  have hl : lv_has ls 2 [(0, .ref h0), (1, .int p0)] := hl
  have hSF : CF p m c cX6_checkPlaceInOrder 2 s args RX6 := ⟨hx, hb, hml, hown, hG⟩
  refine lv_aload_n hx hb dX6_checkPlaceInOrder_0 rfl (lv_at hl 0 rfl) ?_
  refine k_get (ci := 9) (C := RX6) (T := TX6) (N := 5) (v := .ref h5) hx hb hG inX6 hown hK hP 0 rfl rfl 4 (by decide) gw367 rfl dX6_checkPlaceInOrder_1 ?_
  refine lv_aload_n hx hb dX6_checkPlaceInOrder_4 rfl (lv_at hl 0 rfl) ?_
  refine k_get (ci := 9) (C := RX6) (T := TX6) (N := 5) (v := .ref h1) hx hb hG inX6 hown hK hP 0 rfl rfl 0 (by decide) gw363 rfl dX6_checkPlaceInOrder_5 ?_
  refine lv_aload_n hx hb dX6_checkPlaceInOrder_8 rfl (lv_at hl 0 rfl) ?_
  refine k_get (ci := 9) (C := RX6) (T := TX6) (N := 5) (v := .ref h3) hx hb hG inX6 hown hK hP 0 rfl rfl 2 (by decide) gw365 rfl dX6_checkPlaceInOrder_9 ?_
  refine ct_V (wr := [(h0, .inr (9, [.ref h1, .ref h2, .ref h3, .ref h4, .ref h5]))]) hSF hl.1 hP hD hS hA hK hGV (c321_X4_find l hfl D cA g h5 h1 h3 h6 h7 h8 h9 h10 h11 h12 h13 h14 h15 h16 h17 h18 h19 h20) goV_X6_247 pd_X4_find ⟨(Nat.le_of_ble_eq_true rfl), (Nat.le_of_ble_eq_true rfl)⟩ ⟨(Nat.le_of_ble_eq_true rfl), (Nat.le_of_ble_eq_true rfl)⟩ (va_recv hK hP (ci := 7) (q0 := 1) rfl rfl) dX6_checkPlaceInOrder_12 rfl (Nat.le_of_ble_eq_true rfl) [1, 2, 3, 4] [0] rfl (by decide) rfl (by decide) (by decide) (fun q => [(h0, .inr (9, [.ref h1, .ref h2, .ref h3, .ref h4, .ref h5])), (h5, .inr (7, [.int 2, .int 1, .int 0, .int 0, .ref h6, .ref h7, .ref h8, .ref h9, .ref h10])), (h1, .inr (5, [.int 0, .int 0, .ref h11, .ref h12, .ref h13, .ref h14, .ref h15, .ref h16, .ref h17, .ref h18, .ref h19, .ref h20])), (h8, .inl (cA 0, 512, .inl (upd (fun _ => 0) 0 1))), (h9, .inl (cA 3, 512, .inl (upd (fun _ => 0) 0 1)))]) (fun _ => rfl) (fun q1 H locs hP hD hS => ?_)
  refine W.eq (g2 := F0 m 15 ls []) rfl ?_
  refine lv_aload_n hx hb dX6_checkPlaceInOrder_15 rfl (lv_at hl 0 rfl) ?_
  refine k_get (ci := 9) (C := RX6) (T := TX6) (N := 5) (v := .ref h5) hx hb hG inX6 hown hK hP 0 rfl rfl 4 (by decide) gw367 rfl dX6_checkPlaceInOrder_16 ?_
  refine ct_V (wr := [(h0, .inr (9, [.ref h1, .ref h2, .ref h3, .ref h4, .ref h5])), (h1, .inr (5, [.int 0, .int 0, .ref h11, .ref h12, .ref h13, .ref h14, .ref h15, .ref h16, .ref h17, .ref h18, .ref h19, .ref h20])), (h9, .inl (cA 3, 512, .inl (upd (fun _ => 0) 0 1)))]) hSF hl.1 hP hD hS hA hK hGV (c322_X4_orderCount l hfl D cA g h5 h6 h7 h8 h9 h10) goV_X6_250 pd_X4_orderCount ⟨(Nat.le_of_ble_eq_true rfl), (Nat.le_of_ble_eq_true rfl)⟩ ⟨(Nat.le_of_ble_eq_true rfl), (Nat.le_of_ble_eq_true rfl)⟩ (va_recv hK hP (ci := 7) (q0 := 1) rfl rfl) dX6_checkPlaceInOrder_19 rfl (Nat.le_of_ble_eq_true rfl) [1, 3] [0, 2, 4] rfl (by decide) rfl (by decide) (by decide) (fun q => [(h0, .inr (9, [.ref h1, .ref h2, .ref h3, .ref h4, .ref h5])), (h1, .inr (5, [.int 0, .int 0, .ref h11, .ref h12, .ref h13, .ref h14, .ref h15, .ref h16, .ref h17, .ref h18, .ref h19, .ref h20])), (h9, .inl (cA 3, 512, .inl (upd (fun _ => 0) 0 1))), (h5, .inr (7, [.int 2, .int 1, .int 0, .int 0, .ref h6, .ref h7, .ref h8, .ref h9, .ref h10])), (h8, .inl (cA 0, 512, .inl (upd (fun _ => 0) 0 1)))]) (fun _ => rfl) (fun q2 H locs hP hD hS => ?_)
  refine W.eq (g2 := F0 m 22 ls [.int 1]) rfl ?_
  refine k_if_ne_t (tgt := 36) hx hb dX6_checkPlaceInOrder_22 (by decide) (by decide) ?_
  refine lv_iload_n hx hb dX6_checkPlaceInOrder_36 rfl (lv_at hl 1 rfl) ?_
  refine k_if_lt_t (tgt := 51) hx hb dX6_checkPlaceInOrder_37 k0 (by decide) ?_
  exact e_throwW (fun _ => 0) (names := ["java/lang/RuntimeException", "java/lang/Exception"]) 24 hx hb hfl hown hG hGV htab hlocks (hl.1.trans hml.symm) (by decide +kernel) (by decide +kernel) gw795 gw101 rfl xat_X6_232 (hP.sub [0, 3, 1, 4, 2] rfl) (hD.sub [0, 3, 1, 4, 2] (by decide) rfl) hS dX6_checkPlaceInOrder_51 dX6_checkPlaceInOrder_54 dX6_checkPlaceInOrder_55 dX6_checkPlaceInOrder_58 dX6_checkPlaceInOrder_61 (Nat.le_of_ble_eq_true rfl) (Nat.le_of_ble_eq_true rfl) (Nat.le_of_ble_eq_true rfl) (Nat.le_of_ble_eq_true rfl) (Nat.le_of_ble_eq_true rfl) (Nat.le_of_ble_eq_true rfl)
set_option maxHeartbeats 4000000 in
set_option maxRecDepth 100000 in
theorem c324_X6_raised (l : Launch) (hfl : l.stackTraces = false) (D : va_G) (cA : Nat → ClassId) (g : gv_T) (h0 h1 h2 h3 h4 h5 h6 h7 h8 h9 h10 h11 h12 h13 h14 h15 h16 h17 h18 h19 h20 : Nat) (p0 : Int32) (k0 : p0 < 0) : CX l yX6_raised cX6_raised 2 (some .int) (RM 7 1 6 116) D cA g [.ref h0, .int p0] [(h0, .inr (9, [.ref h1, .ref h2, .ref h3, .ref h4, .ref h5])), (h5, .inr (7, [.int 2, .int 0, .int 0, .int 0, .ref h6, .ref h7, .ref h8, .ref h9, .ref h10])), (h1, .inr (5, [.int 0, .int 0, .ref h11, .ref h12, .ref h13, .ref h14, .ref h15, .ref h16, .ref h17, .ref h18, .ref h19, .ref h20])), (h8, .inl (cA 0, 512, .inl (fun _ => 0))), (h9, .inl (cA 3, 512, .inl (fun _ => 0)))] "java/lang/IndexOutOfBoundsException" (fun q => [(h0, .inr (9, [.ref h1, .ref h2, .ref h3, .ref h4, .ref h5])), (h5, .inr (7, [.int 2, .int 1, .int 0, .int 0, .ref h6, .ref h7, .ref h8, .ref h9, .ref h10])), (h1, .inr (5, [.int 0, .int 0, .ref h11, .ref h12, .ref h13, .ref h14, .ref h15, .ref h16, .ref h17, .ref h18, .ref h19, .ref h20])), (h8, .inl (cA 0, 512, .inl (upd (fun _ => 0) 0 1))), (h9, .inl (cA 3, 512, .inl (upd (fun _ => 0) 0 1)))]) := by
  refine CX.of (by decide +kernel) (Nat.le_of_ble_eq_true rfl) ?_
  intro p e s m args below meth c A ls hx hb hr hml hown hG hlocks htab hA hS hP hK hD hGV hl
  have hown : s.vm.findClass RX6 = some m.cls := hown
  have hl : lv_has ls 2 [(0, .ref h0), (1, .int p0)] := hl
  have hSF : CF p m c cX6_raised 2 s args RX6 := ⟨hx, hb, hml, hown, hG⟩
  refine lv_aload_n hx hb dX6_raised_0 rfl (lv_at hl 0 rfl) ?_
  refine lv_iload_n hx hb dX6_raised_1 rfl (lv_at hl 1 rfl) ?_
  refine cx_V (wr := []) hSF hl.1 hP hD hS hA hK hGV (c323_X6_checkPlaceInOrder l hfl D cA g h0 h1 h2 h3 h4 h5 h6 h7 h8 h9 h10 h11 h12 h13 h14 h15 h16 h17 h18 h19 h20 (p0) k0) goV_X6_241 pd_X6_checkPlaceInOrder ⟨(Nat.le_of_ble_eq_true rfl), (Nat.le_of_ble_eq_true rfl)⟩ ⟨(Nat.le_of_ble_eq_true rfl), (Nat.le_of_ble_eq_true rfl)⟩ (va_recv hK hP (ci := 9) (q0 := 0) rfl rfl) dX6_raised_2 rfl (Nat.le_of_ble_eq_true rfl) [0, 1, 2, 3, 4] [] rfl (by decide) rfl (by decide) (by decide) (fun q => [(h0, .inr (9, [.ref h1, .ref h2, .ref h3, .ref h4, .ref h5])), (h5, .inr (7, [.int 2, .int 1, .int 0, .int 0, .ref h6, .ref h7, .ref h8, .ref h9, .ref h10])), (h1, .inr (5, [.int 0, .int 0, .ref h11, .ref h12, .ref h13, .ref h14, .ref h15, .ref h16, .ref h17, .ref h18, .ref h19, .ref h20])), (h8, .inl (cA 0, 512, .inl (upd (fun _ => 0) 0 1))), (h9, .inl (cA 3, 512, .inl (upd (fun _ => 0) 0 1)))]) (fun _ => rfl) (fun q1 H locs x9 ce9 hP hD hS h9 hv9 hcl9 => ?_)
  exact e_out (fun _ => 0) htab hlocks h9 hv9 hcl9 hP hD hS (Nat.le_of_ble_eq_true rfl) (Nat.le_of_ble_eq_true rfl)
set_option maxHeartbeats 4000000 in
set_option maxRecDepth 100000 in
theorem c325_L_raised (l : Launch) (hfl : l.stackTraces = false) (D : va_G) (cA : Nat → ClassId) (g : gv_T) (h0 h1 h2 h3 h4 h5 h6 h7 h8 h9 h10 h11 h12 h13 h14 h15 h16 h17 h18 h19 h20 h21 : Nat) (p0 : Int32) (k0 : p0 < 0) : CW l yL_raised cL_raised 4 (some .int) [(0, 9, 12, 46), (0, 9, 15, 21)] (RM 8 1 6 137) D cA g [.ref h0, .int p0, .ref h1] [(h0, .inr (9, [.ref h2, .ref h3, .ref h4, .ref h5, .ref h6])), (h6, .inr (7, [.int 2, .int 0, .int 0, .int 0, .ref h7, .ref h8, .ref h9, .ref h10, .ref h11])), (h2, .inr (5, [.int 0, .int 0, .ref h12, .ref h13, .ref h14, .ref h15, .ref h16, .ref h17, .ref h18, .ref h19, .ref h20, .ref h21])), (h9, .inl (cA 0, 512, .inl (fun _ => 0))), (h10, .inl (cA 3, 512, .inl (fun _ => 0)))] (fun q => some (.int 2)) (fun q => [(h0, .inr (9, [.ref h2, .ref h3, .ref h4, .ref h5, .ref h6])), (h6, .inr (7, [.int 2, .int 1, .int 0, .int 0, .ref h7, .ref h8, .ref h9, .ref h10, .ref h11])), (h2, .inr (5, [.int 0, .int 0, .ref h12, .ref h13, .ref h14, .ref h15, .ref h16, .ref h17, .ref h18, .ref h19, .ref h20, .ref h21])), (h9, .inl (cA 0, 512, .inl (upd (fun _ => 0) 0 1))), (h10, .inl (cA 3, 512, .inl (upd (fun _ => 0) 0 1)))]) := by
  refine CW.of (by decide +kernel) (Nat.le_of_ble_eq_true rfl) ?_
  intro p e s m args below meth c A ls hx hb hr hml hown hG hlocks htab hA hS hP hK hD hGV hl
  have hown : s.vm.findClass RL = some m.cls := hown
  have hl : lv_has ls 4 [(0, .ref h0), (1, .int p0), (2, .ref h1)] := hl
  have hSF : CF p m c cL_raised 4 s args RL := ⟨hx, hb, hml, hown, hG⟩
  refine lv_aload_n hx hb dL_raised_0 rfl (lv_at hl 2 rfl) ?_
  refine lv_iconst (v := 0) hx hb dL_raised_1 (by decide) ?_
  refine lv_aload_n hx hb dL_raised_2 rfl (lv_at hl 0 rfl) ?_
  refine lv_iload_n hx hb dL_raised_3 rfl (lv_at hl 1 rfl) ?_
  refine cx_V (wr := []) hSF hl.1 hP hD hS hA hK hGV (c324_X6_raised l hfl D cA g h0 h2 h3 h4 h5 h6 h7 h8 h9 h10 h11 h12 h13 h14 h15 h16 h17 h18 h19 h20 h21 (p0) k0) goV_L_92 pd_X6_raised ⟨(Nat.le_of_ble_eq_true rfl), (Nat.le_of_ble_eq_true rfl)⟩ ⟨(Nat.le_of_ble_eq_true rfl), (Nat.le_of_ble_eq_true rfl)⟩ (va_recv hK hP (ci := 9) (q0 := 0) rfl rfl) dL_raised_4 rfl (Nat.le_of_ble_eq_true rfl) [0, 1, 2, 3, 4] [] rfl (by decide) rfl (by decide) (by decide) (fun q => [(h0, .inr (9, [.ref h2, .ref h3, .ref h4, .ref h5, .ref h6])), (h6, .inr (7, [.int 2, .int 1, .int 0, .int 0, .ref h7, .ref h8, .ref h9, .ref h10, .ref h11])), (h2, .inr (5, [.int 0, .int 0, .ref h12, .ref h13, .ref h14, .ref h15, .ref h16, .ref h17, .ref h18, .ref h19, .ref h20, .ref h21])), (h9, .inl (cA 0, 512, .inl (upd (fun _ => 0) 0 1))), (h10, .inl (cA 3, 512, .inl (upd (fun _ => 0) 0 1)))]) (fun _ => rfl) (fun q1 H locs x9 ce9 hP hD hS h9 hv9 hcl9 => ?_)
  refine vx_catch (own := RL) (name := "java/lang/IndexOutOfBoundsException") hown [{ startPc := 0, endPc := 9, handlerPc := 12, catchType := 46 }] { startPc := 0, endPc := 9, handlerPc := 15, catchType := 21 } [] (htab.trans rfl) (fun z hz => by rcases List.mem_singleton.mp hz with rfl; exact Or.inr ⟨by decide, "java/util/NoSuchElementException", hG _ gw886, hGV.2.2.2.2.2.1 ("java/lang/IndexOutOfBoundsException", "java/util/NoSuchElementException") (by decide)⟩) rfl (by decide) (hG _ gw763) (va_Nw.use rfl (hGV.2.2.2.2.1 _ gw797)) h9 hv9 hcl9 ?_
  refine W.eq (g2 := F0 m 15 ls [.ref x9]) rfl ?_
  refine lv_astore_n (lv' := [(3, .ref x9), (0, .ref h0), (1, .int p0), (2, .ref h1)]) hx hb dL_raised_15 rfl hl (by decide) rfl (fun ls hl => ?_)
  refine lv_iconst (v := 2) hx hb dL_raised_16 (by decide) ?_
  exact e_i (fun _ => 0) hx hb hr hlocks rfl rfl hP hD hS (Nat.le_of_ble_eq_true rfl) (Nat.le_of_ble_eq_true rfl) dL_raised_17
set_option maxHeartbeats 4000000 in
set_option maxRecDepth 100000 in
theorem c326_X12_raises (l : Launch) (hfl : l.stackTraces = false) (D : va_G) (cA : Nat → ClassId) (g : gv_T) (h0 h1 h2 h3 h4 h5 h6 h7 h8 h9 h10 h11 h12 h13 h14 h15 h16 h17 h18 : Nat) : CT l yX12_raises cX12_raises 5 none (RM 1 0 0 20) D cA g [.ref h0] [(h0, .inr (15, [.ref h1, .ref h2, .ref h3, .ref h4, .ref h5, .ref h6, .ref h7, .ref h8, .ref h9, .ref h10, .ref h11, .ref h12, .ref h13, .ref h14, .ref h15, .ref h16, .ref h17, .ref h18, .long 0, .int 0, .int 2, .int 0, .int 0, .int 0, .int 0, .int 0, .int 0])), (h2, .inr (2, [.int 0, .ref g.1, .int 0])), (h10, .inl (cA 0, 512, .inl (fun _ => 0)))] (fun q => none) (fun q => [(h0, .inr (15, [.ref h1, .ref h2, .ref h3, .ref h4, .ref h5, .ref h6, .ref h7, .ref h8, .ref h9, .ref h10, .ref h11, .ref h12, .ref h13, .ref h14, .ref h15, .ref h16, .ref h17, .ref h18, .long 0, .int 0, .int 2, .int 0, .int 0, .int 0, .int 1, .int 0, .int 0])), (h2, .inr (2, [.int 0, .ref g.1, .int 0])), (h10, .inl (cA 0, 512, .inl (upd (fun _ => 0) 0 1)))]) := by
  refine CT.of (by decide +kernel) (Nat.le_of_ble_eq_true rfl) ?_
  intro p e s m args below meth c A ls hx hb hr hml hown hG hlocks hnm hA hS hP hK hD hGV hl
  have hown : s.vm.findClass RX12 = some m.cls := hown
  have hl : lv_has ls 5 [(0, .ref h0)] := hl
  have hSF : CF p m c cX12_raises 5 s args RX12 := ⟨hx, hb, hml, hown, hG⟩
  refine lv_aload_n hx hb dX12_raises_0 rfl (lv_at hl 0 rfl) ?_
  refine k_get (ci := 15) (C := RX12) (T := TX12) (N := 27) (v := .int 0) hx hb hG inX12 hown hK hP 0 rfl rfl 24 (by decide) gw1243 rfl dX12_raises_1 ?_
  refine k_if_eq_t (tgt := 8) hx hb dX12_raises_4 (by decide) (by decide) ?_
  refine lv_aload_n hx hb dX12_raises_8 rfl (lv_at hl 0 rfl) ?_
  refine lv_iconst (v := 1) hx hb dX12_raises_9 (by decide) ?_
  refine k_put (ci := 15) (C := RX12) (T := TX12) (N := 27) (v := .int 1) (ws1 := [(h0, .inr (15, [.ref h1, .ref h2, .ref h3, .ref h4, .ref h5, .ref h6, .ref h7, .ref h8, .ref h9, .ref h10, .ref h11, .ref h12, .ref h13, .ref h14, .ref h15, .ref h16, .ref h17, .ref h18, .long 0, .int 0, .int 2, .int 0, .int 0, .int 0, .int 1, .int 0, .int 0])), (h2, .inr (2, [.int 0, .ref g.1, .int 0])), (h10, .inl (cA 0, 512, .inl (fun _ => 0)))]) hx hb hG inX12 tyX12 tyX12_ok nmX12 hown hK hP hD hS 0 rfl rfl 24 (by decide) gw1243 rfl ⟨rfl, rfl⟩ rfl (Nat.le_of_ble_eq_true rfl) dX12_raises_10 (fun H locs hP hD hS => ?_)
  refine lv_iconst (v := 1) hx hb dX12_raises_13 (by decide) ?_
  refine lv_aload_n hx hb dX12_raises_14 rfl (lv_at hl 0 rfl) ?_
  refine k_get (ci := 15) (C := RX12) (T := TX12) (N := 27) (v := .ref h2) hx hb hG inX12 hown hK hP 0 rfl rfl 1 (by decide) gw1220 rfl dX12_raises_15 ?_
  refine ct_V (wr := [(h0, .inr (15, [.ref h1, .ref h2, .ref h3, .ref h4, .ref h5, .ref h6, .ref h7, .ref h8, .ref h9, .ref h10, .ref h11, .ref h12, .ref h13, .ref h14, .ref h15, .ref h16, .ref h17, .ref h18, .long 0, .int 0, .int 2, .int 0, .int 0, .int 0, .int 1, .int 0, .int 0])), (h10, .inl (cA 0, 512, .inl (fun _ => 0)))]) hSF hl.1 hP hD hS hA hK hGV (c56_Jx4a65c_size_8abf5 l hfl D cA g h2) goV_X12_125 pd_Jx4a65c_size_8abf5 ⟨(Nat.le_of_ble_eq_true rfl), (Nat.le_of_ble_eq_true rfl)⟩ ⟨(Nat.le_of_ble_eq_true rfl), (Nat.le_of_ble_eq_true rfl)⟩ (va_recv hK hP (ci := 2) (q0 := 1) rfl rfl) dX12_raises_18 rfl (Nat.le_of_ble_eq_true rfl) [1] [0, 2] rfl (by decide) rfl (by decide) (by decide) (fun q => [(h0, .inr (15, [.ref h1, .ref h2, .ref h3, .ref h4, .ref h5, .ref h6, .ref h7, .ref h8, .ref h9, .ref h10, .ref h11, .ref h12, .ref h13, .ref h14, .ref h15, .ref h16, .ref h17, .ref h18, .long 0, .int 0, .int 2, .int 0, .int 0, .int 0, .int 1, .int 0, .int 0])), (h10, .inl (cA 0, 512, .inl (fun _ => 0))), (h2, .inr (2, [.int 0, .ref g.1, .int 0]))]) (fun _ => rfl) (fun q1 H locs hP hD hS => ?_)
  refine W.eq (g2 := F0 m 21 ls [.int 0, .int 1]) rfl ?_
  refine k_ishl (v := 1) hx hb dX12_raises_21 (by decide) ?_
  refine lv_iconst (v := 1) hx hb dX12_raises_22 (by decide) ?_
  refine k_isub (v := 0) hx hb dX12_raises_23 (by decide) ?_
  refine lv_istore_n (lv' := [(1, .int 0), (0, .ref h0)]) hx hb dX12_raises_24 rfl hl (by decide) rfl (fun ls hl => ?_)
  refine lv_aload_n hx hb dX12_raises_25 rfl (lv_at hl 1 rfl) ?_
  refine k_get (ci := 15) (C := RX12) (T := TX12) (N := 27) (v := .ref h10) hx hb hG inX12 hown hK hP 0 rfl rfl 9 (by decide) gw1228 rfl dX12_raises_26 ?_
  refine lv_iload_n hx hb dX12_raises_29 rfl (lv_at hl 0 rfl) ?_
  refine lv_iconst (v := 1) hx hb dX12_raises_30 (by decide) ?_
  refine k_iast (ws1 := [(h0, .inr (15, [.ref h1, .ref h2, .ref h3, .ref h4, .ref h5, .ref h6, .ref h7, .ref h8, .ref h9, .ref h10, .ref h11, .ref h12, .ref h13, .ref h14, .ref h15, .ref h16, .ref h17, .ref h18, .long 0, .int 0, .int 2, .int 0, .int 0, .int 0, .int 1, .int 0, .int 0])), (h10, .inl (cA 0, 512, .inl (upd (fun _ => 0) 0 1))), (h2, .inr (2, [.int 0, .ref g.1, .int 0]))]) hx hb hK hP hD hS 1 rfl rfl (by unfold vp_in; decide) dX12_raises_31 (fun H locs hP hD hS => ?_)
  refine lv_iload_n hx hb dX12_raises_32 rfl (lv_at hl 0 rfl) ?_
  refine lv_iconst (v := 1) hx hb dX12_raises_33 (by decide) ?_
  refine k_isub (v := (-1)) hx hb dX12_raises_34 (by decide) ?_
  refine lv_istore_n (lv' := [(2, .int (-1)), (1, .int 0), (0, .ref h0)]) hx hb dX12_raises_35 rfl hl (by decide) rfl (fun ls hl => ?_)
  refine lv_iload_n hx hb dX12_raises_36 rfl (lv_at hl 0 rfl) ?_
  refine k_if_lt_t (tgt := 104) hx hb dX12_raises_37 (by decide) (by decide) ?_
  refine lv_iconst (v := 0) hx hb dX12_raises_104 (by decide) ?_
  refine lv_istore_n (lv' := [(2, .int 0), (1, .int 0), (0, .ref h0)]) hx hb dX12_raises_105 rfl hl (by decide) rfl (fun ls hl => ?_)
  refine lv_iconst (v := 0) hx hb dX12_raises_106 (by decide) ?_
  refine lv_istore_n (lv' := [(3, .int 0), (2, .int 0), (1, .int 0), (0, .ref h0)]) hx hb dX12_raises_107 rfl hl (by decide) rfl (fun ls hl => ?_)
  refine lv_iload_n hx hb dX12_raises_108 rfl (lv_at hl 0 rfl) ?_
  refine lv_aload_n hx hb dX12_raises_109 rfl (lv_at hl 3 rfl) ?_
  refine k_get (ci := 15) (C := RX12) (T := TX12) (N := 27) (v := .ref h2) hx hb hG inX12 hown hK hP 0 rfl rfl 1 (by decide) gw1220 rfl dX12_raises_110 ?_
  refine ct_V (wr := [(h0, .inr (15, [.ref h1, .ref h2, .ref h3, .ref h4, .ref h5, .ref h6, .ref h7, .ref h8, .ref h9, .ref h10, .ref h11, .ref h12, .ref h13, .ref h14, .ref h15, .ref h16, .ref h17, .ref h18, .long 0, .int 0, .int 2, .int 0, .int 0, .int 0, .int 1, .int 0, .int 0])), (h10, .inl (cA 0, 512, .inl (upd (fun _ => 0) 0 1)))]) hSF hl.1 hP hD hS hA hK hGV (c56_Jx4a65c_size_8abf5 l hfl D cA g h2) goV_X12_125 pd_Jx4a65c_size_8abf5 ⟨(Nat.le_of_ble_eq_true rfl), (Nat.le_of_ble_eq_true rfl)⟩ ⟨(Nat.le_of_ble_eq_true rfl), (Nat.le_of_ble_eq_true rfl)⟩ (va_recv hK hP (ci := 2) (q0 := 2) rfl rfl) dX12_raises_113 rfl (Nat.le_of_ble_eq_true rfl) [2] [0, 1] rfl (by decide) rfl (by decide) (by decide) (fun q => [(h0, .inr (15, [.ref h1, .ref h2, .ref h3, .ref h4, .ref h5, .ref h6, .ref h7, .ref h8, .ref h9, .ref h10, .ref h11, .ref h12, .ref h13, .ref h14, .ref h15, .ref h16, .ref h17, .ref h18, .long 0, .int 0, .int 2, .int 0, .int 0, .int 0, .int 1, .int 0, .int 0])), (h10, .inl (cA 0, 512, .inl (upd (fun _ => 0) 0 1))), (h2, .inr (2, [.int 0, .ref g.1, .int 0]))]) (fun _ => rfl) (fun q2 H locs hP hD hS => ?_)
  refine W.eq (g2 := F0 m 116 ls [.int 0, .int 0]) rfl ?_
  refine k_icmp_ge_t (tgt := 182) hx hb dX12_raises_116 (by decide) (by decide) ?_
  exact e_v (fun _ => 0) hx hb hr hlocks rfl (hP.sub [0, 2, 1] rfl) (hD.sub [0, 2, 1] (by decide) rfl) hS (Nat.le_of_ble_eq_true rfl) (Nat.le_of_ble_eq_true rfl) dX12_raises_182
set_option maxHeartbeats 4000000 in
set_option maxRecDepth 100000 in
theorem c327_X12_hasOrder (l : Launch) (hfl : l.stackTraces = false) (D : va_G) (cA : Nat → ClassId) (g : gv_T) (h0 h1 h2 h3 h4 h5 h6 h7 h8 h9 h10 h11 h12 h13 h14 h15 h16 h17 h18 : Nat) : CT l yX12_hasOrder cX12_hasOrder 1 (some .boolean) (RM 2 0 0 44) D cA g [.ref h0] [(h0, .inr (15, [.ref h1, .ref h2, .ref h3, .ref h4, .ref h5, .ref h6, .ref h7, .ref h8, .ref h9, .ref h10, .ref h11, .ref h12, .ref h13, .ref h14, .ref h15, .ref h16, .ref h17, .ref h18, .long 0, .int 0, .int 2, .int 0, .int 0, .int 0, .int 0, .int 0, .int 0])), (h2, .inr (2, [.int 0, .ref g.1, .int 0])), (h10, .inl (cA 0, 512, .inl (fun _ => 0)))] (fun q => some (.int 1)) (fun q => [(h0, .inr (15, [.ref h1, .ref h2, .ref h3, .ref h4, .ref h5, .ref h6, .ref h7, .ref h8, .ref h9, .ref h10, .ref h11, .ref h12, .ref h13, .ref h14, .ref h15, .ref h16, .ref h17, .ref h18, .long 0, .int 0, .int 2, .int 0, .int 0, .int 0, .int 1, .int 0, .int 0])), (h2, .inr (2, [.int 0, .ref g.1, .int 0])), (h10, .inl (cA 0, 512, .inl (upd (fun _ => 0) 0 1)))]) := by
  refine CT.of (by decide +kernel) (Nat.le_of_ble_eq_true rfl) ?_
  intro p e s m args below meth c A ls hx hb hr hml hown hG hlocks hnm hA hS hP hK hD hGV hl
  have hown : s.vm.findClass RX12 = some m.cls := hown
  have hl : lv_has ls 1 [(0, .ref h0)] := hl
  have hSF : CF p m c cX12_hasOrder 1 s args RX12 := ⟨hx, hb, hml, hown, hG⟩
  refine lv_aload_n hx hb dX12_hasOrder_0 rfl (lv_at hl 0 rfl) ?_
  refine ct_V (wr := []) hSF hl.1 hP hD hS hA hK hGV (c326_X12_raises l hfl D cA g h0 h1 h2 h3 h4 h5 h6 h7 h8 h9 h10 h11 h12 h13 h14 h15 h16 h17 h18) goV_X12_392 pd_X12_raises ⟨(Nat.le_of_ble_eq_true rfl), (Nat.le_of_ble_eq_true rfl)⟩ ⟨(Nat.le_of_ble_eq_true rfl), (Nat.le_of_ble_eq_true rfl)⟩ (va_recv hK hP (ci := 15) (q0 := 0) rfl rfl) dX12_hasOrder_1 rfl (Nat.le_of_ble_eq_true rfl) [0, 1, 2] [] rfl (by decide) rfl (by decide) (by decide) (fun q => [(h0, .inr (15, [.ref h1, .ref h2, .ref h3, .ref h4, .ref h5, .ref h6, .ref h7, .ref h8, .ref h9, .ref h10, .ref h11, .ref h12, .ref h13, .ref h14, .ref h15, .ref h16, .ref h17, .ref h18, .long 0, .int 0, .int 2, .int 0, .int 0, .int 0, .int 1, .int 0, .int 0])), (h2, .inr (2, [.int 0, .ref g.1, .int 0])), (h10, .inl (cA 0, 512, .inl (upd (fun _ => 0) 0 1)))]) (fun _ => rfl) (fun q1 H locs hP hD hS => ?_)
  refine W.eq (g2 := F0 m 4 ls []) rfl ?_
  refine lv_aload_n hx hb dX12_hasOrder_4 rfl (lv_at hl 0 rfl) ?_
  refine k_get (ci := 15) (C := RX12) (T := TX12) (N := 27) (v := .ref h10) hx hb hG inX12 hown hK hP 0 rfl rfl 9 (by decide) gw1228 rfl dX12_hasOrder_5 ?_
  refine lv_iconst (v := 0) hx hb dX12_hasOrder_8 (by decide) ?_
  refine k_iald (v := 1) hx hb hK hP 2 rfl 0 (by decide) rfl (by unfold vp_in; decide) dX12_hasOrder_9 ?_
  refine k_if_le_f (tgt := 17) hx hb dX12_hasOrder_10 (by decide) (by decide) ?_
  refine lv_iconst (v := 1) hx hb dX12_hasOrder_13 (by decide) ?_
  refine lv_goto (tgt := 18) hx hb dX12_hasOrder_14 (by decide) ?_
  exact e_i (fun _ => 0) hx hb hr hlocks rfl rfl hP hD hS (Nat.le_of_ble_eq_true rfl) (Nat.le_of_ble_eq_true rfl) dX12_hasOrder_18
set_option maxHeartbeats 4000000 in
set_option maxRecDepth 100000 in
theorem c328_X12_fails (l : Launch) (hfl : l.stackTraces = false) (D : va_G) (cA : Nat → ClassId) (g : gv_T) (h0 h1 h2 h3 h4 h5 h6 h7 h8 h9 h10 h11 h12 h13 h14 h15 h16 h17 h18 : Nat) : CT l yX12_fails cX12_fails 2 (some .int) (RM 0 0 0 0) D cA g [.ref h0, .int 2] [(h0, .inr (15, [.ref h1, .ref h2, .ref h3, .ref h4, .ref h5, .ref h6, .ref h7, .ref h8, .ref h9, .ref h10, .ref h11, .ref h12, .ref h13, .ref h14, .ref h15, .ref h16, .ref h17, .ref h18, .long 0, .int 0, .int 2, .int 0, .int 0, .int 0, .int 1, .int 0, .int 0]))] (fun q => some (.int 0)) (fun q => [(h0, .inr (15, [.ref h1, .ref h2, .ref h3, .ref h4, .ref h5, .ref h6, .ref h7, .ref h8, .ref h9, .ref h10, .ref h11, .ref h12, .ref h13, .ref h14, .ref h15, .ref h16, .ref h17, .ref h18, .long 0, .int 2, .int 2, .int 0, .int 0, .int 0, .int 1, .int 0, .int 0]))]) := by
  refine CT.of (by decide +kernel) (Nat.le_of_ble_eq_true rfl) ?_
  intro p e s m args below meth c A ls hx hb hr hml hown hG hlocks hnm hA hS hP hK hD hGV hl
  have hown : s.vm.findClass RX12 = some m.cls := hown
  have hl : lv_has ls 2 [(0, .ref h0), (1, .int 2)] := hl
  have hSF : CF p m c cX12_fails 2 s args RX12 := ⟨hx, hb, hml, hown, hG⟩
  refine lv_aload_n hx hb dX12_fails_0 rfl (lv_at hl 0 rfl) ?_
  refine lv_iload_n hx hb dX12_fails_1 rfl (lv_at hl 1 rfl) ?_
  refine k_put (ci := 15) (C := RX12) (T := TX12) (N := 27) (v := .int 2) (ws1 := [(h0, .inr (15, [.ref h1, .ref h2, .ref h3, .ref h4, .ref h5, .ref h6, .ref h7, .ref h8, .ref h9, .ref h10, .ref h11, .ref h12, .ref h13, .ref h14, .ref h15, .ref h16, .ref h17, .ref h18, .long 0, .int 2, .int 2, .int 0, .int 0, .int 0, .int 1, .int 0, .int 0]))]) hx hb hG inX12 tyX12 tyX12_ok nmX12 hown hK hP hD hS 0 rfl rfl 19 (by decide) gw1238 rfl ⟨rfl, rfl⟩ rfl (Nat.le_of_ble_eq_true rfl) dX12_fails_2 (fun H locs hP hD hS => ?_)
  refine lv_iconst (v := 0) hx hb dX12_fails_5 (by decide) ?_
  exact e_i (fun _ => 0) hx hb hr hlocks rfl rfl hP hD hS (Nat.le_of_ble_eq_true rfl) (Nat.le_of_ble_eq_true rfl) dX12_fails_6
set_option maxHeartbeats 4000000 in
set_option maxRecDepth 100000 in
theorem c329_X12_raised (l : Launch) (hfl : l.stackTraces = false) (D : va_G) (cA : Nat → ClassId) (g : gv_T) (h0 h1 h2 h3 h4 h5 h6 h7 h8 h9 h10 h11 h12 h13 h14 h15 h16 h17 h18 : Nat) (p0 : Int32) (k0 : (lg_cmp p0.toInt64 0) < 0) : CT l yX12_raised cX12_raised 2 (some .int) (RM 3 0 0 64) D cA g [.ref h0, .int p0] [(h0, .inr (15, [.ref h1, .ref h2, .ref h3, .ref h4, .ref h5, .ref h6, .ref h7, .ref h8, .ref h9, .ref h10, .ref h11, .ref h12, .ref h13, .ref h14, .ref h15, .ref h16, .ref h17, .ref h18, .long 0, .int 0, .int 2, .int 0, .int 0, .int 0, .int 0, .int 0, .int 0])), (h2, .inr (2, [.int 0, .ref g.1, .int 0])), (h10, .inl (cA 0, 512, .inl (fun _ => 0)))] (fun q => some (.int 0)) (fun q => [(h0, .inr (15, [.ref h1, .ref h2, .ref h3, .ref h4, .ref h5, .ref h6, .ref h7, .ref h8, .ref h9, .ref h10, .ref h11, .ref h12, .ref h13, .ref h14, .ref h15, .ref h16, .ref h17, .ref h18, .long 0, .int 2, .int 2, .int 0, .int 0, .int 0, .int 1, .int 0, .int 0])), (h2, .inr (2, [.int 0, .ref g.1, .int 0])), (h10, .inl (cA 0, 512, .inl (upd (fun _ => 0) 0 1)))]) := by
  refine CT.of (by decide +kernel) (Nat.le_of_ble_eq_true rfl) ?_
  intro p e s m args below meth c A ls hx hb hr hml hown hG hlocks hnm hA hS hP hK hD hGV hl
  have hown : s.vm.findClass RX12 = some m.cls := hown
  have hl : lv_has ls 2 [(0, .ref h0), (1, .int p0)] := hl
  have hSF : CF p m c cX12_raised 2 s args RX12 := ⟨hx, hb, hml, hown, hG⟩
  refine lv_aload_n hx hb dX12_raised_0 rfl (lv_at hl 0 rfl) ?_
  refine ct_V (wr := []) hSF hl.1 hP hD hS hA hK hGV (c327_X12_hasOrder l hfl D cA g h0 h1 h2 h3 h4 h5 h6 h7 h8 h9 h10 h11 h12 h13 h14 h15 h16 h17 h18) goV_X12_395 pd_X12_hasOrder ⟨(Nat.le_of_ble_eq_true rfl), (Nat.le_of_ble_eq_true rfl)⟩ ⟨(Nat.le_of_ble_eq_true rfl), (Nat.le_of_ble_eq_true rfl)⟩ (va_recv hK hP (ci := 15) (q0 := 0) rfl rfl) dX12_raised_1 rfl (Nat.le_of_ble_eq_true rfl) [0, 1, 2] [] rfl (by decide) rfl (by decide) (by decide) (fun q => [(h0, .inr (15, [.ref h1, .ref h2, .ref h3, .ref h4, .ref h5, .ref h6, .ref h7, .ref h8, .ref h9, .ref h10, .ref h11, .ref h12, .ref h13, .ref h14, .ref h15, .ref h16, .ref h17, .ref h18, .long 0, .int 0, .int 2, .int 0, .int 0, .int 0, .int 1, .int 0, .int 0])), (h2, .inr (2, [.int 0, .ref g.1, .int 0])), (h10, .inl (cA 0, 512, .inl (upd (fun _ => 0) 0 1)))]) (fun _ => rfl) (fun q1 H locs hP hD hS => ?_)
  refine W.eq (g2 := F0 m 4 ls [.int 1]) rfl ?_
  refine k_if_ne_t (tgt := 13) hx hb dX12_raised_4 (by decide) (by decide) ?_
  refine lv_iload_n hx hb dX12_raised_13 rfl (lv_at hl 1 rfl) ?_
  refine lv_i2l (v := p0.toInt64) hx hb dX12_raised_14 rfl ?_
  refine lv_iconst (v := 0) hx hb dX12_raised_15 (by decide) ?_
  refine lv_aload_n hx hb dX12_raised_16 rfl (lv_at hl 0 rfl) ?_
  refine k_get (ci := 15) (C := RX12) (T := TX12) (N := 27) (v := .ref h2) hx hb hG inX12 hown hK hP 0 rfl rfl 1 (by decide) gw1220 rfl dX12_raised_17 ?_
  refine ct_V (wr := [(h0, .inr (15, [.ref h1, .ref h2, .ref h3, .ref h4, .ref h5, .ref h6, .ref h7, .ref h8, .ref h9, .ref h10, .ref h11, .ref h12, .ref h13, .ref h14, .ref h15, .ref h16, .ref h17, .ref h18, .long 0, .int 0, .int 2, .int 0, .int 0, .int 0, .int 1, .int 0, .int 0])), (h10, .inl (cA 0, 512, .inl (upd (fun _ => 0) 0 1)))]) hSF hl.1 hP hD hS hA hK hGV (c56_Jx4a65c_size_8abf5 l hfl D cA g h2) goV_X12_125 pd_Jx4a65c_size_8abf5 ⟨(Nat.le_of_ble_eq_true rfl), (Nat.le_of_ble_eq_true rfl)⟩ ⟨(Nat.le_of_ble_eq_true rfl), (Nat.le_of_ble_eq_true rfl)⟩ (va_recv hK hP (ci := 2) (q0 := 1) rfl rfl) dX12_raised_20 rfl (Nat.le_of_ble_eq_true rfl) [1] [0, 2] rfl (by decide) rfl (by decide) (by decide) (fun q => [(h0, .inr (15, [.ref h1, .ref h2, .ref h3, .ref h4, .ref h5, .ref h6, .ref h7, .ref h8, .ref h9, .ref h10, .ref h11, .ref h12, .ref h13, .ref h14, .ref h15, .ref h16, .ref h17, .ref h18, .long 0, .int 0, .int 2, .int 0, .int 0, .int 0, .int 1, .int 0, .int 0])), (h10, .inl (cA 0, 512, .inl (upd (fun _ => 0) 0 1))), (h2, .inr (2, [.int 0, .ref g.1, .int 0]))]) (fun _ => rfl) (fun q2 H locs hP hD hS => ?_)
  refine W.eq (g2 := F0 m 23 ls [.int 0, .int 0, .long (p0.toInt64)]) rfl ?_
  refine lv_iconst (v := 1) hx hb dX12_raised_23 (by decide) ?_
  refine k_isub (v := (-1)) hx hb dX12_raised_24 (by decide) ?_
  refine ct_S (wr := [(h0, .inr (15, [.ref h1, .ref h2, .ref h3, .ref h4, .ref h5, .ref h6, .ref h7, .ref h8, .ref h9, .ref h10, .ref h11, .ref h12, .ref h13, .ref h14, .ref h15, .ref h16, .ref h17, .ref h18, .long 0, .int 0, .int 2, .int 0, .int 0, .int 0, .int 1, .int 0, .int 0])), (h10, .inl (cA 0, 512, .inl (upd (fun _ => 0) 0 1))), (h2, .inr (2, [.int 0, .ref g.1, .int 0]))]) hSF hl.1 hP hD hS hA hK hGV (c94_X12_in l hfl D cA g (p0.toInt64) k0) goS_X12_285 pd_X12_in.2 ⟨(Nat.le_of_ble_eq_true rfl), (Nat.le_of_ble_eq_true rfl)⟩ ⟨(Nat.le_of_ble_eq_true rfl), (Nat.le_of_ble_eq_true rfl)⟩ dX12_raised_25 rfl (Nat.le_of_ble_eq_true rfl) [] [0, 1, 2] rfl (by decide) rfl (by decide) (by decide) (fun q => [(h0, .inr (15, [.ref h1, .ref h2, .ref h3, .ref h4, .ref h5, .ref h6, .ref h7, .ref h8, .ref h9, .ref h10, .ref h11, .ref h12, .ref h13, .ref h14, .ref h15, .ref h16, .ref h17, .ref h18, .long 0, .int 0, .int 2, .int 0, .int 0, .int 0, .int 1, .int 0, .int 0])), (h10, .inl (cA 0, 512, .inl (upd (fun _ => 0) 0 1))), (h2, .inr (2, [.int 0, .ref g.1, .int 0]))]) (fun _ => rfl) (fun q3 H locs hP hD hS => ?_)
  refine W.eq (g2 := F0 m 28 ls [.int 0]) rfl ?_
  refine k_if_eq_t (tgt := 44) hx hb dX12_raised_28 (by decide) (by decide) ?_
  refine lv_aload_n hx hb dX12_raised_44 rfl (lv_at hl 0 rfl) ?_
  refine lv_iconst (v := 2) hx hb dX12_raised_45 (by decide) ?_
  refine ct_V (wr := [(h10, .inl (cA 0, 512, .inl (upd (fun _ => 0) 0 1))), (h2, .inr (2, [.int 0, .ref g.1, .int 0]))]) hSF hl.1 hP hD hS hA hK hGV (c328_X12_fails l hfl D cA g h0 h1 h2 h3 h4 h5 h6 h7 h8 h9 h10 h11 h12 h13 h14 h15 h16 h17 h18) goV_X12_289 pd_X12_fails ⟨(Nat.le_of_ble_eq_true rfl), (Nat.le_of_ble_eq_true rfl)⟩ ⟨(Nat.le_of_ble_eq_true rfl), (Nat.le_of_ble_eq_true rfl)⟩ (va_recv hK hP (ci := 15) (q0 := 0) rfl rfl) dX12_raised_46 rfl (Nat.le_of_ble_eq_true rfl) [0] [1, 2] rfl (by decide) rfl (by decide) (by decide) (fun q => [(h10, .inl (cA 0, 512, .inl (upd (fun _ => 0) 0 1))), (h2, .inr (2, [.int 0, .ref g.1, .int 0])), (h0, .inr (15, [.ref h1, .ref h2, .ref h3, .ref h4, .ref h5, .ref h6, .ref h7, .ref h8, .ref h9, .ref h10, .ref h11, .ref h12, .ref h13, .ref h14, .ref h15, .ref h16, .ref h17, .ref h18, .long 0, .int 2, .int 2, .int 0, .int 0, .int 0, .int 1, .int 0, .int 0]))]) (fun _ => rfl) (fun q4 H locs hP hD hS => ?_)
  refine W.eq (g2 := F0 m 49 ls [.int 0]) rfl ?_
  exact e_i (fun _ => 0) hx hb hr hlocks rfl rfl (hP.sub [2, 1, 0] rfl) (hD.sub [2, 1, 0] (by decide) rfl) hS (Nat.le_of_ble_eq_true rfl) (Nat.le_of_ble_eq_true rfl) dX12_raised_49
set_option maxHeartbeats 4000000 in
set_option maxRecDepth 100000 in
theorem c330_X12_thrown (l : Launch) (hfl : l.stackTraces = false) (D : va_G) (cA : Nat → ClassId) (g : gv_T) (h0 h1 h2 h3 h4 h5 h6 h7 h8 h9 h10 h11 h12 h13 h14 h15 h16 h17 h18 : Nat) : CT l yX12_thrown cX12_thrown 1 (some .int) (RM 0 0 0 0) D cA g [.ref h0] [(h0, .inr (15, [.ref h1, .ref h2, .ref h3, .ref h4, .ref h5, .ref h6, .ref h7, .ref h8, .ref h9, .ref h10, .ref h11, .ref h12, .ref h13, .ref h14, .ref h15, .ref h16, .ref h17, .ref h18, .long 0, .int 2, .int 2, .int 0, .int 0, .int 0, .int 1, .int 0, .int 0]))] (fun q => some (.int 2)) (fun q => [(h0, .inr (15, [.ref h1, .ref h2, .ref h3, .ref h4, .ref h5, .ref h6, .ref h7, .ref h8, .ref h9, .ref h10, .ref h11, .ref h12, .ref h13, .ref h14, .ref h15, .ref h16, .ref h17, .ref h18, .long 0, .int 2, .int 2, .int 0, .int 0, .int 0, .int 1, .int 0, .int 0]))]) := by
  refine CT.of (by decide +kernel) (Nat.le_of_ble_eq_true rfl) ?_
  intro p e s m args below meth c A ls hx hb hr hml hown hG hlocks hnm hA hS hP hK hD hGV hl
  have hown : s.vm.findClass RX12 = some m.cls := hown
  have hl : lv_has ls 1 [(0, .ref h0)] := hl
  have hSF : CF p m c cX12_thrown 1 s args RX12 := ⟨hx, hb, hml, hown, hG⟩
  refine lv_aload_n hx hb dX12_thrown_0 rfl (lv_at hl 0 rfl) ?_
  refine k_get (ci := 15) (C := RX12) (T := TX12) (N := 27) (v := .int 2) hx hb hG inX12 hown hK hP 0 rfl rfl 19 (by decide) gw1238 rfl dX12_thrown_1 ?_
  exact e_i (fun _ => 0) hx hb hr hlocks rfl rfl hP hD hS (Nat.le_of_ble_eq_true rfl) (Nat.le_of_ble_eq_true rfl) dX12_thrown_4
set_option maxHeartbeats 4000000 in
set_option maxRecDepth 100000 in
theorem c331_X6_checkPlaceInOrder (l : Launch) (hfl : l.stackTraces = false) (D : va_G) (cA : Nat → ClassId) (g : gv_T) (h0 h1 h2 h3 h4 h5 h6 h7 h8 h9 h10 h11 h12 h13 h14 h15 h16 h17 h18 h19 h20 : Nat) (p0 : Int32) (k0 : ¬ p0 < 0) : CX l yX6_checkPlaceInOrder cX6_checkPlaceInOrder 2 none (RM 6 1 6 95) D cA g [.ref h0, .int p0] [(h0, .inr (9, [.ref h1, .ref h2, .ref h3, .ref h4, .ref h5])), (h5, .inr (7, [.int 2, .int 0, .int 0, .int 0, .ref h6, .ref h7, .ref h8, .ref h9, .ref h10])), (h1, .inr (5, [.int 0, .int 0, .ref h11, .ref h12, .ref h13, .ref h14, .ref h15, .ref h16, .ref h17, .ref h18, .ref h19, .ref h20])), (h8, .inl (cA 0, 512, .inl (fun _ => 0))), (h9, .inl (cA 3, 512, .inl (fun _ => 0)))] "java/lang/IndexOutOfBoundsException" (fun q => [(h0, .inr (9, [.ref h1, .ref h2, .ref h3, .ref h4, .ref h5])), (h5, .inr (7, [.int 2, .int 1, .int 0, .int 0, .ref h6, .ref h7, .ref h8, .ref h9, .ref h10])), (h1, .inr (5, [.int 0, .int 0, .ref h11, .ref h12, .ref h13, .ref h14, .ref h15, .ref h16, .ref h17, .ref h18, .ref h19, .ref h20])), (h8, .inl (cA 0, 512, .inl (upd (fun _ => 0) 0 1))), (h9, .inl (cA 3, 512, .inl (upd (fun _ => 0) 0 1)))]) := by
  refine CX.of (by decide +kernel) (Nat.le_of_ble_eq_true rfl) ?_
  intro p e s m args below meth c A ls hx hb hr hml hown hG hlocks htab hA hS hP hK hD hGV hl
  have hown : s.vm.findClass RX6 = some m.cls := hown
  have hl : lv_has ls 2 [(0, .ref h0), (1, .int p0)] := hl
  have hSF : CF p m c cX6_checkPlaceInOrder 2 s args RX6 := ⟨hx, hb, hml, hown, hG⟩
  refine lv_aload_n hx hb dX6_checkPlaceInOrder_0 rfl (lv_at hl 0 rfl) ?_
  refine k_get (ci := 9) (C := RX6) (T := TX6) (N := 5) (v := .ref h5) hx hb hG inX6 hown hK hP 0 rfl rfl 4 (by decide) gw367 rfl dX6_checkPlaceInOrder_1 ?_
  refine lv_aload_n hx hb dX6_checkPlaceInOrder_4 rfl (lv_at hl 0 rfl) ?_
  refine k_get (ci := 9) (C := RX6) (T := TX6) (N := 5) (v := .ref h1) hx hb hG inX6 hown hK hP 0 rfl rfl 0 (by decide) gw363 rfl dX6_checkPlaceInOrder_5 ?_
  refine lv_aload_n hx hb dX6_checkPlaceInOrder_8 rfl (lv_at hl 0 rfl) ?_
  refine k_get (ci := 9) (C := RX6) (T := TX6) (N := 5) (v := .ref h3) hx hb hG inX6 hown hK hP 0 rfl rfl 2 (by decide) gw365 rfl dX6_checkPlaceInOrder_9 ?_
  refine ct_V (wr := [(h0, .inr (9, [.ref h1, .ref h2, .ref h3, .ref h4, .ref h5]))]) hSF hl.1 hP hD hS hA hK hGV (c321_X4_find l hfl D cA g h5 h1 h3 h6 h7 h8 h9 h10 h11 h12 h13 h14 h15 h16 h17 h18 h19 h20) goV_X6_247 pd_X4_find ⟨(Nat.le_of_ble_eq_true rfl), (Nat.le_of_ble_eq_true rfl)⟩ ⟨(Nat.le_of_ble_eq_true rfl), (Nat.le_of_ble_eq_true rfl)⟩ (va_recv hK hP (ci := 7) (q0 := 1) rfl rfl) dX6_checkPlaceInOrder_12 rfl (Nat.le_of_ble_eq_true rfl) [1, 2, 3, 4] [0] rfl (by decide) rfl (by decide) (by decide) (fun q => [(h0, .inr (9, [.ref h1, .ref h2, .ref h3, .ref h4, .ref h5])), (h5, .inr (7, [.int 2, .int 1, .int 0, .int 0, .ref h6, .ref h7, .ref h8, .ref h9, .ref h10])), (h1, .inr (5, [.int 0, .int 0, .ref h11, .ref h12, .ref h13, .ref h14, .ref h15, .ref h16, .ref h17, .ref h18, .ref h19, .ref h20])), (h8, .inl (cA 0, 512, .inl (upd (fun _ => 0) 0 1))), (h9, .inl (cA 3, 512, .inl (upd (fun _ => 0) 0 1)))]) (fun _ => rfl) (fun q1 H locs hP hD hS => ?_)
  refine W.eq (g2 := F0 m 15 ls []) rfl ?_
  refine lv_aload_n hx hb dX6_checkPlaceInOrder_15 rfl (lv_at hl 0 rfl) ?_
  refine k_get (ci := 9) (C := RX6) (T := TX6) (N := 5) (v := .ref h5) hx hb hG inX6 hown hK hP 0 rfl rfl 4 (by decide) gw367 rfl dX6_checkPlaceInOrder_16 ?_
  refine ct_V (wr := [(h0, .inr (9, [.ref h1, .ref h2, .ref h3, .ref h4, .ref h5])), (h1, .inr (5, [.int 0, .int 0, .ref h11, .ref h12, .ref h13, .ref h14, .ref h15, .ref h16, .ref h17, .ref h18, .ref h19, .ref h20])), (h9, .inl (cA 3, 512, .inl (upd (fun _ => 0) 0 1)))]) hSF hl.1 hP hD hS hA hK hGV (c322_X4_orderCount l hfl D cA g h5 h6 h7 h8 h9 h10) goV_X6_250 pd_X4_orderCount ⟨(Nat.le_of_ble_eq_true rfl), (Nat.le_of_ble_eq_true rfl)⟩ ⟨(Nat.le_of_ble_eq_true rfl), (Nat.le_of_ble_eq_true rfl)⟩ (va_recv hK hP (ci := 7) (q0 := 1) rfl rfl) dX6_checkPlaceInOrder_19 rfl (Nat.le_of_ble_eq_true rfl) [1, 3] [0, 2, 4] rfl (by decide) rfl (by decide) (by decide) (fun q => [(h0, .inr (9, [.ref h1, .ref h2, .ref h3, .ref h4, .ref h5])), (h1, .inr (5, [.int 0, .int 0, .ref h11, .ref h12, .ref h13, .ref h14, .ref h15, .ref h16, .ref h17, .ref h18, .ref h19, .ref h20])), (h9, .inl (cA 3, 512, .inl (upd (fun _ => 0) 0 1))), (h5, .inr (7, [.int 2, .int 1, .int 0, .int 0, .ref h6, .ref h7, .ref h8, .ref h9, .ref h10])), (h8, .inl (cA 0, 512, .inl (upd (fun _ => 0) 0 1)))]) (fun _ => rfl) (fun q2 H locs hP hD hS => ?_)
  refine W.eq (g2 := F0 m 22 ls [.int 1]) rfl ?_
  refine k_if_ne_t (tgt := 36) hx hb dX6_checkPlaceInOrder_22 (by decide) (by decide) ?_
  refine lv_iload_n hx hb dX6_checkPlaceInOrder_36 rfl (lv_at hl 1 rfl) ?_
  refine k_if_lt_f (tgt := 51) hx hb dX6_checkPlaceInOrder_37 k0 (by decide) ?_
  refine lv_iload_n hx hb dX6_checkPlaceInOrder_40 rfl (lv_at hl 1 rfl) ?_
  refine lv_aload_n hx hb dX6_checkPlaceInOrder_41 rfl (lv_at hl 0 rfl) ?_
  refine k_get (ci := 9) (C := RX6) (T := TX6) (N := 5) (v := .ref h1) hx hb hG inX6 hown hK hP 0 rfl rfl 0 (by decide) gw363 rfl dX6_checkPlaceInOrder_42 ?_
  refine k_get (ci := 5) (C := RX2) (T := TX2) (N := 12) (v := .int 0) hx hb hG inX2 hown hK hP 1 rfl rfl 1 (by decide) gw131 rfl dX6_checkPlaceInOrder_45 ?_
  refine k_icmp_lt_f (tgt := 62) hx hb dX6_checkPlaceInOrder_48 k0 (by decide) ?_
  exact e_throwW (fun _ => 0) (names := ["java/lang/RuntimeException", "java/lang/Exception"]) 24 hx hb hfl hown hG hGV htab hlocks (hl.1.trans hml.symm) (by decide +kernel) (by decide +kernel) gw795 gw101 rfl xat_X6_232 (hP.sub [0, 3, 1, 4, 2] rfl) (hD.sub [0, 3, 1, 4, 2] (by decide) rfl) hS dX6_checkPlaceInOrder_51 dX6_checkPlaceInOrder_54 dX6_checkPlaceInOrder_55 dX6_checkPlaceInOrder_58 dX6_checkPlaceInOrder_61 (Nat.le_of_ble_eq_true rfl) (Nat.le_of_ble_eq_true rfl) (Nat.le_of_ble_eq_true rfl) (Nat.le_of_ble_eq_true rfl) (Nat.le_of_ble_eq_true rfl) (Nat.le_of_ble_eq_true rfl)
set_option maxHeartbeats 4000000 in
set_option maxRecDepth 100000 in
theorem c332_X6_raised (l : Launch) (hfl : l.stackTraces = false) (D : va_G) (cA : Nat → ClassId) (g : gv_T) (h0 h1 h2 h3 h4 h5 h6 h7 h8 h9 h10 h11 h12 h13 h14 h15 h16 h17 h18 h19 h20 : Nat) (p0 : Int32) (k0 : ¬ p0 < 0) : CX l yX6_raised cX6_raised 2 (some .int) (RM 7 1 6 116) D cA g [.ref h0, .int p0] [(h0, .inr (9, [.ref h1, .ref h2, .ref h3, .ref h4, .ref h5])), (h5, .inr (7, [.int 2, .int 0, .int 0, .int 0, .ref h6, .ref h7, .ref h8, .ref h9, .ref h10])), (h1, .inr (5, [.int 0, .int 0, .ref h11, .ref h12, .ref h13, .ref h14, .ref h15, .ref h16, .ref h17, .ref h18, .ref h19, .ref h20])), (h8, .inl (cA 0, 512, .inl (fun _ => 0))), (h9, .inl (cA 3, 512, .inl (fun _ => 0)))] "java/lang/IndexOutOfBoundsException" (fun q => [(h0, .inr (9, [.ref h1, .ref h2, .ref h3, .ref h4, .ref h5])), (h5, .inr (7, [.int 2, .int 1, .int 0, .int 0, .ref h6, .ref h7, .ref h8, .ref h9, .ref h10])), (h1, .inr (5, [.int 0, .int 0, .ref h11, .ref h12, .ref h13, .ref h14, .ref h15, .ref h16, .ref h17, .ref h18, .ref h19, .ref h20])), (h8, .inl (cA 0, 512, .inl (upd (fun _ => 0) 0 1))), (h9, .inl (cA 3, 512, .inl (upd (fun _ => 0) 0 1)))]) := by
  refine CX.of (by decide +kernel) (Nat.le_of_ble_eq_true rfl) ?_
  intro p e s m args below meth c A ls hx hb hr hml hown hG hlocks htab hA hS hP hK hD hGV hl
  have hown : s.vm.findClass RX6 = some m.cls := hown
  have hl : lv_has ls 2 [(0, .ref h0), (1, .int p0)] := hl
  have hSF : CF p m c cX6_raised 2 s args RX6 := ⟨hx, hb, hml, hown, hG⟩
  refine lv_aload_n hx hb dX6_raised_0 rfl (lv_at hl 0 rfl) ?_
  refine lv_iload_n hx hb dX6_raised_1 rfl (lv_at hl 1 rfl) ?_
  refine cx_V (wr := []) hSF hl.1 hP hD hS hA hK hGV (c331_X6_checkPlaceInOrder l hfl D cA g h0 h1 h2 h3 h4 h5 h6 h7 h8 h9 h10 h11 h12 h13 h14 h15 h16 h17 h18 h19 h20 (p0) k0) goV_X6_241 pd_X6_checkPlaceInOrder ⟨(Nat.le_of_ble_eq_true rfl), (Nat.le_of_ble_eq_true rfl)⟩ ⟨(Nat.le_of_ble_eq_true rfl), (Nat.le_of_ble_eq_true rfl)⟩ (va_recv hK hP (ci := 9) (q0 := 0) rfl rfl) dX6_raised_2 rfl (Nat.le_of_ble_eq_true rfl) [0, 1, 2, 3, 4] [] rfl (by decide) rfl (by decide) (by decide) (fun q => [(h0, .inr (9, [.ref h1, .ref h2, .ref h3, .ref h4, .ref h5])), (h5, .inr (7, [.int 2, .int 1, .int 0, .int 0, .ref h6, .ref h7, .ref h8, .ref h9, .ref h10])), (h1, .inr (5, [.int 0, .int 0, .ref h11, .ref h12, .ref h13, .ref h14, .ref h15, .ref h16, .ref h17, .ref h18, .ref h19, .ref h20])), (h8, .inl (cA 0, 512, .inl (upd (fun _ => 0) 0 1))), (h9, .inl (cA 3, 512, .inl (upd (fun _ => 0) 0 1)))]) (fun _ => rfl) (fun q1 H locs x9 ce9 hP hD hS h9 hv9 hcl9 => ?_)
  exact e_out (fun _ => 0) htab hlocks h9 hv9 hcl9 hP hD hS (Nat.le_of_ble_eq_true rfl) (Nat.le_of_ble_eq_true rfl)
set_option maxHeartbeats 4000000 in
set_option maxRecDepth 100000 in
theorem c333_L_raised (l : Launch) (hfl : l.stackTraces = false) (D : va_G) (cA : Nat → ClassId) (g : gv_T) (h0 h1 h2 h3 h4 h5 h6 h7 h8 h9 h10 h11 h12 h13 h14 h15 h16 h17 h18 h19 h20 h21 : Nat) (p0 : Int32) (k0 : ¬ p0 < 0) : CW l yL_raised cL_raised 4 (some .int) [(0, 9, 12, 46), (0, 9, 15, 21)] (RM 8 1 6 137) D cA g [.ref h0, .int p0, .ref h1] [(h0, .inr (9, [.ref h2, .ref h3, .ref h4, .ref h5, .ref h6])), (h6, .inr (7, [.int 2, .int 0, .int 0, .int 0, .ref h7, .ref h8, .ref h9, .ref h10, .ref h11])), (h2, .inr (5, [.int 0, .int 0, .ref h12, .ref h13, .ref h14, .ref h15, .ref h16, .ref h17, .ref h18, .ref h19, .ref h20, .ref h21])), (h9, .inl (cA 0, 512, .inl (fun _ => 0))), (h10, .inl (cA 3, 512, .inl (fun _ => 0)))] (fun q => some (.int 2)) (fun q => [(h0, .inr (9, [.ref h2, .ref h3, .ref h4, .ref h5, .ref h6])), (h6, .inr (7, [.int 2, .int 1, .int 0, .int 0, .ref h7, .ref h8, .ref h9, .ref h10, .ref h11])), (h2, .inr (5, [.int 0, .int 0, .ref h12, .ref h13, .ref h14, .ref h15, .ref h16, .ref h17, .ref h18, .ref h19, .ref h20, .ref h21])), (h9, .inl (cA 0, 512, .inl (upd (fun _ => 0) 0 1))), (h10, .inl (cA 3, 512, .inl (upd (fun _ => 0) 0 1)))]) := by
  refine CW.of (by decide +kernel) (Nat.le_of_ble_eq_true rfl) ?_
  intro p e s m args below meth c A ls hx hb hr hml hown hG hlocks htab hA hS hP hK hD hGV hl
  have hown : s.vm.findClass RL = some m.cls := hown
  have hl : lv_has ls 4 [(0, .ref h0), (1, .int p0), (2, .ref h1)] := hl
  have hSF : CF p m c cL_raised 4 s args RL := ⟨hx, hb, hml, hown, hG⟩
  refine lv_aload_n hx hb dL_raised_0 rfl (lv_at hl 2 rfl) ?_
  refine lv_iconst (v := 0) hx hb dL_raised_1 (by decide) ?_
  refine lv_aload_n hx hb dL_raised_2 rfl (lv_at hl 0 rfl) ?_
  refine lv_iload_n hx hb dL_raised_3 rfl (lv_at hl 1 rfl) ?_
  refine cx_V (wr := []) hSF hl.1 hP hD hS hA hK hGV (c332_X6_raised l hfl D cA g h0 h2 h3 h4 h5 h6 h7 h8 h9 h10 h11 h12 h13 h14 h15 h16 h17 h18 h19 h20 h21 (p0) k0) goV_L_92 pd_X6_raised ⟨(Nat.le_of_ble_eq_true rfl), (Nat.le_of_ble_eq_true rfl)⟩ ⟨(Nat.le_of_ble_eq_true rfl), (Nat.le_of_ble_eq_true rfl)⟩ (va_recv hK hP (ci := 9) (q0 := 0) rfl rfl) dL_raised_4 rfl (Nat.le_of_ble_eq_true rfl) [0, 1, 2, 3, 4] [] rfl (by decide) rfl (by decide) (by decide) (fun q => [(h0, .inr (9, [.ref h2, .ref h3, .ref h4, .ref h5, .ref h6])), (h6, .inr (7, [.int 2, .int 1, .int 0, .int 0, .ref h7, .ref h8, .ref h9, .ref h10, .ref h11])), (h2, .inr (5, [.int 0, .int 0, .ref h12, .ref h13, .ref h14, .ref h15, .ref h16, .ref h17, .ref h18, .ref h19, .ref h20, .ref h21])), (h9, .inl (cA 0, 512, .inl (upd (fun _ => 0) 0 1))), (h10, .inl (cA 3, 512, .inl (upd (fun _ => 0) 0 1)))]) (fun _ => rfl) (fun q1 H locs x9 ce9 hP hD hS h9 hv9 hcl9 => ?_)
  refine vx_catch (own := RL) (name := "java/lang/IndexOutOfBoundsException") hown [{ startPc := 0, endPc := 9, handlerPc := 12, catchType := 46 }] { startPc := 0, endPc := 9, handlerPc := 15, catchType := 21 } [] (htab.trans rfl) (fun z hz => by rcases List.mem_singleton.mp hz with rfl; exact Or.inr ⟨by decide, "java/util/NoSuchElementException", hG _ gw886, hGV.2.2.2.2.2.1 ("java/lang/IndexOutOfBoundsException", "java/util/NoSuchElementException") (by decide)⟩) rfl (by decide) (hG _ gw763) (va_Nw.use rfl (hGV.2.2.2.2.1 _ gw797)) h9 hv9 hcl9 ?_
  refine W.eq (g2 := F0 m 15 ls [.ref x9]) rfl ?_
  refine lv_astore_n (lv' := [(3, .ref x9), (0, .ref h0), (1, .int p0), (2, .ref h1)]) hx hb dL_raised_15 rfl hl (by decide) rfl (fun ls hl => ?_)
  refine lv_iconst (v := 2) hx hb dL_raised_16 (by decide) ?_
  exact e_i (fun _ => 0) hx hb hr hlocks rfl rfl hP hD hS (Nat.le_of_ble_eq_true rfl) (Nat.le_of_ble_eq_true rfl) dL_raised_17
