set_option maxHeartbeats 4000000 in
set_option maxRecDepth 100000 in
theorem c391_X1_holdsAlong (l : Launch) (hfl : l.stackTraces = false) (D : va_G) (cA : Nat → ClassId) (g : gv_T) (h0 h1 h2 h3 h4 h5 h6 h7 h8 h9 h10 h11 h12 h13 h14 h15 h16 h17 h18 h19 h20 h21 h22 h23 h24 h25 : Nat) : CT l yX1_holdsAlong cX1_holdsAlong 12 (some .boolean) (RM 0 0 0 0) D cA g [.ref h0, .ref h1, .int 8, .int 1] [(h1, .inr (5, [.int 0, .int 0, .ref h2, .ref h3, .ref h4, .ref h5, .ref h6, .ref h7, .ref h8, .ref h9, .ref h10, .ref h11])), (h0, .inr (4, [.int 1, .int 46, .long 1, .ref h12, .ref h13, .ref h14, .ref h15, .ref h16, .ref h17, .ref h18, .ref h19, .ref h20, .ref h21, .ref h22, .ref h23, .ref h24, .ref h25]))] (fun q => some (.int 1)) (fun q => [(h1, .inr (5, [.int 0, .int 0, .ref h2, .ref h3, .ref h4, .ref h5, .ref h6, .ref h7, .ref h8, .ref h9, .ref h10, .ref h11])), (h0, .inr (4, [.int 1, .int 46, .long 1, .ref h12, .ref h13, .ref h14, .ref h15, .ref h16, .ref h17, .ref h18, .ref h19, .ref h20, .ref h21, .ref h22, .ref h23, .ref h24, .ref h25]))]) := by
  refine CT.of (by decide +kernel) (Nat.le_of_ble_eq_true rfl) ?_
  intro p e s m args below meth c A ls hx hb hr hml hown hG hlocks hnm hA hS hP hK hD hGV hl
  have hown : s.vm.findClass RX1 = some m.cls := hown
  have hl : lv_has ls 12 [(0, .ref h0), (1, .ref h1), (2, .int 8), (3, .int 1)] := hl
  have hSF : CF p m c cX1_holdsAlong 12 s args RX1 := ⟨hx, hb, hml, hown, hG⟩
  refine lv_lconst (v := 0) hx hb dX1_holdsAlong_0 (by decide) ?_
  refine lv_lstore (lv' := [(4, .long 0), (0, .ref h0), (1, .ref h1), (2, .int 8), (3, .int 1)]) hx hb dX1_holdsAlong_1 hl (by decide) rfl (fun ls hl => ?_)
  refine lv_lconst (v := 0) hx hb dX1_holdsAlong_3 (by decide) ?_
  refine lv_lstore (lv' := [(6, .long 0), (4, .long 0), (0, .ref h0), (1, .ref h1), (2, .int 8), (3, .int 1)]) hx hb dX1_holdsAlong_4 hl (by decide) rfl (fun ls hl => ?_)
  refine lv_iconst (v := 0) hx hb dX1_holdsAlong_6 (by decide) ?_
  refine lv_istore (lv' := [(8, .int 0), (6, .long 0), (4, .long 0), (0, .ref h0), (1, .ref h1), (2, .int 8), (3, .int 1)]) hx hb dX1_holdsAlong_7 hl (by decide) rfl (fun ls hl => ?_)
  refine lv_iload hx hb dX1_holdsAlong_9 (lv_at hl 0 rfl) ?_
  refine lv_aload_n hx hb dX1_holdsAlong_11 rfl (lv_at hl 4 rfl) ?_
  refine k_get (ci := 5) (C := RX2) (T := TX2) (N := 12) (v := .int 0) hx hb hG inX2 hown hK hP 0 rfl rfl 0 (by decide) gw128 rfl dX1_holdsAlong_12 ?_
  refine k_icmp_ge_t (tgt := 180) hx hb dX1_holdsAlong_15 (by decide) (by decide) ?_
  refine lv_aload_n hx hb dX1_holdsAlong_180 rfl (lv_at hl 3 rfl) ?_
  refine k_get (ci := 4) (C := RX1) (T := TX1) (N := 17) (v := .long 1) hx hb hG inX1 hown hK hP 1 rfl rfl 2 (by decide) gw201 rfl dX1_holdsAlong_181 ?_
  refine lv_lconst (v := 0) hx hb dX1_holdsAlong_184 (by decide) ?_
  refine k_lcmp (v := 1) hx hb dX1_holdsAlong_185 (by decide +kernel) ?_
  refine k_if_le_f (tgt := 220) hx hb dX1_holdsAlong_186 (by decide) (by decide) ?_
  refine lv_lload hx hb dX1_holdsAlong_189 (lv_at hl 1 rfl) ?_
  refine lv_aload_n hx hb dX1_holdsAlong_191 rfl (lv_at hl 3 rfl) ?_
  refine k_get (ci := 4) (C := RX1) (T := TX1) (N := 17) (v := .long 1) hx hb hG inX1 hown hK hP 1 rfl rfl 2 (by decide) gw201 rfl dX1_holdsAlong_192 ?_
  refine k_lrem (v := 0) hx hb dX1_holdsAlong_195 (by decide +kernel) (by decide +kernel) ?_
  refine lv_lconst (v := 0) hx hb dX1_holdsAlong_196 (by decide) ?_
  refine k_lcmp (v := 0) hx hb dX1_holdsAlong_197 (by decide +kernel) ?_
  refine k_if_ne_f (tgt := 220) hx hb dX1_holdsAlong_198 (by decide) (by decide) ?_
  refine lv_lload hx hb dX1_holdsAlong_201 (lv_at hl 2 rfl) ?_
  refine lv_lload hx hb dX1_holdsAlong_203 (lv_at hl 1 rfl) ?_
  refine lv_aload_n hx hb dX1_holdsAlong_205 rfl (lv_at hl 3 rfl) ?_
  refine k_get (ci := 4) (C := RX1) (T := TX1) (N := 17) (v := .long 1) hx hb hG inX1 hown hK hP 1 rfl rfl 2 (by decide) gw201 rfl dX1_holdsAlong_206 ?_
  refine k_ldiv (v := 0) hx hb dX1_holdsAlong_209 (by decide +kernel) (by decide +kernel) ?_
  refine k_ladd (v := 0) hx hb dX1_holdsAlong_210 (by decide +kernel) ?_
  refine lv_lconst (v := 0) hx hb dX1_holdsAlong_211 (by decide) ?_
  refine k_lcmp (v := 0) hx hb dX1_holdsAlong_212 (by decide +kernel) ?_
  refine k_if_ne_f (tgt := 220) hx hb dX1_holdsAlong_213 (by decide) (by decide) ?_
  refine lv_iconst (v := 1) hx hb dX1_holdsAlong_216 (by decide) ?_
  refine lv_goto (tgt := 221) hx hb dX1_holdsAlong_217 (by decide) ?_
  exact e_i (fun _ => 0) hx hb hr hlocks rfl rfl hP hD hS (Nat.le_of_ble_eq_true rfl) (Nat.le_of_ble_eq_true rfl) dX1_holdsAlong_221
set_option maxHeartbeats 4000000 in
set_option maxRecDepth 100000 in
theorem c392_X1_holdsAt (l : Launch) (hfl : l.stackTraces = false) (D : va_G) (cA : Nat → ClassId) (g : gv_T) (h0 h1 h2 h3 h4 h5 h6 h7 h8 h9 h10 h11 h12 h13 h14 h15 h16 h17 h18 h19 h20 h21 h22 h23 h24 h25 : Nat) : CT l yX1_holdsAt cX1_holdsAt 3 (some .boolean) (RM 1 0 0 31) D cA g [.ref h0, .ref h1, .int 8] [(h0, .inr (4, [.int 1, .int 46, .long 1, .ref h2, .ref h3, .ref h4, .ref h5, .ref h6, .ref h7, .ref h8, .ref h9, .ref h10, .ref h11, .ref h12, .ref h13, .ref h14, .ref h15])), (h1, .inr (5, [.int 0, .int 0, .ref h16, .ref h17, .ref h18, .ref h19, .ref h20, .ref h21, .ref h22, .ref h23, .ref h24, .ref h25]))] (fun q => some (.int 1)) (fun q => [(h0, .inr (4, [.int 1, .int 46, .long 1, .ref h2, .ref h3, .ref h4, .ref h5, .ref h6, .ref h7, .ref h8, .ref h9, .ref h10, .ref h11, .ref h12, .ref h13, .ref h14, .ref h15])), (h1, .inr (5, [.int 0, .int 0, .ref h16, .ref h17, .ref h18, .ref h19, .ref h20, .ref h21, .ref h22, .ref h23, .ref h24, .ref h25]))]) := by
  refine CT.of (by decide +kernel) (Nat.le_of_ble_eq_true rfl) ?_
  intro p e s m args below meth c A ls hx hb hr hml hown hG hlocks hnm hA hS hP hK hD hGV hl
  have hown : s.vm.findClass RX1 = some m.cls := hown
  have hl : lv_has ls 3 [(0, .ref h0), (1, .ref h1), (2, .int 8)] := hl
  have hSF : CF p m c cX1_holdsAt 3 s args RX1 := ⟨hx, hb, hml, hown, hG⟩
  refine lv_aload_n hx hb dX1_holdsAt_0 rfl (lv_at hl 0 rfl) ?_
  refine lv_aload_n hx hb dX1_holdsAt_1 rfl (lv_at hl 1 rfl) ?_
  refine lv_iload_n hx hb dX1_holdsAt_2 rfl (lv_at hl 2 rfl) ?_
  refine lv_iconst (v := 0) hx hb dX1_holdsAt_3 (by decide) ?_
  refine ct_V (wr := []) hSF hl.1 hP hD hS hA hK hGV (c390_X1_holdsAlong l hfl D cA g h0 h1 h16 h17 h18 h19 h20 h21 h22 h23 h24 h25 h2 h3 h4 h5 h6 h7 h8 h9 h10 h11 h12 h13 h14 h15) goV_X1_185 pd_X1_holdsAlong ⟨(Nat.le_of_ble_eq_true rfl), (Nat.le_of_ble_eq_true rfl)⟩ ⟨(Nat.le_of_ble_eq_true rfl), (Nat.le_of_ble_eq_true rfl)⟩ (va_recv hK hP (ci := 4) (q0 := 0) rfl rfl) dX1_holdsAt_4 rfl (Nat.le_of_ble_eq_true rfl) [1, 0] [] rfl (by decide) rfl (by decide) (by decide) (fun q => [(h1, .inr (5, [.int 0, .int 0, .ref h16, .ref h17, .ref h18, .ref h19, .ref h20, .ref h21, .ref h22, .ref h23, .ref h24, .ref h25])), (h0, .inr (4, [.int 1, .int 46, .long 1, .ref h2, .ref h3, .ref h4, .ref h5, .ref h6, .ref h7, .ref h8, .ref h9, .ref h10, .ref h11, .ref h12, .ref h13, .ref h14, .ref h15]))]) (fun _ => rfl) (fun q1 H locs hP hD hS => ?_)
  refine W.eq (g2 := F0 m 7 ls [.int 1]) rfl ?_
  refine k_if_eq_f (tgt := 24) hx hb dX1_holdsAt_7 (by decide) (by decide) ?_
  refine lv_aload_n hx hb dX1_holdsAt_10 rfl (lv_at hl 0 rfl) ?_
  refine lv_aload_n hx hb dX1_holdsAt_11 rfl (lv_at hl 1 rfl) ?_
  refine lv_iload_n hx hb dX1_holdsAt_12 rfl (lv_at hl 2 rfl) ?_
  refine lv_iconst (v := 1) hx hb dX1_holdsAt_13 (by decide) ?_
  refine ct_V (wr := []) hSF hl.1 hP hD hS hA hK hGV (c391_X1_holdsAlong l hfl D cA g h0 h1 h16 h17 h18 h19 h20 h21 h22 h23 h24 h25 h2 h3 h4 h5 h6 h7 h8 h9 h10 h11 h12 h13 h14 h15) goV_X1_185 pd_X1_holdsAlong ⟨(Nat.le_of_ble_eq_true rfl), (Nat.le_of_ble_eq_true rfl)⟩ ⟨(Nat.le_of_ble_eq_true rfl), (Nat.le_of_ble_eq_true rfl)⟩ (va_recv hK hP (ci := 4) (q0 := 1) rfl rfl) dX1_holdsAt_14 rfl (Nat.le_of_ble_eq_true rfl) [0, 1] [] rfl (by decide) rfl (by decide) (by decide) (fun q => [(h1, .inr (5, [.int 0, .int 0, .ref h16, .ref h17, .ref h18, .ref h19, .ref h20, .ref h21, .ref h22, .ref h23, .ref h24, .ref h25])), (h0, .inr (4, [.int 1, .int 46, .long 1, .ref h2, .ref h3, .ref h4, .ref h5, .ref h6, .ref h7, .ref h8, .ref h9, .ref h10, .ref h11, .ref h12, .ref h13, .ref h14, .ref h15]))]) (fun _ => rfl) (fun q2 H locs hP hD hS => ?_)
  refine W.eq (g2 := F0 m 17 ls [.int 1]) rfl ?_
  refine k_if_eq_f (tgt := 24) hx hb dX1_holdsAt_17 (by decide) (by decide) ?_
  refine lv_iconst (v := 1) hx hb dX1_holdsAt_20 (by decide) ?_
  refine lv_goto (tgt := 25) hx hb dX1_holdsAt_21 (by decide) ?_
  exact e_i (fun _ => 0) hx hb hr hlocks rfl rfl (hP.sub [1, 0] rfl) (hD.sub [1, 0] (by decide) rfl) hS (Nat.le_of_ble_eq_true rfl) (Nat.le_of_ble_eq_true rfl) dX1_holdsAt_25
set_option maxHeartbeats 4000000 in
set_option maxRecDepth 100000 in
theorem c393_X1_holdsAlong (l : Launch) (hfl : l.stackTraces = false) (D : va_G) (cA : Nat → ClassId) (g : gv_T) (h0 h1 h2 h3 h4 h5 h6 h7 h8 h9 h10 h11 h12 h13 h14 h15 h16 h17 h18 h19 h20 h21 h22 h23 h24 h25 : Nat) : CT l yX1_holdsAlong cX1_holdsAlong 12 (some .boolean) (RM 0 0 0 0) D cA g [.ref h0, .ref h1, .int 9, .int 0] [(h1, .inr (5, [.int 0, .int 0, .ref h2, .ref h3, .ref h4, .ref h5, .ref h6, .ref h7, .ref h8, .ref h9, .ref h10, .ref h11])), (h0, .inr (4, [.int 1, .int 46, .long 1, .ref h12, .ref h13, .ref h14, .ref h15, .ref h16, .ref h17, .ref h18, .ref h19, .ref h20, .ref h21, .ref h22, .ref h23, .ref h24, .ref h25]))] (fun q => some (.int 1)) (fun q => [(h1, .inr (5, [.int 0, .int 0, .ref h2, .ref h3, .ref h4, .ref h5, .ref h6, .ref h7, .ref h8, .ref h9, .ref h10, .ref h11])), (h0, .inr (4, [.int 1, .int 46, .long 1, .ref h12, .ref h13, .ref h14, .ref h15, .ref h16, .ref h17, .ref h18, .ref h19, .ref h20, .ref h21, .ref h22, .ref h23, .ref h24, .ref h25]))]) := by
  refine CT.of (by decide +kernel) (Nat.le_of_ble_eq_true rfl) ?_
  intro p e s m args below meth c A ls hx hb hr hml hown hG hlocks hnm hA hS hP hK hD hGV hl
  have hown : s.vm.findClass RX1 = some m.cls := hown
  have hl : lv_has ls 12 [(0, .ref h0), (1, .ref h1), (2, .int 9), (3, .int 0)] := hl
  have hSF : CF p m c cX1_holdsAlong 12 s args RX1 := ⟨hx, hb, hml, hown, hG⟩
  refine lv_lconst (v := 0) hx hb dX1_holdsAlong_0 (by decide) ?_
  refine lv_lstore (lv' := [(4, .long 0), (0, .ref h0), (1, .ref h1), (2, .int 9), (3, .int 0)]) hx hb dX1_holdsAlong_1 hl (by decide) rfl (fun ls hl => ?_)
  refine lv_lconst (v := 0) hx hb dX1_holdsAlong_3 (by decide) ?_
  refine lv_lstore (lv' := [(6, .long 0), (4, .long 0), (0, .ref h0), (1, .ref h1), (2, .int 9), (3, .int 0)]) hx hb dX1_holdsAlong_4 hl (by decide) rfl (fun ls hl => ?_)
  refine lv_iconst (v := 0) hx hb dX1_holdsAlong_6 (by decide) ?_
  refine lv_istore (lv' := [(8, .int 0), (6, .long 0), (4, .long 0), (0, .ref h0), (1, .ref h1), (2, .int 9), (3, .int 0)]) hx hb dX1_holdsAlong_7 hl (by decide) rfl (fun ls hl => ?_)
  refine lv_iload hx hb dX1_holdsAlong_9 (lv_at hl 0 rfl) ?_
  refine lv_aload_n hx hb dX1_holdsAlong_11 rfl (lv_at hl 4 rfl) ?_
  refine k_get (ci := 5) (C := RX2) (T := TX2) (N := 12) (v := .int 0) hx hb hG inX2 hown hK hP 0 rfl rfl 0 (by decide) gw128 rfl dX1_holdsAlong_12 ?_
  refine k_icmp_ge_t (tgt := 180) hx hb dX1_holdsAlong_15 (by decide) (by decide) ?_
  refine lv_aload_n hx hb dX1_holdsAlong_180 rfl (lv_at hl 3 rfl) ?_
  refine k_get (ci := 4) (C := RX1) (T := TX1) (N := 17) (v := .long 1) hx hb hG inX1 hown hK hP 1 rfl rfl 2 (by decide) gw201 rfl dX1_holdsAlong_181 ?_
  refine lv_lconst (v := 0) hx hb dX1_holdsAlong_184 (by decide) ?_
  refine k_lcmp (v := 1) hx hb dX1_holdsAlong_185 (by decide +kernel) ?_
  refine k_if_le_f (tgt := 220) hx hb dX1_holdsAlong_186 (by decide) (by decide) ?_
  refine lv_lload hx hb dX1_holdsAlong_189 (lv_at hl 1 rfl) ?_
  refine lv_aload_n hx hb dX1_holdsAlong_191 rfl (lv_at hl 3 rfl) ?_
  refine k_get (ci := 4) (C := RX1) (T := TX1) (N := 17) (v := .long 1) hx hb hG inX1 hown hK hP 1 rfl rfl 2 (by decide) gw201 rfl dX1_holdsAlong_192 ?_
  refine k_lrem (v := 0) hx hb dX1_holdsAlong_195 (by decide +kernel) (by decide +kernel) ?_
  refine lv_lconst (v := 0) hx hb dX1_holdsAlong_196 (by decide) ?_
  refine k_lcmp (v := 0) hx hb dX1_holdsAlong_197 (by decide +kernel) ?_
  refine k_if_ne_f (tgt := 220) hx hb dX1_holdsAlong_198 (by decide) (by decide) ?_
  refine lv_lload hx hb dX1_holdsAlong_201 (lv_at hl 2 rfl) ?_
  refine lv_lload hx hb dX1_holdsAlong_203 (lv_at hl 1 rfl) ?_
  refine lv_aload_n hx hb dX1_holdsAlong_205 rfl (lv_at hl 3 rfl) ?_
  refine k_get (ci := 4) (C := RX1) (T := TX1) (N := 17) (v := .long 1) hx hb hG inX1 hown hK hP 1 rfl rfl 2 (by decide) gw201 rfl dX1_holdsAlong_206 ?_
  refine k_ldiv (v := 0) hx hb dX1_holdsAlong_209 (by decide +kernel) (by decide +kernel) ?_
  refine k_ladd (v := 0) hx hb dX1_holdsAlong_210 (by decide +kernel) ?_
  refine lv_lconst (v := 0) hx hb dX1_holdsAlong_211 (by decide) ?_
  refine k_lcmp (v := 0) hx hb dX1_holdsAlong_212 (by decide +kernel) ?_
  refine k_if_ne_f (tgt := 220) hx hb dX1_holdsAlong_213 (by decide) (by decide) ?_
  refine lv_iconst (v := 1) hx hb dX1_holdsAlong_216 (by decide) ?_
  refine lv_goto (tgt := 221) hx hb dX1_holdsAlong_217 (by decide) ?_
  exact e_i (fun _ => 0) hx hb hr hlocks rfl rfl hP hD hS (Nat.le_of_ble_eq_true rfl) (Nat.le_of_ble_eq_true rfl) dX1_holdsAlong_221
set_option maxHeartbeats 4000000 in
set_option maxRecDepth 100000 in
theorem c394_X1_holdsAlong (l : Launch) (hfl : l.stackTraces = false) (D : va_G) (cA : Nat → ClassId) (g : gv_T) (h0 h1 h2 h3 h4 h5 h6 h7 h8 h9 h10 h11 h12 h13 h14 h15 h16 h17 h18 h19 h20 h21 h22 h23 h24 h25 : Nat) : CT l yX1_holdsAlong cX1_holdsAlong 12 (some .boolean) (RM 0 0 0 0) D cA g [.ref h0, .ref h1, .int 9, .int 1] [(h1, .inr (5, [.int 0, .int 0, .ref h2, .ref h3, .ref h4, .ref h5, .ref h6, .ref h7, .ref h8, .ref h9, .ref h10, .ref h11])), (h0, .inr (4, [.int 1, .int 46, .long 1, .ref h12, .ref h13, .ref h14, .ref h15, .ref h16, .ref h17, .ref h18, .ref h19, .ref h20, .ref h21, .ref h22, .ref h23, .ref h24, .ref h25]))] (fun q => some (.int 1)) (fun q => [(h1, .inr (5, [.int 0, .int 0, .ref h2, .ref h3, .ref h4, .ref h5, .ref h6, .ref h7, .ref h8, .ref h9, .ref h10, .ref h11])), (h0, .inr (4, [.int 1, .int 46, .long 1, .ref h12, .ref h13, .ref h14, .ref h15, .ref h16, .ref h17, .ref h18, .ref h19, .ref h20, .ref h21, .ref h22, .ref h23, .ref h24, .ref h25]))]) := by
  refine CT.of (by decide +kernel) (Nat.le_of_ble_eq_true rfl) ?_
  intro p e s m args below meth c A ls hx hb hr hml hown hG hlocks hnm hA hS hP hK hD hGV hl
  have hown : s.vm.findClass RX1 = some m.cls := hown
  have hl : lv_has ls 12 [(0, .ref h0), (1, .ref h1), (2, .int 9), (3, .int 1)] := hl
  have hSF : CF p m c cX1_holdsAlong 12 s args RX1 := ⟨hx, hb, hml, hown, hG⟩
  refine lv_lconst (v := 0) hx hb dX1_holdsAlong_0 (by decide) ?_
  refine lv_lstore (lv' := [(4, .long 0), (0, .ref h0), (1, .ref h1), (2, .int 9), (3, .int 1)]) hx hb dX1_holdsAlong_1 hl (by decide) rfl (fun ls hl => ?_)
  refine lv_lconst (v := 0) hx hb dX1_holdsAlong_3 (by decide) ?_
  refine lv_lstore (lv' := [(6, .long 0), (4, .long 0), (0, .ref h0), (1, .ref h1), (2, .int 9), (3, .int 1)]) hx hb dX1_holdsAlong_4 hl (by decide) rfl (fun ls hl => ?_)
  refine lv_iconst (v := 0) hx hb dX1_holdsAlong_6 (by decide) ?_
  refine lv_istore (lv' := [(8, .int 0), (6, .long 0), (4, .long 0), (0, .ref h0), (1, .ref h1), (2, .int 9), (3, .int 1)]) hx hb dX1_holdsAlong_7 hl (by decide) rfl (fun ls hl => ?_)
  refine lv_iload hx hb dX1_holdsAlong_9 (lv_at hl 0 rfl) ?_
  refine lv_aload_n hx hb dX1_holdsAlong_11 rfl (lv_at hl 4 rfl) ?_
  refine k_get (ci := 5) (C := RX2) (T := TX2) (N := 12) (v := .int 0) hx hb hG inX2 hown hK hP 0 rfl rfl 0 (by decide) gw128 rfl dX1_holdsAlong_12 ?_
  refine k_icmp_ge_t (tgt := 180) hx hb dX1_holdsAlong_15 (by decide) (by decide) ?_
  refine lv_aload_n hx hb dX1_holdsAlong_180 rfl (lv_at hl 3 rfl) ?_
  refine k_get (ci := 4) (C := RX1) (T := TX1) (N := 17) (v := .long 1) hx hb hG inX1 hown hK hP 1 rfl rfl 2 (by decide) gw201 rfl dX1_holdsAlong_181 ?_
  refine lv_lconst (v := 0) hx hb dX1_holdsAlong_184 (by decide) ?_
  refine k_lcmp (v := 1) hx hb dX1_holdsAlong_185 (by decide +kernel) ?_
  refine k_if_le_f (tgt := 220) hx hb dX1_holdsAlong_186 (by decide) (by decide) ?_
  refine lv_lload hx hb dX1_holdsAlong_189 (lv_at hl 1 rfl) ?_
  refine lv_aload_n hx hb dX1_holdsAlong_191 rfl (lv_at hl 3 rfl) ?_
  refine k_get (ci := 4) (C := RX1) (T := TX1) (N := 17) (v := .long 1) hx hb hG inX1 hown hK hP 1 rfl rfl 2 (by decide) gw201 rfl dX1_holdsAlong_192 ?_
  refine k_lrem (v := 0) hx hb dX1_holdsAlong_195 (by decide +kernel) (by decide +kernel) ?_
  refine lv_lconst (v := 0) hx hb dX1_holdsAlong_196 (by decide) ?_
  refine k_lcmp (v := 0) hx hb dX1_holdsAlong_197 (by decide +kernel) ?_
  refine k_if_ne_f (tgt := 220) hx hb dX1_holdsAlong_198 (by decide) (by decide) ?_
  refine lv_lload hx hb dX1_holdsAlong_201 (lv_at hl 2 rfl) ?_
  refine lv_lload hx hb dX1_holdsAlong_203 (lv_at hl 1 rfl) ?_
  refine lv_aload_n hx hb dX1_holdsAlong_205 rfl (lv_at hl 3 rfl) ?_
  refine k_get (ci := 4) (C := RX1) (T := TX1) (N := 17) (v := .long 1) hx hb hG inX1 hown hK hP 1 rfl rfl 2 (by decide) gw201 rfl dX1_holdsAlong_206 ?_
  refine k_ldiv (v := 0) hx hb dX1_holdsAlong_209 (by decide +kernel) (by decide +kernel) ?_
  refine k_ladd (v := 0) hx hb dX1_holdsAlong_210 (by decide +kernel) ?_
  refine lv_lconst (v := 0) hx hb dX1_holdsAlong_211 (by decide) ?_
  refine k_lcmp (v := 0) hx hb dX1_holdsAlong_212 (by decide +kernel) ?_
  refine k_if_ne_f (tgt := 220) hx hb dX1_holdsAlong_213 (by decide) (by decide) ?_
  refine lv_iconst (v := 1) hx hb dX1_holdsAlong_216 (by decide) ?_
  refine lv_goto (tgt := 221) hx hb dX1_holdsAlong_217 (by decide) ?_
  exact e_i (fun _ => 0) hx hb hr hlocks rfl rfl hP hD hS (Nat.le_of_ble_eq_true rfl) (Nat.le_of_ble_eq_true rfl) dX1_holdsAlong_221
set_option maxHeartbeats 4000000 in
set_option maxRecDepth 100000 in
theorem c395_X1_holdsAt (l : Launch) (hfl : l.stackTraces = false) (D : va_G) (cA : Nat → ClassId) (g : gv_T) (h0 h1 h2 h3 h4 h5 h6 h7 h8 h9 h10 h11 h12 h13 h14 h15 h16 h17 h18 h19 h20 h21 h22 h23 h24 h25 : Nat) : CT l yX1_holdsAt cX1_holdsAt 3 (some .boolean) (RM 1 0 0 31) D cA g [.ref h0, .ref h1, .int 9] [(h0, .inr (4, [.int 1, .int 46, .long 1, .ref h2, .ref h3, .ref h4, .ref h5, .ref h6, .ref h7, .ref h8, .ref h9, .ref h10, .ref h11, .ref h12, .ref h13, .ref h14, .ref h15])), (h1, .inr (5, [.int 0, .int 0, .ref h16, .ref h17, .ref h18, .ref h19, .ref h20, .ref h21, .ref h22, .ref h23, .ref h24, .ref h25]))] (fun q => some (.int 1)) (fun q => [(h0, .inr (4, [.int 1, .int 46, .long 1, .ref h2, .ref h3, .ref h4, .ref h5, .ref h6, .ref h7, .ref h8, .ref h9, .ref h10, .ref h11, .ref h12, .ref h13, .ref h14, .ref h15])), (h1, .inr (5, [.int 0, .int 0, .ref h16, .ref h17, .ref h18, .ref h19, .ref h20, .ref h21, .ref h22, .ref h23, .ref h24, .ref h25]))]) := by
  refine CT.of (by decide +kernel) (Nat.le_of_ble_eq_true rfl) ?_
  intro p e s m args below meth c A ls hx hb hr hml hown hG hlocks hnm hA hS hP hK hD hGV hl
  have hown : s.vm.findClass RX1 = some m.cls := hown
  have hl : lv_has ls 3 [(0, .ref h0), (1, .ref h1), (2, .int 9)] := hl
  have hSF : CF p m c cX1_holdsAt 3 s args RX1 := ⟨hx, hb, hml, hown, hG⟩
  refine lv_aload_n hx hb dX1_holdsAt_0 rfl (lv_at hl 0 rfl) ?_
  refine lv_aload_n hx hb dX1_holdsAt_1 rfl (lv_at hl 1 rfl) ?_
  refine lv_iload_n hx hb dX1_holdsAt_2 rfl (lv_at hl 2 rfl) ?_
  refine lv_iconst (v := 0) hx hb dX1_holdsAt_3 (by decide) ?_
  refine ct_V (wr := []) hSF hl.1 hP hD hS hA hK hGV (c393_X1_holdsAlong l hfl D cA g h0 h1 h16 h17 h18 h19 h20 h21 h22 h23 h24 h25 h2 h3 h4 h5 h6 h7 h8 h9 h10 h11 h12 h13 h14 h15) goV_X1_185 pd_X1_holdsAlong ⟨(Nat.le_of_ble_eq_true rfl), (Nat.le_of_ble_eq_true rfl)⟩ ⟨(Nat.le_of_ble_eq_true rfl), (Nat.le_of_ble_eq_true rfl)⟩ (va_recv hK hP (ci := 4) (q0 := 0) rfl rfl) dX1_holdsAt_4 rfl (Nat.le_of_ble_eq_true rfl) [1, 0] [] rfl (by decide) rfl (by decide) (by decide) (fun q => [(h1, .inr (5, [.int 0, .int 0, .ref h16, .ref h17, .ref h18, .ref h19, .ref h20, .ref h21, .ref h22, .ref h23, .ref h24, .ref h25])), (h0, .inr (4, [.int 1, .int 46, .long 1, .ref h2, .ref h3, .ref h4, .ref h5, .ref h6, .ref h7, .ref h8, .ref h9, .ref h10, .ref h11, .ref h12, .ref h13, .ref h14, .ref h15]))]) (fun _ => rfl) (fun q1 H locs hP hD hS => ?_)
  refine W.eq (g2 := F0 m 7 ls [.int 1]) rfl ?_
  refine k_if_eq_f (tgt := 24) hx hb dX1_holdsAt_7 (by decide) (by decide) ?_
  refine lv_aload_n hx hb dX1_holdsAt_10 rfl (lv_at hl 0 rfl) ?_
  refine lv_aload_n hx hb dX1_holdsAt_11 rfl (lv_at hl 1 rfl) ?_
  refine lv_iload_n hx hb dX1_holdsAt_12 rfl (lv_at hl 2 rfl) ?_
  refine lv_iconst (v := 1) hx hb dX1_holdsAt_13 (by decide) ?_
  refine ct_V (wr := []) hSF hl.1 hP hD hS hA hK hGV (c394_X1_holdsAlong l hfl D cA g h0 h1 h16 h17 h18 h19 h20 h21 h22 h23 h24 h25 h2 h3 h4 h5 h6 h7 h8 h9 h10 h11 h12 h13 h14 h15) goV_X1_185 pd_X1_holdsAlong ⟨(Nat.le_of_ble_eq_true rfl), (Nat.le_of_ble_eq_true rfl)⟩ ⟨(Nat.le_of_ble_eq_true rfl), (Nat.le_of_ble_eq_true rfl)⟩ (va_recv hK hP (ci := 4) (q0 := 1) rfl rfl) dX1_holdsAt_14 rfl (Nat.le_of_ble_eq_true rfl) [0, 1] [] rfl (by decide) rfl (by decide) (by decide) (fun q => [(h1, .inr (5, [.int 0, .int 0, .ref h16, .ref h17, .ref h18, .ref h19, .ref h20, .ref h21, .ref h22, .ref h23, .ref h24, .ref h25])), (h0, .inr (4, [.int 1, .int 46, .long 1, .ref h2, .ref h3, .ref h4, .ref h5, .ref h6, .ref h7, .ref h8, .ref h9, .ref h10, .ref h11, .ref h12, .ref h13, .ref h14, .ref h15]))]) (fun _ => rfl) (fun q2 H locs hP hD hS => ?_)
  refine W.eq (g2 := F0 m 17 ls [.int 1]) rfl ?_
  refine k_if_eq_f (tgt := 24) hx hb dX1_holdsAt_17 (by decide) (by decide) ?_
  refine lv_iconst (v := 1) hx hb dX1_holdsAt_20 (by decide) ?_
  refine lv_goto (tgt := 25) hx hb dX1_holdsAt_21 (by decide) ?_
  exact e_i (fun _ => 0) hx hb hr hlocks rfl rfl (hP.sub [1, 0] rfl) (hD.sub [1, 0] (by decide) rfl) hS (Nat.le_of_ble_eq_true rfl) (Nat.le_of_ble_eq_true rfl) dX1_holdsAt_25
set_option maxHeartbeats 4000000 in
set_option maxRecDepth 100000 in
theorem c396_X1_holdsAlong (l : Launch) (hfl : l.stackTraces = false) (D : va_G) (cA : Nat → ClassId) (g : gv_T) (h0 h1 h2 h3 h4 h5 h6 h7 h8 h9 h10 h11 h12 h13 h14 h15 h16 h17 h18 h19 h20 h21 h22 h23 h24 h25 : Nat) : CT l yX1_holdsAlong cX1_holdsAlong 12 (some .boolean) (RM 0 0 0 0) D cA g [.ref h0, .ref h1, .int 10, .int 0] [(h1, .inr (5, [.int 0, .int 0, .ref h2, .ref h3, .ref h4, .ref h5, .ref h6, .ref h7, .ref h8, .ref h9, .ref h10, .ref h11])), (h0, .inr (4, [.int 1, .int 46, .long 1, .ref h12, .ref h13, .ref h14, .ref h15, .ref h16, .ref h17, .ref h18, .ref h19, .ref h20, .ref h21, .ref h22, .ref h23, .ref h24, .ref h25]))] (fun q => some (.int 1)) (fun q => [(h1, .inr (5, [.int 0, .int 0, .ref h2, .ref h3, .ref h4, .ref h5, .ref h6, .ref h7, .ref h8, .ref h9, .ref h10, .ref h11])), (h0, .inr (4, [.int 1, .int 46, .long 1, .ref h12, .ref h13, .ref h14, .ref h15, .ref h16, .ref h17, .ref h18, .ref h19, .ref h20, .ref h21, .ref h22, .ref h23, .ref h24, .ref h25]))]) := by
  refine CT.of (by decide +kernel) (Nat.le_of_ble_eq_true rfl) ?_
  intro p e s m args below meth c A ls hx hb hr hml hown hG hlocks hnm hA hS hP hK hD hGV hl
  have hown : s.vm.findClass RX1 = some m.cls := hown
  have hl : lv_has ls 12 [(0, .ref h0), (1, .ref h1), (2, .int 10), (3, .int 0)] := hl
  have hSF : CF p m c cX1_holdsAlong 12 s args RX1 := ⟨hx, hb, hml, hown, hG⟩
  refine lv_lconst (v := 0) hx hb dX1_holdsAlong_0 (by decide) ?_
  refine lv_lstore (lv' := [(4, .long 0), (0, .ref h0), (1, .ref h1), (2, .int 10), (3, .int 0)]) hx hb dX1_holdsAlong_1 hl (by decide) rfl (fun ls hl => ?_)
  refine lv_lconst (v := 0) hx hb dX1_holdsAlong_3 (by decide) ?_
  refine lv_lstore (lv' := [(6, .long 0), (4, .long 0), (0, .ref h0), (1, .ref h1), (2, .int 10), (3, .int 0)]) hx hb dX1_holdsAlong_4 hl (by decide) rfl (fun ls hl => ?_)
  refine lv_iconst (v := 0) hx hb dX1_holdsAlong_6 (by decide) ?_
  refine lv_istore (lv' := [(8, .int 0), (6, .long 0), (4, .long 0), (0, .ref h0), (1, .ref h1), (2, .int 10), (3, .int 0)]) hx hb dX1_holdsAlong_7 hl (by decide) rfl (fun ls hl => ?_)
  refine lv_iload hx hb dX1_holdsAlong_9 (lv_at hl 0 rfl) ?_
  refine lv_aload_n hx hb dX1_holdsAlong_11 rfl (lv_at hl 4 rfl) ?_
  refine k_get (ci := 5) (C := RX2) (T := TX2) (N := 12) (v := .int 0) hx hb hG inX2 hown hK hP 0 rfl rfl 0 (by decide) gw128 rfl dX1_holdsAlong_12 ?_
  refine k_icmp_ge_t (tgt := 180) hx hb dX1_holdsAlong_15 (by decide) (by decide) ?_
  refine lv_aload_n hx hb dX1_holdsAlong_180 rfl (lv_at hl 3 rfl) ?_
  refine k_get (ci := 4) (C := RX1) (T := TX1) (N := 17) (v := .long 1) hx hb hG inX1 hown hK hP 1 rfl rfl 2 (by decide) gw201 rfl dX1_holdsAlong_181 ?_
  refine lv_lconst (v := 0) hx hb dX1_holdsAlong_184 (by decide) ?_
  refine k_lcmp (v := 1) hx hb dX1_holdsAlong_185 (by decide +kernel) ?_
  refine k_if_le_f (tgt := 220) hx hb dX1_holdsAlong_186 (by decide) (by decide) ?_
  refine lv_lload hx hb dX1_holdsAlong_189 (lv_at hl 1 rfl) ?_
  refine lv_aload_n hx hb dX1_holdsAlong_191 rfl (lv_at hl 3 rfl) ?_
  refine k_get (ci := 4) (C := RX1) (T := TX1) (N := 17) (v := .long 1) hx hb hG inX1 hown hK hP 1 rfl rfl 2 (by decide) gw201 rfl dX1_holdsAlong_192 ?_
  refine k_lrem (v := 0) hx hb dX1_holdsAlong_195 (by decide +kernel) (by decide +kernel) ?_
  refine lv_lconst (v := 0) hx hb dX1_holdsAlong_196 (by decide) ?_
  refine k_lcmp (v := 0) hx hb dX1_holdsAlong_197 (by decide +kernel) ?_
  refine k_if_ne_f (tgt := 220) hx hb dX1_holdsAlong_198 (by decide) (by decide) ?_
  refine lv_lload hx hb dX1_holdsAlong_201 (lv_at hl 2 rfl) ?_
  refine lv_lload hx hb dX1_holdsAlong_203 (lv_at hl 1 rfl) ?_
  refine lv_aload_n hx hb dX1_holdsAlong_205 rfl (lv_at hl 3 rfl) ?_
  refine k_get (ci := 4) (C := RX1) (T := TX1) (N := 17) (v := .long 1) hx hb hG inX1 hown hK hP 1 rfl rfl 2 (by decide) gw201 rfl dX1_holdsAlong_206 ?_
  refine k_ldiv (v := 0) hx hb dX1_holdsAlong_209 (by decide +kernel) (by decide +kernel) ?_
  refine k_ladd (v := 0) hx hb dX1_holdsAlong_210 (by decide +kernel) ?_
  refine lv_lconst (v := 0) hx hb dX1_holdsAlong_211 (by decide) ?_
  refine k_lcmp (v := 0) hx hb dX1_holdsAlong_212 (by decide +kernel) ?_
  refine k_if_ne_f (tgt := 220) hx hb dX1_holdsAlong_213 (by decide) (by decide) ?_
  refine lv_iconst (v := 1) hx hb dX1_holdsAlong_216 (by decide) ?_
  refine lv_goto (tgt := 221) hx hb dX1_holdsAlong_217 (by decide) ?_
  exact e_i (fun _ => 0) hx hb hr hlocks rfl rfl hP hD hS (Nat.le_of_ble_eq_true rfl) (Nat.le_of_ble_eq_true rfl) dX1_holdsAlong_221
set_option maxHeartbeats 4000000 in
set_option maxRecDepth 100000 in
theorem c397_X1_holdsAlong (l : Launch) (hfl : l.stackTraces = false) (D : va_G) (cA : Nat → ClassId) (g : gv_T) (h0 h1 h2 h3 h4 h5 h6 h7 h8 h9 h10 h11 h12 h13 h14 h15 h16 h17 h18 h19 h20 h21 h22 h23 h24 h25 : Nat) : CT l yX1_holdsAlong cX1_holdsAlong 12 (some .boolean) (RM 0 0 0 0) D cA g [.ref h0, .ref h1, .int 10, .int 1] [(h1, .inr (5, [.int 0, .int 0, .ref h2, .ref h3, .ref h4, .ref h5, .ref h6, .ref h7, .ref h8, .ref h9, .ref h10, .ref h11])), (h0, .inr (4, [.int 1, .int 46, .long 1, .ref h12, .ref h13, .ref h14, .ref h15, .ref h16, .ref h17, .ref h18, .ref h19, .ref h20, .ref h21, .ref h22, .ref h23, .ref h24, .ref h25]))] (fun q => some (.int 1)) (fun q => [(h1, .inr (5, [.int 0, .int 0, .ref h2, .ref h3, .ref h4, .ref h5, .ref h6, .ref h7, .ref h8, .ref h9, .ref h10, .ref h11])), (h0, .inr (4, [.int 1, .int 46, .long 1, .ref h12, .ref h13, .ref h14, .ref h15, .ref h16, .ref h17, .ref h18, .ref h19, .ref h20, .ref h21, .ref h22, .ref h23, .ref h24, .ref h25]))]) := by
  refine CT.of (by decide +kernel) (Nat.le_of_ble_eq_true rfl) ?_
  intro p e s m args below meth c A ls hx hb hr hml hown hG hlocks hnm hA hS hP hK hD hGV hl
  have hown : s.vm.findClass RX1 = some m.cls := hown
  have hl : lv_has ls 12 [(0, .ref h0), (1, .ref h1), (2, .int 10), (3, .int 1)] := hl
  have hSF : CF p m c cX1_holdsAlong 12 s args RX1 := ⟨hx, hb, hml, hown, hG⟩
  refine lv_lconst (v := 0) hx hb dX1_holdsAlong_0 (by decide) ?_
  refine lv_lstore (lv' := [(4, .long 0), (0, .ref h0), (1, .ref h1), (2, .int 10), (3, .int 1)]) hx hb dX1_holdsAlong_1 hl (by decide) rfl (fun ls hl => ?_)
  refine lv_lconst (v := 0) hx hb dX1_holdsAlong_3 (by decide) ?_
  refine lv_lstore (lv' := [(6, .long 0), (4, .long 0), (0, .ref h0), (1, .ref h1), (2, .int 10), (3, .int 1)]) hx hb dX1_holdsAlong_4 hl (by decide) rfl (fun ls hl => ?_)
  refine lv_iconst (v := 0) hx hb dX1_holdsAlong_6 (by decide) ?_
  refine lv_istore (lv' := [(8, .int 0), (6, .long 0), (4, .long 0), (0, .ref h0), (1, .ref h1), (2, .int 10), (3, .int 1)]) hx hb dX1_holdsAlong_7 hl (by decide) rfl (fun ls hl => ?_)
  refine lv_iload hx hb dX1_holdsAlong_9 (lv_at hl 0 rfl) ?_
  refine lv_aload_n hx hb dX1_holdsAlong_11 rfl (lv_at hl 4 rfl) ?_
  refine k_get (ci := 5) (C := RX2) (T := TX2) (N := 12) (v := .int 0) hx hb hG inX2 hown hK hP 0 rfl rfl 0 (by decide) gw128 rfl dX1_holdsAlong_12 ?_
  refine k_icmp_ge_t (tgt := 180) hx hb dX1_holdsAlong_15 (by decide) (by decide) ?_
  refine lv_aload_n hx hb dX1_holdsAlong_180 rfl (lv_at hl 3 rfl) ?_
  refine k_get (ci := 4) (C := RX1) (T := TX1) (N := 17) (v := .long 1) hx hb hG inX1 hown hK hP 1 rfl rfl 2 (by decide) gw201 rfl dX1_holdsAlong_181 ?_
  refine lv_lconst (v := 0) hx hb dX1_holdsAlong_184 (by decide) ?_
  refine k_lcmp (v := 1) hx hb dX1_holdsAlong_185 (by decide +kernel) ?_
  refine k_if_le_f (tgt := 220) hx hb dX1_holdsAlong_186 (by decide) (by decide) ?_
  refine lv_lload hx hb dX1_holdsAlong_189 (lv_at hl 1 rfl) ?_
  refine lv_aload_n hx hb dX1_holdsAlong_191 rfl (lv_at hl 3 rfl) ?_
  refine k_get (ci := 4) (C := RX1) (T := TX1) (N := 17) (v := .long 1) hx hb hG inX1 hown hK hP 1 rfl rfl 2 (by decide) gw201 rfl dX1_holdsAlong_192 ?_
  refine k_lrem (v := 0) hx hb dX1_holdsAlong_195 (by decide +kernel) (by decide +kernel) ?_
  refine lv_lconst (v := 0) hx hb dX1_holdsAlong_196 (by decide) ?_
  refine k_lcmp (v := 0) hx hb dX1_holdsAlong_197 (by decide +kernel) ?_
  refine k_if_ne_f (tgt := 220) hx hb dX1_holdsAlong_198 (by decide) (by decide) ?_
  refine lv_lload hx hb dX1_holdsAlong_201 (lv_at hl 2 rfl) ?_
  refine lv_lload hx hb dX1_holdsAlong_203 (lv_at hl 1 rfl) ?_
  refine lv_aload_n hx hb dX1_holdsAlong_205 rfl (lv_at hl 3 rfl) ?_
  refine k_get (ci := 4) (C := RX1) (T := TX1) (N := 17) (v := .long 1) hx hb hG inX1 hown hK hP 1 rfl rfl 2 (by decide) gw201 rfl dX1_holdsAlong_206 ?_
  refine k_ldiv (v := 0) hx hb dX1_holdsAlong_209 (by decide +kernel) (by decide +kernel) ?_
  refine k_ladd (v := 0) hx hb dX1_holdsAlong_210 (by decide +kernel) ?_
  refine lv_lconst (v := 0) hx hb dX1_holdsAlong_211 (by decide) ?_
  refine k_lcmp (v := 0) hx hb dX1_holdsAlong_212 (by decide +kernel) ?_
  refine k_if_ne_f (tgt := 220) hx hb dX1_holdsAlong_213 (by decide) (by decide) ?_
  refine lv_iconst (v := 1) hx hb dX1_holdsAlong_216 (by decide) ?_
  refine lv_goto (tgt := 221) hx hb dX1_holdsAlong_217 (by decide) ?_
  exact e_i (fun _ => 0) hx hb hr hlocks rfl rfl hP hD hS (Nat.le_of_ble_eq_true rfl) (Nat.le_of_ble_eq_true rfl) dX1_holdsAlong_221
set_option maxHeartbeats 4000000 in
set_option maxRecDepth 100000 in
theorem c398_X1_holdsAt (l : Launch) (hfl : l.stackTraces = false) (D : va_G) (cA : Nat → ClassId) (g : gv_T) (h0 h1 h2 h3 h4 h5 h6 h7 h8 h9 h10 h11 h12 h13 h14 h15 h16 h17 h18 h19 h20 h21 h22 h23 h24 h25 : Nat) : CT l yX1_holdsAt cX1_holdsAt 3 (some .boolean) (RM 1 0 0 31) D cA g [.ref h0, .ref h1, .int 10] [(h0, .inr (4, [.int 1, .int 46, .long 1, .ref h2, .ref h3, .ref h4, .ref h5, .ref h6, .ref h7, .ref h8, .ref h9, .ref h10, .ref h11, .ref h12, .ref h13, .ref h14, .ref h15])), (h1, .inr (5, [.int 0, .int 0, .ref h16, .ref h17, .ref h18, .ref h19, .ref h20, .ref h21, .ref h22, .ref h23, .ref h24, .ref h25]))] (fun q => some (.int 1)) (fun q => [(h0, .inr (4, [.int 1, .int 46, .long 1, .ref h2, .ref h3, .ref h4, .ref h5, .ref h6, .ref h7, .ref h8, .ref h9, .ref h10, .ref h11, .ref h12, .ref h13, .ref h14, .ref h15])), (h1, .inr (5, [.int 0, .int 0, .ref h16, .ref h17, .ref h18, .ref h19, .ref h20, .ref h21, .ref h22, .ref h23, .ref h24, .ref h25]))]) := by
  refine CT.of (by decide +kernel) (Nat.le_of_ble_eq_true rfl) ?_
  intro p e s m args below meth c A ls hx hb hr hml hown hG hlocks hnm hA hS hP hK hD hGV hl
  have hown : s.vm.findClass RX1 = some m.cls := hown
  have hl : lv_has ls 3 [(0, .ref h0), (1, .ref h1), (2, .int 10)] := hl
  have hSF : CF p m c cX1_holdsAt 3 s args RX1 := ⟨hx, hb, hml, hown, hG⟩
  refine lv_aload_n hx hb dX1_holdsAt_0 rfl (lv_at hl 0 rfl) ?_
  refine lv_aload_n hx hb dX1_holdsAt_1 rfl (lv_at hl 1 rfl) ?_
  refine lv_iload_n hx hb dX1_holdsAt_2 rfl (lv_at hl 2 rfl) ?_
  refine lv_iconst (v := 0) hx hb dX1_holdsAt_3 (by decide) ?_
  refine ct_V (wr := []) hSF hl.1 hP hD hS hA hK hGV (c396_X1_holdsAlong l hfl D cA g h0 h1 h16 h17 h18 h19 h20 h21 h22 h23 h24 h25 h2 h3 h4 h5 h6 h7 h8 h9 h10 h11 h12 h13 h14 h15) goV_X1_185 pd_X1_holdsAlong ⟨(Nat.le_of_ble_eq_true rfl), (Nat.le_of_ble_eq_true rfl)⟩ ⟨(Nat.le_of_ble_eq_true rfl), (Nat.le_of_ble_eq_true rfl)⟩ (va_recv hK hP (ci := 4) (q0 := 0) rfl rfl) dX1_holdsAt_4 rfl (Nat.le_of_ble_eq_true rfl) [1, 0] [] rfl (by decide) rfl (by decide) (by decide) (fun q => [(h1, .inr (5, [.int 0, .int 0, .ref h16, .ref h17, .ref h18, .ref h19, .ref h20, .ref h21, .ref h22, .ref h23, .ref h24, .ref h25])), (h0, .inr (4, [.int 1, .int 46, .long 1, .ref h2, .ref h3, .ref h4, .ref h5, .ref h6, .ref h7, .ref h8, .ref h9, .ref h10, .ref h11, .ref h12, .ref h13, .ref h14, .ref h15]))]) (fun _ => rfl) (fun q1 H locs hP hD hS => ?_)
  refine W.eq (g2 := F0 m 7 ls [.int 1]) rfl ?_
  refine k_if_eq_f (tgt := 24) hx hb dX1_holdsAt_7 (by decide) (by decide) ?_
  refine lv_aload_n hx hb dX1_holdsAt_10 rfl (lv_at hl 0 rfl) ?_
  refine lv_aload_n hx hb dX1_holdsAt_11 rfl (lv_at hl 1 rfl) ?_
  refine lv_iload_n hx hb dX1_holdsAt_12 rfl (lv_at hl 2 rfl) ?_
  refine lv_iconst (v := 1) hx hb dX1_holdsAt_13 (by decide) ?_
  refine ct_V (wr := []) hSF hl.1 hP hD hS hA hK hGV (c397_X1_holdsAlong l hfl D cA g h0 h1 h16 h17 h18 h19 h20 h21 h22 h23 h24 h25 h2 h3 h4 h5 h6 h7 h8 h9 h10 h11 h12 h13 h14 h15) goV_X1_185 pd_X1_holdsAlong ⟨(Nat.le_of_ble_eq_true rfl), (Nat.le_of_ble_eq_true rfl)⟩ ⟨(Nat.le_of_ble_eq_true rfl), (Nat.le_of_ble_eq_true rfl)⟩ (va_recv hK hP (ci := 4) (q0 := 1) rfl rfl) dX1_holdsAt_14 rfl (Nat.le_of_ble_eq_true rfl) [0, 1] [] rfl (by decide) rfl (by decide) (by decide) (fun q => [(h1, .inr (5, [.int 0, .int 0, .ref h16, .ref h17, .ref h18, .ref h19, .ref h20, .ref h21, .ref h22, .ref h23, .ref h24, .ref h25])), (h0, .inr (4, [.int 1, .int 46, .long 1, .ref h2, .ref h3, .ref h4, .ref h5, .ref h6, .ref h7, .ref h8, .ref h9, .ref h10, .ref h11, .ref h12, .ref h13, .ref h14, .ref h15]))]) (fun _ => rfl) (fun q2 H locs hP hD hS => ?_)
  refine W.eq (g2 := F0 m 17 ls [.int 1]) rfl ?_
  refine k_if_eq_f (tgt := 24) hx hb dX1_holdsAt_17 (by decide) (by decide) ?_
  refine lv_iconst (v := 1) hx hb dX1_holdsAt_20 (by decide) ?_
  refine lv_goto (tgt := 25) hx hb dX1_holdsAt_21 (by decide) ?_
  exact e_i (fun _ => 0) hx hb hr hlocks rfl rfl (hP.sub [1, 0] rfl) (hD.sub [1, 0] (by decide) rfl) hS (Nat.le_of_ble_eq_true rfl) (Nat.le_of_ble_eq_true rfl) dX1_holdsAt_25
set_option maxHeartbeats 4000000 in
set_option maxRecDepth 100000 in
theorem c399_X1_holdsAlong (l : Launch) (hfl : l.stackTraces = false) (D : va_G) (cA : Nat → ClassId) (g : gv_T) (h0 h1 h2 h3 h4 h5 h6 h7 h8 h9 h10 h11 h12 h13 h14 h15 h16 h17 h18 h19 h20 h21 h22 h23 h24 h25 : Nat) : CT l yX1_holdsAlong cX1_holdsAlong 12 (some .boolean) (RM 0 0 0 0) D cA g [.ref h0, .ref h1, .int 11, .int 0] [(h1, .inr (5, [.int 0, .int 0, .ref h2, .ref h3, .ref h4, .ref h5, .ref h6, .ref h7, .ref h8, .ref h9, .ref h10, .ref h11])), (h0, .inr (4, [.int 1, .int 46, .long 1, .ref h12, .ref h13, .ref h14, .ref h15, .ref h16, .ref h17, .ref h18, .ref h19, .ref h20, .ref h21, .ref h22, .ref h23, .ref h24, .ref h25]))] (fun q => some (.int 1)) (fun q => [(h1, .inr (5, [.int 0, .int 0, .ref h2, .ref h3, .ref h4, .ref h5, .ref h6, .ref h7, .ref h8, .ref h9, .ref h10, .ref h11])), (h0, .inr (4, [.int 1, .int 46, .long 1, .ref h12, .ref h13, .ref h14, .ref h15, .ref h16, .ref h17, .ref h18, .ref h19, .ref h20, .ref h21, .ref h22, .ref h23, .ref h24, .ref h25]))]) := by
  refine CT.of (by decide +kernel) (Nat.le_of_ble_eq_true rfl) ?_
  intro p e s m args below meth c A ls hx hb hr hml hown hG hlocks hnm hA hS hP hK hD hGV hl
  have hown : s.vm.findClass RX1 = some m.cls := hown
  have hl : lv_has ls 12 [(0, .ref h0), (1, .ref h1), (2, .int 11), (3, .int 0)] := hl
  have hSF : CF p m c cX1_holdsAlong 12 s args RX1 := ⟨hx, hb, hml, hown, hG⟩
  refine lv_lconst (v := 0) hx hb dX1_holdsAlong_0 (by decide) ?_
  refine lv_lstore (lv' := [(4, .long 0), (0, .ref h0), (1, .ref h1), (2, .int 11), (3, .int 0)]) hx hb dX1_holdsAlong_1 hl (by decide) rfl (fun ls hl => ?_)
  refine lv_lconst (v := 0) hx hb dX1_holdsAlong_3 (by decide) ?_
  refine lv_lstore (lv' := [(6, .long 0), (4, .long 0), (0, .ref h0), (1, .ref h1), (2, .int 11), (3, .int 0)]) hx hb dX1_holdsAlong_4 hl (by decide) rfl (fun ls hl => ?_)
  refine lv_iconst (v := 0) hx hb dX1_holdsAlong_6 (by decide) ?_
  refine lv_istore (lv' := [(8, .int 0), (6, .long 0), (4, .long 0), (0, .ref h0), (1, .ref h1), (2, .int 11), (3, .int 0)]) hx hb dX1_holdsAlong_7 hl (by decide) rfl (fun ls hl => ?_)
  refine lv_iload hx hb dX1_holdsAlong_9 (lv_at hl 0 rfl) ?_
  refine lv_aload_n hx hb dX1_holdsAlong_11 rfl (lv_at hl 4 rfl) ?_
  refine k_get (ci := 5) (C := RX2) (T := TX2) (N := 12) (v := .int 0) hx hb hG inX2 hown hK hP 0 rfl rfl 0 (by decide) gw128 rfl dX1_holdsAlong_12 ?_
  refine k_icmp_ge_t (tgt := 180) hx hb dX1_holdsAlong_15 (by decide) (by decide) ?_
  refine lv_aload_n hx hb dX1_holdsAlong_180 rfl (lv_at hl 3 rfl) ?_
  refine k_get (ci := 4) (C := RX1) (T := TX1) (N := 17) (v := .long 1) hx hb hG inX1 hown hK hP 1 rfl rfl 2 (by decide) gw201 rfl dX1_holdsAlong_181 ?_
  refine lv_lconst (v := 0) hx hb dX1_holdsAlong_184 (by decide) ?_
  refine k_lcmp (v := 1) hx hb dX1_holdsAlong_185 (by decide +kernel) ?_
  refine k_if_le_f (tgt := 220) hx hb dX1_holdsAlong_186 (by decide) (by decide) ?_
  refine lv_lload hx hb dX1_holdsAlong_189 (lv_at hl 1 rfl) ?_
  refine lv_aload_n hx hb dX1_holdsAlong_191 rfl (lv_at hl 3 rfl) ?_
  refine k_get (ci := 4) (C := RX1) (T := TX1) (N := 17) (v := .long 1) hx hb hG inX1 hown hK hP 1 rfl rfl 2 (by decide) gw201 rfl dX1_holdsAlong_192 ?_
  refine k_lrem (v := 0) hx hb dX1_holdsAlong_195 (by decide +kernel) (by decide +kernel) ?_
  refine lv_lconst (v := 0) hx hb dX1_holdsAlong_196 (by decide) ?_
  refine k_lcmp (v := 0) hx hb dX1_holdsAlong_197 (by decide +kernel) ?_
  refine k_if_ne_f (tgt := 220) hx hb dX1_holdsAlong_198 (by decide) (by decide) ?_
  refine lv_lload hx hb dX1_holdsAlong_201 (lv_at hl 2 rfl) ?_
  refine lv_lload hx hb dX1_holdsAlong_203 (lv_at hl 1 rfl) ?_
  refine lv_aload_n hx hb dX1_holdsAlong_205 rfl (lv_at hl 3 rfl) ?_
  refine k_get (ci := 4) (C := RX1) (T := TX1) (N := 17) (v := .long 1) hx hb hG inX1 hown hK hP 1 rfl rfl 2 (by decide) gw201 rfl dX1_holdsAlong_206 ?_
  refine k_ldiv (v := 0) hx hb dX1_holdsAlong_209 (by decide +kernel) (by decide +kernel) ?_
  refine k_ladd (v := 0) hx hb dX1_holdsAlong_210 (by decide +kernel) ?_
  refine lv_lconst (v := 0) hx hb dX1_holdsAlong_211 (by decide) ?_
  refine k_lcmp (v := 0) hx hb dX1_holdsAlong_212 (by decide +kernel) ?_
  refine k_if_ne_f (tgt := 220) hx hb dX1_holdsAlong_213 (by decide) (by decide) ?_
  refine lv_iconst (v := 1) hx hb dX1_holdsAlong_216 (by decide) ?_
  refine lv_goto (tgt := 221) hx hb dX1_holdsAlong_217 (by decide) ?_
  exact e_i (fun _ => 0) hx hb hr hlocks rfl rfl hP hD hS (Nat.le_of_ble_eq_true rfl) (Nat.le_of_ble_eq_true rfl) dX1_holdsAlong_221
set_option maxHeartbeats 4000000 in
set_option maxRecDepth 100000 in
theorem c400_X1_holdsAlong (l : Launch) (hfl : l.stackTraces = false) (D : va_G) (cA : Nat → ClassId) (g : gv_T) (h0 h1 h2 h3 h4 h5 h6 h7 h8 h9 h10 h11 h12 h13 h14 h15 h16 h17 h18 h19 h20 h21 h22 h23 h24 h25 : Nat) : CT l yX1_holdsAlong cX1_holdsAlong 12 (some .boolean) (RM 0 0 0 0) D cA g [.ref h0, .ref h1, .int 11, .int 1] [(h1, .inr (5, [.int 0, .int 0, .ref h2, .ref h3, .ref h4, .ref h5, .ref h6, .ref h7, .ref h8, .ref h9, .ref h10, .ref h11])), (h0, .inr (4, [.int 1, .int 46, .long 1, .ref h12, .ref h13, .ref h14, .ref h15, .ref h16, .ref h17, .ref h18, .ref h19, .ref h20, .ref h21, .ref h22, .ref h23, .ref h24, .ref h25]))] (fun q => some (.int 1)) (fun q => [(h1, .inr (5, [.int 0, .int 0, .ref h2, .ref h3, .ref h4, .ref h5, .ref h6, .ref h7, .ref h8, .ref h9, .ref h10, .ref h11])), (h0, .inr (4, [.int 1, .int 46, .long 1, .ref h12, .ref h13, .ref h14, .ref h15, .ref h16, .ref h17, .ref h18, .ref h19, .ref h20, .ref h21, .ref h22, .ref h23, .ref h24, .ref h25]))]) := by
  refine CT.of (by decide +kernel) (Nat.le_of_ble_eq_true rfl) ?_
  intro p e s m args below meth c A ls hx hb hr hml hown hG hlocks hnm hA hS hP hK hD hGV hl
  have hown : s.vm.findClass RX1 = some m.cls := hown
  have hl : lv_has ls 12 [(0, .ref h0), (1, .ref h1), (2, .int 11), (3, .int 1)] := hl
  have hSF : CF p m c cX1_holdsAlong 12 s args RX1 := ⟨hx, hb, hml, hown, hG⟩
  refine lv_lconst (v := 0) hx hb dX1_holdsAlong_0 (by decide) ?_
  refine lv_lstore (lv' := [(4, .long 0), (0, .ref h0), (1, .ref h1), (2, .int 11), (3, .int 1)]) hx hb dX1_holdsAlong_1 hl (by decide) rfl (fun ls hl => ?_)
  refine lv_lconst (v := 0) hx hb dX1_holdsAlong_3 (by decide) ?_
  refine lv_lstore (lv' := [(6, .long 0), (4, .long 0), (0, .ref h0), (1, .ref h1), (2, .int 11), (3, .int 1)]) hx hb dX1_holdsAlong_4 hl (by decide) rfl (fun ls hl => ?_)
  refine lv_iconst (v := 0) hx hb dX1_holdsAlong_6 (by decide) ?_
  refine lv_istore (lv' := [(8, .int 0), (6, .long 0), (4, .long 0), (0, .ref h0), (1, .ref h1), (2, .int 11), (3, .int 1)]) hx hb dX1_holdsAlong_7 hl (by decide) rfl (fun ls hl => ?_)
  refine lv_iload hx hb dX1_holdsAlong_9 (lv_at hl 0 rfl) ?_
  refine lv_aload_n hx hb dX1_holdsAlong_11 rfl (lv_at hl 4 rfl) ?_
  refine k_get (ci := 5) (C := RX2) (T := TX2) (N := 12) (v := .int 0) hx hb hG inX2 hown hK hP 0 rfl rfl 0 (by decide) gw128 rfl dX1_holdsAlong_12 ?_
  refine k_icmp_ge_t (tgt := 180) hx hb dX1_holdsAlong_15 (by decide) (by decide) ?_
  refine lv_aload_n hx hb dX1_holdsAlong_180 rfl (lv_at hl 3 rfl) ?_
  refine k_get (ci := 4) (C := RX1) (T := TX1) (N := 17) (v := .long 1) hx hb hG inX1 hown hK hP 1 rfl rfl 2 (by decide) gw201 rfl dX1_holdsAlong_181 ?_
  refine lv_lconst (v := 0) hx hb dX1_holdsAlong_184 (by decide) ?_
  refine k_lcmp (v := 1) hx hb dX1_holdsAlong_185 (by decide +kernel) ?_
  refine k_if_le_f (tgt := 220) hx hb dX1_holdsAlong_186 (by decide) (by decide) ?_
  refine lv_lload hx hb dX1_holdsAlong_189 (lv_at hl 1 rfl) ?_
  refine lv_aload_n hx hb dX1_holdsAlong_191 rfl (lv_at hl 3 rfl) ?_
  refine k_get (ci := 4) (C := RX1) (T := TX1) (N := 17) (v := .long 1) hx hb hG inX1 hown hK hP 1 rfl rfl 2 (by decide) gw201 rfl dX1_holdsAlong_192 ?_
  refine k_lrem (v := 0) hx hb dX1_holdsAlong_195 (by decide +kernel) (by decide +kernel) ?_
  refine lv_lconst (v := 0) hx hb dX1_holdsAlong_196 (by decide) ?_
  refine k_lcmp (v := 0) hx hb dX1_holdsAlong_197 (by decide +kernel) ?_
  refine k_if_ne_f (tgt := 220) hx hb dX1_holdsAlong_198 (by decide) (by decide) ?_
  refine lv_lload hx hb dX1_holdsAlong_201 (lv_at hl 2 rfl) ?_
  refine lv_lload hx hb dX1_holdsAlong_203 (lv_at hl 1 rfl) ?_
  refine lv_aload_n hx hb dX1_holdsAlong_205 rfl (lv_at hl 3 rfl) ?_
  refine k_get (ci := 4) (C := RX1) (T := TX1) (N := 17) (v := .long 1) hx hb hG inX1 hown hK hP 1 rfl rfl 2 (by decide) gw201 rfl dX1_holdsAlong_206 ?_
  refine k_ldiv (v := 0) hx hb dX1_holdsAlong_209 (by decide +kernel) (by decide +kernel) ?_
  refine k_ladd (v := 0) hx hb dX1_holdsAlong_210 (by decide +kernel) ?_
  refine lv_lconst (v := 0) hx hb dX1_holdsAlong_211 (by decide) ?_
  refine k_lcmp (v := 0) hx hb dX1_holdsAlong_212 (by decide +kernel) ?_
  refine k_if_ne_f (tgt := 220) hx hb dX1_holdsAlong_213 (by decide) (by decide) ?_
  refine lv_iconst (v := 1) hx hb dX1_holdsAlong_216 (by decide) ?_
  refine lv_goto (tgt := 221) hx hb dX1_holdsAlong_217 (by decide) ?_
  exact e_i (fun _ => 0) hx hb hr hlocks rfl rfl hP hD hS (Nat.le_of_ble_eq_true rfl) (Nat.le_of_ble_eq_true rfl) dX1_holdsAlong_221
set_option maxHeartbeats 4000000 in
set_option maxRecDepth 100000 in
theorem c401_X1_holdsAt (l : Launch) (hfl : l.stackTraces = false) (D : va_G) (cA : Nat → ClassId) (g : gv_T) (h0 h1 h2 h3 h4 h5 h6 h7 h8 h9 h10 h11 h12 h13 h14 h15 h16 h17 h18 h19 h20 h21 h22 h23 h24 h25 : Nat) : CT l yX1_holdsAt cX1_holdsAt 3 (some .boolean) (RM 1 0 0 31) D cA g [.ref h0, .ref h1, .int 11] [(h0, .inr (4, [.int 1, .int 46, .long 1, .ref h2, .ref h3, .ref h4, .ref h5, .ref h6, .ref h7, .ref h8, .ref h9, .ref h10, .ref h11, .ref h12, .ref h13, .ref h14, .ref h15])), (h1, .inr (5, [.int 0, .int 0, .ref h16, .ref h17, .ref h18, .ref h19, .ref h20, .ref h21, .ref h22, .ref h23, .ref h24, .ref h25]))] (fun q => some (.int 1)) (fun q => [(h0, .inr (4, [.int 1, .int 46, .long 1, .ref h2, .ref h3, .ref h4, .ref h5, .ref h6, .ref h7, .ref h8, .ref h9, .ref h10, .ref h11, .ref h12, .ref h13, .ref h14, .ref h15])), (h1, .inr (5, [.int 0, .int 0, .ref h16, .ref h17, .ref h18, .ref h19, .ref h20, .ref h21, .ref h22, .ref h23, .ref h24, .ref h25]))]) := by
  refine CT.of (by decide +kernel) (Nat.le_of_ble_eq_true rfl) ?_
  intro p e s m args below meth c A ls hx hb hr hml hown hG hlocks hnm hA hS hP hK hD hGV hl
  have hown : s.vm.findClass RX1 = some m.cls := hown
  have hl : lv_has ls 3 [(0, .ref h0), (1, .ref h1), (2, .int 11)] := hl
  have hSF : CF p m c cX1_holdsAt 3 s args RX1 := ⟨hx, hb, hml, hown, hG⟩
  refine lv_aload_n hx hb dX1_holdsAt_0 rfl (lv_at hl 0 rfl) ?_
  refine lv_aload_n hx hb dX1_holdsAt_1 rfl (lv_at hl 1 rfl) ?_
  refine lv_iload_n hx hb dX1_holdsAt_2 rfl (lv_at hl 2 rfl) ?_
  refine lv_iconst (v := 0) hx hb dX1_holdsAt_3 (by decide) ?_
  refine ct_V (wr := []) hSF hl.1 hP hD hS hA hK hGV (c399_X1_holdsAlong l hfl D cA g h0 h1 h16 h17 h18 h19 h20 h21 h22 h23 h24 h25 h2 h3 h4 h5 h6 h7 h8 h9 h10 h11 h12 h13 h14 h15) goV_X1_185 pd_X1_holdsAlong ⟨(Nat.le_of_ble_eq_true rfl), (Nat.le_of_ble_eq_true rfl)⟩ ⟨(Nat.le_of_ble_eq_true rfl), (Nat.le_of_ble_eq_true rfl)⟩ (va_recv hK hP (ci := 4) (q0 := 0) rfl rfl) dX1_holdsAt_4 rfl (Nat.le_of_ble_eq_true rfl) [1, 0] [] rfl (by decide) rfl (by decide) (by decide) (fun q => [(h1, .inr (5, [.int 0, .int 0, .ref h16, .ref h17, .ref h18, .ref h19, .ref h20, .ref h21, .ref h22, .ref h23, .ref h24, .ref h25])), (h0, .inr (4, [.int 1, .int 46, .long 1, .ref h2, .ref h3, .ref h4, .ref h5, .ref h6, .ref h7, .ref h8, .ref h9, .ref h10, .ref h11, .ref h12, .ref h13, .ref h14, .ref h15]))]) (fun _ => rfl) (fun q1 H locs hP hD hS => ?_)
  refine W.eq (g2 := F0 m 7 ls [.int 1]) rfl ?_
  refine k_if_eq_f (tgt := 24) hx hb dX1_holdsAt_7 (by decide) (by decide) ?_
  refine lv_aload_n hx hb dX1_holdsAt_10 rfl (lv_at hl 0 rfl) ?_
  refine lv_aload_n hx hb dX1_holdsAt_11 rfl (lv_at hl 1 rfl) ?_
  refine lv_iload_n hx hb dX1_holdsAt_12 rfl (lv_at hl 2 rfl) ?_
  refine lv_iconst (v := 1) hx hb dX1_holdsAt_13 (by decide) ?_
  refine ct_V (wr := []) hSF hl.1 hP hD hS hA hK hGV (c400_X1_holdsAlong l hfl D cA g h0 h1 h16 h17 h18 h19 h20 h21 h22 h23 h24 h25 h2 h3 h4 h5 h6 h7 h8 h9 h10 h11 h12 h13 h14 h15) goV_X1_185 pd_X1_holdsAlong ⟨(Nat.le_of_ble_eq_true rfl), (Nat.le_of_ble_eq_true rfl)⟩ ⟨(Nat.le_of_ble_eq_true rfl), (Nat.le_of_ble_eq_true rfl)⟩ (va_recv hK hP (ci := 4) (q0 := 1) rfl rfl) dX1_holdsAt_14 rfl (Nat.le_of_ble_eq_true rfl) [0, 1] [] rfl (by decide) rfl (by decide) (by decide) (fun q => [(h1, .inr (5, [.int 0, .int 0, .ref h16, .ref h17, .ref h18, .ref h19, .ref h20, .ref h21, .ref h22, .ref h23, .ref h24, .ref h25])), (h0, .inr (4, [.int 1, .int 46, .long 1, .ref h2, .ref h3, .ref h4, .ref h5, .ref h6, .ref h7, .ref h8, .ref h9, .ref h10, .ref h11, .ref h12, .ref h13, .ref h14, .ref h15]))]) (fun _ => rfl) (fun q2 H locs hP hD hS => ?_)
  refine W.eq (g2 := F0 m 17 ls [.int 1]) rfl ?_
  refine k_if_eq_f (tgt := 24) hx hb dX1_holdsAt_17 (by decide) (by decide) ?_
  refine lv_iconst (v := 1) hx hb dX1_holdsAt_20 (by decide) ?_
  refine lv_goto (tgt := 25) hx hb dX1_holdsAt_21 (by decide) ?_
  exact e_i (fun _ => 0) hx hb hr hlocks rfl rfl (hP.sub [1, 0] rfl) (hD.sub [1, 0] (by decide) rfl) hS (Nat.le_of_ble_eq_true rfl) (Nat.le_of_ble_eq_true rfl) dX1_holdsAt_25
set_option maxHeartbeats 4000000 in
set_option maxRecDepth 100000 in
theorem c402_X1_holdsAlong (l : Launch) (hfl : l.stackTraces = false) (D : va_G) (cA : Nat → ClassId) (g : gv_T) (h0 h1 h2 h3 h4 h5 h6 h7 h8 h9 h10 h11 h12 h13 h14 h15 h16 h17 h18 h19 h20 h21 h22 h23 h24 h25 : Nat) : CT l yX1_holdsAlong cX1_holdsAlong 12 (some .boolean) (RM 0 0 0 0) D cA g [.ref h0, .ref h1, .int 12, .int 0] [(h1, .inr (5, [.int 0, .int 0, .ref h2, .ref h3, .ref h4, .ref h5, .ref h6, .ref h7, .ref h8, .ref h9, .ref h10, .ref h11])), (h0, .inr (4, [.int 1, .int 46, .long 1, .ref h12, .ref h13, .ref h14, .ref h15, .ref h16, .ref h17, .ref h18, .ref h19, .ref h20, .ref h21, .ref h22, .ref h23, .ref h24, .ref h25]))] (fun q => some (.int 1)) (fun q => [(h1, .inr (5, [.int 0, .int 0, .ref h2, .ref h3, .ref h4, .ref h5, .ref h6, .ref h7, .ref h8, .ref h9, .ref h10, .ref h11])), (h0, .inr (4, [.int 1, .int 46, .long 1, .ref h12, .ref h13, .ref h14, .ref h15, .ref h16, .ref h17, .ref h18, .ref h19, .ref h20, .ref h21, .ref h22, .ref h23, .ref h24, .ref h25]))]) := by
  refine CT.of (by decide +kernel) (Nat.le_of_ble_eq_true rfl) ?_
  intro p e s m args below meth c A ls hx hb hr hml hown hG hlocks hnm hA hS hP hK hD hGV hl
  have hown : s.vm.findClass RX1 = some m.cls := hown
  have hl : lv_has ls 12 [(0, .ref h0), (1, .ref h1), (2, .int 12), (3, .int 0)] := hl
  have hSF : CF p m c cX1_holdsAlong 12 s args RX1 := ⟨hx, hb, hml, hown, hG⟩
  refine lv_lconst (v := 0) hx hb dX1_holdsAlong_0 (by decide) ?_
  refine lv_lstore (lv' := [(4, .long 0), (0, .ref h0), (1, .ref h1), (2, .int 12), (3, .int 0)]) hx hb dX1_holdsAlong_1 hl (by decide) rfl (fun ls hl => ?_)
  refine lv_lconst (v := 0) hx hb dX1_holdsAlong_3 (by decide) ?_
  refine lv_lstore (lv' := [(6, .long 0), (4, .long 0), (0, .ref h0), (1, .ref h1), (2, .int 12), (3, .int 0)]) hx hb dX1_holdsAlong_4 hl (by decide) rfl (fun ls hl => ?_)
  refine lv_iconst (v := 0) hx hb dX1_holdsAlong_6 (by decide) ?_
  refine lv_istore (lv' := [(8, .int 0), (6, .long 0), (4, .long 0), (0, .ref h0), (1, .ref h1), (2, .int 12), (3, .int 0)]) hx hb dX1_holdsAlong_7 hl (by decide) rfl (fun ls hl => ?_)
  refine lv_iload hx hb dX1_holdsAlong_9 (lv_at hl 0 rfl) ?_
  refine lv_aload_n hx hb dX1_holdsAlong_11 rfl (lv_at hl 4 rfl) ?_
  refine k_get (ci := 5) (C := RX2) (T := TX2) (N := 12) (v := .int 0) hx hb hG inX2 hown hK hP 0 rfl rfl 0 (by decide) gw128 rfl dX1_holdsAlong_12 ?_
  refine k_icmp_ge_t (tgt := 180) hx hb dX1_holdsAlong_15 (by decide) (by decide) ?_
  refine lv_aload_n hx hb dX1_holdsAlong_180 rfl (lv_at hl 3 rfl) ?_
  refine k_get (ci := 4) (C := RX1) (T := TX1) (N := 17) (v := .long 1) hx hb hG inX1 hown hK hP 1 rfl rfl 2 (by decide) gw201 rfl dX1_holdsAlong_181 ?_
  refine lv_lconst (v := 0) hx hb dX1_holdsAlong_184 (by decide) ?_
  refine k_lcmp (v := 1) hx hb dX1_holdsAlong_185 (by decide +kernel) ?_
  refine k_if_le_f (tgt := 220) hx hb dX1_holdsAlong_186 (by decide) (by decide) ?_
  refine lv_lload hx hb dX1_holdsAlong_189 (lv_at hl 1 rfl) ?_
  refine lv_aload_n hx hb dX1_holdsAlong_191 rfl (lv_at hl 3 rfl) ?_
  refine k_get (ci := 4) (C := RX1) (T := TX1) (N := 17) (v := .long 1) hx hb hG inX1 hown hK hP 1 rfl rfl 2 (by decide) gw201 rfl dX1_holdsAlong_192 ?_
  refine k_lrem (v := 0) hx hb dX1_holdsAlong_195 (by decide +kernel) (by decide +kernel) ?_
  refine lv_lconst (v := 0) hx hb dX1_holdsAlong_196 (by decide) ?_
  refine k_lcmp (v := 0) hx hb dX1_holdsAlong_197 (by decide +kernel) ?_
  refine k_if_ne_f (tgt := 220) hx hb dX1_holdsAlong_198 (by decide) (by decide) ?_
  refine lv_lload hx hb dX1_holdsAlong_201 (lv_at hl 2 rfl) ?_
  refine lv_lload hx hb dX1_holdsAlong_203 (lv_at hl 1 rfl) ?_
  refine lv_aload_n hx hb dX1_holdsAlong_205 rfl (lv_at hl 3 rfl) ?_
  refine k_get (ci := 4) (C := RX1) (T := TX1) (N := 17) (v := .long 1) hx hb hG inX1 hown hK hP 1 rfl rfl 2 (by decide) gw201 rfl dX1_holdsAlong_206 ?_
  refine k_ldiv (v := 0) hx hb dX1_holdsAlong_209 (by decide +kernel) (by decide +kernel) ?_
  refine k_ladd (v := 0) hx hb dX1_holdsAlong_210 (by decide +kernel) ?_
  refine lv_lconst (v := 0) hx hb dX1_holdsAlong_211 (by decide) ?_
  refine k_lcmp (v := 0) hx hb dX1_holdsAlong_212 (by decide +kernel) ?_
  refine k_if_ne_f (tgt := 220) hx hb dX1_holdsAlong_213 (by decide) (by decide) ?_
  refine lv_iconst (v := 1) hx hb dX1_holdsAlong_216 (by decide) ?_
  refine lv_goto (tgt := 221) hx hb dX1_holdsAlong_217 (by decide) ?_
  exact e_i (fun _ => 0) hx hb hr hlocks rfl rfl hP hD hS (Nat.le_of_ble_eq_true rfl) (Nat.le_of_ble_eq_true rfl) dX1_holdsAlong_221
set_option maxHeartbeats 4000000 in
set_option maxRecDepth 100000 in
theorem c403_X1_holdsAlong (l : Launch) (hfl : l.stackTraces = false) (D : va_G) (cA : Nat → ClassId) (g : gv_T) (h0 h1 h2 h3 h4 h5 h6 h7 h8 h9 h10 h11 h12 h13 h14 h15 h16 h17 h18 h19 h20 h21 h22 h23 h24 h25 : Nat) : CT l yX1_holdsAlong cX1_holdsAlong 12 (some .boolean) (RM 0 0 0 0) D cA g [.ref h0, .ref h1, .int 12, .int 1] [(h1, .inr (5, [.int 0, .int 0, .ref h2, .ref h3, .ref h4, .ref h5, .ref h6, .ref h7, .ref h8, .ref h9, .ref h10, .ref h11])), (h0, .inr (4, [.int 1, .int 46, .long 1, .ref h12, .ref h13, .ref h14, .ref h15, .ref h16, .ref h17, .ref h18, .ref h19, .ref h20, .ref h21, .ref h22, .ref h23, .ref h24, .ref h25]))] (fun q => some (.int 1)) (fun q => [(h1, .inr (5, [.int 0, .int 0, .ref h2, .ref h3, .ref h4, .ref h5, .ref h6, .ref h7, .ref h8, .ref h9, .ref h10, .ref h11])), (h0, .inr (4, [.int 1, .int 46, .long 1, .ref h12, .ref h13, .ref h14, .ref h15, .ref h16, .ref h17, .ref h18, .ref h19, .ref h20, .ref h21, .ref h22, .ref h23, .ref h24, .ref h25]))]) := by
  refine CT.of (by decide +kernel) (Nat.le_of_ble_eq_true rfl) ?_
  intro p e s m args below meth c A ls hx hb hr hml hown hG hlocks hnm hA hS hP hK hD hGV hl
  have hown : s.vm.findClass RX1 = some m.cls := hown
  have hl : lv_has ls 12 [(0, .ref h0), (1, .ref h1), (2, .int 12), (3, .int 1)] := hl
  have hSF : CF p m c cX1_holdsAlong 12 s args RX1 := ⟨hx, hb, hml, hown, hG⟩
  refine lv_lconst (v := 0) hx hb dX1_holdsAlong_0 (by decide) ?_
  refine lv_lstore (lv' := [(4, .long 0), (0, .ref h0), (1, .ref h1), (2, .int 12), (3, .int 1)]) hx hb dX1_holdsAlong_1 hl (by decide) rfl (fun ls hl => ?_)
  refine lv_lconst (v := 0) hx hb dX1_holdsAlong_3 (by decide) ?_
  refine lv_lstore (lv' := [(6, .long 0), (4, .long 0), (0, .ref h0), (1, .ref h1), (2, .int 12), (3, .int 1)]) hx hb dX1_holdsAlong_4 hl (by decide) rfl (fun ls hl => ?_)
  refine lv_iconst (v := 0) hx hb dX1_holdsAlong_6 (by decide) ?_
  refine lv_istore (lv' := [(8, .int 0), (6, .long 0), (4, .long 0), (0, .ref h0), (1, .ref h1), (2, .int 12), (3, .int 1)]) hx hb dX1_holdsAlong_7 hl (by decide) rfl (fun ls hl => ?_)
  refine lv_iload hx hb dX1_holdsAlong_9 (lv_at hl 0 rfl) ?_
  refine lv_aload_n hx hb dX1_holdsAlong_11 rfl (lv_at hl 4 rfl) ?_
  refine k_get (ci := 5) (C := RX2) (T := TX2) (N := 12) (v := .int 0) hx hb hG inX2 hown hK hP 0 rfl rfl 0 (by decide) gw128 rfl dX1_holdsAlong_12 ?_
  refine k_icmp_ge_t (tgt := 180) hx hb dX1_holdsAlong_15 (by decide) (by decide) ?_
  refine lv_aload_n hx hb dX1_holdsAlong_180 rfl (lv_at hl 3 rfl) ?_
  refine k_get (ci := 4) (C := RX1) (T := TX1) (N := 17) (v := .long 1) hx hb hG inX1 hown hK hP 1 rfl rfl 2 (by decide) gw201 rfl dX1_holdsAlong_181 ?_
  refine lv_lconst (v := 0) hx hb dX1_holdsAlong_184 (by decide) ?_
  refine k_lcmp (v := 1) hx hb dX1_holdsAlong_185 (by decide +kernel) ?_
  refine k_if_le_f (tgt := 220) hx hb dX1_holdsAlong_186 (by decide) (by decide) ?_
  refine lv_lload hx hb dX1_holdsAlong_189 (lv_at hl 1 rfl) ?_
  refine lv_aload_n hx hb dX1_holdsAlong_191 rfl (lv_at hl 3 rfl) ?_
  refine k_get (ci := 4) (C := RX1) (T := TX1) (N := 17) (v := .long 1) hx hb hG inX1 hown hK hP 1 rfl rfl 2 (by decide) gw201 rfl dX1_holdsAlong_192 ?_
  refine k_lrem (v := 0) hx hb dX1_holdsAlong_195 (by decide +kernel) (by decide +kernel) ?_
  refine lv_lconst (v := 0) hx hb dX1_holdsAlong_196 (by decide) ?_
  refine k_lcmp (v := 0) hx hb dX1_holdsAlong_197 (by decide +kernel) ?_
  refine k_if_ne_f (tgt := 220) hx hb dX1_holdsAlong_198 (by decide) (by decide) ?_
  refine lv_lload hx hb dX1_holdsAlong_201 (lv_at hl 2 rfl) ?_
  refine lv_lload hx hb dX1_holdsAlong_203 (lv_at hl 1 rfl) ?_
  refine lv_aload_n hx hb dX1_holdsAlong_205 rfl (lv_at hl 3 rfl) ?_
  refine k_get (ci := 4) (C := RX1) (T := TX1) (N := 17) (v := .long 1) hx hb hG inX1 hown hK hP 1 rfl rfl 2 (by decide) gw201 rfl dX1_holdsAlong_206 ?_
  refine k_ldiv (v := 0) hx hb dX1_holdsAlong_209 (by decide +kernel) (by decide +kernel) ?_
  refine k_ladd (v := 0) hx hb dX1_holdsAlong_210 (by decide +kernel) ?_
  refine lv_lconst (v := 0) hx hb dX1_holdsAlong_211 (by decide) ?_
  refine k_lcmp (v := 0) hx hb dX1_holdsAlong_212 (by decide +kernel) ?_
  refine k_if_ne_f (tgt := 220) hx hb dX1_holdsAlong_213 (by decide) (by decide) ?_
  refine lv_iconst (v := 1) hx hb dX1_holdsAlong_216 (by decide) ?_
  refine lv_goto (tgt := 221) hx hb dX1_holdsAlong_217 (by decide) ?_
  exact e_i (fun _ => 0) hx hb hr hlocks rfl rfl hP hD hS (Nat.le_of_ble_eq_true rfl) (Nat.le_of_ble_eq_true rfl) dX1_holdsAlong_221
set_option maxHeartbeats 4000000 in
set_option maxRecDepth 100000 in
theorem c404_X1_holdsAt (l : Launch) (hfl : l.stackTraces = false) (D : va_G) (cA : Nat → ClassId) (g : gv_T) (h0 h1 h2 h3 h4 h5 h6 h7 h8 h9 h10 h11 h12 h13 h14 h15 h16 h17 h18 h19 h20 h21 h22 h23 h24 h25 : Nat) : CT l yX1_holdsAt cX1_holdsAt 3 (some .boolean) (RM 1 0 0 31) D cA g [.ref h0, .ref h1, .int 12] [(h0, .inr (4, [.int 1, .int 46, .long 1, .ref h2, .ref h3, .ref h4, .ref h5, .ref h6, .ref h7, .ref h8, .ref h9, .ref h10, .ref h11, .ref h12, .ref h13, .ref h14, .ref h15])), (h1, .inr (5, [.int 0, .int 0, .ref h16, .ref h17, .ref h18, .ref h19, .ref h20, .ref h21, .ref h22, .ref h23, .ref h24, .ref h25]))] (fun q => some (.int 1)) (fun q => [(h0, .inr (4, [.int 1, .int 46, .long 1, .ref h2, .ref h3, .ref h4, .ref h5, .ref h6, .ref h7, .ref h8, .ref h9, .ref h10, .ref h11, .ref h12, .ref h13, .ref h14, .ref h15])), (h1, .inr (5, [.int 0, .int 0, .ref h16, .ref h17, .ref h18, .ref h19, .ref h20, .ref h21, .ref h22, .ref h23, .ref h24, .ref h25]))]) := by
  refine CT.of (by decide +kernel) (Nat.le_of_ble_eq_true rfl) ?_
  intro p e s m args below meth c A ls hx hb hr hml hown hG hlocks hnm hA hS hP hK hD hGV hl
  have hown : s.vm.findClass RX1 = some m.cls := hown
  have hl : lv_has ls 3 [(0, .ref h0), (1, .ref h1), (2, .int 12)] := hl
  have hSF : CF p m c cX1_holdsAt 3 s args RX1 := ⟨hx, hb, hml, hown, hG⟩
  refine lv_aload_n hx hb dX1_holdsAt_0 rfl (lv_at hl 0 rfl) ?_
  refine lv_aload_n hx hb dX1_holdsAt_1 rfl (lv_at hl 1 rfl) ?_
  refine lv_iload_n hx hb dX1_holdsAt_2 rfl (lv_at hl 2 rfl) ?_
  refine lv_iconst (v := 0) hx hb dX1_holdsAt_3 (by decide) ?_
  refine ct_V (wr := []) hSF hl.1 hP hD hS hA hK hGV (c402_X1_holdsAlong l hfl D cA g h0 h1 h16 h17 h18 h19 h20 h21 h22 h23 h24 h25 h2 h3 h4 h5 h6 h7 h8 h9 h10 h11 h12 h13 h14 h15) goV_X1_185 pd_X1_holdsAlong ⟨(Nat.le_of_ble_eq_true rfl), (Nat.le_of_ble_eq_true rfl)⟩ ⟨(Nat.le_of_ble_eq_true rfl), (Nat.le_of_ble_eq_true rfl)⟩ (va_recv hK hP (ci := 4) (q0 := 0) rfl rfl) dX1_holdsAt_4 rfl (Nat.le_of_ble_eq_true rfl) [1, 0] [] rfl (by decide) rfl (by decide) (by decide) (fun q => [(h1, .inr (5, [.int 0, .int 0, .ref h16, .ref h17, .ref h18, .ref h19, .ref h20, .ref h21, .ref h22, .ref h23, .ref h24, .ref h25])), (h0, .inr (4, [.int 1, .int 46, .long 1, .ref h2, .ref h3, .ref h4, .ref h5, .ref h6, .ref h7, .ref h8, .ref h9, .ref h10, .ref h11, .ref h12, .ref h13, .ref h14, .ref h15]))]) (fun _ => rfl) (fun q1 H locs hP hD hS => ?_)
  refine W.eq (g2 := F0 m 7 ls [.int 1]) rfl ?_
  refine k_if_eq_f (tgt := 24) hx hb dX1_holdsAt_7 (by decide) (by decide) ?_
  refine lv_aload_n hx hb dX1_holdsAt_10 rfl (lv_at hl 0 rfl) ?_
  refine lv_aload_n hx hb dX1_holdsAt_11 rfl (lv_at hl 1 rfl) ?_
  refine lv_iload_n hx hb dX1_holdsAt_12 rfl (lv_at hl 2 rfl) ?_
  refine lv_iconst (v := 1) hx hb dX1_holdsAt_13 (by decide) ?_
  refine ct_V (wr := []) hSF hl.1 hP hD hS hA hK hGV (c403_X1_holdsAlong l hfl D cA g h0 h1 h16 h17 h18 h19 h20 h21 h22 h23 h24 h25 h2 h3 h4 h5 h6 h7 h8 h9 h10 h11 h12 h13 h14 h15) goV_X1_185 pd_X1_holdsAlong ⟨(Nat.le_of_ble_eq_true rfl), (Nat.le_of_ble_eq_true rfl)⟩ ⟨(Nat.le_of_ble_eq_true rfl), (Nat.le_of_ble_eq_true rfl)⟩ (va_recv hK hP (ci := 4) (q0 := 1) rfl rfl) dX1_holdsAt_14 rfl (Nat.le_of_ble_eq_true rfl) [0, 1] [] rfl (by decide) rfl (by decide) (by decide) (fun q => [(h1, .inr (5, [.int 0, .int 0, .ref h16, .ref h17, .ref h18, .ref h19, .ref h20, .ref h21, .ref h22, .ref h23, .ref h24, .ref h25])), (h0, .inr (4, [.int 1, .int 46, .long 1, .ref h2, .ref h3, .ref h4, .ref h5, .ref h6, .ref h7, .ref h8, .ref h9, .ref h10, .ref h11, .ref h12, .ref h13, .ref h14, .ref h15]))]) (fun _ => rfl) (fun q2 H locs hP hD hS => ?_)
  refine W.eq (g2 := F0 m 17 ls [.int 1]) rfl ?_
  refine k_if_eq_f (tgt := 24) hx hb dX1_holdsAt_17 (by decide) (by decide) ?_
  refine lv_iconst (v := 1) hx hb dX1_holdsAt_20 (by decide) ?_
  refine lv_goto (tgt := 25) hx hb dX1_holdsAt_21 (by decide) ?_
  exact e_i (fun _ => 0) hx hb hr hlocks rfl rfl (hP.sub [1, 0] rfl) (hD.sub [1, 0] (by decide) rfl) hS (Nat.le_of_ble_eq_true rfl) (Nat.le_of_ble_eq_true rfl) dX1_holdsAt_25
set_option maxHeartbeats 4000000 in
set_option maxRecDepth 100000 in
theorem c405_X1_holdsAlong (l : Launch) (hfl : l.stackTraces = false) (D : va_G) (cA : Nat → ClassId) (g : gv_T) (h0 h1 h2 h3 h4 h5 h6 h7 h8 h9 h10 h11 h12 h13 h14 h15 h16 h17 h18 h19 h20 h21 h22 h23 h24 h25 : Nat) : CT l yX1_holdsAlong cX1_holdsAlong 12 (some .boolean) (RM 0 0 0 0) D cA g [.ref h0, .ref h1, .int 13, .int 0] [(h1, .inr (5, [.int 0, .int 0, .ref h2, .ref h3, .ref h4, .ref h5, .ref h6, .ref h7, .ref h8, .ref h9, .ref h10, .ref h11])), (h0, .inr (4, [.int 1, .int 46, .long 1, .ref h12, .ref h13, .ref h14, .ref h15, .ref h16, .ref h17, .ref h18, .ref h19, .ref h20, .ref h21, .ref h22, .ref h23, .ref h24, .ref h25]))] (fun q => some (.int 1)) (fun q => [(h1, .inr (5, [.int 0, .int 0, .ref h2, .ref h3, .ref h4, .ref h5, .ref h6, .ref h7, .ref h8, .ref h9, .ref h10, .ref h11])), (h0, .inr (4, [.int 1, .int 46, .long 1, .ref h12, .ref h13, .ref h14, .ref h15, .ref h16, .ref h17, .ref h18, .ref h19, .ref h20, .ref h21, .ref h22, .ref h23, .ref h24, .ref h25]))]) := by
  refine CT.of (by decide +kernel) (Nat.le_of_ble_eq_true rfl) ?_
  intro p e s m args below meth c A ls hx hb hr hml hown hG hlocks hnm hA hS hP hK hD hGV hl
  have hown : s.vm.findClass RX1 = some m.cls := hown
  have hl : lv_has ls 12 [(0, .ref h0), (1, .ref h1), (2, .int 13), (3, .int 0)] := hl
  have hSF : CF p m c cX1_holdsAlong 12 s args RX1 := ⟨hx, hb, hml, hown, hG⟩
  refine lv_lconst (v := 0) hx hb dX1_holdsAlong_0 (by decide) ?_
  refine lv_lstore (lv' := [(4, .long 0), (0, .ref h0), (1, .ref h1), (2, .int 13), (3, .int 0)]) hx hb dX1_holdsAlong_1 hl (by decide) rfl (fun ls hl => ?_)
  refine lv_lconst (v := 0) hx hb dX1_holdsAlong_3 (by decide) ?_
  refine lv_lstore (lv' := [(6, .long 0), (4, .long 0), (0, .ref h0), (1, .ref h1), (2, .int 13), (3, .int 0)]) hx hb dX1_holdsAlong_4 hl (by decide) rfl (fun ls hl => ?_)
  refine lv_iconst (v := 0) hx hb dX1_holdsAlong_6 (by decide) ?_
  refine lv_istore (lv' := [(8, .int 0), (6, .long 0), (4, .long 0), (0, .ref h0), (1, .ref h1), (2, .int 13), (3, .int 0)]) hx hb dX1_holdsAlong_7 hl (by decide) rfl (fun ls hl => ?_)
  refine lv_iload hx hb dX1_holdsAlong_9 (lv_at hl 0 rfl) ?_
  refine lv_aload_n hx hb dX1_holdsAlong_11 rfl (lv_at hl 4 rfl) ?_
  refine k_get (ci := 5) (C := RX2) (T := TX2) (N := 12) (v := .int 0) hx hb hG inX2 hown hK hP 0 rfl rfl 0 (by decide) gw128 rfl dX1_holdsAlong_12 ?_
  refine k_icmp_ge_t (tgt := 180) hx hb dX1_holdsAlong_15 (by decide) (by decide) ?_
  refine lv_aload_n hx hb dX1_holdsAlong_180 rfl (lv_at hl 3 rfl) ?_
  refine k_get (ci := 4) (C := RX1) (T := TX1) (N := 17) (v := .long 1) hx hb hG inX1 hown hK hP 1 rfl rfl 2 (by decide) gw201 rfl dX1_holdsAlong_181 ?_
  refine lv_lconst (v := 0) hx hb dX1_holdsAlong_184 (by decide) ?_
  refine k_lcmp (v := 1) hx hb dX1_holdsAlong_185 (by decide +kernel) ?_
  refine k_if_le_f (tgt := 220) hx hb dX1_holdsAlong_186 (by decide) (by decide) ?_
  refine lv_lload hx hb dX1_holdsAlong_189 (lv_at hl 1 rfl) ?_
  refine lv_aload_n hx hb dX1_holdsAlong_191 rfl (lv_at hl 3 rfl) ?_
  refine k_get (ci := 4) (C := RX1) (T := TX1) (N := 17) (v := .long 1) hx hb hG inX1 hown hK hP 1 rfl rfl 2 (by decide) gw201 rfl dX1_holdsAlong_192 ?_
  refine k_lrem (v := 0) hx hb dX1_holdsAlong_195 (by decide +kernel) (by decide +kernel) ?_
  refine lv_lconst (v := 0) hx hb dX1_holdsAlong_196 (by decide) ?_
  refine k_lcmp (v := 0) hx hb dX1_holdsAlong_197 (by decide +kernel) ?_
  refine k_if_ne_f (tgt := 220) hx hb dX1_holdsAlong_198 (by decide) (by decide) ?_
  refine lv_lload hx hb dX1_holdsAlong_201 (lv_at hl 2 rfl) ?_
  refine lv_lload hx hb dX1_holdsAlong_203 (lv_at hl 1 rfl) ?_
  refine lv_aload_n hx hb dX1_holdsAlong_205 rfl (lv_at hl 3 rfl) ?_
  refine k_get (ci := 4) (C := RX1) (T := TX1) (N := 17) (v := .long 1) hx hb hG inX1 hown hK hP 1 rfl rfl 2 (by decide) gw201 rfl dX1_holdsAlong_206 ?_
  refine k_ldiv (v := 0) hx hb dX1_holdsAlong_209 (by decide +kernel) (by decide +kernel) ?_
  refine k_ladd (v := 0) hx hb dX1_holdsAlong_210 (by decide +kernel) ?_
  refine lv_lconst (v := 0) hx hb dX1_holdsAlong_211 (by decide) ?_
  refine k_lcmp (v := 0) hx hb dX1_holdsAlong_212 (by decide +kernel) ?_
  refine k_if_ne_f (tgt := 220) hx hb dX1_holdsAlong_213 (by decide) (by decide) ?_
  refine lv_iconst (v := 1) hx hb dX1_holdsAlong_216 (by decide) ?_
  refine lv_goto (tgt := 221) hx hb dX1_holdsAlong_217 (by decide) ?_
  exact e_i (fun _ => 0) hx hb hr hlocks rfl rfl hP hD hS (Nat.le_of_ble_eq_true rfl) (Nat.le_of_ble_eq_true rfl) dX1_holdsAlong_221
set_option maxHeartbeats 4000000 in
set_option maxRecDepth 100000 in
theorem c406_X1_holdsAlong (l : Launch) (hfl : l.stackTraces = false) (D : va_G) (cA : Nat → ClassId) (g : gv_T) (h0 h1 h2 h3 h4 h5 h6 h7 h8 h9 h10 h11 h12 h13 h14 h15 h16 h17 h18 h19 h20 h21 h22 h23 h24 h25 : Nat) : CT l yX1_holdsAlong cX1_holdsAlong 12 (some .boolean) (RM 0 0 0 0) D cA g [.ref h0, .ref h1, .int 13, .int 1] [(h1, .inr (5, [.int 0, .int 0, .ref h2, .ref h3, .ref h4, .ref h5, .ref h6, .ref h7, .ref h8, .ref h9, .ref h10, .ref h11])), (h0, .inr (4, [.int 1, .int 46, .long 1, .ref h12, .ref h13, .ref h14, .ref h15, .ref h16, .ref h17, .ref h18, .ref h19, .ref h20, .ref h21, .ref h22, .ref h23, .ref h24, .ref h25]))] (fun q => some (.int 1)) (fun q => [(h1, .inr (5, [.int 0, .int 0, .ref h2, .ref h3, .ref h4, .ref h5, .ref h6, .ref h7, .ref h8, .ref h9, .ref h10, .ref h11])), (h0, .inr (4, [.int 1, .int 46, .long 1, .ref h12, .ref h13, .ref h14, .ref h15, .ref h16, .ref h17, .ref h18, .ref h19, .ref h20, .ref h21, .ref h22, .ref h23, .ref h24, .ref h25]))]) := by
  refine CT.of (by decide +kernel) (Nat.le_of_ble_eq_true rfl) ?_
  intro p e s m args below meth c A ls hx hb hr hml hown hG hlocks hnm hA hS hP hK hD hGV hl
  have hown : s.vm.findClass RX1 = some m.cls := hown
  have hl : lv_has ls 12 [(0, .ref h0), (1, .ref h1), (2, .int 13), (3, .int 1)] := hl
  have hSF : CF p m c cX1_holdsAlong 12 s args RX1 := ⟨hx, hb, hml, hown, hG⟩
  refine lv_lconst (v := 0) hx hb dX1_holdsAlong_0 (by decide) ?_
  refine lv_lstore (lv' := [(4, .long 0), (0, .ref h0), (1, .ref h1), (2, .int 13), (3, .int 1)]) hx hb dX1_holdsAlong_1 hl (by decide) rfl (fun ls hl => ?_)
  refine lv_lconst (v := 0) hx hb dX1_holdsAlong_3 (by decide) ?_
  refine lv_lstore (lv' := [(6, .long 0), (4, .long 0), (0, .ref h0), (1, .ref h1), (2, .int 13), (3, .int 1)]) hx hb dX1_holdsAlong_4 hl (by decide) rfl (fun ls hl => ?_)
  refine lv_iconst (v := 0) hx hb dX1_holdsAlong_6 (by decide) ?_
  refine lv_istore (lv' := [(8, .int 0), (6, .long 0), (4, .long 0), (0, .ref h0), (1, .ref h1), (2, .int 13), (3, .int 1)]) hx hb dX1_holdsAlong_7 hl (by decide) rfl (fun ls hl => ?_)
  refine lv_iload hx hb dX1_holdsAlong_9 (lv_at hl 0 rfl) ?_
  refine lv_aload_n hx hb dX1_holdsAlong_11 rfl (lv_at hl 4 rfl) ?_
  refine k_get (ci := 5) (C := RX2) (T := TX2) (N := 12) (v := .int 0) hx hb hG inX2 hown hK hP 0 rfl rfl 0 (by decide) gw128 rfl dX1_holdsAlong_12 ?_
  refine k_icmp_ge_t (tgt := 180) hx hb dX1_holdsAlong_15 (by decide) (by decide) ?_
  refine lv_aload_n hx hb dX1_holdsAlong_180 rfl (lv_at hl 3 rfl) ?_
  refine k_get (ci := 4) (C := RX1) (T := TX1) (N := 17) (v := .long 1) hx hb hG inX1 hown hK hP 1 rfl rfl 2 (by decide) gw201 rfl dX1_holdsAlong_181 ?_
  refine lv_lconst (v := 0) hx hb dX1_holdsAlong_184 (by decide) ?_
  refine k_lcmp (v := 1) hx hb dX1_holdsAlong_185 (by decide +kernel) ?_
  refine k_if_le_f (tgt := 220) hx hb dX1_holdsAlong_186 (by decide) (by decide) ?_
  refine lv_lload hx hb dX1_holdsAlong_189 (lv_at hl 1 rfl) ?_
  refine lv_aload_n hx hb dX1_holdsAlong_191 rfl (lv_at hl 3 rfl) ?_
  refine k_get (ci := 4) (C := RX1) (T := TX1) (N := 17) (v := .long 1) hx hb hG inX1 hown hK hP 1 rfl rfl 2 (by decide) gw201 rfl dX1_holdsAlong_192 ?_
  refine k_lrem (v := 0) hx hb dX1_holdsAlong_195 (by decide +kernel) (by decide +kernel) ?_
  refine lv_lconst (v := 0) hx hb dX1_holdsAlong_196 (by decide) ?_
  refine k_lcmp (v := 0) hx hb dX1_holdsAlong_197 (by decide +kernel) ?_
  refine k_if_ne_f (tgt := 220) hx hb dX1_holdsAlong_198 (by decide) (by decide) ?_
  refine lv_lload hx hb dX1_holdsAlong_201 (lv_at hl 2 rfl) ?_
  refine lv_lload hx hb dX1_holdsAlong_203 (lv_at hl 1 rfl) ?_
  refine lv_aload_n hx hb dX1_holdsAlong_205 rfl (lv_at hl 3 rfl) ?_
  refine k_get (ci := 4) (C := RX1) (T := TX1) (N := 17) (v := .long 1) hx hb hG inX1 hown hK hP 1 rfl rfl 2 (by decide) gw201 rfl dX1_holdsAlong_206 ?_
  refine k_ldiv (v := 0) hx hb dX1_holdsAlong_209 (by decide +kernel) (by decide +kernel) ?_
  refine k_ladd (v := 0) hx hb dX1_holdsAlong_210 (by decide +kernel) ?_
  refine lv_lconst (v := 0) hx hb dX1_holdsAlong_211 (by decide) ?_
  refine k_lcmp (v := 0) hx hb dX1_holdsAlong_212 (by decide +kernel) ?_
  refine k_if_ne_f (tgt := 220) hx hb dX1_holdsAlong_213 (by decide) (by decide) ?_
  refine lv_iconst (v := 1) hx hb dX1_holdsAlong_216 (by decide) ?_
  refine lv_goto (tgt := 221) hx hb dX1_holdsAlong_217 (by decide) ?_
  exact e_i (fun _ => 0) hx hb hr hlocks rfl rfl hP hD hS (Nat.le_of_ble_eq_true rfl) (Nat.le_of_ble_eq_true rfl) dX1_holdsAlong_221
set_option maxHeartbeats 4000000 in
set_option maxRecDepth 100000 in
theorem c407_X1_holdsAt (l : Launch) (hfl : l.stackTraces = false) (D : va_G) (cA : Nat → ClassId) (g : gv_T) (h0 h1 h2 h3 h4 h5 h6 h7 h8 h9 h10 h11 h12 h13 h14 h15 h16 h17 h18 h19 h20 h21 h22 h23 h24 h25 : Nat) : CT l yX1_holdsAt cX1_holdsAt 3 (some .boolean) (RM 1 0 0 31) D cA g [.ref h0, .ref h1, .int 13] [(h0, .inr (4, [.int 1, .int 46, .long 1, .ref h2, .ref h3, .ref h4, .ref h5, .ref h6, .ref h7, .ref h8, .ref h9, .ref h10, .ref h11, .ref h12, .ref h13, .ref h14, .ref h15])), (h1, .inr (5, [.int 0, .int 0, .ref h16, .ref h17, .ref h18, .ref h19, .ref h20, .ref h21, .ref h22, .ref h23, .ref h24, .ref h25]))] (fun q => some (.int 1)) (fun q => [(h0, .inr (4, [.int 1, .int 46, .long 1, .ref h2, .ref h3, .ref h4, .ref h5, .ref h6, .ref h7, .ref h8, .ref h9, .ref h10, .ref h11, .ref h12, .ref h13, .ref h14, .ref h15])), (h1, .inr (5, [.int 0, .int 0, .ref h16, .ref h17, .ref h18, .ref h19, .ref h20, .ref h21, .ref h22, .ref h23, .ref h24, .ref h25]))]) := by
  refine CT.of (by decide +kernel) (Nat.le_of_ble_eq_true rfl) ?_
  intro p e s m args below meth c A ls hx hb hr hml hown hG hlocks hnm hA hS hP hK hD hGV hl
  have hown : s.vm.findClass RX1 = some m.cls := hown
  have hl : lv_has ls 3 [(0, .ref h0), (1, .ref h1), (2, .int 13)] := hl
  have hSF : CF p m c cX1_holdsAt 3 s args RX1 := ⟨hx, hb, hml, hown, hG⟩
  refine lv_aload_n hx hb dX1_holdsAt_0 rfl (lv_at hl 0 rfl) ?_
  refine lv_aload_n hx hb dX1_holdsAt_1 rfl (lv_at hl 1 rfl) ?_
  refine lv_iload_n hx hb dX1_holdsAt_2 rfl (lv_at hl 2 rfl) ?_
  refine lv_iconst (v := 0) hx hb dX1_holdsAt_3 (by decide) ?_
  refine ct_V (wr := []) hSF hl.1 hP hD hS hA hK hGV (c405_X1_holdsAlong l hfl D cA g h0 h1 h16 h17 h18 h19 h20 h21 h22 h23 h24 h25 h2 h3 h4 h5 h6 h7 h8 h9 h10 h11 h12 h13 h14 h15) goV_X1_185 pd_X1_holdsAlong ⟨(Nat.le_of_ble_eq_true rfl), (Nat.le_of_ble_eq_true rfl)⟩ ⟨(Nat.le_of_ble_eq_true rfl), (Nat.le_of_ble_eq_true rfl)⟩ (va_recv hK hP (ci := 4) (q0 := 0) rfl rfl) dX1_holdsAt_4 rfl (Nat.le_of_ble_eq_true rfl) [1, 0] [] rfl (by decide) rfl (by decide) (by decide) (fun q => [(h1, .inr (5, [.int 0, .int 0, .ref h16, .ref h17, .ref h18, .ref h19, .ref h20, .ref h21, .ref h22, .ref h23, .ref h24, .ref h25])), (h0, .inr (4, [.int 1, .int 46, .long 1, .ref h2, .ref h3, .ref h4, .ref h5, .ref h6, .ref h7, .ref h8, .ref h9, .ref h10, .ref h11, .ref h12, .ref h13, .ref h14, .ref h15]))]) (fun _ => rfl) (fun q1 H locs hP hD hS => ?_)
  refine W.eq (g2 := F0 m 7 ls [.int 1]) rfl ?_
  refine k_if_eq_f (tgt := 24) hx hb dX1_holdsAt_7 (by decide) (by decide) ?_
  refine lv_aload_n hx hb dX1_holdsAt_10 rfl (lv_at hl 0 rfl) ?_
  refine lv_aload_n hx hb dX1_holdsAt_11 rfl (lv_at hl 1 rfl) ?_
  refine lv_iload_n hx hb dX1_holdsAt_12 rfl (lv_at hl 2 rfl) ?_
  refine lv_iconst (v := 1) hx hb dX1_holdsAt_13 (by decide) ?_
  refine ct_V (wr := []) hSF hl.1 hP hD hS hA hK hGV (c406_X1_holdsAlong l hfl D cA g h0 h1 h16 h17 h18 h19 h20 h21 h22 h23 h24 h25 h2 h3 h4 h5 h6 h7 h8 h9 h10 h11 h12 h13 h14 h15) goV_X1_185 pd_X1_holdsAlong ⟨(Nat.le_of_ble_eq_true rfl), (Nat.le_of_ble_eq_true rfl)⟩ ⟨(Nat.le_of_ble_eq_true rfl), (Nat.le_of_ble_eq_true rfl)⟩ (va_recv hK hP (ci := 4) (q0 := 1) rfl rfl) dX1_holdsAt_14 rfl (Nat.le_of_ble_eq_true rfl) [0, 1] [] rfl (by decide) rfl (by decide) (by decide) (fun q => [(h1, .inr (5, [.int 0, .int 0, .ref h16, .ref h17, .ref h18, .ref h19, .ref h20, .ref h21, .ref h22, .ref h23, .ref h24, .ref h25])), (h0, .inr (4, [.int 1, .int 46, .long 1, .ref h2, .ref h3, .ref h4, .ref h5, .ref h6, .ref h7, .ref h8, .ref h9, .ref h10, .ref h11, .ref h12, .ref h13, .ref h14, .ref h15]))]) (fun _ => rfl) (fun q2 H locs hP hD hS => ?_)
  refine W.eq (g2 := F0 m 17 ls [.int 1]) rfl ?_
  refine k_if_eq_f (tgt := 24) hx hb dX1_holdsAt_17 (by decide) (by decide) ?_
  refine lv_iconst (v := 1) hx hb dX1_holdsAt_20 (by decide) ?_
  refine lv_goto (tgt := 25) hx hb dX1_holdsAt_21 (by decide) ?_
  exact e_i (fun _ => 0) hx hb hr hlocks rfl rfl (hP.sub [1, 0] rfl) (hD.sub [1, 0] (by decide) rfl) hS (Nat.le_of_ble_eq_true rfl) (Nat.le_of_ble_eq_true rfl) dX1_holdsAt_25
set_option maxHeartbeats 4000000 in
set_option maxRecDepth 100000 in
theorem c408_X1_holdsAlong (l : Launch) (hfl : l.stackTraces = false) (D : va_G) (cA : Nat → ClassId) (g : gv_T) (h0 h1 h2 h3 h4 h5 h6 h7 h8 h9 h10 h11 h12 h13 h14 h15 h16 h17 h18 h19 h20 h21 h22 h23 h24 h25 : Nat) : CT l yX1_holdsAlong cX1_holdsAlong 12 (some .boolean) (RM 0 0 0 0) D cA g [.ref h0, .ref h1, .int 14, .int 0] [(h1, .inr (5, [.int 0, .int 0, .ref h2, .ref h3, .ref h4, .ref h5, .ref h6, .ref h7, .ref h8, .ref h9, .ref h10, .ref h11])), (h0, .inr (4, [.int 1, .int 46, .long 1, .ref h12, .ref h13, .ref h14, .ref h15, .ref h16, .ref h17, .ref h18, .ref h19, .ref h20, .ref h21, .ref h22, .ref h23, .ref h24, .ref h25]))] (fun q => some (.int 1)) (fun q => [(h1, .inr (5, [.int 0, .int 0, .ref h2, .ref h3, .ref h4, .ref h5, .ref h6, .ref h7, .ref h8, .ref h9, .ref h10, .ref h11])), (h0, .inr (4, [.int 1, .int 46, .long 1, .ref h12, .ref h13, .ref h14, .ref h15, .ref h16, .ref h17, .ref h18, .ref h19, .ref h20, .ref h21, .ref h22, .ref h23, .ref h24, .ref h25]))]) := by
  refine CT.of (by decide +kernel) (Nat.le_of_ble_eq_true rfl) ?_
  intro p e s m args below meth c A ls hx hb hr hml hown hG hlocks hnm hA hS hP hK hD hGV hl
  have hown : s.vm.findClass RX1 = some m.cls := hown
  have hl : lv_has ls 12 [(0, .ref h0), (1, .ref h1), (2, .int 14), (3, .int 0)] := hl
  have hSF : CF p m c cX1_holdsAlong 12 s args RX1 := ⟨hx, hb, hml, hown, hG⟩
  refine lv_lconst (v := 0) hx hb dX1_holdsAlong_0 (by decide) ?_
  refine lv_lstore (lv' := [(4, .long 0), (0, .ref h0), (1, .ref h1), (2, .int 14), (3, .int 0)]) hx hb dX1_holdsAlong_1 hl (by decide) rfl (fun ls hl => ?_)
  refine lv_lconst (v := 0) hx hb dX1_holdsAlong_3 (by decide) ?_
  refine lv_lstore (lv' := [(6, .long 0), (4, .long 0), (0, .ref h0), (1, .ref h1), (2, .int 14), (3, .int 0)]) hx hb dX1_holdsAlong_4 hl (by decide) rfl (fun ls hl => ?_)
  refine lv_iconst (v := 0) hx hb dX1_holdsAlong_6 (by decide) ?_
  refine lv_istore (lv' := [(8, .int 0), (6, .long 0), (4, .long 0), (0, .ref h0), (1, .ref h1), (2, .int 14), (3, .int 0)]) hx hb dX1_holdsAlong_7 hl (by decide) rfl (fun ls hl => ?_)
  refine lv_iload hx hb dX1_holdsAlong_9 (lv_at hl 0 rfl) ?_
  refine lv_aload_n hx hb dX1_holdsAlong_11 rfl (lv_at hl 4 rfl) ?_
  refine k_get (ci := 5) (C := RX2) (T := TX2) (N := 12) (v := .int 0) hx hb hG inX2 hown hK hP 0 rfl rfl 0 (by decide) gw128 rfl dX1_holdsAlong_12 ?_
  refine k_icmp_ge_t (tgt := 180) hx hb dX1_holdsAlong_15 (by decide) (by decide) ?_
  refine lv_aload_n hx hb dX1_holdsAlong_180 rfl (lv_at hl 3 rfl) ?_
  refine k_get (ci := 4) (C := RX1) (T := TX1) (N := 17) (v := .long 1) hx hb hG inX1 hown hK hP 1 rfl rfl 2 (by decide) gw201 rfl dX1_holdsAlong_181 ?_
  refine lv_lconst (v := 0) hx hb dX1_holdsAlong_184 (by decide) ?_
  refine k_lcmp (v := 1) hx hb dX1_holdsAlong_185 (by decide +kernel) ?_
  refine k_if_le_f (tgt := 220) hx hb dX1_holdsAlong_186 (by decide) (by decide) ?_
  refine lv_lload hx hb dX1_holdsAlong_189 (lv_at hl 1 rfl) ?_
  refine lv_aload_n hx hb dX1_holdsAlong_191 rfl (lv_at hl 3 rfl) ?_
  refine k_get (ci := 4) (C := RX1) (T := TX1) (N := 17) (v := .long 1) hx hb hG inX1 hown hK hP 1 rfl rfl 2 (by decide) gw201 rfl dX1_holdsAlong_192 ?_
  refine k_lrem (v := 0) hx hb dX1_holdsAlong_195 (by decide +kernel) (by decide +kernel) ?_
  refine lv_lconst (v := 0) hx hb dX1_holdsAlong_196 (by decide) ?_
  refine k_lcmp (v := 0) hx hb dX1_holdsAlong_197 (by decide +kernel) ?_
  refine k_if_ne_f (tgt := 220) hx hb dX1_holdsAlong_198 (by decide) (by decide) ?_
  refine lv_lload hx hb dX1_holdsAlong_201 (lv_at hl 2 rfl) ?_
  refine lv_lload hx hb dX1_holdsAlong_203 (lv_at hl 1 rfl) ?_
  refine lv_aload_n hx hb dX1_holdsAlong_205 rfl (lv_at hl 3 rfl) ?_
  refine k_get (ci := 4) (C := RX1) (T := TX1) (N := 17) (v := .long 1) hx hb hG inX1 hown hK hP 1 rfl rfl 2 (by decide) gw201 rfl dX1_holdsAlong_206 ?_
  refine k_ldiv (v := 0) hx hb dX1_holdsAlong_209 (by decide +kernel) (by decide +kernel) ?_
  refine k_ladd (v := 0) hx hb dX1_holdsAlong_210 (by decide +kernel) ?_
  refine lv_lconst (v := 0) hx hb dX1_holdsAlong_211 (by decide) ?_
  refine k_lcmp (v := 0) hx hb dX1_holdsAlong_212 (by decide +kernel) ?_
  refine k_if_ne_f (tgt := 220) hx hb dX1_holdsAlong_213 (by decide) (by decide) ?_
  refine lv_iconst (v := 1) hx hb dX1_holdsAlong_216 (by decide) ?_
  refine lv_goto (tgt := 221) hx hb dX1_holdsAlong_217 (by decide) ?_
  exact e_i (fun _ => 0) hx hb hr hlocks rfl rfl hP hD hS (Nat.le_of_ble_eq_true rfl) (Nat.le_of_ble_eq_true rfl) dX1_holdsAlong_221
set_option maxHeartbeats 4000000 in
set_option maxRecDepth 100000 in
theorem c409_X1_holdsAlong (l : Launch) (hfl : l.stackTraces = false) (D : va_G) (cA : Nat → ClassId) (g : gv_T) (h0 h1 h2 h3 h4 h5 h6 h7 h8 h9 h10 h11 h12 h13 h14 h15 h16 h17 h18 h19 h20 h21 h22 h23 h24 h25 : Nat) : CT l yX1_holdsAlong cX1_holdsAlong 12 (some .boolean) (RM 0 0 0 0) D cA g [.ref h0, .ref h1, .int 14, .int 1] [(h1, .inr (5, [.int 0, .int 0, .ref h2, .ref h3, .ref h4, .ref h5, .ref h6, .ref h7, .ref h8, .ref h9, .ref h10, .ref h11])), (h0, .inr (4, [.int 1, .int 46, .long 1, .ref h12, .ref h13, .ref h14, .ref h15, .ref h16, .ref h17, .ref h18, .ref h19, .ref h20, .ref h21, .ref h22, .ref h23, .ref h24, .ref h25]))] (fun q => some (.int 1)) (fun q => [(h1, .inr (5, [.int 0, .int 0, .ref h2, .ref h3, .ref h4, .ref h5, .ref h6, .ref h7, .ref h8, .ref h9, .ref h10, .ref h11])), (h0, .inr (4, [.int 1, .int 46, .long 1, .ref h12, .ref h13, .ref h14, .ref h15, .ref h16, .ref h17, .ref h18, .ref h19, .ref h20, .ref h21, .ref h22, .ref h23, .ref h24, .ref h25]))]) := by
  refine CT.of (by decide +kernel) (Nat.le_of_ble_eq_true rfl) ?_
  intro p e s m args below meth c A ls hx hb hr hml hown hG hlocks hnm hA hS hP hK hD hGV hl
  have hown : s.vm.findClass RX1 = some m.cls := hown
  have hl : lv_has ls 12 [(0, .ref h0), (1, .ref h1), (2, .int 14), (3, .int 1)] := hl
  have hSF : CF p m c cX1_holdsAlong 12 s args RX1 := ⟨hx, hb, hml, hown, hG⟩
  refine lv_lconst (v := 0) hx hb dX1_holdsAlong_0 (by decide) ?_
  refine lv_lstore (lv' := [(4, .long 0), (0, .ref h0), (1, .ref h1), (2, .int 14), (3, .int 1)]) hx hb dX1_holdsAlong_1 hl (by decide) rfl (fun ls hl => ?_)
  refine lv_lconst (v := 0) hx hb dX1_holdsAlong_3 (by decide) ?_
  refine lv_lstore (lv' := [(6, .long 0), (4, .long 0), (0, .ref h0), (1, .ref h1), (2, .int 14), (3, .int 1)]) hx hb dX1_holdsAlong_4 hl (by decide) rfl (fun ls hl => ?_)
  refine lv_iconst (v := 0) hx hb dX1_holdsAlong_6 (by decide) ?_
  refine lv_istore (lv' := [(8, .int 0), (6, .long 0), (4, .long 0), (0, .ref h0), (1, .ref h1), (2, .int 14), (3, .int 1)]) hx hb dX1_holdsAlong_7 hl (by decide) rfl (fun ls hl => ?_)
  refine lv_iload hx hb dX1_holdsAlong_9 (lv_at hl 0 rfl) ?_
  refine lv_aload_n hx hb dX1_holdsAlong_11 rfl (lv_at hl 4 rfl) ?_
  refine k_get (ci := 5) (C := RX2) (T := TX2) (N := 12) (v := .int 0) hx hb hG inX2 hown hK hP 0 rfl rfl 0 (by decide) gw128 rfl dX1_holdsAlong_12 ?_
  refine k_icmp_ge_t (tgt := 180) hx hb dX1_holdsAlong_15 (by decide) (by decide) ?_
  refine lv_aload_n hx hb dX1_holdsAlong_180 rfl (lv_at hl 3 rfl) ?_
  refine k_get (ci := 4) (C := RX1) (T := TX1) (N := 17) (v := .long 1) hx hb hG inX1 hown hK hP 1 rfl rfl 2 (by decide) gw201 rfl dX1_holdsAlong_181 ?_
  refine lv_lconst (v := 0) hx hb dX1_holdsAlong_184 (by decide) ?_
  refine k_lcmp (v := 1) hx hb dX1_holdsAlong_185 (by decide +kernel) ?_
  refine k_if_le_f (tgt := 220) hx hb dX1_holdsAlong_186 (by decide) (by decide) ?_
  refine lv_lload hx hb dX1_holdsAlong_189 (lv_at hl 1 rfl) ?_
  refine lv_aload_n hx hb dX1_holdsAlong_191 rfl (lv_at hl 3 rfl) ?_
  refine k_get (ci := 4) (C := RX1) (T := TX1) (N := 17) (v := .long 1) hx hb hG inX1 hown hK hP 1 rfl rfl 2 (by decide) gw201 rfl dX1_holdsAlong_192 ?_
  refine k_lrem (v := 0) hx hb dX1_holdsAlong_195 (by decide +kernel) (by decide +kernel) ?_
  refine lv_lconst (v := 0) hx hb dX1_holdsAlong_196 (by decide) ?_
  refine k_lcmp (v := 0) hx hb dX1_holdsAlong_197 (by decide +kernel) ?_
  refine k_if_ne_f (tgt := 220) hx hb dX1_holdsAlong_198 (by decide) (by decide) ?_
  refine lv_lload hx hb dX1_holdsAlong_201 (lv_at hl 2 rfl) ?_
  refine lv_lload hx hb dX1_holdsAlong_203 (lv_at hl 1 rfl) ?_
  refine lv_aload_n hx hb dX1_holdsAlong_205 rfl (lv_at hl 3 rfl) ?_
  refine k_get (ci := 4) (C := RX1) (T := TX1) (N := 17) (v := .long 1) hx hb hG inX1 hown hK hP 1 rfl rfl 2 (by decide) gw201 rfl dX1_holdsAlong_206 ?_
  refine k_ldiv (v := 0) hx hb dX1_holdsAlong_209 (by decide +kernel) (by decide +kernel) ?_
  refine k_ladd (v := 0) hx hb dX1_holdsAlong_210 (by decide +kernel) ?_
  refine lv_lconst (v := 0) hx hb dX1_holdsAlong_211 (by decide) ?_
  refine k_lcmp (v := 0) hx hb dX1_holdsAlong_212 (by decide +kernel) ?_
  refine k_if_ne_f (tgt := 220) hx hb dX1_holdsAlong_213 (by decide) (by decide) ?_
  refine lv_iconst (v := 1) hx hb dX1_holdsAlong_216 (by decide) ?_
  refine lv_goto (tgt := 221) hx hb dX1_holdsAlong_217 (by decide) ?_
  exact e_i (fun _ => 0) hx hb hr hlocks rfl rfl hP hD hS (Nat.le_of_ble_eq_true rfl) (Nat.le_of_ble_eq_true rfl) dX1_holdsAlong_221
set_option maxHeartbeats 4000000 in
set_option maxRecDepth 100000 in
theorem c410_X1_holdsAt (l : Launch) (hfl : l.stackTraces = false) (D : va_G) (cA : Nat → ClassId) (g : gv_T) (h0 h1 h2 h3 h4 h5 h6 h7 h8 h9 h10 h11 h12 h13 h14 h15 h16 h17 h18 h19 h20 h21 h22 h23 h24 h25 : Nat) : CT l yX1_holdsAt cX1_holdsAt 3 (some .boolean) (RM 1 0 0 31) D cA g [.ref h0, .ref h1, .int 14] [(h0, .inr (4, [.int 1, .int 46, .long 1, .ref h2, .ref h3, .ref h4, .ref h5, .ref h6, .ref h7, .ref h8, .ref h9, .ref h10, .ref h11, .ref h12, .ref h13, .ref h14, .ref h15])), (h1, .inr (5, [.int 0, .int 0, .ref h16, .ref h17, .ref h18, .ref h19, .ref h20, .ref h21, .ref h22, .ref h23, .ref h24, .ref h25]))] (fun q => some (.int 1)) (fun q => [(h0, .inr (4, [.int 1, .int 46, .long 1, .ref h2, .ref h3, .ref h4, .ref h5, .ref h6, .ref h7, .ref h8, .ref h9, .ref h10, .ref h11, .ref h12, .ref h13, .ref h14, .ref h15])), (h1, .inr (5, [.int 0, .int 0, .ref h16, .ref h17, .ref h18, .ref h19, .ref h20, .ref h21, .ref h22, .ref h23, .ref h24, .ref h25]))]) := by
  refine CT.of (by decide +kernel) (Nat.le_of_ble_eq_true rfl) ?_
  intro p e s m args below meth c A ls hx hb hr hml hown hG hlocks hnm hA hS hP hK hD hGV hl
  have hown : s.vm.findClass RX1 = some m.cls := hown
  have hl : lv_has ls 3 [(0, .ref h0), (1, .ref h1), (2, .int 14)] := hl
  have hSF : CF p m c cX1_holdsAt 3 s args RX1 := ⟨hx, hb, hml, hown, hG⟩
  refine lv_aload_n hx hb dX1_holdsAt_0 rfl (lv_at hl 0 rfl) ?_
  refine lv_aload_n hx hb dX1_holdsAt_1 rfl (lv_at hl 1 rfl) ?_
  refine lv_iload_n hx hb dX1_holdsAt_2 rfl (lv_at hl 2 rfl) ?_
  refine lv_iconst (v := 0) hx hb dX1_holdsAt_3 (by decide) ?_
  refine ct_V (wr := []) hSF hl.1 hP hD hS hA hK hGV (c408_X1_holdsAlong l hfl D cA g h0 h1 h16 h17 h18 h19 h20 h21 h22 h23 h24 h25 h2 h3 h4 h5 h6 h7 h8 h9 h10 h11 h12 h13 h14 h15) goV_X1_185 pd_X1_holdsAlong ⟨(Nat.le_of_ble_eq_true rfl), (Nat.le_of_ble_eq_true rfl)⟩ ⟨(Nat.le_of_ble_eq_true rfl), (Nat.le_of_ble_eq_true rfl)⟩ (va_recv hK hP (ci := 4) (q0 := 0) rfl rfl) dX1_holdsAt_4 rfl (Nat.le_of_ble_eq_true rfl) [1, 0] [] rfl (by decide) rfl (by decide) (by decide) (fun q => [(h1, .inr (5, [.int 0, .int 0, .ref h16, .ref h17, .ref h18, .ref h19, .ref h20, .ref h21, .ref h22, .ref h23, .ref h24, .ref h25])), (h0, .inr (4, [.int 1, .int 46, .long 1, .ref h2, .ref h3, .ref h4, .ref h5, .ref h6, .ref h7, .ref h8, .ref h9, .ref h10, .ref h11, .ref h12, .ref h13, .ref h14, .ref h15]))]) (fun _ => rfl) (fun q1 H locs hP hD hS => ?_)
  refine W.eq (g2 := F0 m 7 ls [.int 1]) rfl ?_
  refine k_if_eq_f (tgt := 24) hx hb dX1_holdsAt_7 (by decide) (by decide) ?_
  refine lv_aload_n hx hb dX1_holdsAt_10 rfl (lv_at hl 0 rfl) ?_
  refine lv_aload_n hx hb dX1_holdsAt_11 rfl (lv_at hl 1 rfl) ?_
  refine lv_iload_n hx hb dX1_holdsAt_12 rfl (lv_at hl 2 rfl) ?_
  refine lv_iconst (v := 1) hx hb dX1_holdsAt_13 (by decide) ?_
  refine ct_V (wr := []) hSF hl.1 hP hD hS hA hK hGV (c409_X1_holdsAlong l hfl D cA g h0 h1 h16 h17 h18 h19 h20 h21 h22 h23 h24 h25 h2 h3 h4 h5 h6 h7 h8 h9 h10 h11 h12 h13 h14 h15) goV_X1_185 pd_X1_holdsAlong ⟨(Nat.le_of_ble_eq_true rfl), (Nat.le_of_ble_eq_true rfl)⟩ ⟨(Nat.le_of_ble_eq_true rfl), (Nat.le_of_ble_eq_true rfl)⟩ (va_recv hK hP (ci := 4) (q0 := 1) rfl rfl) dX1_holdsAt_14 rfl (Nat.le_of_ble_eq_true rfl) [0, 1] [] rfl (by decide) rfl (by decide) (by decide) (fun q => [(h1, .inr (5, [.int 0, .int 0, .ref h16, .ref h17, .ref h18, .ref h19, .ref h20, .ref h21, .ref h22, .ref h23, .ref h24, .ref h25])), (h0, .inr (4, [.int 1, .int 46, .long 1, .ref h2, .ref h3, .ref h4, .ref h5, .ref h6, .ref h7, .ref h8, .ref h9, .ref h10, .ref h11, .ref h12, .ref h13, .ref h14, .ref h15]))]) (fun _ => rfl) (fun q2 H locs hP hD hS => ?_)
  refine W.eq (g2 := F0 m 17 ls [.int 1]) rfl ?_
  refine k_if_eq_f (tgt := 24) hx hb dX1_holdsAt_17 (by decide) (by decide) ?_
  refine lv_iconst (v := 1) hx hb dX1_holdsAt_20 (by decide) ?_
  refine lv_goto (tgt := 25) hx hb dX1_holdsAt_21 (by decide) ?_
  exact e_i (fun _ => 0) hx hb hr hlocks rfl rfl (hP.sub [1, 0] rfl) (hD.sub [1, 0] (by decide) rfl) hS (Nat.le_of_ble_eq_true rfl) (Nat.le_of_ble_eq_true rfl) dX1_holdsAt_25
set_option maxHeartbeats 4000000 in
set_option maxRecDepth 100000 in
theorem c411_X1_holdsAlong (l : Launch) (hfl : l.stackTraces = false) (D : va_G) (cA : Nat → ClassId) (g : gv_T) (h0 h1 h2 h3 h4 h5 h6 h7 h8 h9 h10 h11 h12 h13 h14 h15 h16 h17 h18 h19 h20 h21 h22 h23 h24 h25 : Nat) : CT l yX1_holdsAlong cX1_holdsAlong 12 (some .boolean) (RM 0 0 0 0) D cA g [.ref h0, .ref h1, .int 15, .int 0] [(h1, .inr (5, [.int 0, .int 0, .ref h2, .ref h3, .ref h4, .ref h5, .ref h6, .ref h7, .ref h8, .ref h9, .ref h10, .ref h11])), (h0, .inr (4, [.int 1, .int 46, .long 1, .ref h12, .ref h13, .ref h14, .ref h15, .ref h16, .ref h17, .ref h18, .ref h19, .ref h20, .ref h21, .ref h22, .ref h23, .ref h24, .ref h25]))] (fun q => some (.int 1)) (fun q => [(h1, .inr (5, [.int 0, .int 0, .ref h2, .ref h3, .ref h4, .ref h5, .ref h6, .ref h7, .ref h8, .ref h9, .ref h10, .ref h11])), (h0, .inr (4, [.int 1, .int 46, .long 1, .ref h12, .ref h13, .ref h14, .ref h15, .ref h16, .ref h17, .ref h18, .ref h19, .ref h20, .ref h21, .ref h22, .ref h23, .ref h24, .ref h25]))]) := by
  refine CT.of (by decide +kernel) (Nat.le_of_ble_eq_true rfl) ?_
  intro p e s m args below meth c A ls hx hb hr hml hown hG hlocks hnm hA hS hP hK hD hGV hl
  have hown : s.vm.findClass RX1 = some m.cls := hown
  have hl : lv_has ls 12 [(0, .ref h0), (1, .ref h1), (2, .int 15), (3, .int 0)] := hl
  have hSF : CF p m c cX1_holdsAlong 12 s args RX1 := ⟨hx, hb, hml, hown, hG⟩
  refine lv_lconst (v := 0) hx hb dX1_holdsAlong_0 (by decide) ?_
  refine lv_lstore (lv' := [(4, .long 0), (0, .ref h0), (1, .ref h1), (2, .int 15), (3, .int 0)]) hx hb dX1_holdsAlong_1 hl (by decide) rfl (fun ls hl => ?_)
  refine lv_lconst (v := 0) hx hb dX1_holdsAlong_3 (by decide) ?_
  refine lv_lstore (lv' := [(6, .long 0), (4, .long 0), (0, .ref h0), (1, .ref h1), (2, .int 15), (3, .int 0)]) hx hb dX1_holdsAlong_4 hl (by decide) rfl (fun ls hl => ?_)
  refine lv_iconst (v := 0) hx hb dX1_holdsAlong_6 (by decide) ?_
  refine lv_istore (lv' := [(8, .int 0), (6, .long 0), (4, .long 0), (0, .ref h0), (1, .ref h1), (2, .int 15), (3, .int 0)]) hx hb dX1_holdsAlong_7 hl (by decide) rfl (fun ls hl => ?_)
  refine lv_iload hx hb dX1_holdsAlong_9 (lv_at hl 0 rfl) ?_
  refine lv_aload_n hx hb dX1_holdsAlong_11 rfl (lv_at hl 4 rfl) ?_
  refine k_get (ci := 5) (C := RX2) (T := TX2) (N := 12) (v := .int 0) hx hb hG inX2 hown hK hP 0 rfl rfl 0 (by decide) gw128 rfl dX1_holdsAlong_12 ?_
  refine k_icmp_ge_t (tgt := 180) hx hb dX1_holdsAlong_15 (by decide) (by decide) ?_
  refine lv_aload_n hx hb dX1_holdsAlong_180 rfl (lv_at hl 3 rfl) ?_
  refine k_get (ci := 4) (C := RX1) (T := TX1) (N := 17) (v := .long 1) hx hb hG inX1 hown hK hP 1 rfl rfl 2 (by decide) gw201 rfl dX1_holdsAlong_181 ?_
  refine lv_lconst (v := 0) hx hb dX1_holdsAlong_184 (by decide) ?_
  refine k_lcmp (v := 1) hx hb dX1_holdsAlong_185 (by decide +kernel) ?_
  refine k_if_le_f (tgt := 220) hx hb dX1_holdsAlong_186 (by decide) (by decide) ?_
  refine lv_lload hx hb dX1_holdsAlong_189 (lv_at hl 1 rfl) ?_
  refine lv_aload_n hx hb dX1_holdsAlong_191 rfl (lv_at hl 3 rfl) ?_
  refine k_get (ci := 4) (C := RX1) (T := TX1) (N := 17) (v := .long 1) hx hb hG inX1 hown hK hP 1 rfl rfl 2 (by decide) gw201 rfl dX1_holdsAlong_192 ?_
  refine k_lrem (v := 0) hx hb dX1_holdsAlong_195 (by decide +kernel) (by decide +kernel) ?_
  refine lv_lconst (v := 0) hx hb dX1_holdsAlong_196 (by decide) ?_
  refine k_lcmp (v := 0) hx hb dX1_holdsAlong_197 (by decide +kernel) ?_
  refine k_if_ne_f (tgt := 220) hx hb dX1_holdsAlong_198 (by decide) (by decide) ?_
  refine lv_lload hx hb dX1_holdsAlong_201 (lv_at hl 2 rfl) ?_
  refine lv_lload hx hb dX1_holdsAlong_203 (lv_at hl 1 rfl) ?_
  refine lv_aload_n hx hb dX1_holdsAlong_205 rfl (lv_at hl 3 rfl) ?_
  refine k_get (ci := 4) (C := RX1) (T := TX1) (N := 17) (v := .long 1) hx hb hG inX1 hown hK hP 1 rfl rfl 2 (by decide) gw201 rfl dX1_holdsAlong_206 ?_
  refine k_ldiv (v := 0) hx hb dX1_holdsAlong_209 (by decide +kernel) (by decide +kernel) ?_
  refine k_ladd (v := 0) hx hb dX1_holdsAlong_210 (by decide +kernel) ?_
  refine lv_lconst (v := 0) hx hb dX1_holdsAlong_211 (by decide) ?_
  refine k_lcmp (v := 0) hx hb dX1_holdsAlong_212 (by decide +kernel) ?_
  refine k_if_ne_f (tgt := 220) hx hb dX1_holdsAlong_213 (by decide) (by decide) ?_
  refine lv_iconst (v := 1) hx hb dX1_holdsAlong_216 (by decide) ?_
  refine lv_goto (tgt := 221) hx hb dX1_holdsAlong_217 (by decide) ?_
  exact e_i (fun _ => 0) hx hb hr hlocks rfl rfl hP hD hS (Nat.le_of_ble_eq_true rfl) (Nat.le_of_ble_eq_true rfl) dX1_holdsAlong_221
set_option maxHeartbeats 4000000 in
set_option maxRecDepth 100000 in
theorem c412_X1_holdsAlong (l : Launch) (hfl : l.stackTraces = false) (D : va_G) (cA : Nat → ClassId) (g : gv_T) (h0 h1 h2 h3 h4 h5 h6 h7 h8 h9 h10 h11 h12 h13 h14 h15 h16 h17 h18 h19 h20 h21 h22 h23 h24 h25 : Nat) : CT l yX1_holdsAlong cX1_holdsAlong 12 (some .boolean) (RM 0 0 0 0) D cA g [.ref h0, .ref h1, .int 15, .int 1] [(h1, .inr (5, [.int 0, .int 0, .ref h2, .ref h3, .ref h4, .ref h5, .ref h6, .ref h7, .ref h8, .ref h9, .ref h10, .ref h11])), (h0, .inr (4, [.int 1, .int 46, .long 1, .ref h12, .ref h13, .ref h14, .ref h15, .ref h16, .ref h17, .ref h18, .ref h19, .ref h20, .ref h21, .ref h22, .ref h23, .ref h24, .ref h25]))] (fun q => some (.int 1)) (fun q => [(h1, .inr (5, [.int 0, .int 0, .ref h2, .ref h3, .ref h4, .ref h5, .ref h6, .ref h7, .ref h8, .ref h9, .ref h10, .ref h11])), (h0, .inr (4, [.int 1, .int 46, .long 1, .ref h12, .ref h13, .ref h14, .ref h15, .ref h16, .ref h17, .ref h18, .ref h19, .ref h20, .ref h21, .ref h22, .ref h23, .ref h24, .ref h25]))]) := by
  refine CT.of (by decide +kernel) (Nat.le_of_ble_eq_true rfl) ?_
  intro p e s m args below meth c A ls hx hb hr hml hown hG hlocks hnm hA hS hP hK hD hGV hl
  have hown : s.vm.findClass RX1 = some m.cls := hown
  have hl : lv_has ls 12 [(0, .ref h0), (1, .ref h1), (2, .int 15), (3, .int 1)] := hl
  have hSF : CF p m c cX1_holdsAlong 12 s args RX1 := ⟨hx, hb, hml, hown, hG⟩
  refine lv_lconst (v := 0) hx hb dX1_holdsAlong_0 (by decide) ?_
  refine lv_lstore (lv' := [(4, .long 0), (0, .ref h0), (1, .ref h1), (2, .int 15), (3, .int 1)]) hx hb dX1_holdsAlong_1 hl (by decide) rfl (fun ls hl => ?_)
  refine lv_lconst (v := 0) hx hb dX1_holdsAlong_3 (by decide) ?_
  refine lv_lstore (lv' := [(6, .long 0), (4, .long 0), (0, .ref h0), (1, .ref h1), (2, .int 15), (3, .int 1)]) hx hb dX1_holdsAlong_4 hl (by decide) rfl (fun ls hl => ?_)
  refine lv_iconst (v := 0) hx hb dX1_holdsAlong_6 (by decide) ?_
  refine lv_istore (lv' := [(8, .int 0), (6, .long 0), (4, .long 0), (0, .ref h0), (1, .ref h1), (2, .int 15), (3, .int 1)]) hx hb dX1_holdsAlong_7 hl (by decide) rfl (fun ls hl => ?_)
  refine lv_iload hx hb dX1_holdsAlong_9 (lv_at hl 0 rfl) ?_
  refine lv_aload_n hx hb dX1_holdsAlong_11 rfl (lv_at hl 4 rfl) ?_
  refine k_get (ci := 5) (C := RX2) (T := TX2) (N := 12) (v := .int 0) hx hb hG inX2 hown hK hP 0 rfl rfl 0 (by decide) gw128 rfl dX1_holdsAlong_12 ?_
  refine k_icmp_ge_t (tgt := 180) hx hb dX1_holdsAlong_15 (by decide) (by decide) ?_
  refine lv_aload_n hx hb dX1_holdsAlong_180 rfl (lv_at hl 3 rfl) ?_
  refine k_get (ci := 4) (C := RX1) (T := TX1) (N := 17) (v := .long 1) hx hb hG inX1 hown hK hP 1 rfl rfl 2 (by decide) gw201 rfl dX1_holdsAlong_181 ?_
  refine lv_lconst (v := 0) hx hb dX1_holdsAlong_184 (by decide) ?_
  refine k_lcmp (v := 1) hx hb dX1_holdsAlong_185 (by decide +kernel) ?_
  refine k_if_le_f (tgt := 220) hx hb dX1_holdsAlong_186 (by decide) (by decide) ?_
  refine lv_lload hx hb dX1_holdsAlong_189 (lv_at hl 1 rfl) ?_
  refine lv_aload_n hx hb dX1_holdsAlong_191 rfl (lv_at hl 3 rfl) ?_
  refine k_get (ci := 4) (C := RX1) (T := TX1) (N := 17) (v := .long 1) hx hb hG inX1 hown hK hP 1 rfl rfl 2 (by decide) gw201 rfl dX1_holdsAlong_192 ?_
  refine k_lrem (v := 0) hx hb dX1_holdsAlong_195 (by decide +kernel) (by decide +kernel) ?_
  refine lv_lconst (v := 0) hx hb dX1_holdsAlong_196 (by decide) ?_
  refine k_lcmp (v := 0) hx hb dX1_holdsAlong_197 (by decide +kernel) ?_
  refine k_if_ne_f (tgt := 220) hx hb dX1_holdsAlong_198 (by decide) (by decide) ?_
  refine lv_lload hx hb dX1_holdsAlong_201 (lv_at hl 2 rfl) ?_
  refine lv_lload hx hb dX1_holdsAlong_203 (lv_at hl 1 rfl) ?_
  refine lv_aload_n hx hb dX1_holdsAlong_205 rfl (lv_at hl 3 rfl) ?_
  refine k_get (ci := 4) (C := RX1) (T := TX1) (N := 17) (v := .long 1) hx hb hG inX1 hown hK hP 1 rfl rfl 2 (by decide) gw201 rfl dX1_holdsAlong_206 ?_
  refine k_ldiv (v := 0) hx hb dX1_holdsAlong_209 (by decide +kernel) (by decide +kernel) ?_
  refine k_ladd (v := 0) hx hb dX1_holdsAlong_210 (by decide +kernel) ?_
  refine lv_lconst (v := 0) hx hb dX1_holdsAlong_211 (by decide) ?_
  refine k_lcmp (v := 0) hx hb dX1_holdsAlong_212 (by decide +kernel) ?_
  refine k_if_ne_f (tgt := 220) hx hb dX1_holdsAlong_213 (by decide) (by decide) ?_
  refine lv_iconst (v := 1) hx hb dX1_holdsAlong_216 (by decide) ?_
  refine lv_goto (tgt := 221) hx hb dX1_holdsAlong_217 (by decide) ?_
  exact e_i (fun _ => 0) hx hb hr hlocks rfl rfl hP hD hS (Nat.le_of_ble_eq_true rfl) (Nat.le_of_ble_eq_true rfl) dX1_holdsAlong_221
set_option maxHeartbeats 4000000 in
set_option maxRecDepth 100000 in
theorem c413_X1_holdsAt (l : Launch) (hfl : l.stackTraces = false) (D : va_G) (cA : Nat → ClassId) (g : gv_T) (h0 h1 h2 h3 h4 h5 h6 h7 h8 h9 h10 h11 h12 h13 h14 h15 h16 h17 h18 h19 h20 h21 h22 h23 h24 h25 : Nat) : CT l yX1_holdsAt cX1_holdsAt 3 (some .boolean) (RM 1 0 0 31) D cA g [.ref h0, .ref h1, .int 15] [(h0, .inr (4, [.int 1, .int 46, .long 1, .ref h2, .ref h3, .ref h4, .ref h5, .ref h6, .ref h7, .ref h8, .ref h9, .ref h10, .ref h11, .ref h12, .ref h13, .ref h14, .ref h15])), (h1, .inr (5, [.int 0, .int 0, .ref h16, .ref h17, .ref h18, .ref h19, .ref h20, .ref h21, .ref h22, .ref h23, .ref h24, .ref h25]))] (fun q => some (.int 1)) (fun q => [(h0, .inr (4, [.int 1, .int 46, .long 1, .ref h2, .ref h3, .ref h4, .ref h5, .ref h6, .ref h7, .ref h8, .ref h9, .ref h10, .ref h11, .ref h12, .ref h13, .ref h14, .ref h15])), (h1, .inr (5, [.int 0, .int 0, .ref h16, .ref h17, .ref h18, .ref h19, .ref h20, .ref h21, .ref h22, .ref h23, .ref h24, .ref h25]))]) := by
  refine CT.of (by decide +kernel) (Nat.le_of_ble_eq_true rfl) ?_
  intro p e s m args below meth c A ls hx hb hr hml hown hG hlocks hnm hA hS hP hK hD hGV hl
  have hown : s.vm.findClass RX1 = some m.cls := hown
  have hl : lv_has ls 3 [(0, .ref h0), (1, .ref h1), (2, .int 15)] := hl
  have hSF : CF p m c cX1_holdsAt 3 s args RX1 := ⟨hx, hb, hml, hown, hG⟩
  refine lv_aload_n hx hb dX1_holdsAt_0 rfl (lv_at hl 0 rfl) ?_
  refine lv_aload_n hx hb dX1_holdsAt_1 rfl (lv_at hl 1 rfl) ?_
  refine lv_iload_n hx hb dX1_holdsAt_2 rfl (lv_at hl 2 rfl) ?_
  refine lv_iconst (v := 0) hx hb dX1_holdsAt_3 (by decide) ?_
  refine ct_V (wr := []) hSF hl.1 hP hD hS hA hK hGV (c411_X1_holdsAlong l hfl D cA g h0 h1 h16 h17 h18 h19 h20 h21 h22 h23 h24 h25 h2 h3 h4 h5 h6 h7 h8 h9 h10 h11 h12 h13 h14 h15) goV_X1_185 pd_X1_holdsAlong ⟨(Nat.le_of_ble_eq_true rfl), (Nat.le_of_ble_eq_true rfl)⟩ ⟨(Nat.le_of_ble_eq_true rfl), (Nat.le_of_ble_eq_true rfl)⟩ (va_recv hK hP (ci := 4) (q0 := 0) rfl rfl) dX1_holdsAt_4 rfl (Nat.le_of_ble_eq_true rfl) [1, 0] [] rfl (by decide) rfl (by decide) (by decide) (fun q => [(h1, .inr (5, [.int 0, .int 0, .ref h16, .ref h17, .ref h18, .ref h19, .ref h20, .ref h21, .ref h22, .ref h23, .ref h24, .ref h25])), (h0, .inr (4, [.int 1, .int 46, .long 1, .ref h2, .ref h3, .ref h4, .ref h5, .ref h6, .ref h7, .ref h8, .ref h9, .ref h10, .ref h11, .ref h12, .ref h13, .ref h14, .ref h15]))]) (fun _ => rfl) (fun q1 H locs hP hD hS => ?_)
  refine W.eq (g2 := F0 m 7 ls [.int 1]) rfl ?_
  refine k_if_eq_f (tgt := 24) hx hb dX1_holdsAt_7 (by decide) (by decide) ?_
  refine lv_aload_n hx hb dX1_holdsAt_10 rfl (lv_at hl 0 rfl) ?_
  refine lv_aload_n hx hb dX1_holdsAt_11 rfl (lv_at hl 1 rfl) ?_
  refine lv_iload_n hx hb dX1_holdsAt_12 rfl (lv_at hl 2 rfl) ?_
  refine lv_iconst (v := 1) hx hb dX1_holdsAt_13 (by decide) ?_
  refine ct_V (wr := []) hSF hl.1 hP hD hS hA hK hGV (c412_X1_holdsAlong l hfl D cA g h0 h1 h16 h17 h18 h19 h20 h21 h22 h23 h24 h25 h2 h3 h4 h5 h6 h7 h8 h9 h10 h11 h12 h13 h14 h15) goV_X1_185 pd_X1_holdsAlong ⟨(Nat.le_of_ble_eq_true rfl), (Nat.le_of_ble_eq_true rfl)⟩ ⟨(Nat.le_of_ble_eq_true rfl), (Nat.le_of_ble_eq_true rfl)⟩ (va_recv hK hP (ci := 4) (q0 := 1) rfl rfl) dX1_holdsAt_14 rfl (Nat.le_of_ble_eq_true rfl) [0, 1] [] rfl (by decide) rfl (by decide) (by decide) (fun q => [(h1, .inr (5, [.int 0, .int 0, .ref h16, .ref h17, .ref h18, .ref h19, .ref h20, .ref h21, .ref h22, .ref h23, .ref h24, .ref h25])), (h0, .inr (4, [.int 1, .int 46, .long 1, .ref h2, .ref h3, .ref h4, .ref h5, .ref h6, .ref h7, .ref h8, .ref h9, .ref h10, .ref h11, .ref h12, .ref h13, .ref h14, .ref h15]))]) (fun _ => rfl) (fun q2 H locs hP hD hS => ?_)
  refine W.eq (g2 := F0 m 17 ls [.int 1]) rfl ?_
  refine k_if_eq_f (tgt := 24) hx hb dX1_holdsAt_17 (by decide) (by decide) ?_
  refine lv_iconst (v := 1) hx hb dX1_holdsAt_20 (by decide) ?_
  refine lv_goto (tgt := 25) hx hb dX1_holdsAt_21 (by decide) ?_
  exact e_i (fun _ => 0) hx hb hr hlocks rfl rfl (hP.sub [1, 0] rfl) (hD.sub [1, 0] (by decide) rfl) hS (Nat.le_of_ble_eq_true rfl) (Nat.le_of_ble_eq_true rfl) dX1_holdsAt_25
set_option maxHeartbeats 4000000 in
set_option maxRecDepth 100000 in
theorem c414_X1_holdsAlong (l : Launch) (hfl : l.stackTraces = false) (D : va_G) (cA : Nat → ClassId) (g : gv_T) (h0 h1 h2 h3 h4 h5 h6 h7 h8 h9 h10 h11 h12 h13 h14 h15 h16 h17 h18 h19 h20 h21 h22 h23 h24 h25 : Nat) : CT l yX1_holdsAlong cX1_holdsAlong 12 (some .boolean) (RM 0 0 0 0) D cA g [.ref h0, .ref h1, .int 16, .int 0] [(h1, .inr (5, [.int 0, .int 0, .ref h2, .ref h3, .ref h4, .ref h5, .ref h6, .ref h7, .ref h8, .ref h9, .ref h10, .ref h11])), (h0, .inr (4, [.int 1, .int 46, .long 1, .ref h12, .ref h13, .ref h14, .ref h15, .ref h16, .ref h17, .ref h18, .ref h19, .ref h20, .ref h21, .ref h22, .ref h23, .ref h24, .ref h25]))] (fun q => some (.int 1)) (fun q => [(h1, .inr (5, [.int 0, .int 0, .ref h2, .ref h3, .ref h4, .ref h5, .ref h6, .ref h7, .ref h8, .ref h9, .ref h10, .ref h11])), (h0, .inr (4, [.int 1, .int 46, .long 1, .ref h12, .ref h13, .ref h14, .ref h15, .ref h16, .ref h17, .ref h18, .ref h19, .ref h20, .ref h21, .ref h22, .ref h23, .ref h24, .ref h25]))]) := by
  refine CT.of (by decide +kernel) (Nat.le_of_ble_eq_true rfl) ?_
  intro p e s m args below meth c A ls hx hb hr hml hown hG hlocks hnm hA hS hP hK hD hGV hl
  have hown : s.vm.findClass RX1 = some m.cls := hown
  have hl : lv_has ls 12 [(0, .ref h0), (1, .ref h1), (2, .int 16), (3, .int 0)] := hl
  have hSF : CF p m c cX1_holdsAlong 12 s args RX1 := ⟨hx, hb, hml, hown, hG⟩
  refine lv_lconst (v := 0) hx hb dX1_holdsAlong_0 (by decide) ?_
  refine lv_lstore (lv' := [(4, .long 0), (0, .ref h0), (1, .ref h1), (2, .int 16), (3, .int 0)]) hx hb dX1_holdsAlong_1 hl (by decide) rfl (fun ls hl => ?_)
  refine lv_lconst (v := 0) hx hb dX1_holdsAlong_3 (by decide) ?_
  refine lv_lstore (lv' := [(6, .long 0), (4, .long 0), (0, .ref h0), (1, .ref h1), (2, .int 16), (3, .int 0)]) hx hb dX1_holdsAlong_4 hl (by decide) rfl (fun ls hl => ?_)
  refine lv_iconst (v := 0) hx hb dX1_holdsAlong_6 (by decide) ?_
  refine lv_istore (lv' := [(8, .int 0), (6, .long 0), (4, .long 0), (0, .ref h0), (1, .ref h1), (2, .int 16), (3, .int 0)]) hx hb dX1_holdsAlong_7 hl (by decide) rfl (fun ls hl => ?_)
  refine lv_iload hx hb dX1_holdsAlong_9 (lv_at hl 0 rfl) ?_
  refine lv_aload_n hx hb dX1_holdsAlong_11 rfl (lv_at hl 4 rfl) ?_
  refine k_get (ci := 5) (C := RX2) (T := TX2) (N := 12) (v := .int 0) hx hb hG inX2 hown hK hP 0 rfl rfl 0 (by decide) gw128 rfl dX1_holdsAlong_12 ?_
  refine k_icmp_ge_t (tgt := 180) hx hb dX1_holdsAlong_15 (by decide) (by decide) ?_
  refine lv_aload_n hx hb dX1_holdsAlong_180 rfl (lv_at hl 3 rfl) ?_
  refine k_get (ci := 4) (C := RX1) (T := TX1) (N := 17) (v := .long 1) hx hb hG inX1 hown hK hP 1 rfl rfl 2 (by decide) gw201 rfl dX1_holdsAlong_181 ?_
  refine lv_lconst (v := 0) hx hb dX1_holdsAlong_184 (by decide) ?_
  refine k_lcmp (v := 1) hx hb dX1_holdsAlong_185 (by decide +kernel) ?_
  refine k_if_le_f (tgt := 220) hx hb dX1_holdsAlong_186 (by decide) (by decide) ?_
  refine lv_lload hx hb dX1_holdsAlong_189 (lv_at hl 1 rfl) ?_
  refine lv_aload_n hx hb dX1_holdsAlong_191 rfl (lv_at hl 3 rfl) ?_
  refine k_get (ci := 4) (C := RX1) (T := TX1) (N := 17) (v := .long 1) hx hb hG inX1 hown hK hP 1 rfl rfl 2 (by decide) gw201 rfl dX1_holdsAlong_192 ?_
  refine k_lrem (v := 0) hx hb dX1_holdsAlong_195 (by decide +kernel) (by decide +kernel) ?_
  refine lv_lconst (v := 0) hx hb dX1_holdsAlong_196 (by decide) ?_
  refine k_lcmp (v := 0) hx hb dX1_holdsAlong_197 (by decide +kernel) ?_
  refine k_if_ne_f (tgt := 220) hx hb dX1_holdsAlong_198 (by decide) (by decide) ?_
  refine lv_lload hx hb dX1_holdsAlong_201 (lv_at hl 2 rfl) ?_
  refine lv_lload hx hb dX1_holdsAlong_203 (lv_at hl 1 rfl) ?_
  refine lv_aload_n hx hb dX1_holdsAlong_205 rfl (lv_at hl 3 rfl) ?_
  refine k_get (ci := 4) (C := RX1) (T := TX1) (N := 17) (v := .long 1) hx hb hG inX1 hown hK hP 1 rfl rfl 2 (by decide) gw201 rfl dX1_holdsAlong_206 ?_
  refine k_ldiv (v := 0) hx hb dX1_holdsAlong_209 (by decide +kernel) (by decide +kernel) ?_
  refine k_ladd (v := 0) hx hb dX1_holdsAlong_210 (by decide +kernel) ?_
  refine lv_lconst (v := 0) hx hb dX1_holdsAlong_211 (by decide) ?_
  refine k_lcmp (v := 0) hx hb dX1_holdsAlong_212 (by decide +kernel) ?_
  refine k_if_ne_f (tgt := 220) hx hb dX1_holdsAlong_213 (by decide) (by decide) ?_
  refine lv_iconst (v := 1) hx hb dX1_holdsAlong_216 (by decide) ?_
  refine lv_goto (tgt := 221) hx hb dX1_holdsAlong_217 (by decide) ?_
  exact e_i (fun _ => 0) hx hb hr hlocks rfl rfl hP hD hS (Nat.le_of_ble_eq_true rfl) (Nat.le_of_ble_eq_true rfl) dX1_holdsAlong_221
set_option maxHeartbeats 4000000 in
set_option maxRecDepth 100000 in
theorem c415_X1_holdsAlong (l : Launch) (hfl : l.stackTraces = false) (D : va_G) (cA : Nat → ClassId) (g : gv_T) (h0 h1 h2 h3 h4 h5 h6 h7 h8 h9 h10 h11 h12 h13 h14 h15 h16 h17 h18 h19 h20 h21 h22 h23 h24 h25 : Nat) : CT l yX1_holdsAlong cX1_holdsAlong 12 (some .boolean) (RM 0 0 0 0) D cA g [.ref h0, .ref h1, .int 16, .int 1] [(h1, .inr (5, [.int 0, .int 0, .ref h2, .ref h3, .ref h4, .ref h5, .ref h6, .ref h7, .ref h8, .ref h9, .ref h10, .ref h11])), (h0, .inr (4, [.int 1, .int 46, .long 1, .ref h12, .ref h13, .ref h14, .ref h15, .ref h16, .ref h17, .ref h18, .ref h19, .ref h20, .ref h21, .ref h22, .ref h23, .ref h24, .ref h25]))] (fun q => some (.int 1)) (fun q => [(h1, .inr (5, [.int 0, .int 0, .ref h2, .ref h3, .ref h4, .ref h5, .ref h6, .ref h7, .ref h8, .ref h9, .ref h10, .ref h11])), (h0, .inr (4, [.int 1, .int 46, .long 1, .ref h12, .ref h13, .ref h14, .ref h15, .ref h16, .ref h17, .ref h18, .ref h19, .ref h20, .ref h21, .ref h22, .ref h23, .ref h24, .ref h25]))]) := by
  refine CT.of (by decide +kernel) (Nat.le_of_ble_eq_true rfl) ?_
  intro p e s m args below meth c A ls hx hb hr hml hown hG hlocks hnm hA hS hP hK hD hGV hl
  have hown : s.vm.findClass RX1 = some m.cls := hown
  have hl : lv_has ls 12 [(0, .ref h0), (1, .ref h1), (2, .int 16), (3, .int 1)] := hl
  have hSF : CF p m c cX1_holdsAlong 12 s args RX1 := ⟨hx, hb, hml, hown, hG⟩
  refine lv_lconst (v := 0) hx hb dX1_holdsAlong_0 (by decide) ?_
  refine lv_lstore (lv' := [(4, .long 0), (0, .ref h0), (1, .ref h1), (2, .int 16), (3, .int 1)]) hx hb dX1_holdsAlong_1 hl (by decide) rfl (fun ls hl => ?_)
  refine lv_lconst (v := 0) hx hb dX1_holdsAlong_3 (by decide) ?_
  refine lv_lstore (lv' := [(6, .long 0), (4, .long 0), (0, .ref h0), (1, .ref h1), (2, .int 16), (3, .int 1)]) hx hb dX1_holdsAlong_4 hl (by decide) rfl (fun ls hl => ?_)
  refine lv_iconst (v := 0) hx hb dX1_holdsAlong_6 (by decide) ?_
  refine lv_istore (lv' := [(8, .int 0), (6, .long 0), (4, .long 0), (0, .ref h0), (1, .ref h1), (2, .int 16), (3, .int 1)]) hx hb dX1_holdsAlong_7 hl (by decide) rfl (fun ls hl => ?_)
  refine lv_iload hx hb dX1_holdsAlong_9 (lv_at hl 0 rfl) ?_
  refine lv_aload_n hx hb dX1_holdsAlong_11 rfl (lv_at hl 4 rfl) ?_
  refine k_get (ci := 5) (C := RX2) (T := TX2) (N := 12) (v := .int 0) hx hb hG inX2 hown hK hP 0 rfl rfl 0 (by decide) gw128 rfl dX1_holdsAlong_12 ?_
  refine k_icmp_ge_t (tgt := 180) hx hb dX1_holdsAlong_15 (by decide) (by decide) ?_
  refine lv_aload_n hx hb dX1_holdsAlong_180 rfl (lv_at hl 3 rfl) ?_
  refine k_get (ci := 4) (C := RX1) (T := TX1) (N := 17) (v := .long 1) hx hb hG inX1 hown hK hP 1 rfl rfl 2 (by decide) gw201 rfl dX1_holdsAlong_181 ?_
  refine lv_lconst (v := 0) hx hb dX1_holdsAlong_184 (by decide) ?_
  refine k_lcmp (v := 1) hx hb dX1_holdsAlong_185 (by decide +kernel) ?_
  refine k_if_le_f (tgt := 220) hx hb dX1_holdsAlong_186 (by decide) (by decide) ?_
  refine lv_lload hx hb dX1_holdsAlong_189 (lv_at hl 1 rfl) ?_
  refine lv_aload_n hx hb dX1_holdsAlong_191 rfl (lv_at hl 3 rfl) ?_
  refine k_get (ci := 4) (C := RX1) (T := TX1) (N := 17) (v := .long 1) hx hb hG inX1 hown hK hP 1 rfl rfl 2 (by decide) gw201 rfl dX1_holdsAlong_192 ?_
  refine k_lrem (v := 0) hx hb dX1_holdsAlong_195 (by decide +kernel) (by decide +kernel) ?_
  refine lv_lconst (v := 0) hx hb dX1_holdsAlong_196 (by decide) ?_
  refine k_lcmp (v := 0) hx hb dX1_holdsAlong_197 (by decide +kernel) ?_
  refine k_if_ne_f (tgt := 220) hx hb dX1_holdsAlong_198 (by decide) (by decide) ?_
  refine lv_lload hx hb dX1_holdsAlong_201 (lv_at hl 2 rfl) ?_
  refine lv_lload hx hb dX1_holdsAlong_203 (lv_at hl 1 rfl) ?_
  refine lv_aload_n hx hb dX1_holdsAlong_205 rfl (lv_at hl 3 rfl) ?_
  refine k_get (ci := 4) (C := RX1) (T := TX1) (N := 17) (v := .long 1) hx hb hG inX1 hown hK hP 1 rfl rfl 2 (by decide) gw201 rfl dX1_holdsAlong_206 ?_
  refine k_ldiv (v := 0) hx hb dX1_holdsAlong_209 (by decide +kernel) (by decide +kernel) ?_
  refine k_ladd (v := 0) hx hb dX1_holdsAlong_210 (by decide +kernel) ?_
  refine lv_lconst (v := 0) hx hb dX1_holdsAlong_211 (by decide) ?_
  refine k_lcmp (v := 0) hx hb dX1_holdsAlong_212 (by decide +kernel) ?_
  refine k_if_ne_f (tgt := 220) hx hb dX1_holdsAlong_213 (by decide) (by decide) ?_
  refine lv_iconst (v := 1) hx hb dX1_holdsAlong_216 (by decide) ?_
  refine lv_goto (tgt := 221) hx hb dX1_holdsAlong_217 (by decide) ?_
  exact e_i (fun _ => 0) hx hb hr hlocks rfl rfl hP hD hS (Nat.le_of_ble_eq_true rfl) (Nat.le_of_ble_eq_true rfl) dX1_holdsAlong_221
set_option maxHeartbeats 4000000 in
set_option maxRecDepth 100000 in
theorem c416_X1_holdsAt (l : Launch) (hfl : l.stackTraces = false) (D : va_G) (cA : Nat → ClassId) (g : gv_T) (h0 h1 h2 h3 h4 h5 h6 h7 h8 h9 h10 h11 h12 h13 h14 h15 h16 h17 h18 h19 h20 h21 h22 h23 h24 h25 : Nat) : CT l yX1_holdsAt cX1_holdsAt 3 (some .boolean) (RM 1 0 0 31) D cA g [.ref h0, .ref h1, .int 16] [(h0, .inr (4, [.int 1, .int 46, .long 1, .ref h2, .ref h3, .ref h4, .ref h5, .ref h6, .ref h7, .ref h8, .ref h9, .ref h10, .ref h11, .ref h12, .ref h13, .ref h14, .ref h15])), (h1, .inr (5, [.int 0, .int 0, .ref h16, .ref h17, .ref h18, .ref h19, .ref h20, .ref h21, .ref h22, .ref h23, .ref h24, .ref h25]))] (fun q => some (.int 1)) (fun q => [(h0, .inr (4, [.int 1, .int 46, .long 1, .ref h2, .ref h3, .ref h4, .ref h5, .ref h6, .ref h7, .ref h8, .ref h9, .ref h10, .ref h11, .ref h12, .ref h13, .ref h14, .ref h15])), (h1, .inr (5, [.int 0, .int 0, .ref h16, .ref h17, .ref h18, .ref h19, .ref h20, .ref h21, .ref h22, .ref h23, .ref h24, .ref h25]))]) := by
  refine CT.of (by decide +kernel) (Nat.le_of_ble_eq_true rfl) ?_
  intro p e s m args below meth c A ls hx hb hr hml hown hG hlocks hnm hA hS hP hK hD hGV hl
  have hown : s.vm.findClass RX1 = some m.cls := hown
  have hl : lv_has ls 3 [(0, .ref h0), (1, .ref h1), (2, .int 16)] := hl
  have hSF : CF p m c cX1_holdsAt 3 s args RX1 := ⟨hx, hb, hml, hown, hG⟩
  refine lv_aload_n hx hb dX1_holdsAt_0 rfl (lv_at hl 0 rfl) ?_
  refine lv_aload_n hx hb dX1_holdsAt_1 rfl (lv_at hl 1 rfl) ?_
  refine lv_iload_n hx hb dX1_holdsAt_2 rfl (lv_at hl 2 rfl) ?_
  refine lv_iconst (v := 0) hx hb dX1_holdsAt_3 (by decide) ?_
  refine ct_V (wr := []) hSF hl.1 hP hD hS hA hK hGV (c414_X1_holdsAlong l hfl D cA g h0 h1 h16 h17 h18 h19 h20 h21 h22 h23 h24 h25 h2 h3 h4 h5 h6 h7 h8 h9 h10 h11 h12 h13 h14 h15) goV_X1_185 pd_X1_holdsAlong ⟨(Nat.le_of_ble_eq_true rfl), (Nat.le_of_ble_eq_true rfl)⟩ ⟨(Nat.le_of_ble_eq_true rfl), (Nat.le_of_ble_eq_true rfl)⟩ (va_recv hK hP (ci := 4) (q0 := 0) rfl rfl) dX1_holdsAt_4 rfl (Nat.le_of_ble_eq_true rfl) [1, 0] [] rfl (by decide) rfl (by decide) (by decide) (fun q => [(h1, .inr (5, [.int 0, .int 0, .ref h16, .ref h17, .ref h18, .ref h19, .ref h20, .ref h21, .ref h22, .ref h23, .ref h24, .ref h25])), (h0, .inr (4, [.int 1, .int 46, .long 1, .ref h2, .ref h3, .ref h4, .ref h5, .ref h6, .ref h7, .ref h8, .ref h9, .ref h10, .ref h11, .ref h12, .ref h13, .ref h14, .ref h15]))]) (fun _ => rfl) (fun q1 H locs hP hD hS => ?_)
  refine W.eq (g2 := F0 m 7 ls [.int 1]) rfl ?_
  refine k_if_eq_f (tgt := 24) hx hb dX1_holdsAt_7 (by decide) (by decide) ?_
  refine lv_aload_n hx hb dX1_holdsAt_10 rfl (lv_at hl 0 rfl) ?_
  refine lv_aload_n hx hb dX1_holdsAt_11 rfl (lv_at hl 1 rfl) ?_
  refine lv_iload_n hx hb dX1_holdsAt_12 rfl (lv_at hl 2 rfl) ?_
  refine lv_iconst (v := 1) hx hb dX1_holdsAt_13 (by decide) ?_
  refine ct_V (wr := []) hSF hl.1 hP hD hS hA hK hGV (c415_X1_holdsAlong l hfl D cA g h0 h1 h16 h17 h18 h19 h20 h21 h22 h23 h24 h25 h2 h3 h4 h5 h6 h7 h8 h9 h10 h11 h12 h13 h14 h15) goV_X1_185 pd_X1_holdsAlong ⟨(Nat.le_of_ble_eq_true rfl), (Nat.le_of_ble_eq_true rfl)⟩ ⟨(Nat.le_of_ble_eq_true rfl), (Nat.le_of_ble_eq_true rfl)⟩ (va_recv hK hP (ci := 4) (q0 := 1) rfl rfl) dX1_holdsAt_14 rfl (Nat.le_of_ble_eq_true rfl) [0, 1] [] rfl (by decide) rfl (by decide) (by decide) (fun q => [(h1, .inr (5, [.int 0, .int 0, .ref h16, .ref h17, .ref h18, .ref h19, .ref h20, .ref h21, .ref h22, .ref h23, .ref h24, .ref h25])), (h0, .inr (4, [.int 1, .int 46, .long 1, .ref h2, .ref h3, .ref h4, .ref h5, .ref h6, .ref h7, .ref h8, .ref h9, .ref h10, .ref h11, .ref h12, .ref h13, .ref h14, .ref h15]))]) (fun _ => rfl) (fun q2 H locs hP hD hS => ?_)
  refine W.eq (g2 := F0 m 17 ls [.int 1]) rfl ?_
  refine k_if_eq_f (tgt := 24) hx hb dX1_holdsAt_17 (by decide) (by decide) ?_
  refine lv_iconst (v := 1) hx hb dX1_holdsAt_20 (by decide) ?_
  refine lv_goto (tgt := 25) hx hb dX1_holdsAt_21 (by decide) ?_
  exact e_i (fun _ => 0) hx hb hr hlocks rfl rfl (hP.sub [1, 0] rfl) (hD.sub [1, 0] (by decide) rfl) hS (Nat.le_of_ble_eq_true rfl) (Nat.le_of_ble_eq_true rfl) dX1_holdsAt_25
set_option maxHeartbeats 4000000 in
set_option maxRecDepth 100000 in
theorem c417_X1_holdsAlong (l : Launch) (hfl : l.stackTraces = false) (D : va_G) (cA : Nat → ClassId) (g : gv_T) (h0 h1 h2 h3 h4 h5 h6 h7 h8 h9 h10 h11 h12 h13 h14 h15 h16 h17 h18 h19 h20 h21 h22 h23 h24 h25 : Nat) : CT l yX1_holdsAlong cX1_holdsAlong 12 (some .boolean) (RM 0 0 0 0) D cA g [.ref h0, .ref h1, .int 17, .int 0] [(h1, .inr (5, [.int 0, .int 0, .ref h2, .ref h3, .ref h4, .ref h5, .ref h6, .ref h7, .ref h8, .ref h9, .ref h10, .ref h11])), (h0, .inr (4, [.int 1, .int 46, .long 1, .ref h12, .ref h13, .ref h14, .ref h15, .ref h16, .ref h17, .ref h18, .ref h19, .ref h20, .ref h21, .ref h22, .ref h23, .ref h24, .ref h25]))] (fun q => some (.int 1)) (fun q => [(h1, .inr (5, [.int 0, .int 0, .ref h2, .ref h3, .ref h4, .ref h5, .ref h6, .ref h7, .ref h8, .ref h9, .ref h10, .ref h11])), (h0, .inr (4, [.int 1, .int 46, .long 1, .ref h12, .ref h13, .ref h14, .ref h15, .ref h16, .ref h17, .ref h18, .ref h19, .ref h20, .ref h21, .ref h22, .ref h23, .ref h24, .ref h25]))]) := by
  refine CT.of (by decide +kernel) (Nat.le_of_ble_eq_true rfl) ?_
  intro p e s m args below meth c A ls hx hb hr hml hown hG hlocks hnm hA hS hP hK hD hGV hl
  have hown : s.vm.findClass RX1 = some m.cls := hown
  have hl : lv_has ls 12 [(0, .ref h0), (1, .ref h1), (2, .int 17), (3, .int 0)] := hl
  have hSF : CF p m c cX1_holdsAlong 12 s args RX1 := ⟨hx, hb, hml, hown, hG⟩
  refine lv_lconst (v := 0) hx hb dX1_holdsAlong_0 (by decide) ?_
  refine lv_lstore (lv' := [(4, .long 0), (0, .ref h0), (1, .ref h1), (2, .int 17), (3, .int 0)]) hx hb dX1_holdsAlong_1 hl (by decide) rfl (fun ls hl => ?_)
  refine lv_lconst (v := 0) hx hb dX1_holdsAlong_3 (by decide) ?_
  refine lv_lstore (lv' := [(6, .long 0), (4, .long 0), (0, .ref h0), (1, .ref h1), (2, .int 17), (3, .int 0)]) hx hb dX1_holdsAlong_4 hl (by decide) rfl (fun ls hl => ?_)
  refine lv_iconst (v := 0) hx hb dX1_holdsAlong_6 (by decide) ?_
  refine lv_istore (lv' := [(8, .int 0), (6, .long 0), (4, .long 0), (0, .ref h0), (1, .ref h1), (2, .int 17), (3, .int 0)]) hx hb dX1_holdsAlong_7 hl (by decide) rfl (fun ls hl => ?_)
  refine lv_iload hx hb dX1_holdsAlong_9 (lv_at hl 0 rfl) ?_
  refine lv_aload_n hx hb dX1_holdsAlong_11 rfl (lv_at hl 4 rfl) ?_
  refine k_get (ci := 5) (C := RX2) (T := TX2) (N := 12) (v := .int 0) hx hb hG inX2 hown hK hP 0 rfl rfl 0 (by decide) gw128 rfl dX1_holdsAlong_12 ?_
  refine k_icmp_ge_t (tgt := 180) hx hb dX1_holdsAlong_15 (by decide) (by decide) ?_
  refine lv_aload_n hx hb dX1_holdsAlong_180 rfl (lv_at hl 3 rfl) ?_
  refine k_get (ci := 4) (C := RX1) (T := TX1) (N := 17) (v := .long 1) hx hb hG inX1 hown hK hP 1 rfl rfl 2 (by decide) gw201 rfl dX1_holdsAlong_181 ?_
  refine lv_lconst (v := 0) hx hb dX1_holdsAlong_184 (by decide) ?_
  refine k_lcmp (v := 1) hx hb dX1_holdsAlong_185 (by decide +kernel) ?_
  refine k_if_le_f (tgt := 220) hx hb dX1_holdsAlong_186 (by decide) (by decide) ?_
  refine lv_lload hx hb dX1_holdsAlong_189 (lv_at hl 1 rfl) ?_
  refine lv_aload_n hx hb dX1_holdsAlong_191 rfl (lv_at hl 3 rfl) ?_
  refine k_get (ci := 4) (C := RX1) (T := TX1) (N := 17) (v := .long 1) hx hb hG inX1 hown hK hP 1 rfl rfl 2 (by decide) gw201 rfl dX1_holdsAlong_192 ?_
  refine k_lrem (v := 0) hx hb dX1_holdsAlong_195 (by decide +kernel) (by decide +kernel) ?_
  refine lv_lconst (v := 0) hx hb dX1_holdsAlong_196 (by decide) ?_
  refine k_lcmp (v := 0) hx hb dX1_holdsAlong_197 (by decide +kernel) ?_
  refine k_if_ne_f (tgt := 220) hx hb dX1_holdsAlong_198 (by decide) (by decide) ?_
  refine lv_lload hx hb dX1_holdsAlong_201 (lv_at hl 2 rfl) ?_
  refine lv_lload hx hb dX1_holdsAlong_203 (lv_at hl 1 rfl) ?_
  refine lv_aload_n hx hb dX1_holdsAlong_205 rfl (lv_at hl 3 rfl) ?_
  refine k_get (ci := 4) (C := RX1) (T := TX1) (N := 17) (v := .long 1) hx hb hG inX1 hown hK hP 1 rfl rfl 2 (by decide) gw201 rfl dX1_holdsAlong_206 ?_
  refine k_ldiv (v := 0) hx hb dX1_holdsAlong_209 (by decide +kernel) (by decide +kernel) ?_
  refine k_ladd (v := 0) hx hb dX1_holdsAlong_210 (by decide +kernel) ?_
  refine lv_lconst (v := 0) hx hb dX1_holdsAlong_211 (by decide) ?_
  refine k_lcmp (v := 0) hx hb dX1_holdsAlong_212 (by decide +kernel) ?_
  refine k_if_ne_f (tgt := 220) hx hb dX1_holdsAlong_213 (by decide) (by decide) ?_
  refine lv_iconst (v := 1) hx hb dX1_holdsAlong_216 (by decide) ?_
  refine lv_goto (tgt := 221) hx hb dX1_holdsAlong_217 (by decide) ?_
  exact e_i (fun _ => 0) hx hb hr hlocks rfl rfl hP hD hS (Nat.le_of_ble_eq_true rfl) (Nat.le_of_ble_eq_true rfl) dX1_holdsAlong_221
set_option maxHeartbeats 4000000 in
set_option maxRecDepth 100000 in
theorem c418_X1_holdsAlong (l : Launch) (hfl : l.stackTraces = false) (D : va_G) (cA : Nat → ClassId) (g : gv_T) (h0 h1 h2 h3 h4 h5 h6 h7 h8 h9 h10 h11 h12 h13 h14 h15 h16 h17 h18 h19 h20 h21 h22 h23 h24 h25 : Nat) : CT l yX1_holdsAlong cX1_holdsAlong 12 (some .boolean) (RM 0 0 0 0) D cA g [.ref h0, .ref h1, .int 17, .int 1] [(h1, .inr (5, [.int 0, .int 0, .ref h2, .ref h3, .ref h4, .ref h5, .ref h6, .ref h7, .ref h8, .ref h9, .ref h10, .ref h11])), (h0, .inr (4, [.int 1, .int 46, .long 1, .ref h12, .ref h13, .ref h14, .ref h15, .ref h16, .ref h17, .ref h18, .ref h19, .ref h20, .ref h21, .ref h22, .ref h23, .ref h24, .ref h25]))] (fun q => some (.int 1)) (fun q => [(h1, .inr (5, [.int 0, .int 0, .ref h2, .ref h3, .ref h4, .ref h5, .ref h6, .ref h7, .ref h8, .ref h9, .ref h10, .ref h11])), (h0, .inr (4, [.int 1, .int 46, .long 1, .ref h12, .ref h13, .ref h14, .ref h15, .ref h16, .ref h17, .ref h18, .ref h19, .ref h20, .ref h21, .ref h22, .ref h23, .ref h24, .ref h25]))]) := by
  refine CT.of (by decide +kernel) (Nat.le_of_ble_eq_true rfl) ?_
  intro p e s m args below meth c A ls hx hb hr hml hown hG hlocks hnm hA hS hP hK hD hGV hl
  have hown : s.vm.findClass RX1 = some m.cls := hown
  have hl : lv_has ls 12 [(0, .ref h0), (1, .ref h1), (2, .int 17), (3, .int 1)] := hl
  have hSF : CF p m c cX1_holdsAlong 12 s args RX1 := ⟨hx, hb, hml, hown, hG⟩
  refine lv_lconst (v := 0) hx hb dX1_holdsAlong_0 (by decide) ?_
  refine lv_lstore (lv' := [(4, .long 0), (0, .ref h0), (1, .ref h1), (2, .int 17), (3, .int 1)]) hx hb dX1_holdsAlong_1 hl (by decide) rfl (fun ls hl => ?_)
  refine lv_lconst (v := 0) hx hb dX1_holdsAlong_3 (by decide) ?_
  refine lv_lstore (lv' := [(6, .long 0), (4, .long 0), (0, .ref h0), (1, .ref h1), (2, .int 17), (3, .int 1)]) hx hb dX1_holdsAlong_4 hl (by decide) rfl (fun ls hl => ?_)
  refine lv_iconst (v := 0) hx hb dX1_holdsAlong_6 (by decide) ?_
  refine lv_istore (lv' := [(8, .int 0), (6, .long 0), (4, .long 0), (0, .ref h0), (1, .ref h1), (2, .int 17), (3, .int 1)]) hx hb dX1_holdsAlong_7 hl (by decide) rfl (fun ls hl => ?_)
  refine lv_iload hx hb dX1_holdsAlong_9 (lv_at hl 0 rfl) ?_
  refine lv_aload_n hx hb dX1_holdsAlong_11 rfl (lv_at hl 4 rfl) ?_
  refine k_get (ci := 5) (C := RX2) (T := TX2) (N := 12) (v := .int 0) hx hb hG inX2 hown hK hP 0 rfl rfl 0 (by decide) gw128 rfl dX1_holdsAlong_12 ?_
  refine k_icmp_ge_t (tgt := 180) hx hb dX1_holdsAlong_15 (by decide) (by decide) ?_
  refine lv_aload_n hx hb dX1_holdsAlong_180 rfl (lv_at hl 3 rfl) ?_
  refine k_get (ci := 4) (C := RX1) (T := TX1) (N := 17) (v := .long 1) hx hb hG inX1 hown hK hP 1 rfl rfl 2 (by decide) gw201 rfl dX1_holdsAlong_181 ?_
  refine lv_lconst (v := 0) hx hb dX1_holdsAlong_184 (by decide) ?_
  refine k_lcmp (v := 1) hx hb dX1_holdsAlong_185 (by decide +kernel) ?_
  refine k_if_le_f (tgt := 220) hx hb dX1_holdsAlong_186 (by decide) (by decide) ?_
  refine lv_lload hx hb dX1_holdsAlong_189 (lv_at hl 1 rfl) ?_
  refine lv_aload_n hx hb dX1_holdsAlong_191 rfl (lv_at hl 3 rfl) ?_
  refine k_get (ci := 4) (C := RX1) (T := TX1) (N := 17) (v := .long 1) hx hb hG inX1 hown hK hP 1 rfl rfl 2 (by decide) gw201 rfl dX1_holdsAlong_192 ?_
  refine k_lrem (v := 0) hx hb dX1_holdsAlong_195 (by decide +kernel) (by decide +kernel) ?_
  refine lv_lconst (v := 0) hx hb dX1_holdsAlong_196 (by decide) ?_
  refine k_lcmp (v := 0) hx hb dX1_holdsAlong_197 (by decide +kernel) ?_
  refine k_if_ne_f (tgt := 220) hx hb dX1_holdsAlong_198 (by decide) (by decide) ?_
  refine lv_lload hx hb dX1_holdsAlong_201 (lv_at hl 2 rfl) ?_
  refine lv_lload hx hb dX1_holdsAlong_203 (lv_at hl 1 rfl) ?_
  refine lv_aload_n hx hb dX1_holdsAlong_205 rfl (lv_at hl 3 rfl) ?_
  refine k_get (ci := 4) (C := RX1) (T := TX1) (N := 17) (v := .long 1) hx hb hG inX1 hown hK hP 1 rfl rfl 2 (by decide) gw201 rfl dX1_holdsAlong_206 ?_
  refine k_ldiv (v := 0) hx hb dX1_holdsAlong_209 (by decide +kernel) (by decide +kernel) ?_
  refine k_ladd (v := 0) hx hb dX1_holdsAlong_210 (by decide +kernel) ?_
  refine lv_lconst (v := 0) hx hb dX1_holdsAlong_211 (by decide) ?_
  refine k_lcmp (v := 0) hx hb dX1_holdsAlong_212 (by decide +kernel) ?_
  refine k_if_ne_f (tgt := 220) hx hb dX1_holdsAlong_213 (by decide) (by decide) ?_
  refine lv_iconst (v := 1) hx hb dX1_holdsAlong_216 (by decide) ?_
  refine lv_goto (tgt := 221) hx hb dX1_holdsAlong_217 (by decide) ?_
  exact e_i (fun _ => 0) hx hb hr hlocks rfl rfl hP hD hS (Nat.le_of_ble_eq_true rfl) (Nat.le_of_ble_eq_true rfl) dX1_holdsAlong_221
set_option maxHeartbeats 4000000 in
set_option maxRecDepth 100000 in
theorem c419_X1_holdsAt (l : Launch) (hfl : l.stackTraces = false) (D : va_G) (cA : Nat → ClassId) (g : gv_T) (h0 h1 h2 h3 h4 h5 h6 h7 h8 h9 h10 h11 h12 h13 h14 h15 h16 h17 h18 h19 h20 h21 h22 h23 h24 h25 : Nat) : CT l yX1_holdsAt cX1_holdsAt 3 (some .boolean) (RM 1 0 0 31) D cA g [.ref h0, .ref h1, .int 17] [(h0, .inr (4, [.int 1, .int 46, .long 1, .ref h2, .ref h3, .ref h4, .ref h5, .ref h6, .ref h7, .ref h8, .ref h9, .ref h10, .ref h11, .ref h12, .ref h13, .ref h14, .ref h15])), (h1, .inr (5, [.int 0, .int 0, .ref h16, .ref h17, .ref h18, .ref h19, .ref h20, .ref h21, .ref h22, .ref h23, .ref h24, .ref h25]))] (fun q => some (.int 1)) (fun q => [(h0, .inr (4, [.int 1, .int 46, .long 1, .ref h2, .ref h3, .ref h4, .ref h5, .ref h6, .ref h7, .ref h8, .ref h9, .ref h10, .ref h11, .ref h12, .ref h13, .ref h14, .ref h15])), (h1, .inr (5, [.int 0, .int 0, .ref h16, .ref h17, .ref h18, .ref h19, .ref h20, .ref h21, .ref h22, .ref h23, .ref h24, .ref h25]))]) := by
  refine CT.of (by decide +kernel) (Nat.le_of_ble_eq_true rfl) ?_
  intro p e s m args below meth c A ls hx hb hr hml hown hG hlocks hnm hA hS hP hK hD hGV hl
  have hown : s.vm.findClass RX1 = some m.cls := hown
  have hl : lv_has ls 3 [(0, .ref h0), (1, .ref h1), (2, .int 17)] := hl
  have hSF : CF p m c cX1_holdsAt 3 s args RX1 := ⟨hx, hb, hml, hown, hG⟩
  refine lv_aload_n hx hb dX1_holdsAt_0 rfl (lv_at hl 0 rfl) ?_
  refine lv_aload_n hx hb dX1_holdsAt_1 rfl (lv_at hl 1 rfl) ?_
  refine lv_iload_n hx hb dX1_holdsAt_2 rfl (lv_at hl 2 rfl) ?_
  refine lv_iconst (v := 0) hx hb dX1_holdsAt_3 (by decide) ?_
  refine ct_V (wr := []) hSF hl.1 hP hD hS hA hK hGV (c417_X1_holdsAlong l hfl D cA g h0 h1 h16 h17 h18 h19 h20 h21 h22 h23 h24 h25 h2 h3 h4 h5 h6 h7 h8 h9 h10 h11 h12 h13 h14 h15) goV_X1_185 pd_X1_holdsAlong ⟨(Nat.le_of_ble_eq_true rfl), (Nat.le_of_ble_eq_true rfl)⟩ ⟨(Nat.le_of_ble_eq_true rfl), (Nat.le_of_ble_eq_true rfl)⟩ (va_recv hK hP (ci := 4) (q0 := 0) rfl rfl) dX1_holdsAt_4 rfl (Nat.le_of_ble_eq_true rfl) [1, 0] [] rfl (by decide) rfl (by decide) (by decide) (fun q => [(h1, .inr (5, [.int 0, .int 0, .ref h16, .ref h17, .ref h18, .ref h19, .ref h20, .ref h21, .ref h22, .ref h23, .ref h24, .ref h25])), (h0, .inr (4, [.int 1, .int 46, .long 1, .ref h2, .ref h3, .ref h4, .ref h5, .ref h6, .ref h7, .ref h8, .ref h9, .ref h10, .ref h11, .ref h12, .ref h13, .ref h14, .ref h15]))]) (fun _ => rfl) (fun q1 H locs hP hD hS => ?_)
  refine W.eq (g2 := F0 m 7 ls [.int 1]) rfl ?_
  refine k_if_eq_f (tgt := 24) hx hb dX1_holdsAt_7 (by decide) (by decide) ?_
  refine lv_aload_n hx hb dX1_holdsAt_10 rfl (lv_at hl 0 rfl) ?_
  refine lv_aload_n hx hb dX1_holdsAt_11 rfl (lv_at hl 1 rfl) ?_
  refine lv_iload_n hx hb dX1_holdsAt_12 rfl (lv_at hl 2 rfl) ?_
  refine lv_iconst (v := 1) hx hb dX1_holdsAt_13 (by decide) ?_
  refine ct_V (wr := []) hSF hl.1 hP hD hS hA hK hGV (c418_X1_holdsAlong l hfl D cA g h0 h1 h16 h17 h18 h19 h20 h21 h22 h23 h24 h25 h2 h3 h4 h5 h6 h7 h8 h9 h10 h11 h12 h13 h14 h15) goV_X1_185 pd_X1_holdsAlong ⟨(Nat.le_of_ble_eq_true rfl), (Nat.le_of_ble_eq_true rfl)⟩ ⟨(Nat.le_of_ble_eq_true rfl), (Nat.le_of_ble_eq_true rfl)⟩ (va_recv hK hP (ci := 4) (q0 := 1) rfl rfl) dX1_holdsAt_14 rfl (Nat.le_of_ble_eq_true rfl) [0, 1] [] rfl (by decide) rfl (by decide) (by decide) (fun q => [(h1, .inr (5, [.int 0, .int 0, .ref h16, .ref h17, .ref h18, .ref h19, .ref h20, .ref h21, .ref h22, .ref h23, .ref h24, .ref h25])), (h0, .inr (4, [.int 1, .int 46, .long 1, .ref h2, .ref h3, .ref h4, .ref h5, .ref h6, .ref h7, .ref h8, .ref h9, .ref h10, .ref h11, .ref h12, .ref h13, .ref h14, .ref h15]))]) (fun _ => rfl) (fun q2 H locs hP hD hS => ?_)
  refine W.eq (g2 := F0 m 17 ls [.int 1]) rfl ?_
  refine k_if_eq_f (tgt := 24) hx hb dX1_holdsAt_17 (by decide) (by decide) ?_
  refine lv_iconst (v := 1) hx hb dX1_holdsAt_20 (by decide) ?_
  refine lv_goto (tgt := 25) hx hb dX1_holdsAt_21 (by decide) ?_
  exact e_i (fun _ => 0) hx hb hr hlocks rfl rfl (hP.sub [1, 0] rfl) (hD.sub [1, 0] (by decide) rfl) hS (Nat.le_of_ble_eq_true rfl) (Nat.le_of_ble_eq_true rfl) dX1_holdsAt_25
set_option maxHeartbeats 4000000 in
set_option maxRecDepth 100000 in
theorem c420_X1_holdsAlong (l : Launch) (hfl : l.stackTraces = false) (D : va_G) (cA : Nat → ClassId) (g : gv_T) (h0 h1 h2 h3 h4 h5 h6 h7 h8 h9 h10 h11 h12 h13 h14 h15 h16 h17 h18 h19 h20 h21 h22 h23 h24 h25 : Nat) : CT l yX1_holdsAlong cX1_holdsAlong 12 (some .boolean) (RM 0 0 0 0) D cA g [.ref h0, .ref h1, .int 18, .int 0] [(h1, .inr (5, [.int 0, .int 0, .ref h2, .ref h3, .ref h4, .ref h5, .ref h6, .ref h7, .ref h8, .ref h9, .ref h10, .ref h11])), (h0, .inr (4, [.int 1, .int 46, .long 1, .ref h12, .ref h13, .ref h14, .ref h15, .ref h16, .ref h17, .ref h18, .ref h19, .ref h20, .ref h21, .ref h22, .ref h23, .ref h24, .ref h25]))] (fun q => some (.int 1)) (fun q => [(h1, .inr (5, [.int 0, .int 0, .ref h2, .ref h3, .ref h4, .ref h5, .ref h6, .ref h7, .ref h8, .ref h9, .ref h10, .ref h11])), (h0, .inr (4, [.int 1, .int 46, .long 1, .ref h12, .ref h13, .ref h14, .ref h15, .ref h16, .ref h17, .ref h18, .ref h19, .ref h20, .ref h21, .ref h22, .ref h23, .ref h24, .ref h25]))]) := by
  refine CT.of (by decide +kernel) (Nat.le_of_ble_eq_true rfl) ?_
  intro p e s m args below meth c A ls hx hb hr hml hown hG hlocks hnm hA hS hP hK hD hGV hl
  have hown : s.vm.findClass RX1 = some m.cls := hown
  have hl : lv_has ls 12 [(0, .ref h0), (1, .ref h1), (2, .int 18), (3, .int 0)] := hl
  have hSF : CF p m c cX1_holdsAlong 12 s args RX1 := ⟨hx, hb, hml, hown, hG⟩
  refine lv_lconst (v := 0) hx hb dX1_holdsAlong_0 (by decide) ?_
  refine lv_lstore (lv' := [(4, .long 0), (0, .ref h0), (1, .ref h1), (2, .int 18), (3, .int 0)]) hx hb dX1_holdsAlong_1 hl (by decide) rfl (fun ls hl => ?_)
  refine lv_lconst (v := 0) hx hb dX1_holdsAlong_3 (by decide) ?_
  refine lv_lstore (lv' := [(6, .long 0), (4, .long 0), (0, .ref h0), (1, .ref h1), (2, .int 18), (3, .int 0)]) hx hb dX1_holdsAlong_4 hl (by decide) rfl (fun ls hl => ?_)
  refine lv_iconst (v := 0) hx hb dX1_holdsAlong_6 (by decide) ?_
  refine lv_istore (lv' := [(8, .int 0), (6, .long 0), (4, .long 0), (0, .ref h0), (1, .ref h1), (2, .int 18), (3, .int 0)]) hx hb dX1_holdsAlong_7 hl (by decide) rfl (fun ls hl => ?_)
  refine lv_iload hx hb dX1_holdsAlong_9 (lv_at hl 0 rfl) ?_
  refine lv_aload_n hx hb dX1_holdsAlong_11 rfl (lv_at hl 4 rfl) ?_
  refine k_get (ci := 5) (C := RX2) (T := TX2) (N := 12) (v := .int 0) hx hb hG inX2 hown hK hP 0 rfl rfl 0 (by decide) gw128 rfl dX1_holdsAlong_12 ?_
  refine k_icmp_ge_t (tgt := 180) hx hb dX1_holdsAlong_15 (by decide) (by decide) ?_
  refine lv_aload_n hx hb dX1_holdsAlong_180 rfl (lv_at hl 3 rfl) ?_
  refine k_get (ci := 4) (C := RX1) (T := TX1) (N := 17) (v := .long 1) hx hb hG inX1 hown hK hP 1 rfl rfl 2 (by decide) gw201 rfl dX1_holdsAlong_181 ?_
  refine lv_lconst (v := 0) hx hb dX1_holdsAlong_184 (by decide) ?_
  refine k_lcmp (v := 1) hx hb dX1_holdsAlong_185 (by decide +kernel) ?_
  refine k_if_le_f (tgt := 220) hx hb dX1_holdsAlong_186 (by decide) (by decide) ?_
  refine lv_lload hx hb dX1_holdsAlong_189 (lv_at hl 1 rfl) ?_
  refine lv_aload_n hx hb dX1_holdsAlong_191 rfl (lv_at hl 3 rfl) ?_
  refine k_get (ci := 4) (C := RX1) (T := TX1) (N := 17) (v := .long 1) hx hb hG inX1 hown hK hP 1 rfl rfl 2 (by decide) gw201 rfl dX1_holdsAlong_192 ?_
  refine k_lrem (v := 0) hx hb dX1_holdsAlong_195 (by decide +kernel) (by decide +kernel) ?_
  refine lv_lconst (v := 0) hx hb dX1_holdsAlong_196 (by decide) ?_
  refine k_lcmp (v := 0) hx hb dX1_holdsAlong_197 (by decide +kernel) ?_
  refine k_if_ne_f (tgt := 220) hx hb dX1_holdsAlong_198 (by decide) (by decide) ?_
  refine lv_lload hx hb dX1_holdsAlong_201 (lv_at hl 2 rfl) ?_
  refine lv_lload hx hb dX1_holdsAlong_203 (lv_at hl 1 rfl) ?_
  refine lv_aload_n hx hb dX1_holdsAlong_205 rfl (lv_at hl 3 rfl) ?_
  refine k_get (ci := 4) (C := RX1) (T := TX1) (N := 17) (v := .long 1) hx hb hG inX1 hown hK hP 1 rfl rfl 2 (by decide) gw201 rfl dX1_holdsAlong_206 ?_
  refine k_ldiv (v := 0) hx hb dX1_holdsAlong_209 (by decide +kernel) (by decide +kernel) ?_
  refine k_ladd (v := 0) hx hb dX1_holdsAlong_210 (by decide +kernel) ?_
  refine lv_lconst (v := 0) hx hb dX1_holdsAlong_211 (by decide) ?_
  refine k_lcmp (v := 0) hx hb dX1_holdsAlong_212 (by decide +kernel) ?_
  refine k_if_ne_f (tgt := 220) hx hb dX1_holdsAlong_213 (by decide) (by decide) ?_
  refine lv_iconst (v := 1) hx hb dX1_holdsAlong_216 (by decide) ?_
  refine lv_goto (tgt := 221) hx hb dX1_holdsAlong_217 (by decide) ?_
  exact e_i (fun _ => 0) hx hb hr hlocks rfl rfl hP hD hS (Nat.le_of_ble_eq_true rfl) (Nat.le_of_ble_eq_true rfl) dX1_holdsAlong_221
set_option maxHeartbeats 4000000 in
set_option maxRecDepth 100000 in
theorem c421_X1_holdsAlong (l : Launch) (hfl : l.stackTraces = false) (D : va_G) (cA : Nat → ClassId) (g : gv_T) (h0 h1 h2 h3 h4 h5 h6 h7 h8 h9 h10 h11 h12 h13 h14 h15 h16 h17 h18 h19 h20 h21 h22 h23 h24 h25 : Nat) : CT l yX1_holdsAlong cX1_holdsAlong 12 (some .boolean) (RM 0 0 0 0) D cA g [.ref h0, .ref h1, .int 18, .int 1] [(h1, .inr (5, [.int 0, .int 0, .ref h2, .ref h3, .ref h4, .ref h5, .ref h6, .ref h7, .ref h8, .ref h9, .ref h10, .ref h11])), (h0, .inr (4, [.int 1, .int 46, .long 1, .ref h12, .ref h13, .ref h14, .ref h15, .ref h16, .ref h17, .ref h18, .ref h19, .ref h20, .ref h21, .ref h22, .ref h23, .ref h24, .ref h25]))] (fun q => some (.int 1)) (fun q => [(h1, .inr (5, [.int 0, .int 0, .ref h2, .ref h3, .ref h4, .ref h5, .ref h6, .ref h7, .ref h8, .ref h9, .ref h10, .ref h11])), (h0, .inr (4, [.int 1, .int 46, .long 1, .ref h12, .ref h13, .ref h14, .ref h15, .ref h16, .ref h17, .ref h18, .ref h19, .ref h20, .ref h21, .ref h22, .ref h23, .ref h24, .ref h25]))]) := by
  refine CT.of (by decide +kernel) (Nat.le_of_ble_eq_true rfl) ?_
  intro p e s m args below meth c A ls hx hb hr hml hown hG hlocks hnm hA hS hP hK hD hGV hl
  have hown : s.vm.findClass RX1 = some m.cls := hown
  have hl : lv_has ls 12 [(0, .ref h0), (1, .ref h1), (2, .int 18), (3, .int 1)] := hl
  have hSF : CF p m c cX1_holdsAlong 12 s args RX1 := ⟨hx, hb, hml, hown, hG⟩
  refine lv_lconst (v := 0) hx hb dX1_holdsAlong_0 (by decide) ?_
  refine lv_lstore (lv' := [(4, .long 0), (0, .ref h0), (1, .ref h1), (2, .int 18), (3, .int 1)]) hx hb dX1_holdsAlong_1 hl (by decide) rfl (fun ls hl => ?_)
  refine lv_lconst (v := 0) hx hb dX1_holdsAlong_3 (by decide) ?_
  refine lv_lstore (lv' := [(6, .long 0), (4, .long 0), (0, .ref h0), (1, .ref h1), (2, .int 18), (3, .int 1)]) hx hb dX1_holdsAlong_4 hl (by decide) rfl (fun ls hl => ?_)
  refine lv_iconst (v := 0) hx hb dX1_holdsAlong_6 (by decide) ?_
  refine lv_istore (lv' := [(8, .int 0), (6, .long 0), (4, .long 0), (0, .ref h0), (1, .ref h1), (2, .int 18), (3, .int 1)]) hx hb dX1_holdsAlong_7 hl (by decide) rfl (fun ls hl => ?_)
  refine lv_iload hx hb dX1_holdsAlong_9 (lv_at hl 0 rfl) ?_
  refine lv_aload_n hx hb dX1_holdsAlong_11 rfl (lv_at hl 4 rfl) ?_
  refine k_get (ci := 5) (C := RX2) (T := TX2) (N := 12) (v := .int 0) hx hb hG inX2 hown hK hP 0 rfl rfl 0 (by decide) gw128 rfl dX1_holdsAlong_12 ?_
  refine k_icmp_ge_t (tgt := 180) hx hb dX1_holdsAlong_15 (by decide) (by decide) ?_
  refine lv_aload_n hx hb dX1_holdsAlong_180 rfl (lv_at hl 3 rfl) ?_
  refine k_get (ci := 4) (C := RX1) (T := TX1) (N := 17) (v := .long 1) hx hb hG inX1 hown hK hP 1 rfl rfl 2 (by decide) gw201 rfl dX1_holdsAlong_181 ?_
  refine lv_lconst (v := 0) hx hb dX1_holdsAlong_184 (by decide) ?_
  refine k_lcmp (v := 1) hx hb dX1_holdsAlong_185 (by decide +kernel) ?_
  refine k_if_le_f (tgt := 220) hx hb dX1_holdsAlong_186 (by decide) (by decide) ?_
  refine lv_lload hx hb dX1_holdsAlong_189 (lv_at hl 1 rfl) ?_
  refine lv_aload_n hx hb dX1_holdsAlong_191 rfl (lv_at hl 3 rfl) ?_
  refine k_get (ci := 4) (C := RX1) (T := TX1) (N := 17) (v := .long 1) hx hb hG inX1 hown hK hP 1 rfl rfl 2 (by decide) gw201 rfl dX1_holdsAlong_192 ?_
  refine k_lrem (v := 0) hx hb dX1_holdsAlong_195 (by decide +kernel) (by decide +kernel) ?_
  refine lv_lconst (v := 0) hx hb dX1_holdsAlong_196 (by decide) ?_
  refine k_lcmp (v := 0) hx hb dX1_holdsAlong_197 (by decide +kernel) ?_
  refine k_if_ne_f (tgt := 220) hx hb dX1_holdsAlong_198 (by decide) (by decide) ?_
  refine lv_lload hx hb dX1_holdsAlong_201 (lv_at hl 2 rfl) ?_
  refine lv_lload hx hb dX1_holdsAlong_203 (lv_at hl 1 rfl) ?_
  refine lv_aload_n hx hb dX1_holdsAlong_205 rfl (lv_at hl 3 rfl) ?_
  refine k_get (ci := 4) (C := RX1) (T := TX1) (N := 17) (v := .long 1) hx hb hG inX1 hown hK hP 1 rfl rfl 2 (by decide) gw201 rfl dX1_holdsAlong_206 ?_
  refine k_ldiv (v := 0) hx hb dX1_holdsAlong_209 (by decide +kernel) (by decide +kernel) ?_
  refine k_ladd (v := 0) hx hb dX1_holdsAlong_210 (by decide +kernel) ?_
  refine lv_lconst (v := 0) hx hb dX1_holdsAlong_211 (by decide) ?_
  refine k_lcmp (v := 0) hx hb dX1_holdsAlong_212 (by decide +kernel) ?_
  refine k_if_ne_f (tgt := 220) hx hb dX1_holdsAlong_213 (by decide) (by decide) ?_
  refine lv_iconst (v := 1) hx hb dX1_holdsAlong_216 (by decide) ?_
  refine lv_goto (tgt := 221) hx hb dX1_holdsAlong_217 (by decide) ?_
  exact e_i (fun _ => 0) hx hb hr hlocks rfl rfl hP hD hS (Nat.le_of_ble_eq_true rfl) (Nat.le_of_ble_eq_true rfl) dX1_holdsAlong_221
set_option maxHeartbeats 4000000 in
set_option maxRecDepth 100000 in
theorem c422_X1_holdsAt (l : Launch) (hfl : l.stackTraces = false) (D : va_G) (cA : Nat → ClassId) (g : gv_T) (h0 h1 h2 h3 h4 h5 h6 h7 h8 h9 h10 h11 h12 h13 h14 h15 h16 h17 h18 h19 h20 h21 h22 h23 h24 h25 : Nat) : CT l yX1_holdsAt cX1_holdsAt 3 (some .boolean) (RM 1 0 0 31) D cA g [.ref h0, .ref h1, .int 18] [(h0, .inr (4, [.int 1, .int 46, .long 1, .ref h2, .ref h3, .ref h4, .ref h5, .ref h6, .ref h7, .ref h8, .ref h9, .ref h10, .ref h11, .ref h12, .ref h13, .ref h14, .ref h15])), (h1, .inr (5, [.int 0, .int 0, .ref h16, .ref h17, .ref h18, .ref h19, .ref h20, .ref h21, .ref h22, .ref h23, .ref h24, .ref h25]))] (fun q => some (.int 1)) (fun q => [(h0, .inr (4, [.int 1, .int 46, .long 1, .ref h2, .ref h3, .ref h4, .ref h5, .ref h6, .ref h7, .ref h8, .ref h9, .ref h10, .ref h11, .ref h12, .ref h13, .ref h14, .ref h15])), (h1, .inr (5, [.int 0, .int 0, .ref h16, .ref h17, .ref h18, .ref h19, .ref h20, .ref h21, .ref h22, .ref h23, .ref h24, .ref h25]))]) := by
  refine CT.of (by decide +kernel) (Nat.le_of_ble_eq_true rfl) ?_
  intro p e s m args below meth c A ls hx hb hr hml hown hG hlocks hnm hA hS hP hK hD hGV hl
  have hown : s.vm.findClass RX1 = some m.cls := hown
  have hl : lv_has ls 3 [(0, .ref h0), (1, .ref h1), (2, .int 18)] := hl
  have hSF : CF p m c cX1_holdsAt 3 s args RX1 := ⟨hx, hb, hml, hown, hG⟩
  refine lv_aload_n hx hb dX1_holdsAt_0 rfl (lv_at hl 0 rfl) ?_
  refine lv_aload_n hx hb dX1_holdsAt_1 rfl (lv_at hl 1 rfl) ?_
  refine lv_iload_n hx hb dX1_holdsAt_2 rfl (lv_at hl 2 rfl) ?_
  refine lv_iconst (v := 0) hx hb dX1_holdsAt_3 (by decide) ?_
  refine ct_V (wr := []) hSF hl.1 hP hD hS hA hK hGV (c420_X1_holdsAlong l hfl D cA g h0 h1 h16 h17 h18 h19 h20 h21 h22 h23 h24 h25 h2 h3 h4 h5 h6 h7 h8 h9 h10 h11 h12 h13 h14 h15) goV_X1_185 pd_X1_holdsAlong ⟨(Nat.le_of_ble_eq_true rfl), (Nat.le_of_ble_eq_true rfl)⟩ ⟨(Nat.le_of_ble_eq_true rfl), (Nat.le_of_ble_eq_true rfl)⟩ (va_recv hK hP (ci := 4) (q0 := 0) rfl rfl) dX1_holdsAt_4 rfl (Nat.le_of_ble_eq_true rfl) [1, 0] [] rfl (by decide) rfl (by decide) (by decide) (fun q => [(h1, .inr (5, [.int 0, .int 0, .ref h16, .ref h17, .ref h18, .ref h19, .ref h20, .ref h21, .ref h22, .ref h23, .ref h24, .ref h25])), (h0, .inr (4, [.int 1, .int 46, .long 1, .ref h2, .ref h3, .ref h4, .ref h5, .ref h6, .ref h7, .ref h8, .ref h9, .ref h10, .ref h11, .ref h12, .ref h13, .ref h14, .ref h15]))]) (fun _ => rfl) (fun q1 H locs hP hD hS => ?_)
  refine W.eq (g2 := F0 m 7 ls [.int 1]) rfl ?_
  refine k_if_eq_f (tgt := 24) hx hb dX1_holdsAt_7 (by decide) (by decide) ?_
  refine lv_aload_n hx hb dX1_holdsAt_10 rfl (lv_at hl 0 rfl) ?_
  refine lv_aload_n hx hb dX1_holdsAt_11 rfl (lv_at hl 1 rfl) ?_
  refine lv_iload_n hx hb dX1_holdsAt_12 rfl (lv_at hl 2 rfl) ?_
  refine lv_iconst (v := 1) hx hb dX1_holdsAt_13 (by decide) ?_
  refine ct_V (wr := []) hSF hl.1 hP hD hS hA hK hGV (c421_X1_holdsAlong l hfl D cA g h0 h1 h16 h17 h18 h19 h20 h21 h22 h23 h24 h25 h2 h3 h4 h5 h6 h7 h8 h9 h10 h11 h12 h13 h14 h15) goV_X1_185 pd_X1_holdsAlong ⟨(Nat.le_of_ble_eq_true rfl), (Nat.le_of_ble_eq_true rfl)⟩ ⟨(Nat.le_of_ble_eq_true rfl), (Nat.le_of_ble_eq_true rfl)⟩ (va_recv hK hP (ci := 4) (q0 := 1) rfl rfl) dX1_holdsAt_14 rfl (Nat.le_of_ble_eq_true rfl) [0, 1] [] rfl (by decide) rfl (by decide) (by decide) (fun q => [(h1, .inr (5, [.int 0, .int 0, .ref h16, .ref h17, .ref h18, .ref h19, .ref h20, .ref h21, .ref h22, .ref h23, .ref h24, .ref h25])), (h0, .inr (4, [.int 1, .int 46, .long 1, .ref h2, .ref h3, .ref h4, .ref h5, .ref h6, .ref h7, .ref h8, .ref h9, .ref h10, .ref h11, .ref h12, .ref h13, .ref h14, .ref h15]))]) (fun _ => rfl) (fun q2 H locs hP hD hS => ?_)
  refine W.eq (g2 := F0 m 17 ls [.int 1]) rfl ?_
  refine k_if_eq_f (tgt := 24) hx hb dX1_holdsAt_17 (by decide) (by decide) ?_
  refine lv_iconst (v := 1) hx hb dX1_holdsAt_20 (by decide) ?_
  refine lv_goto (tgt := 25) hx hb dX1_holdsAt_21 (by decide) ?_
  exact e_i (fun _ => 0) hx hb hr hlocks rfl rfl (hP.sub [1, 0] rfl) (hD.sub [1, 0] (by decide) rfl) hS (Nat.le_of_ble_eq_true rfl) (Nat.le_of_ble_eq_true rfl) dX1_holdsAt_25
set_option maxHeartbeats 4000000 in
set_option maxRecDepth 100000 in
theorem c423_X1_holdsAlong (l : Launch) (hfl : l.stackTraces = false) (D : va_G) (cA : Nat → ClassId) (g : gv_T) (h0 h1 h2 h3 h4 h5 h6 h7 h8 h9 h10 h11 h12 h13 h14 h15 h16 h17 h18 h19 h20 h21 h22 h23 h24 h25 : Nat) : CT l yX1_holdsAlong cX1_holdsAlong 12 (some .boolean) (RM 0 0 0 0) D cA g [.ref h0, .ref h1, .int 19, .int 0] [(h1, .inr (5, [.int 0, .int 0, .ref h2, .ref h3, .ref h4, .ref h5, .ref h6, .ref h7, .ref h8, .ref h9, .ref h10, .ref h11])), (h0, .inr (4, [.int 1, .int 46, .long 1, .ref h12, .ref h13, .ref h14, .ref h15, .ref h16, .ref h17, .ref h18, .ref h19, .ref h20, .ref h21, .ref h22, .ref h23, .ref h24, .ref h25]))] (fun q => some (.int 1)) (fun q => [(h1, .inr (5, [.int 0, .int 0, .ref h2, .ref h3, .ref h4, .ref h5, .ref h6, .ref h7, .ref h8, .ref h9, .ref h10, .ref h11])), (h0, .inr (4, [.int 1, .int 46, .long 1, .ref h12, .ref h13, .ref h14, .ref h15, .ref h16, .ref h17, .ref h18, .ref h19, .ref h20, .ref h21, .ref h22, .ref h23, .ref h24, .ref h25]))]) := by
  refine CT.of (by decide +kernel) (Nat.le_of_ble_eq_true rfl) ?_
  intro p e s m args below meth c A ls hx hb hr hml hown hG hlocks hnm hA hS hP hK hD hGV hl
  have hown : s.vm.findClass RX1 = some m.cls := hown
  have hl : lv_has ls 12 [(0, .ref h0), (1, .ref h1), (2, .int 19), (3, .int 0)] := hl
  have hSF : CF p m c cX1_holdsAlong 12 s args RX1 := ⟨hx, hb, hml, hown, hG⟩
  refine lv_lconst (v := 0) hx hb dX1_holdsAlong_0 (by decide) ?_
  refine lv_lstore (lv' := [(4, .long 0), (0, .ref h0), (1, .ref h1), (2, .int 19), (3, .int 0)]) hx hb dX1_holdsAlong_1 hl (by decide) rfl (fun ls hl => ?_)
  refine lv_lconst (v := 0) hx hb dX1_holdsAlong_3 (by decide) ?_
  refine lv_lstore (lv' := [(6, .long 0), (4, .long 0), (0, .ref h0), (1, .ref h1), (2, .int 19), (3, .int 0)]) hx hb dX1_holdsAlong_4 hl (by decide) rfl (fun ls hl => ?_)
  refine lv_iconst (v := 0) hx hb dX1_holdsAlong_6 (by decide) ?_
  refine lv_istore (lv' := [(8, .int 0), (6, .long 0), (4, .long 0), (0, .ref h0), (1, .ref h1), (2, .int 19), (3, .int 0)]) hx hb dX1_holdsAlong_7 hl (by decide) rfl (fun ls hl => ?_)
  refine lv_iload hx hb dX1_holdsAlong_9 (lv_at hl 0 rfl) ?_
  refine lv_aload_n hx hb dX1_holdsAlong_11 rfl (lv_at hl 4 rfl) ?_
  refine k_get (ci := 5) (C := RX2) (T := TX2) (N := 12) (v := .int 0) hx hb hG inX2 hown hK hP 0 rfl rfl 0 (by decide) gw128 rfl dX1_holdsAlong_12 ?_
  refine k_icmp_ge_t (tgt := 180) hx hb dX1_holdsAlong_15 (by decide) (by decide) ?_
  refine lv_aload_n hx hb dX1_holdsAlong_180 rfl (lv_at hl 3 rfl) ?_
  refine k_get (ci := 4) (C := RX1) (T := TX1) (N := 17) (v := .long 1) hx hb hG inX1 hown hK hP 1 rfl rfl 2 (by decide) gw201 rfl dX1_holdsAlong_181 ?_
  refine lv_lconst (v := 0) hx hb dX1_holdsAlong_184 (by decide) ?_
  refine k_lcmp (v := 1) hx hb dX1_holdsAlong_185 (by decide +kernel) ?_
  refine k_if_le_f (tgt := 220) hx hb dX1_holdsAlong_186 (by decide) (by decide) ?_
  refine lv_lload hx hb dX1_holdsAlong_189 (lv_at hl 1 rfl) ?_
  refine lv_aload_n hx hb dX1_holdsAlong_191 rfl (lv_at hl 3 rfl) ?_
  refine k_get (ci := 4) (C := RX1) (T := TX1) (N := 17) (v := .long 1) hx hb hG inX1 hown hK hP 1 rfl rfl 2 (by decide) gw201 rfl dX1_holdsAlong_192 ?_
  refine k_lrem (v := 0) hx hb dX1_holdsAlong_195 (by decide +kernel) (by decide +kernel) ?_
  refine lv_lconst (v := 0) hx hb dX1_holdsAlong_196 (by decide) ?_
  refine k_lcmp (v := 0) hx hb dX1_holdsAlong_197 (by decide +kernel) ?_
  refine k_if_ne_f (tgt := 220) hx hb dX1_holdsAlong_198 (by decide) (by decide) ?_
  refine lv_lload hx hb dX1_holdsAlong_201 (lv_at hl 2 rfl) ?_
  refine lv_lload hx hb dX1_holdsAlong_203 (lv_at hl 1 rfl) ?_
  refine lv_aload_n hx hb dX1_holdsAlong_205 rfl (lv_at hl 3 rfl) ?_
  refine k_get (ci := 4) (C := RX1) (T := TX1) (N := 17) (v := .long 1) hx hb hG inX1 hown hK hP 1 rfl rfl 2 (by decide) gw201 rfl dX1_holdsAlong_206 ?_
  refine k_ldiv (v := 0) hx hb dX1_holdsAlong_209 (by decide +kernel) (by decide +kernel) ?_
  refine k_ladd (v := 0) hx hb dX1_holdsAlong_210 (by decide +kernel) ?_
  refine lv_lconst (v := 0) hx hb dX1_holdsAlong_211 (by decide) ?_
  refine k_lcmp (v := 0) hx hb dX1_holdsAlong_212 (by decide +kernel) ?_
  refine k_if_ne_f (tgt := 220) hx hb dX1_holdsAlong_213 (by decide) (by decide) ?_
  refine lv_iconst (v := 1) hx hb dX1_holdsAlong_216 (by decide) ?_
  refine lv_goto (tgt := 221) hx hb dX1_holdsAlong_217 (by decide) ?_
  exact e_i (fun _ => 0) hx hb hr hlocks rfl rfl hP hD hS (Nat.le_of_ble_eq_true rfl) (Nat.le_of_ble_eq_true rfl) dX1_holdsAlong_221
set_option maxHeartbeats 4000000 in
set_option maxRecDepth 100000 in
theorem c424_X1_holdsAlong (l : Launch) (hfl : l.stackTraces = false) (D : va_G) (cA : Nat → ClassId) (g : gv_T) (h0 h1 h2 h3 h4 h5 h6 h7 h8 h9 h10 h11 h12 h13 h14 h15 h16 h17 h18 h19 h20 h21 h22 h23 h24 h25 : Nat) : CT l yX1_holdsAlong cX1_holdsAlong 12 (some .boolean) (RM 0 0 0 0) D cA g [.ref h0, .ref h1, .int 19, .int 1] [(h1, .inr (5, [.int 0, .int 0, .ref h2, .ref h3, .ref h4, .ref h5, .ref h6, .ref h7, .ref h8, .ref h9, .ref h10, .ref h11])), (h0, .inr (4, [.int 1, .int 46, .long 1, .ref h12, .ref h13, .ref h14, .ref h15, .ref h16, .ref h17, .ref h18, .ref h19, .ref h20, .ref h21, .ref h22, .ref h23, .ref h24, .ref h25]))] (fun q => some (.int 1)) (fun q => [(h1, .inr (5, [.int 0, .int 0, .ref h2, .ref h3, .ref h4, .ref h5, .ref h6, .ref h7, .ref h8, .ref h9, .ref h10, .ref h11])), (h0, .inr (4, [.int 1, .int 46, .long 1, .ref h12, .ref h13, .ref h14, .ref h15, .ref h16, .ref h17, .ref h18, .ref h19, .ref h20, .ref h21, .ref h22, .ref h23, .ref h24, .ref h25]))]) := by
  refine CT.of (by decide +kernel) (Nat.le_of_ble_eq_true rfl) ?_
  intro p e s m args below meth c A ls hx hb hr hml hown hG hlocks hnm hA hS hP hK hD hGV hl
  have hown : s.vm.findClass RX1 = some m.cls := hown
  have hl : lv_has ls 12 [(0, .ref h0), (1, .ref h1), (2, .int 19), (3, .int 1)] := hl
  have hSF : CF p m c cX1_holdsAlong 12 s args RX1 := ⟨hx, hb, hml, hown, hG⟩
  refine lv_lconst (v := 0) hx hb dX1_holdsAlong_0 (by decide) ?_
  refine lv_lstore (lv' := [(4, .long 0), (0, .ref h0), (1, .ref h1), (2, .int 19), (3, .int 1)]) hx hb dX1_holdsAlong_1 hl (by decide) rfl (fun ls hl => ?_)
  refine lv_lconst (v := 0) hx hb dX1_holdsAlong_3 (by decide) ?_
  refine lv_lstore (lv' := [(6, .long 0), (4, .long 0), (0, .ref h0), (1, .ref h1), (2, .int 19), (3, .int 1)]) hx hb dX1_holdsAlong_4 hl (by decide) rfl (fun ls hl => ?_)
  refine lv_iconst (v := 0) hx hb dX1_holdsAlong_6 (by decide) ?_
  refine lv_istore (lv' := [(8, .int 0), (6, .long 0), (4, .long 0), (0, .ref h0), (1, .ref h1), (2, .int 19), (3, .int 1)]) hx hb dX1_holdsAlong_7 hl (by decide) rfl (fun ls hl => ?_)
  refine lv_iload hx hb dX1_holdsAlong_9 (lv_at hl 0 rfl) ?_
  refine lv_aload_n hx hb dX1_holdsAlong_11 rfl (lv_at hl 4 rfl) ?_
  refine k_get (ci := 5) (C := RX2) (T := TX2) (N := 12) (v := .int 0) hx hb hG inX2 hown hK hP 0 rfl rfl 0 (by decide) gw128 rfl dX1_holdsAlong_12 ?_
  refine k_icmp_ge_t (tgt := 180) hx hb dX1_holdsAlong_15 (by decide) (by decide) ?_
  refine lv_aload_n hx hb dX1_holdsAlong_180 rfl (lv_at hl 3 rfl) ?_
  refine k_get (ci := 4) (C := RX1) (T := TX1) (N := 17) (v := .long 1) hx hb hG inX1 hown hK hP 1 rfl rfl 2 (by decide) gw201 rfl dX1_holdsAlong_181 ?_
  refine lv_lconst (v := 0) hx hb dX1_holdsAlong_184 (by decide) ?_
  refine k_lcmp (v := 1) hx hb dX1_holdsAlong_185 (by decide +kernel) ?_
  refine k_if_le_f (tgt := 220) hx hb dX1_holdsAlong_186 (by decide) (by decide) ?_
  refine lv_lload hx hb dX1_holdsAlong_189 (lv_at hl 1 rfl) ?_
  refine lv_aload_n hx hb dX1_holdsAlong_191 rfl (lv_at hl 3 rfl) ?_
  refine k_get (ci := 4) (C := RX1) (T := TX1) (N := 17) (v := .long 1) hx hb hG inX1 hown hK hP 1 rfl rfl 2 (by decide) gw201 rfl dX1_holdsAlong_192 ?_
  refine k_lrem (v := 0) hx hb dX1_holdsAlong_195 (by decide +kernel) (by decide +kernel) ?_
  refine lv_lconst (v := 0) hx hb dX1_holdsAlong_196 (by decide) ?_
  refine k_lcmp (v := 0) hx hb dX1_holdsAlong_197 (by decide +kernel) ?_
  refine k_if_ne_f (tgt := 220) hx hb dX1_holdsAlong_198 (by decide) (by decide) ?_
  refine lv_lload hx hb dX1_holdsAlong_201 (lv_at hl 2 rfl) ?_
  refine lv_lload hx hb dX1_holdsAlong_203 (lv_at hl 1 rfl) ?_
  refine lv_aload_n hx hb dX1_holdsAlong_205 rfl (lv_at hl 3 rfl) ?_
  refine k_get (ci := 4) (C := RX1) (T := TX1) (N := 17) (v := .long 1) hx hb hG inX1 hown hK hP 1 rfl rfl 2 (by decide) gw201 rfl dX1_holdsAlong_206 ?_
  refine k_ldiv (v := 0) hx hb dX1_holdsAlong_209 (by decide +kernel) (by decide +kernel) ?_
  refine k_ladd (v := 0) hx hb dX1_holdsAlong_210 (by decide +kernel) ?_
  refine lv_lconst (v := 0) hx hb dX1_holdsAlong_211 (by decide) ?_
  refine k_lcmp (v := 0) hx hb dX1_holdsAlong_212 (by decide +kernel) ?_
  refine k_if_ne_f (tgt := 220) hx hb dX1_holdsAlong_213 (by decide) (by decide) ?_
  refine lv_iconst (v := 1) hx hb dX1_holdsAlong_216 (by decide) ?_
  refine lv_goto (tgt := 221) hx hb dX1_holdsAlong_217 (by decide) ?_
  exact e_i (fun _ => 0) hx hb hr hlocks rfl rfl hP hD hS (Nat.le_of_ble_eq_true rfl) (Nat.le_of_ble_eq_true rfl) dX1_holdsAlong_221
set_option maxHeartbeats 4000000 in
set_option maxRecDepth 100000 in
theorem c425_X1_holdsAt (l : Launch) (hfl : l.stackTraces = false) (D : va_G) (cA : Nat → ClassId) (g : gv_T) (h0 h1 h2 h3 h4 h5 h6 h7 h8 h9 h10 h11 h12 h13 h14 h15 h16 h17 h18 h19 h20 h21 h22 h23 h24 h25 : Nat) : CT l yX1_holdsAt cX1_holdsAt 3 (some .boolean) (RM 1 0 0 31) D cA g [.ref h0, .ref h1, .int 19] [(h0, .inr (4, [.int 1, .int 46, .long 1, .ref h2, .ref h3, .ref h4, .ref h5, .ref h6, .ref h7, .ref h8, .ref h9, .ref h10, .ref h11, .ref h12, .ref h13, .ref h14, .ref h15])), (h1, .inr (5, [.int 0, .int 0, .ref h16, .ref h17, .ref h18, .ref h19, .ref h20, .ref h21, .ref h22, .ref h23, .ref h24, .ref h25]))] (fun q => some (.int 1)) (fun q => [(h0, .inr (4, [.int 1, .int 46, .long 1, .ref h2, .ref h3, .ref h4, .ref h5, .ref h6, .ref h7, .ref h8, .ref h9, .ref h10, .ref h11, .ref h12, .ref h13, .ref h14, .ref h15])), (h1, .inr (5, [.int 0, .int 0, .ref h16, .ref h17, .ref h18, .ref h19, .ref h20, .ref h21, .ref h22, .ref h23, .ref h24, .ref h25]))]) := by
  refine CT.of (by decide +kernel) (Nat.le_of_ble_eq_true rfl) ?_
  intro p e s m args below meth c A ls hx hb hr hml hown hG hlocks hnm hA hS hP hK hD hGV hl
  have hown : s.vm.findClass RX1 = some m.cls := hown
  have hl : lv_has ls 3 [(0, .ref h0), (1, .ref h1), (2, .int 19)] := hl
  have hSF : CF p m c cX1_holdsAt 3 s args RX1 := ⟨hx, hb, hml, hown, hG⟩
  refine lv_aload_n hx hb dX1_holdsAt_0 rfl (lv_at hl 0 rfl) ?_
  refine lv_aload_n hx hb dX1_holdsAt_1 rfl (lv_at hl 1 rfl) ?_
  refine lv_iload_n hx hb dX1_holdsAt_2 rfl (lv_at hl 2 rfl) ?_
  refine lv_iconst (v := 0) hx hb dX1_holdsAt_3 (by decide) ?_
  refine ct_V (wr := []) hSF hl.1 hP hD hS hA hK hGV (c423_X1_holdsAlong l hfl D cA g h0 h1 h16 h17 h18 h19 h20 h21 h22 h23 h24 h25 h2 h3 h4 h5 h6 h7 h8 h9 h10 h11 h12 h13 h14 h15) goV_X1_185 pd_X1_holdsAlong ⟨(Nat.le_of_ble_eq_true rfl), (Nat.le_of_ble_eq_true rfl)⟩ ⟨(Nat.le_of_ble_eq_true rfl), (Nat.le_of_ble_eq_true rfl)⟩ (va_recv hK hP (ci := 4) (q0 := 0) rfl rfl) dX1_holdsAt_4 rfl (Nat.le_of_ble_eq_true rfl) [1, 0] [] rfl (by decide) rfl (by decide) (by decide) (fun q => [(h1, .inr (5, [.int 0, .int 0, .ref h16, .ref h17, .ref h18, .ref h19, .ref h20, .ref h21, .ref h22, .ref h23, .ref h24, .ref h25])), (h0, .inr (4, [.int 1, .int 46, .long 1, .ref h2, .ref h3, .ref h4, .ref h5, .ref h6, .ref h7, .ref h8, .ref h9, .ref h10, .ref h11, .ref h12, .ref h13, .ref h14, .ref h15]))]) (fun _ => rfl) (fun q1 H locs hP hD hS => ?_)
  refine W.eq (g2 := F0 m 7 ls [.int 1]) rfl ?_
  refine k_if_eq_f (tgt := 24) hx hb dX1_holdsAt_7 (by decide) (by decide) ?_
  refine lv_aload_n hx hb dX1_holdsAt_10 rfl (lv_at hl 0 rfl) ?_
  refine lv_aload_n hx hb dX1_holdsAt_11 rfl (lv_at hl 1 rfl) ?_
  refine lv_iload_n hx hb dX1_holdsAt_12 rfl (lv_at hl 2 rfl) ?_
  refine lv_iconst (v := 1) hx hb dX1_holdsAt_13 (by decide) ?_
  refine ct_V (wr := []) hSF hl.1 hP hD hS hA hK hGV (c424_X1_holdsAlong l hfl D cA g h0 h1 h16 h17 h18 h19 h20 h21 h22 h23 h24 h25 h2 h3 h4 h5 h6 h7 h8 h9 h10 h11 h12 h13 h14 h15) goV_X1_185 pd_X1_holdsAlong ⟨(Nat.le_of_ble_eq_true rfl), (Nat.le_of_ble_eq_true rfl)⟩ ⟨(Nat.le_of_ble_eq_true rfl), (Nat.le_of_ble_eq_true rfl)⟩ (va_recv hK hP (ci := 4) (q0 := 1) rfl rfl) dX1_holdsAt_14 rfl (Nat.le_of_ble_eq_true rfl) [0, 1] [] rfl (by decide) rfl (by decide) (by decide) (fun q => [(h1, .inr (5, [.int 0, .int 0, .ref h16, .ref h17, .ref h18, .ref h19, .ref h20, .ref h21, .ref h22, .ref h23, .ref h24, .ref h25])), (h0, .inr (4, [.int 1, .int 46, .long 1, .ref h2, .ref h3, .ref h4, .ref h5, .ref h6, .ref h7, .ref h8, .ref h9, .ref h10, .ref h11, .ref h12, .ref h13, .ref h14, .ref h15]))]) (fun _ => rfl) (fun q2 H locs hP hD hS => ?_)
  refine W.eq (g2 := F0 m 17 ls [.int 1]) rfl ?_
  refine k_if_eq_f (tgt := 24) hx hb dX1_holdsAt_17 (by decide) (by decide) ?_
  refine lv_iconst (v := 1) hx hb dX1_holdsAt_20 (by decide) ?_
  refine lv_goto (tgt := 25) hx hb dX1_holdsAt_21 (by decide) ?_
  exact e_i (fun _ => 0) hx hb hr hlocks rfl rfl (hP.sub [1, 0] rfl) (hD.sub [1, 0] (by decide) rfl) hS (Nat.le_of_ble_eq_true rfl) (Nat.le_of_ble_eq_true rfl) dX1_holdsAt_25
set_option maxHeartbeats 4000000 in
set_option maxRecDepth 100000 in
theorem c426_X1_holdsAlong (l : Launch) (hfl : l.stackTraces = false) (D : va_G) (cA : Nat → ClassId) (g : gv_T) (h0 h1 h2 h3 h4 h5 h6 h7 h8 h9 h10 h11 h12 h13 h14 h15 h16 h17 h18 h19 h20 h21 h22 h23 h24 h25 : Nat) : CT l yX1_holdsAlong cX1_holdsAlong 12 (some .boolean) (RM 0 0 0 0) D cA g [.ref h0, .ref h1, .int 20, .int 0] [(h1, .inr (5, [.int 0, .int 0, .ref h2, .ref h3, .ref h4, .ref h5, .ref h6, .ref h7, .ref h8, .ref h9, .ref h10, .ref h11])), (h0, .inr (4, [.int 1, .int 46, .long 1, .ref h12, .ref h13, .ref h14, .ref h15, .ref h16, .ref h17, .ref h18, .ref h19, .ref h20, .ref h21, .ref h22, .ref h23, .ref h24, .ref h25]))] (fun q => some (.int 1)) (fun q => [(h1, .inr (5, [.int 0, .int 0, .ref h2, .ref h3, .ref h4, .ref h5, .ref h6, .ref h7, .ref h8, .ref h9, .ref h10, .ref h11])), (h0, .inr (4, [.int 1, .int 46, .long 1, .ref h12, .ref h13, .ref h14, .ref h15, .ref h16, .ref h17, .ref h18, .ref h19, .ref h20, .ref h21, .ref h22, .ref h23, .ref h24, .ref h25]))]) := by
  refine CT.of (by decide +kernel) (Nat.le_of_ble_eq_true rfl) ?_
  intro p e s m args below meth c A ls hx hb hr hml hown hG hlocks hnm hA hS hP hK hD hGV hl
  have hown : s.vm.findClass RX1 = some m.cls := hown
  have hl : lv_has ls 12 [(0, .ref h0), (1, .ref h1), (2, .int 20), (3, .int 0)] := hl
  have hSF : CF p m c cX1_holdsAlong 12 s args RX1 := ⟨hx, hb, hml, hown, hG⟩
  refine lv_lconst (v := 0) hx hb dX1_holdsAlong_0 (by decide) ?_
  refine lv_lstore (lv' := [(4, .long 0), (0, .ref h0), (1, .ref h1), (2, .int 20), (3, .int 0)]) hx hb dX1_holdsAlong_1 hl (by decide) rfl (fun ls hl => ?_)
  refine lv_lconst (v := 0) hx hb dX1_holdsAlong_3 (by decide) ?_
  refine lv_lstore (lv' := [(6, .long 0), (4, .long 0), (0, .ref h0), (1, .ref h1), (2, .int 20), (3, .int 0)]) hx hb dX1_holdsAlong_4 hl (by decide) rfl (fun ls hl => ?_)
  refine lv_iconst (v := 0) hx hb dX1_holdsAlong_6 (by decide) ?_
  refine lv_istore (lv' := [(8, .int 0), (6, .long 0), (4, .long 0), (0, .ref h0), (1, .ref h1), (2, .int 20), (3, .int 0)]) hx hb dX1_holdsAlong_7 hl (by decide) rfl (fun ls hl => ?_)
  refine lv_iload hx hb dX1_holdsAlong_9 (lv_at hl 0 rfl) ?_
  refine lv_aload_n hx hb dX1_holdsAlong_11 rfl (lv_at hl 4 rfl) ?_
  refine k_get (ci := 5) (C := RX2) (T := TX2) (N := 12) (v := .int 0) hx hb hG inX2 hown hK hP 0 rfl rfl 0 (by decide) gw128 rfl dX1_holdsAlong_12 ?_
  refine k_icmp_ge_t (tgt := 180) hx hb dX1_holdsAlong_15 (by decide) (by decide) ?_
  refine lv_aload_n hx hb dX1_holdsAlong_180 rfl (lv_at hl 3 rfl) ?_
  refine k_get (ci := 4) (C := RX1) (T := TX1) (N := 17) (v := .long 1) hx hb hG inX1 hown hK hP 1 rfl rfl 2 (by decide) gw201 rfl dX1_holdsAlong_181 ?_
  refine lv_lconst (v := 0) hx hb dX1_holdsAlong_184 (by decide) ?_
  refine k_lcmp (v := 1) hx hb dX1_holdsAlong_185 (by decide +kernel) ?_
  refine k_if_le_f (tgt := 220) hx hb dX1_holdsAlong_186 (by decide) (by decide) ?_
  refine lv_lload hx hb dX1_holdsAlong_189 (lv_at hl 1 rfl) ?_
  refine lv_aload_n hx hb dX1_holdsAlong_191 rfl (lv_at hl 3 rfl) ?_
  refine k_get (ci := 4) (C := RX1) (T := TX1) (N := 17) (v := .long 1) hx hb hG inX1 hown hK hP 1 rfl rfl 2 (by decide) gw201 rfl dX1_holdsAlong_192 ?_
  refine k_lrem (v := 0) hx hb dX1_holdsAlong_195 (by decide +kernel) (by decide +kernel) ?_
  refine lv_lconst (v := 0) hx hb dX1_holdsAlong_196 (by decide) ?_
  refine k_lcmp (v := 0) hx hb dX1_holdsAlong_197 (by decide +kernel) ?_
  refine k_if_ne_f (tgt := 220) hx hb dX1_holdsAlong_198 (by decide) (by decide) ?_
  refine lv_lload hx hb dX1_holdsAlong_201 (lv_at hl 2 rfl) ?_
  refine lv_lload hx hb dX1_holdsAlong_203 (lv_at hl 1 rfl) ?_
  refine lv_aload_n hx hb dX1_holdsAlong_205 rfl (lv_at hl 3 rfl) ?_
  refine k_get (ci := 4) (C := RX1) (T := TX1) (N := 17) (v := .long 1) hx hb hG inX1 hown hK hP 1 rfl rfl 2 (by decide) gw201 rfl dX1_holdsAlong_206 ?_
  refine k_ldiv (v := 0) hx hb dX1_holdsAlong_209 (by decide +kernel) (by decide +kernel) ?_
  refine k_ladd (v := 0) hx hb dX1_holdsAlong_210 (by decide +kernel) ?_
  refine lv_lconst (v := 0) hx hb dX1_holdsAlong_211 (by decide) ?_
  refine k_lcmp (v := 0) hx hb dX1_holdsAlong_212 (by decide +kernel) ?_
  refine k_if_ne_f (tgt := 220) hx hb dX1_holdsAlong_213 (by decide) (by decide) ?_
  refine lv_iconst (v := 1) hx hb dX1_holdsAlong_216 (by decide) ?_
  refine lv_goto (tgt := 221) hx hb dX1_holdsAlong_217 (by decide) ?_
  exact e_i (fun _ => 0) hx hb hr hlocks rfl rfl hP hD hS (Nat.le_of_ble_eq_true rfl) (Nat.le_of_ble_eq_true rfl) dX1_holdsAlong_221
set_option maxHeartbeats 4000000 in
set_option maxRecDepth 100000 in
theorem c427_X1_holdsAlong (l : Launch) (hfl : l.stackTraces = false) (D : va_G) (cA : Nat → ClassId) (g : gv_T) (h0 h1 h2 h3 h4 h5 h6 h7 h8 h9 h10 h11 h12 h13 h14 h15 h16 h17 h18 h19 h20 h21 h22 h23 h24 h25 : Nat) : CT l yX1_holdsAlong cX1_holdsAlong 12 (some .boolean) (RM 0 0 0 0) D cA g [.ref h0, .ref h1, .int 20, .int 1] [(h1, .inr (5, [.int 0, .int 0, .ref h2, .ref h3, .ref h4, .ref h5, .ref h6, .ref h7, .ref h8, .ref h9, .ref h10, .ref h11])), (h0, .inr (4, [.int 1, .int 46, .long 1, .ref h12, .ref h13, .ref h14, .ref h15, .ref h16, .ref h17, .ref h18, .ref h19, .ref h20, .ref h21, .ref h22, .ref h23, .ref h24, .ref h25]))] (fun q => some (.int 1)) (fun q => [(h1, .inr (5, [.int 0, .int 0, .ref h2, .ref h3, .ref h4, .ref h5, .ref h6, .ref h7, .ref h8, .ref h9, .ref h10, .ref h11])), (h0, .inr (4, [.int 1, .int 46, .long 1, .ref h12, .ref h13, .ref h14, .ref h15, .ref h16, .ref h17, .ref h18, .ref h19, .ref h20, .ref h21, .ref h22, .ref h23, .ref h24, .ref h25]))]) := by
  refine CT.of (by decide +kernel) (Nat.le_of_ble_eq_true rfl) ?_
  intro p e s m args below meth c A ls hx hb hr hml hown hG hlocks hnm hA hS hP hK hD hGV hl
  have hown : s.vm.findClass RX1 = some m.cls := hown
  have hl : lv_has ls 12 [(0, .ref h0), (1, .ref h1), (2, .int 20), (3, .int 1)] := hl
  have hSF : CF p m c cX1_holdsAlong 12 s args RX1 := ⟨hx, hb, hml, hown, hG⟩
  refine lv_lconst (v := 0) hx hb dX1_holdsAlong_0 (by decide) ?_
  refine lv_lstore (lv' := [(4, .long 0), (0, .ref h0), (1, .ref h1), (2, .int 20), (3, .int 1)]) hx hb dX1_holdsAlong_1 hl (by decide) rfl (fun ls hl => ?_)
  refine lv_lconst (v := 0) hx hb dX1_holdsAlong_3 (by decide) ?_
  refine lv_lstore (lv' := [(6, .long 0), (4, .long 0), (0, .ref h0), (1, .ref h1), (2, .int 20), (3, .int 1)]) hx hb dX1_holdsAlong_4 hl (by decide) rfl (fun ls hl => ?_)
  refine lv_iconst (v := 0) hx hb dX1_holdsAlong_6 (by decide) ?_
  refine lv_istore (lv' := [(8, .int 0), (6, .long 0), (4, .long 0), (0, .ref h0), (1, .ref h1), (2, .int 20), (3, .int 1)]) hx hb dX1_holdsAlong_7 hl (by decide) rfl (fun ls hl => ?_)
  refine lv_iload hx hb dX1_holdsAlong_9 (lv_at hl 0 rfl) ?_
  refine lv_aload_n hx hb dX1_holdsAlong_11 rfl (lv_at hl 4 rfl) ?_
  refine k_get (ci := 5) (C := RX2) (T := TX2) (N := 12) (v := .int 0) hx hb hG inX2 hown hK hP 0 rfl rfl 0 (by decide) gw128 rfl dX1_holdsAlong_12 ?_
  refine k_icmp_ge_t (tgt := 180) hx hb dX1_holdsAlong_15 (by decide) (by decide) ?_
  refine lv_aload_n hx hb dX1_holdsAlong_180 rfl (lv_at hl 3 rfl) ?_
  refine k_get (ci := 4) (C := RX1) (T := TX1) (N := 17) (v := .long 1) hx hb hG inX1 hown hK hP 1 rfl rfl 2 (by decide) gw201 rfl dX1_holdsAlong_181 ?_
  refine lv_lconst (v := 0) hx hb dX1_holdsAlong_184 (by decide) ?_
  refine k_lcmp (v := 1) hx hb dX1_holdsAlong_185 (by decide +kernel) ?_
  refine k_if_le_f (tgt := 220) hx hb dX1_holdsAlong_186 (by decide) (by decide) ?_
  refine lv_lload hx hb dX1_holdsAlong_189 (lv_at hl 1 rfl) ?_
  refine lv_aload_n hx hb dX1_holdsAlong_191 rfl (lv_at hl 3 rfl) ?_
  refine k_get (ci := 4) (C := RX1) (T := TX1) (N := 17) (v := .long 1) hx hb hG inX1 hown hK hP 1 rfl rfl 2 (by decide) gw201 rfl dX1_holdsAlong_192 ?_
  refine k_lrem (v := 0) hx hb dX1_holdsAlong_195 (by decide +kernel) (by decide +kernel) ?_
  refine lv_lconst (v := 0) hx hb dX1_holdsAlong_196 (by decide) ?_
  refine k_lcmp (v := 0) hx hb dX1_holdsAlong_197 (by decide +kernel) ?_
  refine k_if_ne_f (tgt := 220) hx hb dX1_holdsAlong_198 (by decide) (by decide) ?_
  refine lv_lload hx hb dX1_holdsAlong_201 (lv_at hl 2 rfl) ?_
  refine lv_lload hx hb dX1_holdsAlong_203 (lv_at hl 1 rfl) ?_
  refine lv_aload_n hx hb dX1_holdsAlong_205 rfl (lv_at hl 3 rfl) ?_
  refine k_get (ci := 4) (C := RX1) (T := TX1) (N := 17) (v := .long 1) hx hb hG inX1 hown hK hP 1 rfl rfl 2 (by decide) gw201 rfl dX1_holdsAlong_206 ?_
  refine k_ldiv (v := 0) hx hb dX1_holdsAlong_209 (by decide +kernel) (by decide +kernel) ?_
  refine k_ladd (v := 0) hx hb dX1_holdsAlong_210 (by decide +kernel) ?_
  refine lv_lconst (v := 0) hx hb dX1_holdsAlong_211 (by decide) ?_
  refine k_lcmp (v := 0) hx hb dX1_holdsAlong_212 (by decide +kernel) ?_
  refine k_if_ne_f (tgt := 220) hx hb dX1_holdsAlong_213 (by decide) (by decide) ?_
  refine lv_iconst (v := 1) hx hb dX1_holdsAlong_216 (by decide) ?_
  refine lv_goto (tgt := 221) hx hb dX1_holdsAlong_217 (by decide) ?_
  exact e_i (fun _ => 0) hx hb hr hlocks rfl rfl hP hD hS (Nat.le_of_ble_eq_true rfl) (Nat.le_of_ble_eq_true rfl) dX1_holdsAlong_221
set_option maxHeartbeats 4000000 in
set_option maxRecDepth 100000 in
theorem c428_X1_holdsAt (l : Launch) (hfl : l.stackTraces = false) (D : va_G) (cA : Nat → ClassId) (g : gv_T) (h0 h1 h2 h3 h4 h5 h6 h7 h8 h9 h10 h11 h12 h13 h14 h15 h16 h17 h18 h19 h20 h21 h22 h23 h24 h25 : Nat) : CT l yX1_holdsAt cX1_holdsAt 3 (some .boolean) (RM 1 0 0 31) D cA g [.ref h0, .ref h1, .int 20] [(h0, .inr (4, [.int 1, .int 46, .long 1, .ref h2, .ref h3, .ref h4, .ref h5, .ref h6, .ref h7, .ref h8, .ref h9, .ref h10, .ref h11, .ref h12, .ref h13, .ref h14, .ref h15])), (h1, .inr (5, [.int 0, .int 0, .ref h16, .ref h17, .ref h18, .ref h19, .ref h20, .ref h21, .ref h22, .ref h23, .ref h24, .ref h25]))] (fun q => some (.int 1)) (fun q => [(h0, .inr (4, [.int 1, .int 46, .long 1, .ref h2, .ref h3, .ref h4, .ref h5, .ref h6, .ref h7, .ref h8, .ref h9, .ref h10, .ref h11, .ref h12, .ref h13, .ref h14, .ref h15])), (h1, .inr (5, [.int 0, .int 0, .ref h16, .ref h17, .ref h18, .ref h19, .ref h20, .ref h21, .ref h22, .ref h23, .ref h24, .ref h25]))]) := by
  refine CT.of (by decide +kernel) (Nat.le_of_ble_eq_true rfl) ?_
  intro p e s m args below meth c A ls hx hb hr hml hown hG hlocks hnm hA hS hP hK hD hGV hl
  have hown : s.vm.findClass RX1 = some m.cls := hown
  have hl : lv_has ls 3 [(0, .ref h0), (1, .ref h1), (2, .int 20)] := hl
  have hSF : CF p m c cX1_holdsAt 3 s args RX1 := ⟨hx, hb, hml, hown, hG⟩
  refine lv_aload_n hx hb dX1_holdsAt_0 rfl (lv_at hl 0 rfl) ?_
  refine lv_aload_n hx hb dX1_holdsAt_1 rfl (lv_at hl 1 rfl) ?_
  refine lv_iload_n hx hb dX1_holdsAt_2 rfl (lv_at hl 2 rfl) ?_
  refine lv_iconst (v := 0) hx hb dX1_holdsAt_3 (by decide) ?_
  refine ct_V (wr := []) hSF hl.1 hP hD hS hA hK hGV (c426_X1_holdsAlong l hfl D cA g h0 h1 h16 h17 h18 h19 h20 h21 h22 h23 h24 h25 h2 h3 h4 h5 h6 h7 h8 h9 h10 h11 h12 h13 h14 h15) goV_X1_185 pd_X1_holdsAlong ⟨(Nat.le_of_ble_eq_true rfl), (Nat.le_of_ble_eq_true rfl)⟩ ⟨(Nat.le_of_ble_eq_true rfl), (Nat.le_of_ble_eq_true rfl)⟩ (va_recv hK hP (ci := 4) (q0 := 0) rfl rfl) dX1_holdsAt_4 rfl (Nat.le_of_ble_eq_true rfl) [1, 0] [] rfl (by decide) rfl (by decide) (by decide) (fun q => [(h1, .inr (5, [.int 0, .int 0, .ref h16, .ref h17, .ref h18, .ref h19, .ref h20, .ref h21, .ref h22, .ref h23, .ref h24, .ref h25])), (h0, .inr (4, [.int 1, .int 46, .long 1, .ref h2, .ref h3, .ref h4, .ref h5, .ref h6, .ref h7, .ref h8, .ref h9, .ref h10, .ref h11, .ref h12, .ref h13, .ref h14, .ref h15]))]) (fun _ => rfl) (fun q1 H locs hP hD hS => ?_)
  refine W.eq (g2 := F0 m 7 ls [.int 1]) rfl ?_
  refine k_if_eq_f (tgt := 24) hx hb dX1_holdsAt_7 (by decide) (by decide) ?_
  refine lv_aload_n hx hb dX1_holdsAt_10 rfl (lv_at hl 0 rfl) ?_
  refine lv_aload_n hx hb dX1_holdsAt_11 rfl (lv_at hl 1 rfl) ?_
  refine lv_iload_n hx hb dX1_holdsAt_12 rfl (lv_at hl 2 rfl) ?_
  refine lv_iconst (v := 1) hx hb dX1_holdsAt_13 (by decide) ?_
  refine ct_V (wr := []) hSF hl.1 hP hD hS hA hK hGV (c427_X1_holdsAlong l hfl D cA g h0 h1 h16 h17 h18 h19 h20 h21 h22 h23 h24 h25 h2 h3 h4 h5 h6 h7 h8 h9 h10 h11 h12 h13 h14 h15) goV_X1_185 pd_X1_holdsAlong ⟨(Nat.le_of_ble_eq_true rfl), (Nat.le_of_ble_eq_true rfl)⟩ ⟨(Nat.le_of_ble_eq_true rfl), (Nat.le_of_ble_eq_true rfl)⟩ (va_recv hK hP (ci := 4) (q0 := 1) rfl rfl) dX1_holdsAt_14 rfl (Nat.le_of_ble_eq_true rfl) [0, 1] [] rfl (by decide) rfl (by decide) (by decide) (fun q => [(h1, .inr (5, [.int 0, .int 0, .ref h16, .ref h17, .ref h18, .ref h19, .ref h20, .ref h21, .ref h22, .ref h23, .ref h24, .ref h25])), (h0, .inr (4, [.int 1, .int 46, .long 1, .ref h2, .ref h3, .ref h4, .ref h5, .ref h6, .ref h7, .ref h8, .ref h9, .ref h10, .ref h11, .ref h12, .ref h13, .ref h14, .ref h15]))]) (fun _ => rfl) (fun q2 H locs hP hD hS => ?_)
  refine W.eq (g2 := F0 m 17 ls [.int 1]) rfl ?_
  refine k_if_eq_f (tgt := 24) hx hb dX1_holdsAt_17 (by decide) (by decide) ?_
  refine lv_iconst (v := 1) hx hb dX1_holdsAt_20 (by decide) ?_
  refine lv_goto (tgt := 25) hx hb dX1_holdsAt_21 (by decide) ?_
  exact e_i (fun _ => 0) hx hb hr hlocks rfl rfl (hP.sub [1, 0] rfl) (hD.sub [1, 0] (by decide) rfl) hS (Nat.le_of_ble_eq_true rfl) (Nat.le_of_ble_eq_true rfl) dX1_holdsAt_25
set_option maxHeartbeats 4000000 in
set_option maxRecDepth 100000 in
theorem c429_X1_holdsAlong (l : Launch) (hfl : l.stackTraces = false) (D : va_G) (cA : Nat → ClassId) (g : gv_T) (h0 h1 h2 h3 h4 h5 h6 h7 h8 h9 h10 h11 h12 h13 h14 h15 h16 h17 h18 h19 h20 h21 h22 h23 h24 h25 : Nat) : CT l yX1_holdsAlong cX1_holdsAlong 12 (some .boolean) (RM 0 0 0 0) D cA g [.ref h0, .ref h1, .int 21, .int 0] [(h1, .inr (5, [.int 0, .int 0, .ref h2, .ref h3, .ref h4, .ref h5, .ref h6, .ref h7, .ref h8, .ref h9, .ref h10, .ref h11])), (h0, .inr (4, [.int 1, .int 46, .long 1, .ref h12, .ref h13, .ref h14, .ref h15, .ref h16, .ref h17, .ref h18, .ref h19, .ref h20, .ref h21, .ref h22, .ref h23, .ref h24, .ref h25]))] (fun q => some (.int 1)) (fun q => [(h1, .inr (5, [.int 0, .int 0, .ref h2, .ref h3, .ref h4, .ref h5, .ref h6, .ref h7, .ref h8, .ref h9, .ref h10, .ref h11])), (h0, .inr (4, [.int 1, .int 46, .long 1, .ref h12, .ref h13, .ref h14, .ref h15, .ref h16, .ref h17, .ref h18, .ref h19, .ref h20, .ref h21, .ref h22, .ref h23, .ref h24, .ref h25]))]) := by
  refine CT.of (by decide +kernel) (Nat.le_of_ble_eq_true rfl) ?_
  intro p e s m args below meth c A ls hx hb hr hml hown hG hlocks hnm hA hS hP hK hD hGV hl
  have hown : s.vm.findClass RX1 = some m.cls := hown
  have hl : lv_has ls 12 [(0, .ref h0), (1, .ref h1), (2, .int 21), (3, .int 0)] := hl
  have hSF : CF p m c cX1_holdsAlong 12 s args RX1 := ⟨hx, hb, hml, hown, hG⟩
  refine lv_lconst (v := 0) hx hb dX1_holdsAlong_0 (by decide) ?_
  refine lv_lstore (lv' := [(4, .long 0), (0, .ref h0), (1, .ref h1), (2, .int 21), (3, .int 0)]) hx hb dX1_holdsAlong_1 hl (by decide) rfl (fun ls hl => ?_)
  refine lv_lconst (v := 0) hx hb dX1_holdsAlong_3 (by decide) ?_
  refine lv_lstore (lv' := [(6, .long 0), (4, .long 0), (0, .ref h0), (1, .ref h1), (2, .int 21), (3, .int 0)]) hx hb dX1_holdsAlong_4 hl (by decide) rfl (fun ls hl => ?_)
  refine lv_iconst (v := 0) hx hb dX1_holdsAlong_6 (by decide) ?_
  refine lv_istore (lv' := [(8, .int 0), (6, .long 0), (4, .long 0), (0, .ref h0), (1, .ref h1), (2, .int 21), (3, .int 0)]) hx hb dX1_holdsAlong_7 hl (by decide) rfl (fun ls hl => ?_)
  refine lv_iload hx hb dX1_holdsAlong_9 (lv_at hl 0 rfl) ?_
  refine lv_aload_n hx hb dX1_holdsAlong_11 rfl (lv_at hl 4 rfl) ?_
  refine k_get (ci := 5) (C := RX2) (T := TX2) (N := 12) (v := .int 0) hx hb hG inX2 hown hK hP 0 rfl rfl 0 (by decide) gw128 rfl dX1_holdsAlong_12 ?_
  refine k_icmp_ge_t (tgt := 180) hx hb dX1_holdsAlong_15 (by decide) (by decide) ?_
  refine lv_aload_n hx hb dX1_holdsAlong_180 rfl (lv_at hl 3 rfl) ?_
  refine k_get (ci := 4) (C := RX1) (T := TX1) (N := 17) (v := .long 1) hx hb hG inX1 hown hK hP 1 rfl rfl 2 (by decide) gw201 rfl dX1_holdsAlong_181 ?_
  refine lv_lconst (v := 0) hx hb dX1_holdsAlong_184 (by decide) ?_
  refine k_lcmp (v := 1) hx hb dX1_holdsAlong_185 (by decide +kernel) ?_
  refine k_if_le_f (tgt := 220) hx hb dX1_holdsAlong_186 (by decide) (by decide) ?_
  refine lv_lload hx hb dX1_holdsAlong_189 (lv_at hl 1 rfl) ?_
  refine lv_aload_n hx hb dX1_holdsAlong_191 rfl (lv_at hl 3 rfl) ?_
  refine k_get (ci := 4) (C := RX1) (T := TX1) (N := 17) (v := .long 1) hx hb hG inX1 hown hK hP 1 rfl rfl 2 (by decide) gw201 rfl dX1_holdsAlong_192 ?_
  refine k_lrem (v := 0) hx hb dX1_holdsAlong_195 (by decide +kernel) (by decide +kernel) ?_
  refine lv_lconst (v := 0) hx hb dX1_holdsAlong_196 (by decide) ?_
  refine k_lcmp (v := 0) hx hb dX1_holdsAlong_197 (by decide +kernel) ?_
  refine k_if_ne_f (tgt := 220) hx hb dX1_holdsAlong_198 (by decide) (by decide) ?_
  refine lv_lload hx hb dX1_holdsAlong_201 (lv_at hl 2 rfl) ?_
  refine lv_lload hx hb dX1_holdsAlong_203 (lv_at hl 1 rfl) ?_
  refine lv_aload_n hx hb dX1_holdsAlong_205 rfl (lv_at hl 3 rfl) ?_
  refine k_get (ci := 4) (C := RX1) (T := TX1) (N := 17) (v := .long 1) hx hb hG inX1 hown hK hP 1 rfl rfl 2 (by decide) gw201 rfl dX1_holdsAlong_206 ?_
  refine k_ldiv (v := 0) hx hb dX1_holdsAlong_209 (by decide +kernel) (by decide +kernel) ?_
  refine k_ladd (v := 0) hx hb dX1_holdsAlong_210 (by decide +kernel) ?_
  refine lv_lconst (v := 0) hx hb dX1_holdsAlong_211 (by decide) ?_
  refine k_lcmp (v := 0) hx hb dX1_holdsAlong_212 (by decide +kernel) ?_
  refine k_if_ne_f (tgt := 220) hx hb dX1_holdsAlong_213 (by decide) (by decide) ?_
  refine lv_iconst (v := 1) hx hb dX1_holdsAlong_216 (by decide) ?_
  refine lv_goto (tgt := 221) hx hb dX1_holdsAlong_217 (by decide) ?_
  exact e_i (fun _ => 0) hx hb hr hlocks rfl rfl hP hD hS (Nat.le_of_ble_eq_true rfl) (Nat.le_of_ble_eq_true rfl) dX1_holdsAlong_221
set_option maxHeartbeats 4000000 in
set_option maxRecDepth 100000 in
theorem c430_X1_holdsAlong (l : Launch) (hfl : l.stackTraces = false) (D : va_G) (cA : Nat → ClassId) (g : gv_T) (h0 h1 h2 h3 h4 h5 h6 h7 h8 h9 h10 h11 h12 h13 h14 h15 h16 h17 h18 h19 h20 h21 h22 h23 h24 h25 : Nat) : CT l yX1_holdsAlong cX1_holdsAlong 12 (some .boolean) (RM 0 0 0 0) D cA g [.ref h0, .ref h1, .int 21, .int 1] [(h1, .inr (5, [.int 0, .int 0, .ref h2, .ref h3, .ref h4, .ref h5, .ref h6, .ref h7, .ref h8, .ref h9, .ref h10, .ref h11])), (h0, .inr (4, [.int 1, .int 46, .long 1, .ref h12, .ref h13, .ref h14, .ref h15, .ref h16, .ref h17, .ref h18, .ref h19, .ref h20, .ref h21, .ref h22, .ref h23, .ref h24, .ref h25]))] (fun q => some (.int 1)) (fun q => [(h1, .inr (5, [.int 0, .int 0, .ref h2, .ref h3, .ref h4, .ref h5, .ref h6, .ref h7, .ref h8, .ref h9, .ref h10, .ref h11])), (h0, .inr (4, [.int 1, .int 46, .long 1, .ref h12, .ref h13, .ref h14, .ref h15, .ref h16, .ref h17, .ref h18, .ref h19, .ref h20, .ref h21, .ref h22, .ref h23, .ref h24, .ref h25]))]) := by
  refine CT.of (by decide +kernel) (Nat.le_of_ble_eq_true rfl) ?_
  intro p e s m args below meth c A ls hx hb hr hml hown hG hlocks hnm hA hS hP hK hD hGV hl
  have hown : s.vm.findClass RX1 = some m.cls := hown
  have hl : lv_has ls 12 [(0, .ref h0), (1, .ref h1), (2, .int 21), (3, .int 1)] := hl
  have hSF : CF p m c cX1_holdsAlong 12 s args RX1 := ⟨hx, hb, hml, hown, hG⟩
  refine lv_lconst (v := 0) hx hb dX1_holdsAlong_0 (by decide) ?_
  refine lv_lstore (lv' := [(4, .long 0), (0, .ref h0), (1, .ref h1), (2, .int 21), (3, .int 1)]) hx hb dX1_holdsAlong_1 hl (by decide) rfl (fun ls hl => ?_)
  refine lv_lconst (v := 0) hx hb dX1_holdsAlong_3 (by decide) ?_
  refine lv_lstore (lv' := [(6, .long 0), (4, .long 0), (0, .ref h0), (1, .ref h1), (2, .int 21), (3, .int 1)]) hx hb dX1_holdsAlong_4 hl (by decide) rfl (fun ls hl => ?_)
  refine lv_iconst (v := 0) hx hb dX1_holdsAlong_6 (by decide) ?_
  refine lv_istore (lv' := [(8, .int 0), (6, .long 0), (4, .long 0), (0, .ref h0), (1, .ref h1), (2, .int 21), (3, .int 1)]) hx hb dX1_holdsAlong_7 hl (by decide) rfl (fun ls hl => ?_)
  refine lv_iload hx hb dX1_holdsAlong_9 (lv_at hl 0 rfl) ?_
  refine lv_aload_n hx hb dX1_holdsAlong_11 rfl (lv_at hl 4 rfl) ?_
  refine k_get (ci := 5) (C := RX2) (T := TX2) (N := 12) (v := .int 0) hx hb hG inX2 hown hK hP 0 rfl rfl 0 (by decide) gw128 rfl dX1_holdsAlong_12 ?_
  refine k_icmp_ge_t (tgt := 180) hx hb dX1_holdsAlong_15 (by decide) (by decide) ?_
  refine lv_aload_n hx hb dX1_holdsAlong_180 rfl (lv_at hl 3 rfl) ?_
  refine k_get (ci := 4) (C := RX1) (T := TX1) (N := 17) (v := .long 1) hx hb hG inX1 hown hK hP 1 rfl rfl 2 (by decide) gw201 rfl dX1_holdsAlong_181 ?_
  refine lv_lconst (v := 0) hx hb dX1_holdsAlong_184 (by decide) ?_
  refine k_lcmp (v := 1) hx hb dX1_holdsAlong_185 (by decide +kernel) ?_
  refine k_if_le_f (tgt := 220) hx hb dX1_holdsAlong_186 (by decide) (by decide) ?_
  refine lv_lload hx hb dX1_holdsAlong_189 (lv_at hl 1 rfl) ?_
  refine lv_aload_n hx hb dX1_holdsAlong_191 rfl (lv_at hl 3 rfl) ?_
  refine k_get (ci := 4) (C := RX1) (T := TX1) (N := 17) (v := .long 1) hx hb hG inX1 hown hK hP 1 rfl rfl 2 (by decide) gw201 rfl dX1_holdsAlong_192 ?_
  refine k_lrem (v := 0) hx hb dX1_holdsAlong_195 (by decide +kernel) (by decide +kernel) ?_
  refine lv_lconst (v := 0) hx hb dX1_holdsAlong_196 (by decide) ?_
  refine k_lcmp (v := 0) hx hb dX1_holdsAlong_197 (by decide +kernel) ?_
  refine k_if_ne_f (tgt := 220) hx hb dX1_holdsAlong_198 (by decide) (by decide) ?_
  refine lv_lload hx hb dX1_holdsAlong_201 (lv_at hl 2 rfl) ?_
  refine lv_lload hx hb dX1_holdsAlong_203 (lv_at hl 1 rfl) ?_
  refine lv_aload_n hx hb dX1_holdsAlong_205 rfl (lv_at hl 3 rfl) ?_
  refine k_get (ci := 4) (C := RX1) (T := TX1) (N := 17) (v := .long 1) hx hb hG inX1 hown hK hP 1 rfl rfl 2 (by decide) gw201 rfl dX1_holdsAlong_206 ?_
  refine k_ldiv (v := 0) hx hb dX1_holdsAlong_209 (by decide +kernel) (by decide +kernel) ?_
  refine k_ladd (v := 0) hx hb dX1_holdsAlong_210 (by decide +kernel) ?_
  refine lv_lconst (v := 0) hx hb dX1_holdsAlong_211 (by decide) ?_
  refine k_lcmp (v := 0) hx hb dX1_holdsAlong_212 (by decide +kernel) ?_
  refine k_if_ne_f (tgt := 220) hx hb dX1_holdsAlong_213 (by decide) (by decide) ?_
  refine lv_iconst (v := 1) hx hb dX1_holdsAlong_216 (by decide) ?_
  refine lv_goto (tgt := 221) hx hb dX1_holdsAlong_217 (by decide) ?_
  exact e_i (fun _ => 0) hx hb hr hlocks rfl rfl hP hD hS (Nat.le_of_ble_eq_true rfl) (Nat.le_of_ble_eq_true rfl) dX1_holdsAlong_221
set_option maxHeartbeats 4000000 in
set_option maxRecDepth 100000 in
theorem c431_X1_holdsAt (l : Launch) (hfl : l.stackTraces = false) (D : va_G) (cA : Nat → ClassId) (g : gv_T) (h0 h1 h2 h3 h4 h5 h6 h7 h8 h9 h10 h11 h12 h13 h14 h15 h16 h17 h18 h19 h20 h21 h22 h23 h24 h25 : Nat) : CT l yX1_holdsAt cX1_holdsAt 3 (some .boolean) (RM 1 0 0 31) D cA g [.ref h0, .ref h1, .int 21] [(h0, .inr (4, [.int 1, .int 46, .long 1, .ref h2, .ref h3, .ref h4, .ref h5, .ref h6, .ref h7, .ref h8, .ref h9, .ref h10, .ref h11, .ref h12, .ref h13, .ref h14, .ref h15])), (h1, .inr (5, [.int 0, .int 0, .ref h16, .ref h17, .ref h18, .ref h19, .ref h20, .ref h21, .ref h22, .ref h23, .ref h24, .ref h25]))] (fun q => some (.int 1)) (fun q => [(h0, .inr (4, [.int 1, .int 46, .long 1, .ref h2, .ref h3, .ref h4, .ref h5, .ref h6, .ref h7, .ref h8, .ref h9, .ref h10, .ref h11, .ref h12, .ref h13, .ref h14, .ref h15])), (h1, .inr (5, [.int 0, .int 0, .ref h16, .ref h17, .ref h18, .ref h19, .ref h20, .ref h21, .ref h22, .ref h23, .ref h24, .ref h25]))]) := by
  refine CT.of (by decide +kernel) (Nat.le_of_ble_eq_true rfl) ?_
  intro p e s m args below meth c A ls hx hb hr hml hown hG hlocks hnm hA hS hP hK hD hGV hl
  have hown : s.vm.findClass RX1 = some m.cls := hown
  have hl : lv_has ls 3 [(0, .ref h0), (1, .ref h1), (2, .int 21)] := hl
  have hSF : CF p m c cX1_holdsAt 3 s args RX1 := ⟨hx, hb, hml, hown, hG⟩
  refine lv_aload_n hx hb dX1_holdsAt_0 rfl (lv_at hl 0 rfl) ?_
  refine lv_aload_n hx hb dX1_holdsAt_1 rfl (lv_at hl 1 rfl) ?_
  refine lv_iload_n hx hb dX1_holdsAt_2 rfl (lv_at hl 2 rfl) ?_
  refine lv_iconst (v := 0) hx hb dX1_holdsAt_3 (by decide) ?_
  refine ct_V (wr := []) hSF hl.1 hP hD hS hA hK hGV (c429_X1_holdsAlong l hfl D cA g h0 h1 h16 h17 h18 h19 h20 h21 h22 h23 h24 h25 h2 h3 h4 h5 h6 h7 h8 h9 h10 h11 h12 h13 h14 h15) goV_X1_185 pd_X1_holdsAlong ⟨(Nat.le_of_ble_eq_true rfl), (Nat.le_of_ble_eq_true rfl)⟩ ⟨(Nat.le_of_ble_eq_true rfl), (Nat.le_of_ble_eq_true rfl)⟩ (va_recv hK hP (ci := 4) (q0 := 0) rfl rfl) dX1_holdsAt_4 rfl (Nat.le_of_ble_eq_true rfl) [1, 0] [] rfl (by decide) rfl (by decide) (by decide) (fun q => [(h1, .inr (5, [.int 0, .int 0, .ref h16, .ref h17, .ref h18, .ref h19, .ref h20, .ref h21, .ref h22, .ref h23, .ref h24, .ref h25])), (h0, .inr (4, [.int 1, .int 46, .long 1, .ref h2, .ref h3, .ref h4, .ref h5, .ref h6, .ref h7, .ref h8, .ref h9, .ref h10, .ref h11, .ref h12, .ref h13, .ref h14, .ref h15]))]) (fun _ => rfl) (fun q1 H locs hP hD hS => ?_)
  refine W.eq (g2 := F0 m 7 ls [.int 1]) rfl ?_
  refine k_if_eq_f (tgt := 24) hx hb dX1_holdsAt_7 (by decide) (by decide) ?_
  refine lv_aload_n hx hb dX1_holdsAt_10 rfl (lv_at hl 0 rfl) ?_
  refine lv_aload_n hx hb dX1_holdsAt_11 rfl (lv_at hl 1 rfl) ?_
  refine lv_iload_n hx hb dX1_holdsAt_12 rfl (lv_at hl 2 rfl) ?_
  refine lv_iconst (v := 1) hx hb dX1_holdsAt_13 (by decide) ?_
  refine ct_V (wr := []) hSF hl.1 hP hD hS hA hK hGV (c430_X1_holdsAlong l hfl D cA g h0 h1 h16 h17 h18 h19 h20 h21 h22 h23 h24 h25 h2 h3 h4 h5 h6 h7 h8 h9 h10 h11 h12 h13 h14 h15) goV_X1_185 pd_X1_holdsAlong ⟨(Nat.le_of_ble_eq_true rfl), (Nat.le_of_ble_eq_true rfl)⟩ ⟨(Nat.le_of_ble_eq_true rfl), (Nat.le_of_ble_eq_true rfl)⟩ (va_recv hK hP (ci := 4) (q0 := 1) rfl rfl) dX1_holdsAt_14 rfl (Nat.le_of_ble_eq_true rfl) [0, 1] [] rfl (by decide) rfl (by decide) (by decide) (fun q => [(h1, .inr (5, [.int 0, .int 0, .ref h16, .ref h17, .ref h18, .ref h19, .ref h20, .ref h21, .ref h22, .ref h23, .ref h24, .ref h25])), (h0, .inr (4, [.int 1, .int 46, .long 1, .ref h2, .ref h3, .ref h4, .ref h5, .ref h6, .ref h7, .ref h8, .ref h9, .ref h10, .ref h11, .ref h12, .ref h13, .ref h14, .ref h15]))]) (fun _ => rfl) (fun q2 H locs hP hD hS => ?_)
  refine W.eq (g2 := F0 m 17 ls [.int 1]) rfl ?_
  refine k_if_eq_f (tgt := 24) hx hb dX1_holdsAt_17 (by decide) (by decide) ?_
  refine lv_iconst (v := 1) hx hb dX1_holdsAt_20 (by decide) ?_
  refine lv_goto (tgt := 25) hx hb dX1_holdsAt_21 (by decide) ?_
  exact e_i (fun _ => 0) hx hb hr hlocks rfl rfl (hP.sub [1, 0] rfl) (hD.sub [1, 0] (by decide) rfl) hS (Nat.le_of_ble_eq_true rfl) (Nat.le_of_ble_eq_true rfl) dX1_holdsAt_25
set_option maxHeartbeats 4000000 in
set_option maxRecDepth 100000 in
theorem c432_X1_holdsAlong (l : Launch) (hfl : l.stackTraces = false) (D : va_G) (cA : Nat → ClassId) (g : gv_T) (h0 h1 h2 h3 h4 h5 h6 h7 h8 h9 h10 h11 h12 h13 h14 h15 h16 h17 h18 h19 h20 h21 h22 h23 h24 h25 : Nat) : CT l yX1_holdsAlong cX1_holdsAlong 12 (some .boolean) (RM 0 0 0 0) D cA g [.ref h0, .ref h1, .int 22, .int 0] [(h1, .inr (5, [.int 0, .int 0, .ref h2, .ref h3, .ref h4, .ref h5, .ref h6, .ref h7, .ref h8, .ref h9, .ref h10, .ref h11])), (h0, .inr (4, [.int 1, .int 46, .long 1, .ref h12, .ref h13, .ref h14, .ref h15, .ref h16, .ref h17, .ref h18, .ref h19, .ref h20, .ref h21, .ref h22, .ref h23, .ref h24, .ref h25]))] (fun q => some (.int 1)) (fun q => [(h1, .inr (5, [.int 0, .int 0, .ref h2, .ref h3, .ref h4, .ref h5, .ref h6, .ref h7, .ref h8, .ref h9, .ref h10, .ref h11])), (h0, .inr (4, [.int 1, .int 46, .long 1, .ref h12, .ref h13, .ref h14, .ref h15, .ref h16, .ref h17, .ref h18, .ref h19, .ref h20, .ref h21, .ref h22, .ref h23, .ref h24, .ref h25]))]) := by
  refine CT.of (by decide +kernel) (Nat.le_of_ble_eq_true rfl) ?_
  intro p e s m args below meth c A ls hx hb hr hml hown hG hlocks hnm hA hS hP hK hD hGV hl
  have hown : s.vm.findClass RX1 = some m.cls := hown
  have hl : lv_has ls 12 [(0, .ref h0), (1, .ref h1), (2, .int 22), (3, .int 0)] := hl
  have hSF : CF p m c cX1_holdsAlong 12 s args RX1 := ⟨hx, hb, hml, hown, hG⟩
  refine lv_lconst (v := 0) hx hb dX1_holdsAlong_0 (by decide) ?_
  refine lv_lstore (lv' := [(4, .long 0), (0, .ref h0), (1, .ref h1), (2, .int 22), (3, .int 0)]) hx hb dX1_holdsAlong_1 hl (by decide) rfl (fun ls hl => ?_)
  refine lv_lconst (v := 0) hx hb dX1_holdsAlong_3 (by decide) ?_
  refine lv_lstore (lv' := [(6, .long 0), (4, .long 0), (0, .ref h0), (1, .ref h1), (2, .int 22), (3, .int 0)]) hx hb dX1_holdsAlong_4 hl (by decide) rfl (fun ls hl => ?_)
  refine lv_iconst (v := 0) hx hb dX1_holdsAlong_6 (by decide) ?_
  refine lv_istore (lv' := [(8, .int 0), (6, .long 0), (4, .long 0), (0, .ref h0), (1, .ref h1), (2, .int 22), (3, .int 0)]) hx hb dX1_holdsAlong_7 hl (by decide) rfl (fun ls hl => ?_)
  refine lv_iload hx hb dX1_holdsAlong_9 (lv_at hl 0 rfl) ?_
  refine lv_aload_n hx hb dX1_holdsAlong_11 rfl (lv_at hl 4 rfl) ?_
  refine k_get (ci := 5) (C := RX2) (T := TX2) (N := 12) (v := .int 0) hx hb hG inX2 hown hK hP 0 rfl rfl 0 (by decide) gw128 rfl dX1_holdsAlong_12 ?_
  refine k_icmp_ge_t (tgt := 180) hx hb dX1_holdsAlong_15 (by decide) (by decide) ?_
  refine lv_aload_n hx hb dX1_holdsAlong_180 rfl (lv_at hl 3 rfl) ?_
  refine k_get (ci := 4) (C := RX1) (T := TX1) (N := 17) (v := .long 1) hx hb hG inX1 hown hK hP 1 rfl rfl 2 (by decide) gw201 rfl dX1_holdsAlong_181 ?_
  refine lv_lconst (v := 0) hx hb dX1_holdsAlong_184 (by decide) ?_
  refine k_lcmp (v := 1) hx hb dX1_holdsAlong_185 (by decide +kernel) ?_
  refine k_if_le_f (tgt := 220) hx hb dX1_holdsAlong_186 (by decide) (by decide) ?_
  refine lv_lload hx hb dX1_holdsAlong_189 (lv_at hl 1 rfl) ?_
  refine lv_aload_n hx hb dX1_holdsAlong_191 rfl (lv_at hl 3 rfl) ?_
  refine k_get (ci := 4) (C := RX1) (T := TX1) (N := 17) (v := .long 1) hx hb hG inX1 hown hK hP 1 rfl rfl 2 (by decide) gw201 rfl dX1_holdsAlong_192 ?_
  refine k_lrem (v := 0) hx hb dX1_holdsAlong_195 (by decide +kernel) (by decide +kernel) ?_
  refine lv_lconst (v := 0) hx hb dX1_holdsAlong_196 (by decide) ?_
  refine k_lcmp (v := 0) hx hb dX1_holdsAlong_197 (by decide +kernel) ?_
  refine k_if_ne_f (tgt := 220) hx hb dX1_holdsAlong_198 (by decide) (by decide) ?_
  refine lv_lload hx hb dX1_holdsAlong_201 (lv_at hl 2 rfl) ?_
  refine lv_lload hx hb dX1_holdsAlong_203 (lv_at hl 1 rfl) ?_
  refine lv_aload_n hx hb dX1_holdsAlong_205 rfl (lv_at hl 3 rfl) ?_
  refine k_get (ci := 4) (C := RX1) (T := TX1) (N := 17) (v := .long 1) hx hb hG inX1 hown hK hP 1 rfl rfl 2 (by decide) gw201 rfl dX1_holdsAlong_206 ?_
  refine k_ldiv (v := 0) hx hb dX1_holdsAlong_209 (by decide +kernel) (by decide +kernel) ?_
  refine k_ladd (v := 0) hx hb dX1_holdsAlong_210 (by decide +kernel) ?_
  refine lv_lconst (v := 0) hx hb dX1_holdsAlong_211 (by decide) ?_
  refine k_lcmp (v := 0) hx hb dX1_holdsAlong_212 (by decide +kernel) ?_
  refine k_if_ne_f (tgt := 220) hx hb dX1_holdsAlong_213 (by decide) (by decide) ?_
  refine lv_iconst (v := 1) hx hb dX1_holdsAlong_216 (by decide) ?_
  refine lv_goto (tgt := 221) hx hb dX1_holdsAlong_217 (by decide) ?_
  exact e_i (fun _ => 0) hx hb hr hlocks rfl rfl hP hD hS (Nat.le_of_ble_eq_true rfl) (Nat.le_of_ble_eq_true rfl) dX1_holdsAlong_221
set_option maxHeartbeats 4000000 in
set_option maxRecDepth 100000 in
theorem c433_X1_holdsAlong (l : Launch) (hfl : l.stackTraces = false) (D : va_G) (cA : Nat → ClassId) (g : gv_T) (h0 h1 h2 h3 h4 h5 h6 h7 h8 h9 h10 h11 h12 h13 h14 h15 h16 h17 h18 h19 h20 h21 h22 h23 h24 h25 : Nat) : CT l yX1_holdsAlong cX1_holdsAlong 12 (some .boolean) (RM 0 0 0 0) D cA g [.ref h0, .ref h1, .int 22, .int 1] [(h1, .inr (5, [.int 0, .int 0, .ref h2, .ref h3, .ref h4, .ref h5, .ref h6, .ref h7, .ref h8, .ref h9, .ref h10, .ref h11])), (h0, .inr (4, [.int 1, .int 46, .long 1, .ref h12, .ref h13, .ref h14, .ref h15, .ref h16, .ref h17, .ref h18, .ref h19, .ref h20, .ref h21, .ref h22, .ref h23, .ref h24, .ref h25]))] (fun q => some (.int 1)) (fun q => [(h1, .inr (5, [.int 0, .int 0, .ref h2, .ref h3, .ref h4, .ref h5, .ref h6, .ref h7, .ref h8, .ref h9, .ref h10, .ref h11])), (h0, .inr (4, [.int 1, .int 46, .long 1, .ref h12, .ref h13, .ref h14, .ref h15, .ref h16, .ref h17, .ref h18, .ref h19, .ref h20, .ref h21, .ref h22, .ref h23, .ref h24, .ref h25]))]) := by
  refine CT.of (by decide +kernel) (Nat.le_of_ble_eq_true rfl) ?_
  intro p e s m args below meth c A ls hx hb hr hml hown hG hlocks hnm hA hS hP hK hD hGV hl
  have hown : s.vm.findClass RX1 = some m.cls := hown
  have hl : lv_has ls 12 [(0, .ref h0), (1, .ref h1), (2, .int 22), (3, .int 1)] := hl
  have hSF : CF p m c cX1_holdsAlong 12 s args RX1 := ⟨hx, hb, hml, hown, hG⟩
  refine lv_lconst (v := 0) hx hb dX1_holdsAlong_0 (by decide) ?_
  refine lv_lstore (lv' := [(4, .long 0), (0, .ref h0), (1, .ref h1), (2, .int 22), (3, .int 1)]) hx hb dX1_holdsAlong_1 hl (by decide) rfl (fun ls hl => ?_)
  refine lv_lconst (v := 0) hx hb dX1_holdsAlong_3 (by decide) ?_
  refine lv_lstore (lv' := [(6, .long 0), (4, .long 0), (0, .ref h0), (1, .ref h1), (2, .int 22), (3, .int 1)]) hx hb dX1_holdsAlong_4 hl (by decide) rfl (fun ls hl => ?_)
  refine lv_iconst (v := 0) hx hb dX1_holdsAlong_6 (by decide) ?_
  refine lv_istore (lv' := [(8, .int 0), (6, .long 0), (4, .long 0), (0, .ref h0), (1, .ref h1), (2, .int 22), (3, .int 1)]) hx hb dX1_holdsAlong_7 hl (by decide) rfl (fun ls hl => ?_)
  refine lv_iload hx hb dX1_holdsAlong_9 (lv_at hl 0 rfl) ?_
  refine lv_aload_n hx hb dX1_holdsAlong_11 rfl (lv_at hl 4 rfl) ?_
  refine k_get (ci := 5) (C := RX2) (T := TX2) (N := 12) (v := .int 0) hx hb hG inX2 hown hK hP 0 rfl rfl 0 (by decide) gw128 rfl dX1_holdsAlong_12 ?_
  refine k_icmp_ge_t (tgt := 180) hx hb dX1_holdsAlong_15 (by decide) (by decide) ?_
  refine lv_aload_n hx hb dX1_holdsAlong_180 rfl (lv_at hl 3 rfl) ?_
  refine k_get (ci := 4) (C := RX1) (T := TX1) (N := 17) (v := .long 1) hx hb hG inX1 hown hK hP 1 rfl rfl 2 (by decide) gw201 rfl dX1_holdsAlong_181 ?_
  refine lv_lconst (v := 0) hx hb dX1_holdsAlong_184 (by decide) ?_
  refine k_lcmp (v := 1) hx hb dX1_holdsAlong_185 (by decide +kernel) ?_
  refine k_if_le_f (tgt := 220) hx hb dX1_holdsAlong_186 (by decide) (by decide) ?_
  refine lv_lload hx hb dX1_holdsAlong_189 (lv_at hl 1 rfl) ?_
  refine lv_aload_n hx hb dX1_holdsAlong_191 rfl (lv_at hl 3 rfl) ?_
  refine k_get (ci := 4) (C := RX1) (T := TX1) (N := 17) (v := .long 1) hx hb hG inX1 hown hK hP 1 rfl rfl 2 (by decide) gw201 rfl dX1_holdsAlong_192 ?_
  refine k_lrem (v := 0) hx hb dX1_holdsAlong_195 (by decide +kernel) (by decide +kernel) ?_
  refine lv_lconst (v := 0) hx hb dX1_holdsAlong_196 (by decide) ?_
  refine k_lcmp (v := 0) hx hb dX1_holdsAlong_197 (by decide +kernel) ?_
  refine k_if_ne_f (tgt := 220) hx hb dX1_holdsAlong_198 (by decide) (by decide) ?_
  refine lv_lload hx hb dX1_holdsAlong_201 (lv_at hl 2 rfl) ?_
  refine lv_lload hx hb dX1_holdsAlong_203 (lv_at hl 1 rfl) ?_
  refine lv_aload_n hx hb dX1_holdsAlong_205 rfl (lv_at hl 3 rfl) ?_
  refine k_get (ci := 4) (C := RX1) (T := TX1) (N := 17) (v := .long 1) hx hb hG inX1 hown hK hP 1 rfl rfl 2 (by decide) gw201 rfl dX1_holdsAlong_206 ?_
  refine k_ldiv (v := 0) hx hb dX1_holdsAlong_209 (by decide +kernel) (by decide +kernel) ?_
  refine k_ladd (v := 0) hx hb dX1_holdsAlong_210 (by decide +kernel) ?_
  refine lv_lconst (v := 0) hx hb dX1_holdsAlong_211 (by decide) ?_
  refine k_lcmp (v := 0) hx hb dX1_holdsAlong_212 (by decide +kernel) ?_
  refine k_if_ne_f (tgt := 220) hx hb dX1_holdsAlong_213 (by decide) (by decide) ?_
  refine lv_iconst (v := 1) hx hb dX1_holdsAlong_216 (by decide) ?_
  refine lv_goto (tgt := 221) hx hb dX1_holdsAlong_217 (by decide) ?_
  exact e_i (fun _ => 0) hx hb hr hlocks rfl rfl hP hD hS (Nat.le_of_ble_eq_true rfl) (Nat.le_of_ble_eq_true rfl) dX1_holdsAlong_221
set_option maxHeartbeats 4000000 in
set_option maxRecDepth 100000 in
theorem c434_X1_holdsAt (l : Launch) (hfl : l.stackTraces = false) (D : va_G) (cA : Nat → ClassId) (g : gv_T) (h0 h1 h2 h3 h4 h5 h6 h7 h8 h9 h10 h11 h12 h13 h14 h15 h16 h17 h18 h19 h20 h21 h22 h23 h24 h25 : Nat) : CT l yX1_holdsAt cX1_holdsAt 3 (some .boolean) (RM 1 0 0 31) D cA g [.ref h0, .ref h1, .int 22] [(h0, .inr (4, [.int 1, .int 46, .long 1, .ref h2, .ref h3, .ref h4, .ref h5, .ref h6, .ref h7, .ref h8, .ref h9, .ref h10, .ref h11, .ref h12, .ref h13, .ref h14, .ref h15])), (h1, .inr (5, [.int 0, .int 0, .ref h16, .ref h17, .ref h18, .ref h19, .ref h20, .ref h21, .ref h22, .ref h23, .ref h24, .ref h25]))] (fun q => some (.int 1)) (fun q => [(h0, .inr (4, [.int 1, .int 46, .long 1, .ref h2, .ref h3, .ref h4, .ref h5, .ref h6, .ref h7, .ref h8, .ref h9, .ref h10, .ref h11, .ref h12, .ref h13, .ref h14, .ref h15])), (h1, .inr (5, [.int 0, .int 0, .ref h16, .ref h17, .ref h18, .ref h19, .ref h20, .ref h21, .ref h22, .ref h23, .ref h24, .ref h25]))]) := by
  refine CT.of (by decide +kernel) (Nat.le_of_ble_eq_true rfl) ?_
  intro p e s m args below meth c A ls hx hb hr hml hown hG hlocks hnm hA hS hP hK hD hGV hl
  have hown : s.vm.findClass RX1 = some m.cls := hown
  have hl : lv_has ls 3 [(0, .ref h0), (1, .ref h1), (2, .int 22)] := hl
  have hSF : CF p m c cX1_holdsAt 3 s args RX1 := ⟨hx, hb, hml, hown, hG⟩
  refine lv_aload_n hx hb dX1_holdsAt_0 rfl (lv_at hl 0 rfl) ?_
  refine lv_aload_n hx hb dX1_holdsAt_1 rfl (lv_at hl 1 rfl) ?_
  refine lv_iload_n hx hb dX1_holdsAt_2 rfl (lv_at hl 2 rfl) ?_
  refine lv_iconst (v := 0) hx hb dX1_holdsAt_3 (by decide) ?_
  refine ct_V (wr := []) hSF hl.1 hP hD hS hA hK hGV (c432_X1_holdsAlong l hfl D cA g h0 h1 h16 h17 h18 h19 h20 h21 h22 h23 h24 h25 h2 h3 h4 h5 h6 h7 h8 h9 h10 h11 h12 h13 h14 h15) goV_X1_185 pd_X1_holdsAlong ⟨(Nat.le_of_ble_eq_true rfl), (Nat.le_of_ble_eq_true rfl)⟩ ⟨(Nat.le_of_ble_eq_true rfl), (Nat.le_of_ble_eq_true rfl)⟩ (va_recv hK hP (ci := 4) (q0 := 0) rfl rfl) dX1_holdsAt_4 rfl (Nat.le_of_ble_eq_true rfl) [1, 0] [] rfl (by decide) rfl (by decide) (by decide) (fun q => [(h1, .inr (5, [.int 0, .int 0, .ref h16, .ref h17, .ref h18, .ref h19, .ref h20, .ref h21, .ref h22, .ref h23, .ref h24, .ref h25])), (h0, .inr (4, [.int 1, .int 46, .long 1, .ref h2, .ref h3, .ref h4, .ref h5, .ref h6, .ref h7, .ref h8, .ref h9, .ref h10, .ref h11, .ref h12, .ref h13, .ref h14, .ref h15]))]) (fun _ => rfl) (fun q1 H locs hP hD hS => ?_)
  refine W.eq (g2 := F0 m 7 ls [.int 1]) rfl ?_
  refine k_if_eq_f (tgt := 24) hx hb dX1_holdsAt_7 (by decide) (by decide) ?_
  refine lv_aload_n hx hb dX1_holdsAt_10 rfl (lv_at hl 0 rfl) ?_
  refine lv_aload_n hx hb dX1_holdsAt_11 rfl (lv_at hl 1 rfl) ?_
  refine lv_iload_n hx hb dX1_holdsAt_12 rfl (lv_at hl 2 rfl) ?_
  refine lv_iconst (v := 1) hx hb dX1_holdsAt_13 (by decide) ?_
  refine ct_V (wr := []) hSF hl.1 hP hD hS hA hK hGV (c433_X1_holdsAlong l hfl D cA g h0 h1 h16 h17 h18 h19 h20 h21 h22 h23 h24 h25 h2 h3 h4 h5 h6 h7 h8 h9 h10 h11 h12 h13 h14 h15) goV_X1_185 pd_X1_holdsAlong ⟨(Nat.le_of_ble_eq_true rfl), (Nat.le_of_ble_eq_true rfl)⟩ ⟨(Nat.le_of_ble_eq_true rfl), (Nat.le_of_ble_eq_true rfl)⟩ (va_recv hK hP (ci := 4) (q0 := 1) rfl rfl) dX1_holdsAt_14 rfl (Nat.le_of_ble_eq_true rfl) [0, 1] [] rfl (by decide) rfl (by decide) (by decide) (fun q => [(h1, .inr (5, [.int 0, .int 0, .ref h16, .ref h17, .ref h18, .ref h19, .ref h20, .ref h21, .ref h22, .ref h23, .ref h24, .ref h25])), (h0, .inr (4, [.int 1, .int 46, .long 1, .ref h2, .ref h3, .ref h4, .ref h5, .ref h6, .ref h7, .ref h8, .ref h9, .ref h10, .ref h11, .ref h12, .ref h13, .ref h14, .ref h15]))]) (fun _ => rfl) (fun q2 H locs hP hD hS => ?_)
  refine W.eq (g2 := F0 m 17 ls [.int 1]) rfl ?_
  refine k_if_eq_f (tgt := 24) hx hb dX1_holdsAt_17 (by decide) (by decide) ?_
  refine lv_iconst (v := 1) hx hb dX1_holdsAt_20 (by decide) ?_
  refine lv_goto (tgt := 25) hx hb dX1_holdsAt_21 (by decide) ?_
  exact e_i (fun _ => 0) hx hb hr hlocks rfl rfl (hP.sub [1, 0] rfl) (hD.sub [1, 0] (by decide) rfl) hS (Nat.le_of_ble_eq_true rfl) (Nat.le_of_ble_eq_true rfl) dX1_holdsAt_25
set_option maxHeartbeats 4000000 in
set_option maxRecDepth 100000 in
theorem c435_X1_holdsAlong (l : Launch) (hfl : l.stackTraces = false) (D : va_G) (cA : Nat → ClassId) (g : gv_T) (h0 h1 h2 h3 h4 h5 h6 h7 h8 h9 h10 h11 h12 h13 h14 h15 h16 h17 h18 h19 h20 h21 h22 h23 h24 h25 : Nat) : CT l yX1_holdsAlong cX1_holdsAlong 12 (some .boolean) (RM 0 0 0 0) D cA g [.ref h0, .ref h1, .int 23, .int 0] [(h1, .inr (5, [.int 0, .int 0, .ref h2, .ref h3, .ref h4, .ref h5, .ref h6, .ref h7, .ref h8, .ref h9, .ref h10, .ref h11])), (h0, .inr (4, [.int 1, .int 46, .long 1, .ref h12, .ref h13, .ref h14, .ref h15, .ref h16, .ref h17, .ref h18, .ref h19, .ref h20, .ref h21, .ref h22, .ref h23, .ref h24, .ref h25]))] (fun q => some (.int 1)) (fun q => [(h1, .inr (5, [.int 0, .int 0, .ref h2, .ref h3, .ref h4, .ref h5, .ref h6, .ref h7, .ref h8, .ref h9, .ref h10, .ref h11])), (h0, .inr (4, [.int 1, .int 46, .long 1, .ref h12, .ref h13, .ref h14, .ref h15, .ref h16, .ref h17, .ref h18, .ref h19, .ref h20, .ref h21, .ref h22, .ref h23, .ref h24, .ref h25]))]) := by
  refine CT.of (by decide +kernel) (Nat.le_of_ble_eq_true rfl) ?_
  intro p e s m args below meth c A ls hx hb hr hml hown hG hlocks hnm hA hS hP hK hD hGV hl
  have hown : s.vm.findClass RX1 = some m.cls := hown
  have hl : lv_has ls 12 [(0, .ref h0), (1, .ref h1), (2, .int 23), (3, .int 0)] := hl
  have hSF : CF p m c cX1_holdsAlong 12 s args RX1 := ⟨hx, hb, hml, hown, hG⟩
  refine lv_lconst (v := 0) hx hb dX1_holdsAlong_0 (by decide) ?_
  refine lv_lstore (lv' := [(4, .long 0), (0, .ref h0), (1, .ref h1), (2, .int 23), (3, .int 0)]) hx hb dX1_holdsAlong_1 hl (by decide) rfl (fun ls hl => ?_)
  refine lv_lconst (v := 0) hx hb dX1_holdsAlong_3 (by decide) ?_
  refine lv_lstore (lv' := [(6, .long 0), (4, .long 0), (0, .ref h0), (1, .ref h1), (2, .int 23), (3, .int 0)]) hx hb dX1_holdsAlong_4 hl (by decide) rfl (fun ls hl => ?_)
  refine lv_iconst (v := 0) hx hb dX1_holdsAlong_6 (by decide) ?_
  refine lv_istore (lv' := [(8, .int 0), (6, .long 0), (4, .long 0), (0, .ref h0), (1, .ref h1), (2, .int 23), (3, .int 0)]) hx hb dX1_holdsAlong_7 hl (by decide) rfl (fun ls hl => ?_)
  refine lv_iload hx hb dX1_holdsAlong_9 (lv_at hl 0 rfl) ?_
  refine lv_aload_n hx hb dX1_holdsAlong_11 rfl (lv_at hl 4 rfl) ?_
  refine k_get (ci := 5) (C := RX2) (T := TX2) (N := 12) (v := .int 0) hx hb hG inX2 hown hK hP 0 rfl rfl 0 (by decide) gw128 rfl dX1_holdsAlong_12 ?_
  refine k_icmp_ge_t (tgt := 180) hx hb dX1_holdsAlong_15 (by decide) (by decide) ?_
  refine lv_aload_n hx hb dX1_holdsAlong_180 rfl (lv_at hl 3 rfl) ?_
  refine k_get (ci := 4) (C := RX1) (T := TX1) (N := 17) (v := .long 1) hx hb hG inX1 hown hK hP 1 rfl rfl 2 (by decide) gw201 rfl dX1_holdsAlong_181 ?_
  refine lv_lconst (v := 0) hx hb dX1_holdsAlong_184 (by decide) ?_
  refine k_lcmp (v := 1) hx hb dX1_holdsAlong_185 (by decide +kernel) ?_
  refine k_if_le_f (tgt := 220) hx hb dX1_holdsAlong_186 (by decide) (by decide) ?_
  refine lv_lload hx hb dX1_holdsAlong_189 (lv_at hl 1 rfl) ?_
  refine lv_aload_n hx hb dX1_holdsAlong_191 rfl (lv_at hl 3 rfl) ?_
  refine k_get (ci := 4) (C := RX1) (T := TX1) (N := 17) (v := .long 1) hx hb hG inX1 hown hK hP 1 rfl rfl 2 (by decide) gw201 rfl dX1_holdsAlong_192 ?_
  refine k_lrem (v := 0) hx hb dX1_holdsAlong_195 (by decide +kernel) (by decide +kernel) ?_
  refine lv_lconst (v := 0) hx hb dX1_holdsAlong_196 (by decide) ?_
  refine k_lcmp (v := 0) hx hb dX1_holdsAlong_197 (by decide +kernel) ?_
  refine k_if_ne_f (tgt := 220) hx hb dX1_holdsAlong_198 (by decide) (by decide) ?_
  refine lv_lload hx hb dX1_holdsAlong_201 (lv_at hl 2 rfl) ?_
  refine lv_lload hx hb dX1_holdsAlong_203 (lv_at hl 1 rfl) ?_
  refine lv_aload_n hx hb dX1_holdsAlong_205 rfl (lv_at hl 3 rfl) ?_
  refine k_get (ci := 4) (C := RX1) (T := TX1) (N := 17) (v := .long 1) hx hb hG inX1 hown hK hP 1 rfl rfl 2 (by decide) gw201 rfl dX1_holdsAlong_206 ?_
  refine k_ldiv (v := 0) hx hb dX1_holdsAlong_209 (by decide +kernel) (by decide +kernel) ?_
  refine k_ladd (v := 0) hx hb dX1_holdsAlong_210 (by decide +kernel) ?_
  refine lv_lconst (v := 0) hx hb dX1_holdsAlong_211 (by decide) ?_
  refine k_lcmp (v := 0) hx hb dX1_holdsAlong_212 (by decide +kernel) ?_
  refine k_if_ne_f (tgt := 220) hx hb dX1_holdsAlong_213 (by decide) (by decide) ?_
  refine lv_iconst (v := 1) hx hb dX1_holdsAlong_216 (by decide) ?_
  refine lv_goto (tgt := 221) hx hb dX1_holdsAlong_217 (by decide) ?_
  exact e_i (fun _ => 0) hx hb hr hlocks rfl rfl hP hD hS (Nat.le_of_ble_eq_true rfl) (Nat.le_of_ble_eq_true rfl) dX1_holdsAlong_221
set_option maxHeartbeats 4000000 in
set_option maxRecDepth 100000 in
theorem c436_X1_holdsAlong (l : Launch) (hfl : l.stackTraces = false) (D : va_G) (cA : Nat → ClassId) (g : gv_T) (h0 h1 h2 h3 h4 h5 h6 h7 h8 h9 h10 h11 h12 h13 h14 h15 h16 h17 h18 h19 h20 h21 h22 h23 h24 h25 : Nat) : CT l yX1_holdsAlong cX1_holdsAlong 12 (some .boolean) (RM 0 0 0 0) D cA g [.ref h0, .ref h1, .int 23, .int 1] [(h1, .inr (5, [.int 0, .int 0, .ref h2, .ref h3, .ref h4, .ref h5, .ref h6, .ref h7, .ref h8, .ref h9, .ref h10, .ref h11])), (h0, .inr (4, [.int 1, .int 46, .long 1, .ref h12, .ref h13, .ref h14, .ref h15, .ref h16, .ref h17, .ref h18, .ref h19, .ref h20, .ref h21, .ref h22, .ref h23, .ref h24, .ref h25]))] (fun q => some (.int 1)) (fun q => [(h1, .inr (5, [.int 0, .int 0, .ref h2, .ref h3, .ref h4, .ref h5, .ref h6, .ref h7, .ref h8, .ref h9, .ref h10, .ref h11])), (h0, .inr (4, [.int 1, .int 46, .long 1, .ref h12, .ref h13, .ref h14, .ref h15, .ref h16, .ref h17, .ref h18, .ref h19, .ref h20, .ref h21, .ref h22, .ref h23, .ref h24, .ref h25]))]) := by
  refine CT.of (by decide +kernel) (Nat.le_of_ble_eq_true rfl) ?_
  intro p e s m args below meth c A ls hx hb hr hml hown hG hlocks hnm hA hS hP hK hD hGV hl
  have hown : s.vm.findClass RX1 = some m.cls := hown
  have hl : lv_has ls 12 [(0, .ref h0), (1, .ref h1), (2, .int 23), (3, .int 1)] := hl
  have hSF : CF p m c cX1_holdsAlong 12 s args RX1 := ⟨hx, hb, hml, hown, hG⟩
  refine lv_lconst (v := 0) hx hb dX1_holdsAlong_0 (by decide) ?_
  refine lv_lstore (lv' := [(4, .long 0), (0, .ref h0), (1, .ref h1), (2, .int 23), (3, .int 1)]) hx hb dX1_holdsAlong_1 hl (by decide) rfl (fun ls hl => ?_)
  refine lv_lconst (v := 0) hx hb dX1_holdsAlong_3 (by decide) ?_
  refine lv_lstore (lv' := [(6, .long 0), (4, .long 0), (0, .ref h0), (1, .ref h1), (2, .int 23), (3, .int 1)]) hx hb dX1_holdsAlong_4 hl (by decide) rfl (fun ls hl => ?_)
  refine lv_iconst (v := 0) hx hb dX1_holdsAlong_6 (by decide) ?_
  refine lv_istore (lv' := [(8, .int 0), (6, .long 0), (4, .long 0), (0, .ref h0), (1, .ref h1), (2, .int 23), (3, .int 1)]) hx hb dX1_holdsAlong_7 hl (by decide) rfl (fun ls hl => ?_)
  refine lv_iload hx hb dX1_holdsAlong_9 (lv_at hl 0 rfl) ?_
  refine lv_aload_n hx hb dX1_holdsAlong_11 rfl (lv_at hl 4 rfl) ?_
  refine k_get (ci := 5) (C := RX2) (T := TX2) (N := 12) (v := .int 0) hx hb hG inX2 hown hK hP 0 rfl rfl 0 (by decide) gw128 rfl dX1_holdsAlong_12 ?_
  refine k_icmp_ge_t (tgt := 180) hx hb dX1_holdsAlong_15 (by decide) (by decide) ?_
  refine lv_aload_n hx hb dX1_holdsAlong_180 rfl (lv_at hl 3 rfl) ?_
  refine k_get (ci := 4) (C := RX1) (T := TX1) (N := 17) (v := .long 1) hx hb hG inX1 hown hK hP 1 rfl rfl 2 (by decide) gw201 rfl dX1_holdsAlong_181 ?_
  refine lv_lconst (v := 0) hx hb dX1_holdsAlong_184 (by decide) ?_
  refine k_lcmp (v := 1) hx hb dX1_holdsAlong_185 (by decide +kernel) ?_
  refine k_if_le_f (tgt := 220) hx hb dX1_holdsAlong_186 (by decide) (by decide) ?_
  refine lv_lload hx hb dX1_holdsAlong_189 (lv_at hl 1 rfl) ?_
  refine lv_aload_n hx hb dX1_holdsAlong_191 rfl (lv_at hl 3 rfl) ?_
  refine k_get (ci := 4) (C := RX1) (T := TX1) (N := 17) (v := .long 1) hx hb hG inX1 hown hK hP 1 rfl rfl 2 (by decide) gw201 rfl dX1_holdsAlong_192 ?_
  refine k_lrem (v := 0) hx hb dX1_holdsAlong_195 (by decide +kernel) (by decide +kernel) ?_
  refine lv_lconst (v := 0) hx hb dX1_holdsAlong_196 (by decide) ?_
  refine k_lcmp (v := 0) hx hb dX1_holdsAlong_197 (by decide +kernel) ?_
  refine k_if_ne_f (tgt := 220) hx hb dX1_holdsAlong_198 (by decide) (by decide) ?_
  refine lv_lload hx hb dX1_holdsAlong_201 (lv_at hl 2 rfl) ?_
  refine lv_lload hx hb dX1_holdsAlong_203 (lv_at hl 1 rfl) ?_
  refine lv_aload_n hx hb dX1_holdsAlong_205 rfl (lv_at hl 3 rfl) ?_
  refine k_get (ci := 4) (C := RX1) (T := TX1) (N := 17) (v := .long 1) hx hb hG inX1 hown hK hP 1 rfl rfl 2 (by decide) gw201 rfl dX1_holdsAlong_206 ?_
  refine k_ldiv (v := 0) hx hb dX1_holdsAlong_209 (by decide +kernel) (by decide +kernel) ?_
  refine k_ladd (v := 0) hx hb dX1_holdsAlong_210 (by decide +kernel) ?_
  refine lv_lconst (v := 0) hx hb dX1_holdsAlong_211 (by decide) ?_
  refine k_lcmp (v := 0) hx hb dX1_holdsAlong_212 (by decide +kernel) ?_
  refine k_if_ne_f (tgt := 220) hx hb dX1_holdsAlong_213 (by decide) (by decide) ?_
  refine lv_iconst (v := 1) hx hb dX1_holdsAlong_216 (by decide) ?_
  refine lv_goto (tgt := 221) hx hb dX1_holdsAlong_217 (by decide) ?_
  exact e_i (fun _ => 0) hx hb hr hlocks rfl rfl hP hD hS (Nat.le_of_ble_eq_true rfl) (Nat.le_of_ble_eq_true rfl) dX1_holdsAlong_221
set_option maxHeartbeats 4000000 in
set_option maxRecDepth 100000 in
theorem c437_X1_holdsAt (l : Launch) (hfl : l.stackTraces = false) (D : va_G) (cA : Nat → ClassId) (g : gv_T) (h0 h1 h2 h3 h4 h5 h6 h7 h8 h9 h10 h11 h12 h13 h14 h15 h16 h17 h18 h19 h20 h21 h22 h23 h24 h25 : Nat) : CT l yX1_holdsAt cX1_holdsAt 3 (some .boolean) (RM 1 0 0 31) D cA g [.ref h0, .ref h1, .int 23] [(h0, .inr (4, [.int 1, .int 46, .long 1, .ref h2, .ref h3, .ref h4, .ref h5, .ref h6, .ref h7, .ref h8, .ref h9, .ref h10, .ref h11, .ref h12, .ref h13, .ref h14, .ref h15])), (h1, .inr (5, [.int 0, .int 0, .ref h16, .ref h17, .ref h18, .ref h19, .ref h20, .ref h21, .ref h22, .ref h23, .ref h24, .ref h25]))] (fun q => some (.int 1)) (fun q => [(h0, .inr (4, [.int 1, .int 46, .long 1, .ref h2, .ref h3, .ref h4, .ref h5, .ref h6, .ref h7, .ref h8, .ref h9, .ref h10, .ref h11, .ref h12, .ref h13, .ref h14, .ref h15])), (h1, .inr (5, [.int 0, .int 0, .ref h16, .ref h17, .ref h18, .ref h19, .ref h20, .ref h21, .ref h22, .ref h23, .ref h24, .ref h25]))]) := by
  refine CT.of (by decide +kernel) (Nat.le_of_ble_eq_true rfl) ?_
  intro p e s m args below meth c A ls hx hb hr hml hown hG hlocks hnm hA hS hP hK hD hGV hl
  have hown : s.vm.findClass RX1 = some m.cls := hown
  have hl : lv_has ls 3 [(0, .ref h0), (1, .ref h1), (2, .int 23)] := hl
  have hSF : CF p m c cX1_holdsAt 3 s args RX1 := ⟨hx, hb, hml, hown, hG⟩
  refine lv_aload_n hx hb dX1_holdsAt_0 rfl (lv_at hl 0 rfl) ?_
  refine lv_aload_n hx hb dX1_holdsAt_1 rfl (lv_at hl 1 rfl) ?_
  refine lv_iload_n hx hb dX1_holdsAt_2 rfl (lv_at hl 2 rfl) ?_
  refine lv_iconst (v := 0) hx hb dX1_holdsAt_3 (by decide) ?_
  refine ct_V (wr := []) hSF hl.1 hP hD hS hA hK hGV (c435_X1_holdsAlong l hfl D cA g h0 h1 h16 h17 h18 h19 h20 h21 h22 h23 h24 h25 h2 h3 h4 h5 h6 h7 h8 h9 h10 h11 h12 h13 h14 h15) goV_X1_185 pd_X1_holdsAlong ⟨(Nat.le_of_ble_eq_true rfl), (Nat.le_of_ble_eq_true rfl)⟩ ⟨(Nat.le_of_ble_eq_true rfl), (Nat.le_of_ble_eq_true rfl)⟩ (va_recv hK hP (ci := 4) (q0 := 0) rfl rfl) dX1_holdsAt_4 rfl (Nat.le_of_ble_eq_true rfl) [1, 0] [] rfl (by decide) rfl (by decide) (by decide) (fun q => [(h1, .inr (5, [.int 0, .int 0, .ref h16, .ref h17, .ref h18, .ref h19, .ref h20, .ref h21, .ref h22, .ref h23, .ref h24, .ref h25])), (h0, .inr (4, [.int 1, .int 46, .long 1, .ref h2, .ref h3, .ref h4, .ref h5, .ref h6, .ref h7, .ref h8, .ref h9, .ref h10, .ref h11, .ref h12, .ref h13, .ref h14, .ref h15]))]) (fun _ => rfl) (fun q1 H locs hP hD hS => ?_)
  refine W.eq (g2 := F0 m 7 ls [.int 1]) rfl ?_
  refine k_if_eq_f (tgt := 24) hx hb dX1_holdsAt_7 (by decide) (by decide) ?_
  refine lv_aload_n hx hb dX1_holdsAt_10 rfl (lv_at hl 0 rfl) ?_
  refine lv_aload_n hx hb dX1_holdsAt_11 rfl (lv_at hl 1 rfl) ?_
  refine lv_iload_n hx hb dX1_holdsAt_12 rfl (lv_at hl 2 rfl) ?_
  refine lv_iconst (v := 1) hx hb dX1_holdsAt_13 (by decide) ?_
  refine ct_V (wr := []) hSF hl.1 hP hD hS hA hK hGV (c436_X1_holdsAlong l hfl D cA g h0 h1 h16 h17 h18 h19 h20 h21 h22 h23 h24 h25 h2 h3 h4 h5 h6 h7 h8 h9 h10 h11 h12 h13 h14 h15) goV_X1_185 pd_X1_holdsAlong ⟨(Nat.le_of_ble_eq_true rfl), (Nat.le_of_ble_eq_true rfl)⟩ ⟨(Nat.le_of_ble_eq_true rfl), (Nat.le_of_ble_eq_true rfl)⟩ (va_recv hK hP (ci := 4) (q0 := 1) rfl rfl) dX1_holdsAt_14 rfl (Nat.le_of_ble_eq_true rfl) [0, 1] [] rfl (by decide) rfl (by decide) (by decide) (fun q => [(h1, .inr (5, [.int 0, .int 0, .ref h16, .ref h17, .ref h18, .ref h19, .ref h20, .ref h21, .ref h22, .ref h23, .ref h24, .ref h25])), (h0, .inr (4, [.int 1, .int 46, .long 1, .ref h2, .ref h3, .ref h4, .ref h5, .ref h6, .ref h7, .ref h8, .ref h9, .ref h10, .ref h11, .ref h12, .ref h13, .ref h14, .ref h15]))]) (fun _ => rfl) (fun q2 H locs hP hD hS => ?_)
  refine W.eq (g2 := F0 m 17 ls [.int 1]) rfl ?_
  refine k_if_eq_f (tgt := 24) hx hb dX1_holdsAt_17 (by decide) (by decide) ?_
  refine lv_iconst (v := 1) hx hb dX1_holdsAt_20 (by decide) ?_
  refine lv_goto (tgt := 25) hx hb dX1_holdsAt_21 (by decide) ?_
  exact e_i (fun _ => 0) hx hb hr hlocks rfl rfl (hP.sub [1, 0] rfl) (hD.sub [1, 0] (by decide) rfl) hS (Nat.le_of_ble_eq_true rfl) (Nat.le_of_ble_eq_true rfl) dX1_holdsAt_25
set_option maxHeartbeats 4000000 in
set_option maxRecDepth 100000 in
theorem c438_X1_holdsAlong (l : Launch) (hfl : l.stackTraces = false) (D : va_G) (cA : Nat → ClassId) (g : gv_T) (h0 h1 h2 h3 h4 h5 h6 h7 h8 h9 h10 h11 h12 h13 h14 h15 h16 h17 h18 h19 h20 h21 h22 h23 h24 h25 : Nat) : CT l yX1_holdsAlong cX1_holdsAlong 12 (some .boolean) (RM 0 0 0 0) D cA g [.ref h0, .ref h1, .int 24, .int 0] [(h1, .inr (5, [.int 0, .int 0, .ref h2, .ref h3, .ref h4, .ref h5, .ref h6, .ref h7, .ref h8, .ref h9, .ref h10, .ref h11])), (h0, .inr (4, [.int 1, .int 46, .long 1, .ref h12, .ref h13, .ref h14, .ref h15, .ref h16, .ref h17, .ref h18, .ref h19, .ref h20, .ref h21, .ref h22, .ref h23, .ref h24, .ref h25]))] (fun q => some (.int 1)) (fun q => [(h1, .inr (5, [.int 0, .int 0, .ref h2, .ref h3, .ref h4, .ref h5, .ref h6, .ref h7, .ref h8, .ref h9, .ref h10, .ref h11])), (h0, .inr (4, [.int 1, .int 46, .long 1, .ref h12, .ref h13, .ref h14, .ref h15, .ref h16, .ref h17, .ref h18, .ref h19, .ref h20, .ref h21, .ref h22, .ref h23, .ref h24, .ref h25]))]) := by
  refine CT.of (by decide +kernel) (Nat.le_of_ble_eq_true rfl) ?_
  intro p e s m args below meth c A ls hx hb hr hml hown hG hlocks hnm hA hS hP hK hD hGV hl
  have hown : s.vm.findClass RX1 = some m.cls := hown
  have hl : lv_has ls 12 [(0, .ref h0), (1, .ref h1), (2, .int 24), (3, .int 0)] := hl
  have hSF : CF p m c cX1_holdsAlong 12 s args RX1 := ⟨hx, hb, hml, hown, hG⟩
  refine lv_lconst (v := 0) hx hb dX1_holdsAlong_0 (by decide) ?_
  refine lv_lstore (lv' := [(4, .long 0), (0, .ref h0), (1, .ref h1), (2, .int 24), (3, .int 0)]) hx hb dX1_holdsAlong_1 hl (by decide) rfl (fun ls hl => ?_)
  refine lv_lconst (v := 0) hx hb dX1_holdsAlong_3 (by decide) ?_
  refine lv_lstore (lv' := [(6, .long 0), (4, .long 0), (0, .ref h0), (1, .ref h1), (2, .int 24), (3, .int 0)]) hx hb dX1_holdsAlong_4 hl (by decide) rfl (fun ls hl => ?_)
  refine lv_iconst (v := 0) hx hb dX1_holdsAlong_6 (by decide) ?_
  refine lv_istore (lv' := [(8, .int 0), (6, .long 0), (4, .long 0), (0, .ref h0), (1, .ref h1), (2, .int 24), (3, .int 0)]) hx hb dX1_holdsAlong_7 hl (by decide) rfl (fun ls hl => ?_)
  refine lv_iload hx hb dX1_holdsAlong_9 (lv_at hl 0 rfl) ?_
  refine lv_aload_n hx hb dX1_holdsAlong_11 rfl (lv_at hl 4 rfl) ?_
  refine k_get (ci := 5) (C := RX2) (T := TX2) (N := 12) (v := .int 0) hx hb hG inX2 hown hK hP 0 rfl rfl 0 (by decide) gw128 rfl dX1_holdsAlong_12 ?_
  refine k_icmp_ge_t (tgt := 180) hx hb dX1_holdsAlong_15 (by decide) (by decide) ?_
  refine lv_aload_n hx hb dX1_holdsAlong_180 rfl (lv_at hl 3 rfl) ?_
  refine k_get (ci := 4) (C := RX1) (T := TX1) (N := 17) (v := .long 1) hx hb hG inX1 hown hK hP 1 rfl rfl 2 (by decide) gw201 rfl dX1_holdsAlong_181 ?_
  refine lv_lconst (v := 0) hx hb dX1_holdsAlong_184 (by decide) ?_
  refine k_lcmp (v := 1) hx hb dX1_holdsAlong_185 (by decide +kernel) ?_
  refine k_if_le_f (tgt := 220) hx hb dX1_holdsAlong_186 (by decide) (by decide) ?_
  refine lv_lload hx hb dX1_holdsAlong_189 (lv_at hl 1 rfl) ?_
  refine lv_aload_n hx hb dX1_holdsAlong_191 rfl (lv_at hl 3 rfl) ?_
  refine k_get (ci := 4) (C := RX1) (T := TX1) (N := 17) (v := .long 1) hx hb hG inX1 hown hK hP 1 rfl rfl 2 (by decide) gw201 rfl dX1_holdsAlong_192 ?_
  refine k_lrem (v := 0) hx hb dX1_holdsAlong_195 (by decide +kernel) (by decide +kernel) ?_
  refine lv_lconst (v := 0) hx hb dX1_holdsAlong_196 (by decide) ?_
  refine k_lcmp (v := 0) hx hb dX1_holdsAlong_197 (by decide +kernel) ?_
  refine k_if_ne_f (tgt := 220) hx hb dX1_holdsAlong_198 (by decide) (by decide) ?_
  refine lv_lload hx hb dX1_holdsAlong_201 (lv_at hl 2 rfl) ?_
  refine lv_lload hx hb dX1_holdsAlong_203 (lv_at hl 1 rfl) ?_
  refine lv_aload_n hx hb dX1_holdsAlong_205 rfl (lv_at hl 3 rfl) ?_
  refine k_get (ci := 4) (C := RX1) (T := TX1) (N := 17) (v := .long 1) hx hb hG inX1 hown hK hP 1 rfl rfl 2 (by decide) gw201 rfl dX1_holdsAlong_206 ?_
  refine k_ldiv (v := 0) hx hb dX1_holdsAlong_209 (by decide +kernel) (by decide +kernel) ?_
  refine k_ladd (v := 0) hx hb dX1_holdsAlong_210 (by decide +kernel) ?_
  refine lv_lconst (v := 0) hx hb dX1_holdsAlong_211 (by decide) ?_
  refine k_lcmp (v := 0) hx hb dX1_holdsAlong_212 (by decide +kernel) ?_
  refine k_if_ne_f (tgt := 220) hx hb dX1_holdsAlong_213 (by decide) (by decide) ?_
  refine lv_iconst (v := 1) hx hb dX1_holdsAlong_216 (by decide) ?_
  refine lv_goto (tgt := 221) hx hb dX1_holdsAlong_217 (by decide) ?_
  exact e_i (fun _ => 0) hx hb hr hlocks rfl rfl hP hD hS (Nat.le_of_ble_eq_true rfl) (Nat.le_of_ble_eq_true rfl) dX1_holdsAlong_221
set_option maxHeartbeats 4000000 in
set_option maxRecDepth 100000 in
theorem c439_X1_holdsAlong (l : Launch) (hfl : l.stackTraces = false) (D : va_G) (cA : Nat → ClassId) (g : gv_T) (h0 h1 h2 h3 h4 h5 h6 h7 h8 h9 h10 h11 h12 h13 h14 h15 h16 h17 h18 h19 h20 h21 h22 h23 h24 h25 : Nat) : CT l yX1_holdsAlong cX1_holdsAlong 12 (some .boolean) (RM 0 0 0 0) D cA g [.ref h0, .ref h1, .int 24, .int 1] [(h1, .inr (5, [.int 0, .int 0, .ref h2, .ref h3, .ref h4, .ref h5, .ref h6, .ref h7, .ref h8, .ref h9, .ref h10, .ref h11])), (h0, .inr (4, [.int 1, .int 46, .long 1, .ref h12, .ref h13, .ref h14, .ref h15, .ref h16, .ref h17, .ref h18, .ref h19, .ref h20, .ref h21, .ref h22, .ref h23, .ref h24, .ref h25]))] (fun q => some (.int 1)) (fun q => [(h1, .inr (5, [.int 0, .int 0, .ref h2, .ref h3, .ref h4, .ref h5, .ref h6, .ref h7, .ref h8, .ref h9, .ref h10, .ref h11])), (h0, .inr (4, [.int 1, .int 46, .long 1, .ref h12, .ref h13, .ref h14, .ref h15, .ref h16, .ref h17, .ref h18, .ref h19, .ref h20, .ref h21, .ref h22, .ref h23, .ref h24, .ref h25]))]) := by
  refine CT.of (by decide +kernel) (Nat.le_of_ble_eq_true rfl) ?_
  intro p e s m args below meth c A ls hx hb hr hml hown hG hlocks hnm hA hS hP hK hD hGV hl
  have hown : s.vm.findClass RX1 = some m.cls := hown
  have hl : lv_has ls 12 [(0, .ref h0), (1, .ref h1), (2, .int 24), (3, .int 1)] := hl
  have hSF : CF p m c cX1_holdsAlong 12 s args RX1 := ⟨hx, hb, hml, hown, hG⟩
  refine lv_lconst (v := 0) hx hb dX1_holdsAlong_0 (by decide) ?_
  refine lv_lstore (lv' := [(4, .long 0), (0, .ref h0), (1, .ref h1), (2, .int 24), (3, .int 1)]) hx hb dX1_holdsAlong_1 hl (by decide) rfl (fun ls hl => ?_)
  refine lv_lconst (v := 0) hx hb dX1_holdsAlong_3 (by decide) ?_
  refine lv_lstore (lv' := [(6, .long 0), (4, .long 0), (0, .ref h0), (1, .ref h1), (2, .int 24), (3, .int 1)]) hx hb dX1_holdsAlong_4 hl (by decide) rfl (fun ls hl => ?_)
  refine lv_iconst (v := 0) hx hb dX1_holdsAlong_6 (by decide) ?_
  refine lv_istore (lv' := [(8, .int 0), (6, .long 0), (4, .long 0), (0, .ref h0), (1, .ref h1), (2, .int 24), (3, .int 1)]) hx hb dX1_holdsAlong_7 hl (by decide) rfl (fun ls hl => ?_)
  refine lv_iload hx hb dX1_holdsAlong_9 (lv_at hl 0 rfl) ?_
  refine lv_aload_n hx hb dX1_holdsAlong_11 rfl (lv_at hl 4 rfl) ?_
  refine k_get (ci := 5) (C := RX2) (T := TX2) (N := 12) (v := .int 0) hx hb hG inX2 hown hK hP 0 rfl rfl 0 (by decide) gw128 rfl dX1_holdsAlong_12 ?_
  refine k_icmp_ge_t (tgt := 180) hx hb dX1_holdsAlong_15 (by decide) (by decide) ?_
  refine lv_aload_n hx hb dX1_holdsAlong_180 rfl (lv_at hl 3 rfl) ?_
  refine k_get (ci := 4) (C := RX1) (T := TX1) (N := 17) (v := .long 1) hx hb hG inX1 hown hK hP 1 rfl rfl 2 (by decide) gw201 rfl dX1_holdsAlong_181 ?_
  refine lv_lconst (v := 0) hx hb dX1_holdsAlong_184 (by decide) ?_
  refine k_lcmp (v := 1) hx hb dX1_holdsAlong_185 (by decide +kernel) ?_
  refine k_if_le_f (tgt := 220) hx hb dX1_holdsAlong_186 (by decide) (by decide) ?_
  refine lv_lload hx hb dX1_holdsAlong_189 (lv_at hl 1 rfl) ?_
  refine lv_aload_n hx hb dX1_holdsAlong_191 rfl (lv_at hl 3 rfl) ?_
  refine k_get (ci := 4) (C := RX1) (T := TX1) (N := 17) (v := .long 1) hx hb hG inX1 hown hK hP 1 rfl rfl 2 (by decide) gw201 rfl dX1_holdsAlong_192 ?_
  refine k_lrem (v := 0) hx hb dX1_holdsAlong_195 (by decide +kernel) (by decide +kernel) ?_
  refine lv_lconst (v := 0) hx hb dX1_holdsAlong_196 (by decide) ?_
  refine k_lcmp (v := 0) hx hb dX1_holdsAlong_197 (by decide +kernel) ?_
  refine k_if_ne_f (tgt := 220) hx hb dX1_holdsAlong_198 (by decide) (by decide) ?_
  refine lv_lload hx hb dX1_holdsAlong_201 (lv_at hl 2 rfl) ?_
  refine lv_lload hx hb dX1_holdsAlong_203 (lv_at hl 1 rfl) ?_
  refine lv_aload_n hx hb dX1_holdsAlong_205 rfl (lv_at hl 3 rfl) ?_
  refine k_get (ci := 4) (C := RX1) (T := TX1) (N := 17) (v := .long 1) hx hb hG inX1 hown hK hP 1 rfl rfl 2 (by decide) gw201 rfl dX1_holdsAlong_206 ?_
  refine k_ldiv (v := 0) hx hb dX1_holdsAlong_209 (by decide +kernel) (by decide +kernel) ?_
  refine k_ladd (v := 0) hx hb dX1_holdsAlong_210 (by decide +kernel) ?_
  refine lv_lconst (v := 0) hx hb dX1_holdsAlong_211 (by decide) ?_
  refine k_lcmp (v := 0) hx hb dX1_holdsAlong_212 (by decide +kernel) ?_
  refine k_if_ne_f (tgt := 220) hx hb dX1_holdsAlong_213 (by decide) (by decide) ?_
  refine lv_iconst (v := 1) hx hb dX1_holdsAlong_216 (by decide) ?_
  refine lv_goto (tgt := 221) hx hb dX1_holdsAlong_217 (by decide) ?_
  exact e_i (fun _ => 0) hx hb hr hlocks rfl rfl hP hD hS (Nat.le_of_ble_eq_true rfl) (Nat.le_of_ble_eq_true rfl) dX1_holdsAlong_221
set_option maxHeartbeats 4000000 in
set_option maxRecDepth 100000 in
theorem c440_X1_holdsAt (l : Launch) (hfl : l.stackTraces = false) (D : va_G) (cA : Nat → ClassId) (g : gv_T) (h0 h1 h2 h3 h4 h5 h6 h7 h8 h9 h10 h11 h12 h13 h14 h15 h16 h17 h18 h19 h20 h21 h22 h23 h24 h25 : Nat) : CT l yX1_holdsAt cX1_holdsAt 3 (some .boolean) (RM 1 0 0 31) D cA g [.ref h0, .ref h1, .int 24] [(h0, .inr (4, [.int 1, .int 46, .long 1, .ref h2, .ref h3, .ref h4, .ref h5, .ref h6, .ref h7, .ref h8, .ref h9, .ref h10, .ref h11, .ref h12, .ref h13, .ref h14, .ref h15])), (h1, .inr (5, [.int 0, .int 0, .ref h16, .ref h17, .ref h18, .ref h19, .ref h20, .ref h21, .ref h22, .ref h23, .ref h24, .ref h25]))] (fun q => some (.int 1)) (fun q => [(h0, .inr (4, [.int 1, .int 46, .long 1, .ref h2, .ref h3, .ref h4, .ref h5, .ref h6, .ref h7, .ref h8, .ref h9, .ref h10, .ref h11, .ref h12, .ref h13, .ref h14, .ref h15])), (h1, .inr (5, [.int 0, .int 0, .ref h16, .ref h17, .ref h18, .ref h19, .ref h20, .ref h21, .ref h22, .ref h23, .ref h24, .ref h25]))]) := by
  refine CT.of (by decide +kernel) (Nat.le_of_ble_eq_true rfl) ?_
  intro p e s m args below meth c A ls hx hb hr hml hown hG hlocks hnm hA hS hP hK hD hGV hl
  have hown : s.vm.findClass RX1 = some m.cls := hown
  have hl : lv_has ls 3 [(0, .ref h0), (1, .ref h1), (2, .int 24)] := hl
  have hSF : CF p m c cX1_holdsAt 3 s args RX1 := ⟨hx, hb, hml, hown, hG⟩
  refine lv_aload_n hx hb dX1_holdsAt_0 rfl (lv_at hl 0 rfl) ?_
  refine lv_aload_n hx hb dX1_holdsAt_1 rfl (lv_at hl 1 rfl) ?_
  refine lv_iload_n hx hb dX1_holdsAt_2 rfl (lv_at hl 2 rfl) ?_
  refine lv_iconst (v := 0) hx hb dX1_holdsAt_3 (by decide) ?_
  refine ct_V (wr := []) hSF hl.1 hP hD hS hA hK hGV (c438_X1_holdsAlong l hfl D cA g h0 h1 h16 h17 h18 h19 h20 h21 h22 h23 h24 h25 h2 h3 h4 h5 h6 h7 h8 h9 h10 h11 h12 h13 h14 h15) goV_X1_185 pd_X1_holdsAlong ⟨(Nat.le_of_ble_eq_true rfl), (Nat.le_of_ble_eq_true rfl)⟩ ⟨(Nat.le_of_ble_eq_true rfl), (Nat.le_of_ble_eq_true rfl)⟩ (va_recv hK hP (ci := 4) (q0 := 0) rfl rfl) dX1_holdsAt_4 rfl (Nat.le_of_ble_eq_true rfl) [1, 0] [] rfl (by decide) rfl (by decide) (by decide) (fun q => [(h1, .inr (5, [.int 0, .int 0, .ref h16, .ref h17, .ref h18, .ref h19, .ref h20, .ref h21, .ref h22, .ref h23, .ref h24, .ref h25])), (h0, .inr (4, [.int 1, .int 46, .long 1, .ref h2, .ref h3, .ref h4, .ref h5, .ref h6, .ref h7, .ref h8, .ref h9, .ref h10, .ref h11, .ref h12, .ref h13, .ref h14, .ref h15]))]) (fun _ => rfl) (fun q1 H locs hP hD hS => ?_)
  refine W.eq (g2 := F0 m 7 ls [.int 1]) rfl ?_
  refine k_if_eq_f (tgt := 24) hx hb dX1_holdsAt_7 (by decide) (by decide) ?_
  refine lv_aload_n hx hb dX1_holdsAt_10 rfl (lv_at hl 0 rfl) ?_
  refine lv_aload_n hx hb dX1_holdsAt_11 rfl (lv_at hl 1 rfl) ?_
  refine lv_iload_n hx hb dX1_holdsAt_12 rfl (lv_at hl 2 rfl) ?_
  refine lv_iconst (v := 1) hx hb dX1_holdsAt_13 (by decide) ?_
  refine ct_V (wr := []) hSF hl.1 hP hD hS hA hK hGV (c439_X1_holdsAlong l hfl D cA g h0 h1 h16 h17 h18 h19 h20 h21 h22 h23 h24 h25 h2 h3 h4 h5 h6 h7 h8 h9 h10 h11 h12 h13 h14 h15) goV_X1_185 pd_X1_holdsAlong ⟨(Nat.le_of_ble_eq_true rfl), (Nat.le_of_ble_eq_true rfl)⟩ ⟨(Nat.le_of_ble_eq_true rfl), (Nat.le_of_ble_eq_true rfl)⟩ (va_recv hK hP (ci := 4) (q0 := 1) rfl rfl) dX1_holdsAt_14 rfl (Nat.le_of_ble_eq_true rfl) [0, 1] [] rfl (by decide) rfl (by decide) (by decide) (fun q => [(h1, .inr (5, [.int 0, .int 0, .ref h16, .ref h17, .ref h18, .ref h19, .ref h20, .ref h21, .ref h22, .ref h23, .ref h24, .ref h25])), (h0, .inr (4, [.int 1, .int 46, .long 1, .ref h2, .ref h3, .ref h4, .ref h5, .ref h6, .ref h7, .ref h8, .ref h9, .ref h10, .ref h11, .ref h12, .ref h13, .ref h14, .ref h15]))]) (fun _ => rfl) (fun q2 H locs hP hD hS => ?_)
  refine W.eq (g2 := F0 m 17 ls [.int 1]) rfl ?_
  refine k_if_eq_f (tgt := 24) hx hb dX1_holdsAt_17 (by decide) (by decide) ?_
  refine lv_iconst (v := 1) hx hb dX1_holdsAt_20 (by decide) ?_
  refine lv_goto (tgt := 25) hx hb dX1_holdsAt_21 (by decide) ?_
  exact e_i (fun _ => 0) hx hb hr hlocks rfl rfl (hP.sub [1, 0] rfl) (hD.sub [1, 0] (by decide) rfl) hS (Nat.le_of_ble_eq_true rfl) (Nat.le_of_ble_eq_true rfl) dX1_holdsAt_25
set_option maxHeartbeats 4000000 in
set_option maxRecDepth 100000 in
theorem c441_X1_holdsAlong (l : Launch) (hfl : l.stackTraces = false) (D : va_G) (cA : Nat → ClassId) (g : gv_T) (h0 h1 h2 h3 h4 h5 h6 h7 h8 h9 h10 h11 h12 h13 h14 h15 h16 h17 h18 h19 h20 h21 h22 h23 h24 h25 : Nat) : CT l yX1_holdsAlong cX1_holdsAlong 12 (some .boolean) (RM 0 0 0 0) D cA g [.ref h0, .ref h1, .int 25, .int 0] [(h1, .inr (5, [.int 0, .int 0, .ref h2, .ref h3, .ref h4, .ref h5, .ref h6, .ref h7, .ref h8, .ref h9, .ref h10, .ref h11])), (h0, .inr (4, [.int 1, .int 46, .long 1, .ref h12, .ref h13, .ref h14, .ref h15, .ref h16, .ref h17, .ref h18, .ref h19, .ref h20, .ref h21, .ref h22, .ref h23, .ref h24, .ref h25]))] (fun q => some (.int 1)) (fun q => [(h1, .inr (5, [.int 0, .int 0, .ref h2, .ref h3, .ref h4, .ref h5, .ref h6, .ref h7, .ref h8, .ref h9, .ref h10, .ref h11])), (h0, .inr (4, [.int 1, .int 46, .long 1, .ref h12, .ref h13, .ref h14, .ref h15, .ref h16, .ref h17, .ref h18, .ref h19, .ref h20, .ref h21, .ref h22, .ref h23, .ref h24, .ref h25]))]) := by
  refine CT.of (by decide +kernel) (Nat.le_of_ble_eq_true rfl) ?_
  intro p e s m args below meth c A ls hx hb hr hml hown hG hlocks hnm hA hS hP hK hD hGV hl
  have hown : s.vm.findClass RX1 = some m.cls := hown
  have hl : lv_has ls 12 [(0, .ref h0), (1, .ref h1), (2, .int 25), (3, .int 0)] := hl
  have hSF : CF p m c cX1_holdsAlong 12 s args RX1 := ⟨hx, hb, hml, hown, hG⟩
  refine lv_lconst (v := 0) hx hb dX1_holdsAlong_0 (by decide) ?_
  refine lv_lstore (lv' := [(4, .long 0), (0, .ref h0), (1, .ref h1), (2, .int 25), (3, .int 0)]) hx hb dX1_holdsAlong_1 hl (by decide) rfl (fun ls hl => ?_)
  refine lv_lconst (v := 0) hx hb dX1_holdsAlong_3 (by decide) ?_
  refine lv_lstore (lv' := [(6, .long 0), (4, .long 0), (0, .ref h0), (1, .ref h1), (2, .int 25), (3, .int 0)]) hx hb dX1_holdsAlong_4 hl (by decide) rfl (fun ls hl => ?_)
  refine lv_iconst (v := 0) hx hb dX1_holdsAlong_6 (by decide) ?_
  refine lv_istore (lv' := [(8, .int 0), (6, .long 0), (4, .long 0), (0, .ref h0), (1, .ref h1), (2, .int 25), (3, .int 0)]) hx hb dX1_holdsAlong_7 hl (by decide) rfl (fun ls hl => ?_)
  refine lv_iload hx hb dX1_holdsAlong_9 (lv_at hl 0 rfl) ?_
  refine lv_aload_n hx hb dX1_holdsAlong_11 rfl (lv_at hl 4 rfl) ?_
  refine k_get (ci := 5) (C := RX2) (T := TX2) (N := 12) (v := .int 0) hx hb hG inX2 hown hK hP 0 rfl rfl 0 (by decide) gw128 rfl dX1_holdsAlong_12 ?_
  refine k_icmp_ge_t (tgt := 180) hx hb dX1_holdsAlong_15 (by decide) (by decide) ?_
  refine lv_aload_n hx hb dX1_holdsAlong_180 rfl (lv_at hl 3 rfl) ?_
  refine k_get (ci := 4) (C := RX1) (T := TX1) (N := 17) (v := .long 1) hx hb hG inX1 hown hK hP 1 rfl rfl 2 (by decide) gw201 rfl dX1_holdsAlong_181 ?_
  refine lv_lconst (v := 0) hx hb dX1_holdsAlong_184 (by decide) ?_
  refine k_lcmp (v := 1) hx hb dX1_holdsAlong_185 (by decide +kernel) ?_
  refine k_if_le_f (tgt := 220) hx hb dX1_holdsAlong_186 (by decide) (by decide) ?_
  refine lv_lload hx hb dX1_holdsAlong_189 (lv_at hl 1 rfl) ?_
  refine lv_aload_n hx hb dX1_holdsAlong_191 rfl (lv_at hl 3 rfl) ?_
  refine k_get (ci := 4) (C := RX1) (T := TX1) (N := 17) (v := .long 1) hx hb hG inX1 hown hK hP 1 rfl rfl 2 (by decide) gw201 rfl dX1_holdsAlong_192 ?_
  refine k_lrem (v := 0) hx hb dX1_holdsAlong_195 (by decide +kernel) (by decide +kernel) ?_
  refine lv_lconst (v := 0) hx hb dX1_holdsAlong_196 (by decide) ?_
  refine k_lcmp (v := 0) hx hb dX1_holdsAlong_197 (by decide +kernel) ?_
  refine k_if_ne_f (tgt := 220) hx hb dX1_holdsAlong_198 (by decide) (by decide) ?_
  refine lv_lload hx hb dX1_holdsAlong_201 (lv_at hl 2 rfl) ?_
  refine lv_lload hx hb dX1_holdsAlong_203 (lv_at hl 1 rfl) ?_
  refine lv_aload_n hx hb dX1_holdsAlong_205 rfl (lv_at hl 3 rfl) ?_
  refine k_get (ci := 4) (C := RX1) (T := TX1) (N := 17) (v := .long 1) hx hb hG inX1 hown hK hP 1 rfl rfl 2 (by decide) gw201 rfl dX1_holdsAlong_206 ?_
  refine k_ldiv (v := 0) hx hb dX1_holdsAlong_209 (by decide +kernel) (by decide +kernel) ?_
  refine k_ladd (v := 0) hx hb dX1_holdsAlong_210 (by decide +kernel) ?_
  refine lv_lconst (v := 0) hx hb dX1_holdsAlong_211 (by decide) ?_
  refine k_lcmp (v := 0) hx hb dX1_holdsAlong_212 (by decide +kernel) ?_
  refine k_if_ne_f (tgt := 220) hx hb dX1_holdsAlong_213 (by decide) (by decide) ?_
  refine lv_iconst (v := 1) hx hb dX1_holdsAlong_216 (by decide) ?_
  refine lv_goto (tgt := 221) hx hb dX1_holdsAlong_217 (by decide) ?_
  exact e_i (fun _ => 0) hx hb hr hlocks rfl rfl hP hD hS (Nat.le_of_ble_eq_true rfl) (Nat.le_of_ble_eq_true rfl) dX1_holdsAlong_221
set_option maxHeartbeats 4000000 in
set_option maxRecDepth 100000 in
theorem c442_X1_holdsAlong (l : Launch) (hfl : l.stackTraces = false) (D : va_G) (cA : Nat → ClassId) (g : gv_T) (h0 h1 h2 h3 h4 h5 h6 h7 h8 h9 h10 h11 h12 h13 h14 h15 h16 h17 h18 h19 h20 h21 h22 h23 h24 h25 : Nat) : CT l yX1_holdsAlong cX1_holdsAlong 12 (some .boolean) (RM 0 0 0 0) D cA g [.ref h0, .ref h1, .int 25, .int 1] [(h1, .inr (5, [.int 0, .int 0, .ref h2, .ref h3, .ref h4, .ref h5, .ref h6, .ref h7, .ref h8, .ref h9, .ref h10, .ref h11])), (h0, .inr (4, [.int 1, .int 46, .long 1, .ref h12, .ref h13, .ref h14, .ref h15, .ref h16, .ref h17, .ref h18, .ref h19, .ref h20, .ref h21, .ref h22, .ref h23, .ref h24, .ref h25]))] (fun q => some (.int 1)) (fun q => [(h1, .inr (5, [.int 0, .int 0, .ref h2, .ref h3, .ref h4, .ref h5, .ref h6, .ref h7, .ref h8, .ref h9, .ref h10, .ref h11])), (h0, .inr (4, [.int 1, .int 46, .long 1, .ref h12, .ref h13, .ref h14, .ref h15, .ref h16, .ref h17, .ref h18, .ref h19, .ref h20, .ref h21, .ref h22, .ref h23, .ref h24, .ref h25]))]) := by
  refine CT.of (by decide +kernel) (Nat.le_of_ble_eq_true rfl) ?_
  intro p e s m args below meth c A ls hx hb hr hml hown hG hlocks hnm hA hS hP hK hD hGV hl
  have hown : s.vm.findClass RX1 = some m.cls := hown
  have hl : lv_has ls 12 [(0, .ref h0), (1, .ref h1), (2, .int 25), (3, .int 1)] := hl
  have hSF : CF p m c cX1_holdsAlong 12 s args RX1 := ⟨hx, hb, hml, hown, hG⟩
  refine lv_lconst (v := 0) hx hb dX1_holdsAlong_0 (by decide) ?_
  refine lv_lstore (lv' := [(4, .long 0), (0, .ref h0), (1, .ref h1), (2, .int 25), (3, .int 1)]) hx hb dX1_holdsAlong_1 hl (by decide) rfl (fun ls hl => ?_)
  refine lv_lconst (v := 0) hx hb dX1_holdsAlong_3 (by decide) ?_
  refine lv_lstore (lv' := [(6, .long 0), (4, .long 0), (0, .ref h0), (1, .ref h1), (2, .int 25), (3, .int 1)]) hx hb dX1_holdsAlong_4 hl (by decide) rfl (fun ls hl => ?_)
  refine lv_iconst (v := 0) hx hb dX1_holdsAlong_6 (by decide) ?_
  refine lv_istore (lv' := [(8, .int 0), (6, .long 0), (4, .long 0), (0, .ref h0), (1, .ref h1), (2, .int 25), (3, .int 1)]) hx hb dX1_holdsAlong_7 hl (by decide) rfl (fun ls hl => ?_)
  refine lv_iload hx hb dX1_holdsAlong_9 (lv_at hl 0 rfl) ?_
  refine lv_aload_n hx hb dX1_holdsAlong_11 rfl (lv_at hl 4 rfl) ?_
  refine k_get (ci := 5) (C := RX2) (T := TX2) (N := 12) (v := .int 0) hx hb hG inX2 hown hK hP 0 rfl rfl 0 (by decide) gw128 rfl dX1_holdsAlong_12 ?_
  refine k_icmp_ge_t (tgt := 180) hx hb dX1_holdsAlong_15 (by decide) (by decide) ?_
  refine lv_aload_n hx hb dX1_holdsAlong_180 rfl (lv_at hl 3 rfl) ?_
  refine k_get (ci := 4) (C := RX1) (T := TX1) (N := 17) (v := .long 1) hx hb hG inX1 hown hK hP 1 rfl rfl 2 (by decide) gw201 rfl dX1_holdsAlong_181 ?_
  refine lv_lconst (v := 0) hx hb dX1_holdsAlong_184 (by decide) ?_
  refine k_lcmp (v := 1) hx hb dX1_holdsAlong_185 (by decide +kernel) ?_
  refine k_if_le_f (tgt := 220) hx hb dX1_holdsAlong_186 (by decide) (by decide) ?_
  refine lv_lload hx hb dX1_holdsAlong_189 (lv_at hl 1 rfl) ?_
  refine lv_aload_n hx hb dX1_holdsAlong_191 rfl (lv_at hl 3 rfl) ?_
  refine k_get (ci := 4) (C := RX1) (T := TX1) (N := 17) (v := .long 1) hx hb hG inX1 hown hK hP 1 rfl rfl 2 (by decide) gw201 rfl dX1_holdsAlong_192 ?_
  refine k_lrem (v := 0) hx hb dX1_holdsAlong_195 (by decide +kernel) (by decide +kernel) ?_
  refine lv_lconst (v := 0) hx hb dX1_holdsAlong_196 (by decide) ?_
  refine k_lcmp (v := 0) hx hb dX1_holdsAlong_197 (by decide +kernel) ?_
  refine k_if_ne_f (tgt := 220) hx hb dX1_holdsAlong_198 (by decide) (by decide) ?_
  refine lv_lload hx hb dX1_holdsAlong_201 (lv_at hl 2 rfl) ?_
  refine lv_lload hx hb dX1_holdsAlong_203 (lv_at hl 1 rfl) ?_
  refine lv_aload_n hx hb dX1_holdsAlong_205 rfl (lv_at hl 3 rfl) ?_
  refine k_get (ci := 4) (C := RX1) (T := TX1) (N := 17) (v := .long 1) hx hb hG inX1 hown hK hP 1 rfl rfl 2 (by decide) gw201 rfl dX1_holdsAlong_206 ?_
  refine k_ldiv (v := 0) hx hb dX1_holdsAlong_209 (by decide +kernel) (by decide +kernel) ?_
  refine k_ladd (v := 0) hx hb dX1_holdsAlong_210 (by decide +kernel) ?_
  refine lv_lconst (v := 0) hx hb dX1_holdsAlong_211 (by decide) ?_
  refine k_lcmp (v := 0) hx hb dX1_holdsAlong_212 (by decide +kernel) ?_
  refine k_if_ne_f (tgt := 220) hx hb dX1_holdsAlong_213 (by decide) (by decide) ?_
  refine lv_iconst (v := 1) hx hb dX1_holdsAlong_216 (by decide) ?_
  refine lv_goto (tgt := 221) hx hb dX1_holdsAlong_217 (by decide) ?_
  exact e_i (fun _ => 0) hx hb hr hlocks rfl rfl hP hD hS (Nat.le_of_ble_eq_true rfl) (Nat.le_of_ble_eq_true rfl) dX1_holdsAlong_221
set_option maxHeartbeats 4000000 in
set_option maxRecDepth 100000 in
theorem c443_X1_holdsAt (l : Launch) (hfl : l.stackTraces = false) (D : va_G) (cA : Nat → ClassId) (g : gv_T) (h0 h1 h2 h3 h4 h5 h6 h7 h8 h9 h10 h11 h12 h13 h14 h15 h16 h17 h18 h19 h20 h21 h22 h23 h24 h25 : Nat) : CT l yX1_holdsAt cX1_holdsAt 3 (some .boolean) (RM 1 0 0 31) D cA g [.ref h0, .ref h1, .int 25] [(h0, .inr (4, [.int 1, .int 46, .long 1, .ref h2, .ref h3, .ref h4, .ref h5, .ref h6, .ref h7, .ref h8, .ref h9, .ref h10, .ref h11, .ref h12, .ref h13, .ref h14, .ref h15])), (h1, .inr (5, [.int 0, .int 0, .ref h16, .ref h17, .ref h18, .ref h19, .ref h20, .ref h21, .ref h22, .ref h23, .ref h24, .ref h25]))] (fun q => some (.int 1)) (fun q => [(h0, .inr (4, [.int 1, .int 46, .long 1, .ref h2, .ref h3, .ref h4, .ref h5, .ref h6, .ref h7, .ref h8, .ref h9, .ref h10, .ref h11, .ref h12, .ref h13, .ref h14, .ref h15])), (h1, .inr (5, [.int 0, .int 0, .ref h16, .ref h17, .ref h18, .ref h19, .ref h20, .ref h21, .ref h22, .ref h23, .ref h24, .ref h25]))]) := by
  refine CT.of (by decide +kernel) (Nat.le_of_ble_eq_true rfl) ?_
  intro p e s m args below meth c A ls hx hb hr hml hown hG hlocks hnm hA hS hP hK hD hGV hl
  have hown : s.vm.findClass RX1 = some m.cls := hown
  have hl : lv_has ls 3 [(0, .ref h0), (1, .ref h1), (2, .int 25)] := hl
  have hSF : CF p m c cX1_holdsAt 3 s args RX1 := ⟨hx, hb, hml, hown, hG⟩
  refine lv_aload_n hx hb dX1_holdsAt_0 rfl (lv_at hl 0 rfl) ?_
  refine lv_aload_n hx hb dX1_holdsAt_1 rfl (lv_at hl 1 rfl) ?_
  refine lv_iload_n hx hb dX1_holdsAt_2 rfl (lv_at hl 2 rfl) ?_
  refine lv_iconst (v := 0) hx hb dX1_holdsAt_3 (by decide) ?_
  refine ct_V (wr := []) hSF hl.1 hP hD hS hA hK hGV (c441_X1_holdsAlong l hfl D cA g h0 h1 h16 h17 h18 h19 h20 h21 h22 h23 h24 h25 h2 h3 h4 h5 h6 h7 h8 h9 h10 h11 h12 h13 h14 h15) goV_X1_185 pd_X1_holdsAlong ⟨(Nat.le_of_ble_eq_true rfl), (Nat.le_of_ble_eq_true rfl)⟩ ⟨(Nat.le_of_ble_eq_true rfl), (Nat.le_of_ble_eq_true rfl)⟩ (va_recv hK hP (ci := 4) (q0 := 0) rfl rfl) dX1_holdsAt_4 rfl (Nat.le_of_ble_eq_true rfl) [1, 0] [] rfl (by decide) rfl (by decide) (by decide) (fun q => [(h1, .inr (5, [.int 0, .int 0, .ref h16, .ref h17, .ref h18, .ref h19, .ref h20, .ref h21, .ref h22, .ref h23, .ref h24, .ref h25])), (h0, .inr (4, [.int 1, .int 46, .long 1, .ref h2, .ref h3, .ref h4, .ref h5, .ref h6, .ref h7, .ref h8, .ref h9, .ref h10, .ref h11, .ref h12, .ref h13, .ref h14, .ref h15]))]) (fun _ => rfl) (fun q1 H locs hP hD hS => ?_)
  refine W.eq (g2 := F0 m 7 ls [.int 1]) rfl ?_
  refine k_if_eq_f (tgt := 24) hx hb dX1_holdsAt_7 (by decide) (by decide) ?_
  refine lv_aload_n hx hb dX1_holdsAt_10 rfl (lv_at hl 0 rfl) ?_
  refine lv_aload_n hx hb dX1_holdsAt_11 rfl (lv_at hl 1 rfl) ?_
  refine lv_iload_n hx hb dX1_holdsAt_12 rfl (lv_at hl 2 rfl) ?_
  refine lv_iconst (v := 1) hx hb dX1_holdsAt_13 (by decide) ?_
  refine ct_V (wr := []) hSF hl.1 hP hD hS hA hK hGV (c442_X1_holdsAlong l hfl D cA g h0 h1 h16 h17 h18 h19 h20 h21 h22 h23 h24 h25 h2 h3 h4 h5 h6 h7 h8 h9 h10 h11 h12 h13 h14 h15) goV_X1_185 pd_X1_holdsAlong ⟨(Nat.le_of_ble_eq_true rfl), (Nat.le_of_ble_eq_true rfl)⟩ ⟨(Nat.le_of_ble_eq_true rfl), (Nat.le_of_ble_eq_true rfl)⟩ (va_recv hK hP (ci := 4) (q0 := 1) rfl rfl) dX1_holdsAt_14 rfl (Nat.le_of_ble_eq_true rfl) [0, 1] [] rfl (by decide) rfl (by decide) (by decide) (fun q => [(h1, .inr (5, [.int 0, .int 0, .ref h16, .ref h17, .ref h18, .ref h19, .ref h20, .ref h21, .ref h22, .ref h23, .ref h24, .ref h25])), (h0, .inr (4, [.int 1, .int 46, .long 1, .ref h2, .ref h3, .ref h4, .ref h5, .ref h6, .ref h7, .ref h8, .ref h9, .ref h10, .ref h11, .ref h12, .ref h13, .ref h14, .ref h15]))]) (fun _ => rfl) (fun q2 H locs hP hD hS => ?_)
  refine W.eq (g2 := F0 m 17 ls [.int 1]) rfl ?_
  refine k_if_eq_f (tgt := 24) hx hb dX1_holdsAt_17 (by decide) (by decide) ?_
  refine lv_iconst (v := 1) hx hb dX1_holdsAt_20 (by decide) ?_
  refine lv_goto (tgt := 25) hx hb dX1_holdsAt_21 (by decide) ?_
  exact e_i (fun _ => 0) hx hb hr hlocks rfl rfl (hP.sub [1, 0] rfl) (hD.sub [1, 0] (by decide) rfl) hS (Nat.le_of_ble_eq_true rfl) (Nat.le_of_ble_eq_true rfl) dX1_holdsAt_25
set_option maxHeartbeats 4000000 in
set_option maxRecDepth 100000 in
theorem c444_X1_holdsAlong (l : Launch) (hfl : l.stackTraces = false) (D : va_G) (cA : Nat → ClassId) (g : gv_T) (h0 h1 h2 h3 h4 h5 h6 h7 h8 h9 h10 h11 h12 h13 h14 h15 h16 h17 h18 h19 h20 h21 h22 h23 h24 h25 : Nat) : CT l yX1_holdsAlong cX1_holdsAlong 12 (some .boolean) (RM 0 0 0 0) D cA g [.ref h0, .ref h1, .int 26, .int 0] [(h1, .inr (5, [.int 0, .int 0, .ref h2, .ref h3, .ref h4, .ref h5, .ref h6, .ref h7, .ref h8, .ref h9, .ref h10, .ref h11])), (h0, .inr (4, [.int 1, .int 46, .long 1, .ref h12, .ref h13, .ref h14, .ref h15, .ref h16, .ref h17, .ref h18, .ref h19, .ref h20, .ref h21, .ref h22, .ref h23, .ref h24, .ref h25]))] (fun q => some (.int 1)) (fun q => [(h1, .inr (5, [.int 0, .int 0, .ref h2, .ref h3, .ref h4, .ref h5, .ref h6, .ref h7, .ref h8, .ref h9, .ref h10, .ref h11])), (h0, .inr (4, [.int 1, .int 46, .long 1, .ref h12, .ref h13, .ref h14, .ref h15, .ref h16, .ref h17, .ref h18, .ref h19, .ref h20, .ref h21, .ref h22, .ref h23, .ref h24, .ref h25]))]) := by
  refine CT.of (by decide +kernel) (Nat.le_of_ble_eq_true rfl) ?_
  intro p e s m args below meth c A ls hx hb hr hml hown hG hlocks hnm hA hS hP hK hD hGV hl
  have hown : s.vm.findClass RX1 = some m.cls := hown
  have hl : lv_has ls 12 [(0, .ref h0), (1, .ref h1), (2, .int 26), (3, .int 0)] := hl
  have hSF : CF p m c cX1_holdsAlong 12 s args RX1 := ⟨hx, hb, hml, hown, hG⟩
  refine lv_lconst (v := 0) hx hb dX1_holdsAlong_0 (by decide) ?_
  refine lv_lstore (lv' := [(4, .long 0), (0, .ref h0), (1, .ref h1), (2, .int 26), (3, .int 0)]) hx hb dX1_holdsAlong_1 hl (by decide) rfl (fun ls hl => ?_)
  refine lv_lconst (v := 0) hx hb dX1_holdsAlong_3 (by decide) ?_
  refine lv_lstore (lv' := [(6, .long 0), (4, .long 0), (0, .ref h0), (1, .ref h1), (2, .int 26), (3, .int 0)]) hx hb dX1_holdsAlong_4 hl (by decide) rfl (fun ls hl => ?_)
  refine lv_iconst (v := 0) hx hb dX1_holdsAlong_6 (by decide) ?_
  refine lv_istore (lv' := [(8, .int 0), (6, .long 0), (4, .long 0), (0, .ref h0), (1, .ref h1), (2, .int 26), (3, .int 0)]) hx hb dX1_holdsAlong_7 hl (by decide) rfl (fun ls hl => ?_)
  refine lv_iload hx hb dX1_holdsAlong_9 (lv_at hl 0 rfl) ?_
  refine lv_aload_n hx hb dX1_holdsAlong_11 rfl (lv_at hl 4 rfl) ?_
  refine k_get (ci := 5) (C := RX2) (T := TX2) (N := 12) (v := .int 0) hx hb hG inX2 hown hK hP 0 rfl rfl 0 (by decide) gw128 rfl dX1_holdsAlong_12 ?_
  refine k_icmp_ge_t (tgt := 180) hx hb dX1_holdsAlong_15 (by decide) (by decide) ?_
  refine lv_aload_n hx hb dX1_holdsAlong_180 rfl (lv_at hl 3 rfl) ?_
  refine k_get (ci := 4) (C := RX1) (T := TX1) (N := 17) (v := .long 1) hx hb hG inX1 hown hK hP 1 rfl rfl 2 (by decide) gw201 rfl dX1_holdsAlong_181 ?_
  refine lv_lconst (v := 0) hx hb dX1_holdsAlong_184 (by decide) ?_
  refine k_lcmp (v := 1) hx hb dX1_holdsAlong_185 (by decide +kernel) ?_
  refine k_if_le_f (tgt := 220) hx hb dX1_holdsAlong_186 (by decide) (by decide) ?_
  refine lv_lload hx hb dX1_holdsAlong_189 (lv_at hl 1 rfl) ?_
  refine lv_aload_n hx hb dX1_holdsAlong_191 rfl (lv_at hl 3 rfl) ?_
  refine k_get (ci := 4) (C := RX1) (T := TX1) (N := 17) (v := .long 1) hx hb hG inX1 hown hK hP 1 rfl rfl 2 (by decide) gw201 rfl dX1_holdsAlong_192 ?_
  refine k_lrem (v := 0) hx hb dX1_holdsAlong_195 (by decide +kernel) (by decide +kernel) ?_
  refine lv_lconst (v := 0) hx hb dX1_holdsAlong_196 (by decide) ?_
  refine k_lcmp (v := 0) hx hb dX1_holdsAlong_197 (by decide +kernel) ?_
  refine k_if_ne_f (tgt := 220) hx hb dX1_holdsAlong_198 (by decide) (by decide) ?_
  refine lv_lload hx hb dX1_holdsAlong_201 (lv_at hl 2 rfl) ?_
  refine lv_lload hx hb dX1_holdsAlong_203 (lv_at hl 1 rfl) ?_
  refine lv_aload_n hx hb dX1_holdsAlong_205 rfl (lv_at hl 3 rfl) ?_
  refine k_get (ci := 4) (C := RX1) (T := TX1) (N := 17) (v := .long 1) hx hb hG inX1 hown hK hP 1 rfl rfl 2 (by decide) gw201 rfl dX1_holdsAlong_206 ?_
  refine k_ldiv (v := 0) hx hb dX1_holdsAlong_209 (by decide +kernel) (by decide +kernel) ?_
  refine k_ladd (v := 0) hx hb dX1_holdsAlong_210 (by decide +kernel) ?_
  refine lv_lconst (v := 0) hx hb dX1_holdsAlong_211 (by decide) ?_
  refine k_lcmp (v := 0) hx hb dX1_holdsAlong_212 (by decide +kernel) ?_
  refine k_if_ne_f (tgt := 220) hx hb dX1_holdsAlong_213 (by decide) (by decide) ?_
  refine lv_iconst (v := 1) hx hb dX1_holdsAlong_216 (by decide) ?_
  refine lv_goto (tgt := 221) hx hb dX1_holdsAlong_217 (by decide) ?_
  exact e_i (fun _ => 0) hx hb hr hlocks rfl rfl hP hD hS (Nat.le_of_ble_eq_true rfl) (Nat.le_of_ble_eq_true rfl) dX1_holdsAlong_221
set_option maxHeartbeats 4000000 in
set_option maxRecDepth 100000 in
theorem c445_X1_holdsAlong (l : Launch) (hfl : l.stackTraces = false) (D : va_G) (cA : Nat → ClassId) (g : gv_T) (h0 h1 h2 h3 h4 h5 h6 h7 h8 h9 h10 h11 h12 h13 h14 h15 h16 h17 h18 h19 h20 h21 h22 h23 h24 h25 : Nat) : CT l yX1_holdsAlong cX1_holdsAlong 12 (some .boolean) (RM 0 0 0 0) D cA g [.ref h0, .ref h1, .int 26, .int 1] [(h1, .inr (5, [.int 0, .int 0, .ref h2, .ref h3, .ref h4, .ref h5, .ref h6, .ref h7, .ref h8, .ref h9, .ref h10, .ref h11])), (h0, .inr (4, [.int 1, .int 46, .long 1, .ref h12, .ref h13, .ref h14, .ref h15, .ref h16, .ref h17, .ref h18, .ref h19, .ref h20, .ref h21, .ref h22, .ref h23, .ref h24, .ref h25]))] (fun q => some (.int 1)) (fun q => [(h1, .inr (5, [.int 0, .int 0, .ref h2, .ref h3, .ref h4, .ref h5, .ref h6, .ref h7, .ref h8, .ref h9, .ref h10, .ref h11])), (h0, .inr (4, [.int 1, .int 46, .long 1, .ref h12, .ref h13, .ref h14, .ref h15, .ref h16, .ref h17, .ref h18, .ref h19, .ref h20, .ref h21, .ref h22, .ref h23, .ref h24, .ref h25]))]) := by
  refine CT.of (by decide +kernel) (Nat.le_of_ble_eq_true rfl) ?_
  intro p e s m args below meth c A ls hx hb hr hml hown hG hlocks hnm hA hS hP hK hD hGV hl
  have hown : s.vm.findClass RX1 = some m.cls := hown
  have hl : lv_has ls 12 [(0, .ref h0), (1, .ref h1), (2, .int 26), (3, .int 1)] := hl
  have hSF : CF p m c cX1_holdsAlong 12 s args RX1 := ⟨hx, hb, hml, hown, hG⟩
  refine lv_lconst (v := 0) hx hb dX1_holdsAlong_0 (by decide) ?_
  refine lv_lstore (lv' := [(4, .long 0), (0, .ref h0), (1, .ref h1), (2, .int 26), (3, .int 1)]) hx hb dX1_holdsAlong_1 hl (by decide) rfl (fun ls hl => ?_)
  refine lv_lconst (v := 0) hx hb dX1_holdsAlong_3 (by decide) ?_
  refine lv_lstore (lv' := [(6, .long 0), (4, .long 0), (0, .ref h0), (1, .ref h1), (2, .int 26), (3, .int 1)]) hx hb dX1_holdsAlong_4 hl (by decide) rfl (fun ls hl => ?_)
  refine lv_iconst (v := 0) hx hb dX1_holdsAlong_6 (by decide) ?_
  refine lv_istore (lv' := [(8, .int 0), (6, .long 0), (4, .long 0), (0, .ref h0), (1, .ref h1), (2, .int 26), (3, .int 1)]) hx hb dX1_holdsAlong_7 hl (by decide) rfl (fun ls hl => ?_)
  refine lv_iload hx hb dX1_holdsAlong_9 (lv_at hl 0 rfl) ?_
  refine lv_aload_n hx hb dX1_holdsAlong_11 rfl (lv_at hl 4 rfl) ?_
  refine k_get (ci := 5) (C := RX2) (T := TX2) (N := 12) (v := .int 0) hx hb hG inX2 hown hK hP 0 rfl rfl 0 (by decide) gw128 rfl dX1_holdsAlong_12 ?_
  refine k_icmp_ge_t (tgt := 180) hx hb dX1_holdsAlong_15 (by decide) (by decide) ?_
  refine lv_aload_n hx hb dX1_holdsAlong_180 rfl (lv_at hl 3 rfl) ?_
  refine k_get (ci := 4) (C := RX1) (T := TX1) (N := 17) (v := .long 1) hx hb hG inX1 hown hK hP 1 rfl rfl 2 (by decide) gw201 rfl dX1_holdsAlong_181 ?_
  refine lv_lconst (v := 0) hx hb dX1_holdsAlong_184 (by decide) ?_
  refine k_lcmp (v := 1) hx hb dX1_holdsAlong_185 (by decide +kernel) ?_
  refine k_if_le_f (tgt := 220) hx hb dX1_holdsAlong_186 (by decide) (by decide) ?_
  refine lv_lload hx hb dX1_holdsAlong_189 (lv_at hl 1 rfl) ?_
  refine lv_aload_n hx hb dX1_holdsAlong_191 rfl (lv_at hl 3 rfl) ?_
  refine k_get (ci := 4) (C := RX1) (T := TX1) (N := 17) (v := .long 1) hx hb hG inX1 hown hK hP 1 rfl rfl 2 (by decide) gw201 rfl dX1_holdsAlong_192 ?_
  refine k_lrem (v := 0) hx hb dX1_holdsAlong_195 (by decide +kernel) (by decide +kernel) ?_
  refine lv_lconst (v := 0) hx hb dX1_holdsAlong_196 (by decide) ?_
  refine k_lcmp (v := 0) hx hb dX1_holdsAlong_197 (by decide +kernel) ?_
  refine k_if_ne_f (tgt := 220) hx hb dX1_holdsAlong_198 (by decide) (by decide) ?_
  refine lv_lload hx hb dX1_holdsAlong_201 (lv_at hl 2 rfl) ?_
  refine lv_lload hx hb dX1_holdsAlong_203 (lv_at hl 1 rfl) ?_
  refine lv_aload_n hx hb dX1_holdsAlong_205 rfl (lv_at hl 3 rfl) ?_
  refine k_get (ci := 4) (C := RX1) (T := TX1) (N := 17) (v := .long 1) hx hb hG inX1 hown hK hP 1 rfl rfl 2 (by decide) gw201 rfl dX1_holdsAlong_206 ?_
  refine k_ldiv (v := 0) hx hb dX1_holdsAlong_209 (by decide +kernel) (by decide +kernel) ?_
  refine k_ladd (v := 0) hx hb dX1_holdsAlong_210 (by decide +kernel) ?_
  refine lv_lconst (v := 0) hx hb dX1_holdsAlong_211 (by decide) ?_
  refine k_lcmp (v := 0) hx hb dX1_holdsAlong_212 (by decide +kernel) ?_
  refine k_if_ne_f (tgt := 220) hx hb dX1_holdsAlong_213 (by decide) (by decide) ?_
  refine lv_iconst (v := 1) hx hb dX1_holdsAlong_216 (by decide) ?_
  refine lv_goto (tgt := 221) hx hb dX1_holdsAlong_217 (by decide) ?_
  exact e_i (fun _ => 0) hx hb hr hlocks rfl rfl hP hD hS (Nat.le_of_ble_eq_true rfl) (Nat.le_of_ble_eq_true rfl) dX1_holdsAlong_221
set_option maxHeartbeats 4000000 in
set_option maxRecDepth 100000 in
theorem c446_X1_holdsAt (l : Launch) (hfl : l.stackTraces = false) (D : va_G) (cA : Nat → ClassId) (g : gv_T) (h0 h1 h2 h3 h4 h5 h6 h7 h8 h9 h10 h11 h12 h13 h14 h15 h16 h17 h18 h19 h20 h21 h22 h23 h24 h25 : Nat) : CT l yX1_holdsAt cX1_holdsAt 3 (some .boolean) (RM 1 0 0 31) D cA g [.ref h0, .ref h1, .int 26] [(h0, .inr (4, [.int 1, .int 46, .long 1, .ref h2, .ref h3, .ref h4, .ref h5, .ref h6, .ref h7, .ref h8, .ref h9, .ref h10, .ref h11, .ref h12, .ref h13, .ref h14, .ref h15])), (h1, .inr (5, [.int 0, .int 0, .ref h16, .ref h17, .ref h18, .ref h19, .ref h20, .ref h21, .ref h22, .ref h23, .ref h24, .ref h25]))] (fun q => some (.int 1)) (fun q => [(h0, .inr (4, [.int 1, .int 46, .long 1, .ref h2, .ref h3, .ref h4, .ref h5, .ref h6, .ref h7, .ref h8, .ref h9, .ref h10, .ref h11, .ref h12, .ref h13, .ref h14, .ref h15])), (h1, .inr (5, [.int 0, .int 0, .ref h16, .ref h17, .ref h18, .ref h19, .ref h20, .ref h21, .ref h22, .ref h23, .ref h24, .ref h25]))]) := by
  refine CT.of (by decide +kernel) (Nat.le_of_ble_eq_true rfl) ?_
  intro p e s m args below meth c A ls hx hb hr hml hown hG hlocks hnm hA hS hP hK hD hGV hl
  have hown : s.vm.findClass RX1 = some m.cls := hown
  have hl : lv_has ls 3 [(0, .ref h0), (1, .ref h1), (2, .int 26)] := hl
  have hSF : CF p m c cX1_holdsAt 3 s args RX1 := ⟨hx, hb, hml, hown, hG⟩
  refine lv_aload_n hx hb dX1_holdsAt_0 rfl (lv_at hl 0 rfl) ?_
  refine lv_aload_n hx hb dX1_holdsAt_1 rfl (lv_at hl 1 rfl) ?_
  refine lv_iload_n hx hb dX1_holdsAt_2 rfl (lv_at hl 2 rfl) ?_
  refine lv_iconst (v := 0) hx hb dX1_holdsAt_3 (by decide) ?_
  refine ct_V (wr := []) hSF hl.1 hP hD hS hA hK hGV (c444_X1_holdsAlong l hfl D cA g h0 h1 h16 h17 h18 h19 h20 h21 h22 h23 h24 h25 h2 h3 h4 h5 h6 h7 h8 h9 h10 h11 h12 h13 h14 h15) goV_X1_185 pd_X1_holdsAlong ⟨(Nat.le_of_ble_eq_true rfl), (Nat.le_of_ble_eq_true rfl)⟩ ⟨(Nat.le_of_ble_eq_true rfl), (Nat.le_of_ble_eq_true rfl)⟩ (va_recv hK hP (ci := 4) (q0 := 0) rfl rfl) dX1_holdsAt_4 rfl (Nat.le_of_ble_eq_true rfl) [1, 0] [] rfl (by decide) rfl (by decide) (by decide) (fun q => [(h1, .inr (5, [.int 0, .int 0, .ref h16, .ref h17, .ref h18, .ref h19, .ref h20, .ref h21, .ref h22, .ref h23, .ref h24, .ref h25])), (h0, .inr (4, [.int 1, .int 46, .long 1, .ref h2, .ref h3, .ref h4, .ref h5, .ref h6, .ref h7, .ref h8, .ref h9, .ref h10, .ref h11, .ref h12, .ref h13, .ref h14, .ref h15]))]) (fun _ => rfl) (fun q1 H locs hP hD hS => ?_)
  refine W.eq (g2 := F0 m 7 ls [.int 1]) rfl ?_
  refine k_if_eq_f (tgt := 24) hx hb dX1_holdsAt_7 (by decide) (by decide) ?_
  refine lv_aload_n hx hb dX1_holdsAt_10 rfl (lv_at hl 0 rfl) ?_
  refine lv_aload_n hx hb dX1_holdsAt_11 rfl (lv_at hl 1 rfl) ?_
  refine lv_iload_n hx hb dX1_holdsAt_12 rfl (lv_at hl 2 rfl) ?_
  refine lv_iconst (v := 1) hx hb dX1_holdsAt_13 (by decide) ?_
  refine ct_V (wr := []) hSF hl.1 hP hD hS hA hK hGV (c445_X1_holdsAlong l hfl D cA g h0 h1 h16 h17 h18 h19 h20 h21 h22 h23 h24 h25 h2 h3 h4 h5 h6 h7 h8 h9 h10 h11 h12 h13 h14 h15) goV_X1_185 pd_X1_holdsAlong ⟨(Nat.le_of_ble_eq_true rfl), (Nat.le_of_ble_eq_true rfl)⟩ ⟨(Nat.le_of_ble_eq_true rfl), (Nat.le_of_ble_eq_true rfl)⟩ (va_recv hK hP (ci := 4) (q0 := 1) rfl rfl) dX1_holdsAt_14 rfl (Nat.le_of_ble_eq_true rfl) [0, 1] [] rfl (by decide) rfl (by decide) (by decide) (fun q => [(h1, .inr (5, [.int 0, .int 0, .ref h16, .ref h17, .ref h18, .ref h19, .ref h20, .ref h21, .ref h22, .ref h23, .ref h24, .ref h25])), (h0, .inr (4, [.int 1, .int 46, .long 1, .ref h2, .ref h3, .ref h4, .ref h5, .ref h6, .ref h7, .ref h8, .ref h9, .ref h10, .ref h11, .ref h12, .ref h13, .ref h14, .ref h15]))]) (fun _ => rfl) (fun q2 H locs hP hD hS => ?_)
  refine W.eq (g2 := F0 m 17 ls [.int 1]) rfl ?_
  refine k_if_eq_f (tgt := 24) hx hb dX1_holdsAt_17 (by decide) (by decide) ?_
  refine lv_iconst (v := 1) hx hb dX1_holdsAt_20 (by decide) ?_
  refine lv_goto (tgt := 25) hx hb dX1_holdsAt_21 (by decide) ?_
  exact e_i (fun _ => 0) hx hb hr hlocks rfl rfl (hP.sub [1, 0] rfl) (hD.sub [1, 0] (by decide) rfl) hS (Nat.le_of_ble_eq_true rfl) (Nat.le_of_ble_eq_true rfl) dX1_holdsAt_25
set_option maxHeartbeats 4000000 in
set_option maxRecDepth 100000 in
theorem c447_X1_holdsAlong (l : Launch) (hfl : l.stackTraces = false) (D : va_G) (cA : Nat → ClassId) (g : gv_T) (h0 h1 h2 h3 h4 h5 h6 h7 h8 h9 h10 h11 h12 h13 h14 h15 h16 h17 h18 h19 h20 h21 h22 h23 h24 h25 : Nat) : CT l yX1_holdsAlong cX1_holdsAlong 12 (some .boolean) (RM 0 0 0 0) D cA g [.ref h0, .ref h1, .int 27, .int 0] [(h1, .inr (5, [.int 0, .int 0, .ref h2, .ref h3, .ref h4, .ref h5, .ref h6, .ref h7, .ref h8, .ref h9, .ref h10, .ref h11])), (h0, .inr (4, [.int 1, .int 46, .long 1, .ref h12, .ref h13, .ref h14, .ref h15, .ref h16, .ref h17, .ref h18, .ref h19, .ref h20, .ref h21, .ref h22, .ref h23, .ref h24, .ref h25]))] (fun q => some (.int 1)) (fun q => [(h1, .inr (5, [.int 0, .int 0, .ref h2, .ref h3, .ref h4, .ref h5, .ref h6, .ref h7, .ref h8, .ref h9, .ref h10, .ref h11])), (h0, .inr (4, [.int 1, .int 46, .long 1, .ref h12, .ref h13, .ref h14, .ref h15, .ref h16, .ref h17, .ref h18, .ref h19, .ref h20, .ref h21, .ref h22, .ref h23, .ref h24, .ref h25]))]) := by
  refine CT.of (by decide +kernel) (Nat.le_of_ble_eq_true rfl) ?_
  intro p e s m args below meth c A ls hx hb hr hml hown hG hlocks hnm hA hS hP hK hD hGV hl
  have hown : s.vm.findClass RX1 = some m.cls := hown
  have hl : lv_has ls 12 [(0, .ref h0), (1, .ref h1), (2, .int 27), (3, .int 0)] := hl
  have hSF : CF p m c cX1_holdsAlong 12 s args RX1 := ⟨hx, hb, hml, hown, hG⟩
  refine lv_lconst (v := 0) hx hb dX1_holdsAlong_0 (by decide) ?_
  refine lv_lstore (lv' := [(4, .long 0), (0, .ref h0), (1, .ref h1), (2, .int 27), (3, .int 0)]) hx hb dX1_holdsAlong_1 hl (by decide) rfl (fun ls hl => ?_)
  refine lv_lconst (v := 0) hx hb dX1_holdsAlong_3 (by decide) ?_
  refine lv_lstore (lv' := [(6, .long 0), (4, .long 0), (0, .ref h0), (1, .ref h1), (2, .int 27), (3, .int 0)]) hx hb dX1_holdsAlong_4 hl (by decide) rfl (fun ls hl => ?_)
  refine lv_iconst (v := 0) hx hb dX1_holdsAlong_6 (by decide) ?_
  refine lv_istore (lv' := [(8, .int 0), (6, .long 0), (4, .long 0), (0, .ref h0), (1, .ref h1), (2, .int 27), (3, .int 0)]) hx hb dX1_holdsAlong_7 hl (by decide) rfl (fun ls hl => ?_)
  refine lv_iload hx hb dX1_holdsAlong_9 (lv_at hl 0 rfl) ?_
  refine lv_aload_n hx hb dX1_holdsAlong_11 rfl (lv_at hl 4 rfl) ?_
  refine k_get (ci := 5) (C := RX2) (T := TX2) (N := 12) (v := .int 0) hx hb hG inX2 hown hK hP 0 rfl rfl 0 (by decide) gw128 rfl dX1_holdsAlong_12 ?_
  refine k_icmp_ge_t (tgt := 180) hx hb dX1_holdsAlong_15 (by decide) (by decide) ?_
  refine lv_aload_n hx hb dX1_holdsAlong_180 rfl (lv_at hl 3 rfl) ?_
  refine k_get (ci := 4) (C := RX1) (T := TX1) (N := 17) (v := .long 1) hx hb hG inX1 hown hK hP 1 rfl rfl 2 (by decide) gw201 rfl dX1_holdsAlong_181 ?_
  refine lv_lconst (v := 0) hx hb dX1_holdsAlong_184 (by decide) ?_
  refine k_lcmp (v := 1) hx hb dX1_holdsAlong_185 (by decide +kernel) ?_
  refine k_if_le_f (tgt := 220) hx hb dX1_holdsAlong_186 (by decide) (by decide) ?_
  refine lv_lload hx hb dX1_holdsAlong_189 (lv_at hl 1 rfl) ?_
  refine lv_aload_n hx hb dX1_holdsAlong_191 rfl (lv_at hl 3 rfl) ?_
  refine k_get (ci := 4) (C := RX1) (T := TX1) (N := 17) (v := .long 1) hx hb hG inX1 hown hK hP 1 rfl rfl 2 (by decide) gw201 rfl dX1_holdsAlong_192 ?_
  refine k_lrem (v := 0) hx hb dX1_holdsAlong_195 (by decide +kernel) (by decide +kernel) ?_
  refine lv_lconst (v := 0) hx hb dX1_holdsAlong_196 (by decide) ?_
  refine k_lcmp (v := 0) hx hb dX1_holdsAlong_197 (by decide +kernel) ?_
  refine k_if_ne_f (tgt := 220) hx hb dX1_holdsAlong_198 (by decide) (by decide) ?_
  refine lv_lload hx hb dX1_holdsAlong_201 (lv_at hl 2 rfl) ?_
  refine lv_lload hx hb dX1_holdsAlong_203 (lv_at hl 1 rfl) ?_
  refine lv_aload_n hx hb dX1_holdsAlong_205 rfl (lv_at hl 3 rfl) ?_
  refine k_get (ci := 4) (C := RX1) (T := TX1) (N := 17) (v := .long 1) hx hb hG inX1 hown hK hP 1 rfl rfl 2 (by decide) gw201 rfl dX1_holdsAlong_206 ?_
  refine k_ldiv (v := 0) hx hb dX1_holdsAlong_209 (by decide +kernel) (by decide +kernel) ?_
  refine k_ladd (v := 0) hx hb dX1_holdsAlong_210 (by decide +kernel) ?_
  refine lv_lconst (v := 0) hx hb dX1_holdsAlong_211 (by decide) ?_
  refine k_lcmp (v := 0) hx hb dX1_holdsAlong_212 (by decide +kernel) ?_
  refine k_if_ne_f (tgt := 220) hx hb dX1_holdsAlong_213 (by decide) (by decide) ?_
  refine lv_iconst (v := 1) hx hb dX1_holdsAlong_216 (by decide) ?_
  refine lv_goto (tgt := 221) hx hb dX1_holdsAlong_217 (by decide) ?_
  exact e_i (fun _ => 0) hx hb hr hlocks rfl rfl hP hD hS (Nat.le_of_ble_eq_true rfl) (Nat.le_of_ble_eq_true rfl) dX1_holdsAlong_221
set_option maxHeartbeats 4000000 in
set_option maxRecDepth 100000 in
theorem c448_X1_holdsAlong (l : Launch) (hfl : l.stackTraces = false) (D : va_G) (cA : Nat → ClassId) (g : gv_T) (h0 h1 h2 h3 h4 h5 h6 h7 h8 h9 h10 h11 h12 h13 h14 h15 h16 h17 h18 h19 h20 h21 h22 h23 h24 h25 : Nat) : CT l yX1_holdsAlong cX1_holdsAlong 12 (some .boolean) (RM 0 0 0 0) D cA g [.ref h0, .ref h1, .int 27, .int 1] [(h1, .inr (5, [.int 0, .int 0, .ref h2, .ref h3, .ref h4, .ref h5, .ref h6, .ref h7, .ref h8, .ref h9, .ref h10, .ref h11])), (h0, .inr (4, [.int 1, .int 46, .long 1, .ref h12, .ref h13, .ref h14, .ref h15, .ref h16, .ref h17, .ref h18, .ref h19, .ref h20, .ref h21, .ref h22, .ref h23, .ref h24, .ref h25]))] (fun q => some (.int 1)) (fun q => [(h1, .inr (5, [.int 0, .int 0, .ref h2, .ref h3, .ref h4, .ref h5, .ref h6, .ref h7, .ref h8, .ref h9, .ref h10, .ref h11])), (h0, .inr (4, [.int 1, .int 46, .long 1, .ref h12, .ref h13, .ref h14, .ref h15, .ref h16, .ref h17, .ref h18, .ref h19, .ref h20, .ref h21, .ref h22, .ref h23, .ref h24, .ref h25]))]) := by
  refine CT.of (by decide +kernel) (Nat.le_of_ble_eq_true rfl) ?_
  intro p e s m args below meth c A ls hx hb hr hml hown hG hlocks hnm hA hS hP hK hD hGV hl
  have hown : s.vm.findClass RX1 = some m.cls := hown
  have hl : lv_has ls 12 [(0, .ref h0), (1, .ref h1), (2, .int 27), (3, .int 1)] := hl
  have hSF : CF p m c cX1_holdsAlong 12 s args RX1 := ⟨hx, hb, hml, hown, hG⟩
  refine lv_lconst (v := 0) hx hb dX1_holdsAlong_0 (by decide) ?_
  refine lv_lstore (lv' := [(4, .long 0), (0, .ref h0), (1, .ref h1), (2, .int 27), (3, .int 1)]) hx hb dX1_holdsAlong_1 hl (by decide) rfl (fun ls hl => ?_)
  refine lv_lconst (v := 0) hx hb dX1_holdsAlong_3 (by decide) ?_
  refine lv_lstore (lv' := [(6, .long 0), (4, .long 0), (0, .ref h0), (1, .ref h1), (2, .int 27), (3, .int 1)]) hx hb dX1_holdsAlong_4 hl (by decide) rfl (fun ls hl => ?_)
  refine lv_iconst (v := 0) hx hb dX1_holdsAlong_6 (by decide) ?_
  refine lv_istore (lv' := [(8, .int 0), (6, .long 0), (4, .long 0), (0, .ref h0), (1, .ref h1), (2, .int 27), (3, .int 1)]) hx hb dX1_holdsAlong_7 hl (by decide) rfl (fun ls hl => ?_)
  refine lv_iload hx hb dX1_holdsAlong_9 (lv_at hl 0 rfl) ?_
  refine lv_aload_n hx hb dX1_holdsAlong_11 rfl (lv_at hl 4 rfl) ?_
  refine k_get (ci := 5) (C := RX2) (T := TX2) (N := 12) (v := .int 0) hx hb hG inX2 hown hK hP 0 rfl rfl 0 (by decide) gw128 rfl dX1_holdsAlong_12 ?_
  refine k_icmp_ge_t (tgt := 180) hx hb dX1_holdsAlong_15 (by decide) (by decide) ?_
  refine lv_aload_n hx hb dX1_holdsAlong_180 rfl (lv_at hl 3 rfl) ?_
  refine k_get (ci := 4) (C := RX1) (T := TX1) (N := 17) (v := .long 1) hx hb hG inX1 hown hK hP 1 rfl rfl 2 (by decide) gw201 rfl dX1_holdsAlong_181 ?_
  refine lv_lconst (v := 0) hx hb dX1_holdsAlong_184 (by decide) ?_
  refine k_lcmp (v := 1) hx hb dX1_holdsAlong_185 (by decide +kernel) ?_
  refine k_if_le_f (tgt := 220) hx hb dX1_holdsAlong_186 (by decide) (by decide) ?_
  refine lv_lload hx hb dX1_holdsAlong_189 (lv_at hl 1 rfl) ?_
  refine lv_aload_n hx hb dX1_holdsAlong_191 rfl (lv_at hl 3 rfl) ?_
  refine k_get (ci := 4) (C := RX1) (T := TX1) (N := 17) (v := .long 1) hx hb hG inX1 hown hK hP 1 rfl rfl 2 (by decide) gw201 rfl dX1_holdsAlong_192 ?_
  refine k_lrem (v := 0) hx hb dX1_holdsAlong_195 (by decide +kernel) (by decide +kernel) ?_
  refine lv_lconst (v := 0) hx hb dX1_holdsAlong_196 (by decide) ?_
  refine k_lcmp (v := 0) hx hb dX1_holdsAlong_197 (by decide +kernel) ?_
  refine k_if_ne_f (tgt := 220) hx hb dX1_holdsAlong_198 (by decide) (by decide) ?_
  refine lv_lload hx hb dX1_holdsAlong_201 (lv_at hl 2 rfl) ?_
  refine lv_lload hx hb dX1_holdsAlong_203 (lv_at hl 1 rfl) ?_
  refine lv_aload_n hx hb dX1_holdsAlong_205 rfl (lv_at hl 3 rfl) ?_
  refine k_get (ci := 4) (C := RX1) (T := TX1) (N := 17) (v := .long 1) hx hb hG inX1 hown hK hP 1 rfl rfl 2 (by decide) gw201 rfl dX1_holdsAlong_206 ?_
  refine k_ldiv (v := 0) hx hb dX1_holdsAlong_209 (by decide +kernel) (by decide +kernel) ?_
  refine k_ladd (v := 0) hx hb dX1_holdsAlong_210 (by decide +kernel) ?_
  refine lv_lconst (v := 0) hx hb dX1_holdsAlong_211 (by decide) ?_
  refine k_lcmp (v := 0) hx hb dX1_holdsAlong_212 (by decide +kernel) ?_
  refine k_if_ne_f (tgt := 220) hx hb dX1_holdsAlong_213 (by decide) (by decide) ?_
  refine lv_iconst (v := 1) hx hb dX1_holdsAlong_216 (by decide) ?_
  refine lv_goto (tgt := 221) hx hb dX1_holdsAlong_217 (by decide) ?_
  exact e_i (fun _ => 0) hx hb hr hlocks rfl rfl hP hD hS (Nat.le_of_ble_eq_true rfl) (Nat.le_of_ble_eq_true rfl) dX1_holdsAlong_221
