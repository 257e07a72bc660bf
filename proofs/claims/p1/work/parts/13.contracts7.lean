set_option maxHeartbeats 4000000 in
set_option maxRecDepth 100000 in
theorem c449_X1_holdsAt (l : Launch) (hfl : l.stackTraces = false) (D : va_G) (cA : Nat → ClassId) (g : gv_T) (h0 h1 h2 h3 h4 h5 h6 h7 h8 h9 h10 h11 h12 h13 h14 h15 h16 h17 h18 h19 h20 h21 h22 h23 h24 h25 : Nat) : CT l yX1_holdsAt cX1_holdsAt 3 (some .boolean) (RM 1 0 0 31) D cA g [.ref h0, .ref h1, .int 27] [(h0, .inr (4, [.int 1, .int 46, .long 1, .ref h2, .ref h3, .ref h4, .ref h5, .ref h6, .ref h7, .ref h8, .ref h9, .ref h10, .ref h11, .ref h12, .ref h13, .ref h14, .ref h15])), (h1, .inr (5, [.int 0, .int 0, .ref h16, .ref h17, .ref h18, .ref h19, .ref h20, .ref h21, .ref h22, .ref h23, .ref h24, .ref h25]))] (fun q => some (.int 1)) (fun q => [(h0, .inr (4, [.int 1, .int 46, .long 1, .ref h2, .ref h3, .ref h4, .ref h5, .ref h6, .ref h7, .ref h8, .ref h9, .ref h10, .ref h11, .ref h12, .ref h13, .ref h14, .ref h15])), (h1, .inr (5, [.int 0, .int 0, .ref h16, .ref h17, .ref h18, .ref h19, .ref h20, .ref h21, .ref h22, .ref h23, .ref h24, .ref h25]))]) := by
  refine CT.of (by decide +kernel) (Nat.le_of_ble_eq_true rfl) ?_
  intro p e s m args below meth c A ls hx hb hr hml hown hG hlocks hnm hA hS hP hK hD hGV hl
  have hown : s.vm.findClass RX1 = some m.cls := hown
  have hl : lv_has ls 3 [(0, .ref h0), (1, .ref h1), (2, .int 27)] := hl
  have hSF : CF p m c cX1_holdsAt 3 s args RX1 := ⟨hx, hb, hml, hown, hG⟩
  refine lv_aload_n hx hb dX1_holdsAt_0 rfl (lv_at hl 0 rfl) ?_
  refine lv_aload_n hx hb dX1_holdsAt_1 rfl (lv_at hl 1 rfl) ?_
  refine lv_iload_n hx hb dX1_holdsAt_2 rfl (lv_at hl 2 rfl) ?_
  refine lv_iconst (v := 0) hx hb dX1_holdsAt_3 (by decide) ?_
  refine ct_V (wr := []) hSF hl.1 hP hD hS hA hK hGV (c447_X1_holdsAlong l hfl D cA g h0 h1 h16 h17 h18 h19 h20 h21 h22 h23 h24 h25 h2 h3 h4 h5 h6 h7 h8 h9 h10 h11 h12 h13 h14 h15) goV_X1_185 pd_X1_holdsAlong ⟨(Nat.le_of_ble_eq_true rfl), (Nat.le_of_ble_eq_true rfl)⟩ ⟨(Nat.le_of_ble_eq_true rfl), (Nat.le_of_ble_eq_true rfl)⟩ (va_recv hK hP (ci := 4) (q0 := 0) rfl rfl) dX1_holdsAt_4 rfl (Nat.le_of_ble_eq_true rfl) [1, 0] [] rfl (by decide) rfl (by decide) (by decide) (fun q => [(h1, .inr (5, [.int 0, .int 0, .ref h16, .ref h17, .ref h18, .ref h19, .ref h20, .ref h21, .ref h22, .ref h23, .ref h24, .ref h25])), (h0, .inr (4, [.int 1, .int 46, .long 1, .ref h2, .ref h3, .ref h4, .ref h5, .ref h6, .ref h7, .ref h8, .ref h9, .ref h10, .ref h11, .ref h12, .ref h13, .ref h14, .ref h15]))]) (fun _ => rfl) (fun q1 H locs hP hD hS => ?_)
  refine W.eq (g2 := F0 m 7 ls [.int 1]) rfl ?_
  refine k_if_eq_f (tgt := 24) hx hb dX1_holdsAt_7 (by decide) (by decide) ?_
  refine lv_aload_n hx hb dX1_holdsAt_10 rfl (lv_at hl 0 rfl) ?_
  refine lv_aload_n hx hb dX1_holdsAt_11 rfl (lv_at hl 1 rfl) ?_
  refine lv_iload_n hx hb dX1_holdsAt_12 rfl (lv_at hl 2 rfl) ?_
  refine lv_iconst (v := 1) hx hb dX1_holdsAt_13 (by decide) ?_
  refine ct_V (wr := []) hSF hl.1 hP hD hS hA hK hGV (c448_X1_holdsAlong l hfl D cA g h0 h1 h16 h17 h18 h19 h20 h21 h22 h23 h24 h25 h2 h3 h4 h5 h6 h7 h8 h9 h10 h11 h12 h13 h14 h15) goV_X1_185 pd_X1_holdsAlong ⟨(Nat.le_of_ble_eq_true rfl), (Nat.le_of_ble_eq_true rfl)⟩ ⟨(Nat.le_of_ble_eq_true rfl), (Nat.le_of_ble_eq_true rfl)⟩ (va_recv hK hP (ci := 4) (q0 := 1) rfl rfl) dX1_holdsAt_14 rfl (Nat.le_of_ble_eq_true rfl) [0, 1] [] rfl (by decide) rfl (by decide) (by decide) (fun q => [(h1, .inr (5, [.int 0, .int 0, .ref h16, .ref h17, .ref h18, .ref h19, .ref h20, .ref h21, .ref h22, .ref h23, .ref h24, .ref h25])), (h0, .inr (4, [.int 1, .int 46, .long 1, .ref h2, .ref h3, .ref h4, .ref h5, .ref h6, .ref h7, .ref h8, .ref h9, .ref h10, .ref h11, .ref h12, .ref h13, .ref h14, .ref h15]))]) (fun _ => rfl) (fun q2 H locs hP hD hS => ?_)
  refine W.eq (g2 := F0 m 17 ls [.int 1]) rfl ?_
  refine k_if_eq_f (tgt := 24) hx hb dX1_holdsAt_17 (by decide) (by decide) ?_
  refine lv_iconst (v := 1) hx hb dX1_holdsAt_20 (by decide) ?_
  refine lv_goto (tgt := 25) hx hb dX1_holdsAt_21 (by decide) ?_
  exact e_i (fun _ => 0) hx hb hr hlocks rfl rfl (hP.sub [1, 0] rfl) (hD.sub [1, 0] (by decide) rfl) hS (Nat.le_of_ble_eq_true rfl) (Nat.le_of_ble_eq_true rfl) dX1_holdsAt_25
set_option maxHeartbeats 4000000 in
set_option maxRecDepth 100000 in
theorem c450_X1_holdsAlong (l : Launch) (hfl : l.stackTraces = false) (D : va_G) (cA : Nat → ClassId) (g : gv_T) (h0 h1 h2 h3 h4 h5 h6 h7 h8 h9 h10 h11 h12 h13 h14 h15 h16 h17 h18 h19 h20 h21 h22 h23 h24 h25 : Nat) : CT l yX1_holdsAlong cX1_holdsAlong 12 (some .boolean) (RM 0 0 0 0) D cA g [.ref h0, .ref h1, .int 28, .int 0] [(h1, .inr (5, [.int 0, .int 0, .ref h2, .ref h3, .ref h4, .ref h5, .ref h6, .ref h7, .ref h8, .ref h9, .ref h10, .ref h11])), (h0, .inr (4, [.int 1, .int 46, .long 1, .ref h12, .ref h13, .ref h14, .ref h15, .ref h16, .ref h17, .ref h18, .ref h19, .ref h20, .ref h21, .ref h22, .ref h23, .ref h24, .ref h25]))] (fun q => some (.int 1)) (fun q => [(h1, .inr (5, [.int 0, .int 0, .ref h2, .ref h3, .ref h4, .ref h5, .ref h6, .ref h7, .ref h8, .ref h9, .ref h10, .ref h11])), (h0, .inr (4, [.int 1, .int 46, .long 1, .ref h12, .ref h13, .ref h14, .ref h15, .ref h16, .ref h17, .ref h18, .ref h19, .ref h20, .ref h21, .ref h22, .ref h23, .ref h24, .ref h25]))]) := by
  refine CT.of (by decide +kernel) (Nat.le_of_ble_eq_true rfl) ?_
  intro p e s m args below meth c A ls hx hb hr hml hown hG hlocks hnm hA hS hP hK hD hGV hl
  have hown : s.vm.findClass RX1 = some m.cls := hown
  have hl : lv_has ls 12 [(0, .ref h0), (1, .ref h1), (2, .int 28), (3, .int 0)] := hl
  have hSF : CF p m c cX1_holdsAlong 12 s args RX1 := ⟨hx, hb, hml, hown, hG⟩
  refine lv_lconst (v := 0) hx hb dX1_holdsAlong_0 (by decide) ?_
  refine lv_lstore (lv' := [(4, .long 0), (0, .ref h0), (1, .ref h1), (2, .int 28), (3, .int 0)]) hx hb dX1_holdsAlong_1 hl (by decide) rfl (fun ls hl => ?_)
  refine lv_lconst (v := 0) hx hb dX1_holdsAlong_3 (by decide) ?_
  refine lv_lstore (lv' := [(6, .long 0), (4, .long 0), (0, .ref h0), (1, .ref h1), (2, .int 28), (3, .int 0)]) hx hb dX1_holdsAlong_4 hl (by decide) rfl (fun ls hl => ?_)
  refine lv_iconst (v := 0) hx hb dX1_holdsAlong_6 (by decide) ?_
  refine lv_istore (lv' := [(8, .int 0), (6, .long 0), (4, .long 0), (0, .ref h0), (1, .ref h1), (2, .int 28), (3, .int 0)]) hx hb dX1_holdsAlong_7 hl (by decide) rfl (fun ls hl => ?_)
  refine lv_iload hx hb dX1_holdsAlong_9 (lv_at hl 0 rfl) ?_
  refine lv_aload_n hx hb dX1_holdsAlong_11 rfl (lv_at hl 4 rfl) ?_
  refine k_get (ci := 5) (C := RX2) (T := TX2) (N := 12) (v := .int 0) hx hb hG inX2 hown hK hP 0 rfl rfl 0 (by decide) gw128 rfl dX1_holdsAlong_12 ?_
  refine k_icmp_ge_t (tgt := 180) hx hb dX1_holdsAlong_15 (by decide) (by decide) ?_
  refine lv_aload_n hx hb dX1_holdsAlong_180 rfl (lv_at hl 3 rfl) ?_
  refine k_get (ci := 4) (C := RX1) (T := TX1) (N := 17) (v := .long 1) hx hb hG inX1 hown hK hP 1 rfl rfl 2 (by decide) gw201 rfl dX1_holdsAlong_181 ?_
  refine lv_lconst (v := 0) hx hb dX1_holdsAlong_184 (by decide) ?_
  refine k_lcmp (v := 1) hx hb dX1_holdsAlong_185 (by decide +kernel) ?_
  refine k_if_le_f (tgt := 220) hx hb dX1_holdsAlong_186 (by decide) (by decide) ?_
  refine lv_lload hx hb dX1_holdsAlong_189 (lv_at hl 1 rfl) ?_
  refine lv_aload_n hx hb dX1_holdsAlong_191 rfl (lv_at hl 3 rfl) ?_
  refine k_get (ci := 4) (C := RX1) (T := TX1) (N := 17) (v := .long 1) hx hb hG inX1 hown hK hP 1 rfl rfl 2 (by decide) gw201 rfl dX1_holdsAlong_192 ?_
  refine k_lrem (v := 0) hx hb dX1_holdsAlong_195 (by decide +kernel) (by decide +kernel) ?_
  refine lv_lconst (v := 0) hx hb dX1_holdsAlong_196 (by decide) ?_
  refine k_lcmp (v := 0) hx hb dX1_holdsAlong_197 (by decide +kernel) ?_
  refine k_if_ne_f (tgt := 220) hx hb dX1_holdsAlong_198 (by decide) (by decide) ?_
  refine lv_lload hx hb dX1_holdsAlong_201 (lv_at hl 2 rfl) ?_
  refine lv_lload hx hb dX1_holdsAlong_203 (lv_at hl 1 rfl) ?_
  refine lv_aload_n hx hb dX1_holdsAlong_205 rfl (lv_at hl 3 rfl) ?_
  refine k_get (ci := 4) (C := RX1) (T := TX1) (N := 17) (v := .long 1) hx hb hG inX1 hown hK hP 1 rfl rfl 2 (by decide) gw201 rfl dX1_holdsAlong_206 ?_
  refine k_ldiv (v := 0) hx hb dX1_holdsAlong_209 (by decide +kernel) (by decide +kernel) ?_
  refine k_ladd (v := 0) hx hb dX1_holdsAlong_210 (by decide +kernel) ?_
  refine lv_lconst (v := 0) hx hb dX1_holdsAlong_211 (by decide) ?_
  refine k_lcmp (v := 0) hx hb dX1_holdsAlong_212 (by decide +kernel) ?_
  refine k_if_ne_f (tgt := 220) hx hb dX1_holdsAlong_213 (by decide) (by decide) ?_
  refine lv_iconst (v := 1) hx hb dX1_holdsAlong_216 (by decide) ?_
  refine lv_goto (tgt := 221) hx hb dX1_holdsAlong_217 (by decide) ?_
  exact e_i (fun _ => 0) hx hb hr hlocks rfl rfl hP hD hS (Nat.le_of_ble_eq_true rfl) (Nat.le_of_ble_eq_true rfl) dX1_holdsAlong_221
set_option maxHeartbeats 4000000 in
set_option maxRecDepth 100000 in
theorem c451_X1_holdsAlong (l : Launch) (hfl : l.stackTraces = false) (D : va_G) (cA : Nat → ClassId) (g : gv_T) (h0 h1 h2 h3 h4 h5 h6 h7 h8 h9 h10 h11 h12 h13 h14 h15 h16 h17 h18 h19 h20 h21 h22 h23 h24 h25 : Nat) : CT l yX1_holdsAlong cX1_holdsAlong 12 (some .boolean) (RM 0 0 0 0) D cA g [.ref h0, .ref h1, .int 28, .int 1] [(h1, .inr (5, [.int 0, .int 0, .ref h2, .ref h3, .ref h4, .ref h5, .ref h6, .ref h7, .ref h8, .ref h9, .ref h10, .ref h11])), (h0, .inr (4, [.int 1, .int 46, .long 1, .ref h12, .ref h13, .ref h14, .ref h15, .ref h16, .ref h17, .ref h18, .ref h19, .ref h20, .ref h21, .ref h22, .ref h23, .ref h24, .ref h25]))] (fun q => some (.int 1)) (fun q => [(h1, .inr (5, [.int 0, .int 0, .ref h2, .ref h3, .ref h4, .ref h5, .ref h6, .ref h7, .ref h8, .ref h9, .ref h10, .ref h11])), (h0, .inr (4, [.int 1, .int 46, .long 1, .ref h12, .ref h13, .ref h14, .ref h15, .ref h16, .ref h17, .ref h18, .ref h19, .ref h20, .ref h21, .ref h22, .ref h23, .ref h24, .ref h25]))]) := by
  refine CT.of (by decide +kernel) (Nat.le_of_ble_eq_true rfl) ?_
  intro p e s m args below meth c A ls hx hb hr hml hown hG hlocks hnm hA hS hP hK hD hGV hl
  have hown : s.vm.findClass RX1 = some m.cls := hown
  have hl : lv_has ls 12 [(0, .ref h0), (1, .ref h1), (2, .int 28), (3, .int 1)] := hl
  have hSF : CF p m c cX1_holdsAlong 12 s args RX1 := ⟨hx, hb, hml, hown, hG⟩
  refine lv_lconst (v := 0) hx hb dX1_holdsAlong_0 (by decide) ?_
  refine lv_lstore (lv' := [(4, .long 0), (0, .ref h0), (1, .ref h1), (2, .int 28), (3, .int 1)]) hx hb dX1_holdsAlong_1 hl (by decide) rfl (fun ls hl => ?_)
  refine lv_lconst (v := 0) hx hb dX1_holdsAlong_3 (by decide) ?_
  refine lv_lstore (lv' := [(6, .long 0), (4, .long 0), (0, .ref h0), (1, .ref h1), (2, .int 28), (3, .int 1)]) hx hb dX1_holdsAlong_4 hl (by decide) rfl (fun ls hl => ?_)
  refine lv_iconst (v := 0) hx hb dX1_holdsAlong_6 (by decide) ?_
  refine lv_istore (lv' := [(8, .int 0), (6, .long 0), (4, .long 0), (0, .ref h0), (1, .ref h1), (2, .int 28), (3, .int 1)]) hx hb dX1_holdsAlong_7 hl (by decide) rfl (fun ls hl => ?_)
  refine lv_iload hx hb dX1_holdsAlong_9 (lv_at hl 0 rfl) ?_
  refine lv_aload_n hx hb dX1_holdsAlong_11 rfl (lv_at hl 4 rfl) ?_
  refine k_get (ci := 5) (C := RX2) (T := TX2) (N := 12) (v := .int 0) hx hb hG inX2 hown hK hP 0 rfl rfl 0 (by decide) gw128 rfl dX1_holdsAlong_12 ?_
  refine k_icmp_ge_t (tgt := 180) hx hb dX1_holdsAlong_15 (by decide) (by decide) ?_
  refine lv_aload_n hx hb dX1_holdsAlong_180 rfl (lv_at hl 3 rfl) ?_
  refine k_get (ci := 4) (C := RX1) (T := TX1) (N := 17) (v := .long 1) hx hb hG inX1 hown hK hP 1 rfl rfl 2 (by decide) gw201 rfl dX1_holdsAlong_181 ?_
  refine lv_lconst (v := 0) hx hb dX1_holdsAlong_184 (by decide) ?_
  refine k_lcmp (v := 1) hx hb dX1_holdsAlong_185 (by decide +kernel) ?_
  refine k_if_le_f (tgt := 220) hx hb dX1_holdsAlong_186 (by decide) (by decide) ?_
  refine lv_lload hx hb dX1_holdsAlong_189 (lv_at hl 1 rfl) ?_
  refine lv_aload_n hx hb dX1_holdsAlong_191 rfl (lv_at hl 3 rfl) ?_
  refine k_get (ci := 4) (C := RX1) (T := TX1) (N := 17) (v := .long 1) hx hb hG inX1 hown hK hP 1 rfl rfl 2 (by decide) gw201 rfl dX1_holdsAlong_192 ?_
  refine k_lrem (v := 0) hx hb dX1_holdsAlong_195 (by decide +kernel) (by decide +kernel) ?_
  refine lv_lconst (v := 0) hx hb dX1_holdsAlong_196 (by decide) ?_
  refine k_lcmp (v := 0) hx hb dX1_holdsAlong_197 (by decide +kernel) ?_
  refine k_if_ne_f (tgt := 220) hx hb dX1_holdsAlong_198 (by decide) (by decide) ?_
  refine lv_lload hx hb dX1_holdsAlong_201 (lv_at hl 2 rfl) ?_
  refine lv_lload hx hb dX1_holdsAlong_203 (lv_at hl 1 rfl) ?_
  refine lv_aload_n hx hb dX1_holdsAlong_205 rfl (lv_at hl 3 rfl) ?_
  refine k_get (ci := 4) (C := RX1) (T := TX1) (N := 17) (v := .long 1) hx hb hG inX1 hown hK hP 1 rfl rfl 2 (by decide) gw201 rfl dX1_holdsAlong_206 ?_
  refine k_ldiv (v := 0) hx hb dX1_holdsAlong_209 (by decide +kernel) (by decide +kernel) ?_
  refine k_ladd (v := 0) hx hb dX1_holdsAlong_210 (by decide +kernel) ?_
  refine lv_lconst (v := 0) hx hb dX1_holdsAlong_211 (by decide) ?_
  refine k_lcmp (v := 0) hx hb dX1_holdsAlong_212 (by decide +kernel) ?_
  refine k_if_ne_f (tgt := 220) hx hb dX1_holdsAlong_213 (by decide) (by decide) ?_
  refine lv_iconst (v := 1) hx hb dX1_holdsAlong_216 (by decide) ?_
  refine lv_goto (tgt := 221) hx hb dX1_holdsAlong_217 (by decide) ?_
  exact e_i (fun _ => 0) hx hb hr hlocks rfl rfl hP hD hS (Nat.le_of_ble_eq_true rfl) (Nat.le_of_ble_eq_true rfl) dX1_holdsAlong_221
set_option maxHeartbeats 4000000 in
set_option maxRecDepth 100000 in
theorem c452_X1_holdsAt (l : Launch) (hfl : l.stackTraces = false) (D : va_G) (cA : Nat → ClassId) (g : gv_T) (h0 h1 h2 h3 h4 h5 h6 h7 h8 h9 h10 h11 h12 h13 h14 h15 h16 h17 h18 h19 h20 h21 h22 h23 h24 h25 : Nat) : CT l yX1_holdsAt cX1_holdsAt 3 (some .boolean) (RM 1 0 0 31) D cA g [.ref h0, .ref h1, .int 28] [(h0, .inr (4, [.int 1, .int 46, .long 1, .ref h2, .ref h3, .ref h4, .ref h5, .ref h6, .ref h7, .ref h8, .ref h9, .ref h10, .ref h11, .ref h12, .ref h13, .ref h14, .ref h15])), (h1, .inr (5, [.int 0, .int 0, .ref h16, .ref h17, .ref h18, .ref h19, .ref h20, .ref h21, .ref h22, .ref h23, .ref h24, .ref h25]))] (fun q => some (.int 1)) (fun q => [(h0, .inr (4, [.int 1, .int 46, .long 1, .ref h2, .ref h3, .ref h4, .ref h5, .ref h6, .ref h7, .ref h8, .ref h9, .ref h10, .ref h11, .ref h12, .ref h13, .ref h14, .ref h15])), (h1, .inr (5, [.int 0, .int 0, .ref h16, .ref h17, .ref h18, .ref h19, .ref h20, .ref h21, .ref h22, .ref h23, .ref h24, .ref h25]))]) := by
  refine CT.of (by decide +kernel) (Nat.le_of_ble_eq_true rfl) ?_
  intro p e s m args below meth c A ls hx hb hr hml hown hG hlocks hnm hA hS hP hK hD hGV hl
  have hown : s.vm.findClass RX1 = some m.cls := hown
  have hl : lv_has ls 3 [(0, .ref h0), (1, .ref h1), (2, .int 28)] := hl
  have hSF : CF p m c cX1_holdsAt 3 s args RX1 := ⟨hx, hb, hml, hown, hG⟩
  refine lv_aload_n hx hb dX1_holdsAt_0 rfl (lv_at hl 0 rfl) ?_
  refine lv_aload_n hx hb dX1_holdsAt_1 rfl (lv_at hl 1 rfl) ?_
  refine lv_iload_n hx hb dX1_holdsAt_2 rfl (lv_at hl 2 rfl) ?_
  refine lv_iconst (v := 0) hx hb dX1_holdsAt_3 (by decide) ?_
  refine ct_V (wr := []) hSF hl.1 hP hD hS hA hK hGV (c450_X1_holdsAlong l hfl D cA g h0 h1 h16 h17 h18 h19 h20 h21 h22 h23 h24 h25 h2 h3 h4 h5 h6 h7 h8 h9 h10 h11 h12 h13 h14 h15) goV_X1_185 pd_X1_holdsAlong ⟨(Nat.le_of_ble_eq_true rfl), (Nat.le_of_ble_eq_true rfl)⟩ ⟨(Nat.le_of_ble_eq_true rfl), (Nat.le_of_ble_eq_true rfl)⟩ (va_recv hK hP (ci := 4) (q0 := 0) rfl rfl) dX1_holdsAt_4 rfl (Nat.le_of_ble_eq_true rfl) [1, 0] [] rfl (by decide) rfl (by decide) (by decide) (fun q => [(h1, .inr (5, [.int 0, .int 0, .ref h16, .ref h17, .ref h18, .ref h19, .ref h20, .ref h21, .ref h22, .ref h23, .ref h24, .ref h25])), (h0, .inr (4, [.int 1, .int 46, .long 1, .ref h2, .ref h3, .ref h4, .ref h5, .ref h6, .ref h7, .ref h8, .ref h9, .ref h10, .ref h11, .ref h12, .ref h13, .ref h14, .ref h15]))]) (fun _ => rfl) (fun q1 H locs hP hD hS => ?_)
  refine W.eq (g2 := F0 m 7 ls [.int 1]) rfl ?_
  refine k_if_eq_f (tgt := 24) hx hb dX1_holdsAt_7 (by decide) (by decide) ?_
  refine lv_aload_n hx hb dX1_holdsAt_10 rfl (lv_at hl 0 rfl) ?_
  refine lv_aload_n hx hb dX1_holdsAt_11 rfl (lv_at hl 1 rfl) ?_
  refine lv_iload_n hx hb dX1_holdsAt_12 rfl (lv_at hl 2 rfl) ?_
  refine lv_iconst (v := 1) hx hb dX1_holdsAt_13 (by decide) ?_
  refine ct_V (wr := []) hSF hl.1 hP hD hS hA hK hGV (c451_X1_holdsAlong l hfl D cA g h0 h1 h16 h17 h18 h19 h20 h21 h22 h23 h24 h25 h2 h3 h4 h5 h6 h7 h8 h9 h10 h11 h12 h13 h14 h15) goV_X1_185 pd_X1_holdsAlong ⟨(Nat.le_of_ble_eq_true rfl), (Nat.le_of_ble_eq_true rfl)⟩ ⟨(Nat.le_of_ble_eq_true rfl), (Nat.le_of_ble_eq_true rfl)⟩ (va_recv hK hP (ci := 4) (q0 := 1) rfl rfl) dX1_holdsAt_14 rfl (Nat.le_of_ble_eq_true rfl) [0, 1] [] rfl (by decide) rfl (by decide) (by decide) (fun q => [(h1, .inr (5, [.int 0, .int 0, .ref h16, .ref h17, .ref h18, .ref h19, .ref h20, .ref h21, .ref h22, .ref h23, .ref h24, .ref h25])), (h0, .inr (4, [.int 1, .int 46, .long 1, .ref h2, .ref h3, .ref h4, .ref h5, .ref h6, .ref h7, .ref h8, .ref h9, .ref h10, .ref h11, .ref h12, .ref h13, .ref h14, .ref h15]))]) (fun _ => rfl) (fun q2 H locs hP hD hS => ?_)
  refine W.eq (g2 := F0 m 17 ls [.int 1]) rfl ?_
  refine k_if_eq_f (tgt := 24) hx hb dX1_holdsAt_17 (by decide) (by decide) ?_
  refine lv_iconst (v := 1) hx hb dX1_holdsAt_20 (by decide) ?_
  refine lv_goto (tgt := 25) hx hb dX1_holdsAt_21 (by decide) ?_
  exact e_i (fun _ => 0) hx hb hr hlocks rfl rfl (hP.sub [1, 0] rfl) (hD.sub [1, 0] (by decide) rfl) hS (Nat.le_of_ble_eq_true rfl) (Nat.le_of_ble_eq_true rfl) dX1_holdsAt_25
set_option maxHeartbeats 4000000 in
set_option maxRecDepth 100000 in
theorem c453_X1_holdsAlong (l : Launch) (hfl : l.stackTraces = false) (D : va_G) (cA : Nat → ClassId) (g : gv_T) (h0 h1 h2 h3 h4 h5 h6 h7 h8 h9 h10 h11 h12 h13 h14 h15 h16 h17 h18 h19 h20 h21 h22 h23 h24 h25 : Nat) : CT l yX1_holdsAlong cX1_holdsAlong 12 (some .boolean) (RM 0 0 0 0) D cA g [.ref h0, .ref h1, .int 29, .int 0] [(h1, .inr (5, [.int 0, .int 0, .ref h2, .ref h3, .ref h4, .ref h5, .ref h6, .ref h7, .ref h8, .ref h9, .ref h10, .ref h11])), (h0, .inr (4, [.int 1, .int 46, .long 1, .ref h12, .ref h13, .ref h14, .ref h15, .ref h16, .ref h17, .ref h18, .ref h19, .ref h20, .ref h21, .ref h22, .ref h23, .ref h24, .ref h25]))] (fun q => some (.int 1)) (fun q => [(h1, .inr (5, [.int 0, .int 0, .ref h2, .ref h3, .ref h4, .ref h5, .ref h6, .ref h7, .ref h8, .ref h9, .ref h10, .ref h11])), (h0, .inr (4, [.int 1, .int 46, .long 1, .ref h12, .ref h13, .ref h14, .ref h15, .ref h16, .ref h17, .ref h18, .ref h19, .ref h20, .ref h21, .ref h22, .ref h23, .ref h24, .ref h25]))]) := by
  refine CT.of (by decide +kernel) (Nat.le_of_ble_eq_true rfl) ?_
  intro p e s m args below meth c A ls hx hb hr hml hown hG hlocks hnm hA hS hP hK hD hGV hl
  have hown : s.vm.findClass RX1 = some m.cls := hown
  have hl : lv_has ls 12 [(0, .ref h0), (1, .ref h1), (2, .int 29), (3, .int 0)] := hl
  have hSF : CF p m c cX1_holdsAlong 12 s args RX1 := ⟨hx, hb, hml, hown, hG⟩
  refine lv_lconst (v := 0) hx hb dX1_holdsAlong_0 (by decide) ?_
  refine lv_lstore (lv' := [(4, .long 0), (0, .ref h0), (1, .ref h1), (2, .int 29), (3, .int 0)]) hx hb dX1_holdsAlong_1 hl (by decide) rfl (fun ls hl => ?_)
  refine lv_lconst (v := 0) hx hb dX1_holdsAlong_3 (by decide) ?_
  refine lv_lstore (lv' := [(6, .long 0), (4, .long 0), (0, .ref h0), (1, .ref h1), (2, .int 29), (3, .int 0)]) hx hb dX1_holdsAlong_4 hl (by decide) rfl (fun ls hl => ?_)
  refine lv_iconst (v := 0) hx hb dX1_holdsAlong_6 (by decide) ?_
  refine lv_istore (lv' := [(8, .int 0), (6, .long 0), (4, .long 0), (0, .ref h0), (1, .ref h1), (2, .int 29), (3, .int 0)]) hx hb dX1_holdsAlong_7 hl (by decide) rfl (fun ls hl => ?_)
  refine lv_iload hx hb dX1_holdsAlong_9 (lv_at hl 0 rfl) ?_
  refine lv_aload_n hx hb dX1_holdsAlong_11 rfl (lv_at hl 4 rfl) ?_
  refine k_get (ci := 5) (C := RX2) (T := TX2) (N := 12) (v := .int 0) hx hb hG inX2 hown hK hP 0 rfl rfl 0 (by decide) gw128 rfl dX1_holdsAlong_12 ?_
  refine k_icmp_ge_t (tgt := 180) hx hb dX1_holdsAlong_15 (by decide) (by decide) ?_
  refine lv_aload_n hx hb dX1_holdsAlong_180 rfl (lv_at hl 3 rfl) ?_
  refine k_get (ci := 4) (C := RX1) (T := TX1) (N := 17) (v := .long 1) hx hb hG inX1 hown hK hP 1 rfl rfl 2 (by decide) gw201 rfl dX1_holdsAlong_181 ?_
  refine lv_lconst (v := 0) hx hb dX1_holdsAlong_184 (by decide) ?_
  refine k_lcmp (v := 1) hx hb dX1_holdsAlong_185 (by decide +kernel) ?_
  refine k_if_le_f (tgt := 220) hx hb dX1_holdsAlong_186 (by decide) (by decide) ?_
  refine lv_lload hx hb dX1_holdsAlong_189 (lv_at hl 1 rfl) ?_
  refine lv_aload_n hx hb dX1_holdsAlong_191 rfl (lv_at hl 3 rfl) ?_
  refine k_get (ci := 4) (C := RX1) (T := TX1) (N := 17) (v := .long 1) hx hb hG inX1 hown hK hP 1 rfl rfl 2 (by decide) gw201 rfl dX1_holdsAlong_192 ?_
  refine k_lrem (v := 0) hx hb dX1_holdsAlong_195 (by decide +kernel) (by decide +kernel) ?_
  refine lv_lconst (v := 0) hx hb dX1_holdsAlong_196 (by decide) ?_
  refine k_lcmp (v := 0) hx hb dX1_holdsAlong_197 (by decide +kernel) ?_
  refine k_if_ne_f (tgt := 220) hx hb dX1_holdsAlong_198 (by decide) (by decide) ?_
  refine lv_lload hx hb dX1_holdsAlong_201 (lv_at hl 2 rfl) ?_
  refine lv_lload hx hb dX1_holdsAlong_203 (lv_at hl 1 rfl) ?_
  refine lv_aload_n hx hb dX1_holdsAlong_205 rfl (lv_at hl 3 rfl) ?_
  refine k_get (ci := 4) (C := RX1) (T := TX1) (N := 17) (v := .long 1) hx hb hG inX1 hown hK hP 1 rfl rfl 2 (by decide) gw201 rfl dX1_holdsAlong_206 ?_
  refine k_ldiv (v := 0) hx hb dX1_holdsAlong_209 (by decide +kernel) (by decide +kernel) ?_
  refine k_ladd (v := 0) hx hb dX1_holdsAlong_210 (by decide +kernel) ?_
  refine lv_lconst (v := 0) hx hb dX1_holdsAlong_211 (by decide) ?_
  refine k_lcmp (v := 0) hx hb dX1_holdsAlong_212 (by decide +kernel) ?_
  refine k_if_ne_f (tgt := 220) hx hb dX1_holdsAlong_213 (by decide) (by decide) ?_
  refine lv_iconst (v := 1) hx hb dX1_holdsAlong_216 (by decide) ?_
  refine lv_goto (tgt := 221) hx hb dX1_holdsAlong_217 (by decide) ?_
  exact e_i (fun _ => 0) hx hb hr hlocks rfl rfl hP hD hS (Nat.le_of_ble_eq_true rfl) (Nat.le_of_ble_eq_true rfl) dX1_holdsAlong_221
set_option maxHeartbeats 4000000 in
set_option maxRecDepth 100000 in
theorem c454_X1_holdsAlong (l : Launch) (hfl : l.stackTraces = false) (D : va_G) (cA : Nat → ClassId) (g : gv_T) (h0 h1 h2 h3 h4 h5 h6 h7 h8 h9 h10 h11 h12 h13 h14 h15 h16 h17 h18 h19 h20 h21 h22 h23 h24 h25 : Nat) : CT l yX1_holdsAlong cX1_holdsAlong 12 (some .boolean) (RM 0 0 0 0) D cA g [.ref h0, .ref h1, .int 29, .int 1] [(h1, .inr (5, [.int 0, .int 0, .ref h2, .ref h3, .ref h4, .ref h5, .ref h6, .ref h7, .ref h8, .ref h9, .ref h10, .ref h11])), (h0, .inr (4, [.int 1, .int 46, .long 1, .ref h12, .ref h13, .ref h14, .ref h15, .ref h16, .ref h17, .ref h18, .ref h19, .ref h20, .ref h21, .ref h22, .ref h23, .ref h24, .ref h25]))] (fun q => some (.int 1)) (fun q => [(h1, .inr (5, [.int 0, .int 0, .ref h2, .ref h3, .ref h4, .ref h5, .ref h6, .ref h7, .ref h8, .ref h9, .ref h10, .ref h11])), (h0, .inr (4, [.int 1, .int 46, .long 1, .ref h12, .ref h13, .ref h14, .ref h15, .ref h16, .ref h17, .ref h18, .ref h19, .ref h20, .ref h21, .ref h22, .ref h23, .ref h24, .ref h25]))]) := by
  refine CT.of (by decide +kernel) (Nat.le_of_ble_eq_true rfl) ?_
  intro p e s m args below meth c A ls hx hb hr hml hown hG hlocks hnm hA hS hP hK hD hGV hl
  have hown : s.vm.findClass RX1 = some m.cls := hown
  have hl : lv_has ls 12 [(0, .ref h0), (1, .ref h1), (2, .int 29), (3, .int 1)] := hl
  have hSF : CF p m c cX1_holdsAlong 12 s args RX1 := ⟨hx, hb, hml, hown, hG⟩
  refine lv_lconst (v := 0) hx hb dX1_holdsAlong_0 (by decide) ?_
  refine lv_lstore (lv' := [(4, .long 0), (0, .ref h0), (1, .ref h1), (2, .int 29), (3, .int 1)]) hx hb dX1_holdsAlong_1 hl (by decide) rfl (fun ls hl => ?_)
  refine lv_lconst (v := 0) hx hb dX1_holdsAlong_3 (by decide) ?_
  refine lv_lstore (lv' := [(6, .long 0), (4, .long 0), (0, .ref h0), (1, .ref h1), (2, .int 29), (3, .int 1)]) hx hb dX1_holdsAlong_4 hl (by decide) rfl (fun ls hl => ?_)
  refine lv_iconst (v := 0) hx hb dX1_holdsAlong_6 (by decide) ?_
  refine lv_istore (lv' := [(8, .int 0), (6, .long 0), (4, .long 0), (0, .ref h0), (1, .ref h1), (2, .int 29), (3, .int 1)]) hx hb dX1_holdsAlong_7 hl (by decide) rfl (fun ls hl => ?_)
  refine lv_iload hx hb dX1_holdsAlong_9 (lv_at hl 0 rfl) ?_
  refine lv_aload_n hx hb dX1_holdsAlong_11 rfl (lv_at hl 4 rfl) ?_
  refine k_get (ci := 5) (C := RX2) (T := TX2) (N := 12) (v := .int 0) hx hb hG inX2 hown hK hP 0 rfl rfl 0 (by decide) gw128 rfl dX1_holdsAlong_12 ?_
  refine k_icmp_ge_t (tgt := 180) hx hb dX1_holdsAlong_15 (by decide) (by decide) ?_
  refine lv_aload_n hx hb dX1_holdsAlong_180 rfl (lv_at hl 3 rfl) ?_
  refine k_get (ci := 4) (C := RX1) (T := TX1) (N := 17) (v := .long 1) hx hb hG inX1 hown hK hP 1 rfl rfl 2 (by decide) gw201 rfl dX1_holdsAlong_181 ?_
  refine lv_lconst (v := 0) hx hb dX1_holdsAlong_184 (by decide) ?_
  refine k_lcmp (v := 1) hx hb dX1_holdsAlong_185 (by decide +kernel) ?_
  refine k_if_le_f (tgt := 220) hx hb dX1_holdsAlong_186 (by decide) (by decide) ?_
  refine lv_lload hx hb dX1_holdsAlong_189 (lv_at hl 1 rfl) ?_
  refine lv_aload_n hx hb dX1_holdsAlong_191 rfl (lv_at hl 3 rfl) ?_
  refine k_get (ci := 4) (C := RX1) (T := TX1) (N := 17) (v := .long 1) hx hb hG inX1 hown hK hP 1 rfl rfl 2 (by decide) gw201 rfl dX1_holdsAlong_192 ?_
  refine k_lrem (v := 0) hx hb dX1_holdsAlong_195 (by decide +kernel) (by decide +kernel) ?_
  refine lv_lconst (v := 0) hx hb dX1_holdsAlong_196 (by decide) ?_
  refine k_lcmp (v := 0) hx hb dX1_holdsAlong_197 (by decide +kernel) ?_
  refine k_if_ne_f (tgt := 220) hx hb dX1_holdsAlong_198 (by decide) (by decide) ?_
  refine lv_lload hx hb dX1_holdsAlong_201 (lv_at hl 2 rfl) ?_
  refine lv_lload hx hb dX1_holdsAlong_203 (lv_at hl 1 rfl) ?_
  refine lv_aload_n hx hb dX1_holdsAlong_205 rfl (lv_at hl 3 rfl) ?_
  refine k_get (ci := 4) (C := RX1) (T := TX1) (N := 17) (v := .long 1) hx hb hG inX1 hown hK hP 1 rfl rfl 2 (by decide) gw201 rfl dX1_holdsAlong_206 ?_
  refine k_ldiv (v := 0) hx hb dX1_holdsAlong_209 (by decide +kernel) (by decide +kernel) ?_
  refine k_ladd (v := 0) hx hb dX1_holdsAlong_210 (by decide +kernel) ?_
  refine lv_lconst (v := 0) hx hb dX1_holdsAlong_211 (by decide) ?_
  refine k_lcmp (v := 0) hx hb dX1_holdsAlong_212 (by decide +kernel) ?_
  refine k_if_ne_f (tgt := 220) hx hb dX1_holdsAlong_213 (by decide) (by decide) ?_
  refine lv_iconst (v := 1) hx hb dX1_holdsAlong_216 (by decide) ?_
  refine lv_goto (tgt := 221) hx hb dX1_holdsAlong_217 (by decide) ?_
  exact e_i (fun _ => 0) hx hb hr hlocks rfl rfl hP hD hS (Nat.le_of_ble_eq_true rfl) (Nat.le_of_ble_eq_true rfl) dX1_holdsAlong_221
set_option maxHeartbeats 4000000 in
set_option maxRecDepth 100000 in
theorem c455_X1_holdsAt (l : Launch) (hfl : l.stackTraces = false) (D : va_G) (cA : Nat → ClassId) (g : gv_T) (h0 h1 h2 h3 h4 h5 h6 h7 h8 h9 h10 h11 h12 h13 h14 h15 h16 h17 h18 h19 h20 h21 h22 h23 h24 h25 : Nat) : CT l yX1_holdsAt cX1_holdsAt 3 (some .boolean) (RM 1 0 0 31) D cA g [.ref h0, .ref h1, .int 29] [(h0, .inr (4, [.int 1, .int 46, .long 1, .ref h2, .ref h3, .ref h4, .ref h5, .ref h6, .ref h7, .ref h8, .ref h9, .ref h10, .ref h11, .ref h12, .ref h13, .ref h14, .ref h15])), (h1, .inr (5, [.int 0, .int 0, .ref h16, .ref h17, .ref h18, .ref h19, .ref h20, .ref h21, .ref h22, .ref h23, .ref h24, .ref h25]))] (fun q => some (.int 1)) (fun q => [(h0, .inr (4, [.int 1, .int 46, .long 1, .ref h2, .ref h3, .ref h4, .ref h5, .ref h6, .ref h7, .ref h8, .ref h9, .ref h10, .ref h11, .ref h12, .ref h13, .ref h14, .ref h15])), (h1, .inr (5, [.int 0, .int 0, .ref h16, .ref h17, .ref h18, .ref h19, .ref h20, .ref h21, .ref h22, .ref h23, .ref h24, .ref h25]))]) := by
  refine CT.of (by decide +kernel) (Nat.le_of_ble_eq_true rfl) ?_
  intro p e s m args below meth c A ls hx hb hr hml hown hG hlocks hnm hA hS hP hK hD hGV hl
  have hown : s.vm.findClass RX1 = some m.cls := hown
  have hl : lv_has ls 3 [(0, .ref h0), (1, .ref h1), (2, .int 29)] := hl
  have hSF : CF p m c cX1_holdsAt 3 s args RX1 := ⟨hx, hb, hml, hown, hG⟩
  refine lv_aload_n hx hb dX1_holdsAt_0 rfl (lv_at hl 0 rfl) ?_
  refine lv_aload_n hx hb dX1_holdsAt_1 rfl (lv_at hl 1 rfl) ?_
  refine lv_iload_n hx hb dX1_holdsAt_2 rfl (lv_at hl 2 rfl) ?_
  refine lv_iconst (v := 0) hx hb dX1_holdsAt_3 (by decide) ?_
  refine ct_V (wr := []) hSF hl.1 hP hD hS hA hK hGV (c453_X1_holdsAlong l hfl D cA g h0 h1 h16 h17 h18 h19 h20 h21 h22 h23 h24 h25 h2 h3 h4 h5 h6 h7 h8 h9 h10 h11 h12 h13 h14 h15) goV_X1_185 pd_X1_holdsAlong ⟨(Nat.le_of_ble_eq_true rfl), (Nat.le_of_ble_eq_true rfl)⟩ ⟨(Nat.le_of_ble_eq_true rfl), (Nat.le_of_ble_eq_true rfl)⟩ (va_recv hK hP (ci := 4) (q0 := 0) rfl rfl) dX1_holdsAt_4 rfl (Nat.le_of_ble_eq_true rfl) [1, 0] [] rfl (by decide) rfl (by decide) (by decide) (fun q => [(h1, .inr (5, [.int 0, .int 0, .ref h16, .ref h17, .ref h18, .ref h19, .ref h20, .ref h21, .ref h22, .ref h23, .ref h24, .ref h25])), (h0, .inr (4, [.int 1, .int 46, .long 1, .ref h2, .ref h3, .ref h4, .ref h5, .ref h6, .ref h7, .ref h8, .ref h9, .ref h10, .ref h11, .ref h12, .ref h13, .ref h14, .ref h15]))]) (fun _ => rfl) (fun q1 H locs hP hD hS => ?_)
  refine W.eq (g2 := F0 m 7 ls [.int 1]) rfl ?_
  refine k_if_eq_f (tgt := 24) hx hb dX1_holdsAt_7 (by decide) (by decide) ?_
  refine lv_aload_n hx hb dX1_holdsAt_10 rfl (lv_at hl 0 rfl) ?_
  refine lv_aload_n hx hb dX1_holdsAt_11 rfl (lv_at hl 1 rfl) ?_
  refine lv_iload_n hx hb dX1_holdsAt_12 rfl (lv_at hl 2 rfl) ?_
  refine lv_iconst (v := 1) hx hb dX1_holdsAt_13 (by decide) ?_
  refine ct_V (wr := []) hSF hl.1 hP hD hS hA hK hGV (c454_X1_holdsAlong l hfl D cA g h0 h1 h16 h17 h18 h19 h20 h21 h22 h23 h24 h25 h2 h3 h4 h5 h6 h7 h8 h9 h10 h11 h12 h13 h14 h15) goV_X1_185 pd_X1_holdsAlong ⟨(Nat.le_of_ble_eq_true rfl), (Nat.le_of_ble_eq_true rfl)⟩ ⟨(Nat.le_of_ble_eq_true rfl), (Nat.le_of_ble_eq_true rfl)⟩ (va_recv hK hP (ci := 4) (q0 := 1) rfl rfl) dX1_holdsAt_14 rfl (Nat.le_of_ble_eq_true rfl) [0, 1] [] rfl (by decide) rfl (by decide) (by decide) (fun q => [(h1, .inr (5, [.int 0, .int 0, .ref h16, .ref h17, .ref h18, .ref h19, .ref h20, .ref h21, .ref h22, .ref h23, .ref h24, .ref h25])), (h0, .inr (4, [.int 1, .int 46, .long 1, .ref h2, .ref h3, .ref h4, .ref h5, .ref h6, .ref h7, .ref h8, .ref h9, .ref h10, .ref h11, .ref h12, .ref h13, .ref h14, .ref h15]))]) (fun _ => rfl) (fun q2 H locs hP hD hS => ?_)
  refine W.eq (g2 := F0 m 17 ls [.int 1]) rfl ?_
  refine k_if_eq_f (tgt := 24) hx hb dX1_holdsAt_17 (by decide) (by decide) ?_
  refine lv_iconst (v := 1) hx hb dX1_holdsAt_20 (by decide) ?_
  refine lv_goto (tgt := 25) hx hb dX1_holdsAt_21 (by decide) ?_
  exact e_i (fun _ => 0) hx hb hr hlocks rfl rfl (hP.sub [1, 0] rfl) (hD.sub [1, 0] (by decide) rfl) hS (Nat.le_of_ble_eq_true rfl) (Nat.le_of_ble_eq_true rfl) dX1_holdsAt_25
set_option maxHeartbeats 4000000 in
set_option maxRecDepth 100000 in
theorem c456_X1_holdsAlong (l : Launch) (hfl : l.stackTraces = false) (D : va_G) (cA : Nat → ClassId) (g : gv_T) (h0 h1 h2 h3 h4 h5 h6 h7 h8 h9 h10 h11 h12 h13 h14 h15 h16 h17 h18 h19 h20 h21 h22 h23 h24 h25 : Nat) : CT l yX1_holdsAlong cX1_holdsAlong 12 (some .boolean) (RM 0 0 0 0) D cA g [.ref h0, .ref h1, .int 30, .int 0] [(h1, .inr (5, [.int 0, .int 0, .ref h2, .ref h3, .ref h4, .ref h5, .ref h6, .ref h7, .ref h8, .ref h9, .ref h10, .ref h11])), (h0, .inr (4, [.int 1, .int 46, .long 1, .ref h12, .ref h13, .ref h14, .ref h15, .ref h16, .ref h17, .ref h18, .ref h19, .ref h20, .ref h21, .ref h22, .ref h23, .ref h24, .ref h25]))] (fun q => some (.int 1)) (fun q => [(h1, .inr (5, [.int 0, .int 0, .ref h2, .ref h3, .ref h4, .ref h5, .ref h6, .ref h7, .ref h8, .ref h9, .ref h10, .ref h11])), (h0, .inr (4, [.int 1, .int 46, .long 1, .ref h12, .ref h13, .ref h14, .ref h15, .ref h16, .ref h17, .ref h18, .ref h19, .ref h20, .ref h21, .ref h22, .ref h23, .ref h24, .ref h25]))]) := by
  refine CT.of (by decide +kernel) (Nat.le_of_ble_eq_true rfl) ?_
  intro p e s m args below meth c A ls hx hb hr hml hown hG hlocks hnm hA hS hP hK hD hGV hl
  have hown : s.vm.findClass RX1 = some m.cls := hown
  have hl : lv_has ls 12 [(0, .ref h0), (1, .ref h1), (2, .int 30), (3, .int 0)] := hl
  have hSF : CF p m c cX1_holdsAlong 12 s args RX1 := ⟨hx, hb, hml, hown, hG⟩
  refine lv_lconst (v := 0) hx hb dX1_holdsAlong_0 (by decide) ?_
  refine lv_lstore (lv' := [(4, .long 0), (0, .ref h0), (1, .ref h1), (2, .int 30), (3, .int 0)]) hx hb dX1_holdsAlong_1 hl (by decide) rfl (fun ls hl => ?_)
  refine lv_lconst (v := 0) hx hb dX1_holdsAlong_3 (by decide) ?_
  refine lv_lstore (lv' := [(6, .long 0), (4, .long 0), (0, .ref h0), (1, .ref h1), (2, .int 30), (3, .int 0)]) hx hb dX1_holdsAlong_4 hl (by decide) rfl (fun ls hl => ?_)
  refine lv_iconst (v := 0) hx hb dX1_holdsAlong_6 (by decide) ?_
  refine lv_istore (lv' := [(8, .int 0), (6, .long 0), (4, .long 0), (0, .ref h0), (1, .ref h1), (2, .int 30), (3, .int 0)]) hx hb dX1_holdsAlong_7 hl (by decide) rfl (fun ls hl => ?_)
  refine lv_iload hx hb dX1_holdsAlong_9 (lv_at hl 0 rfl) ?_
  refine lv_aload_n hx hb dX1_holdsAlong_11 rfl (lv_at hl 4 rfl) ?_
  refine k_get (ci := 5) (C := RX2) (T := TX2) (N := 12) (v := .int 0) hx hb hG inX2 hown hK hP 0 rfl rfl 0 (by decide) gw128 rfl dX1_holdsAlong_12 ?_
  refine k_icmp_ge_t (tgt := 180) hx hb dX1_holdsAlong_15 (by decide) (by decide) ?_
  refine lv_aload_n hx hb dX1_holdsAlong_180 rfl (lv_at hl 3 rfl) ?_
  refine k_get (ci := 4) (C := RX1) (T := TX1) (N := 17) (v := .long 1) hx hb hG inX1 hown hK hP 1 rfl rfl 2 (by decide) gw201 rfl dX1_holdsAlong_181 ?_
  refine lv_lconst (v := 0) hx hb dX1_holdsAlong_184 (by decide) ?_
  refine k_lcmp (v := 1) hx hb dX1_holdsAlong_185 (by decide +kernel) ?_
  refine k_if_le_f (tgt := 220) hx hb dX1_holdsAlong_186 (by decide) (by decide) ?_
  refine lv_lload hx hb dX1_holdsAlong_189 (lv_at hl 1 rfl) ?_
  refine lv_aload_n hx hb dX1_holdsAlong_191 rfl (lv_at hl 3 rfl) ?_
  refine k_get (ci := 4) (C := RX1) (T := TX1) (N := 17) (v := .long 1) hx hb hG inX1 hown hK hP 1 rfl rfl 2 (by decide) gw201 rfl dX1_holdsAlong_192 ?_
  refine k_lrem (v := 0) hx hb dX1_holdsAlong_195 (by decide +kernel) (by decide +kernel) ?_
  refine lv_lconst (v := 0) hx hb dX1_holdsAlong_196 (by decide) ?_
  refine k_lcmp (v := 0) hx hb dX1_holdsAlong_197 (by decide +kernel) ?_
  refine k_if_ne_f (tgt := 220) hx hb dX1_holdsAlong_198 (by decide) (by decide) ?_
  refine lv_lload hx hb dX1_holdsAlong_201 (lv_at hl 2 rfl) ?_
  refine lv_lload hx hb dX1_holdsAlong_203 (lv_at hl 1 rfl) ?_
  refine lv_aload_n hx hb dX1_holdsAlong_205 rfl (lv_at hl 3 rfl) ?_
  refine k_get (ci := 4) (C := RX1) (T := TX1) (N := 17) (v := .long 1) hx hb hG inX1 hown hK hP 1 rfl rfl 2 (by decide) gw201 rfl dX1_holdsAlong_206 ?_
  refine k_ldiv (v := 0) hx hb dX1_holdsAlong_209 (by decide +kernel) (by decide +kernel) ?_
  refine k_ladd (v := 0) hx hb dX1_holdsAlong_210 (by decide +kernel) ?_
  refine lv_lconst (v := 0) hx hb dX1_holdsAlong_211 (by decide) ?_
  refine k_lcmp (v := 0) hx hb dX1_holdsAlong_212 (by decide +kernel) ?_
  refine k_if_ne_f (tgt := 220) hx hb dX1_holdsAlong_213 (by decide) (by decide) ?_
  refine lv_iconst (v := 1) hx hb dX1_holdsAlong_216 (by decide) ?_
  refine lv_goto (tgt := 221) hx hb dX1_holdsAlong_217 (by decide) ?_
  exact e_i (fun _ => 0) hx hb hr hlocks rfl rfl hP hD hS (Nat.le_of_ble_eq_true rfl) (Nat.le_of_ble_eq_true rfl) dX1_holdsAlong_221
set_option maxHeartbeats 4000000 in
set_option maxRecDepth 100000 in
theorem c457_X1_holdsAlong (l : Launch) (hfl : l.stackTraces = false) (D : va_G) (cA : Nat → ClassId) (g : gv_T) (h0 h1 h2 h3 h4 h5 h6 h7 h8 h9 h10 h11 h12 h13 h14 h15 h16 h17 h18 h19 h20 h21 h22 h23 h24 h25 : Nat) : CT l yX1_holdsAlong cX1_holdsAlong 12 (some .boolean) (RM 0 0 0 0) D cA g [.ref h0, .ref h1, .int 30, .int 1] [(h1, .inr (5, [.int 0, .int 0, .ref h2, .ref h3, .ref h4, .ref h5, .ref h6, .ref h7, .ref h8, .ref h9, .ref h10, .ref h11])), (h0, .inr (4, [.int 1, .int 46, .long 1, .ref h12, .ref h13, .ref h14, .ref h15, .ref h16, .ref h17, .ref h18, .ref h19, .ref h20, .ref h21, .ref h22, .ref h23, .ref h24, .ref h25]))] (fun q => some (.int 1)) (fun q => [(h1, .inr (5, [.int 0, .int 0, .ref h2, .ref h3, .ref h4, .ref h5, .ref h6, .ref h7, .ref h8, .ref h9, .ref h10, .ref h11])), (h0, .inr (4, [.int 1, .int 46, .long 1, .ref h12, .ref h13, .ref h14, .ref h15, .ref h16, .ref h17, .ref h18, .ref h19, .ref h20, .ref h21, .ref h22, .ref h23, .ref h24, .ref h25]))]) := by
  refine CT.of (by decide +kernel) (Nat.le_of_ble_eq_true rfl) ?_
  intro p e s m args below meth c A ls hx hb hr hml hown hG hlocks hnm hA hS hP hK hD hGV hl
  have hown : s.vm.findClass RX1 = some m.cls := hown
  have hl : lv_has ls 12 [(0, .ref h0), (1, .ref h1), (2, .int 30), (3, .int 1)] := hl
  have hSF : CF p m c cX1_holdsAlong 12 s args RX1 := ⟨hx, hb, hml, hown, hG⟩
  refine lv_lconst (v := 0) hx hb dX1_holdsAlong_0 (by decide) ?_
  refine lv_lstore (lv' := [(4, .long 0), (0, .ref h0), (1, .ref h1), (2, .int 30), (3, .int 1)]) hx hb dX1_holdsAlong_1 hl (by decide) rfl (fun ls hl => ?_)
  refine lv_lconst (v := 0) hx hb dX1_holdsAlong_3 (by decide) ?_
  refine lv_lstore (lv' := [(6, .long 0), (4, .long 0), (0, .ref h0), (1, .ref h1), (2, .int 30), (3, .int 1)]) hx hb dX1_holdsAlong_4 hl (by decide) rfl (fun ls hl => ?_)
  refine lv_iconst (v := 0) hx hb dX1_holdsAlong_6 (by decide) ?_
  refine lv_istore (lv' := [(8, .int 0), (6, .long 0), (4, .long 0), (0, .ref h0), (1, .ref h1), (2, .int 30), (3, .int 1)]) hx hb dX1_holdsAlong_7 hl (by decide) rfl (fun ls hl => ?_)
  refine lv_iload hx hb dX1_holdsAlong_9 (lv_at hl 0 rfl) ?_
  refine lv_aload_n hx hb dX1_holdsAlong_11 rfl (lv_at hl 4 rfl) ?_
  refine k_get (ci := 5) (C := RX2) (T := TX2) (N := 12) (v := .int 0) hx hb hG inX2 hown hK hP 0 rfl rfl 0 (by decide) gw128 rfl dX1_holdsAlong_12 ?_
  refine k_icmp_ge_t (tgt := 180) hx hb dX1_holdsAlong_15 (by decide) (by decide) ?_
  refine lv_aload_n hx hb dX1_holdsAlong_180 rfl (lv_at hl 3 rfl) ?_
  refine k_get (ci := 4) (C := RX1) (T := TX1) (N := 17) (v := .long 1) hx hb hG inX1 hown hK hP 1 rfl rfl 2 (by decide) gw201 rfl dX1_holdsAlong_181 ?_
  refine lv_lconst (v := 0) hx hb dX1_holdsAlong_184 (by decide) ?_
  refine k_lcmp (v := 1) hx hb dX1_holdsAlong_185 (by decide +kernel) ?_
  refine k_if_le_f (tgt := 220) hx hb dX1_holdsAlong_186 (by decide) (by decide) ?_
  refine lv_lload hx hb dX1_holdsAlong_189 (lv_at hl 1 rfl) ?_
  refine lv_aload_n hx hb dX1_holdsAlong_191 rfl (lv_at hl 3 rfl) ?_
  refine k_get (ci := 4) (C := RX1) (T := TX1) (N := 17) (v := .long 1) hx hb hG inX1 hown hK hP 1 rfl rfl 2 (by decide) gw201 rfl dX1_holdsAlong_192 ?_
  refine k_lrem (v := 0) hx hb dX1_holdsAlong_195 (by decide +kernel) (by decide +kernel) ?_
  refine lv_lconst (v := 0) hx hb dX1_holdsAlong_196 (by decide) ?_
  refine k_lcmp (v := 0) hx hb dX1_holdsAlong_197 (by decide +kernel) ?_
  refine k_if_ne_f (tgt := 220) hx hb dX1_holdsAlong_198 (by decide) (by decide) ?_
  refine lv_lload hx hb dX1_holdsAlong_201 (lv_at hl 2 rfl) ?_
  refine lv_lload hx hb dX1_holdsAlong_203 (lv_at hl 1 rfl) ?_
  refine lv_aload_n hx hb dX1_holdsAlong_205 rfl (lv_at hl 3 rfl) ?_
  refine k_get (ci := 4) (C := RX1) (T := TX1) (N := 17) (v := .long 1) hx hb hG inX1 hown hK hP 1 rfl rfl 2 (by decide) gw201 rfl dX1_holdsAlong_206 ?_
  refine k_ldiv (v := 0) hx hb dX1_holdsAlong_209 (by decide +kernel) (by decide +kernel) ?_
  refine k_ladd (v := 0) hx hb dX1_holdsAlong_210 (by decide +kernel) ?_
  refine lv_lconst (v := 0) hx hb dX1_holdsAlong_211 (by decide) ?_
  refine k_lcmp (v := 0) hx hb dX1_holdsAlong_212 (by decide +kernel) ?_
  refine k_if_ne_f (tgt := 220) hx hb dX1_holdsAlong_213 (by decide) (by decide) ?_
  refine lv_iconst (v := 1) hx hb dX1_holdsAlong_216 (by decide) ?_
  refine lv_goto (tgt := 221) hx hb dX1_holdsAlong_217 (by decide) ?_
  exact e_i (fun _ => 0) hx hb hr hlocks rfl rfl hP hD hS (Nat.le_of_ble_eq_true rfl) (Nat.le_of_ble_eq_true rfl) dX1_holdsAlong_221
set_option maxHeartbeats 4000000 in
set_option maxRecDepth 100000 in
theorem c458_X1_holdsAt (l : Launch) (hfl : l.stackTraces = false) (D : va_G) (cA : Nat → ClassId) (g : gv_T) (h0 h1 h2 h3 h4 h5 h6 h7 h8 h9 h10 h11 h12 h13 h14 h15 h16 h17 h18 h19 h20 h21 h22 h23 h24 h25 : Nat) : CT l yX1_holdsAt cX1_holdsAt 3 (some .boolean) (RM 1 0 0 31) D cA g [.ref h0, .ref h1, .int 30] [(h0, .inr (4, [.int 1, .int 46, .long 1, .ref h2, .ref h3, .ref h4, .ref h5, .ref h6, .ref h7, .ref h8, .ref h9, .ref h10, .ref h11, .ref h12, .ref h13, .ref h14, .ref h15])), (h1, .inr (5, [.int 0, .int 0, .ref h16, .ref h17, .ref h18, .ref h19, .ref h20, .ref h21, .ref h22, .ref h23, .ref h24, .ref h25]))] (fun q => some (.int 1)) (fun q => [(h0, .inr (4, [.int 1, .int 46, .long 1, .ref h2, .ref h3, .ref h4, .ref h5, .ref h6, .ref h7, .ref h8, .ref h9, .ref h10, .ref h11, .ref h12, .ref h13, .ref h14, .ref h15])), (h1, .inr (5, [.int 0, .int 0, .ref h16, .ref h17, .ref h18, .ref h19, .ref h20, .ref h21, .ref h22, .ref h23, .ref h24, .ref h25]))]) := by
  refine CT.of (by decide +kernel) (Nat.le_of_ble_eq_true rfl) ?_
  intro p e s m args below meth c A ls hx hb hr hml hown hG hlocks hnm hA hS hP hK hD hGV hl
  have hown : s.vm.findClass RX1 = some m.cls := hown
  have hl : lv_has ls 3 [(0, .ref h0), (1, .ref h1), (2, .int 30)] := hl
  have hSF : CF p m c cX1_holdsAt 3 s args RX1 := ⟨hx, hb, hml, hown, hG⟩
  refine lv_aload_n hx hb dX1_holdsAt_0 rfl (lv_at hl 0 rfl) ?_
  refine lv_aload_n hx hb dX1_holdsAt_1 rfl (lv_at hl 1 rfl) ?_
  refine lv_iload_n hx hb dX1_holdsAt_2 rfl (lv_at hl 2 rfl) ?_
  refine lv_iconst (v := 0) hx hb dX1_holdsAt_3 (by decide) ?_
  refine ct_V (wr := []) hSF hl.1 hP hD hS hA hK hGV (c456_X1_holdsAlong l hfl D cA g h0 h1 h16 h17 h18 h19 h20 h21 h22 h23 h24 h25 h2 h3 h4 h5 h6 h7 h8 h9 h10 h11 h12 h13 h14 h15) goV_X1_185 pd_X1_holdsAlong ⟨(Nat.le_of_ble_eq_true rfl), (Nat.le_of_ble_eq_true rfl)⟩ ⟨(Nat.le_of_ble_eq_true rfl), (Nat.le_of_ble_eq_true rfl)⟩ (va_recv hK hP (ci := 4) (q0 := 0) rfl rfl) dX1_holdsAt_4 rfl (Nat.le_of_ble_eq_true rfl) [1, 0] [] rfl (by decide) rfl (by decide) (by decide) (fun q => [(h1, .inr (5, [.int 0, .int 0, .ref h16, .ref h17, .ref h18, .ref h19, .ref h20, .ref h21, .ref h22, .ref h23, .ref h24, .ref h25])), (h0, .inr (4, [.int 1, .int 46, .long 1, .ref h2, .ref h3, .ref h4, .ref h5, .ref h6, .ref h7, .ref h8, .ref h9, .ref h10, .ref h11, .ref h12, .ref h13, .ref h14, .ref h15]))]) (fun _ => rfl) (fun q1 H locs hP hD hS => ?_)
  refine W.eq (g2 := F0 m 7 ls [.int 1]) rfl ?_
  refine k_if_eq_f (tgt := 24) hx hb dX1_holdsAt_7 (by decide) (by decide) ?_
  refine lv_aload_n hx hb dX1_holdsAt_10 rfl (lv_at hl 0 rfl) ?_
  refine lv_aload_n hx hb dX1_holdsAt_11 rfl (lv_at hl 1 rfl) ?_
  refine lv_iload_n hx hb dX1_holdsAt_12 rfl (lv_at hl 2 rfl) ?_
  refine lv_iconst (v := 1) hx hb dX1_holdsAt_13 (by decide) ?_
  refine ct_V (wr := []) hSF hl.1 hP hD hS hA hK hGV (c457_X1_holdsAlong l hfl D cA g h0 h1 h16 h17 h18 h19 h20 h21 h22 h23 h24 h25 h2 h3 h4 h5 h6 h7 h8 h9 h10 h11 h12 h13 h14 h15) goV_X1_185 pd_X1_holdsAlong ⟨(Nat.le_of_ble_eq_true rfl), (Nat.le_of_ble_eq_true rfl)⟩ ⟨(Nat.le_of_ble_eq_true rfl), (Nat.le_of_ble_eq_true rfl)⟩ (va_recv hK hP (ci := 4) (q0 := 1) rfl rfl) dX1_holdsAt_14 rfl (Nat.le_of_ble_eq_true rfl) [0, 1] [] rfl (by decide) rfl (by decide) (by decide) (fun q => [(h1, .inr (5, [.int 0, .int 0, .ref h16, .ref h17, .ref h18, .ref h19, .ref h20, .ref h21, .ref h22, .ref h23, .ref h24, .ref h25])), (h0, .inr (4, [.int 1, .int 46, .long 1, .ref h2, .ref h3, .ref h4, .ref h5, .ref h6, .ref h7, .ref h8, .ref h9, .ref h10, .ref h11, .ref h12, .ref h13, .ref h14, .ref h15]))]) (fun _ => rfl) (fun q2 H locs hP hD hS => ?_)
  refine W.eq (g2 := F0 m 17 ls [.int 1]) rfl ?_
  refine k_if_eq_f (tgt := 24) hx hb dX1_holdsAt_17 (by decide) (by decide) ?_
  refine lv_iconst (v := 1) hx hb dX1_holdsAt_20 (by decide) ?_
  refine lv_goto (tgt := 25) hx hb dX1_holdsAt_21 (by decide) ?_
  exact e_i (fun _ => 0) hx hb hr hlocks rfl rfl (hP.sub [1, 0] rfl) (hD.sub [1, 0] (by decide) rfl) hS (Nat.le_of_ble_eq_true rfl) (Nat.le_of_ble_eq_true rfl) dX1_holdsAt_25
set_option maxHeartbeats 4000000 in
set_option maxRecDepth 100000 in
theorem c459_X4_find (l : Launch) (hfl : l.stackTraces = false) (D : va_G) (cA : Nat → ClassId) (g : gv_T) (h0 h1 h2 h3 h4 h5 h6 h7 : Nat) : CT l yX4_find cX4_find 3 none (RM 0 0 0 0) D cA g [.ref h0, .ref h1, .ref h2] [(h0, .inr (7, [.int 2, .int 1, .int 0, .int 0, .ref h3, .ref h4, .ref h5, .ref h6, .ref h7]))] (fun q => none) (fun q => [(h0, .inr (7, [.int 2, .int 1, .int 0, .int 0, .ref h3, .ref h4, .ref h5, .ref h6, .ref h7]))]) := by
  refine CT.of (by decide +kernel) (Nat.le_of_ble_eq_true rfl) ?_
  intro p e s m args below meth c A ls hx hb hr hml hown hG hlocks hnm hA hS hP hK hD hGV hl
  have hown : s.vm.findClass RX4 = some m.cls := hown
  have hl : lv_has ls 3 [(0, .ref h0), (1, .ref h1), (2, .ref h2)] := hl
  have hSF : CF p m c cX4_find 3 s args RX4 := ⟨hx, hb, hml, hown, hG⟩
  refine lv_aload_n hx hb dX4_find_0 rfl (lv_at hl 0 rfl) ?_
  refine k_get (ci := 7) (C := RX4) (T := TX4) (N := 9) (v := .int 1) hx hb hG inX4 hown hK hP 0 rfl rfl 1 (by decide) gw332 rfl dX4_find_1 ?_
  refine k_if_eq_f (tgt := 8) hx hb dX4_find_4 (by decide) (by decide) ?_
  exact e_v (fun _ => 0) hx hb hr hlocks rfl hP hD hS (Nat.le_of_ble_eq_true rfl) (Nat.le_of_ble_eq_true rfl) dX4_find_7
set_option maxHeartbeats 4000000 in
set_option maxRecDepth 100000 in
theorem c460_X6_canTakeAway (l : Launch) (hfl : l.stackTraces = false) (D : va_G) (cA : Nat → ClassId) (g : gv_T) (h0 h1 h2 h3 h4 h5 h6 h7 h8 h9 h10 : Nat) : CT l yX6_canTakeAway cX6_canTakeAway 1 (some .boolean) (RM 1 0 0 22) D cA g [.ref h0] [(h0, .inr (9, [.ref h1, .ref h2, .ref h3, .ref h4, .ref h5])), (h5, .inr (7, [.int 2, .int 1, .int 0, .int 0, .ref h6, .ref h7, .ref h8, .ref h9, .ref h10])), (h9, .inl (cA 3, 512, .inl (upd (fun _ => 0) 0 1)))] (fun q => some (.int 1)) (fun q => [(h0, .inr (9, [.ref h1, .ref h2, .ref h3, .ref h4, .ref h5])), (h5, .inr (7, [.int 2, .int 1, .int 0, .int 0, .ref h6, .ref h7, .ref h8, .ref h9, .ref h10])), (h9, .inl (cA 3, 512, .inl (upd (fun _ => 0) 0 1)))]) := by
  refine CT.of (by decide +kernel) (Nat.le_of_ble_eq_true rfl) ?_
  intro p e s m args below meth c A ls hx hb hr hml hown hG hlocks hnm hA hS hP hK hD hGV hl
  have hown : s.vm.findClass RX6 = some m.cls := hown
  have hl : lv_has ls 1 [(0, .ref h0)] := hl
  have hSF : CF p m c cX6_canTakeAway 1 s args RX6 := ⟨hx, hb, hml, hown, hG⟩
  refine lv_aload_n hx hb dX6_canTakeAway_0 rfl (lv_at hl 0 rfl) ?_
  refine k_get (ci := 9) (C := RX6) (T := TX6) (N := 5) (v := .ref h5) hx hb hG inX6 hown hK hP 0 rfl rfl 4 (by decide) gw367 rfl dX6_canTakeAway_1 ?_
  refine lv_aload_n hx hb dX6_canTakeAway_4 rfl (lv_at hl 0 rfl) ?_
  refine k_get (ci := 9) (C := RX6) (T := TX6) (N := 5) (v := .ref h1) hx hb hG inX6 hown hK hP 0 rfl rfl 0 (by decide) gw363 rfl dX6_canTakeAway_5 ?_
  refine lv_aload_n hx hb dX6_canTakeAway_8 rfl (lv_at hl 0 rfl) ?_
  refine k_get (ci := 9) (C := RX6) (T := TX6) (N := 5) (v := .ref h3) hx hb hG inX6 hown hK hP 0 rfl rfl 2 (by decide) gw365 rfl dX6_canTakeAway_9 ?_
  refine ct_V (wr := [(h0, .inr (9, [.ref h1, .ref h2, .ref h3, .ref h4, .ref h5])), (h9, .inl (cA 3, 512, .inl (upd (fun _ => 0) 0 1)))]) hSF hl.1 hP hD hS hA hK hGV (c459_X4_find l hfl D cA g h5 h1 h3 h6 h7 h8 h9 h10) goV_X6_247 pd_X4_find ⟨(Nat.le_of_ble_eq_true rfl), (Nat.le_of_ble_eq_true rfl)⟩ ⟨(Nat.le_of_ble_eq_true rfl), (Nat.le_of_ble_eq_true rfl)⟩ (va_recv hK hP (ci := 7) (q0 := 1) rfl rfl) dX6_canTakeAway_12 rfl (Nat.le_of_ble_eq_true rfl) [1] [0, 2] rfl (by decide) rfl (by decide) (by decide) (fun q => [(h0, .inr (9, [.ref h1, .ref h2, .ref h3, .ref h4, .ref h5])), (h9, .inl (cA 3, 512, .inl (upd (fun _ => 0) 0 1))), (h5, .inr (7, [.int 2, .int 1, .int 0, .int 0, .ref h6, .ref h7, .ref h8, .ref h9, .ref h10]))]) (fun _ => rfl) (fun q1 H locs hP hD hS => ?_)
  refine W.eq (g2 := F0 m 15 ls []) rfl ?_
  refine lv_aload_n hx hb dX6_canTakeAway_15 rfl (lv_at hl 0 rfl) ?_
  refine k_get (ci := 9) (C := RX6) (T := TX6) (N := 5) (v := .ref h5) hx hb hG inX6 hown hK hP 0 rfl rfl 4 (by decide) gw367 rfl dX6_canTakeAway_16 ?_
  refine k_get (ci := 7) (C := RX4) (T := TX4) (N := 9) (v := .ref h9) hx hb hG inX4 hown hK hP 2 rfl rfl 7 (by decide) gw340 rfl dX6_canTakeAway_19 ?_
  refine lv_iconst (v := 0) hx hb dX6_canTakeAway_22 (by decide) ?_
  refine k_zald (v := 1) hx hb hK hP 1 rfl 0 (by decide) rfl (by unfold vp_in; decide) dX6_canTakeAway_23 ?_
  exact e_i (fun _ => 0) hx hb hr hlocks rfl rfl (hP.sub [0, 2, 1] rfl) (hD.sub [0, 2, 1] (by decide) rfl) hS (Nat.le_of_ble_eq_true rfl) (Nat.le_of_ble_eq_true rfl) dX6_canTakeAway_24
set_option maxHeartbeats 4000000 in
set_option maxRecDepth 100000 in
theorem c461_X6_isSound (l : Launch) (hfl : l.stackTraces = false) (D : va_G) (cA : Nat → ClassId) (g : gv_T) (h0 h1 h2 h3 h4 h5 h6 h7 h8 h9 h10 h11 h12 h13 h14 h15 h16 h17 h18 h19 h20 h21 h22 h23 h24 h25 h26 h27 h28 h29 h30 h31 h32 h33 h34 h35 : Nat) : CT l yX6_isSound cX6_isSound 2 (some .boolean) (RM 4 0 0 90) D cA g [.ref h0] [(h0, .inr (9, [.ref h1, .ref h2, .ref h3, .ref h4, .ref h5])), (h2, .inr (4, [.int 0, .int 0, .long 0, .ref h6, .ref h7, .ref h8, .ref h9, .ref h10, .ref h11, .ref h12, .ref h13, .ref h14, .ref h15, .ref h16, .ref h17, .ref h18, .ref h19])), (h1, .inr (5, [.int 0, .int 0, .ref h20, .ref h21, .ref h22, .ref h23, .ref h24, .ref h25, .ref h26, .ref h27, .ref h28, .ref h29])), (h12, .inl (cA 1, 512, .inr (.inl (fun _ => 0)))), (h16, .inr (8, [.ref h30])), (h30, .inl (cA 1, 8, .inr (.inl (fun _ => 0)))), (h5, .inr (7, [.int 2, .int 0, .int 0, .int 0, .ref h31, .ref h32, .ref h33, .ref h34, .ref h35])), (h33, .inl (cA 0, 512, .inl (fun _ => 0))), (h34, .inl (cA 3, 512, .inl (fun _ => 0)))] (fun q => some (.int 1)) (fun q => [(h0, .inr (9, [.ref h1, .ref h2, .ref h3, .ref h4, .ref h5])), (h2, .inr (4, [.int 1, .int 46, .long 1, .ref h6, .ref h7, .ref h8, .ref h9, .ref h10, .ref h11, .ref h12, .ref h13, .ref h14, .ref h15, .ref h16, .ref h17, .ref h18, .ref h19])), (h1, .inr (5, [.int 0, .int 0, .ref h20, .ref h21, .ref h22, .ref h23, .ref h24, .ref h25, .ref h26, .ref h27, .ref h28, .ref h29])), (h12, .inl (cA 1, 512, .inr (.inl (vp_updL (fun _ => 0) 0 1)))), (h16, .inr (8, [.ref h30])), (h30, .inl (cA 1, 8, .inr (.inl (vp_updL (vp_updL (vp_updL (vp_updL (vp_updL (vp_updL (vp_updL (vp_updL (fun _ => 0) 2 0) 3 0) 4 0) 5 0) 6 0) 7 0) 0 1) 1 0)))), (h5, .inr (7, [.int 2, .int 1, .int 0, .int 0, .ref h31, .ref h32, .ref h33, .ref h34, .ref h35])), (h33, .inl (cA 0, 512, .inl (upd (fun _ => 0) 0 1))), (h34, .inl (cA 3, 512, .inl (upd (fun _ => 0) 0 1)))]) := by
  refine CT.of (by decide +kernel) (Nat.le_of_ble_eq_true rfl) ?_
  intro p e s m args below meth c A ls hx hb hr hml hown hG hlocks hnm hA hS hP hK hD hGV hl
  have hown : s.vm.findClass RX6 = some m.cls := hown
  have hl : lv_has ls 2 [(0, .ref h0)] := hl
  have hSF : CF p m c cX6_isSound 2 s args RX6 := ⟨hx, hb, hml, hown, hG⟩
  refine lv_aload_n hx hb dX6_isSound_0 rfl (lv_at hl 0 rfl) ?_
  refine k_get (ci := 9) (C := RX6) (T := TX6) (N := 5) (v := .ref h2) hx hb hG inX6 hown hK hP 0 rfl rfl 1 (by decide) gw364 rfl dX6_isSound_1 ?_
  refine lv_aload_n hx hb dX6_isSound_4 rfl (lv_at hl 0 rfl) ?_
  refine k_get (ci := 9) (C := RX6) (T := TX6) (N := 5) (v := .ref h1) hx hb hG inX6 hown hK hP 0 rfl rfl 0 (by decide) gw363 rfl dX6_isSound_5 ?_
  refine ct_V (wr := [(h0, .inr (9, [.ref h1, .ref h2, .ref h3, .ref h4, .ref h5])), (h5, .inr (7, [.int 2, .int 0, .int 0, .int 0, .ref h31, .ref h32, .ref h33, .ref h34, .ref h35])), (h33, .inl (cA 0, 512, .inl (fun _ => 0))), (h34, .inl (cA 3, 512, .inl (fun _ => 0)))]) hSF hl.1 hP hD hS hA hK hGV (c116_X1_find l hfl D cA g h2 h1 h6 h7 h8 h9 h10 h11 h12 h13 h14 h15 h16 h17 h18 h19 h20 h21 h22 h23 h24 h25 h26 h27 h28 h29 h30) goV_X6_110 pd_X1_find ⟨(Nat.le_of_ble_eq_true rfl), (Nat.le_of_ble_eq_true rfl)⟩ ⟨(Nat.le_of_ble_eq_true rfl), (Nat.le_of_ble_eq_true rfl)⟩ (va_recv hK hP (ci := 4) (q0 := 1) rfl rfl) dX6_isSound_8 rfl (Nat.le_of_ble_eq_true rfl) [1, 2, 3, 4, 5] [0, 6, 7, 8] rfl (by decide) rfl (by decide) (by decide) (fun q => [(h0, .inr (9, [.ref h1, .ref h2, .ref h3, .ref h4, .ref h5])), (h5, .inr (7, [.int 2, .int 0, .int 0, .int 0, .ref h31, .ref h32, .ref h33, .ref h34, .ref h35])), (h33, .inl (cA 0, 512, .inl (fun _ => 0))), (h34, .inl (cA 3, 512, .inl (fun _ => 0))), (h2, .inr (4, [.int 1, .int 46, .long 1, .ref h6, .ref h7, .ref h8, .ref h9, .ref h10, .ref h11, .ref h12, .ref h13, .ref h14, .ref h15, .ref h16, .ref h17, .ref h18, .ref h19])), (h1, .inr (5, [.int 0, .int 0, .ref h20, .ref h21, .ref h22, .ref h23, .ref h24, .ref h25, .ref h26, .ref h27, .ref h28, .ref h29])), (h12, .inl (cA 1, 512, .inr (.inl (vp_updL (fun _ => 0) 0 1)))), (h16, .inr (8, [.ref h30])), (h30, .inl (cA 1, 8, .inr (.inl (vp_updL (vp_updL (vp_updL (vp_updL (vp_updL (vp_updL (vp_updL (vp_updL (fun _ => 0) 2 0) 3 0) 4 0) 5 0) 6 0) 7 0) 0 1) 1 0))))]) (fun _ => rfl) (fun q1 H locs hP hD hS => ?_)
  refine W.eq (g2 := F0 m 11 ls []) rfl ?_
  refine lv_aload_n hx hb dX6_isSound_11 rfl (lv_at hl 0 rfl) ?_
  refine k_get (ci := 9) (C := RX6) (T := TX6) (N := 5) (v := .ref h2) hx hb hG inX6 hown hK hP 0 rfl rfl 1 (by decide) gw364 rfl dX6_isSound_12 ?_
  refine k_get (ci := 4) (C := RX1) (T := TX1) (N := 17) (v := .int 46) hx hb hG inX1 hown hK hP 4 rfl rfl 1 (by decide) gw200 rfl dX6_isSound_15 ?_
  refine lv_bipush (v := 46) hx hb dX6_isSound_18 (by decide) ?_
  refine k_icmp_ne_f (tgt := 54) hx hb dX6_isSound_20 (by decide) (by decide) ?_
  refine lv_iconst (v := 0) hx hb dX6_isSound_23 (by decide) ?_
  refine lv_istore_n (lv' := [(1, .int 0), (0, .ref h0)]) hx hb dX6_isSound_24 rfl hl (by decide) rfl (fun ls hl => ?_)
  refine lv_iload_n hx hb dX6_isSound_25 rfl (lv_at hl 0 rfl) ?_
  refine lv_bipush (v := 30) hx hb dX6_isSound_26 (by decide) ?_
  refine k_icmp_gt_f (tgt := 54) hx hb dX6_isSound_28 (by decide) (by decide) ?_
  refine lv_aload_n hx hb dX6_isSound_31 rfl (lv_at hl 1 rfl) ?_
  refine k_get (ci := 9) (C := RX6) (T := TX6) (N := 5) (v := .ref h2) hx hb hG inX6 hown hK hP 0 rfl rfl 1 (by decide) gw364 rfl dX6_isSound_32 ?_
  refine lv_aload_n hx hb dX6_isSound_35 rfl (lv_at hl 1 rfl) ?_
  refine k_get (ci := 9) (C := RX6) (T := TX6) (N := 5) (v := .ref h1) hx hb hG inX6 hown hK hP 0 rfl rfl 0 (by decide) gw363 rfl dX6_isSound_36 ?_
  refine lv_iload_n hx hb dX6_isSound_39 rfl (lv_at hl 0 rfl) ?_
  refine ct_V (wr := [(h0, .inr (9, [.ref h1, .ref h2, .ref h3, .ref h4, .ref h5])), (h5, .inr (7, [.int 2, .int 0, .int 0, .int 0, .ref h31, .ref h32, .ref h33, .ref h34, .ref h35])), (h33, .inl (cA 0, 512, .inl (fun _ => 0))), (h34, .inl (cA 3, 512, .inl (fun _ => 0))), (h12, .inl (cA 1, 512, .inr (.inl (vp_updL (fun _ => 0) 0 1)))), (h16, .inr (8, [.ref h30])), (h30, .inl (cA 1, 8, .inr (.inl (vp_updL (vp_updL (vp_updL (vp_updL (vp_updL (vp_updL (vp_updL (vp_updL (fun _ => 0) 2 0) 3 0) 4 0) 5 0) 6 0) 7 0) 0 1) 1 0))))]) hSF hl.1 hP hD hS hA hK hGV (c368_X1_holdsAt l hfl D cA g h2 h1 h6 h7 h8 h9 h10 h11 h12 h13 h14 h15 h16 h17 h18 h19 h20 h21 h22 h23 h24 h25 h26 h27 h28 h29) goV_X6_138 pd_X1_holdsAt ⟨(Nat.le_of_ble_eq_true rfl), (Nat.le_of_ble_eq_true rfl)⟩ ⟨(Nat.le_of_ble_eq_true rfl), (Nat.le_of_ble_eq_true rfl)⟩ (va_recv hK hP (ci := 4) (q0 := 4) rfl rfl) dX6_isSound_40 rfl (Nat.le_of_ble_eq_true rfl) [4, 5] [0, 1, 2, 3, 6, 7, 8] rfl (by decide) rfl (by decide) (by decide) (fun q => [(h0, .inr (9, [.ref h1, .ref h2, .ref h3, .ref h4, .ref h5])), (h5, .inr (7, [.int 2, .int 0, .int 0, .int 0, .ref h31, .ref h32, .ref h33, .ref h34, .ref h35])), (h33, .inl (cA 0, 512, .inl (fun _ => 0))), (h34, .inl (cA 3, 512, .inl (fun _ => 0))), (h12, .inl (cA 1, 512, .inr (.inl (vp_updL (fun _ => 0) 0 1)))), (h16, .inr (8, [.ref h30])), (h30, .inl (cA 1, 8, .inr (.inl (vp_updL (vp_updL (vp_updL (vp_updL (vp_updL (vp_updL (vp_updL (vp_updL (fun _ => 0) 2 0) 3 0) 4 0) 5 0) 6 0) 7 0) 0 1) 1 0)))), (h2, .inr (4, [.int 1, .int 46, .long 1, .ref h6, .ref h7, .ref h8, .ref h9, .ref h10, .ref h11, .ref h12, .ref h13, .ref h14, .ref h15, .ref h16, .ref h17, .ref h18, .ref h19])), (h1, .inr (5, [.int 0, .int 0, .ref h20, .ref h21, .ref h22, .ref h23, .ref h24, .ref h25, .ref h26, .ref h27, .ref h28, .ref h29]))]) (fun _ => rfl) (fun q2 H locs hP hD hS => ?_)
  refine W.eq (g2 := F0 m 43 ls [.int 1]) rfl ?_
  refine k_if_ne_t (tgt := 48) hx hb dX6_isSound_43 (by decide) (by decide) ?_
  refine lv_iinc (v := 1) (lv' := [(1, .int 1), (0, .ref h0)]) hx hb dX6_isSound_48 hl (k := 0) rfl (by decide) (by decide) rfl (fun ls hl => ?_)
  refine lv_goto (tgt := 25) hx hb dX6_isSound_51 (by decide) ?_
  refine lv_iload_n hx hb dX6_isSound_25 rfl (lv_at hl 0 rfl) ?_
  refine lv_bipush (v := 30) hx hb dX6_isSound_26 (by decide) ?_
  refine k_icmp_gt_f (tgt := 54) hx hb dX6_isSound_28 (by decide) (by decide) ?_
  refine lv_aload_n hx hb dX6_isSound_31 rfl (lv_at hl 1 rfl) ?_
  refine k_get (ci := 9) (C := RX6) (T := TX6) (N := 5) (v := .ref h2) hx hb hG inX6 hown hK hP 0 rfl rfl 1 (by decide) gw364 rfl dX6_isSound_32 ?_
  refine lv_aload_n hx hb dX6_isSound_35 rfl (lv_at hl 1 rfl) ?_
  refine k_get (ci := 9) (C := RX6) (T := TX6) (N := 5) (v := .ref h1) hx hb hG inX6 hown hK hP 0 rfl rfl 0 (by decide) gw363 rfl dX6_isSound_36 ?_
  refine lv_iload_n hx hb dX6_isSound_39 rfl (lv_at hl 0 rfl) ?_
  refine ct_V (wr := [(h0, .inr (9, [.ref h1, .ref h2, .ref h3, .ref h4, .ref h5])), (h5, .inr (7, [.int 2, .int 0, .int 0, .int 0, .ref h31, .ref h32, .ref h33, .ref h34, .ref h35])), (h33, .inl (cA 0, 512, .inl (fun _ => 0))), (h34, .inl (cA 3, 512, .inl (fun _ => 0))), (h12, .inl (cA 1, 512, .inr (.inl (vp_updL (fun _ => 0) 0 1)))), (h16, .inr (8, [.ref h30])), (h30, .inl (cA 1, 8, .inr (.inl (vp_updL (vp_updL (vp_updL (vp_updL (vp_updL (vp_updL (vp_updL (vp_updL (fun _ => 0) 2 0) 3 0) 4 0) 5 0) 6 0) 7 0) 0 1) 1 0))))]) hSF hl.1 hP hD hS hA hK hGV (c371_X1_holdsAt l hfl D cA g h2 h1 h6 h7 h8 h9 h10 h11 h12 h13 h14 h15 h16 h17 h18 h19 h20 h21 h22 h23 h24 h25 h26 h27 h28 h29) goV_X6_138 pd_X1_holdsAt ⟨(Nat.le_of_ble_eq_true rfl), (Nat.le_of_ble_eq_true rfl)⟩ ⟨(Nat.le_of_ble_eq_true rfl), (Nat.le_of_ble_eq_true rfl)⟩ (va_recv hK hP (ci := 4) (q0 := 7) rfl rfl) dX6_isSound_40 rfl (Nat.le_of_ble_eq_true rfl) [7, 8] [0, 1, 2, 3, 4, 5, 6] rfl (by decide) rfl (by decide) (by decide) (fun q => [(h0, .inr (9, [.ref h1, .ref h2, .ref h3, .ref h4, .ref h5])), (h5, .inr (7, [.int 2, .int 0, .int 0, .int 0, .ref h31, .ref h32, .ref h33, .ref h34, .ref h35])), (h33, .inl (cA 0, 512, .inl (fun _ => 0))), (h34, .inl (cA 3, 512, .inl (fun _ => 0))), (h12, .inl (cA 1, 512, .inr (.inl (vp_updL (fun _ => 0) 0 1)))), (h16, .inr (8, [.ref h30])), (h30, .inl (cA 1, 8, .inr (.inl (vp_updL (vp_updL (vp_updL (vp_updL (vp_updL (vp_updL (vp_updL (vp_updL (fun _ => 0) 2 0) 3 0) 4 0) 5 0) 6 0) 7 0) 0 1) 1 0)))), (h2, .inr (4, [.int 1, .int 46, .long 1, .ref h6, .ref h7, .ref h8, .ref h9, .ref h10, .ref h11, .ref h12, .ref h13, .ref h14, .ref h15, .ref h16, .ref h17, .ref h18, .ref h19])), (h1, .inr (5, [.int 0, .int 0, .ref h20, .ref h21, .ref h22, .ref h23, .ref h24, .ref h25, .ref h26, .ref h27, .ref h28, .ref h29]))]) (fun _ => rfl) (fun q3 H locs hP hD hS => ?_)
  refine W.eq (g2 := F0 m 43 ls [.int 1]) rfl ?_
  refine k_if_ne_t (tgt := 48) hx hb dX6_isSound_43 (by decide) (by decide) ?_
  refine lv_iinc (v := 2) (lv' := [(1, .int 2), (0, .ref h0)]) hx hb dX6_isSound_48 hl (k := 0) rfl (by decide) (by decide) rfl (fun ls hl => ?_)
  refine lv_goto (tgt := 25) hx hb dX6_isSound_51 (by decide) ?_
  refine lv_iload_n hx hb dX6_isSound_25 rfl (lv_at hl 0 rfl) ?_
  refine lv_bipush (v := 30) hx hb dX6_isSound_26 (by decide) ?_
  refine k_icmp_gt_f (tgt := 54) hx hb dX6_isSound_28 (by decide) (by decide) ?_
  refine lv_aload_n hx hb dX6_isSound_31 rfl (lv_at hl 1 rfl) ?_
  refine k_get (ci := 9) (C := RX6) (T := TX6) (N := 5) (v := .ref h2) hx hb hG inX6 hown hK hP 0 rfl rfl 1 (by decide) gw364 rfl dX6_isSound_32 ?_
  refine lv_aload_n hx hb dX6_isSound_35 rfl (lv_at hl 1 rfl) ?_
  refine k_get (ci := 9) (C := RX6) (T := TX6) (N := 5) (v := .ref h1) hx hb hG inX6 hown hK hP 0 rfl rfl 0 (by decide) gw363 rfl dX6_isSound_36 ?_
  refine lv_iload_n hx hb dX6_isSound_39 rfl (lv_at hl 0 rfl) ?_
  refine ct_V (wr := [(h0, .inr (9, [.ref h1, .ref h2, .ref h3, .ref h4, .ref h5])), (h5, .inr (7, [.int 2, .int 0, .int 0, .int 0, .ref h31, .ref h32, .ref h33, .ref h34, .ref h35])), (h33, .inl (cA 0, 512, .inl (fun _ => 0))), (h34, .inl (cA 3, 512, .inl (fun _ => 0))), (h12, .inl (cA 1, 512, .inr (.inl (vp_updL (fun _ => 0) 0 1)))), (h16, .inr (8, [.ref h30])), (h30, .inl (cA 1, 8, .inr (.inl (vp_updL (vp_updL (vp_updL (vp_updL (vp_updL (vp_updL (vp_updL (vp_updL (fun _ => 0) 2 0) 3 0) 4 0) 5 0) 6 0) 7 0) 0 1) 1 0))))]) hSF hl.1 hP hD hS hA hK hGV (c374_X1_holdsAt l hfl D cA g h2 h1 h6 h7 h8 h9 h10 h11 h12 h13 h14 h15 h16 h17 h18 h19 h20 h21 h22 h23 h24 h25 h26 h27 h28 h29) goV_X6_138 pd_X1_holdsAt ⟨(Nat.le_of_ble_eq_true rfl), (Nat.le_of_ble_eq_true rfl)⟩ ⟨(Nat.le_of_ble_eq_true rfl), (Nat.le_of_ble_eq_true rfl)⟩ (va_recv hK hP (ci := 4) (q0 := 7) rfl rfl) dX6_isSound_40 rfl (Nat.le_of_ble_eq_true rfl) [7, 8] [0, 1, 2, 3, 4, 5, 6] rfl (by decide) rfl (by decide) (by decide) (fun q => [(h0, .inr (9, [.ref h1, .ref h2, .ref h3, .ref h4, .ref h5])), (h5, .inr (7, [.int 2, .int 0, .int 0, .int 0, .ref h31, .ref h32, .ref h33, .ref h34, .ref h35])), (h33, .inl (cA 0, 512, .inl (fun _ => 0))), (h34, .inl (cA 3, 512, .inl (fun _ => 0))), (h12, .inl (cA 1, 512, .inr (.inl (vp_updL (fun _ => 0) 0 1)))), (h16, .inr (8, [.ref h30])), (h30, .inl (cA 1, 8, .inr (.inl (vp_updL (vp_updL (vp_updL (vp_updL (vp_updL (vp_updL (vp_updL (vp_updL (fun _ => 0) 2 0) 3 0) 4 0) 5 0) 6 0) 7 0) 0 1) 1 0)))), (h2, .inr (4, [.int 1, .int 46, .long 1, .ref h6, .ref h7, .ref h8, .ref h9, .ref h10, .ref h11, .ref h12, .ref h13, .ref h14, .ref h15, .ref h16, .ref h17, .ref h18, .ref h19])), (h1, .inr (5, [.int 0, .int 0, .ref h20, .ref h21, .ref h22, .ref h23, .ref h24, .ref h25, .ref h26, .ref h27, .ref h28, .ref h29]))]) (fun _ => rfl) (fun q4 H locs hP hD hS => ?_)
  refine W.eq (g2 := F0 m 43 ls [.int 1]) rfl ?_
  refine k_if_ne_t (tgt := 48) hx hb dX6_isSound_43 (by decide) (by decide) ?_
  refine lv_iinc (v := 3) (lv' := [(1, .int 3), (0, .ref h0)]) hx hb dX6_isSound_48 hl (k := 0) rfl (by decide) (by decide) rfl (fun ls hl => ?_)
  refine lv_goto (tgt := 25) hx hb dX6_isSound_51 (by decide) ?_
  refine lv_iload_n hx hb dX6_isSound_25 rfl (lv_at hl 0 rfl) ?_
  refine lv_bipush (v := 30) hx hb dX6_isSound_26 (by decide) ?_
  refine k_icmp_gt_f (tgt := 54) hx hb dX6_isSound_28 (by decide) (by decide) ?_
  refine lv_aload_n hx hb dX6_isSound_31 rfl (lv_at hl 1 rfl) ?_
  refine k_get (ci := 9) (C := RX6) (T := TX6) (N := 5) (v := .ref h2) hx hb hG inX6 hown hK hP 0 rfl rfl 1 (by decide) gw364 rfl dX6_isSound_32 ?_
  refine lv_aload_n hx hb dX6_isSound_35 rfl (lv_at hl 1 rfl) ?_
  refine k_get (ci := 9) (C := RX6) (T := TX6) (N := 5) (v := .ref h1) hx hb hG inX6 hown hK hP 0 rfl rfl 0 (by decide) gw363 rfl dX6_isSound_36 ?_
  refine lv_iload_n hx hb dX6_isSound_39 rfl (lv_at hl 0 rfl) ?_
  refine ct_V (wr := [(h0, .inr (9, [.ref h1, .ref h2, .ref h3, .ref h4, .ref h5])), (h5, .inr (7, [.int 2, .int 0, .int 0, .int 0, .ref h31, .ref h32, .ref h33, .ref h34, .ref h35])), (h33, .inl (cA 0, 512, .inl (fun _ => 0))), (h34, .inl (cA 3, 512, .inl (fun _ => 0))), (h12, .inl (cA 1, 512, .inr (.inl (vp_updL (fun _ => 0) 0 1)))), (h16, .inr (8, [.ref h30])), (h30, .inl (cA 1, 8, .inr (.inl (vp_updL (vp_updL (vp_updL (vp_updL (vp_updL (vp_updL (vp_updL (vp_updL (fun _ => 0) 2 0) 3 0) 4 0) 5 0) 6 0) 7 0) 0 1) 1 0))))]) hSF hl.1 hP hD hS hA hK hGV (c377_X1_holdsAt l hfl D cA g h2 h1 h6 h7 h8 h9 h10 h11 h12 h13 h14 h15 h16 h17 h18 h19 h20 h21 h22 h23 h24 h25 h26 h27 h28 h29) goV_X6_138 pd_X1_holdsAt ⟨(Nat.le_of_ble_eq_true rfl), (Nat.le_of_ble_eq_true rfl)⟩ ⟨(Nat.le_of_ble_eq_true rfl), (Nat.le_of_ble_eq_true rfl)⟩ (va_recv hK hP (ci := 4) (q0 := 7) rfl rfl) dX6_isSound_40 rfl (Nat.le_of_ble_eq_true rfl) [7, 8] [0, 1, 2, 3, 4, 5, 6] rfl (by decide) rfl (by decide) (by decide) (fun q => [(h0, .inr (9, [.ref h1, .ref h2, .ref h3, .ref h4, .ref h5])), (h5, .inr (7, [.int 2, .int 0, .int 0, .int 0, .ref h31, .ref h32, .ref h33, .ref h34, .ref h35])), (h33, .inl (cA 0, 512, .inl (fun _ => 0))), (h34, .inl (cA 3, 512, .inl (fun _ => 0))), (h12, .inl (cA 1, 512, .inr (.inl (vp_updL (fun _ => 0) 0 1)))), (h16, .inr (8, [.ref h30])), (h30, .inl (cA 1, 8, .inr (.inl (vp_updL (vp_updL (vp_updL (vp_updL (vp_updL (vp_updL (vp_updL (vp_updL (fun _ => 0) 2 0) 3 0) 4 0) 5 0) 6 0) 7 0) 0 1) 1 0)))), (h2, .inr (4, [.int 1, .int 46, .long 1, .ref h6, .ref h7, .ref h8, .ref h9, .ref h10, .ref h11, .ref h12, .ref h13, .ref h14, .ref h15, .ref h16, .ref h17, .ref h18, .ref h19])), (h1, .inr (5, [.int 0, .int 0, .ref h20, .ref h21, .ref h22, .ref h23, .ref h24, .ref h25, .ref h26, .ref h27, .ref h28, .ref h29]))]) (fun _ => rfl) (fun q5 H locs hP hD hS => ?_)
  refine W.eq (g2 := F0 m 43 ls [.int 1]) rfl ?_
  refine k_if_ne_t (tgt := 48) hx hb dX6_isSound_43 (by decide) (by decide) ?_
  refine lv_iinc (v := 4) (lv' := [(1, .int 4), (0, .ref h0)]) hx hb dX6_isSound_48 hl (k := 0) rfl (by decide) (by decide) rfl (fun ls hl => ?_)
  refine lv_goto (tgt := 25) hx hb dX6_isSound_51 (by decide) ?_
  refine lv_iload_n hx hb dX6_isSound_25 rfl (lv_at hl 0 rfl) ?_
  refine lv_bipush (v := 30) hx hb dX6_isSound_26 (by decide) ?_
  refine k_icmp_gt_f (tgt := 54) hx hb dX6_isSound_28 (by decide) (by decide) ?_
  refine lv_aload_n hx hb dX6_isSound_31 rfl (lv_at hl 1 rfl) ?_
  refine k_get (ci := 9) (C := RX6) (T := TX6) (N := 5) (v := .ref h2) hx hb hG inX6 hown hK hP 0 rfl rfl 1 (by decide) gw364 rfl dX6_isSound_32 ?_
  refine lv_aload_n hx hb dX6_isSound_35 rfl (lv_at hl 1 rfl) ?_
  refine k_get (ci := 9) (C := RX6) (T := TX6) (N := 5) (v := .ref h1) hx hb hG inX6 hown hK hP 0 rfl rfl 0 (by decide) gw363 rfl dX6_isSound_36 ?_
  refine lv_iload_n hx hb dX6_isSound_39 rfl (lv_at hl 0 rfl) ?_
  refine ct_V (wr := [(h0, .inr (9, [.ref h1, .ref h2, .ref h3, .ref h4, .ref h5])), (h5, .inr (7, [.int 2, .int 0, .int 0, .int 0, .ref h31, .ref h32, .ref h33, .ref h34, .ref h35])), (h33, .inl (cA 0, 512, .inl (fun _ => 0))), (h34, .inl (cA 3, 512, .inl (fun _ => 0))), (h12, .inl (cA 1, 512, .inr (.inl (vp_updL (fun _ => 0) 0 1)))), (h16, .inr (8, [.ref h30])), (h30, .inl (cA 1, 8, .inr (.inl (vp_updL (vp_updL (vp_updL (vp_updL (vp_updL (vp_updL (vp_updL (vp_updL (fun _ => 0) 2 0) 3 0) 4 0) 5 0) 6 0) 7 0) 0 1) 1 0))))]) hSF hl.1 hP hD hS hA hK hGV (c380_X1_holdsAt l hfl D cA g h2 h1 h6 h7 h8 h9 h10 h11 h12 h13 h14 h15 h16 h17 h18 h19 h20 h21 h22 h23 h24 h25 h26 h27 h28 h29) goV_X6_138 pd_X1_holdsAt ⟨(Nat.le_of_ble_eq_true rfl), (Nat.le_of_ble_eq_true rfl)⟩ ⟨(Nat.le_of_ble_eq_true rfl), (Nat.le_of_ble_eq_true rfl)⟩ (va_recv hK hP (ci := 4) (q0 := 7) rfl rfl) dX6_isSound_40 rfl (Nat.le_of_ble_eq_true rfl) [7, 8] [0, 1, 2, 3, 4, 5, 6] rfl (by decide) rfl (by decide) (by decide) (fun q => [(h0, .inr (9, [.ref h1, .ref h2, .ref h3, .ref h4, .ref h5])), (h5, .inr (7, [.int 2, .int 0, .int 0, .int 0, .ref h31, .ref h32, .ref h33, .ref h34, .ref h35])), (h33, .inl (cA 0, 512, .inl (fun _ => 0))), (h34, .inl (cA 3, 512, .inl (fun _ => 0))), (h12, .inl (cA 1, 512, .inr (.inl (vp_updL (fun _ => 0) 0 1)))), (h16, .inr (8, [.ref h30])), (h30, .inl (cA 1, 8, .inr (.inl (vp_updL (vp_updL (vp_updL (vp_updL (vp_updL (vp_updL (vp_updL (vp_updL (fun _ => 0) 2 0) 3 0) 4 0) 5 0) 6 0) 7 0) 0 1) 1 0)))), (h2, .inr (4, [.int 1, .int 46, .long 1, .ref h6, .ref h7, .ref h8, .ref h9, .ref h10, .ref h11, .ref h12, .ref h13, .ref h14, .ref h15, .ref h16, .ref h17, .ref h18, .ref h19])), (h1, .inr (5, [.int 0, .int 0, .ref h20, .ref h21, .ref h22, .ref h23, .ref h24, .ref h25, .ref h26, .ref h27, .ref h28, .ref h29]))]) (fun _ => rfl) (fun q6 H locs hP hD hS => ?_)
  refine W.eq (g2 := F0 m 43 ls [.int 1]) rfl ?_
  refine k_if_ne_t (tgt := 48) hx hb dX6_isSound_43 (by decide) (by decide) ?_
  refine lv_iinc (v := 5) (lv' := [(1, .int 5), (0, .ref h0)]) hx hb dX6_isSound_48 hl (k := 0) rfl (by decide) (by decide) rfl (fun ls hl => ?_)
  refine lv_goto (tgt := 25) hx hb dX6_isSound_51 (by decide) ?_
  refine lv_iload_n hx hb dX6_isSound_25 rfl (lv_at hl 0 rfl) ?_
  refine lv_bipush (v := 30) hx hb dX6_isSound_26 (by decide) ?_
  refine k_icmp_gt_f (tgt := 54) hx hb dX6_isSound_28 (by decide) (by decide) ?_
  refine lv_aload_n hx hb dX6_isSound_31 rfl (lv_at hl 1 rfl) ?_
  refine k_get (ci := 9) (C := RX6) (T := TX6) (N := 5) (v := .ref h2) hx hb hG inX6 hown hK hP 0 rfl rfl 1 (by decide) gw364 rfl dX6_isSound_32 ?_
  refine lv_aload_n hx hb dX6_isSound_35 rfl (lv_at hl 1 rfl) ?_
  refine k_get (ci := 9) (C := RX6) (T := TX6) (N := 5) (v := .ref h1) hx hb hG inX6 hown hK hP 0 rfl rfl 0 (by decide) gw363 rfl dX6_isSound_36 ?_
  refine lv_iload_n hx hb dX6_isSound_39 rfl (lv_at hl 0 rfl) ?_
  refine ct_V (wr := [(h0, .inr (9, [.ref h1, .ref h2, .ref h3, .ref h4, .ref h5])), (h5, .inr (7, [.int 2, .int 0, .int 0, .int 0, .ref h31, .ref h32, .ref h33, .ref h34, .ref h35])), (h33, .inl (cA 0, 512, .inl (fun _ => 0))), (h34, .inl (cA 3, 512, .inl (fun _ => 0))), (h12, .inl (cA 1, 512, .inr (.inl (vp_updL (fun _ => 0) 0 1)))), (h16, .inr (8, [.ref h30])), (h30, .inl (cA 1, 8, .inr (.inl (vp_updL (vp_updL (vp_updL (vp_updL (vp_updL (vp_updL (vp_updL (vp_updL (fun _ => 0) 2 0) 3 0) 4 0) 5 0) 6 0) 7 0) 0 1) 1 0))))]) hSF hl.1 hP hD hS hA hK hGV (c383_X1_holdsAt l hfl D cA g h2 h1 h6 h7 h8 h9 h10 h11 h12 h13 h14 h15 h16 h17 h18 h19 h20 h21 h22 h23 h24 h25 h26 h27 h28 h29) goV_X6_138 pd_X1_holdsAt ⟨(Nat.le_of_ble_eq_true rfl), (Nat.le_of_ble_eq_true rfl)⟩ ⟨(Nat.le_of_ble_eq_true rfl), (Nat.le_of_ble_eq_true rfl)⟩ (va_recv hK hP (ci := 4) (q0 := 7) rfl rfl) dX6_isSound_40 rfl (Nat.le_of_ble_eq_true rfl) [7, 8] [0, 1, 2, 3, 4, 5, 6] rfl (by decide) rfl (by decide) (by decide) (fun q => [(h0, .inr (9, [.ref h1, .ref h2, .ref h3, .ref h4, .ref h5])), (h5, .inr (7, [.int 2, .int 0, .int 0, .int 0, .ref h31, .ref h32, .ref h33, .ref h34, .ref h35])), (h33, .inl (cA 0, 512, .inl (fun _ => 0))), (h34, .inl (cA 3, 512, .inl (fun _ => 0))), (h12, .inl (cA 1, 512, .inr (.inl (vp_updL (fun _ => 0) 0 1)))), (h16, .inr (8, [.ref h30])), (h30, .inl (cA 1, 8, .inr (.inl (vp_updL (vp_updL (vp_updL (vp_updL (vp_updL (vp_updL (vp_updL (vp_updL (fun _ => 0) 2 0) 3 0) 4 0) 5 0) 6 0) 7 0) 0 1) 1 0)))), (h2, .inr (4, [.int 1, .int 46, .long 1, .ref h6, .ref h7, .ref h8, .ref h9, .ref h10, .ref h11, .ref h12, .ref h13, .ref h14, .ref h15, .ref h16, .ref h17, .ref h18, .ref h19])), (h1, .inr (5, [.int 0, .int 0, .ref h20, .ref h21, .ref h22, .ref h23, .ref h24, .ref h25, .ref h26, .ref h27, .ref h28, .ref h29]))]) (fun _ => rfl) (fun q7 H locs hP hD hS => ?_)
  refine W.eq (g2 := F0 m 43 ls [.int 1]) rfl ?_
  refine k_if_ne_t (tgt := 48) hx hb dX6_isSound_43 (by decide) (by decide) ?_
  refine lv_iinc (v := 6) (lv' := [(1, .int 6), (0, .ref h0)]) hx hb dX6_isSound_48 hl (k := 0) rfl (by decide) (by decide) rfl (fun ls hl => ?_)
  refine lv_goto (tgt := 25) hx hb dX6_isSound_51 (by decide) ?_
  refine lv_iload_n hx hb dX6_isSound_25 rfl (lv_at hl 0 rfl) ?_
  refine lv_bipush (v := 30) hx hb dX6_isSound_26 (by decide) ?_
  refine k_icmp_gt_f (tgt := 54) hx hb dX6_isSound_28 (by decide) (by decide) ?_
  refine lv_aload_n hx hb dX6_isSound_31 rfl (lv_at hl 1 rfl) ?_
  refine k_get (ci := 9) (C := RX6) (T := TX6) (N := 5) (v := .ref h2) hx hb hG inX6 hown hK hP 0 rfl rfl 1 (by decide) gw364 rfl dX6_isSound_32 ?_
  refine lv_aload_n hx hb dX6_isSound_35 rfl (lv_at hl 1 rfl) ?_
  refine k_get (ci := 9) (C := RX6) (T := TX6) (N := 5) (v := .ref h1) hx hb hG inX6 hown hK hP 0 rfl rfl 0 (by decide) gw363 rfl dX6_isSound_36 ?_
  refine lv_iload_n hx hb dX6_isSound_39 rfl (lv_at hl 0 rfl) ?_
  refine ct_V (wr := [(h0, .inr (9, [.ref h1, .ref h2, .ref h3, .ref h4, .ref h5])), (h5, .inr (7, [.int 2, .int 0, .int 0, .int 0, .ref h31, .ref h32, .ref h33, .ref h34, .ref h35])), (h33, .inl (cA 0, 512, .inl (fun _ => 0))), (h34, .inl (cA 3, 512, .inl (fun _ => 0))), (h12, .inl (cA 1, 512, .inr (.inl (vp_updL (fun _ => 0) 0 1)))), (h16, .inr (8, [.ref h30])), (h30, .inl (cA 1, 8, .inr (.inl (vp_updL (vp_updL (vp_updL (vp_updL (vp_updL (vp_updL (vp_updL (vp_updL (fun _ => 0) 2 0) 3 0) 4 0) 5 0) 6 0) 7 0) 0 1) 1 0))))]) hSF hl.1 hP hD hS hA hK hGV (c386_X1_holdsAt l hfl D cA g h2 h1 h6 h7 h8 h9 h10 h11 h12 h13 h14 h15 h16 h17 h18 h19 h20 h21 h22 h23 h24 h25 h26 h27 h28 h29) goV_X6_138 pd_X1_holdsAt ⟨(Nat.le_of_ble_eq_true rfl), (Nat.le_of_ble_eq_true rfl)⟩ ⟨(Nat.le_of_ble_eq_true rfl), (Nat.le_of_ble_eq_true rfl)⟩ (va_recv hK hP (ci := 4) (q0 := 7) rfl rfl) dX6_isSound_40 rfl (Nat.le_of_ble_eq_true rfl) [7, 8] [0, 1, 2, 3, 4, 5, 6] rfl (by decide) rfl (by decide) (by decide) (fun q => [(h0, .inr (9, [.ref h1, .ref h2, .ref h3, .ref h4, .ref h5])), (h5, .inr (7, [.int 2, .int 0, .int 0, .int 0, .ref h31, .ref h32, .ref h33, .ref h34, .ref h35])), (h33, .inl (cA 0, 512, .inl (fun _ => 0))), (h34, .inl (cA 3, 512, .inl (fun _ => 0))), (h12, .inl (cA 1, 512, .inr (.inl (vp_updL (fun _ => 0) 0 1)))), (h16, .inr (8, [.ref h30])), (h30, .inl (cA 1, 8, .inr (.inl (vp_updL (vp_updL (vp_updL (vp_updL (vp_updL (vp_updL (vp_updL (vp_updL (fun _ => 0) 2 0) 3 0) 4 0) 5 0) 6 0) 7 0) 0 1) 1 0)))), (h2, .inr (4, [.int 1, .int 46, .long 1, .ref h6, .ref h7, .ref h8, .ref h9, .ref h10, .ref h11, .ref h12, .ref h13, .ref h14, .ref h15, .ref h16, .ref h17, .ref h18, .ref h19])), (h1, .inr (5, [.int 0, .int 0, .ref h20, .ref h21, .ref h22, .ref h23, .ref h24, .ref h25, .ref h26, .ref h27, .ref h28, .ref h29]))]) (fun _ => rfl) (fun q8 H locs hP hD hS => ?_)
  refine W.eq (g2 := F0 m 43 ls [.int 1]) rfl ?_
  refine k_if_ne_t (tgt := 48) hx hb dX6_isSound_43 (by decide) (by decide) ?_
  refine lv_iinc (v := 7) (lv' := [(1, .int 7), (0, .ref h0)]) hx hb dX6_isSound_48 hl (k := 0) rfl (by decide) (by decide) rfl (fun ls hl => ?_)
  refine lv_goto (tgt := 25) hx hb dX6_isSound_51 (by decide) ?_
  refine lv_iload_n hx hb dX6_isSound_25 rfl (lv_at hl 0 rfl) ?_
  refine lv_bipush (v := 30) hx hb dX6_isSound_26 (by decide) ?_
  refine k_icmp_gt_f (tgt := 54) hx hb dX6_isSound_28 (by decide) (by decide) ?_
  refine lv_aload_n hx hb dX6_isSound_31 rfl (lv_at hl 1 rfl) ?_
  refine k_get (ci := 9) (C := RX6) (T := TX6) (N := 5) (v := .ref h2) hx hb hG inX6 hown hK hP 0 rfl rfl 1 (by decide) gw364 rfl dX6_isSound_32 ?_
  refine lv_aload_n hx hb dX6_isSound_35 rfl (lv_at hl 1 rfl) ?_
  refine k_get (ci := 9) (C := RX6) (T := TX6) (N := 5) (v := .ref h1) hx hb hG inX6 hown hK hP 0 rfl rfl 0 (by decide) gw363 rfl dX6_isSound_36 ?_
  refine lv_iload_n hx hb dX6_isSound_39 rfl (lv_at hl 0 rfl) ?_
  refine ct_V (wr := [(h0, .inr (9, [.ref h1, .ref h2, .ref h3, .ref h4, .ref h5])), (h5, .inr (7, [.int 2, .int 0, .int 0, .int 0, .ref h31, .ref h32, .ref h33, .ref h34, .ref h35])), (h33, .inl (cA 0, 512, .inl (fun _ => 0))), (h34, .inl (cA 3, 512, .inl (fun _ => 0))), (h12, .inl (cA 1, 512, .inr (.inl (vp_updL (fun _ => 0) 0 1)))), (h16, .inr (8, [.ref h30])), (h30, .inl (cA 1, 8, .inr (.inl (vp_updL (vp_updL (vp_updL (vp_updL (vp_updL (vp_updL (vp_updL (vp_updL (fun _ => 0) 2 0) 3 0) 4 0) 5 0) 6 0) 7 0) 0 1) 1 0))))]) hSF hl.1 hP hD hS hA hK hGV (c389_X1_holdsAt l hfl D cA g h2 h1 h6 h7 h8 h9 h10 h11 h12 h13 h14 h15 h16 h17 h18 h19 h20 h21 h22 h23 h24 h25 h26 h27 h28 h29) goV_X6_138 pd_X1_holdsAt ⟨(Nat.le_of_ble_eq_true rfl), (Nat.le_of_ble_eq_true rfl)⟩ ⟨(Nat.le_of_ble_eq_true rfl), (Nat.le_of_ble_eq_true rfl)⟩ (va_recv hK hP (ci := 4) (q0 := 7) rfl rfl) dX6_isSound_40 rfl (Nat.le_of_ble_eq_true rfl) [7, 8] [0, 1, 2, 3, 4, 5, 6] rfl (by decide) rfl (by decide) (by decide) (fun q => [(h0, .inr (9, [.ref h1, .ref h2, .ref h3, .ref h4, .ref h5])), (h5, .inr (7, [.int 2, .int 0, .int 0, .int 0, .ref h31, .ref h32, .ref h33, .ref h34, .ref h35])), (h33, .inl (cA 0, 512, .inl (fun _ => 0))), (h34, .inl (cA 3, 512, .inl (fun _ => 0))), (h12, .inl (cA 1, 512, .inr (.inl (vp_updL (fun _ => 0) 0 1)))), (h16, .inr (8, [.ref h30])), (h30, .inl (cA 1, 8, .inr (.inl (vp_updL (vp_updL (vp_updL (vp_updL (vp_updL (vp_updL (vp_updL (vp_updL (fun _ => 0) 2 0) 3 0) 4 0) 5 0) 6 0) 7 0) 0 1) 1 0)))), (h2, .inr (4, [.int 1, .int 46, .long 1, .ref h6, .ref h7, .ref h8, .ref h9, .ref h10, .ref h11, .ref h12, .ref h13, .ref h14, .ref h15, .ref h16, .ref h17, .ref h18, .ref h19])), (h1, .inr (5, [.int 0, .int 0, .ref h20, .ref h21, .ref h22, .ref h23, .ref h24, .ref h25, .ref h26, .ref h27, .ref h28, .ref h29]))]) (fun _ => rfl) (fun q9 H locs hP hD hS => ?_)
  refine W.eq (g2 := F0 m 43 ls [.int 1]) rfl ?_
  refine k_if_ne_t (tgt := 48) hx hb dX6_isSound_43 (by decide) (by decide) ?_
  refine lv_iinc (v := 8) (lv' := [(1, .int 8), (0, .ref h0)]) hx hb dX6_isSound_48 hl (k := 0) rfl (by decide) (by decide) rfl (fun ls hl => ?_)
  refine lv_goto (tgt := 25) hx hb dX6_isSound_51 (by decide) ?_
  refine lv_iload_n hx hb dX6_isSound_25 rfl (lv_at hl 0 rfl) ?_
  refine lv_bipush (v := 30) hx hb dX6_isSound_26 (by decide) ?_
  refine k_icmp_gt_f (tgt := 54) hx hb dX6_isSound_28 (by decide) (by decide) ?_
  refine lv_aload_n hx hb dX6_isSound_31 rfl (lv_at hl 1 rfl) ?_
  refine k_get (ci := 9) (C := RX6) (T := TX6) (N := 5) (v := .ref h2) hx hb hG inX6 hown hK hP 0 rfl rfl 1 (by decide) gw364 rfl dX6_isSound_32 ?_
  refine lv_aload_n hx hb dX6_isSound_35 rfl (lv_at hl 1 rfl) ?_
  refine k_get (ci := 9) (C := RX6) (T := TX6) (N := 5) (v := .ref h1) hx hb hG inX6 hown hK hP 0 rfl rfl 0 (by decide) gw363 rfl dX6_isSound_36 ?_
  refine lv_iload_n hx hb dX6_isSound_39 rfl (lv_at hl 0 rfl) ?_
  refine ct_V (wr := [(h0, .inr (9, [.ref h1, .ref h2, .ref h3, .ref h4, .ref h5])), (h5, .inr (7, [.int 2, .int 0, .int 0, .int 0, .ref h31, .ref h32, .ref h33, .ref h34, .ref h35])), (h33, .inl (cA 0, 512, .inl (fun _ => 0))), (h34, .inl (cA 3, 512, .inl (fun _ => 0))), (h12, .inl (cA 1, 512, .inr (.inl (vp_updL (fun _ => 0) 0 1)))), (h16, .inr (8, [.ref h30])), (h30, .inl (cA 1, 8, .inr (.inl (vp_updL (vp_updL (vp_updL (vp_updL (vp_updL (vp_updL (vp_updL (vp_updL (fun _ => 0) 2 0) 3 0) 4 0) 5 0) 6 0) 7 0) 0 1) 1 0))))]) hSF hl.1 hP hD hS hA hK hGV (c392_X1_holdsAt l hfl D cA g h2 h1 h6 h7 h8 h9 h10 h11 h12 h13 h14 h15 h16 h17 h18 h19 h20 h21 h22 h23 h24 h25 h26 h27 h28 h29) goV_X6_138 pd_X1_holdsAt ⟨(Nat.le_of_ble_eq_true rfl), (Nat.le_of_ble_eq_true rfl)⟩ ⟨(Nat.le_of_ble_eq_true rfl), (Nat.le_of_ble_eq_true rfl)⟩ (va_recv hK hP (ci := 4) (q0 := 7) rfl rfl) dX6_isSound_40 rfl (Nat.le_of_ble_eq_true rfl) [7, 8] [0, 1, 2, 3, 4, 5, 6] rfl (by decide) rfl (by decide) (by decide) (fun q => [(h0, .inr (9, [.ref h1, .ref h2, .ref h3, .ref h4, .ref h5])), (h5, .inr (7, [.int 2, .int 0, .int 0, .int 0, .ref h31, .ref h32, .ref h33, .ref h34, .ref h35])), (h33, .inl (cA 0, 512, .inl (fun _ => 0))), (h34, .inl (cA 3, 512, .inl (fun _ => 0))), (h12, .inl (cA 1, 512, .inr (.inl (vp_updL (fun _ => 0) 0 1)))), (h16, .inr (8, [.ref h30])), (h30, .inl (cA 1, 8, .inr (.inl (vp_updL (vp_updL (vp_updL (vp_updL (vp_updL (vp_updL (vp_updL (vp_updL (fun _ => 0) 2 0) 3 0) 4 0) 5 0) 6 0) 7 0) 0 1) 1 0)))), (h2, .inr (4, [.int 1, .int 46, .long 1, .ref h6, .ref h7, .ref h8, .ref h9, .ref h10, .ref h11, .ref h12, .ref h13, .ref h14, .ref h15, .ref h16, .ref h17, .ref h18, .ref h19])), (h1, .inr (5, [.int 0, .int 0, .ref h20, .ref h21, .ref h22, .ref h23, .ref h24, .ref h25, .ref h26, .ref h27, .ref h28, .ref h29]))]) (fun _ => rfl) (fun q10 H locs hP hD hS => ?_)
  refine W.eq (g2 := F0 m 43 ls [.int 1]) rfl ?_
  refine k_if_ne_t (tgt := 48) hx hb dX6_isSound_43 (by decide) (by decide) ?_
  refine lv_iinc (v := 9) (lv' := [(1, .int 9), (0, .ref h0)]) hx hb dX6_isSound_48 hl (k := 0) rfl (by decide) (by decide) rfl (fun ls hl => ?_)
  refine lv_goto (tgt := 25) hx hb dX6_isSound_51 (by decide) ?_
  refine lv_iload_n hx hb dX6_isSound_25 rfl (lv_at hl 0 rfl) ?_
  refine lv_bipush (v := 30) hx hb dX6_isSound_26 (by decide) ?_
  refine k_icmp_gt_f (tgt := 54) hx hb dX6_isSound_28 (by decide) (by decide) ?_
  refine lv_aload_n hx hb dX6_isSound_31 rfl (lv_at hl 1 rfl) ?_
  refine k_get (ci := 9) (C := RX6) (T := TX6) (N := 5) (v := .ref h2) hx hb hG inX6 hown hK hP 0 rfl rfl 1 (by decide) gw364 rfl dX6_isSound_32 ?_
  refine lv_aload_n hx hb dX6_isSound_35 rfl (lv_at hl 1 rfl) ?_
  refine k_get (ci := 9) (C := RX6) (T := TX6) (N := 5) (v := .ref h1) hx hb hG inX6 hown hK hP 0 rfl rfl 0 (by decide) gw363 rfl dX6_isSound_36 ?_
  refine lv_iload_n hx hb dX6_isSound_39 rfl (lv_at hl 0 rfl) ?_
  refine ct_V (wr := [(h0, .inr (9, [.ref h1, .ref h2, .ref h3, .ref h4, .ref h5])), (h5, .inr (7, [.int 2, .int 0, .int 0, .int 0, .ref h31, .ref h32, .ref h33, .ref h34, .ref h35])), (h33, .inl (cA 0, 512, .inl (fun _ => 0))), (h34, .inl (cA 3, 512, .inl (fun _ => 0))), (h12, .inl (cA 1, 512, .inr (.inl (vp_updL (fun _ => 0) 0 1)))), (h16, .inr (8, [.ref h30])), (h30, .inl (cA 1, 8, .inr (.inl (vp_updL (vp_updL (vp_updL (vp_updL (vp_updL (vp_updL (vp_updL (vp_updL (fun _ => 0) 2 0) 3 0) 4 0) 5 0) 6 0) 7 0) 0 1) 1 0))))]) hSF hl.1 hP hD hS hA hK hGV (c395_X1_holdsAt l hfl D cA g h2 h1 h6 h7 h8 h9 h10 h11 h12 h13 h14 h15 h16 h17 h18 h19 h20 h21 h22 h23 h24 h25 h26 h27 h28 h29) goV_X6_138 pd_X1_holdsAt ⟨(Nat.le_of_ble_eq_true rfl), (Nat.le_of_ble_eq_true rfl)⟩ ⟨(Nat.le_of_ble_eq_true rfl), (Nat.le_of_ble_eq_true rfl)⟩ (va_recv hK hP (ci := 4) (q0 := 7) rfl rfl) dX6_isSound_40 rfl (Nat.le_of_ble_eq_true rfl) [7, 8] [0, 1, 2, 3, 4, 5, 6] rfl (by decide) rfl (by decide) (by decide) (fun q => [(h0, .inr (9, [.ref h1, .ref h2, .ref h3, .ref h4, .ref h5])), (h5, .inr (7, [.int 2, .int 0, .int 0, .int 0, .ref h31, .ref h32, .ref h33, .ref h34, .ref h35])), (h33, .inl (cA 0, 512, .inl (fun _ => 0))), (h34, .inl (cA 3, 512, .inl (fun _ => 0))), (h12, .inl (cA 1, 512, .inr (.inl (vp_updL (fun _ => 0) 0 1)))), (h16, .inr (8, [.ref h30])), (h30, .inl (cA 1, 8, .inr (.inl (vp_updL (vp_updL (vp_updL (vp_updL (vp_updL (vp_updL (vp_updL (vp_updL (fun _ => 0) 2 0) 3 0) 4 0) 5 0) 6 0) 7 0) 0 1) 1 0)))), (h2, .inr (4, [.int 1, .int 46, .long 1, .ref h6, .ref h7, .ref h8, .ref h9, .ref h10, .ref h11, .ref h12, .ref h13, .ref h14, .ref h15, .ref h16, .ref h17, .ref h18, .ref h19])), (h1, .inr (5, [.int 0, .int 0, .ref h20, .ref h21, .ref h22, .ref h23, .ref h24, .ref h25, .ref h26, .ref h27, .ref h28, .ref h29]))]) (fun _ => rfl) (fun q11 H locs hP hD hS => ?_)
  refine W.eq (g2 := F0 m 43 ls [.int 1]) rfl ?_
  refine k_if_ne_t (tgt := 48) hx hb dX6_isSound_43 (by decide) (by decide) ?_
  refine lv_iinc (v := 10) (lv' := [(1, .int 10), (0, .ref h0)]) hx hb dX6_isSound_48 hl (k := 0) rfl (by decide) (by decide) rfl (fun ls hl => ?_)
  refine lv_goto (tgt := 25) hx hb dX6_isSound_51 (by decide) ?_
  refine lv_iload_n hx hb dX6_isSound_25 rfl (lv_at hl 0 rfl) ?_
  refine lv_bipush (v := 30) hx hb dX6_isSound_26 (by decide) ?_
  refine k_icmp_gt_f (tgt := 54) hx hb dX6_isSound_28 (by decide) (by decide) ?_
  refine lv_aload_n hx hb dX6_isSound_31 rfl (lv_at hl 1 rfl) ?_
  refine k_get (ci := 9) (C := RX6) (T := TX6) (N := 5) (v := .ref h2) hx hb hG inX6 hown hK hP 0 rfl rfl 1 (by decide) gw364 rfl dX6_isSound_32 ?_
  refine lv_aload_n hx hb dX6_isSound_35 rfl (lv_at hl 1 rfl) ?_
  refine k_get (ci := 9) (C := RX6) (T := TX6) (N := 5) (v := .ref h1) hx hb hG inX6 hown hK hP 0 rfl rfl 0 (by decide) gw363 rfl dX6_isSound_36 ?_
  refine lv_iload_n hx hb dX6_isSound_39 rfl (lv_at hl 0 rfl) ?_
  refine ct_V (wr := [(h0, .inr (9, [.ref h1, .ref h2, .ref h3, .ref h4, .ref h5])), (h5, .inr (7, [.int 2, .int 0, .int 0, .int 0, .ref h31, .ref h32, .ref h33, .ref h34, .ref h35])), (h33, .inl (cA 0, 512, .inl (fun _ => 0))), (h34, .inl (cA 3, 512, .inl (fun _ => 0))), (h12, .inl (cA 1, 512, .inr (.inl (vp_updL (fun _ => 0) 0 1)))), (h16, .inr (8, [.ref h30])), (h30, .inl (cA 1, 8, .inr (.inl (vp_updL (vp_updL (vp_updL (vp_updL (vp_updL (vp_updL (vp_updL (vp_updL (fun _ => 0) 2 0) 3 0) 4 0) 5 0) 6 0) 7 0) 0 1) 1 0))))]) hSF hl.1 hP hD hS hA hK hGV (c398_X1_holdsAt l hfl D cA g h2 h1 h6 h7 h8 h9 h10 h11 h12 h13 h14 h15 h16 h17 h18 h19 h20 h21 h22 h23 h24 h25 h26 h27 h28 h29) goV_X6_138 pd_X1_holdsAt ⟨(Nat.le_of_ble_eq_true rfl), (Nat.le_of_ble_eq_true rfl)⟩ ⟨(Nat.le_of_ble_eq_true rfl), (Nat.le_of_ble_eq_true rfl)⟩ (va_recv hK hP (ci := 4) (q0 := 7) rfl rfl) dX6_isSound_40 rfl (Nat.le_of_ble_eq_true rfl) [7, 8] [0, 1, 2, 3, 4, 5, 6] rfl (by decide) rfl (by decide) (by decide) (fun q => [(h0, .inr (9, [.ref h1, .ref h2, .ref h3, .ref h4, .ref h5])), (h5, .inr (7, [.int 2, .int 0, .int 0, .int 0, .ref h31, .ref h32, .ref h33, .ref h34, .ref h35])), (h33, .inl (cA 0, 512, .inl (fun _ => 0))), (h34, .inl (cA 3, 512, .inl (fun _ => 0))), (h12, .inl (cA 1, 512, .inr (.inl (vp_updL (fun _ => 0) 0 1)))), (h16, .inr (8, [.ref h30])), (h30, .inl (cA 1, 8, .inr (.inl (vp_updL (vp_updL (vp_updL (vp_updL (vp_updL (vp_updL (vp_updL (vp_updL (fun _ => 0) 2 0) 3 0) 4 0) 5 0) 6 0) 7 0) 0 1) 1 0)))), (h2, .inr (4, [.int 1, .int 46, .long 1, .ref h6, .ref h7, .ref h8, .ref h9, .ref h10, .ref h11, .ref h12, .ref h13, .ref h14, .ref h15, .ref h16, .ref h17, .ref h18, .ref h19])), (h1, .inr (5, [.int 0, .int 0, .ref h20, .ref h21, .ref h22, .ref h23, .ref h24, .ref h25, .ref h26, .ref h27, .ref h28, .ref h29]))]) (fun _ => rfl) (fun q12 H locs hP hD hS => ?_)
  refine W.eq (g2 := F0 m 43 ls [.int 1]) rfl ?_
  refine k_if_ne_t (tgt := 48) hx hb dX6_isSound_43 (by decide) (by decide) ?_
  refine lv_iinc (v := 11) (lv' := [(1, .int 11), (0, .ref h0)]) hx hb dX6_isSound_48 hl (k := 0) rfl (by decide) (by decide) rfl (fun ls hl => ?_)
  refine lv_goto (tgt := 25) hx hb dX6_isSound_51 (by decide) ?_
  refine lv_iload_n hx hb dX6_isSound_25 rfl (lv_at hl 0 rfl) ?_
  refine lv_bipush (v := 30) hx hb dX6_isSound_26 (by decide) ?_
  refine k_icmp_gt_f (tgt := 54) hx hb dX6_isSound_28 (by decide) (by decide) ?_
  refine lv_aload_n hx hb dX6_isSound_31 rfl (lv_at hl 1 rfl) ?_
  refine k_get (ci := 9) (C := RX6) (T := TX6) (N := 5) (v := .ref h2) hx hb hG inX6 hown hK hP 0 rfl rfl 1 (by decide) gw364 rfl dX6_isSound_32 ?_
  refine lv_aload_n hx hb dX6_isSound_35 rfl (lv_at hl 1 rfl) ?_
  refine k_get (ci := 9) (C := RX6) (T := TX6) (N := 5) (v := .ref h1) hx hb hG inX6 hown hK hP 0 rfl rfl 0 (by decide) gw363 rfl dX6_isSound_36 ?_
  refine lv_iload_n hx hb dX6_isSound_39 rfl (lv_at hl 0 rfl) ?_
  refine ct_V (wr := [(h0, .inr (9, [.ref h1, .ref h2, .ref h3, .ref h4, .ref h5])), (h5, .inr (7, [.int 2, .int 0, .int 0, .int 0, .ref h31, .ref h32, .ref h33, .ref h34, .ref h35])), (h33, .inl (cA 0, 512, .inl (fun _ => 0))), (h34, .inl (cA 3, 512, .inl (fun _ => 0))), (h12, .inl (cA 1, 512, .inr (.inl (vp_updL (fun _ => 0) 0 1)))), (h16, .inr (8, [.ref h30])), (h30, .inl (cA 1, 8, .inr (.inl (vp_updL (vp_updL (vp_updL (vp_updL (vp_updL (vp_updL (vp_updL (vp_updL (fun _ => 0) 2 0) 3 0) 4 0) 5 0) 6 0) 7 0) 0 1) 1 0))))]) hSF hl.1 hP hD hS hA hK hGV (c401_X1_holdsAt l hfl D cA g h2 h1 h6 h7 h8 h9 h10 h11 h12 h13 h14 h15 h16 h17 h18 h19 h20 h21 h22 h23 h24 h25 h26 h27 h28 h29) goV_X6_138 pd_X1_holdsAt ⟨(Nat.le_of_ble_eq_true rfl), (Nat.le_of_ble_eq_true rfl)⟩ ⟨(Nat.le_of_ble_eq_true rfl), (Nat.le_of_ble_eq_true rfl)⟩ (va_recv hK hP (ci := 4) (q0 := 7) rfl rfl) dX6_isSound_40 rfl (Nat.le_of_ble_eq_true rfl) [7, 8] [0, 1, 2, 3, 4, 5, 6] rfl (by decide) rfl (by decide) (by decide) (fun q => [(h0, .inr (9, [.ref h1, .ref h2, .ref h3, .ref h4, .ref h5])), (h5, .inr (7, [.int 2, .int 0, .int 0, .int 0, .ref h31, .ref h32, .ref h33, .ref h34, .ref h35])), (h33, .inl (cA 0, 512, .inl (fun _ => 0))), (h34, .inl (cA 3, 512, .inl (fun _ => 0))), (h12, .inl (cA 1, 512, .inr (.inl (vp_updL (fun _ => 0) 0 1)))), (h16, .inr (8, [.ref h30])), (h30, .inl (cA 1, 8, .inr (.inl (vp_updL (vp_updL (vp_updL (vp_updL (vp_updL (vp_updL (vp_updL (vp_updL (fun _ => 0) 2 0) 3 0) 4 0) 5 0) 6 0) 7 0) 0 1) 1 0)))), (h2, .inr (4, [.int 1, .int 46, .long 1, .ref h6, .ref h7, .ref h8, .ref h9, .ref h10, .ref h11, .ref h12, .ref h13, .ref h14, .ref h15, .ref h16, .ref h17, .ref h18, .ref h19])), (h1, .inr (5, [.int 0, .int 0, .ref h20, .ref h21, .ref h22, .ref h23, .ref h24, .ref h25, .ref h26, .ref h27, .ref h28, .ref h29]))]) (fun _ => rfl) (fun q13 H locs hP hD hS => ?_)
  refine W.eq (g2 := F0 m 43 ls [.int 1]) rfl ?_
  refine k_if_ne_t (tgt := 48) hx hb dX6_isSound_43 (by decide) (by decide) ?_
  refine lv_iinc (v := 12) (lv' := [(1, .int 12), (0, .ref h0)]) hx hb dX6_isSound_48 hl (k := 0) rfl (by decide) (by decide) rfl (fun ls hl => ?_)
  refine lv_goto (tgt := 25) hx hb dX6_isSound_51 (by decide) ?_
  refine lv_iload_n hx hb dX6_isSound_25 rfl (lv_at hl 0 rfl) ?_
  refine lv_bipush (v := 30) hx hb dX6_isSound_26 (by decide) ?_
  refine k_icmp_gt_f (tgt := 54) hx hb dX6_isSound_28 (by decide) (by decide) ?_
  refine lv_aload_n hx hb dX6_isSound_31 rfl (lv_at hl 1 rfl) ?_
  refine k_get (ci := 9) (C := RX6) (T := TX6) (N := 5) (v := .ref h2) hx hb hG inX6 hown hK hP 0 rfl rfl 1 (by decide) gw364 rfl dX6_isSound_32 ?_
  refine lv_aload_n hx hb dX6_isSound_35 rfl (lv_at hl 1 rfl) ?_
  refine k_get (ci := 9) (C := RX6) (T := TX6) (N := 5) (v := .ref h1) hx hb hG inX6 hown hK hP 0 rfl rfl 0 (by decide) gw363 rfl dX6_isSound_36 ?_
  refine lv_iload_n hx hb dX6_isSound_39 rfl (lv_at hl 0 rfl) ?_
  refine ct_V (wr := [(h0, .inr (9, [.ref h1, .ref h2, .ref h3, .ref h4, .ref h5])), (h5, .inr (7, [.int 2, .int 0, .int 0, .int 0, .ref h31, .ref h32, .ref h33, .ref h34, .ref h35])), (h33, .inl (cA 0, 512, .inl (fun _ => 0))), (h34, .inl (cA 3, 512, .inl (fun _ => 0))), (h12, .inl (cA 1, 512, .inr (.inl (vp_updL (fun _ => 0) 0 1)))), (h16, .inr (8, [.ref h30])), (h30, .inl (cA 1, 8, .inr (.inl (vp_updL (vp_updL (vp_updL (vp_updL (vp_updL (vp_updL (vp_updL (vp_updL (fun _ => 0) 2 0) 3 0) 4 0) 5 0) 6 0) 7 0) 0 1) 1 0))))]) hSF hl.1 hP hD hS hA hK hGV (c404_X1_holdsAt l hfl D cA g h2 h1 h6 h7 h8 h9 h10 h11 h12 h13 h14 h15 h16 h17 h18 h19 h20 h21 h22 h23 h24 h25 h26 h27 h28 h29) goV_X6_138 pd_X1_holdsAt ⟨(Nat.le_of_ble_eq_true rfl), (Nat.le_of_ble_eq_true rfl)⟩ ⟨(Nat.le_of_ble_eq_true rfl), (Nat.le_of_ble_eq_true rfl)⟩ (va_recv hK hP (ci := 4) (q0 := 7) rfl rfl) dX6_isSound_40 rfl (Nat.le_of_ble_eq_true rfl) [7, 8] [0, 1, 2, 3, 4, 5, 6] rfl (by decide) rfl (by decide) (by decide) (fun q => [(h0, .inr (9, [.ref h1, .ref h2, .ref h3, .ref h4, .ref h5])), (h5, .inr (7, [.int 2, .int 0, .int 0, .int 0, .ref h31, .ref h32, .ref h33, .ref h34, .ref h35])), (h33, .inl (cA 0, 512, .inl (fun _ => 0))), (h34, .inl (cA 3, 512, .inl (fun _ => 0))), (h12, .inl (cA 1, 512, .inr (.inl (vp_updL (fun _ => 0) 0 1)))), (h16, .inr (8, [.ref h30])), (h30, .inl (cA 1, 8, .inr (.inl (vp_updL (vp_updL (vp_updL (vp_updL (vp_updL (vp_updL (vp_updL (vp_updL (fun _ => 0) 2 0) 3 0) 4 0) 5 0) 6 0) 7 0) 0 1) 1 0)))), (h2, .inr (4, [.int 1, .int 46, .long 1, .ref h6, .ref h7, .ref h8, .ref h9, .ref h10, .ref h11, .ref h12, .ref h13, .ref h14, .ref h15, .ref h16, .ref h17, .ref h18, .ref h19])), (h1, .inr (5, [.int 0, .int 0, .ref h20, .ref h21, .ref h22, .ref h23, .ref h24, .ref h25, .ref h26, .ref h27, .ref h28, .ref h29]))]) (fun _ => rfl) (fun q14 H locs hP hD hS => ?_)
  refine W.eq (g2 := F0 m 43 ls [.int 1]) rfl ?_
  refine k_if_ne_t (tgt := 48) hx hb dX6_isSound_43 (by decide) (by decide) ?_
  refine lv_iinc (v := 13) (lv' := [(1, .int 13), (0, .ref h0)]) hx hb dX6_isSound_48 hl (k := 0) rfl (by decide) (by decide) rfl (fun ls hl => ?_)
  refine lv_goto (tgt := 25) hx hb dX6_isSound_51 (by decide) ?_
  refine lv_iload_n hx hb dX6_isSound_25 rfl (lv_at hl 0 rfl) ?_
  refine lv_bipush (v := 30) hx hb dX6_isSound_26 (by decide) ?_
  refine k_icmp_gt_f (tgt := 54) hx hb dX6_isSound_28 (by decide) (by decide) ?_
  refine lv_aload_n hx hb dX6_isSound_31 rfl (lv_at hl 1 rfl) ?_
  refine k_get (ci := 9) (C := RX6) (T := TX6) (N := 5) (v := .ref h2) hx hb hG inX6 hown hK hP 0 rfl rfl 1 (by decide) gw364 rfl dX6_isSound_32 ?_
  refine lv_aload_n hx hb dX6_isSound_35 rfl (lv_at hl 1 rfl) ?_
  refine k_get (ci := 9) (C := RX6) (T := TX6) (N := 5) (v := .ref h1) hx hb hG inX6 hown hK hP 0 rfl rfl 0 (by decide) gw363 rfl dX6_isSound_36 ?_
  refine lv_iload_n hx hb dX6_isSound_39 rfl (lv_at hl 0 rfl) ?_
  refine ct_V (wr := [(h0, .inr (9, [.ref h1, .ref h2, .ref h3, .ref h4, .ref h5])), (h5, .inr (7, [.int 2, .int 0, .int 0, .int 0, .ref h31, .ref h32, .ref h33, .ref h34, .ref h35])), (h33, .inl (cA 0, 512, .inl (fun _ => 0))), (h34, .inl (cA 3, 512, .inl (fun _ => 0))), (h12, .inl (cA 1, 512, .inr (.inl (vp_updL (fun _ => 0) 0 1)))), (h16, .inr (8, [.ref h30])), (h30, .inl (cA 1, 8, .inr (.inl (vp_updL (vp_updL (vp_updL (vp_updL (vp_updL (vp_updL (vp_updL (vp_updL (fun _ => 0) 2 0) 3 0) 4 0) 5 0) 6 0) 7 0) 0 1) 1 0))))]) hSF hl.1 hP hD hS hA hK hGV (c407_X1_holdsAt l hfl D cA g h2 h1 h6 h7 h8 h9 h10 h11 h12 h13 h14 h15 h16 h17 h18 h19 h20 h21 h22 h23 h24 h25 h26 h27 h28 h29) goV_X6_138 pd_X1_holdsAt ⟨(Nat.le_of_ble_eq_true rfl), (Nat.le_of_ble_eq_true rfl)⟩ ⟨(Nat.le_of_ble_eq_true rfl), (Nat.le_of_ble_eq_true rfl)⟩ (va_recv hK hP (ci := 4) (q0 := 7) rfl rfl) dX6_isSound_40 rfl (Nat.le_of_ble_eq_true rfl) [7, 8] [0, 1, 2, 3, 4, 5, 6] rfl (by decide) rfl (by decide) (by decide) (fun q => [(h0, .inr (9, [.ref h1, .ref h2, .ref h3, .ref h4, .ref h5])), (h5, .inr (7, [.int 2, .int 0, .int 0, .int 0, .ref h31, .ref h32, .ref h33, .ref h34, .ref h35])), (h33, .inl (cA 0, 512, .inl (fun _ => 0))), (h34, .inl (cA 3, 512, .inl (fun _ => 0))), (h12, .inl (cA 1, 512, .inr (.inl (vp_updL (fun _ => 0) 0 1)))), (h16, .inr (8, [.ref h30])), (h30, .inl (cA 1, 8, .inr (.inl (vp_updL (vp_updL (vp_updL (vp_updL (vp_updL (vp_updL (vp_updL (vp_updL (fun _ => 0) 2 0) 3 0) 4 0) 5 0) 6 0) 7 0) 0 1) 1 0)))), (h2, .inr (4, [.int 1, .int 46, .long 1, .ref h6, .ref h7, .ref h8, .ref h9, .ref h10, .ref h11, .ref h12, .ref h13, .ref h14, .ref h15, .ref h16, .ref h17, .ref h18, .ref h19])), (h1, .inr (5, [.int 0, .int 0, .ref h20, .ref h21, .ref h22, .ref h23, .ref h24, .ref h25, .ref h26, .ref h27, .ref h28, .ref h29]))]) (fun _ => rfl) (fun q15 H locs hP hD hS => ?_)
  refine W.eq (g2 := F0 m 43 ls [.int 1]) rfl ?_
  refine k_if_ne_t (tgt := 48) hx hb dX6_isSound_43 (by decide) (by decide) ?_
  refine lv_iinc (v := 14) (lv' := [(1, .int 14), (0, .ref h0)]) hx hb dX6_isSound_48 hl (k := 0) rfl (by decide) (by decide) rfl (fun ls hl => ?_)
  refine lv_goto (tgt := 25) hx hb dX6_isSound_51 (by decide) ?_
  refine lv_iload_n hx hb dX6_isSound_25 rfl (lv_at hl 0 rfl) ?_
  refine lv_bipush (v := 30) hx hb dX6_isSound_26 (by decide) ?_
  refine k_icmp_gt_f (tgt := 54) hx hb dX6_isSound_28 (by decide) (by decide) ?_
  refine lv_aload_n hx hb dX6_isSound_31 rfl (lv_at hl 1 rfl) ?_
  refine k_get (ci := 9) (C := RX6) (T := TX6) (N := 5) (v := .ref h2) hx hb hG inX6 hown hK hP 0 rfl rfl 1 (by decide) gw364 rfl dX6_isSound_32 ?_
  refine lv_aload_n hx hb dX6_isSound_35 rfl (lv_at hl 1 rfl) ?_
  refine k_get (ci := 9) (C := RX6) (T := TX6) (N := 5) (v := .ref h1) hx hb hG inX6 hown hK hP 0 rfl rfl 0 (by decide) gw363 rfl dX6_isSound_36 ?_
  refine lv_iload_n hx hb dX6_isSound_39 rfl (lv_at hl 0 rfl) ?_
  refine ct_V (wr := [(h0, .inr (9, [.ref h1, .ref h2, .ref h3, .ref h4, .ref h5])), (h5, .inr (7, [.int 2, .int 0, .int 0, .int 0, .ref h31, .ref h32, .ref h33, .ref h34, .ref h35])), (h33, .inl (cA 0, 512, .inl (fun _ => 0))), (h34, .inl (cA 3, 512, .inl (fun _ => 0))), (h12, .inl (cA 1, 512, .inr (.inl (vp_updL (fun _ => 0) 0 1)))), (h16, .inr (8, [.ref h30])), (h30, .inl (cA 1, 8, .inr (.inl (vp_updL (vp_updL (vp_updL (vp_updL (vp_updL (vp_updL (vp_updL (vp_updL (fun _ => 0) 2 0) 3 0) 4 0) 5 0) 6 0) 7 0) 0 1) 1 0))))]) hSF hl.1 hP hD hS hA hK hGV (c410_X1_holdsAt l hfl D cA g h2 h1 h6 h7 h8 h9 h10 h11 h12 h13 h14 h15 h16 h17 h18 h19 h20 h21 h22 h23 h24 h25 h26 h27 h28 h29) goV_X6_138 pd_X1_holdsAt ⟨(Nat.le_of_ble_eq_true rfl), (Nat.le_of_ble_eq_true rfl)⟩ ⟨(Nat.le_of_ble_eq_true rfl), (Nat.le_of_ble_eq_true rfl)⟩ (va_recv hK hP (ci := 4) (q0 := 7) rfl rfl) dX6_isSound_40 rfl (Nat.le_of_ble_eq_true rfl) [7, 8] [0, 1, 2, 3, 4, 5, 6] rfl (by decide) rfl (by decide) (by decide) (fun q => [(h0, .inr (9, [.ref h1, .ref h2, .ref h3, .ref h4, .ref h5])), (h5, .inr (7, [.int 2, .int 0, .int 0, .int 0, .ref h31, .ref h32, .ref h33, .ref h34, .ref h35])), (h33, .inl (cA 0, 512, .inl (fun _ => 0))), (h34, .inl (cA 3, 512, .inl (fun _ => 0))), (h12, .inl (cA 1, 512, .inr (.inl (vp_updL (fun _ => 0) 0 1)))), (h16, .inr (8, [.ref h30])), (h30, .inl (cA 1, 8, .inr (.inl (vp_updL (vp_updL (vp_updL (vp_updL (vp_updL (vp_updL (vp_updL (vp_updL (fun _ => 0) 2 0) 3 0) 4 0) 5 0) 6 0) 7 0) 0 1) 1 0)))), (h2, .inr (4, [.int 1, .int 46, .long 1, .ref h6, .ref h7, .ref h8, .ref h9, .ref h10, .ref h11, .ref h12, .ref h13, .ref h14, .ref h15, .ref h16, .ref h17, .ref h18, .ref h19])), (h1, .inr (5, [.int 0, .int 0, .ref h20, .ref h21, .ref h22, .ref h23, .ref h24, .ref h25, .ref h26, .ref h27, .ref h28, .ref h29]))]) (fun _ => rfl) (fun q16 H locs hP hD hS => ?_)
  refine W.eq (g2 := F0 m 43 ls [.int 1]) rfl ?_
  refine k_if_ne_t (tgt := 48) hx hb dX6_isSound_43 (by decide) (by decide) ?_
  refine lv_iinc (v := 15) (lv' := [(1, .int 15), (0, .ref h0)]) hx hb dX6_isSound_48 hl (k := 0) rfl (by decide) (by decide) rfl (fun ls hl => ?_)
  refine lv_goto (tgt := 25) hx hb dX6_isSound_51 (by decide) ?_
  refine lv_iload_n hx hb dX6_isSound_25 rfl (lv_at hl 0 rfl) ?_
  refine lv_bipush (v := 30) hx hb dX6_isSound_26 (by decide) ?_
  refine k_icmp_gt_f (tgt := 54) hx hb dX6_isSound_28 (by decide) (by decide) ?_
  refine lv_aload_n hx hb dX6_isSound_31 rfl (lv_at hl 1 rfl) ?_
  refine k_get (ci := 9) (C := RX6) (T := TX6) (N := 5) (v := .ref h2) hx hb hG inX6 hown hK hP 0 rfl rfl 1 (by decide) gw364 rfl dX6_isSound_32 ?_
  refine lv_aload_n hx hb dX6_isSound_35 rfl (lv_at hl 1 rfl) ?_
  refine k_get (ci := 9) (C := RX6) (T := TX6) (N := 5) (v := .ref h1) hx hb hG inX6 hown hK hP 0 rfl rfl 0 (by decide) gw363 rfl dX6_isSound_36 ?_
  refine lv_iload_n hx hb dX6_isSound_39 rfl (lv_at hl 0 rfl) ?_
  refine ct_V (wr := [(h0, .inr (9, [.ref h1, .ref h2, .ref h3, .ref h4, .ref h5])), (h5, .inr (7, [.int 2, .int 0, .int 0, .int 0, .ref h31, .ref h32, .ref h33, .ref h34, .ref h35])), (h33, .inl (cA 0, 512, .inl (fun _ => 0))), (h34, .inl (cA 3, 512, .inl (fun _ => 0))), (h12, .inl (cA 1, 512, .inr (.inl (vp_updL (fun _ => 0) 0 1)))), (h16, .inr (8, [.ref h30])), (h30, .inl (cA 1, 8, .inr (.inl (vp_updL (vp_updL (vp_updL (vp_updL (vp_updL (vp_updL (vp_updL (vp_updL (fun _ => 0) 2 0) 3 0) 4 0) 5 0) 6 0) 7 0) 0 1) 1 0))))]) hSF hl.1 hP hD hS hA hK hGV (c413_X1_holdsAt l hfl D cA g h2 h1 h6 h7 h8 h9 h10 h11 h12 h13 h14 h15 h16 h17 h18 h19 h20 h21 h22 h23 h24 h25 h26 h27 h28 h29) goV_X6_138 pd_X1_holdsAt ⟨(Nat.le_of_ble_eq_true rfl), (Nat.le_of_ble_eq_true rfl)⟩ ⟨(Nat.le_of_ble_eq_true rfl), (Nat.le_of_ble_eq_true rfl)⟩ (va_recv hK hP (ci := 4) (q0 := 7) rfl rfl) dX6_isSound_40 rfl (Nat.le_of_ble_eq_true rfl) [7, 8] [0, 1, 2, 3, 4, 5, 6] rfl (by decide) rfl (by decide) (by decide) (fun q => [(h0, .inr (9, [.ref h1, .ref h2, .ref h3, .ref h4, .ref h5])), (h5, .inr (7, [.int 2, .int 0, .int 0, .int 0, .ref h31, .ref h32, .ref h33, .ref h34, .ref h35])), (h33, .inl (cA 0, 512, .inl (fun _ => 0))), (h34, .inl (cA 3, 512, .inl (fun _ => 0))), (h12, .inl (cA 1, 512, .inr (.inl (vp_updL (fun _ => 0) 0 1)))), (h16, .inr (8, [.ref h30])), (h30, .inl (cA 1, 8, .inr (.inl (vp_updL (vp_updL (vp_updL (vp_updL (vp_updL (vp_updL (vp_updL (vp_updL (fun _ => 0) 2 0) 3 0) 4 0) 5 0) 6 0) 7 0) 0 1) 1 0)))), (h2, .inr (4, [.int 1, .int 46, .long 1, .ref h6, .ref h7, .ref h8, .ref h9, .ref h10, .ref h11, .ref h12, .ref h13, .ref h14, .ref h15, .ref h16, .ref h17, .ref h18, .ref h19])), (h1, .inr (5, [.int 0, .int 0, .ref h20, .ref h21, .ref h22, .ref h23, .ref h24, .ref h25, .ref h26, .ref h27, .ref h28, .ref h29]))]) (fun _ => rfl) (fun q17 H locs hP hD hS => ?_)
  refine W.eq (g2 := F0 m 43 ls [.int 1]) rfl ?_
  refine k_if_ne_t (tgt := 48) hx hb dX6_isSound_43 (by decide) (by decide) ?_
  refine lv_iinc (v := 16) (lv' := [(1, .int 16), (0, .ref h0)]) hx hb dX6_isSound_48 hl (k := 0) rfl (by decide) (by decide) rfl (fun ls hl => ?_)
  refine lv_goto (tgt := 25) hx hb dX6_isSound_51 (by decide) ?_
  refine lv_iload_n hx hb dX6_isSound_25 rfl (lv_at hl 0 rfl) ?_
  refine lv_bipush (v := 30) hx hb dX6_isSound_26 (by decide) ?_
  refine k_icmp_gt_f (tgt := 54) hx hb dX6_isSound_28 (by decide) (by decide) ?_
  refine lv_aload_n hx hb dX6_isSound_31 rfl (lv_at hl 1 rfl) ?_
  refine k_get (ci := 9) (C := RX6) (T := TX6) (N := 5) (v := .ref h2) hx hb hG inX6 hown hK hP 0 rfl rfl 1 (by decide) gw364 rfl dX6_isSound_32 ?_
  refine lv_aload_n hx hb dX6_isSound_35 rfl (lv_at hl 1 rfl) ?_
  refine k_get (ci := 9) (C := RX6) (T := TX6) (N := 5) (v := .ref h1) hx hb hG inX6 hown hK hP 0 rfl rfl 0 (by decide) gw363 rfl dX6_isSound_36 ?_
  refine lv_iload_n hx hb dX6_isSound_39 rfl (lv_at hl 0 rfl) ?_
  refine ct_V (wr := [(h0, .inr (9, [.ref h1, .ref h2, .ref h3, .ref h4, .ref h5])), (h5, .inr (7, [.int 2, .int 0, .int 0, .int 0, .ref h31, .ref h32, .ref h33, .ref h34, .ref h35])), (h33, .inl (cA 0, 512, .inl (fun _ => 0))), (h34, .inl (cA 3, 512, .inl (fun _ => 0))), (h12, .inl (cA 1, 512, .inr (.inl (vp_updL (fun _ => 0) 0 1)))), (h16, .inr (8, [.ref h30])), (h30, .inl (cA 1, 8, .inr (.inl (vp_updL (vp_updL (vp_updL (vp_updL (vp_updL (vp_updL (vp_updL (vp_updL (fun _ => 0) 2 0) 3 0) 4 0) 5 0) 6 0) 7 0) 0 1) 1 0))))]) hSF hl.1 hP hD hS hA hK hGV (c416_X1_holdsAt l hfl D cA g h2 h1 h6 h7 h8 h9 h10 h11 h12 h13 h14 h15 h16 h17 h18 h19 h20 h21 h22 h23 h24 h25 h26 h27 h28 h29) goV_X6_138 pd_X1_holdsAt ⟨(Nat.le_of_ble_eq_true rfl), (Nat.le_of_ble_eq_true rfl)⟩ ⟨(Nat.le_of_ble_eq_true rfl), (Nat.le_of_ble_eq_true rfl)⟩ (va_recv hK hP (ci := 4) (q0 := 7) rfl rfl) dX6_isSound_40 rfl (Nat.le_of_ble_eq_true rfl) [7, 8] [0, 1, 2, 3, 4, 5, 6] rfl (by decide) rfl (by decide) (by decide) (fun q => [(h0, .inr (9, [.ref h1, .ref h2, .ref h3, .ref h4, .ref h5])), (h5, .inr (7, [.int 2, .int 0, .int 0, .int 0, .ref h31, .ref h32, .ref h33, .ref h34, .ref h35])), (h33, .inl (cA 0, 512, .inl (fun _ => 0))), (h34, .inl (cA 3, 512, .inl (fun _ => 0))), (h12, .inl (cA 1, 512, .inr (.inl (vp_updL (fun _ => 0) 0 1)))), (h16, .inr (8, [.ref h30])), (h30, .inl (cA 1, 8, .inr (.inl (vp_updL (vp_updL (vp_updL (vp_updL (vp_updL (vp_updL (vp_updL (vp_updL (fun _ => 0) 2 0) 3 0) 4 0) 5 0) 6 0) 7 0) 0 1) 1 0)))), (h2, .inr (4, [.int 1, .int 46, .long 1, .ref h6, .ref h7, .ref h8, .ref h9, .ref h10, .ref h11, .ref h12, .ref h13, .ref h14, .ref h15, .ref h16, .ref h17, .ref h18, .ref h19])), (h1, .inr (5, [.int 0, .int 0, .ref h20, .ref h21, .ref h22, .ref h23, .ref h24, .ref h25, .ref h26, .ref h27, .ref h28, .ref h29]))]) (fun _ => rfl) (fun q18 H locs hP hD hS => ?_)
  refine W.eq (g2 := F0 m 43 ls [.int 1]) rfl ?_
  refine k_if_ne_t (tgt := 48) hx hb dX6_isSound_43 (by decide) (by decide) ?_
  refine lv_iinc (v := 17) (lv' := [(1, .int 17), (0, .ref h0)]) hx hb dX6_isSound_48 hl (k := 0) rfl (by decide) (by decide) rfl (fun ls hl => ?_)
  refine lv_goto (tgt := 25) hx hb dX6_isSound_51 (by decide) ?_
  refine lv_iload_n hx hb dX6_isSound_25 rfl (lv_at hl 0 rfl) ?_
  refine lv_bipush (v := 30) hx hb dX6_isSound_26 (by decide) ?_
  refine k_icmp_gt_f (tgt := 54) hx hb dX6_isSound_28 (by decide) (by decide) ?_
  refine lv_aload_n hx hb dX6_isSound_31 rfl (lv_at hl 1 rfl) ?_
  refine k_get (ci := 9) (C := RX6) (T := TX6) (N := 5) (v := .ref h2) hx hb hG inX6 hown hK hP 0 rfl rfl 1 (by decide) gw364 rfl dX6_isSound_32 ?_
  refine lv_aload_n hx hb dX6_isSound_35 rfl (lv_at hl 1 rfl) ?_
  refine k_get (ci := 9) (C := RX6) (T := TX6) (N := 5) (v := .ref h1) hx hb hG inX6 hown hK hP 0 rfl rfl 0 (by decide) gw363 rfl dX6_isSound_36 ?_
  refine lv_iload_n hx hb dX6_isSound_39 rfl (lv_at hl 0 rfl) ?_
  refine ct_V (wr := [(h0, .inr (9, [.ref h1, .ref h2, .ref h3, .ref h4, .ref h5])), (h5, .inr (7, [.int 2, .int 0, .int 0, .int 0, .ref h31, .ref h32, .ref h33, .ref h34, .ref h35])), (h33, .inl (cA 0, 512, .inl (fun _ => 0))), (h34, .inl (cA 3, 512, .inl (fun _ => 0))), (h12, .inl (cA 1, 512, .inr (.inl (vp_updL (fun _ => 0) 0 1)))), (h16, .inr (8, [.ref h30])), (h30, .inl (cA 1, 8, .inr (.inl (vp_updL (vp_updL (vp_updL (vp_updL (vp_updL (vp_updL (vp_updL (vp_updL (fun _ => 0) 2 0) 3 0) 4 0) 5 0) 6 0) 7 0) 0 1) 1 0))))]) hSF hl.1 hP hD hS hA hK hGV (c419_X1_holdsAt l hfl D cA g h2 h1 h6 h7 h8 h9 h10 h11 h12 h13 h14 h15 h16 h17 h18 h19 h20 h21 h22 h23 h24 h25 h26 h27 h28 h29) goV_X6_138 pd_X1_holdsAt ⟨(Nat.le_of_ble_eq_true rfl), (Nat.le_of_ble_eq_true rfl)⟩ ⟨(Nat.le_of_ble_eq_true rfl), (Nat.le_of_ble_eq_true rfl)⟩ (va_recv hK hP (ci := 4) (q0 := 7) rfl rfl) dX6_isSound_40 rfl (Nat.le_of_ble_eq_true rfl) [7, 8] [0, 1, 2, 3, 4, 5, 6] rfl (by decide) rfl (by decide) (by decide) (fun q => [(h0, .inr (9, [.ref h1, .ref h2, .ref h3, .ref h4, .ref h5])), (h5, .inr (7, [.int 2, .int 0, .int 0, .int 0, .ref h31, .ref h32, .ref h33, .ref h34, .ref h35])), (h33, .inl (cA 0, 512, .inl (fun _ => 0))), (h34, .inl (cA 3, 512, .inl (fun _ => 0))), (h12, .inl (cA 1, 512, .inr (.inl (vp_updL (fun _ => 0) 0 1)))), (h16, .inr (8, [.ref h30])), (h30, .inl (cA 1, 8, .inr (.inl (vp_updL (vp_updL (vp_updL (vp_updL (vp_updL (vp_updL (vp_updL (vp_updL (fun _ => 0) 2 0) 3 0) 4 0) 5 0) 6 0) 7 0) 0 1) 1 0)))), (h2, .inr (4, [.int 1, .int 46, .long 1, .ref h6, .ref h7, .ref h8, .ref h9, .ref h10, .ref h11, .ref h12, .ref h13, .ref h14, .ref h15, .ref h16, .ref h17, .ref h18, .ref h19])), (h1, .inr (5, [.int 0, .int 0, .ref h20, .ref h21, .ref h22, .ref h23, .ref h24, .ref h25, .ref h26, .ref h27, .ref h28, .ref h29]))]) (fun _ => rfl) (fun q19 H locs hP hD hS => ?_)
  refine W.eq (g2 := F0 m 43 ls [.int 1]) rfl ?_
  refine k_if_ne_t (tgt := 48) hx hb dX6_isSound_43 (by decide) (by decide) ?_
  refine lv_iinc (v := 18) (lv' := [(1, .int 18), (0, .ref h0)]) hx hb dX6_isSound_48 hl (k := 0) rfl (by decide) (by decide) rfl (fun ls hl => ?_)
  refine lv_goto (tgt := 25) hx hb dX6_isSound_51 (by decide) ?_
  refine lv_iload_n hx hb dX6_isSound_25 rfl (lv_at hl 0 rfl) ?_
  refine lv_bipush (v := 30) hx hb dX6_isSound_26 (by decide) ?_
  refine k_icmp_gt_f (tgt := 54) hx hb dX6_isSound_28 (by decide) (by decide) ?_
  refine lv_aload_n hx hb dX6_isSound_31 rfl (lv_at hl 1 rfl) ?_
  refine k_get (ci := 9) (C := RX6) (T := TX6) (N := 5) (v := .ref h2) hx hb hG inX6 hown hK hP 0 rfl rfl 1 (by decide) gw364 rfl dX6_isSound_32 ?_
  refine lv_aload_n hx hb dX6_isSound_35 rfl (lv_at hl 1 rfl) ?_
  refine k_get (ci := 9) (C := RX6) (T := TX6) (N := 5) (v := .ref h1) hx hb hG inX6 hown hK hP 0 rfl rfl 0 (by decide) gw363 rfl dX6_isSound_36 ?_
  refine lv_iload_n hx hb dX6_isSound_39 rfl (lv_at hl 0 rfl) ?_
  refine ct_V (wr := [(h0, .inr (9, [.ref h1, .ref h2, .ref h3, .ref h4, .ref h5])), (h5, .inr (7, [.int 2, .int 0, .int 0, .int 0, .ref h31, .ref h32, .ref h33, .ref h34, .ref h35])), (h33, .inl (cA 0, 512, .inl (fun _ => 0))), (h34, .inl (cA 3, 512, .inl (fun _ => 0))), (h12, .inl (cA 1, 512, .inr (.inl (vp_updL (fun _ => 0) 0 1)))), (h16, .inr (8, [.ref h30])), (h30, .inl (cA 1, 8, .inr (.inl (vp_updL (vp_updL (vp_updL (vp_updL (vp_updL (vp_updL (vp_updL (vp_updL (fun _ => 0) 2 0) 3 0) 4 0) 5 0) 6 0) 7 0) 0 1) 1 0))))]) hSF hl.1 hP hD hS hA hK hGV (c422_X1_holdsAt l hfl D cA g h2 h1 h6 h7 h8 h9 h10 h11 h12 h13 h14 h15 h16 h17 h18 h19 h20 h21 h22 h23 h24 h25 h26 h27 h28 h29) goV_X6_138 pd_X1_holdsAt ⟨(Nat.le_of_ble_eq_true rfl), (Nat.le_of_ble_eq_true rfl)⟩ ⟨(Nat.le_of_ble_eq_true rfl), (Nat.le_of_ble_eq_true rfl)⟩ (va_recv hK hP (ci := 4) (q0 := 7) rfl rfl) dX6_isSound_40 rfl (Nat.le_of_ble_eq_true rfl) [7, 8] [0, 1, 2, 3, 4, 5, 6] rfl (by decide) rfl (by decide) (by decide) (fun q => [(h0, .inr (9, [.ref h1, .ref h2, .ref h3, .ref h4, .ref h5])), (h5, .inr (7, [.int 2, .int 0, .int 0, .int 0, .ref h31, .ref h32, .ref h33, .ref h34, .ref h35])), (h33, .inl (cA 0, 512, .inl (fun _ => 0))), (h34, .inl (cA 3, 512, .inl (fun _ => 0))), (h12, .inl (cA 1, 512, .inr (.inl (vp_updL (fun _ => 0) 0 1)))), (h16, .inr (8, [.ref h30])), (h30, .inl (cA 1, 8, .inr (.inl (vp_updL (vp_updL (vp_updL (vp_updL (vp_updL (vp_updL (vp_updL (vp_updL (fun _ => 0) 2 0) 3 0) 4 0) 5 0) 6 0) 7 0) 0 1) 1 0)))), (h2, .inr (4, [.int 1, .int 46, .long 1, .ref h6, .ref h7, .ref h8, .ref h9, .ref h10, .ref h11, .ref h12, .ref h13, .ref h14, .ref h15, .ref h16, .ref h17, .ref h18, .ref h19])), (h1, .inr (5, [.int 0, .int 0, .ref h20, .ref h21, .ref h22, .ref h23, .ref h24, .ref h25, .ref h26, .ref h27, .ref h28, .ref h29]))]) (fun _ => rfl) (fun q20 H locs hP hD hS => ?_)
  refine W.eq (g2 := F0 m 43 ls [.int 1]) rfl ?_
  refine k_if_ne_t (tgt := 48) hx hb dX6_isSound_43 (by decide) (by decide) ?_
  refine lv_iinc (v := 19) (lv' := [(1, .int 19), (0, .ref h0)]) hx hb dX6_isSound_48 hl (k := 0) rfl (by decide) (by decide) rfl (fun ls hl => ?_)
  refine lv_goto (tgt := 25) hx hb dX6_isSound_51 (by decide) ?_
  refine lv_iload_n hx hb dX6_isSound_25 rfl (lv_at hl 0 rfl) ?_
  refine lv_bipush (v := 30) hx hb dX6_isSound_26 (by decide) ?_
  refine k_icmp_gt_f (tgt := 54) hx hb dX6_isSound_28 (by decide) (by decide) ?_
  refine lv_aload_n hx hb dX6_isSound_31 rfl (lv_at hl 1 rfl) ?_
  refine k_get (ci := 9) (C := RX6) (T := TX6) (N := 5) (v := .ref h2) hx hb hG inX6 hown hK hP 0 rfl rfl 1 (by decide) gw364 rfl dX6_isSound_32 ?_
  refine lv_aload_n hx hb dX6_isSound_35 rfl (lv_at hl 1 rfl) ?_
  refine k_get (ci := 9) (C := RX6) (T := TX6) (N := 5) (v := .ref h1) hx hb hG inX6 hown hK hP 0 rfl rfl 0 (by decide) gw363 rfl dX6_isSound_36 ?_
  refine lv_iload_n hx hb dX6_isSound_39 rfl (lv_at hl 0 rfl) ?_
  refine ct_V (wr := [(h0, .inr (9, [.ref h1, .ref h2, .ref h3, .ref h4, .ref h5])), (h5, .inr (7, [.int 2, .int 0, .int 0, .int 0, .ref h31, .ref h32, .ref h33, .ref h34, .ref h35])), (h33, .inl (cA 0, 512, .inl (fun _ => 0))), (h34, .inl (cA 3, 512, .inl (fun _ => 0))), (h12, .inl (cA 1, 512, .inr (.inl (vp_updL (fun _ => 0) 0 1)))), (h16, .inr (8, [.ref h30])), (h30, .inl (cA 1, 8, .inr (.inl (vp_updL (vp_updL (vp_updL (vp_updL (vp_updL (vp_updL (vp_updL (vp_updL (fun _ => 0) 2 0) 3 0) 4 0) 5 0) 6 0) 7 0) 0 1) 1 0))))]) hSF hl.1 hP hD hS hA hK hGV (c425_X1_holdsAt l hfl D cA g h2 h1 h6 h7 h8 h9 h10 h11 h12 h13 h14 h15 h16 h17 h18 h19 h20 h21 h22 h23 h24 h25 h26 h27 h28 h29) goV_X6_138 pd_X1_holdsAt ⟨(Nat.le_of_ble_eq_true rfl), (Nat.le_of_ble_eq_true rfl)⟩ ⟨(Nat.le_of_ble_eq_true rfl), (Nat.le_of_ble_eq_true rfl)⟩ (va_recv hK hP (ci := 4) (q0 := 7) rfl rfl) dX6_isSound_40 rfl (Nat.le_of_ble_eq_true rfl) [7, 8] [0, 1, 2, 3, 4, 5, 6] rfl (by decide) rfl (by decide) (by decide) (fun q => [(h0, .inr (9, [.ref h1, .ref h2, .ref h3, .ref h4, .ref h5])), (h5, .inr (7, [.int 2, .int 0, .int 0, .int 0, .ref h31, .ref h32, .ref h33, .ref h34, .ref h35])), (h33, .inl (cA 0, 512, .inl (fun _ => 0))), (h34, .inl (cA 3, 512, .inl (fun _ => 0))), (h12, .inl (cA 1, 512, .inr (.inl (vp_updL (fun _ => 0) 0 1)))), (h16, .inr (8, [.ref h30])), (h30, .inl (cA 1, 8, .inr (.inl (vp_updL (vp_updL (vp_updL (vp_updL (vp_updL (vp_updL (vp_updL (vp_updL (fun _ => 0) 2 0) 3 0) 4 0) 5 0) 6 0) 7 0) 0 1) 1 0)))), (h2, .inr (4, [.int 1, .int 46, .long 1, .ref h6, .ref h7, .ref h8, .ref h9, .ref h10, .ref h11, .ref h12, .ref h13, .ref h14, .ref h15, .ref h16, .ref h17, .ref h18, .ref h19])), (h1, .inr (5, [.int 0, .int 0, .ref h20, .ref h21, .ref h22, .ref h23, .ref h24, .ref h25, .ref h26, .ref h27, .ref h28, .ref h29]))]) (fun _ => rfl) (fun q21 H locs hP hD hS => ?_)
  refine W.eq (g2 := F0 m 43 ls [.int 1]) rfl ?_
  refine k_if_ne_t (tgt := 48) hx hb dX6_isSound_43 (by decide) (by decide) ?_
  refine lv_iinc (v := 20) (lv' := [(1, .int 20), (0, .ref h0)]) hx hb dX6_isSound_48 hl (k := 0) rfl (by decide) (by decide) rfl (fun ls hl => ?_)
  refine lv_goto (tgt := 25) hx hb dX6_isSound_51 (by decide) ?_
  refine lv_iload_n hx hb dX6_isSound_25 rfl (lv_at hl 0 rfl) ?_
  refine lv_bipush (v := 30) hx hb dX6_isSound_26 (by decide) ?_
  refine k_icmp_gt_f (tgt := 54) hx hb dX6_isSound_28 (by decide) (by decide) ?_
  refine lv_aload_n hx hb dX6_isSound_31 rfl (lv_at hl 1 rfl) ?_
  refine k_get (ci := 9) (C := RX6) (T := TX6) (N := 5) (v := .ref h2) hx hb hG inX6 hown hK hP 0 rfl rfl 1 (by decide) gw364 rfl dX6_isSound_32 ?_
  refine lv_aload_n hx hb dX6_isSound_35 rfl (lv_at hl 1 rfl) ?_
  refine k_get (ci := 9) (C := RX6) (T := TX6) (N := 5) (v := .ref h1) hx hb hG inX6 hown hK hP 0 rfl rfl 0 (by decide) gw363 rfl dX6_isSound_36 ?_
  refine lv_iload_n hx hb dX6_isSound_39 rfl (lv_at hl 0 rfl) ?_
  refine ct_V (wr := [(h0, .inr (9, [.ref h1, .ref h2, .ref h3, .ref h4, .ref h5])), (h5, .inr (7, [.int 2, .int 0, .int 0, .int 0, .ref h31, .ref h32, .ref h33, .ref h34, .ref h35])), (h33, .inl (cA 0, 512, .inl (fun _ => 0))), (h34, .inl (cA 3, 512, .inl (fun _ => 0))), (h12, .inl (cA 1, 512, .inr (.inl (vp_updL (fun _ => 0) 0 1)))), (h16, .inr (8, [.ref h30])), (h30, .inl (cA 1, 8, .inr (.inl (vp_updL (vp_updL (vp_updL (vp_updL (vp_updL (vp_updL (vp_updL (vp_updL (fun _ => 0) 2 0) 3 0) 4 0) 5 0) 6 0) 7 0) 0 1) 1 0))))]) hSF hl.1 hP hD hS hA hK hGV (c428_X1_holdsAt l hfl D cA g h2 h1 h6 h7 h8 h9 h10 h11 h12 h13 h14 h15 h16 h17 h18 h19 h20 h21 h22 h23 h24 h25 h26 h27 h28 h29) goV_X6_138 pd_X1_holdsAt ⟨(Nat.le_of_ble_eq_true rfl), (Nat.le_of_ble_eq_true rfl)⟩ ⟨(Nat.le_of_ble_eq_true rfl), (Nat.le_of_ble_eq_true rfl)⟩ (va_recv hK hP (ci := 4) (q0 := 7) rfl rfl) dX6_isSound_40 rfl (Nat.le_of_ble_eq_true rfl) [7, 8] [0, 1, 2, 3, 4, 5, 6] rfl (by decide) rfl (by decide) (by decide) (fun q => [(h0, .inr (9, [.ref h1, .ref h2, .ref h3, .ref h4, .ref h5])), (h5, .inr (7, [.int 2, .int 0, .int 0, .int 0, .ref h31, .ref h32, .ref h33, .ref h34, .ref h35])), (h33, .inl (cA 0, 512, .inl (fun _ => 0))), (h34, .inl (cA 3, 512, .inl (fun _ => 0))), (h12, .inl (cA 1, 512, .inr (.inl (vp_updL (fun _ => 0) 0 1)))), (h16, .inr (8, [.ref h30])), (h30, .inl (cA 1, 8, .inr (.inl (vp_updL (vp_updL (vp_updL (vp_updL (vp_updL (vp_updL (vp_updL (vp_updL (fun _ => 0) 2 0) 3 0) 4 0) 5 0) 6 0) 7 0) 0 1) 1 0)))), (h2, .inr (4, [.int 1, .int 46, .long 1, .ref h6, .ref h7, .ref h8, .ref h9, .ref h10, .ref h11, .ref h12, .ref h13, .ref h14, .ref h15, .ref h16, .ref h17, .ref h18, .ref h19])), (h1, .inr (5, [.int 0, .int 0, .ref h20, .ref h21, .ref h22, .ref h23, .ref h24, .ref h25, .ref h26, .ref h27, .ref h28, .ref h29]))]) (fun _ => rfl) (fun q22 H locs hP hD hS => ?_)
  refine W.eq (g2 := F0 m 43 ls [.int 1]) rfl ?_
  refine k_if_ne_t (tgt := 48) hx hb dX6_isSound_43 (by decide) (by decide) ?_
  refine lv_iinc (v := 21) (lv' := [(1, .int 21), (0, .ref h0)]) hx hb dX6_isSound_48 hl (k := 0) rfl (by decide) (by decide) rfl (fun ls hl => ?_)
  refine lv_goto (tgt := 25) hx hb dX6_isSound_51 (by decide) ?_
  refine lv_iload_n hx hb dX6_isSound_25 rfl (lv_at hl 0 rfl) ?_
  refine lv_bipush (v := 30) hx hb dX6_isSound_26 (by decide) ?_
  refine k_icmp_gt_f (tgt := 54) hx hb dX6_isSound_28 (by decide) (by decide) ?_
  refine lv_aload_n hx hb dX6_isSound_31 rfl (lv_at hl 1 rfl) ?_
  refine k_get (ci := 9) (C := RX6) (T := TX6) (N := 5) (v := .ref h2) hx hb hG inX6 hown hK hP 0 rfl rfl 1 (by decide) gw364 rfl dX6_isSound_32 ?_
  refine lv_aload_n hx hb dX6_isSound_35 rfl (lv_at hl 1 rfl) ?_
  refine k_get (ci := 9) (C := RX6) (T := TX6) (N := 5) (v := .ref h1) hx hb hG inX6 hown hK hP 0 rfl rfl 0 (by decide) gw363 rfl dX6_isSound_36 ?_
  refine lv_iload_n hx hb dX6_isSound_39 rfl (lv_at hl 0 rfl) ?_
  refine ct_V (wr := [(h0, .inr (9, [.ref h1, .ref h2, .ref h3, .ref h4, .ref h5])), (h5, .inr (7, [.int 2, .int 0, .int 0, .int 0, .ref h31, .ref h32, .ref h33, .ref h34, .ref h35])), (h33, .inl (cA 0, 512, .inl (fun _ => 0))), (h34, .inl (cA 3, 512, .inl (fun _ => 0))), (h12, .inl (cA 1, 512, .inr (.inl (vp_updL (fun _ => 0) 0 1)))), (h16, .inr (8, [.ref h30])), (h30, .inl (cA 1, 8, .inr (.inl (vp_updL (vp_updL (vp_updL (vp_updL (vp_updL (vp_updL (vp_updL (vp_updL (fun _ => 0) 2 0) 3 0) 4 0) 5 0) 6 0) 7 0) 0 1) 1 0))))]) hSF hl.1 hP hD hS hA hK hGV (c431_X1_holdsAt l hfl D cA g h2 h1 h6 h7 h8 h9 h10 h11 h12 h13 h14 h15 h16 h17 h18 h19 h20 h21 h22 h23 h24 h25 h26 h27 h28 h29) goV_X6_138 pd_X1_holdsAt ⟨(Nat.le_of_ble_eq_true rfl), (Nat.le_of_ble_eq_true rfl)⟩ ⟨(Nat.le_of_ble_eq_true rfl), (Nat.le_of_ble_eq_true rfl)⟩ (va_recv hK hP (ci := 4) (q0 := 7) rfl rfl) dX6_isSound_40 rfl (Nat.le_of_ble_eq_true rfl) [7, 8] [0, 1, 2, 3, 4, 5, 6] rfl (by decide) rfl (by decide) (by decide) (fun q => [(h0, .inr (9, [.ref h1, .ref h2, .ref h3, .ref h4, .ref h5])), (h5, .inr (7, [.int 2, .int 0, .int 0, .int 0, .ref h31, .ref h32, .ref h33, .ref h34, .ref h35])), (h33, .inl (cA 0, 512, .inl (fun _ => 0))), (h34, .inl (cA 3, 512, .inl (fun _ => 0))), (h12, .inl (cA 1, 512, .inr (.inl (vp_updL (fun _ => 0) 0 1)))), (h16, .inr (8, [.ref h30])), (h30, .inl (cA 1, 8, .inr (.inl (vp_updL (vp_updL (vp_updL (vp_updL (vp_updL (vp_updL (vp_updL (vp_updL (fun _ => 0) 2 0) 3 0) 4 0) 5 0) 6 0) 7 0) 0 1) 1 0)))), (h2, .inr (4, [.int 1, .int 46, .long 1, .ref h6, .ref h7, .ref h8, .ref h9, .ref h10, .ref h11, .ref h12, .ref h13, .ref h14, .ref h15, .ref h16, .ref h17, .ref h18, .ref h19])), (h1, .inr (5, [.int 0, .int 0, .ref h20, .ref h21, .ref h22, .ref h23, .ref h24, .ref h25, .ref h26, .ref h27, .ref h28, .ref h29]))]) (fun _ => rfl) (fun q23 H locs hP hD hS => ?_)
  refine W.eq (g2 := F0 m 43 ls [.int 1]) rfl ?_
  refine k_if_ne_t (tgt := 48) hx hb dX6_isSound_43 (by decide) (by decide) ?_
  refine lv_iinc (v := 22) (lv' := [(1, .int 22), (0, .ref h0)]) hx hb dX6_isSound_48 hl (k := 0) rfl (by decide) (by decide) rfl (fun ls hl => ?_)
  refine lv_goto (tgt := 25) hx hb dX6_isSound_51 (by decide) ?_
  refine lv_iload_n hx hb dX6_isSound_25 rfl (lv_at hl 0 rfl) ?_
  refine lv_bipush (v := 30) hx hb dX6_isSound_26 (by decide) ?_
  refine k_icmp_gt_f (tgt := 54) hx hb dX6_isSound_28 (by decide) (by decide) ?_
  refine lv_aload_n hx hb dX6_isSound_31 rfl (lv_at hl 1 rfl) ?_
  refine k_get (ci := 9) (C := RX6) (T := TX6) (N := 5) (v := .ref h2) hx hb hG inX6 hown hK hP 0 rfl rfl 1 (by decide) gw364 rfl dX6_isSound_32 ?_
  refine lv_aload_n hx hb dX6_isSound_35 rfl (lv_at hl 1 rfl) ?_
  refine k_get (ci := 9) (C := RX6) (T := TX6) (N := 5) (v := .ref h1) hx hb hG inX6 hown hK hP 0 rfl rfl 0 (by decide) gw363 rfl dX6_isSound_36 ?_
  refine lv_iload_n hx hb dX6_isSound_39 rfl (lv_at hl 0 rfl) ?_
  refine ct_V (wr := [(h0, .inr (9, [.ref h1, .ref h2, .ref h3, .ref h4, .ref h5])), (h5, .inr (7, [.int 2, .int 0, .int 0, .int 0, .ref h31, .ref h32, .ref h33, .ref h34, .ref h35])), (h33, .inl (cA 0, 512, .inl (fun _ => 0))), (h34, .inl (cA 3, 512, .inl (fun _ => 0))), (h12, .inl (cA 1, 512, .inr (.inl (vp_updL (fun _ => 0) 0 1)))), (h16, .inr (8, [.ref h30])), (h30, .inl (cA 1, 8, .inr (.inl (vp_updL (vp_updL (vp_updL (vp_updL (vp_updL (vp_updL (vp_updL (vp_updL (fun _ => 0) 2 0) 3 0) 4 0) 5 0) 6 0) 7 0) 0 1) 1 0))))]) hSF hl.1 hP hD hS hA hK hGV (c434_X1_holdsAt l hfl D cA g h2 h1 h6 h7 h8 h9 h10 h11 h12 h13 h14 h15 h16 h17 h18 h19 h20 h21 h22 h23 h24 h25 h26 h27 h28 h29) goV_X6_138 pd_X1_holdsAt ⟨(Nat.le_of_ble_eq_true rfl), (Nat.le_of_ble_eq_true rfl)⟩ ⟨(Nat.le_of_ble_eq_true rfl), (Nat.le_of_ble_eq_true rfl)⟩ (va_recv hK hP (ci := 4) (q0 := 7) rfl rfl) dX6_isSound_40 rfl (Nat.le_of_ble_eq_true rfl) [7, 8] [0, 1, 2, 3, 4, 5, 6] rfl (by decide) rfl (by decide) (by decide) (fun q => [(h0, .inr (9, [.ref h1, .ref h2, .ref h3, .ref h4, .ref h5])), (h5, .inr (7, [.int 2, .int 0, .int 0, .int 0, .ref h31, .ref h32, .ref h33, .ref h34, .ref h35])), (h33, .inl (cA 0, 512, .inl (fun _ => 0))), (h34, .inl (cA 3, 512, .inl (fun _ => 0))), (h12, .inl (cA 1, 512, .inr (.inl (vp_updL (fun _ => 0) 0 1)))), (h16, .inr (8, [.ref h30])), (h30, .inl (cA 1, 8, .inr (.inl (vp_updL (vp_updL (vp_updL (vp_updL (vp_updL (vp_updL (vp_updL (vp_updL (fun _ => 0) 2 0) 3 0) 4 0) 5 0) 6 0) 7 0) 0 1) 1 0)))), (h2, .inr (4, [.int 1, .int 46, .long 1, .ref h6, .ref h7, .ref h8, .ref h9, .ref h10, .ref h11, .ref h12, .ref h13, .ref h14, .ref h15, .ref h16, .ref h17, .ref h18, .ref h19])), (h1, .inr (5, [.int 0, .int 0, .ref h20, .ref h21, .ref h22, .ref h23, .ref h24, .ref h25, .ref h26, .ref h27, .ref h28, .ref h29]))]) (fun _ => rfl) (fun q24 H locs hP hD hS => ?_)
  refine W.eq (g2 := F0 m 43 ls [.int 1]) rfl ?_
  refine k_if_ne_t (tgt := 48) hx hb dX6_isSound_43 (by decide) (by decide) ?_
  refine lv_iinc (v := 23) (lv' := [(1, .int 23), (0, .ref h0)]) hx hb dX6_isSound_48 hl (k := 0) rfl (by decide) (by decide) rfl (fun ls hl => ?_)
  refine lv_goto (tgt := 25) hx hb dX6_isSound_51 (by decide) ?_
  refine lv_iload_n hx hb dX6_isSound_25 rfl (lv_at hl 0 rfl) ?_
  refine lv_bipush (v := 30) hx hb dX6_isSound_26 (by decide) ?_
  refine k_icmp_gt_f (tgt := 54) hx hb dX6_isSound_28 (by decide) (by decide) ?_
  refine lv_aload_n hx hb dX6_isSound_31 rfl (lv_at hl 1 rfl) ?_
  refine k_get (ci := 9) (C := RX6) (T := TX6) (N := 5) (v := .ref h2) hx hb hG inX6 hown hK hP 0 rfl rfl 1 (by decide) gw364 rfl dX6_isSound_32 ?_
  refine lv_aload_n hx hb dX6_isSound_35 rfl (lv_at hl 1 rfl) ?_
  refine k_get (ci := 9) (C := RX6) (T := TX6) (N := 5) (v := .ref h1) hx hb hG inX6 hown hK hP 0 rfl rfl 0 (by decide) gw363 rfl dX6_isSound_36 ?_
  refine lv_iload_n hx hb dX6_isSound_39 rfl (lv_at hl 0 rfl) ?_
  refine ct_V (wr := [(h0, .inr (9, [.ref h1, .ref h2, .ref h3, .ref h4, .ref h5])), (h5, .inr (7, [.int 2, .int 0, .int 0, .int 0, .ref h31, .ref h32, .ref h33, .ref h34, .ref h35])), (h33, .inl (cA 0, 512, .inl (fun _ => 0))), (h34, .inl (cA 3, 512, .inl (fun _ => 0))), (h12, .inl (cA 1, 512, .inr (.inl (vp_updL (fun _ => 0) 0 1)))), (h16, .inr (8, [.ref h30])), (h30, .inl (cA 1, 8, .inr (.inl (vp_updL (vp_updL (vp_updL (vp_updL (vp_updL (vp_updL (vp_updL (vp_updL (fun _ => 0) 2 0) 3 0) 4 0) 5 0) 6 0) 7 0) 0 1) 1 0))))]) hSF hl.1 hP hD hS hA hK hGV (c437_X1_holdsAt l hfl D cA g h2 h1 h6 h7 h8 h9 h10 h11 h12 h13 h14 h15 h16 h17 h18 h19 h20 h21 h22 h23 h24 h25 h26 h27 h28 h29) goV_X6_138 pd_X1_holdsAt ⟨(Nat.le_of_ble_eq_true rfl), (Nat.le_of_ble_eq_true rfl)⟩ ⟨(Nat.le_of_ble_eq_true rfl), (Nat.le_of_ble_eq_true rfl)⟩ (va_recv hK hP (ci := 4) (q0 := 7) rfl rfl) dX6_isSound_40 rfl (Nat.le_of_ble_eq_true rfl) [7, 8] [0, 1, 2, 3, 4, 5, 6] rfl (by decide) rfl (by decide) (by decide) (fun q => [(h0, .inr (9, [.ref h1, .ref h2, .ref h3, .ref h4, .ref h5])), (h5, .inr (7, [.int 2, .int 0, .int 0, .int 0, .ref h31, .ref h32, .ref h33, .ref h34, .ref h35])), (h33, .inl (cA 0, 512, .inl (fun _ => 0))), (h34, .inl (cA 3, 512, .inl (fun _ => 0))), (h12, .inl (cA 1, 512, .inr (.inl (vp_updL (fun _ => 0) 0 1)))), (h16, .inr (8, [.ref h30])), (h30, .inl (cA 1, 8, .inr (.inl (vp_updL (vp_updL (vp_updL (vp_updL (vp_updL (vp_updL (vp_updL (vp_updL (fun _ => 0) 2 0) 3 0) 4 0) 5 0) 6 0) 7 0) 0 1) 1 0)))), (h2, .inr (4, [.int 1, .int 46, .long 1, .ref h6, .ref h7, .ref h8, .ref h9, .ref h10, .ref h11, .ref h12, .ref h13, .ref h14, .ref h15, .ref h16, .ref h17, .ref h18, .ref h19])), (h1, .inr (5, [.int 0, .int 0, .ref h20, .ref h21, .ref h22, .ref h23, .ref h24, .ref h25, .ref h26, .ref h27, .ref h28, .ref h29]))]) (fun _ => rfl) (fun q25 H locs hP hD hS => ?_)
  refine W.eq (g2 := F0 m 43 ls [.int 1]) rfl ?_
  refine k_if_ne_t (tgt := 48) hx hb dX6_isSound_43 (by decide) (by decide) ?_
  refine lv_iinc (v := 24) (lv' := [(1, .int 24), (0, .ref h0)]) hx hb dX6_isSound_48 hl (k := 0) rfl (by decide) (by decide) rfl (fun ls hl => ?_)
  refine lv_goto (tgt := 25) hx hb dX6_isSound_51 (by decide) ?_
  refine lv_iload_n hx hb dX6_isSound_25 rfl (lv_at hl 0 rfl) ?_
  refine lv_bipush (v := 30) hx hb dX6_isSound_26 (by decide) ?_
  refine k_icmp_gt_f (tgt := 54) hx hb dX6_isSound_28 (by decide) (by decide) ?_
  refine lv_aload_n hx hb dX6_isSound_31 rfl (lv_at hl 1 rfl) ?_
  refine k_get (ci := 9) (C := RX6) (T := TX6) (N := 5) (v := .ref h2) hx hb hG inX6 hown hK hP 0 rfl rfl 1 (by decide) gw364 rfl dX6_isSound_32 ?_
  refine lv_aload_n hx hb dX6_isSound_35 rfl (lv_at hl 1 rfl) ?_
  refine k_get (ci := 9) (C := RX6) (T := TX6) (N := 5) (v := .ref h1) hx hb hG inX6 hown hK hP 0 rfl rfl 0 (by decide) gw363 rfl dX6_isSound_36 ?_
  refine lv_iload_n hx hb dX6_isSound_39 rfl (lv_at hl 0 rfl) ?_
  refine ct_V (wr := [(h0, .inr (9, [.ref h1, .ref h2, .ref h3, .ref h4, .ref h5])), (h5, .inr (7, [.int 2, .int 0, .int 0, .int 0, .ref h31, .ref h32, .ref h33, .ref h34, .ref h35])), (h33, .inl (cA 0, 512, .inl (fun _ => 0))), (h34, .inl (cA 3, 512, .inl (fun _ => 0))), (h12, .inl (cA 1, 512, .inr (.inl (vp_updL (fun _ => 0) 0 1)))), (h16, .inr (8, [.ref h30])), (h30, .inl (cA 1, 8, .inr (.inl (vp_updL (vp_updL (vp_updL (vp_updL (vp_updL (vp_updL (vp_updL (vp_updL (fun _ => 0) 2 0) 3 0) 4 0) 5 0) 6 0) 7 0) 0 1) 1 0))))]) hSF hl.1 hP hD hS hA hK hGV (c440_X1_holdsAt l hfl D cA g h2 h1 h6 h7 h8 h9 h10 h11 h12 h13 h14 h15 h16 h17 h18 h19 h20 h21 h22 h23 h24 h25 h26 h27 h28 h29) goV_X6_138 pd_X1_holdsAt ⟨(Nat.le_of_ble_eq_true rfl), (Nat.le_of_ble_eq_true rfl)⟩ ⟨(Nat.le_of_ble_eq_true rfl), (Nat.le_of_ble_eq_true rfl)⟩ (va_recv hK hP (ci := 4) (q0 := 7) rfl rfl) dX6_isSound_40 rfl (Nat.le_of_ble_eq_true rfl) [7, 8] [0, 1, 2, 3, 4, 5, 6] rfl (by decide) rfl (by decide) (by decide) (fun q => [(h0, .inr (9, [.ref h1, .ref h2, .ref h3, .ref h4, .ref h5])), (h5, .inr (7, [.int 2, .int 0, .int 0, .int 0, .ref h31, .ref h32, .ref h33, .ref h34, .ref h35])), (h33, .inl (cA 0, 512, .inl (fun _ => 0))), (h34, .inl (cA 3, 512, .inl (fun _ => 0))), (h12, .inl (cA 1, 512, .inr (.inl (vp_updL (fun _ => 0) 0 1)))), (h16, .inr (8, [.ref h30])), (h30, .inl (cA 1, 8, .inr (.inl (vp_updL (vp_updL (vp_updL (vp_updL (vp_updL (vp_updL (vp_updL (vp_updL (fun _ => 0) 2 0) 3 0) 4 0) 5 0) 6 0) 7 0) 0 1) 1 0)))), (h2, .inr (4, [.int 1, .int 46, .long 1, .ref h6, .ref h7, .ref h8, .ref h9, .ref h10, .ref h11, .ref h12, .ref h13, .ref h14, .ref h15, .ref h16, .ref h17, .ref h18, .ref h19])), (h1, .inr (5, [.int 0, .int 0, .ref h20, .ref h21, .ref h22, .ref h23, .ref h24, .ref h25, .ref h26, .ref h27, .ref h28, .ref h29]))]) (fun _ => rfl) (fun q26 H locs hP hD hS => ?_)
  refine W.eq (g2 := F0 m 43 ls [.int 1]) rfl ?_
  refine k_if_ne_t (tgt := 48) hx hb dX6_isSound_43 (by decide) (by decide) ?_
  refine lv_iinc (v := 25) (lv' := [(1, .int 25), (0, .ref h0)]) hx hb dX6_isSound_48 hl (k := 0) rfl (by decide) (by decide) rfl (fun ls hl => ?_)
  refine lv_goto (tgt := 25) hx hb dX6_isSound_51 (by decide) ?_
  refine lv_iload_n hx hb dX6_isSound_25 rfl (lv_at hl 0 rfl) ?_
  refine lv_bipush (v := 30) hx hb dX6_isSound_26 (by decide) ?_
  refine k_icmp_gt_f (tgt := 54) hx hb dX6_isSound_28 (by decide) (by decide) ?_
  refine lv_aload_n hx hb dX6_isSound_31 rfl (lv_at hl 1 rfl) ?_
  refine k_get (ci := 9) (C := RX6) (T := TX6) (N := 5) (v := .ref h2) hx hb hG inX6 hown hK hP 0 rfl rfl 1 (by decide) gw364 rfl dX6_isSound_32 ?_
  refine lv_aload_n hx hb dX6_isSound_35 rfl (lv_at hl 1 rfl) ?_
  refine k_get (ci := 9) (C := RX6) (T := TX6) (N := 5) (v := .ref h1) hx hb hG inX6 hown hK hP 0 rfl rfl 0 (by decide) gw363 rfl dX6_isSound_36 ?_
  refine lv_iload_n hx hb dX6_isSound_39 rfl (lv_at hl 0 rfl) ?_
  refine ct_V (wr := [(h0, .inr (9, [.ref h1, .ref h2, .ref h3, .ref h4, .ref h5])), (h5, .inr (7, [.int 2, .int 0, .int 0, .int 0, .ref h31, .ref h32, .ref h33, .ref h34, .ref h35])), (h33, .inl (cA 0, 512, .inl (fun _ => 0))), (h34, .inl (cA 3, 512, .inl (fun _ => 0))), (h12, .inl (cA 1, 512, .inr (.inl (vp_updL (fun _ => 0) 0 1)))), (h16, .inr (8, [.ref h30])), (h30, .inl (cA 1, 8, .inr (.inl (vp_updL (vp_updL (vp_updL (vp_updL (vp_updL (vp_updL (vp_updL (vp_updL (fun _ => 0) 2 0) 3 0) 4 0) 5 0) 6 0) 7 0) 0 1) 1 0))))]) hSF hl.1 hP hD hS hA hK hGV (c443_X1_holdsAt l hfl D cA g h2 h1 h6 h7 h8 h9 h10 h11 h12 h13 h14 h15 h16 h17 h18 h19 h20 h21 h22 h23 h24 h25 h26 h27 h28 h29) goV_X6_138 pd_X1_holdsAt ⟨(Nat.le_of_ble_eq_true rfl), (Nat.le_of_ble_eq_true rfl)⟩ ⟨(Nat.le_of_ble_eq_true rfl), (Nat.le_of_ble_eq_true rfl)⟩ (va_recv hK hP (ci := 4) (q0 := 7) rfl rfl) dX6_isSound_40 rfl (Nat.le_of_ble_eq_true rfl) [7, 8] [0, 1, 2, 3, 4, 5, 6] rfl (by decide) rfl (by decide) (by decide) (fun q => [(h0, .inr (9, [.ref h1, .ref h2, .ref h3, .ref h4, .ref h5])), (h5, .inr (7, [.int 2, .int 0, .int 0, .int 0, .ref h31, .ref h32, .ref h33, .ref h34, .ref h35])), (h33, .inl (cA 0, 512, .inl (fun _ => 0))), (h34, .inl (cA 3, 512, .inl (fun _ => 0))), (h12, .inl (cA 1, 512, .inr (.inl (vp_updL (fun _ => 0) 0 1)))), (h16, .inr (8, [.ref h30])), (h30, .inl (cA 1, 8, .inr (.inl (vp_updL (vp_updL (vp_updL (vp_updL (vp_updL (vp_updL (vp_updL (vp_updL (fun _ => 0) 2 0) 3 0) 4 0) 5 0) 6 0) 7 0) 0 1) 1 0)))), (h2, .inr (4, [.int 1, .int 46, .long 1, .ref h6, .ref h7, .ref h8, .ref h9, .ref h10, .ref h11, .ref h12, .ref h13, .ref h14, .ref h15, .ref h16, .ref h17, .ref h18, .ref h19])), (h1, .inr (5, [.int 0, .int 0, .ref h20, .ref h21, .ref h22, .ref h23, .ref h24, .ref h25, .ref h26, .ref h27, .ref h28, .ref h29]))]) (fun _ => rfl) (fun q27 H locs hP hD hS => ?_)
  refine W.eq (g2 := F0 m 43 ls [.int 1]) rfl ?_
  refine k_if_ne_t (tgt := 48) hx hb dX6_isSound_43 (by decide) (by decide) ?_
  refine lv_iinc (v := 26) (lv' := [(1, .int 26), (0, .ref h0)]) hx hb dX6_isSound_48 hl (k := 0) rfl (by decide) (by decide) rfl (fun ls hl => ?_)
  refine lv_goto (tgt := 25) hx hb dX6_isSound_51 (by decide) ?_
  refine lv_iload_n hx hb dX6_isSound_25 rfl (lv_at hl 0 rfl) ?_
  refine lv_bipush (v := 30) hx hb dX6_isSound_26 (by decide) ?_
  refine k_icmp_gt_f (tgt := 54) hx hb dX6_isSound_28 (by decide) (by decide) ?_
  refine lv_aload_n hx hb dX6_isSound_31 rfl (lv_at hl 1 rfl) ?_
  refine k_get (ci := 9) (C := RX6) (T := TX6) (N := 5) (v := .ref h2) hx hb hG inX6 hown hK hP 0 rfl rfl 1 (by decide) gw364 rfl dX6_isSound_32 ?_
  refine lv_aload_n hx hb dX6_isSound_35 rfl (lv_at hl 1 rfl) ?_
  refine k_get (ci := 9) (C := RX6) (T := TX6) (N := 5) (v := .ref h1) hx hb hG inX6 hown hK hP 0 rfl rfl 0 (by decide) gw363 rfl dX6_isSound_36 ?_
  refine lv_iload_n hx hb dX6_isSound_39 rfl (lv_at hl 0 rfl) ?_
  refine ct_V (wr := [(h0, .inr (9, [.ref h1, .ref h2, .ref h3, .ref h4, .ref h5])), (h5, .inr (7, [.int 2, .int 0, .int 0, .int 0, .ref h31, .ref h32, .ref h33, .ref h34, .ref h35])), (h33, .inl (cA 0, 512, .inl (fun _ => 0))), (h34, .inl (cA 3, 512, .inl (fun _ => 0))), (h12, .inl (cA 1, 512, .inr (.inl (vp_updL (fun _ => 0) 0 1)))), (h16, .inr (8, [.ref h30])), (h30, .inl (cA 1, 8, .inr (.inl (vp_updL (vp_updL (vp_updL (vp_updL (vp_updL (vp_updL (vp_updL (vp_updL (fun _ => 0) 2 0) 3 0) 4 0) 5 0) 6 0) 7 0) 0 1) 1 0))))]) hSF hl.1 hP hD hS hA hK hGV (c446_X1_holdsAt l hfl D cA g h2 h1 h6 h7 h8 h9 h10 h11 h12 h13 h14 h15 h16 h17 h18 h19 h20 h21 h22 h23 h24 h25 h26 h27 h28 h29) goV_X6_138 pd_X1_holdsAt ⟨(Nat.le_of_ble_eq_true rfl), (Nat.le_of_ble_eq_true rfl)⟩ ⟨(Nat.le_of_ble_eq_true rfl), (Nat.le_of_ble_eq_true rfl)⟩ (va_recv hK hP (ci := 4) (q0 := 7) rfl rfl) dX6_isSound_40 rfl (Nat.le_of_ble_eq_true rfl) [7, 8] [0, 1, 2, 3, 4, 5, 6] rfl (by decide) rfl (by decide) (by decide) (fun q => [(h0, .inr (9, [.ref h1, .ref h2, .ref h3, .ref h4, .ref h5])), (h5, .inr (7, [.int 2, .int 0, .int 0, .int 0, .ref h31, .ref h32, .ref h33, .ref h34, .ref h35])), (h33, .inl (cA 0, 512, .inl (fun _ => 0))), (h34, .inl (cA 3, 512, .inl (fun _ => 0))), (h12, .inl (cA 1, 512, .inr (.inl (vp_updL (fun _ => 0) 0 1)))), (h16, .inr (8, [.ref h30])), (h30, .inl (cA 1, 8, .inr (.inl (vp_updL (vp_updL (vp_updL (vp_updL (vp_updL (vp_updL (vp_updL (vp_updL (fun _ => 0) 2 0) 3 0) 4 0) 5 0) 6 0) 7 0) 0 1) 1 0)))), (h2, .inr (4, [.int 1, .int 46, .long 1, .ref h6, .ref h7, .ref h8, .ref h9, .ref h10, .ref h11, .ref h12, .ref h13, .ref h14, .ref h15, .ref h16, .ref h17, .ref h18, .ref h19])), (h1, .inr (5, [.int 0, .int 0, .ref h20, .ref h21, .ref h22, .ref h23, .ref h24, .ref h25, .ref h26, .ref h27, .ref h28, .ref h29]))]) (fun _ => rfl) (fun q28 H locs hP hD hS => ?_)
  refine W.eq (g2 := F0 m 43 ls [.int 1]) rfl ?_
  refine k_if_ne_t (tgt := 48) hx hb dX6_isSound_43 (by decide) (by decide) ?_
  refine lv_iinc (v := 27) (lv' := [(1, .int 27), (0, .ref h0)]) hx hb dX6_isSound_48 hl (k := 0) rfl (by decide) (by decide) rfl (fun ls hl => ?_)
  refine lv_goto (tgt := 25) hx hb dX6_isSound_51 (by decide) ?_
  refine lv_iload_n hx hb dX6_isSound_25 rfl (lv_at hl 0 rfl) ?_
  refine lv_bipush (v := 30) hx hb dX6_isSound_26 (by decide) ?_
  refine k_icmp_gt_f (tgt := 54) hx hb dX6_isSound_28 (by decide) (by decide) ?_
  refine lv_aload_n hx hb dX6_isSound_31 rfl (lv_at hl 1 rfl) ?_
  refine k_get (ci := 9) (C := RX6) (T := TX6) (N := 5) (v := .ref h2) hx hb hG inX6 hown hK hP 0 rfl rfl 1 (by decide) gw364 rfl dX6_isSound_32 ?_
  refine lv_aload_n hx hb dX6_isSound_35 rfl (lv_at hl 1 rfl) ?_
  refine k_get (ci := 9) (C := RX6) (T := TX6) (N := 5) (v := .ref h1) hx hb hG inX6 hown hK hP 0 rfl rfl 0 (by decide) gw363 rfl dX6_isSound_36 ?_
  refine lv_iload_n hx hb dX6_isSound_39 rfl (lv_at hl 0 rfl) ?_
  refine ct_V (wr := [(h0, .inr (9, [.ref h1, .ref h2, .ref h3, .ref h4, .ref h5])), (h5, .inr (7, [.int 2, .int 0, .int 0, .int 0, .ref h31, .ref h32, .ref h33, .ref h34, .ref h35])), (h33, .inl (cA 0, 512, .inl (fun _ => 0))), (h34, .inl (cA 3, 512, .inl (fun _ => 0))), (h12, .inl (cA 1, 512, .inr (.inl (vp_updL (fun _ => 0) 0 1)))), (h16, .inr (8, [.ref h30])), (h30, .inl (cA 1, 8, .inr (.inl (vp_updL (vp_updL (vp_updL (vp_updL (vp_updL (vp_updL (vp_updL (vp_updL (fun _ => 0) 2 0) 3 0) 4 0) 5 0) 6 0) 7 0) 0 1) 1 0))))]) hSF hl.1 hP hD hS hA hK hGV (c449_X1_holdsAt l hfl D cA g h2 h1 h6 h7 h8 h9 h10 h11 h12 h13 h14 h15 h16 h17 h18 h19 h20 h21 h22 h23 h24 h25 h26 h27 h28 h29) goV_X6_138 pd_X1_holdsAt ⟨(Nat.le_of_ble_eq_true rfl), (Nat.le_of_ble_eq_true rfl)⟩ ⟨(Nat.le_of_ble_eq_true rfl), (Nat.le_of_ble_eq_true rfl)⟩ (va_recv hK hP (ci := 4) (q0 := 7) rfl rfl) dX6_isSound_40 rfl (Nat.le_of_ble_eq_true rfl) [7, 8] [0, 1, 2, 3, 4, 5, 6] rfl (by decide) rfl (by decide) (by decide) (fun q => [(h0, .inr (9, [.ref h1, .ref h2, .ref h3, .ref h4, .ref h5])), (h5, .inr (7, [.int 2, .int 0, .int 0, .int 0, .ref h31, .ref h32, .ref h33, .ref h34, .ref h35])), (h33, .inl (cA 0, 512, .inl (fun _ => 0))), (h34, .inl (cA 3, 512, .inl (fun _ => 0))), (h12, .inl (cA 1, 512, .inr (.inl (vp_updL (fun _ => 0) 0 1)))), (h16, .inr (8, [.ref h30])), (h30, .inl (cA 1, 8, .inr (.inl (vp_updL (vp_updL (vp_updL (vp_updL (vp_updL (vp_updL (vp_updL (vp_updL (fun _ => 0) 2 0) 3 0) 4 0) 5 0) 6 0) 7 0) 0 1) 1 0)))), (h2, .inr (4, [.int 1, .int 46, .long 1, .ref h6, .ref h7, .ref h8, .ref h9, .ref h10, .ref h11, .ref h12, .ref h13, .ref h14, .ref h15, .ref h16, .ref h17, .ref h18, .ref h19])), (h1, .inr (5, [.int 0, .int 0, .ref h20, .ref h21, .ref h22, .ref h23, .ref h24, .ref h25, .ref h26, .ref h27, .ref h28, .ref h29]))]) (fun _ => rfl) (fun q29 H locs hP hD hS => ?_)
  refine W.eq (g2 := F0 m 43 ls [.int 1]) rfl ?_
  refine k_if_ne_t (tgt := 48) hx hb dX6_isSound_43 (by decide) (by decide) ?_
  refine lv_iinc (v := 28) (lv' := [(1, .int 28), (0, .ref h0)]) hx hb dX6_isSound_48 hl (k := 0) rfl (by decide) (by decide) rfl (fun ls hl => ?_)
  refine lv_goto (tgt := 25) hx hb dX6_isSound_51 (by decide) ?_
  refine lv_iload_n hx hb dX6_isSound_25 rfl (lv_at hl 0 rfl) ?_
  refine lv_bipush (v := 30) hx hb dX6_isSound_26 (by decide) ?_
  refine k_icmp_gt_f (tgt := 54) hx hb dX6_isSound_28 (by decide) (by decide) ?_
  refine lv_aload_n hx hb dX6_isSound_31 rfl (lv_at hl 1 rfl) ?_
  refine k_get (ci := 9) (C := RX6) (T := TX6) (N := 5) (v := .ref h2) hx hb hG inX6 hown hK hP 0 rfl rfl 1 (by decide) gw364 rfl dX6_isSound_32 ?_
  refine lv_aload_n hx hb dX6_isSound_35 rfl (lv_at hl 1 rfl) ?_
  refine k_get (ci := 9) (C := RX6) (T := TX6) (N := 5) (v := .ref h1) hx hb hG inX6 hown hK hP 0 rfl rfl 0 (by decide) gw363 rfl dX6_isSound_36 ?_
  refine lv_iload_n hx hb dX6_isSound_39 rfl (lv_at hl 0 rfl) ?_
  refine ct_V (wr := [(h0, .inr (9, [.ref h1, .ref h2, .ref h3, .ref h4, .ref h5])), (h5, .inr (7, [.int 2, .int 0, .int 0, .int 0, .ref h31, .ref h32, .ref h33, .ref h34, .ref h35])), (h33, .inl (cA 0, 512, .inl (fun _ => 0))), (h34, .inl (cA 3, 512, .inl (fun _ => 0))), (h12, .inl (cA 1, 512, .inr (.inl (vp_updL (fun _ => 0) 0 1)))), (h16, .inr (8, [.ref h30])), (h30, .inl (cA 1, 8, .inr (.inl (vp_updL (vp_updL (vp_updL (vp_updL (vp_updL (vp_updL (vp_updL (vp_updL (fun _ => 0) 2 0) 3 0) 4 0) 5 0) 6 0) 7 0) 0 1) 1 0))))]) hSF hl.1 hP hD hS hA hK hGV (c452_X1_holdsAt l hfl D cA g h2 h1 h6 h7 h8 h9 h10 h11 h12 h13 h14 h15 h16 h17 h18 h19 h20 h21 h22 h23 h24 h25 h26 h27 h28 h29) goV_X6_138 pd_X1_holdsAt ⟨(Nat.le_of_ble_eq_true rfl), (Nat.le_of_ble_eq_true rfl)⟩ ⟨(Nat.le_of_ble_eq_true rfl), (Nat.le_of_ble_eq_true rfl)⟩ (va_recv hK hP (ci := 4) (q0 := 7) rfl rfl) dX6_isSound_40 rfl (Nat.le_of_ble_eq_true rfl) [7, 8] [0, 1, 2, 3, 4, 5, 6] rfl (by decide) rfl (by decide) (by decide) (fun q => [(h0, .inr (9, [.ref h1, .ref h2, .ref h3, .ref h4, .ref h5])), (h5, .inr (7, [.int 2, .int 0, .int 0, .int 0, .ref h31, .ref h32, .ref h33, .ref h34, .ref h35])), (h33, .inl (cA 0, 512, .inl (fun _ => 0))), (h34, .inl (cA 3, 512, .inl (fun _ => 0))), (h12, .inl (cA 1, 512, .inr (.inl (vp_updL (fun _ => 0) 0 1)))), (h16, .inr (8, [.ref h30])), (h30, .inl (cA 1, 8, .inr (.inl (vp_updL (vp_updL (vp_updL (vp_updL (vp_updL (vp_updL (vp_updL (vp_updL (fun _ => 0) 2 0) 3 0) 4 0) 5 0) 6 0) 7 0) 0 1) 1 0)))), (h2, .inr (4, [.int 1, .int 46, .long 1, .ref h6, .ref h7, .ref h8, .ref h9, .ref h10, .ref h11, .ref h12, .ref h13, .ref h14, .ref h15, .ref h16, .ref h17, .ref h18, .ref h19])), (h1, .inr (5, [.int 0, .int 0, .ref h20, .ref h21, .ref h22, .ref h23, .ref h24, .ref h25, .ref h26, .ref h27, .ref h28, .ref h29]))]) (fun _ => rfl) (fun q30 H locs hP hD hS => ?_)
  refine W.eq (g2 := F0 m 43 ls [.int 1]) rfl ?_
  refine k_if_ne_t (tgt := 48) hx hb dX6_isSound_43 (by decide) (by decide) ?_
  refine lv_iinc (v := 29) (lv' := [(1, .int 29), (0, .ref h0)]) hx hb dX6_isSound_48 hl (k := 0) rfl (by decide) (by decide) rfl (fun ls hl => ?_)
  refine lv_goto (tgt := 25) hx hb dX6_isSound_51 (by decide) ?_
  refine lv_iload_n hx hb dX6_isSound_25 rfl (lv_at hl 0 rfl) ?_
  refine lv_bipush (v := 30) hx hb dX6_isSound_26 (by decide) ?_
  refine k_icmp_gt_f (tgt := 54) hx hb dX6_isSound_28 (by decide) (by decide) ?_
  refine lv_aload_n hx hb dX6_isSound_31 rfl (lv_at hl 1 rfl) ?_
  refine k_get (ci := 9) (C := RX6) (T := TX6) (N := 5) (v := .ref h2) hx hb hG inX6 hown hK hP 0 rfl rfl 1 (by decide) gw364 rfl dX6_isSound_32 ?_
  refine lv_aload_n hx hb dX6_isSound_35 rfl (lv_at hl 1 rfl) ?_
  refine k_get (ci := 9) (C := RX6) (T := TX6) (N := 5) (v := .ref h1) hx hb hG inX6 hown hK hP 0 rfl rfl 0 (by decide) gw363 rfl dX6_isSound_36 ?_
  refine lv_iload_n hx hb dX6_isSound_39 rfl (lv_at hl 0 rfl) ?_
  refine ct_V (wr := [(h0, .inr (9, [.ref h1, .ref h2, .ref h3, .ref h4, .ref h5])), (h5, .inr (7, [.int 2, .int 0, .int 0, .int 0, .ref h31, .ref h32, .ref h33, .ref h34, .ref h35])), (h33, .inl (cA 0, 512, .inl (fun _ => 0))), (h34, .inl (cA 3, 512, .inl (fun _ => 0))), (h12, .inl (cA 1, 512, .inr (.inl (vp_updL (fun _ => 0) 0 1)))), (h16, .inr (8, [.ref h30])), (h30, .inl (cA 1, 8, .inr (.inl (vp_updL (vp_updL (vp_updL (vp_updL (vp_updL (vp_updL (vp_updL (vp_updL (fun _ => 0) 2 0) 3 0) 4 0) 5 0) 6 0) 7 0) 0 1) 1 0))))]) hSF hl.1 hP hD hS hA hK hGV (c455_X1_holdsAt l hfl D cA g h2 h1 h6 h7 h8 h9 h10 h11 h12 h13 h14 h15 h16 h17 h18 h19 h20 h21 h22 h23 h24 h25 h26 h27 h28 h29) goV_X6_138 pd_X1_holdsAt ⟨(Nat.le_of_ble_eq_true rfl), (Nat.le_of_ble_eq_true rfl)⟩ ⟨(Nat.le_of_ble_eq_true rfl), (Nat.le_of_ble_eq_true rfl)⟩ (va_recv hK hP (ci := 4) (q0 := 7) rfl rfl) dX6_isSound_40 rfl (Nat.le_of_ble_eq_true rfl) [7, 8] [0, 1, 2, 3, 4, 5, 6] rfl (by decide) rfl (by decide) (by decide) (fun q => [(h0, .inr (9, [.ref h1, .ref h2, .ref h3, .ref h4, .ref h5])), (h5, .inr (7, [.int 2, .int 0, .int 0, .int 0, .ref h31, .ref h32, .ref h33, .ref h34, .ref h35])), (h33, .inl (cA 0, 512, .inl (fun _ => 0))), (h34, .inl (cA 3, 512, .inl (fun _ => 0))), (h12, .inl (cA 1, 512, .inr (.inl (vp_updL (fun _ => 0) 0 1)))), (h16, .inr (8, [.ref h30])), (h30, .inl (cA 1, 8, .inr (.inl (vp_updL (vp_updL (vp_updL (vp_updL (vp_updL (vp_updL (vp_updL (vp_updL (fun _ => 0) 2 0) 3 0) 4 0) 5 0) 6 0) 7 0) 0 1) 1 0)))), (h2, .inr (4, [.int 1, .int 46, .long 1, .ref h6, .ref h7, .ref h8, .ref h9, .ref h10, .ref h11, .ref h12, .ref h13, .ref h14, .ref h15, .ref h16, .ref h17, .ref h18, .ref h19])), (h1, .inr (5, [.int 0, .int 0, .ref h20, .ref h21, .ref h22, .ref h23, .ref h24, .ref h25, .ref h26, .ref h27, .ref h28, .ref h29]))]) (fun _ => rfl) (fun q31 H locs hP hD hS => ?_)
  refine W.eq (g2 := F0 m 43 ls [.int 1]) rfl ?_
  refine k_if_ne_t (tgt := 48) hx hb dX6_isSound_43 (by decide) (by decide) ?_
  refine lv_iinc (v := 30) (lv' := [(1, .int 30), (0, .ref h0)]) hx hb dX6_isSound_48 hl (k := 0) rfl (by decide) (by decide) rfl (fun ls hl => ?_)
  refine lv_goto (tgt := 25) hx hb dX6_isSound_51 (by decide) ?_
  refine lv_iload_n hx hb dX6_isSound_25 rfl (lv_at hl 0 rfl) ?_
  refine lv_bipush (v := 30) hx hb dX6_isSound_26 (by decide) ?_
  refine k_icmp_gt_f (tgt := 54) hx hb dX6_isSound_28 (by decide) (by decide) ?_
  refine lv_aload_n hx hb dX6_isSound_31 rfl (lv_at hl 1 rfl) ?_
  refine k_get (ci := 9) (C := RX6) (T := TX6) (N := 5) (v := .ref h2) hx hb hG inX6 hown hK hP 0 rfl rfl 1 (by decide) gw364 rfl dX6_isSound_32 ?_
  refine lv_aload_n hx hb dX6_isSound_35 rfl (lv_at hl 1 rfl) ?_
  refine k_get (ci := 9) (C := RX6) (T := TX6) (N := 5) (v := .ref h1) hx hb hG inX6 hown hK hP 0 rfl rfl 0 (by decide) gw363 rfl dX6_isSound_36 ?_
  refine lv_iload_n hx hb dX6_isSound_39 rfl (lv_at hl 0 rfl) ?_
  refine ct_V (wr := [(h0, .inr (9, [.ref h1, .ref h2, .ref h3, .ref h4, .ref h5])), (h5, .inr (7, [.int 2, .int 0, .int 0, .int 0, .ref h31, .ref h32, .ref h33, .ref h34, .ref h35])), (h33, .inl (cA 0, 512, .inl (fun _ => 0))), (h34, .inl (cA 3, 512, .inl (fun _ => 0))), (h12, .inl (cA 1, 512, .inr (.inl (vp_updL (fun _ => 0) 0 1)))), (h16, .inr (8, [.ref h30])), (h30, .inl (cA 1, 8, .inr (.inl (vp_updL (vp_updL (vp_updL (vp_updL (vp_updL (vp_updL (vp_updL (vp_updL (fun _ => 0) 2 0) 3 0) 4 0) 5 0) 6 0) 7 0) 0 1) 1 0))))]) hSF hl.1 hP hD hS hA hK hGV (c458_X1_holdsAt l hfl D cA g h2 h1 h6 h7 h8 h9 h10 h11 h12 h13 h14 h15 h16 h17 h18 h19 h20 h21 h22 h23 h24 h25 h26 h27 h28 h29) goV_X6_138 pd_X1_holdsAt ⟨(Nat.le_of_ble_eq_true rfl), (Nat.le_of_ble_eq_true rfl)⟩ ⟨(Nat.le_of_ble_eq_true rfl), (Nat.le_of_ble_eq_true rfl)⟩ (va_recv hK hP (ci := 4) (q0 := 7) rfl rfl) dX6_isSound_40 rfl (Nat.le_of_ble_eq_true rfl) [7, 8] [0, 1, 2, 3, 4, 5, 6] rfl (by decide) rfl (by decide) (by decide) (fun q => [(h0, .inr (9, [.ref h1, .ref h2, .ref h3, .ref h4, .ref h5])), (h5, .inr (7, [.int 2, .int 0, .int 0, .int 0, .ref h31, .ref h32, .ref h33, .ref h34, .ref h35])), (h33, .inl (cA 0, 512, .inl (fun _ => 0))), (h34, .inl (cA 3, 512, .inl (fun _ => 0))), (h12, .inl (cA 1, 512, .inr (.inl (vp_updL (fun _ => 0) 0 1)))), (h16, .inr (8, [.ref h30])), (h30, .inl (cA 1, 8, .inr (.inl (vp_updL (vp_updL (vp_updL (vp_updL (vp_updL (vp_updL (vp_updL (vp_updL (fun _ => 0) 2 0) 3 0) 4 0) 5 0) 6 0) 7 0) 0 1) 1 0)))), (h2, .inr (4, [.int 1, .int 46, .long 1, .ref h6, .ref h7, .ref h8, .ref h9, .ref h10, .ref h11, .ref h12, .ref h13, .ref h14, .ref h15, .ref h16, .ref h17, .ref h18, .ref h19])), (h1, .inr (5, [.int 0, .int 0, .ref h20, .ref h21, .ref h22, .ref h23, .ref h24, .ref h25, .ref h26, .ref h27, .ref h28, .ref h29]))]) (fun _ => rfl) (fun q32 H locs hP hD hS => ?_)
  refine W.eq (g2 := F0 m 43 ls [.int 1]) rfl ?_
  refine k_if_ne_t (tgt := 48) hx hb dX6_isSound_43 (by decide) (by decide) ?_
  refine lv_iinc (v := 31) (lv' := [(1, .int 31), (0, .ref h0)]) hx hb dX6_isSound_48 hl (k := 0) rfl (by decide) (by decide) rfl (fun ls hl => ?_)
  refine lv_goto (tgt := 25) hx hb dX6_isSound_51 (by decide) ?_
  refine lv_iload_n hx hb dX6_isSound_25 rfl (lv_at hl 0 rfl) ?_
  refine lv_bipush (v := 30) hx hb dX6_isSound_26 (by decide) ?_
  refine k_icmp_gt_t (tgt := 54) hx hb dX6_isSound_28 (by decide) (by decide) ?_
  refine lv_aload_n hx hb dX6_isSound_54 rfl (lv_at hl 1 rfl) ?_
  refine ct_V (wr := [(h12, .inl (cA 1, 512, .inr (.inl (vp_updL (fun _ => 0) 0 1)))), (h16, .inr (8, [.ref h30])), (h30, .inl (cA 1, 8, .inr (.inl (vp_updL (vp_updL (vp_updL (vp_updL (vp_updL (vp_updL (vp_updL (vp_updL (fun _ => 0) 2 0) 3 0) 4 0) 5 0) 6 0) 7 0) 0 1) 1 0)))), (h2, .inr (4, [.int 1, .int 46, .long 1, .ref h6, .ref h7, .ref h8, .ref h9, .ref h10, .ref h11, .ref h12, .ref h13, .ref h14, .ref h15, .ref h16, .ref h17, .ref h18, .ref h19]))]) hSF hl.1 hP hD hS hA hK hGV (c335_X6_canRaise l hfl D cA g h0 h1 h2 h3 h4 h5 h31 h32 h33 h34 h35 h20 h21 h22 h23 h24 h25 h26 h27 h28 h29) goV_X6_273 pd_X6_canRaise ⟨(Nat.le_of_ble_eq_true rfl), (Nat.le_of_ble_eq_true rfl)⟩ ⟨(Nat.le_of_ble_eq_true rfl), (Nat.le_of_ble_eq_true rfl)⟩ (va_recv hK hP (ci := 9) (q0 := 0) rfl rfl) dX6_isSound_55 rfl (Nat.le_of_ble_eq_true rfl) [0, 1, 8, 2, 3] [4, 5, 6, 7] rfl (by decide) rfl (by decide) (by decide) (fun q => [(h12, .inl (cA 1, 512, .inr (.inl (vp_updL (fun _ => 0) 0 1)))), (h16, .inr (8, [.ref h30])), (h30, .inl (cA 1, 8, .inr (.inl (vp_updL (vp_updL (vp_updL (vp_updL (vp_updL (vp_updL (vp_updL (vp_updL (fun _ => 0) 2 0) 3 0) 4 0) 5 0) 6 0) 7 0) 0 1) 1 0)))), (h2, .inr (4, [.int 1, .int 46, .long 1, .ref h6, .ref h7, .ref h8, .ref h9, .ref h10, .ref h11, .ref h12, .ref h13, .ref h14, .ref h15, .ref h16, .ref h17, .ref h18, .ref h19])), (h0, .inr (9, [.ref h1, .ref h2, .ref h3, .ref h4, .ref h5])), (h5, .inr (7, [.int 2, .int 1, .int 0, .int 0, .ref h31, .ref h32, .ref h33, .ref h34, .ref h35])), (h1, .inr (5, [.int 0, .int 0, .ref h20, .ref h21, .ref h22, .ref h23, .ref h24, .ref h25, .ref h26, .ref h27, .ref h28, .ref h29])), (h33, .inl (cA 0, 512, .inl (upd (fun _ => 0) 0 1))), (h34, .inl (cA 3, 512, .inl (upd (fun _ => 0) 0 1)))]) (fun _ => rfl) (fun q33 H locs hP hD hS => ?_)
  refine W.eq (g2 := F0 m 58 ls [.int 1]) rfl ?_
  refine lv_aload_n hx hb dX6_isSound_58 rfl (lv_at hl 1 rfl) ?_
  refine ct_V (wr := [(h12, .inl (cA 1, 512, .inr (.inl (vp_updL (fun _ => 0) 0 1)))), (h16, .inr (8, [.ref h30])), (h30, .inl (cA 1, 8, .inr (.inl (vp_updL (vp_updL (vp_updL (vp_updL (vp_updL (vp_updL (vp_updL (vp_updL (fun _ => 0) 2 0) 3 0) 4 0) 5 0) 6 0) 7 0) 0 1) 1 0)))), (h2, .inr (4, [.int 1, .int 46, .long 1, .ref h6, .ref h7, .ref h8, .ref h9, .ref h10, .ref h11, .ref h12, .ref h13, .ref h14, .ref h15, .ref h16, .ref h17, .ref h18, .ref h19])), (h1, .inr (5, [.int 0, .int 0, .ref h20, .ref h21, .ref h22, .ref h23, .ref h24, .ref h25, .ref h26, .ref h27, .ref h28, .ref h29])), (h33, .inl (cA 0, 512, .inl (upd (fun _ => 0) 0 1)))]) hSF hl.1 hP hD hS hA hK hGV (c460_X6_canTakeAway l hfl D cA g h0 h1 h2 h3 h4 h5 h31 h32 h33 h34 h35) goV_X6_277 pd_X6_canTakeAway ⟨(Nat.le_of_ble_eq_true rfl), (Nat.le_of_ble_eq_true rfl)⟩ ⟨(Nat.le_of_ble_eq_true rfl), (Nat.le_of_ble_eq_true rfl)⟩ (va_recv hK hP (ci := 9) (q0 := 4) rfl rfl) dX6_isSound_59 rfl (Nat.le_of_ble_eq_true rfl) [4, 5, 8] [0, 1, 2, 3, 6, 7] rfl (by decide) rfl (by decide) (by decide) (fun q => [(h12, .inl (cA 1, 512, .inr (.inl (vp_updL (fun _ => 0) 0 1)))), (h16, .inr (8, [.ref h30])), (h30, .inl (cA 1, 8, .inr (.inl (vp_updL (vp_updL (vp_updL (vp_updL (vp_updL (vp_updL (vp_updL (vp_updL (fun _ => 0) 2 0) 3 0) 4 0) 5 0) 6 0) 7 0) 0 1) 1 0)))), (h2, .inr (4, [.int 1, .int 46, .long 1, .ref h6, .ref h7, .ref h8, .ref h9, .ref h10, .ref h11, .ref h12, .ref h13, .ref h14, .ref h15, .ref h16, .ref h17, .ref h18, .ref h19])), (h1, .inr (5, [.int 0, .int 0, .ref h20, .ref h21, .ref h22, .ref h23, .ref h24, .ref h25, .ref h26, .ref h27, .ref h28, .ref h29])), (h33, .inl (cA 0, 512, .inl (upd (fun _ => 0) 0 1))), (h0, .inr (9, [.ref h1, .ref h2, .ref h3, .ref h4, .ref h5])), (h5, .inr (7, [.int 2, .int 1, .int 0, .int 0, .ref h31, .ref h32, .ref h33, .ref h34, .ref h35])), (h34, .inl (cA 3, 512, .inl (upd (fun _ => 0) 0 1)))]) (fun _ => rfl) (fun q34 H locs hP hD hS => ?_)
  refine W.eq (g2 := F0 m 62 ls [.int 1, .int 1]) rfl ?_
  refine k_icmp_ne_f (tgt := 69) hx hb dX6_isSound_62 (by decide) (by decide) ?_
  refine lv_iconst (v := 1) hx hb dX6_isSound_65 (by decide) ?_
  refine lv_goto (tgt := 70) hx hb dX6_isSound_66 (by decide) ?_
  exact e_i (fun _ => 0) hx hb hr hlocks rfl rfl (hP.sub [6, 3, 4, 0, 1, 2, 7, 5, 8] rfl) (hD.sub [6, 3, 4, 0, 1, 2, 7, 5, 8] (by decide) rfl) hS (Nat.le_of_ble_eq_true rfl) (Nat.le_of_ble_eq_true rfl) dX6_isSound_70
set_option maxHeartbeats 4000000 in
set_option maxRecDepth 100000 in
theorem c462_X12_isSound (l : Launch) (hfl : l.stackTraces = false) (D : va_G) (cA : Nat → ClassId) (g : gv_T) (h0 h1 h2 h3 h4 h5 h6 h7 h8 h9 h10 h11 h12 h13 h14 h15 h16 h17 h18 : Nat) : CT l yX12_isSound cX12_isSound 1 (some .boolean) (RM 1 0 0 21) D cA g [.ref h0] [(h0, .inr (15, [.ref h1, .ref h2, .ref h3, .ref h4, .ref h5, .ref h6, .ref h7, .ref h8, .ref h9, .ref h10, .ref h11, .ref h12, .ref h13, .ref h14, .ref h15, .ref h16, .ref h17, .ref h18, .long 0, .int 0, .int 2, .int 0, .int 0, .int 0, .int 0, .int 0, .int 0]))] (fun q => some (.int 1)) (fun q => [(h0, .inr (15, [.ref h1, .ref h2, .ref h3, .ref h4, .ref h5, .ref h6, .ref h7, .ref h8, .ref h9, .ref h10, .ref h11, .ref h12, .ref h13, .ref h14, .ref h15, .ref h16, .ref h17, .ref h18, .long 0, .int 0, .int 2, .int 0, .int 0, .int 0, .int 0, .int 0, .int 0]))]) := by
  refine CT.of (by decide +kernel) (Nat.le_of_ble_eq_true rfl) ?_
  intro p e s m args below meth c A ls hx hb hr hml hown hG hlocks hnm hA hS hP hK hD hGV hl
  have hown : s.vm.findClass RX12 = some m.cls := hown
  have hl : lv_has ls 1 [(0, .ref h0)] := hl
  have hSF : CF p m c cX12_isSound 1 s args RX12 := ⟨hx, hb, hml, hown, hG⟩
  refine lv_aload_n hx hb dX12_isSound_0 rfl (lv_at hl 0 rfl) ?_
  refine lv_iconst (v := 1) hx hb dX12_isSound_1 (by decide) ?_
  refine ct_V (wr := []) hSF hl.1 hP hD hS hA hK hGV (c340_X12_tells l hfl D cA g h0 h1 h2 h3 h4 h5 h6 h7 h8 h9 h10 h11 h12 h13 h14 h15 h16 h17 h18) goV_X12_343 pd_X12_tells ⟨(Nat.le_of_ble_eq_true rfl), (Nat.le_of_ble_eq_true rfl)⟩ ⟨(Nat.le_of_ble_eq_true rfl), (Nat.le_of_ble_eq_true rfl)⟩ (va_recv hK hP (ci := 15) (q0 := 0) rfl rfl) dX12_isSound_2 rfl (Nat.le_of_ble_eq_true rfl) [0] [] rfl (by decide) rfl (by decide) (by decide) (fun q => [(h0, .inr (15, [.ref h1, .ref h2, .ref h3, .ref h4, .ref h5, .ref h6, .ref h7, .ref h8, .ref h9, .ref h10, .ref h11, .ref h12, .ref h13, .ref h14, .ref h15, .ref h16, .ref h17, .ref h18, .long 0, .int 0, .int 2, .int 0, .int 0, .int 0, .int 0, .int 0, .int 0]))]) (fun _ => rfl) (fun q1 H locs hP hD hS => ?_)
  refine W.eq (g2 := F0 m 5 ls [.int 1]) rfl ?_
  exact e_i (fun _ => 0) hx hb hr hlocks rfl rfl hP hD hS (Nat.le_of_ble_eq_true rfl) (Nat.le_of_ble_eq_true rfl) dX12_isSound_5
