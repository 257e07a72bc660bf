set_option maxHeartbeats 4000000 in
set_option maxRecDepth 100000 in
theorem m_L_cell (l : Launch) (hfl : l.stackTraces = false) (D : va_G) (ad : Nat → Nat) (cA : Nat → ClassId) (g : gv_T) (p1 : Int32) (σ : Sg) (Q : Int32 → Prop) (hw : w_L_cell g.2.2.2.2.1 g.2.2.2.2.2 p1 σ Q) : MC l yL_cell cL_cell 2 (some .int) (RM 0 0 0 0) D ad cA g [.ref g.2.2.2.1, .int p1] σ (fun v σ' => ∃ r : Int32, v = some (.int r) ∧ σ' = σ ∧ Q r) (fun _ _ => False) := by
  refine MC.of (plainFor_of_name (by decide +kernel)) (Nat.le_of_ble_eq_true rfl) ?_
  intro p e s m args below meth c A ls hx hb hr hml hown hG hlocks htab hA hS hP hK hD hGV hl
  have hown : s.vm.findClass RL = some m.cls := hown
  have hl : lv_has ls 2 [(0, .ref g.2.2.2.1), (1, .int p1)] := hl
  have hSF : CF p m c cL_cell 2 s args RL := ⟨hx, hb, hml, hown, hG⟩
  refine lv_iload_n hx hb dL_cell_0 rfl (lv_at hl 1 rfl) ?_
  refine lv_aload_n hx hb dL_cell_1 rfl (lv_at hl 0 rfl) ?_
  refine k_sclen hx hb hGV hS dL_cell_2 ?_
  refine lv_icmp_ge (tgt := 12) hx hb dL_cell_3 (by decide) (fun k1 => ?_) (fun k1 => ?_)
  · skip
    have hw := hw.1 k1
    refine lv_ldc hx hb hown (hG _ gw495) dL_cell_12 ?_
    refine lv_iload_n hx hb dL_cell_14 rfl (lv_at hl 1 rfl) ?_
    refine k_imul (v := 40503 * p1) hx hb dL_cell_15 rfl ?_
    exact vx_ret (m_i ⟨_, rfl, rfl, hw⟩ hx hb hr hlocks rfl hP hD hS (Nat.le_of_ble_eq_true rfl) (Nat.le_of_ble_eq_true rfl) dL_cell_16)
  · skip
    have hw := hw.2 k1
    refine lv_aload_n hx hb dL_cell_6 rfl (lv_at hl 0 rfl) ?_
    refine lv_iload_n hx hb dL_cell_7 rfl (lv_at hl 1 rfl) ?_
    obtain ⟨hc2, hw⟩ := hw
    refine k_script hx hb hGV hS hc2 dL_cell_8 ?_
    refine lv_goto (tgt := 16) hx hb dL_cell_9 (by decide) ?_
    exact vx_ret (m_i ⟨_, rfl, rfl, hw⟩ hx hb hr hlocks rfl hP hD hS (Nat.le_of_ble_eq_true rfl) (Nat.le_of_ble_eq_true rfl) dL_cell_16)

set_option maxHeartbeats 4000000 in
set_option maxRecDepth 100000 in
theorem m_L_pick (l : Launch) (hfl : l.stackTraces = false) (D : va_G) (ad : Nat → Nat) (cA : Nat → ClassId) (g : gv_T) (p1 : Int32) (p2 : Int32) (σ : Sg) (Q : Int32 → Prop) (hw : w_L_pick g.2.2.2.2.1 g.2.2.2.2.2 p1 p2 σ Q) : MC l yL_pick cL_pick 3 (some .int) (RM 1 0 0 21) D ad cA g [.ref g.2.2.2.1, .int p1, .int p2] σ (fun v σ' => ∃ r : Int32, v = some (.int r) ∧ σ' = σ ∧ Q r) (fun _ _ => False) := by
  refine MC.of (plainFor_of_name (by decide +kernel)) (Nat.le_of_ble_eq_true rfl) ?_
  intro p e s m args below meth c A ls hx hb hr hml hown hG hlocks htab hA hS hP hK hD hGV hl
  have hown : s.vm.findClass RL = some m.cls := hown
  have hl : lv_has ls 3 [(0, .ref g.2.2.2.1), (1, .int p1), (2, .int p2)] := hl
  have hSF : CF p m c cL_pick 3 s args RL := ⟨hx, hb, hml, hown, hG⟩
  refine lv_aload_n hx hb dL_pick_0 rfl (lv_at hl 0 rfl) ?_
  refine lv_iload_n hx hb dL_pick_1 rfl (lv_at hl 1 rfl) ?_
  refine mc_S hSF hl.1 hP hD hS hA hK hGV (m_L_cell l hfl D ad cA g p1 σ _ hw) goS_L_8 pd_L_cell.2 ⟨(Nat.le_of_ble_eq_true rfl), (Nat.le_of_ble_eq_true rfl)⟩ ⟨(Nat.le_of_ble_eq_true rfl), (Nat.le_of_ble_eq_true rfl)⟩ dL_pick_2 rfl (Nat.le_of_ble_eq_true rfl) (fun v9 σ9 H locs hq hP hD hS => ?_) (fun _ _ _ _ _ _ h => h.elim)
  obtain ⟨r1, hv9, hs9, hw⟩ := hq
  subst hv9
  subst σ9
  refine W.eq (g2 := F0 m 5 ls [.int r1]) rfl ?_
  refine W.widen (k := 0) (n := 0) (Nat.le_refl _) (Nat.le_refl _) ?_
  refine lv_iconst (v := 1) hx hb dL_pick_5 (by decide) ?_
  refine lv_iushr (v := iUshr r1 1) hx hb dL_pick_6 rfl ?_
  refine lv_iload_n hx hb dL_pick_7 rfl (lv_at hl 2 rfl) ?_
  obtain ⟨hc2, hw⟩ := hw
  refine k_irem (v := iRem (iUshr r1 1) p2) hx hb dL_pick_8 hc2 rfl ?_
  exact vx_ret (m_i ⟨_, rfl, rfl, hw⟩ hx hb hr hlocks rfl hP hD hS (Nat.le_of_ble_eq_true rfl) (Nat.le_of_ble_eq_true rfl) dL_pick_9)

set_option maxHeartbeats 4000000 in
set_option maxRecDepth 100000 in
theorem m_X6_isWithin (l : Launch) (hfl : l.stackTraces = false) (D : va_G) (ad : Nat → Nat) (cA : Nat → ClassId) (g : gv_T) (p0 : Int32) (p1 : Int32) (p2 : Int32) (σ : Sg) (Q : Int32 → Prop) (hw : w_X6_isWithin p0 p1 p2 σ Q) : MC l yX6_isWithin cX6_isWithin 3 (some .boolean) (RM 0 0 0 0) D ad cA g [.int p0, .int p1, .int p2] σ (fun v σ' => ∃ r : Int32, v = some (.int r) ∧ σ' = σ ∧ Q r) (fun _ _ => False) := by
  refine MC.of (plainFor_of_name (by decide +kernel)) (Nat.le_of_ble_eq_true rfl) ?_
  intro p e s m args below meth c A ls hx hb hr hml hown hG hlocks htab hA hS hP hK hD hGV hl
  have hown : s.vm.findClass RX6 = some m.cls := hown
  have hl : lv_has ls 3 [(0, .int p0), (1, .int p1), (2, .int p2)] := hl
  have hSF : CF p m c cX6_isWithin 3 s args RX6 := ⟨hx, hb, hml, hown, hG⟩
  refine lv_iload_n hx hb dX6_isWithin_0 rfl (lv_at hl 0 rfl) ?_
  refine lv_iload_n hx hb dX6_isWithin_1 rfl (lv_at hl 1 rfl) ?_
  refine lv_icmp_lt (tgt := 14) hx hb dX6_isWithin_2 (by decide) (fun k1 => ?_) (fun k1 => ?_)
  · skip
    have hw := hw.1 k1
    refine lv_iconst (v := 0) hx hb dX6_isWithin_14 (by decide) ?_
    exact vx_ret (m_i ⟨_, rfl, rfl, hw⟩ hx hb hr hlocks rfl hP hD hS (Nat.le_of_ble_eq_true rfl) (Nat.le_of_ble_eq_true rfl) dX6_isWithin_15)
  · skip
    have hw := hw.2 k1
    refine lv_iload_n hx hb dX6_isWithin_5 rfl (lv_at hl 0 rfl) ?_
    refine lv_iload_n hx hb dX6_isWithin_6 rfl (lv_at hl 2 rfl) ?_
    refine lv_icmp_gt (tgt := 14) hx hb dX6_isWithin_7 (by decide) (fun k2 => ?_) (fun k2 => ?_)
    · skip
      have hw := hw.1 k2
      refine lv_iconst (v := 0) hx hb dX6_isWithin_14 (by decide) ?_
      exact vx_ret (m_i ⟨_, rfl, rfl, hw⟩ hx hb hr hlocks rfl hP hD hS (Nat.le_of_ble_eq_true rfl) (Nat.le_of_ble_eq_true rfl) dX6_isWithin_15)
    · skip
      have hw := hw.2 k2
      refine lv_iconst (v := 1) hx hb dX6_isWithin_10 (by decide) ?_
      refine lv_goto (tgt := 15) hx hb dX6_isWithin_11 (by decide) ?_
      exact vx_ret (m_i ⟨_, rfl, rfl, hw⟩ hx hb hr hlocks rfl hP hD hS (Nat.le_of_ble_eq_true rfl) (Nat.le_of_ble_eq_true rfl) dX6_isWithin_15)

set_option maxHeartbeats 4000000 in
set_option maxRecDepth 100000 in
theorem m_J0_isLatin1_aae02_S0 (l : Launch) (hfl : l.stackTraces = false) (D : va_G) (ad : Nat → Nat) (cA : Nat → ClassId) (g : gv_T) (σ : Sg) (Q : Int32 → Prop) (hw : w_J0_isLatin1_aae02_S0  σ Q) : MC l yJ0_isLatin1_aae02 cJ0_isLatin1_aae02 1 (some .boolean) (RM 0 0 0 0) D ad cA g [.ref (g.1 0)] σ (fun v σ' => ∃ r : Int32, v = some (.int r) ∧ σ' = σ ∧ Q r) (fun _ _ => False) := by
  refine MC.of (plainFor_of_name (by decide +kernel)) (Nat.le_of_ble_eq_true rfl) ?_
  intro p e s m args below meth c A ls hx hb hr hml hown hG hlocks htab hA hS hP hK hD hGV hl
  have hown : s.vm.findClass RJ0 = some m.cls := hown
  have hl : lv_has ls 1 [(0, .ref (g.1 0))] := hl
  have hSF : CF p m c cJ0_isLatin1_aae02 1 s args RJ0 := ⟨hx, hb, hml, hown, hG⟩
  refine k_getsC hx hb hGV hG hS hown gw521 dJ0_isLatin1_aae02_0 ?_
  refine k_if_eq_f (tgt := 17) hx hb dJ0_isLatin1_aae02_3 (by decide) (by decide) ?_
  refine lv_aload_n hx hb dJ0_isLatin1_aae02_6 rfl (lv_at hl 0 rfl) ?_
  refine k_scoder (x9 := (0, 3, [45, 112, 114])) hx hb hGV (by decide) hG hS hown gw1195 dJ0_isLatin1_aae02_7 ?_
  refine k_if_ne_f (tgt := 17) hx hb dJ0_isLatin1_aae02_10 (by decide) (by decide) ?_
  refine lv_iconst (v := 1) hx hb dJ0_isLatin1_aae02_13 (by decide) ?_
  refine lv_goto (tgt := 18) hx hb dJ0_isLatin1_aae02_14 (by decide) ?_
  exact vx_ret (m_i ⟨_, rfl, rfl, hw⟩ hx hb hr hlocks rfl hP hD hS (Nat.le_of_ble_eq_true rfl) (Nat.le_of_ble_eq_true rfl) dJ0_isLatin1_aae02_18)

set_option maxHeartbeats 4000000 in
set_option maxRecDepth 100000 in
theorem m_J0_coder_7d493_S0 (l : Launch) (hfl : l.stackTraces = false) (D : va_G) (ad : Nat → Nat) (cA : Nat → ClassId) (g : gv_T) (σ : Sg) (Q : Int32 → Prop) (hw : w_J0_coder_7d493_S0  σ Q) : MC l yJ0_coder_7d493 cJ0_coder_7d493 1 (some .byte) (RM 0 0 0 0) D ad cA g [.ref (g.1 0)] σ (fun v σ' => ∃ r : Int32, v = some (.int r) ∧ σ' = σ ∧ Q r) (fun _ _ => False) := by
  refine MC.of (plainFor_of_name (by decide +kernel)) (Nat.le_of_ble_eq_true rfl) ?_
  intro p e s m args below meth c A ls hx hb hr hml hown hG hlocks htab hA hS hP hK hD hGV hl
  have hown : s.vm.findClass RJ0 = some m.cls := hown
  have hl : lv_has ls 1 [(0, .ref (g.1 0))] := hl
  have hSF : CF p m c cJ0_coder_7d493 1 s args RJ0 := ⟨hx, hb, hml, hown, hG⟩
  refine k_getsC hx hb hGV hG hS hown gw521 dJ0_coder_7d493_0 ?_
  refine k_if_eq_f (tgt := 13) hx hb dJ0_coder_7d493_3 (by decide) (by decide) ?_
  refine lv_aload_n hx hb dJ0_coder_7d493_6 rfl (lv_at hl 0 rfl) ?_
  refine k_scoder (x9 := (0, 3, [45, 112, 114])) hx hb hGV (by decide) hG hS hown gw1195 dJ0_coder_7d493_7 ?_
  refine lv_goto (tgt := 14) hx hb dJ0_coder_7d493_10 (by decide) ?_
  exact vx_ret (m_i ⟨_, rfl, rfl, hw⟩ hx hb hr hlocks rfl hP hD hS (Nat.le_of_ble_eq_true rfl) (Nat.le_of_ble_eq_true rfl) dJ0_coder_7d493_14)

set_option maxHeartbeats 4000000 in
set_option maxRecDepth 100000 in
theorem m_J0_length_8abf5_S0 (l : Launch) (hfl : l.stackTraces = false) (D : va_G) (ad : Nat → Nat) (cA : Nat → ClassId) (g : gv_T) (σ : Sg) (Q : Int32 → Prop) (hw : w_J0_length_8abf5_S0  σ Q) : MC l yJ0_length_8abf5 cJ0_length_8abf5 1 (some .int) (RM 1 0 0 20) D ad cA g [.ref (g.1 0)] σ (fun v σ' => ∃ r : Int32, v = some (.int r) ∧ σ' = σ ∧ Q r) (fun _ _ => False) := by
  refine MC.of (plainFor_of_name (by decide +kernel)) (Nat.le_of_ble_eq_true rfl) ?_
  intro p e s m args below meth c A ls hx hb hr hml hown hG hlocks htab hA hS hP hK hD hGV hl
  have hown : s.vm.findClass RJ0 = some m.cls := hown
  have hl : lv_has ls 1 [(0, .ref (g.1 0))] := hl
  have hSF : CF p m c cJ0_length_8abf5 1 s args RJ0 := ⟨hx, hb, hml, hown, hG⟩
  refine lv_aload_n hx hb dJ0_length_8abf5_0 rfl (lv_at hl 0 rfl) ?_
  refine k_svalue (x9 := (0, 3, [45, 112, 114])) hx hb hGV (by decide) hG hS hown gw1196 dJ0_length_8abf5_1 ?_
  refine k_slen (x9 := (0, 3, [45, 112, 114])) (v := 3) hx hb hGV (by decide) hS (by decide) dJ0_length_8abf5_4 ?_
  refine lv_aload_n hx hb dJ0_length_8abf5_5 rfl (lv_at hl 0 rfl) ?_
  refine mc_V hSF hl.1 hP hD hS hA hK hGV (m_J0_coder_7d493_S0 l hfl D ad cA g  σ (fun r9 => r9 = 0) rfl) goV_J0_335 pd_J0_coder_7d493 ⟨(Nat.le_of_ble_eq_true rfl), (Nat.le_of_ble_eq_true rfl)⟩ ⟨(Nat.le_of_ble_eq_true rfl), (Nat.le_of_ble_eq_true rfl)⟩ (k_srecv (x9 := (0, 3, [45, 112, 114])) hGV (by decide) hS) dJ0_length_8abf5_6 rfl (Nat.le_of_ble_eq_true rfl) (fun v9 σ9 H locs hq hP hD hS => ?_) (fun _ _ _ _ _ _ h => h.elim)
  obtain ⟨r9, hv9, hs9, hr9⟩ := hq
  subst hv9
  subst σ9
  subst hr9
  refine W.eq (g2 := F0 m 9 ls [.int 0, .int 3]) rfl ?_
  refine W.widen (k := 0) (n := 0) (Nat.le_refl _) (Nat.le_refl _) ?_
  refine k_ishr (v := 3) hx hb dJ0_length_8abf5_9 (by decide +kernel) ?_
  exact vx_ret (m_i ⟨_, rfl, rfl, hw⟩ hx hb hr hlocks rfl hP hD hS (Nat.le_of_ble_eq_true rfl) (Nat.le_of_ble_eq_true rfl) dJ0_length_8abf5_10)

set_option maxHeartbeats 4000000 in
set_option maxRecDepth 100000 in
theorem m_J1_canEncode_9a6ad (l : Launch) (hfl : l.stackTraces = false) (D : va_G) (ad : Nat → Nat) (cA : Nat → ClassId) (g : gv_T) (p0 : Int32) (σ : Sg) (Q : Int32 → Prop) (hw : w_J1_canEncode_9a6ad p0 σ Q) : MC l yJ1_canEncode_9a6ad cJ1_canEncode_9a6ad 1 (some .boolean) (RM 0 0 0 0) D ad cA g [.int p0] σ (fun v σ' => ∃ r : Int32, v = some (.int r) ∧ σ' = σ ∧ Q r) (fun _ _ => False) := by
  refine MC.of (plainFor_of_name (by decide +kernel)) (Nat.le_of_ble_eq_true rfl) ?_
  intro p e s m args below meth c A ls hx hb hr hml hown hG hlocks htab hA hS hP hK hD hGV hl
  have hown : s.vm.findClass RJ1 = some m.cls := hown
  have hl : lv_has ls 1 [(0, .int p0)] := hl
  have hSF : CF p m c cJ1_canEncode_9a6ad 1 s args RJ1 := ⟨hx, hb, hml, hown, hG⟩
  refine lv_iload_n hx hb dJ1_canEncode_9a6ad_0 rfl (lv_at hl 0 rfl) ?_
  refine lv_if_lt (tgt := 15) hx hb dJ1_canEncode_9a6ad_1 (by decide) (fun k1 => ?_) (fun k1 => ?_)
  · skip
    have hw := hw.1 k1
    refine lv_iconst (v := 0) hx hb dJ1_canEncode_9a6ad_15 (by decide) ?_
    exact vx_ret (m_i ⟨_, rfl, rfl, hw⟩ hx hb hr hlocks rfl hP hD hS (Nat.le_of_ble_eq_true rfl) (Nat.le_of_ble_eq_true rfl) dJ1_canEncode_9a6ad_16)
  · skip
    have hw := hw.2 k1
    refine lv_iload_n hx hb dJ1_canEncode_9a6ad_4 rfl (lv_at hl 0 rfl) ?_
    refine lv_sipush (v := 255) hx hb dJ1_canEncode_9a6ad_5 (by decide) ?_
    refine lv_icmp_gt (tgt := 15) hx hb dJ1_canEncode_9a6ad_8 (by decide) (fun k2 => ?_) (fun k2 => ?_)
    · skip
      have hw := hw.1 k2
      refine lv_iconst (v := 0) hx hb dJ1_canEncode_9a6ad_15 (by decide) ?_
      exact vx_ret (m_i ⟨_, rfl, rfl, hw⟩ hx hb hr hlocks rfl hP hD hS (Nat.le_of_ble_eq_true rfl) (Nat.le_of_ble_eq_true rfl) dJ1_canEncode_9a6ad_16)
    · skip
      have hw := hw.2 k2
      refine lv_iconst (v := 1) hx hb dJ1_canEncode_9a6ad_11 (by decide) ?_
      refine lv_goto (tgt := 16) hx hb dJ1_canEncode_9a6ad_12 (by decide) ?_
      exact vx_ret (m_i ⟨_, rfl, rfl, hw⟩ hx hb hr hlocks rfl hP hD hS (Nat.le_of_ble_eq_true rfl) (Nat.le_of_ble_eq_true rfl) dJ1_canEncode_9a6ad_16)

set_option maxHeartbeats 4000000 in
set_option maxRecDepth 100000 in
theorem m_J1_indexOfChar_4cfef_V0_0_3 (l : Launch) (hfl : l.stackTraces = false) (D : va_G) (ad : Nat → Nat) (cA : Nat → ClassId) (g : gv_T) (p1 : Int32) (σ : Sg) (Q : Int32 → Prop) (hw : w_J1_indexOfChar_4cfef_V0_0_3 p1 σ Q) : MC l yJ1_indexOfChar_4cfef cJ1_indexOfChar_4cfef 6 (some .int) (RM 0 0 0 0) D ad cA g [.ref (g.2.1 0), .int p1, .int 0, .int 3] σ (fun v σ' => ∃ r : Int32, v = some (.int r) ∧ σ' = σ ∧ Q r) (fun _ _ => False) := by
  refine MC.of (plainFor_of_name (by decide +kernel)) (Nat.le_of_ble_eq_true rfl) ?_
  intro p e s m args below meth c A ls hx hb hr hml hown hG hlocks htab hA hS hP hK hD hGV hl
  have hown : s.vm.findClass RJ1 = some m.cls := hown
  have hl : lv_has ls 6 [(0, .ref (g.2.1 0)), (1, .int p1), (2, .int 0), (3, .int 3)] := hl
  have hSF : CF p m c cJ1_indexOfChar_4cfef 6 s args RJ1 := ⟨hx, hb, hml, hown, hG⟩
  refine lv_iload_n hx hb dJ1_indexOfChar_4cfef_0 rfl (lv_at hl 1 rfl) ?_
  refine lv_i2b (v := p1.toInt8.toInt32) hx hb dJ1_indexOfChar_4cfef_1 rfl ?_
  obtain ⟨v1, ev1⟩ : ∃ z : Int32, z = p1.toInt8.toInt32 := ⟨_, rfl⟩
  have hw := hw v1 ev1
  refine lv_istore (lv' := [(4, .int v1), (0, .ref (g.2.1 0)), (1, .int p1), (2, .int 0), (3, .int 3)]) hx hb dJ1_indexOfChar_4cfef_2 hl (by decide) (by subst ev1; rfl) (fun ls hl => ?_)
  refine lv_iload_n hx hb dJ1_indexOfChar_4cfef_4 rfl (lv_at hl 3 rfl) ?_
  refine lv_istore (lv' := [(5, .int 0), (4, .int v1), (0, .ref (g.2.1 0)), (1, .int p1), (2, .int 0), (3, .int 3)]) hx hb dJ1_indexOfChar_4cfef_5 hl (by decide) rfl (fun ls hl => ?_)
  refine lv_iload hx hb dJ1_indexOfChar_4cfef_7 (lv_at hl 0 rfl) ?_
  refine lv_iload_n hx hb dJ1_indexOfChar_4cfef_9 rfl (lv_at hl 5 rfl) ?_
  refine k_icmp_ge_f (tgt := 31) hx hb dJ1_indexOfChar_4cfef_10 (by decide) (by decide) ?_
  refine lv_aload_n hx hb dJ1_indexOfChar_4cfef_13 rfl (lv_at hl 2 rfl) ?_
  refine lv_iload hx hb dJ1_indexOfChar_4cfef_14 (lv_at hl 0 rfl) ?_
  refine k_sld (x9 := (0, 3, [45, 112, 114])) (v := 45) hx hb hGV (by decide) hS (by unfold vp_in; decide) (by decide) dJ1_indexOfChar_4cfef_16 ?_
  refine lv_iload hx hb dJ1_indexOfChar_4cfef_17 (lv_at hl 1 rfl) ?_
  refine lv_icmp_ne (tgt := 25) hx hb dJ1_indexOfChar_4cfef_19 (by decide) (fun k2 => ?_) (fun k2 => ?_)
  · skip
    have hw := hw.1 k2
    refine lv_iinc (v := 1) (lv' := [(5, .int 1), (4, .int v1), (0, .ref (g.2.1 0)), (1, .int p1), (2, .int 0), (3, .int 3)]) hx hb dJ1_indexOfChar_4cfef_25 hl (k := 0) rfl (by decide +kernel) (by decide) rfl (fun ls hl => ?_)
    refine lv_goto (tgt := 7) hx hb dJ1_indexOfChar_4cfef_28 (by decide) ?_
    refine lv_iload hx hb dJ1_indexOfChar_4cfef_7 (lv_at hl 0 rfl) ?_
    refine lv_iload_n hx hb dJ1_indexOfChar_4cfef_9 rfl (lv_at hl 5 rfl) ?_
    refine k_icmp_ge_f (tgt := 31) hx hb dJ1_indexOfChar_4cfef_10 (by decide) (by decide) ?_
    refine lv_aload_n hx hb dJ1_indexOfChar_4cfef_13 rfl (lv_at hl 2 rfl) ?_
    refine lv_iload hx hb dJ1_indexOfChar_4cfef_14 (lv_at hl 0 rfl) ?_
    refine k_sld (x9 := (0, 3, [45, 112, 114])) (v := 112) hx hb hGV (by decide) hS (by unfold vp_in; decide) (by decide) dJ1_indexOfChar_4cfef_16 ?_
    refine lv_iload hx hb dJ1_indexOfChar_4cfef_17 (lv_at hl 1 rfl) ?_
    refine lv_icmp_ne (tgt := 25) hx hb dJ1_indexOfChar_4cfef_19 (by decide) (fun k3 => ?_) (fun k3 => ?_)
    · skip
      have hw := hw.1 k3
      refine lv_iinc (v := 2) (lv' := [(5, .int 2), (4, .int v1), (0, .ref (g.2.1 0)), (1, .int p1), (2, .int 0), (3, .int 3)]) hx hb dJ1_indexOfChar_4cfef_25 hl (k := 0) rfl (by decide +kernel) (by decide) rfl (fun ls hl => ?_)
      refine lv_goto (tgt := 7) hx hb dJ1_indexOfChar_4cfef_28 (by decide) ?_
      refine lv_iload hx hb dJ1_indexOfChar_4cfef_7 (lv_at hl 0 rfl) ?_
      refine lv_iload_n hx hb dJ1_indexOfChar_4cfef_9 rfl (lv_at hl 5 rfl) ?_
      refine k_icmp_ge_f (tgt := 31) hx hb dJ1_indexOfChar_4cfef_10 (by decide) (by decide) ?_
      refine lv_aload_n hx hb dJ1_indexOfChar_4cfef_13 rfl (lv_at hl 2 rfl) ?_
      refine lv_iload hx hb dJ1_indexOfChar_4cfef_14 (lv_at hl 0 rfl) ?_
      refine k_sld (x9 := (0, 3, [45, 112, 114])) (v := 114) hx hb hGV (by decide) hS (by unfold vp_in; decide) (by decide) dJ1_indexOfChar_4cfef_16 ?_
      refine lv_iload hx hb dJ1_indexOfChar_4cfef_17 (lv_at hl 1 rfl) ?_
      refine lv_icmp_ne (tgt := 25) hx hb dJ1_indexOfChar_4cfef_19 (by decide) (fun k4 => ?_) (fun k4 => ?_)
      · skip
        have hw := hw.1 k4
        refine lv_iinc (v := 3) (lv' := [(5, .int 3), (4, .int v1), (0, .ref (g.2.1 0)), (1, .int p1), (2, .int 0), (3, .int 3)]) hx hb dJ1_indexOfChar_4cfef_25 hl (k := 0) rfl (by decide +kernel) (by decide) rfl (fun ls hl => ?_)
        refine lv_goto (tgt := 7) hx hb dJ1_indexOfChar_4cfef_28 (by decide) ?_
        refine lv_iload hx hb dJ1_indexOfChar_4cfef_7 (lv_at hl 0 rfl) ?_
        refine lv_iload_n hx hb dJ1_indexOfChar_4cfef_9 rfl (lv_at hl 5 rfl) ?_
        refine k_icmp_ge_t (tgt := 31) hx hb dJ1_indexOfChar_4cfef_10 (by decide) (by decide) ?_
        refine lv_iconst (v := (-1)) hx hb dJ1_indexOfChar_4cfef_31 (by decide) ?_
        exact vx_ret (m_i ⟨_, rfl, rfl, hw⟩ hx hb hr hlocks rfl hP hD hS (Nat.le_of_ble_eq_true rfl) (Nat.le_of_ble_eq_true rfl) dJ1_indexOfChar_4cfef_32)
      · skip
        have hw := hw.2 k4
        refine lv_iload hx hb dJ1_indexOfChar_4cfef_22 (lv_at hl 0 rfl) ?_
        exact vx_ret (m_i ⟨_, rfl, rfl, hw⟩ hx hb hr hlocks rfl hP hD hS (Nat.le_of_ble_eq_true rfl) (Nat.le_of_ble_eq_true rfl) dJ1_indexOfChar_4cfef_24)
    · skip
      have hw := hw.2 k3
      refine lv_iload hx hb dJ1_indexOfChar_4cfef_22 (lv_at hl 0 rfl) ?_
      exact vx_ret (m_i ⟨_, rfl, rfl, hw⟩ hx hb hr hlocks rfl hP hD hS (Nat.le_of_ble_eq_true rfl) (Nat.le_of_ble_eq_true rfl) dJ1_indexOfChar_4cfef_24)
  · skip
    have hw := hw.2 k2
    refine lv_iload hx hb dJ1_indexOfChar_4cfef_22 (lv_at hl 0 rfl) ?_
    exact vx_ret (m_i ⟨_, rfl, rfl, hw⟩ hx hb hr hlocks rfl hP hD hS (Nat.le_of_ble_eq_true rfl) (Nat.le_of_ble_eq_true rfl) dJ1_indexOfChar_4cfef_24)

set_option maxHeartbeats 4000000 in
set_option maxRecDepth 100000 in
theorem m_J1_indexOf_4cfef_V0_0_3 (l : Launch) (hfl : l.stackTraces = false) (D : va_G) (ad : Nat → Nat) (cA : Nat → ClassId) (g : gv_T) (p1 : Int32) (σ : Sg) (Q : Int32 → Prop) (hw : w_J1_indexOf_4cfef_V0_0_3 p1 σ Q) : MC l yJ1_indexOf_4cfef cJ1_indexOf_4cfef 4 (some .int) (RM 1 0 0 25) D ad cA g [.ref (g.2.1 0), .int p1, .int 0, .int 3] σ (fun v σ' => ∃ r : Int32, v = some (.int r) ∧ σ' = σ ∧ Q r) (fun _ _ => False) := by
  refine MC.of (plainFor_of_name (by decide +kernel)) (Nat.le_of_ble_eq_true rfl) ?_
  intro p e s m args below meth c A ls hx hb hr hml hown hG hlocks htab hA hS hP hK hD hGV hl
  have hown : s.vm.findClass RJ1 = some m.cls := hown
  have hl : lv_has ls 4 [(0, .ref (g.2.1 0)), (1, .int p1), (2, .int 0), (3, .int 3)] := hl
  have hSF : CF p m c cJ1_indexOf_4cfef 4 s args RJ1 := ⟨hx, hb, hml, hown, hG⟩
  refine lv_iload_n hx hb dJ1_indexOf_4cfef_0 rfl (lv_at hl 1 rfl) ?_
  refine mc_S hSF hl.1 hP hD hS hA hK hGV (m_J1_canEncode_9a6ad l hfl D ad cA g p1 σ _ hw) goS_J1_88 pd_J1_canEncode_9a6ad.2 ⟨(Nat.le_of_ble_eq_true rfl), (Nat.le_of_ble_eq_true rfl)⟩ ⟨(Nat.le_of_ble_eq_true rfl), (Nat.le_of_ble_eq_true rfl)⟩ dJ1_indexOf_4cfef_1 rfl (Nat.le_of_ble_eq_true rfl) (fun v9 σ9 H locs hq hP hD hS => ?_) (fun _ _ _ _ _ _ h => h.elim)
  obtain ⟨r1, hv9, hs9, hw⟩ := hq
  subst hv9
  subst σ9
  refine W.eq (g2 := F0 m 4 ls [.int r1]) rfl ?_
  refine W.widen (k := 0) (n := 0) (Nat.le_refl _) (Nat.le_refl _) ?_
  refine lv_if_ne (tgt := 9) hx hb dJ1_indexOf_4cfef_4 (by decide) (fun k2 => ?_) (fun k2 => ?_)
  · skip
    have hw := hw.1 k2
    refine lv_iload_n hx hb dJ1_indexOf_4cfef_9 rfl (lv_at hl 2 rfl) ?_
    refine lv_iconst (v := 0) hx hb dJ1_indexOf_4cfef_10 (by decide) ?_
    refine k_mmax (v := 0) hx hb (hml.trans hl.1.symm) hown (hG _ gw537) (hG _ gw538) (hG _ gw41) (hG _ gw539) (Nat.le_of_ble_eq_true rfl) (Nat.le_of_ble_eq_true rfl) (Nat.le_of_ble_eq_true rfl) (Nat.le_of_ble_eq_true rfl) dJ1_indexOf_4cfef_11 (by decide +kernel) ?_
    refine lv_istore_n (lv' := [(2, .int 0), (0, .ref (g.2.1 0)), (1, .int p1), (3, .int 3)]) hx hb dJ1_indexOf_4cfef_14 rfl hl (by decide) rfl (fun ls hl => ?_)
    refine lv_iload_n hx hb dJ1_indexOf_4cfef_15 rfl (lv_at hl 3 rfl) ?_
    refine lv_aload_n hx hb dJ1_indexOf_4cfef_16 rfl (lv_at hl 1 rfl) ?_
    refine k_slen (x9 := (0, 3, [45, 112, 114])) (v := 3) hx hb hGV (by decide) hS (by decide) dJ1_indexOf_4cfef_17 ?_
    refine k_mmin (v := 3) hx hb (hml.trans hl.1.symm) hown (hG _ gw540) (hG _ gw541) (hG _ gw41) (hG _ gw542) (Nat.le_of_ble_eq_true rfl) (Nat.le_of_ble_eq_true rfl) (Nat.le_of_ble_eq_true rfl) (Nat.le_of_ble_eq_true rfl) dJ1_indexOf_4cfef_18 (by decide +kernel) ?_
    refine lv_istore_n (lv' := [(3, .int 3), (2, .int 0), (0, .ref (g.2.1 0)), (1, .int p1)]) hx hb dJ1_indexOf_4cfef_21 rfl hl (by decide) rfl (fun ls hl => ?_)
    refine lv_iload_n hx hb dJ1_indexOf_4cfef_22 rfl (lv_at hl 1 rfl) ?_
    refine lv_iload_n hx hb dJ1_indexOf_4cfef_23 rfl (lv_at hl 0 rfl) ?_
    refine k_icmp_lt_t (tgt := 29) hx hb dJ1_indexOf_4cfef_24 (by decide) (by decide) ?_
    refine lv_aload_n hx hb dJ1_indexOf_4cfef_29 rfl (lv_at hl 2 rfl) ?_
    refine lv_iload_n hx hb dJ1_indexOf_4cfef_30 rfl (lv_at hl 3 rfl) ?_
    refine lv_iload_n hx hb dJ1_indexOf_4cfef_31 rfl (lv_at hl 1 rfl) ?_
    refine lv_iload_n hx hb dJ1_indexOf_4cfef_32 rfl (lv_at hl 0 rfl) ?_
    refine mc_S hSF hl.1 hP hD hS hA hK hGV (m_J1_indexOfChar_4cfef_V0_0_3 l hfl D ad cA g p1 σ _ hw) goS_J1_95 pd_J1_indexOfChar_4cfef.2 ⟨(Nat.le_of_ble_eq_true rfl), (Nat.le_of_ble_eq_true rfl)⟩ ⟨(Nat.le_of_ble_eq_true rfl), (Nat.le_of_ble_eq_true rfl)⟩ dJ1_indexOf_4cfef_33 rfl (Nat.le_of_ble_eq_true rfl) (fun v9 σ9 H locs hq hP hD hS => ?_) (fun _ _ _ _ _ _ h => h.elim)
    obtain ⟨r3, hv9, hs9, hw⟩ := hq
    subst hv9
    subst σ9
    refine W.eq (g2 := F0 m 36 ls [.int r3]) rfl ?_
    refine W.widen (k := 0) (n := 0) (Nat.le_refl _) (Nat.le_refl _) ?_
    exact vx_ret (m_i ⟨_, rfl, rfl, hw⟩ hx hb hr hlocks rfl hP hD hS (Nat.le_of_ble_eq_true rfl) (Nat.le_of_ble_eq_true rfl) dJ1_indexOf_4cfef_36)
  · skip
    have hw := hw.2 k2
    refine lv_iconst (v := (-1)) hx hb dJ1_indexOf_4cfef_7 (by decide) ?_
    exact vx_ret (m_i ⟨_, rfl, rfl, hw⟩ hx hb hr hlocks rfl hP hD hS (Nat.le_of_ble_eq_true rfl) (Nat.le_of_ble_eq_true rfl) dJ1_indexOf_4cfef_8)

set_option maxHeartbeats 4000000 in
set_option maxRecDepth 100000 in
theorem m_J0_indexOf_7cf53_S0_0 (l : Launch) (hfl : l.stackTraces = false) (D : va_G) (ad : Nat → Nat) (cA : Nat → ClassId) (g : gv_T) (p1 : Int32) (σ : Sg) (Q : Int32 → Prop) (hw : w_J0_indexOf_7cf53_S0_0 p1 σ Q) : MC l yJ0_indexOf_7cf53 cJ0_indexOf_7cf53 3 (some .int) (RM 2 0 0 48) D ad cA g [.ref (g.1 0), .int p1, .int 0] σ (fun v σ' => ∃ r : Int32, v = some (.int r) ∧ σ' = σ ∧ Q r) (fun _ _ => False) := by
  refine MC.of (plainFor_of_name (by decide +kernel)) (Nat.le_of_ble_eq_true rfl) ?_
  intro p e s m args below meth c A ls hx hb hr hml hown hG hlocks htab hA hS hP hK hD hGV hl
  have hown : s.vm.findClass RJ0 = some m.cls := hown
  have hl : lv_has ls 3 [(0, .ref (g.1 0)), (1, .int p1), (2, .int 0)] := hl
  have hSF : CF p m c cJ0_indexOf_7cf53 3 s args RJ0 := ⟨hx, hb, hml, hown, hG⟩
  refine lv_aload_n hx hb dJ0_indexOf_7cf53_0 rfl (lv_at hl 0 rfl) ?_
  refine mc_V hSF hl.1 hP hD hS hA hK hGV (m_J0_isLatin1_aae02_S0 l hfl D ad cA g  σ (fun r9 => r9 = 1) rfl) goV_J0_492 pd_J0_isLatin1_aae02 ⟨(Nat.le_of_ble_eq_true rfl), (Nat.le_of_ble_eq_true rfl)⟩ ⟨(Nat.le_of_ble_eq_true rfl), (Nat.le_of_ble_eq_true rfl)⟩ (k_srecv (x9 := (0, 3, [45, 112, 114])) hGV (by decide) hS) dJ0_indexOf_7cf53_1 rfl (Nat.le_of_ble_eq_true rfl) (fun v9 σ9 H locs hq hP hD hS => ?_) (fun _ _ _ _ _ _ h => h.elim)
  obtain ⟨r9, hv9, hs9, hr9⟩ := hq
  subst hv9
  subst σ9
  subst hr9
  refine W.eq (g2 := F0 m 4 ls [.int 1]) rfl ?_
  refine W.widen (k := 0) (n := 0) (Nat.le_refl _) (Nat.le_refl _) ?_
  refine k_if_eq_f (tgt := 23) hx hb dJ0_indexOf_7cf53_4 (by decide) (by decide) ?_
  refine lv_aload_n hx hb dJ0_indexOf_7cf53_7 rfl (lv_at hl 0 rfl) ?_
  refine k_svalue (x9 := (0, 3, [45, 112, 114])) hx hb hGV (by decide) hG hS hown gw1196 dJ0_indexOf_7cf53_8 ?_
  refine lv_iload_n hx hb dJ0_indexOf_7cf53_11 rfl (lv_at hl 1 rfl) ?_
  refine lv_iload_n hx hb dJ0_indexOf_7cf53_12 rfl (lv_at hl 2 rfl) ?_
  refine lv_aload_n hx hb dJ0_indexOf_7cf53_13 rfl (lv_at hl 0 rfl) ?_
  refine mc_V hSF hl.1 hP hD hS hA hK hGV (m_J0_length_8abf5_S0 l hfl D ad cA g  σ (fun r9 => r9 = 3) rfl) goV_J0_505 pd_J0_length_8abf5 ⟨(Nat.le_of_ble_eq_true rfl), (Nat.le_of_ble_eq_true rfl)⟩ ⟨(Nat.le_of_ble_eq_true rfl), (Nat.le_of_ble_eq_true rfl)⟩ (k_srecv (x9 := (0, 3, [45, 112, 114])) hGV (by decide) hS) dJ0_indexOf_7cf53_14 rfl (Nat.le_of_ble_eq_true rfl) (fun v9 σ9 H locs hq hP hD hS => ?_) (fun _ _ _ _ _ _ h => h.elim)
  obtain ⟨r9, hv9, hs9, hr9⟩ := hq
  subst hv9
  subst σ9
  subst hr9
  refine W.eq (g2 := F0 m 17 ls [.int 3, .int 0, .int p1, .ref (g.2.1 0)]) rfl ?_
  refine W.widen (k := 0) (n := 0) (Nat.le_refl _) (Nat.le_refl _) ?_
  refine mc_S hSF hl.1 hP hD hS hA hK hGV (m_J1_indexOf_4cfef_V0_0_3 l hfl D ad cA g p1 σ _ hw) goS_J0_637 pd_J1_indexOf_4cfef.2 ⟨(Nat.le_of_ble_eq_true rfl), (Nat.le_of_ble_eq_true rfl)⟩ ⟨(Nat.le_of_ble_eq_true rfl), (Nat.le_of_ble_eq_true rfl)⟩ dJ0_indexOf_7cf53_17 rfl (Nat.le_of_ble_eq_true rfl) (fun v9 σ9 H locs hq hP hD hS => ?_) (fun _ _ _ _ _ _ h => h.elim)
  obtain ⟨r3, hv9, hs9, hw⟩ := hq
  subst hv9
  subst σ9
  refine W.eq (g2 := F0 m 20 ls [.int r3]) rfl ?_
  refine W.widen (k := 0) (n := 0) (Nat.le_refl _) (Nat.le_refl _) ?_
  refine lv_goto (tgt := 36) hx hb dJ0_indexOf_7cf53_20 (by decide) ?_
  exact vx_ret (m_i ⟨_, rfl, rfl, hw⟩ hx hb hr hlocks rfl hP hD hS (Nat.le_of_ble_eq_true rfl) (Nat.le_of_ble_eq_true rfl) dJ0_indexOf_7cf53_36)

set_option maxHeartbeats 4000000 in
set_option maxRecDepth 100000 in
theorem m_J0_indexOf_0f7a4_S0 (l : Launch) (hfl : l.stackTraces = false) (D : va_G) (ad : Nat → Nat) (cA : Nat → ClassId) (g : gv_T) (p1 : Int32) (σ : Sg) (Q : Int32 → Prop) (hw : w_J0_indexOf_0f7a4_S0 p1 σ Q) : MC l yJ0_indexOf_0f7a4 cJ0_indexOf_0f7a4 2 (some .int) (RM 3 0 0 70) D ad cA g [.ref (g.1 0), .int p1] σ (fun v σ' => ∃ r : Int32, v = some (.int r) ∧ σ' = σ ∧ Q r) (fun _ _ => False) := by
  refine MC.of (plainFor_of_name (by decide +kernel)) (Nat.le_of_ble_eq_true rfl) ?_
  intro p e s m args below meth c A ls hx hb hr hml hown hG hlocks htab hA hS hP hK hD hGV hl
  have hown : s.vm.findClass RJ0 = some m.cls := hown
  have hl : lv_has ls 2 [(0, .ref (g.1 0)), (1, .int p1)] := hl
  have hSF : CF p m c cJ0_indexOf_0f7a4 2 s args RJ0 := ⟨hx, hb, hml, hown, hG⟩
  refine lv_aload_n hx hb dJ0_indexOf_0f7a4_0 rfl (lv_at hl 0 rfl) ?_
  refine lv_iload_n hx hb dJ0_indexOf_0f7a4_1 rfl (lv_at hl 1 rfl) ?_
  refine lv_iconst (v := 0) hx hb dJ0_indexOf_0f7a4_2 (by decide) ?_
  refine mc_V hSF hl.1 hP hD hS hA hK hGV (m_J0_indexOf_7cf53_S0_0 l hfl D ad cA g p1 σ _ hw) goV_J0_633 pd_J0_indexOf_7cf53 ⟨(Nat.le_of_ble_eq_true rfl), (Nat.le_of_ble_eq_true rfl)⟩ ⟨(Nat.le_of_ble_eq_true rfl), (Nat.le_of_ble_eq_true rfl)⟩ (k_srecv (x9 := (0, 3, [45, 112, 114])) hGV (by decide) hS) dJ0_indexOf_0f7a4_3 rfl (Nat.le_of_ble_eq_true rfl) (fun v9 σ9 H locs hq hP hD hS => ?_) (fun _ _ _ _ _ _ h => h.elim)
  obtain ⟨r1, hv9, hs9, hw⟩ := hq
  subst hv9
  subst σ9
  refine W.eq (g2 := F0 m 6 ls [.int r1]) rfl ?_
  refine W.widen (k := 0) (n := 0) (Nat.le_refl _) (Nat.le_refl _) ?_
  exact vx_ret (m_i ⟨_, rfl, rfl, hw⟩ hx hb hr hlocks rfl hP hD hS (Nat.le_of_ble_eq_true rfl) (Nat.le_of_ble_eq_true rfl) dJ0_indexOf_0f7a4_6)

set_option maxHeartbeats 4000000 in
set_option maxRecDepth 100000 in
theorem m_X2_addNode (l : Launch) (hfl : l.stackTraces = false) (D : va_G) (ad : Nat → Nat) (cA : Nat → ClassId) (g : gv_T) (p1 : Int32) (p2 : Int32) (p3 : Int32) (σ : Sg) (Q : Int32 → Sg → Prop) (hw : w_X2_addNode p1 p2 p3 σ Q) : MC l yX2_addNode cX2_addNode 5 (some .int) (RM 0 0 0 0) D ad cA g [.ref (ad 1), .int p1, .int p2, .int p3] σ (fun v σ' => ∃ r : Int32, v = some (.int r) ∧ Q r σ') (fun _ _ => False) := by
  refine MC.of (plainFor_of_name (by decide +kernel)) (Nat.le_of_ble_eq_true rfl) ?_
  intro p e s m args below meth c A ls hx hb hr hml hown hG hlocks htab hA hS hP hK hD hGV hl
  have hown : s.vm.findClass RX2 = some m.cls := hown
  have hl : lv_has ls 5 [(0, .ref (ad 1)), (1, .int p1), (2, .int p2), (3, .int p3)] := hl
  have hSF : CF p m c cX2_addNode 5 s args RX2 := ⟨hx, hb, hml, hown, hG⟩
  refine lv_aload_n hx hb dX2_addNode_0 rfl (lv_at hl 0 rfl) ?_
  refine k_get (ci := 4) (C := RX2) (T := TX2) (N := 12) (v := .int (gI σ 0)) hx hb hG inX2 hown hK hP 1 wl_1 rfl 0 (by decide) gw68 rfl dX2_addNode_1 ?_
  obtain ⟨v1, ev1⟩ : ∃ z : Int32, z = gI σ 0 := ⟨_, rfl⟩
  have hw := hw v1 ev1
  refine lv_istore (lv' := [(4, .int v1), (0, .ref (ad 1)), (1, .int p1), (2, .int p2), (3, .int p3)]) hx hb dX2_addNode_4 hl (by decide) (by subst ev1; rfl) (fun ls hl => ?_)
  refine lv_aload_n hx hb dX2_addNode_6 rfl (lv_at hl 1 rfl) ?_
  refine k_get (ci := 4) (C := RX2) (T := TX2) (N := 12) (v := .ref (ad 2)) hx hb hG inX2 hown hK hP 1 wl_1 rfl 2 (by decide) gw76 rfl dX2_addNode_7 ?_
  refine lv_iconst (v := 2) hx hb dX2_addNode_10 (by decide) ?_
  refine lv_iload hx hb dX2_addNode_11 (lv_at hl 0 rfl) ?_
  refine k_imul (v := 2 * v1) hx hb dX2_addNode_13 rfl ?_
  refine lv_iconst (v := 0) hx hb dX2_addNode_14 (by decide) ?_
  refine k_iadd (v := (2 * v1) + 0) hx hb dX2_addNode_15 rfl ?_
  refine lv_iload_n hx hb dX2_addNode_16 rfl (lv_at hl 2 rfl) ?_
  obtain ⟨hc2, hw⟩ := hw
  obtain ⟨σ3, eσ3⟩ : ∃ z : Sg, z = sA σ 0 (ix ((2 * v1) + 0)) p1 := ⟨_, rfl⟩
  have hw := hw σ3 eσ3
  refine k_iast (ws1 := WL ad cA σ3) hx hb hK hP hD hS 2 wl_2 (ws_2 eσ3) hc2 dX2_addNode_17 (fun H locs hP hD hS => ?_)
  refine lv_aload_n hx hb dX2_addNode_18 rfl (lv_at hl 1 rfl) ?_
  refine k_get (ci := 4) (C := RX2) (T := TX2) (N := 12) (v := .ref (ad 2)) hx hb hG inX2 hown hK hP 1 wl_1 rfl 2 (by decide) gw76 rfl dX2_addNode_19 ?_
  refine lv_iconst (v := 2) hx hb dX2_addNode_22 (by decide) ?_
  refine lv_iload hx hb dX2_addNode_23 (lv_at hl 0 rfl) ?_
  refine k_imul (v := 2 * v1) hx hb dX2_addNode_25 rfl ?_
  refine lv_iconst (v := 1) hx hb dX2_addNode_26 (by decide) ?_
  refine k_iadd (v := (2 * v1) + 1) hx hb dX2_addNode_27 rfl ?_
  refine lv_iload_n hx hb dX2_addNode_28 rfl (lv_at hl 3 rfl) ?_
  obtain ⟨hc4, hw⟩ := hw
  obtain ⟨σ5, eσ5⟩ : ∃ z : Sg, z = sA σ3 0 (ix ((2 * v1) + 1)) p2 := ⟨_, rfl⟩
  have hw := hw σ5 eσ5
  refine k_iast (ws1 := WL ad cA σ5) hx hb hK hP hD hS 2 wl_2 (ws_2 eσ5) hc4 dX2_addNode_29 (fun H locs hP hD hS => ?_)
  refine lv_aload_n hx hb dX2_addNode_30 rfl (lv_at hl 1 rfl) ?_
  refine k_get (ci := 4) (C := RX2) (T := TX2) (N := 12) (v := .ref (ad 5)) hx hb hG inX2 hown hK hP 1 wl_1 rfl 5 (by decide) gw81 rfl dX2_addNode_31 ?_
  refine lv_iload hx hb dX2_addNode_34 (lv_at hl 0 rfl) ?_
  refine lv_iload_n hx hb dX2_addNode_36 rfl (lv_at hl 4 rfl) ?_
  obtain ⟨hc6, hw⟩ := hw
  obtain ⟨σ7, eσ7⟩ : ∃ z : Sg, z = sA σ5 3 (ix v1) (vp_nar .char p3) := ⟨_, rfl⟩
  have hw := hw σ7 eσ7
  refine k_cast (ws1 := WL ad cA σ7) hx hb hK hP hD hS 5 wl_5 (ws_5 eσ7) hc6 dX2_addNode_37 (fun H locs hP hD hS => ?_)
  refine lv_aload_n hx hb dX2_addNode_38 rfl (lv_at hl 1 rfl) ?_
  refine lv_iload hx hb dX2_addNode_39 (lv_at hl 0 rfl) ?_
  refine lv_iconst (v := 1) hx hb dX2_addNode_41 (by decide) ?_
  refine k_iadd (v := v1 + 1) hx hb dX2_addNode_42 rfl ?_
  obtain ⟨σ8, eσ8⟩ : ∃ z : Sg, z = sI σ7 0 (v1 + 1) := ⟨_, rfl⟩
  have hw := hw σ8 eσ8
  refine k_put (ci := 4) (C := RX2) (T := TX2) (N := 12) (v := .int (v1 + 1)) (ws1 := WL ad cA σ8) hx hb hG inX2 tyX2 tyX2_ok nmX2 hown hK hP hD hS 1 wl_1 rfl 0 (by decide) gw68 rfl ⟨rfl, rfl⟩ (ws_1_0 eσ8) (Nat.le_of_ble_eq_true rfl) dX2_addNode_43 (fun H locs hP hD hS => ?_)
  refine lv_iload hx hb dX2_addNode_46 (lv_at hl 0 rfl) ?_
  exact vx_ret (m_i ⟨_, rfl, hw⟩ hx hb hr hlocks rfl hP hD hS (Nat.le_of_ble_eq_true rfl) (Nat.le_of_ble_eq_true rfl) dX2_addNode_48)

set_option maxHeartbeats 4000000 in
set_option maxRecDepth 100000 in
theorem m_X6_node (l : Launch) (hfl : l.stackTraces = false) (D : va_G) (ad : Nat → Nat) (cA : Nat → ClassId) (g : gv_T) (p1 : Int32) (p2 : Int32) (p3 : Int32) (σ : Sg) (Q : Int32 → Sg → Prop) (X : String → Sg → Prop) (hw : w_X6_node p1 p2 p3 σ Q X) : MC l yX6_node cX6_node 4 (some .int) (RM 6 1 6 91) D ad cA g [.ref (ad 0), .int p1, .int p2, .int p3] σ (fun v σ' => ∃ r : Int32, v = some (.int r) ∧ Q r σ') X := by
  refine MC.of (plainFor_of_name (by decide +kernel)) (Nat.le_of_ble_eq_true rfl) ?_
  intro p e s m args below meth c A ls hx hb hr hml hown hG hlocks htab hA hS hP hK hD hGV hl
  have hown : s.vm.findClass RX6 = some m.cls := hown
  have hl : lv_has ls 4 [(0, .ref (ad 0)), (1, .int p1), (2, .int p2), (3, .int p3)] := hl
  have hSF : CF p m c cX6_node 4 s args RX6 := ⟨hx, hb, hml, hown, hG⟩
  refine lv_iload_n hx hb dX6_node_0 rfl (lv_at hl 1 rfl) ?_
  refine lv_iconst (v := 0) hx hb dX6_node_1 (by decide) ?_
  refine lv_bipush (v := 30) hx hb dX6_node_2 (by decide) ?_
  refine mc_S hSF hl.1 hP hD hS hA hK hGV (m_X6_isWithin l hfl D ad cA g p1 0 30 σ _ hw) goS_X6_44 pd_X6_isWithin.2 ⟨(Nat.le_of_ble_eq_true rfl), (Nat.le_of_ble_eq_true rfl)⟩ ⟨(Nat.le_of_ble_eq_true rfl), (Nat.le_of_ble_eq_true rfl)⟩ dX6_node_4 rfl (Nat.le_of_ble_eq_true rfl) (fun v9 σ9 H locs hq hP hD hS => ?_) (fun _ _ _ _ _ _ h => h.elim)
  obtain ⟨r1, hv9, hs9, hw⟩ := hq
  subst hv9
  subst σ9
  refine W.eq (g2 := F0 m 7 ls [.int r1]) rfl ?_
  refine W.widen (k := 0) (n := 0) (Nat.le_refl _) (Nat.le_refl _) ?_
  refine lv_if_eq (tgt := 29) hx hb dX6_node_7 (by decide) (fun k2 => ?_) (fun k2 => ?_)
  · skip
    have hw := hw.1 k2
    exact m_throw hw (names := ["java/lang/RuntimeException", "java/lang/Exception"]) 1 hx hb hfl hown hG hGV htab hlocks (hl.1.trans hml.symm) (by decide +kernel) (by decide +kernel) gw595 gw46 rfl xat_X6_60 hP hD hS dX6_node_29 dX6_node_32 dX6_node_33 dX6_node_35 dX6_node_38 (Nat.le_of_ble_eq_true rfl) (Nat.le_of_ble_eq_true rfl) (Nat.le_of_ble_eq_true rfl) (Nat.le_of_ble_eq_true rfl) (Nat.le_of_ble_eq_true rfl) (Nat.le_of_ble_eq_true rfl)
  · skip
    have hw := hw.2 k2
    refine lv_iload_n hx hb dX6_node_10 rfl (lv_at hl 2 rfl) ?_
    refine lv_iconst (v := 0) hx hb dX6_node_11 (by decide) ?_
    refine lv_bipush (v := 30) hx hb dX6_node_12 (by decide) ?_
    refine mc_S hSF hl.1 hP hD hS hA hK hGV (m_X6_isWithin l hfl D ad cA g p2 0 30 σ _ hw) goS_X6_44 pd_X6_isWithin.2 ⟨(Nat.le_of_ble_eq_true rfl), (Nat.le_of_ble_eq_true rfl)⟩ ⟨(Nat.le_of_ble_eq_true rfl), (Nat.le_of_ble_eq_true rfl)⟩ dX6_node_14 rfl (Nat.le_of_ble_eq_true rfl) (fun v9 σ9 H locs hq hP hD hS => ?_) (fun _ _ _ _ _ _ h => h.elim)
    obtain ⟨r3, hv9, hs9, hw⟩ := hq
    subst hv9
    subst σ9
    refine W.eq (g2 := F0 m 17 ls [.int r3]) rfl ?_
    refine W.widen (k := 0) (n := 0) (Nat.le_refl _) (Nat.le_refl _) ?_
    refine lv_if_eq (tgt := 29) hx hb dX6_node_17 (by decide) (fun k4 => ?_) (fun k4 => ?_)
    · skip
      have hw := hw.1 k4
      exact m_throw hw (names := ["java/lang/RuntimeException", "java/lang/Exception"]) 1 hx hb hfl hown hG hGV htab hlocks (hl.1.trans hml.symm) (by decide +kernel) (by decide +kernel) gw595 gw46 rfl xat_X6_60 hP hD hS dX6_node_29 dX6_node_32 dX6_node_33 dX6_node_35 dX6_node_38 (Nat.le_of_ble_eq_true rfl) (Nat.le_of_ble_eq_true rfl) (Nat.le_of_ble_eq_true rfl) (Nat.le_of_ble_eq_true rfl) (Nat.le_of_ble_eq_true rfl) (Nat.le_of_ble_eq_true rfl)
    · skip
      have hw := hw.2 k4
      refine k_ldcS hx hb hGV 0 rfl hown dX6_node_20 ?_
      refine lv_iload_n hx hb dX6_node_22 rfl (lv_at hl 3 rfl) ?_
      refine mc_V hSF hl.1 hP hD hS hA hK hGV (m_J0_indexOf_0f7a4_S0 l hfl D ad cA g p3 σ _ hw) goV_X6_50 pd_J0_indexOf_0f7a4 ⟨(Nat.le_of_ble_eq_true rfl), (Nat.le_of_ble_eq_true rfl)⟩ ⟨(Nat.le_of_ble_eq_true rfl), (Nat.le_of_ble_eq_true rfl)⟩ (k_srecv (x9 := (0, 3, [45, 112, 114])) hGV (by decide) hS) dX6_node_23 rfl (Nat.le_of_ble_eq_true rfl) (fun v9 σ9 H locs hq hP hD hS => ?_) (fun _ _ _ _ _ _ h => h.elim)
      obtain ⟨r5, hv9, hs9, hw⟩ := hq
      subst hv9
      subst σ9
      refine W.eq (g2 := F0 m 26 ls [.int r5]) rfl ?_
      refine W.widen (k := 0) (n := 0) (Nat.le_refl _) (Nat.le_refl _) ?_
      refine lv_if_ge (tgt := 39) hx hb dX6_node_26 (by decide) (fun k6 => ?_) (fun k6 => ?_)
      · skip
        have hw := hw.1 k6
        refine lv_aload_n hx hb dX6_node_39 rfl (lv_at hl 0 rfl) ?_
        refine k_get (ci := 8) (C := RX6) (T := TX6) (N := 5) (v := .ref (ad 1)) hx hb hG inX6 hown hK hP 0 wl_0 rfl 0 (by decide) gw305 rfl dX6_node_40 ?_
        refine k_get (ci := 4) (C := RX2) (T := TX2) (N := 12) (v := .int (gI σ 0)) hx hb hG inX2 hown hK hP 1 wl_1 rfl 0 (by decide) gw69 rfl dX6_node_43 ?_
        refine lv_bipush (v := 8) hx hb dX6_node_46 (by decide) ?_
        refine lv_icmp_lt (tgt := 61) hx hb dX6_node_48 (by decide) (fun k7 => ?_) (fun k7 => ?_)
        · skip
          have hw := hw.1 k7
          refine lv_aload_n hx hb dX6_node_61 rfl (lv_at hl 0 rfl) ?_
          refine k_get (ci := 8) (C := RX6) (T := TX6) (N := 5) (v := .ref (ad 12)) hx hb hG inX6 hown hK hP 0 wl_0 rfl 1 (by decide) gw306 rfl dX6_node_62 ?_
          refine lv_iconst (v := 0) hx hb dX6_node_65 (by decide) ?_
          obtain ⟨σ8, eσ8⟩ : ∃ z : Sg, z = sI σ 2 0 := ⟨_, rfl⟩
          have hw := hw σ8 eσ8
          refine k_put (ci := 3) (C := RX1) (T := TX1) (N := 17) (v := .int 0) (ws1 := WL ad cA σ8) hx hb hG inX1 tyX1 tyX1_ok nmX1 hown hK hP hD hS 12 wl_12 rfl 0 (by decide) gw139 rfl ⟨rfl, rfl⟩ (ws_12_0 eσ8) (Nat.le_of_ble_eq_true rfl) dX6_node_66 (fun H locs hP hD hS => ?_)
          refine lv_aload_n hx hb dX6_node_69 rfl (lv_at hl 0 rfl) ?_
          refine k_get (ci := 8) (C := RX6) (T := TX6) (N := 5) (v := .ref (ad 1)) hx hb hG inX6 hown hK hP 0 wl_0 rfl 0 (by decide) gw305 rfl dX6_node_70 ?_
          refine lv_iload_n hx hb dX6_node_73 rfl (lv_at hl 1 rfl) ?_
          refine lv_iload_n hx hb dX6_node_74 rfl (lv_at hl 2 rfl) ?_
          refine lv_iload_n hx hb dX6_node_75 rfl (lv_at hl 3 rfl) ?_
          refine mc_V hSF hl.1 hP hD hS hA hK hGV (m_X2_addNode l hfl D ad cA g p1 p2 p3 σ8 _ hw) goV_X6_76 pd_X2_addNode ⟨(Nat.le_of_ble_eq_true rfl), (Nat.le_of_ble_eq_true rfl)⟩ ⟨(Nat.le_of_ble_eq_true rfl), (Nat.le_of_ble_eq_true rfl)⟩ (va_recv hK hP (ci := 4) (q0 := 1) rfl wl_1) dX6_node_76 rfl (Nat.le_of_ble_eq_true rfl) (fun v9 σ10 H locs hq hP hD hS => ?_) (fun _ _ _ _ _ _ h => h.elim)
          obtain ⟨r9, hv9, hw⟩ := hq
          subst hv9
          refine W.eq (g2 := F0 m 79 ls [.int r9]) rfl ?_
          refine W.widen (k := 0) (n := 0) (Nat.le_refl _) (Nat.le_refl _) ?_
          exact vx_ret (m_i ⟨_, rfl, hw⟩ hx hb hr hlocks rfl hP hD hS (Nat.le_of_ble_eq_true rfl) (Nat.le_of_ble_eq_true rfl) dX6_node_79)
        · skip
          have hw := hw.2 k7
          exact m_throw hw (names := ["java/lang/RuntimeException", "java/lang/Exception"]) 2 hx hb hfl hown hG hGV htab hlocks (hl.1.trans hml.symm) (by decide +kernel) (by decide +kernel) gw667 gw47 rfl xat_X6_71 hP hD hS dX6_node_51 dX6_node_54 dX6_node_55 dX6_node_57 dX6_node_60 (Nat.le_of_ble_eq_true rfl) (Nat.le_of_ble_eq_true rfl) (Nat.le_of_ble_eq_true rfl) (Nat.le_of_ble_eq_true rfl) (Nat.le_of_ble_eq_true rfl) (Nat.le_of_ble_eq_true rfl)
      · skip
        have hw := hw.2 k6
        exact m_throw hw (names := ["java/lang/RuntimeException", "java/lang/Exception"]) 1 hx hb hfl hown hG hGV htab hlocks (hl.1.trans hml.symm) (by decide +kernel) (by decide +kernel) gw595 gw46 rfl xat_X6_60 hP hD hS dX6_node_29 dX6_node_32 dX6_node_33 dX6_node_35 dX6_node_38 (Nat.le_of_ble_eq_true rfl) (Nat.le_of_ble_eq_true rfl) (Nat.le_of_ble_eq_true rfl) (Nat.le_of_ble_eq_true rfl) (Nat.le_of_ble_eq_true rfl) (Nat.le_of_ble_eq_true rfl)

set_option maxHeartbeats 4000000 in
set_option maxRecDepth 100000 in
theorem m_L_node (l : Launch) (hfl : l.stackTraces = false) (D : va_G) (ad : Nat → Nat) (cA : Nat → ClassId) (g : gv_T) (p1 : Int32) (p2 : Int32) (p3 : Int32) (σ : Sg) (Q : Int32 → Sg → Prop) (hw : w_L_node p1 p2 p3 σ Q) : MW l yL_node cL_node 5 (some .int) [(0, 7, 8, 20), (0, 7, 13, 22)] (RM 7 1 6 114) D ad cA g [.ref (ad 0), .int p1, .int p2, .int p3] σ (fun v σ' => ∃ r : Int32, v = some (.int r) ∧ Q r σ') := by
  refine MW.of (by decide +kernel) (Nat.le_of_ble_eq_true rfl) ?_
  intro p e s m args below meth c A ls hx hb hr hml hown hG hlocks htab hA hS hP hK hD hGV hl
  have hown : s.vm.findClass RL = some m.cls := hown
  have hl : lv_has ls 5 [(0, .ref (ad 0)), (1, .int p1), (2, .int p2), (3, .int p3)] := hl
  have hSF : CF p m c cL_node 5 s args RL := ⟨hx, hb, hml, hown, hG⟩
  refine lv_aload_n hx hb dL_node_0 rfl (lv_at hl 0 rfl) ?_
  refine lv_iload_n hx hb dL_node_1 rfl (lv_at hl 1 rfl) ?_
  refine lv_iload_n hx hb dL_node_2 rfl (lv_at hl 2 rfl) ?_
  refine lv_iload_n hx hb dL_node_3 rfl (lv_at hl 3 rfl) ?_
  refine mc_V hSF hl.1 hP hD hS hA hK hGV (m_X6_node l hfl D ad cA g p1 p2 p3 σ _ _ hw) goV_L_14 pd_X6_node ⟨(Nat.le_of_ble_eq_true rfl), (Nat.le_of_ble_eq_true rfl)⟩ ⟨(Nat.le_of_ble_eq_true rfl), (Nat.le_of_ble_eq_true rfl)⟩ (va_recv hK hP (ci := 8) (q0 := 0) rfl wl_0) dL_node_4 rfl (Nat.le_of_ble_eq_true rfl) (fun v9 σ2 H locs hq hP hD hS => ?_) (fun E9 σ3 H locs x9 ce9 hw hP hD hS h9 hv9 hc9 => ?_)
  · skip
    obtain ⟨r1, hv9, hw⟩ := hq
    subst hv9
    refine W.eq (g2 := F0 m 7 ls [.int r1]) rfl ?_
    refine W.widen (k := 1) (n := 6) (Nat.le_refl _) (Nat.le_refl _) ?_
    exact m_i ⟨_, rfl, hw⟩ hx hb hr hlocks rfl hP hD hS (Nat.le_of_ble_eq_true rfl) (Nat.le_of_ble_eq_true rfl) dL_node_7
  · skip
    rcases hw with ⟨rfl, hw⟩ | ⟨rfl, hw⟩
    · skip
      refine vx_catch (own := RL) (name := "java/lang/IllegalArgumentException") hown [] { startPc := 0, endPc := 7, handlerPc := 8, catchType := 20 } [{ startPc := 0, endPc := 7, handlerPc := 13, catchType := 22 }] (htab.trans rfl) (fun z hz => nomatch hz) rfl (by decide) (hG _ gw499) (va_Nw.use rfl (hGV.nw _ gw597)) h9 hv9 hc9 ?_
      refine W.eq (g2 := F0 m 8 ls [.ref x9]) rfl ?_
      refine W.widen (k := 1) (n := 6) (Nat.le_refl _) (Nat.le_refl _) ?_
      refine lv_astore (lv' := [(4, .ref x9), (0, .ref (ad 0)), (1, .int p1), (2, .int p2), (3, .int p3)]) hx hb dL_node_8 hl (by decide) rfl (fun ls hl => ?_)
      refine lv_bipush (v := (-78)) hx hb dL_node_10 (by decide) ?_
      exact m_i ⟨_, rfl, hw⟩ hx hb hr hlocks rfl hP hD hS (Nat.le_of_ble_eq_true rfl) (Nat.le_of_ble_eq_true rfl) dL_node_12
    · skip
      refine vx_catch (own := RL) (name := "java/lang/IllegalStateException") hown [{ startPc := 0, endPc := 7, handlerPc := 8, catchType := 20 }] { startPc := 0, endPc := 7, handlerPc := 13, catchType := 22 } [] (htab.trans rfl) (fun z hz => by rcases List.mem_singleton.mp hz with rfl; exact Or.inr ⟨by decide, "java/lang/IllegalArgumentException", hG _ gw499, hGV.nc ("java/lang/IllegalStateException", "java/lang/IllegalArgumentException") (by decide)⟩) rfl (by decide) (hG _ gw500) (va_Nw.use rfl (hGV.nw _ gw669)) h9 hv9 hc9 ?_
      refine W.eq (g2 := F0 m 13 ls [.ref x9]) rfl ?_
      refine W.widen (k := 1) (n := 6) (Nat.le_refl _) (Nat.le_refl _) ?_
      refine lv_astore (lv' := [(4, .ref x9), (0, .ref (ad 0)), (1, .int p1), (2, .int p2), (3, .int p3)]) hx hb dL_node_13 hl (by decide) rfl (fun ls hl => ?_)
      refine lv_bipush (v := (-79)) hx hb dL_node_15 (by decide) ?_
      exact m_i ⟨_, rfl, hw⟩ hx hb hr hlocks rfl hP hD hS (Nat.le_of_ble_eq_true rfl) (Nat.le_of_ble_eq_true rfl) dL_node_17

set_option maxHeartbeats 4000000 in
set_option maxRecDepth 100000 in
theorem m_X6_checkNode (l : Launch) (hfl : l.stackTraces = false) (D : va_G) (ad : Nat → Nat) (cA : Nat → ClassId) (g : gv_T) (p1 : Int32) (σ : Sg) (Q : Prop) (X : String → Sg → Prop) (hw : w_X6_checkNode p1 σ Q X) : MC l yX6_checkNode cX6_checkNode 2 none (RM 6 1 6 82) D ad cA g [.ref (ad 0), .int p1] σ (fun v σ' => v = none ∧ σ' = σ ∧ Q) X := by
  refine MC.of (plainFor_of_name (by decide +kernel)) (Nat.le_of_ble_eq_true rfl) ?_
  intro p e s m args below meth c A ls hx hb hr hml hown hG hlocks htab hA hS hP hK hD hGV hl
  have hown : s.vm.findClass RX6 = some m.cls := hown
  have hl : lv_has ls 2 [(0, .ref (ad 0)), (1, .int p1)] := hl
  have hSF : CF p m c cX6_checkNode 2 s args RX6 := ⟨hx, hb, hml, hown, hG⟩
  refine lv_iload_n hx hb dX6_checkNode_0 rfl (lv_at hl 1 rfl) ?_
  refine lv_if_lt (tgt := 15) hx hb dX6_checkNode_1 (by decide) (fun k1 => ?_) (fun k1 => ?_)
  · skip
    have hw := hw.1 k1
    exact m_throwW hw (names := ["java/lang/RuntimeException", "java/lang/Exception"]) 3 hx hb hfl hown hG hGV htab hlocks (hl.1.trans hml.symm) (by decide +kernel) (by decide +kernel) gw722 gw48 rfl xat_X6_232 hP hD hS dX6_checkNode_15 dX6_checkNode_18 dX6_checkNode_19 dX6_checkNode_22 dX6_checkNode_25 (Nat.le_of_ble_eq_true rfl) (Nat.le_of_ble_eq_true rfl) (Nat.le_of_ble_eq_true rfl) (Nat.le_of_ble_eq_true rfl) (Nat.le_of_ble_eq_true rfl) (Nat.le_of_ble_eq_true rfl)
  · skip
    have hw := hw.2 k1
    refine lv_iload_n hx hb dX6_checkNode_4 rfl (lv_at hl 1 rfl) ?_
    refine lv_aload_n hx hb dX6_checkNode_5 rfl (lv_at hl 0 rfl) ?_
    refine k_get (ci := 8) (C := RX6) (T := TX6) (N := 5) (v := .ref (ad 1)) hx hb hG inX6 hown hK hP 0 wl_0 rfl 0 (by decide) gw305 rfl dX6_checkNode_6 ?_
    refine k_get (ci := 4) (C := RX2) (T := TX2) (N := 12) (v := .int (gI σ 0)) hx hb hG inX2 hown hK hP 1 wl_1 rfl 0 (by decide) gw69 rfl dX6_checkNode_9 ?_
    refine lv_icmp_lt (tgt := 26) hx hb dX6_checkNode_12 (by decide) (fun k2 => ?_) (fun k2 => ?_)
    · skip
      have hw := hw.1 k2
      exact vx_ret (m_v ⟨rfl, rfl, hw⟩ hx hb hr hlocks hP hD hS (Nat.le_of_ble_eq_true rfl) (Nat.le_of_ble_eq_true rfl) dX6_checkNode_26)
    · skip
      have hw := hw.2 k2
      exact m_throwW hw (names := ["java/lang/RuntimeException", "java/lang/Exception"]) 3 hx hb hfl hown hG hGV htab hlocks (hl.1.trans hml.symm) (by decide +kernel) (by decide +kernel) gw722 gw48 rfl xat_X6_232 hP hD hS dX6_checkNode_15 dX6_checkNode_18 dX6_checkNode_19 dX6_checkNode_22 dX6_checkNode_25 (Nat.le_of_ble_eq_true rfl) (Nat.le_of_ble_eq_true rfl) (Nat.le_of_ble_eq_true rfl) (Nat.le_of_ble_eq_true rfl) (Nat.le_of_ble_eq_true rfl) (Nat.le_of_ble_eq_true rfl)

set_option maxHeartbeats 4000000 in
set_option maxRecDepth 100000 in
theorem m_X2_isOnePlace (l : Launch) (hfl : l.stackTraces = false) (D : va_G) (ad : Nat → Nat) (cA : Nat → ClassId) (g : gv_T) (p1 : Int32) (p2 : Int32) (σ : Sg) (Q : Int32 → Prop) (hw : w_X2_isOnePlace p1 p2 σ Q) : MC l yX2_isOnePlace cX2_isOnePlace 3 (some .boolean) (RM 0 0 0 0) D ad cA g [.ref (ad 1), .int p1, .int p2] σ (fun v σ' => ∃ r : Int32, v = some (.int r) ∧ σ' = σ ∧ Q r) (fun _ _ => False) := by
  refine MC.of (plainFor_of_name (by decide +kernel)) (Nat.le_of_ble_eq_true rfl) ?_
  intro p e s m args below meth c A ls hx hb hr hml hown hG hlocks htab hA hS hP hK hD hGV hl
  have hown : s.vm.findClass RX2 = some m.cls := hown
  have hl : lv_has ls 3 [(0, .ref (ad 1)), (1, .int p1), (2, .int p2)] := hl
  have hSF : CF p m c cX2_isOnePlace 3 s args RX2 := ⟨hx, hb, hml, hown, hG⟩
  refine lv_aload_n hx hb dX2_isOnePlace_0 rfl (lv_at hl 0 rfl) ?_
  refine k_get (ci := 4) (C := RX2) (T := TX2) (N := 12) (v := .ref (ad 2)) hx hb hG inX2 hown hK hP 1 wl_1 rfl 2 (by decide) gw76 rfl dX2_isOnePlace_1 ?_
  refine lv_iconst (v := 2) hx hb dX2_isOnePlace_4 (by decide) ?_
  refine lv_iload_n hx hb dX2_isOnePlace_5 rfl (lv_at hl 1 rfl) ?_
  refine k_imul (v := 2 * p1) hx hb dX2_isOnePlace_6 rfl ?_
  refine lv_iconst (v := 0) hx hb dX2_isOnePlace_7 (by decide) ?_
  refine k_iadd (v := (2 * p1) + 0) hx hb dX2_isOnePlace_8 rfl ?_
  obtain ⟨hc1, hw⟩ := hw
  refine k_iald (v := gA σ 0 (ix ((2 * p1) + 0))) hx hb hK hP 2 wl_2 (ix ((2 * p1) + 0)) rfl rfl hc1 dX2_isOnePlace_9 ?_
  refine lv_aload_n hx hb dX2_isOnePlace_10 rfl (lv_at hl 0 rfl) ?_
  refine k_get (ci := 4) (C := RX2) (T := TX2) (N := 12) (v := .ref (ad 2)) hx hb hG inX2 hown hK hP 1 wl_1 rfl 2 (by decide) gw76 rfl dX2_isOnePlace_11 ?_
  refine lv_iconst (v := 2) hx hb dX2_isOnePlace_14 (by decide) ?_
  refine lv_iload_n hx hb dX2_isOnePlace_15 rfl (lv_at hl 2 rfl) ?_
  refine k_imul (v := 2 * p2) hx hb dX2_isOnePlace_16 rfl ?_
  refine lv_iconst (v := 0) hx hb dX2_isOnePlace_17 (by decide) ?_
  refine k_iadd (v := (2 * p2) + 0) hx hb dX2_isOnePlace_18 rfl ?_
  obtain ⟨hc2, hw⟩ := hw
  refine k_iald (v := gA σ 0 (ix ((2 * p2) + 0))) hx hb hK hP 2 wl_2 (ix ((2 * p2) + 0)) rfl rfl hc2 dX2_isOnePlace_19 ?_
  refine lv_icmp_ne (tgt := 50) hx hb dX2_isOnePlace_20 (by decide) (fun k3 => ?_) (fun k3 => ?_)
  · skip
    have hw := hw.1 k3
    refine lv_iconst (v := 0) hx hb dX2_isOnePlace_50 (by decide) ?_
    exact vx_ret (m_i ⟨_, rfl, rfl, hw⟩ hx hb hr hlocks rfl hP hD hS (Nat.le_of_ble_eq_true rfl) (Nat.le_of_ble_eq_true rfl) dX2_isOnePlace_51)
  · skip
    have hw := hw.2 k3
    refine lv_aload_n hx hb dX2_isOnePlace_23 rfl (lv_at hl 0 rfl) ?_
    refine k_get (ci := 4) (C := RX2) (T := TX2) (N := 12) (v := .ref (ad 2)) hx hb hG inX2 hown hK hP 1 wl_1 rfl 2 (by decide) gw76 rfl dX2_isOnePlace_24 ?_
    refine lv_iconst (v := 2) hx hb dX2_isOnePlace_27 (by decide) ?_
    refine lv_iload_n hx hb dX2_isOnePlace_28 rfl (lv_at hl 1 rfl) ?_
    refine k_imul (v := 2 * p1) hx hb dX2_isOnePlace_29 rfl ?_
    refine lv_iconst (v := 1) hx hb dX2_isOnePlace_30 (by decide) ?_
    refine k_iadd (v := (2 * p1) + 1) hx hb dX2_isOnePlace_31 rfl ?_
    obtain ⟨hc4, hw⟩ := hw
    refine k_iald (v := gA σ 0 (ix ((2 * p1) + 1))) hx hb hK hP 2 wl_2 (ix ((2 * p1) + 1)) rfl rfl hc4 dX2_isOnePlace_32 ?_
    refine lv_aload_n hx hb dX2_isOnePlace_33 rfl (lv_at hl 0 rfl) ?_
    refine k_get (ci := 4) (C := RX2) (T := TX2) (N := 12) (v := .ref (ad 2)) hx hb hG inX2 hown hK hP 1 wl_1 rfl 2 (by decide) gw76 rfl dX2_isOnePlace_34 ?_
    refine lv_iconst (v := 2) hx hb dX2_isOnePlace_37 (by decide) ?_
    refine lv_iload_n hx hb dX2_isOnePlace_38 rfl (lv_at hl 2 rfl) ?_
    refine k_imul (v := 2 * p2) hx hb dX2_isOnePlace_39 rfl ?_
    refine lv_iconst (v := 1) hx hb dX2_isOnePlace_40 (by decide) ?_
    refine k_iadd (v := (2 * p2) + 1) hx hb dX2_isOnePlace_41 rfl ?_
    obtain ⟨hc5, hw⟩ := hw
    refine k_iald (v := gA σ 0 (ix ((2 * p2) + 1))) hx hb hK hP 2 wl_2 (ix ((2 * p2) + 1)) rfl rfl hc5 dX2_isOnePlace_42 ?_
    refine lv_icmp_ne (tgt := 50) hx hb dX2_isOnePlace_43 (by decide) (fun k6 => ?_) (fun k6 => ?_)
    · skip
      have hw := hw.1 k6
      refine lv_iconst (v := 0) hx hb dX2_isOnePlace_50 (by decide) ?_
      exact vx_ret (m_i ⟨_, rfl, rfl, hw⟩ hx hb hr hlocks rfl hP hD hS (Nat.le_of_ble_eq_true rfl) (Nat.le_of_ble_eq_true rfl) dX2_isOnePlace_51)
    · skip
      have hw := hw.2 k6
      refine lv_iconst (v := 1) hx hb dX2_isOnePlace_46 (by decide) ?_
      refine lv_goto (tgt := 51) hx hb dX2_isOnePlace_47 (by decide) ?_
      exact vx_ret (m_i ⟨_, rfl, rfl, hw⟩ hx hb hr hlocks rfl hP hD hS (Nat.le_of_ble_eq_true rfl) (Nat.le_of_ble_eq_true rfl) dX2_isOnePlace_51)

set_option maxHeartbeats 4000000 in
set_option maxRecDepth 100000 in
theorem m_X6_isSection (l : Launch) (hfl : l.stackTraces = false) (D : va_G) (ad : Nat → Nat) (cA : Nat → ClassId) (g : gv_T) (p0 : Int32) (p1 : Int32) (σ : Sg) (Q : Int32 → Prop) (hw : w_X6_isSection p0 p1 σ Q) : MC l yX6_isSection cX6_isSection 2 (some .boolean) (RM 1 0 0 22) D ad cA g [.int p0, .int p1] σ (fun v σ' => ∃ r : Int32, v = some (.int r) ∧ σ' = σ ∧ Q r) (fun _ _ => False) := by
  refine MC.of (plainFor_of_name (by decide +kernel)) (Nat.le_of_ble_eq_true rfl) ?_
  intro p e s m args below meth c A ls hx hb hr hml hown hG hlocks htab hA hS hP hK hD hGV hl
  have hown : s.vm.findClass RX6 = some m.cls := hown
  have hl : lv_has ls 2 [(0, .int p0), (1, .int p1)] := hl
  have hSF : CF p m c cX6_isSection 2 s args RX6 := ⟨hx, hb, hml, hown, hG⟩
  refine lv_iload_n hx hb dX6_isSection_0 rfl (lv_at hl 0 rfl) ?_
  refine lv_bipush (v := 6) hx hb dX6_isSection_1 (by decide) ?_
  refine lv_bipush (v := 40) hx hb dX6_isSection_3 (by decide) ?_
  refine mc_S hSF hl.1 hP hD hS hA hK hGV (m_X6_isWithin l hfl D ad cA g p0 6 40 σ _ hw) goS_X6_44 pd_X6_isWithin.2 ⟨(Nat.le_of_ble_eq_true rfl), (Nat.le_of_ble_eq_true rfl)⟩ ⟨(Nat.le_of_ble_eq_true rfl), (Nat.le_of_ble_eq_true rfl)⟩ dX6_isSection_5 rfl (Nat.le_of_ble_eq_true rfl) (fun v9 σ9 H locs hq hP hD hS => ?_) (fun _ _ _ _ _ _ h => h.elim)
  obtain ⟨r1, hv9, hs9, hw⟩ := hq
  subst hv9
  subst σ9
  refine W.eq (g2 := F0 m 8 ls [.int r1]) rfl ?_
  refine W.widen (k := 0) (n := 0) (Nat.le_refl _) (Nat.le_refl _) ?_
  refine lv_if_eq (tgt := 24) hx hb dX6_isSection_8 (by decide) (fun k2 => ?_) (fun k2 => ?_)
  · skip
    have hw := hw.1 k2
    refine lv_iconst (v := 0) hx hb dX6_isSection_24 (by decide) ?_
    exact vx_ret (m_i ⟨_, rfl, rfl, hw⟩ hx hb hr hlocks rfl hP hD hS (Nat.le_of_ble_eq_true rfl) (Nat.le_of_ble_eq_true rfl) dX6_isSection_25)
  · skip
    have hw := hw.2 k2
    refine lv_iload_n hx hb dX6_isSection_11 rfl (lv_at hl 1 rfl) ?_
    refine lv_iconst (v := 0) hx hb dX6_isSection_12 (by decide) ?_
    refine lv_iconst (v := 3) hx hb dX6_isSection_13 (by decide) ?_
    refine mc_S hSF hl.1 hP hD hS hA hK hGV (m_X6_isWithin l hfl D ad cA g p1 0 3 σ _ hw) goS_X6_44 pd_X6_isWithin.2 ⟨(Nat.le_of_ble_eq_true rfl), (Nat.le_of_ble_eq_true rfl)⟩ ⟨(Nat.le_of_ble_eq_true rfl), (Nat.le_of_ble_eq_true rfl)⟩ dX6_isSection_14 rfl (Nat.le_of_ble_eq_true rfl) (fun v9 σ9 H locs hq hP hD hS => ?_) (fun _ _ _ _ _ _ h => h.elim)
    obtain ⟨r3, hv9, hs9, hw⟩ := hq
    subst hv9
    subst σ9
    refine W.eq (g2 := F0 m 17 ls [.int r3]) rfl ?_
    refine W.widen (k := 0) (n := 0) (Nat.le_refl _) (Nat.le_refl _) ?_
    refine lv_if_eq (tgt := 24) hx hb dX6_isSection_17 (by decide) (fun k4 => ?_) (fun k4 => ?_)
    · skip
      have hw := hw.1 k4
      refine lv_iconst (v := 0) hx hb dX6_isSection_24 (by decide) ?_
      exact vx_ret (m_i ⟨_, rfl, rfl, hw⟩ hx hb hr hlocks rfl hP hD hS (Nat.le_of_ble_eq_true rfl) (Nat.le_of_ble_eq_true rfl) dX6_isSection_25)
    · skip
      have hw := hw.2 k4
      refine lv_iconst (v := 1) hx hb dX6_isSection_20 (by decide) ?_
      refine lv_goto (tgt := 25) hx hb dX6_isSection_21 (by decide) ?_
      exact vx_ret (m_i ⟨_, rfl, rfl, hw⟩ hx hb hr hlocks rfl hP hD hS (Nat.le_of_ble_eq_true rfl) (Nat.le_of_ble_eq_true rfl) dX6_isSection_25)

set_option maxHeartbeats 4000000 in
set_option maxRecDepth 100000 in
theorem m_X2_addMember (l : Launch) (hfl : l.stackTraces = false) (D : va_G) (ad : Nat → Nat) (cA : Nat → ClassId) (g : gv_T) (p1 : Int32) (p2 : Int32) (p3 : Int32) (p4 : Int32) (σ : Sg) (Q : Int32 → Sg → Prop) (hw : w_X2_addMember p1 p2 p3 p4 σ Q) : MC l yX2_addMember cX2_addMember 6 (some .int) (RM 0 0 0 0) D ad cA g [.ref (ad 1), .int p1, .int p2, .int p3, .int p4] σ (fun v σ' => ∃ r : Int32, v = some (.int r) ∧ Q r σ') (fun _ _ => False) := by
  refine MC.of (plainFor_of_name (by decide +kernel)) (Nat.le_of_ble_eq_true rfl) ?_
  intro p e s m args below meth c A ls hx hb hr hml hown hG hlocks htab hA hS hP hK hD hGV hl
  have hown : s.vm.findClass RX2 = some m.cls := hown
  have hl : lv_has ls 6 [(0, .ref (ad 1)), (1, .int p1), (2, .int p2), (3, .int p3), (4, .int p4)] := hl
  have hSF : CF p m c cX2_addMember 6 s args RX2 := ⟨hx, hb, hml, hown, hG⟩
  refine lv_aload_n hx hb dX2_addMember_0 rfl (lv_at hl 0 rfl) ?_
  refine k_get (ci := 4) (C := RX2) (T := TX2) (N := 12) (v := .int (gI σ 1)) hx hb hG inX2 hown hK hP 1 wl_1 rfl 1 (by decide) gw71 rfl dX2_addMember_1 ?_
  obtain ⟨v1, ev1⟩ : ∃ z : Int32, z = gI σ 1 := ⟨_, rfl⟩
  have hw := hw v1 ev1
  refine lv_istore (lv' := [(5, .int v1), (0, .ref (ad 1)), (1, .int p1), (2, .int p2), (3, .int p3), (4, .int p4)]) hx hb dX2_addMember_4 hl (by decide) (by subst ev1; rfl) (fun ls hl => ?_)
  refine lv_aload_n hx hb dX2_addMember_6 rfl (lv_at hl 1 rfl) ?_
  refine k_get (ci := 4) (C := RX2) (T := TX2) (N := 12) (v := .ref (ad 6)) hx hb hG inX2 hown hK hP 1 wl_1 rfl 6 (by decide) gw82 rfl dX2_addMember_7 ?_
  refine lv_iload hx hb dX2_addMember_10 (lv_at hl 0 rfl) ?_
  refine lv_iload_n hx hb dX2_addMember_12 rfl (lv_at hl 2 rfl) ?_
  obtain ⟨hc2, hw⟩ := hw
  obtain ⟨σ3, eσ3⟩ : ∃ z : Sg, z = sA σ 4 (ix v1) p1 := ⟨_, rfl⟩
  have hw := hw σ3 eσ3
  refine k_iast (ws1 := WL ad cA σ3) hx hb hK hP hD hS 6 wl_6 (ws_6 eσ3) hc2 dX2_addMember_13 (fun H locs hP hD hS => ?_)
  refine lv_aload_n hx hb dX2_addMember_14 rfl (lv_at hl 1 rfl) ?_
  refine k_get (ci := 4) (C := RX2) (T := TX2) (N := 12) (v := .ref (ad 7)) hx hb hG inX2 hown hK hP 1 wl_1 rfl 7 (by decide) gw83 rfl dX2_addMember_15 ?_
  refine lv_iload hx hb dX2_addMember_18 (lv_at hl 0 rfl) ?_
  refine lv_iload_n hx hb dX2_addMember_20 rfl (lv_at hl 3 rfl) ?_
  obtain ⟨hc4, hw⟩ := hw
  obtain ⟨σ5, eσ5⟩ : ∃ z : Sg, z = sA σ3 5 (ix v1) p2 := ⟨_, rfl⟩
  have hw := hw σ5 eσ5
  refine k_iast (ws1 := WL ad cA σ5) hx hb hK hP hD hS 7 wl_7 (ws_7 eσ5) hc4 dX2_addMember_21 (fun H locs hP hD hS => ?_)
  refine lv_aload_n hx hb dX2_addMember_22 rfl (lv_at hl 1 rfl) ?_
  refine k_get (ci := 4) (C := RX2) (T := TX2) (N := 12) (v := .ref (ad 8)) hx hb hG inX2 hown hK hP 1 wl_1 rfl 8 (by decide) gw84 rfl dX2_addMember_23 ?_
  refine lv_iload hx hb dX2_addMember_26 (lv_at hl 0 rfl) ?_
  refine lv_iload_n hx hb dX2_addMember_28 rfl (lv_at hl 4 rfl) ?_
  obtain ⟨hc6, hw⟩ := hw
  obtain ⟨σ7, eσ7⟩ : ∃ z : Sg, z = sA σ5 6 (ix v1) p3 := ⟨_, rfl⟩
  have hw := hw σ7 eσ7
  refine k_iast (ws1 := WL ad cA σ7) hx hb hK hP hD hS 8 wl_8 (ws_8 eσ7) hc6 dX2_addMember_29 (fun H locs hP hD hS => ?_)
  refine lv_aload_n hx hb dX2_addMember_30 rfl (lv_at hl 1 rfl) ?_
  refine k_get (ci := 4) (C := RX2) (T := TX2) (N := 12) (v := .ref (ad 9)) hx hb hG inX2 hown hK hP 1 wl_1 rfl 9 (by decide) gw87 rfl dX2_addMember_31 ?_
  refine lv_iload hx hb dX2_addMember_34 (lv_at hl 0 rfl) ?_
  refine lv_iload hx hb dX2_addMember_36 (lv_at hl 5 rfl) ?_
  obtain ⟨hc8, hw⟩ := hw
  obtain ⟨σ9, eσ9⟩ : ∃ z : Sg, z = sA σ7 7 (ix v1) p4 := ⟨_, rfl⟩
  have hw := hw σ9 eσ9
  refine k_iast (ws1 := WL ad cA σ9) hx hb hK hP hD hS 9 wl_9 (ws_9 eσ9) hc8 dX2_addMember_38 (fun H locs hP hD hS => ?_)
  refine lv_aload_n hx hb dX2_addMember_39 rfl (lv_at hl 1 rfl) ?_
  refine k_get (ci := 4) (C := RX2) (T := TX2) (N := 12) (v := .ref (ad 10)) hx hb hG inX2 hown hK hP 1 wl_1 rfl 10 (by decide) gw89 rfl dX2_addMember_40 ?_
  refine lv_iload hx hb dX2_addMember_43 (lv_at hl 0 rfl) ?_
  refine lv_bipush (v := 30) hx hb dX2_addMember_45 (by decide) ?_
  obtain ⟨hc10, hw⟩ := hw
  obtain ⟨σ11, eσ11⟩ : ∃ z : Sg, z = sA σ9 8 (ix v1) 30 := ⟨_, rfl⟩
  have hw := hw σ11 eσ11
  refine k_iast (ws1 := WL ad cA σ11) hx hb hK hP hD hS 10 wl_10 (ws_10 eσ11) hc10 dX2_addMember_47 (fun H locs hP hD hS => ?_)
  refine lv_aload_n hx hb dX2_addMember_48 rfl (lv_at hl 1 rfl) ?_
  refine k_get (ci := 4) (C := RX2) (T := TX2) (N := 12) (v := .ref (ad 11)) hx hb hG inX2 hown hK hP 1 wl_1 rfl 11 (by decide) gw92 rfl dX2_addMember_49 ?_
  refine lv_iload hx hb dX2_addMember_52 (lv_at hl 0 rfl) ?_
  refine lv_bipush (v := 30) hx hb dX2_addMember_54 (by decide) ?_
  obtain ⟨hc12, hw⟩ := hw
  obtain ⟨σ13, eσ13⟩ : ∃ z : Sg, z = sA σ11 9 (ix v1) 30 := ⟨_, rfl⟩
  have hw := hw σ13 eσ13
  refine k_iast (ws1 := WL ad cA σ13) hx hb hK hP hD hS 11 wl_11 (ws_11 eσ13) hc12 dX2_addMember_56 (fun H locs hP hD hS => ?_)
  refine lv_aload_n hx hb dX2_addMember_57 rfl (lv_at hl 1 rfl) ?_
  refine lv_iload hx hb dX2_addMember_58 (lv_at hl 0 rfl) ?_
  refine lv_iconst (v := 1) hx hb dX2_addMember_60 (by decide) ?_
  refine k_iadd (v := v1 + 1) hx hb dX2_addMember_61 rfl ?_
  obtain ⟨σ14, eσ14⟩ : ∃ z : Sg, z = sI σ13 1 (v1 + 1) := ⟨_, rfl⟩
  have hw := hw σ14 eσ14
  refine k_put (ci := 4) (C := RX2) (T := TX2) (N := 12) (v := .int (v1 + 1)) (ws1 := WL ad cA σ14) hx hb hG inX2 tyX2 tyX2_ok nmX2 hown hK hP hD hS 1 wl_1 rfl 1 (by decide) gw71 rfl ⟨rfl, rfl⟩ (ws_1_1 eσ14) (Nat.le_of_ble_eq_true rfl) dX2_addMember_62 (fun H locs hP hD hS => ?_)
  refine lv_iload hx hb dX2_addMember_65 (lv_at hl 0 rfl) ?_
  exact vx_ret (m_i ⟨_, rfl, hw⟩ hx hb hr hlocks rfl hP hD hS (Nat.le_of_ble_eq_true rfl) (Nat.le_of_ble_eq_true rfl) dX2_addMember_67)

set_option maxHeartbeats 4000000 in
set_option maxRecDepth 100000 in
theorem m_X6_member (l : Launch) (hfl : l.stackTraces = false) (D : va_G) (ad : Nat → Nat) (cA : Nat → ClassId) (g : gv_T) (p1 : Int32) (p2 : Int32) (p3 : Int32) (p4 : Int32) (σ : Sg) (Q : Int32 → Sg → Prop) (X : String → Sg → Prop) (hw : w_X6_member p1 p2 p3 p4 σ Q X) : MC l yX6_member cX6_member 5 (some .int) (RM 7 3 18 103) D ad cA g [.ref (ad 0), .int p1, .int p2, .int p3, .int p4] σ (fun v σ' => ∃ r : Int32, v = some (.int r) ∧ Q r σ') X := by
  refine MC.of (plainFor_of_name (by decide +kernel)) (Nat.le_of_ble_eq_true rfl) ?_
  intro p e s m args below meth c A ls hx hb hr hml hown hG hlocks htab hA hS hP hK hD hGV hl
  have hown : s.vm.findClass RX6 = some m.cls := hown
  have hl : lv_has ls 5 [(0, .ref (ad 0)), (1, .int p1), (2, .int p2), (3, .int p3), (4, .int p4)] := hl
  have hSF : CF p m c cX6_member 5 s args RX6 := ⟨hx, hb, hml, hown, hG⟩
  refine lv_aload_n hx hb dX6_member_0 rfl (lv_at hl 0 rfl) ?_
  refine lv_iload_n hx hb dX6_member_1 rfl (lv_at hl 1 rfl) ?_
  refine mc_V hSF hl.1 hP hD hS hA hK hGV (m_X6_checkNode l hfl D ad cA g p1 σ _ _ hw) goV_X6_80 pd_X6_checkNode ⟨(Nat.le_of_ble_eq_true rfl), (Nat.le_of_ble_eq_true rfl)⟩ ⟨(Nat.le_of_ble_eq_true rfl), (Nat.le_of_ble_eq_true rfl)⟩ (va_recv hK hP (ci := 8) (q0 := 0) rfl wl_0) dX6_member_2 rfl (Nat.le_of_ble_eq_true rfl) (fun v9 σ9 H locs hq hP hD hS => ?_) (fun E9 σ9 H locs x9 ce9 hw hP hD hS h9 hv9 hc9 => ?_)
  · skip
    obtain ⟨hv9, hs9, hw⟩ := hq
    subst hv9
    subst σ9
    refine W.eq (g2 := F0 m 5 ls []) rfl ?_
    refine W.widen (k := 1) (n := 6) (Nat.le_refl _) (Nat.le_refl _) ?_
    refine lv_aload_n hx hb dX6_member_5 rfl (lv_at hl 0 rfl) ?_
    refine lv_iload_n hx hb dX6_member_6 rfl (lv_at hl 2 rfl) ?_
    refine mc_V hSF hl.1 hP hD hS hA hK hGV (m_X6_checkNode l hfl D ad cA g p2 σ _ _ hw) goV_X6_80 pd_X6_checkNode ⟨(Nat.le_of_ble_eq_true rfl), (Nat.le_of_ble_eq_true rfl)⟩ ⟨(Nat.le_of_ble_eq_true rfl), (Nat.le_of_ble_eq_true rfl)⟩ (va_recv hK hP (ci := 8) (q0 := 0) rfl wl_0) dX6_member_7 rfl (Nat.le_of_ble_eq_true rfl) (fun v9 σ9 H locs hq hP hD hS => ?_) (fun E9 σ9 H locs x9 ce9 hw hP hD hS h9 hv9 hc9 => ?_)
    · skip
      obtain ⟨hv9, hs9, hw⟩ := hq
      subst hv9
      subst σ9
      refine W.eq (g2 := F0 m 10 ls []) rfl ?_
      refine W.widen (k := 2) (n := 12) (Nat.le_refl _) (Nat.le_refl _) ?_
      refine lv_aload_n hx hb dX6_member_10 rfl (lv_at hl 0 rfl) ?_
      refine k_get (ci := 8) (C := RX6) (T := TX6) (N := 5) (v := .ref (ad 1)) hx hb hG inX6 hown hK hP 0 wl_0 rfl 0 (by decide) gw305 rfl dX6_member_11 ?_
      refine lv_iload_n hx hb dX6_member_14 rfl (lv_at hl 1 rfl) ?_
      refine lv_iload_n hx hb dX6_member_15 rfl (lv_at hl 2 rfl) ?_
      refine mc_V hSF hl.1 hP hD hS hA hK hGV (m_X2_isOnePlace l hfl D ad cA g p1 p2 σ _ hw) goV_X6_84 pd_X2_isOnePlace ⟨(Nat.le_of_ble_eq_true rfl), (Nat.le_of_ble_eq_true rfl)⟩ ⟨(Nat.le_of_ble_eq_true rfl), (Nat.le_of_ble_eq_true rfl)⟩ (va_recv hK hP (ci := 4) (q0 := 1) rfl wl_1) dX6_member_16 rfl (Nat.le_of_ble_eq_true rfl) (fun v9 σ9 H locs hq hP hD hS => ?_) (fun _ _ _ _ _ _ h => h.elim)
      obtain ⟨r3, hv9, hs9, hw⟩ := hq
      subst hv9
      subst σ9
      refine W.eq (g2 := F0 m 19 ls [.int r3]) rfl ?_
      refine W.widen (k := 2) (n := 12) (Nat.le_refl _) (Nat.le_refl _) ?_
      refine lv_if_ne (tgt := 31) hx hb dX6_member_19 (by decide) (fun k4 => ?_) (fun k4 => ?_)
      · skip
        have hw := hw.1 k4
        exact m_throw hw (names := ["java/lang/RuntimeException", "java/lang/Exception"]) 4 hx hb hfl hown hG hGV htab hlocks (hl.1.trans hml.symm) (by decide +kernel) (by decide +kernel) gw595 gw46 rfl xat_X6_60 hP hD hS dX6_member_31 dX6_member_34 dX6_member_35 dX6_member_37 dX6_member_40 (Nat.le_of_ble_eq_true rfl) (Nat.le_of_ble_eq_true rfl) (Nat.le_of_ble_eq_true rfl) (Nat.le_of_ble_eq_true rfl) (Nat.le_of_ble_eq_true rfl) (Nat.le_of_ble_eq_true rfl)
      · skip
        have hw := hw.2 k4
        refine lv_iload_n hx hb dX6_member_22 rfl (lv_at hl 3 rfl) ?_
        refine lv_iload hx hb dX6_member_23 (lv_at hl 4 rfl) ?_
        refine mc_S hSF hl.1 hP hD hS hA hK hGV (m_X6_isSection l hfl D ad cA g p3 p4 σ _ hw) goS_X6_88 pd_X6_isSection.2 ⟨(Nat.le_of_ble_eq_true rfl), (Nat.le_of_ble_eq_true rfl)⟩ ⟨(Nat.le_of_ble_eq_true rfl), (Nat.le_of_ble_eq_true rfl)⟩ dX6_member_25 rfl (Nat.le_of_ble_eq_true rfl) (fun v9 σ9 H locs hq hP hD hS => ?_) (fun _ _ _ _ _ _ h => h.elim)
        obtain ⟨r5, hv9, hs9, hw⟩ := hq
        subst hv9
        subst σ9
        refine W.eq (g2 := F0 m 28 ls [.int r5]) rfl ?_
        refine W.widen (k := 2) (n := 12) (Nat.le_refl _) (Nat.le_refl _) ?_
        refine lv_if_ne (tgt := 41) hx hb dX6_member_28 (by decide) (fun k6 => ?_) (fun k6 => ?_)
        · skip
          have hw := hw.1 k6
          refine lv_aload_n hx hb dX6_member_41 rfl (lv_at hl 0 rfl) ?_
          refine k_get (ci := 8) (C := RX6) (T := TX6) (N := 5) (v := .ref (ad 1)) hx hb hG inX6 hown hK hP 0 wl_0 rfl 0 (by decide) gw305 rfl dX6_member_42 ?_
          refine k_get (ci := 4) (C := RX2) (T := TX2) (N := 12) (v := .int (gI σ 1)) hx hb hG inX2 hown hK hP 1 wl_1 rfl 1 (by decide) gw73 rfl dX6_member_45 ?_
          refine lv_bipush (v := 9) hx hb dX6_member_48 (by decide) ?_
          refine lv_icmp_lt (tgt := 63) hx hb dX6_member_50 (by decide) (fun k7 => ?_) (fun k7 => ?_)
          · skip
            have hw := hw.1 k7
            refine lv_aload_n hx hb dX6_member_63 rfl (lv_at hl 0 rfl) ?_
            refine k_get (ci := 8) (C := RX6) (T := TX6) (N := 5) (v := .ref (ad 12)) hx hb hG inX6 hown hK hP 0 wl_0 rfl 1 (by decide) gw306 rfl dX6_member_64 ?_
            refine lv_iconst (v := 0) hx hb dX6_member_67 (by decide) ?_
            obtain ⟨σ8, eσ8⟩ : ∃ z : Sg, z = sI σ 2 0 := ⟨_, rfl⟩
            have hw := hw σ8 eσ8
            refine k_put (ci := 3) (C := RX1) (T := TX1) (N := 17) (v := .int 0) (ws1 := WL ad cA σ8) hx hb hG inX1 tyX1 tyX1_ok nmX1 hown hK hP hD hS 12 wl_12 rfl 0 (by decide) gw139 rfl ⟨rfl, rfl⟩ (ws_12_0 eσ8) (Nat.le_of_ble_eq_true rfl) dX6_member_68 (fun H locs hP hD hS => ?_)
            refine lv_aload_n hx hb dX6_member_71 rfl (lv_at hl 0 rfl) ?_
            refine k_get (ci := 8) (C := RX6) (T := TX6) (N := 5) (v := .ref (ad 38)) hx hb hG inX6 hown hK hP 0 wl_0 rfl 3 (by decide) gw308 rfl dX6_member_72 ?_
            refine lv_iconst (v := 0) hx hb dX6_member_75 (by decide) ?_
            obtain ⟨σ9, eσ9⟩ : ∃ z : Sg, z = sI σ8 6 0 := ⟨_, rfl⟩
            have hw := hw σ9 eσ9
            refine k_put (ci := 2) (C := RX0) (T := TX0) (N := 11) (v := .int 0) (ws1 := WL ad cA σ9) hx hb hG inX0 tyX0 tyX0_ok nmX0 hown hK hP hD hS 38 wl_38 rfl 1 (by decide) gw229 rfl ⟨rfl, rfl⟩ (ws_38_1 eσ9) (Nat.le_of_ble_eq_true rfl) dX6_member_76 (fun H locs hP hD hS => ?_)
            refine lv_aload_n hx hb dX6_member_79 rfl (lv_at hl 0 rfl) ?_
            refine k_get (ci := 8) (C := RX6) (T := TX6) (N := 5) (v := .ref (ad 46)) hx hb hG inX6 hown hK hP 0 wl_0 rfl 4 (by decide) gw309 rfl dX6_member_80 ?_
            refine lv_iconst (v := 0) hx hb dX6_member_83 (by decide) ?_
            obtain ⟨σ10, eσ10⟩ : ∃ z : Sg, z = sI σ9 10 0 := ⟨_, rfl⟩
            have hw := hw σ10 eσ10
            refine k_put (ci := 6) (C := RX4) (T := TX4) (N := 9) (v := .int 0) (ws1 := WL ad cA σ10) hx hb hG inX4 tyX4 tyX4_ok nmX4 hown hK hP hD hS 46 wl_46 rfl 1 (by decide) gw275 rfl ⟨rfl, rfl⟩ (ws_46_1 eσ10) (Nat.le_of_ble_eq_true rfl) dX6_member_84 (fun H locs hP hD hS => ?_)
            refine lv_aload_n hx hb dX6_member_87 rfl (lv_at hl 0 rfl) ?_
            refine k_get (ci := 8) (C := RX6) (T := TX6) (N := 5) (v := .ref (ad 1)) hx hb hG inX6 hown hK hP 0 wl_0 rfl 0 (by decide) gw305 rfl dX6_member_88 ?_
            refine lv_iload_n hx hb dX6_member_91 rfl (lv_at hl 1 rfl) ?_
            refine lv_iload_n hx hb dX6_member_92 rfl (lv_at hl 2 rfl) ?_
            refine lv_iload_n hx hb dX6_member_93 rfl (lv_at hl 3 rfl) ?_
            refine lv_iload hx hb dX6_member_94 (lv_at hl 4 rfl) ?_
            refine mc_V hSF hl.1 hP hD hS hA hK hGV (m_X2_addMember l hfl D ad cA g p1 p2 p3 p4 σ10 _ hw) goV_X6_100 pd_X2_addMember ⟨(Nat.le_of_ble_eq_true rfl), (Nat.le_of_ble_eq_true rfl)⟩ ⟨(Nat.le_of_ble_eq_true rfl), (Nat.le_of_ble_eq_true rfl)⟩ (va_recv hK hP (ci := 4) (q0 := 1) rfl wl_1) dX6_member_96 rfl (Nat.le_of_ble_eq_true rfl) (fun v9 σ12 H locs hq hP hD hS => ?_) (fun _ _ _ _ _ _ h => h.elim)
            obtain ⟨r11, hv9, hw⟩ := hq
            subst hv9
            refine W.eq (g2 := F0 m 99 ls [.int r11]) rfl ?_
            refine W.widen (k := 2) (n := 12) (Nat.le_refl _) (Nat.le_refl _) ?_
            exact vx_ret (m_i ⟨_, rfl, hw⟩ hx hb hr hlocks rfl hP hD hS (Nat.le_of_ble_eq_true rfl) (Nat.le_of_ble_eq_true rfl) dX6_member_99)
          · skip
            have hw := hw.2 k7
            exact m_throw hw (names := ["java/lang/RuntimeException", "java/lang/Exception"]) 5 hx hb hfl hown hG hGV htab hlocks (hl.1.trans hml.symm) (by decide +kernel) (by decide +kernel) gw667 gw47 rfl xat_X6_71 hP hD hS dX6_member_53 dX6_member_56 dX6_member_57 dX6_member_59 dX6_member_62 (Nat.le_of_ble_eq_true rfl) (Nat.le_of_ble_eq_true rfl) (Nat.le_of_ble_eq_true rfl) (Nat.le_of_ble_eq_true rfl) (Nat.le_of_ble_eq_true rfl) (Nat.le_of_ble_eq_true rfl)
        · skip
          have hw := hw.2 k6
          exact m_throw hw (names := ["java/lang/RuntimeException", "java/lang/Exception"]) 4 hx hb hfl hown hG hGV htab hlocks (hl.1.trans hml.symm) (by decide +kernel) (by decide +kernel) gw595 gw46 rfl xat_X6_60 hP hD hS dX6_member_31 dX6_member_34 dX6_member_35 dX6_member_37 dX6_member_40 (Nat.le_of_ble_eq_true rfl) (Nat.le_of_ble_eq_true rfl) (Nat.le_of_ble_eq_true rfl) (Nat.le_of_ble_eq_true rfl) (Nat.le_of_ble_eq_true rfl) (Nat.le_of_ble_eq_true rfl)
    · skip
      exact m_out hw htab hlocks h9 hv9 hc9 hP hD hS (Nat.le_of_ble_eq_true rfl) (Nat.le_of_ble_eq_true rfl)
  · skip
    exact m_out hw htab hlocks h9 hv9 hc9 hP hD hS (Nat.le_of_ble_eq_true rfl) (Nat.le_of_ble_eq_true rfl)

set_option maxHeartbeats 4000000 in
set_option maxRecDepth 100000 in
theorem m_L_member (l : Launch) (hfl : l.stackTraces = false) (D : va_G) (ad : Nat → Nat) (cA : Nat → ClassId) (g : gv_T) (p1 : Int32) (p2 : Int32) (p3 : Int32) (p4 : Int32) (σ : Sg) (Q : Int32 → Sg → Prop) (hw : w_L_member p1 p2 p3 p4 σ Q) : MW l yL_member cL_member 6 (some .int) [(0, 9, 10, 28), (0, 9, 15, 20), (0, 9, 20, 22)] (RM 8 3 18 127) D ad cA g [.ref (ad 0), .int p1, .int p2, .int p3, .int p4] σ (fun v σ' => ∃ r : Int32, v = some (.int r) ∧ Q r σ') := by
  refine MW.of (by decide +kernel) (Nat.le_of_ble_eq_true rfl) ?_
  intro p e s m args below meth c A ls hx hb hr hml hown hG hlocks htab hA hS hP hK hD hGV hl
  have hown : s.vm.findClass RL = some m.cls := hown
  have hl : lv_has ls 6 [(0, .ref (ad 0)), (1, .int p1), (2, .int p2), (3, .int p3), (4, .int p4)] := hl
  have hSF : CF p m c cL_member 6 s args RL := ⟨hx, hb, hml, hown, hG⟩
  refine lv_aload_n hx hb dL_member_0 rfl (lv_at hl 0 rfl) ?_
  refine lv_iload_n hx hb dL_member_1 rfl (lv_at hl 1 rfl) ?_
  refine lv_iload_n hx hb dL_member_2 rfl (lv_at hl 2 rfl) ?_
  refine lv_iload_n hx hb dL_member_3 rfl (lv_at hl 3 rfl) ?_
  refine lv_iload hx hb dL_member_4 (lv_at hl 4 rfl) ?_
  refine mc_V hSF hl.1 hP hD hS hA hK hGV (m_X6_member l hfl D ad cA g p1 p2 p3 p4 σ _ _ hw) goV_L_24 pd_X6_member ⟨(Nat.le_of_ble_eq_true rfl), (Nat.le_of_ble_eq_true rfl)⟩ ⟨(Nat.le_of_ble_eq_true rfl), (Nat.le_of_ble_eq_true rfl)⟩ (va_recv hK hP (ci := 8) (q0 := 0) rfl wl_0) dL_member_6 rfl (Nat.le_of_ble_eq_true rfl) (fun v9 σ2 H locs hq hP hD hS => ?_) (fun E9 σ3 H locs x9 ce9 hw hP hD hS h9 hv9 hc9 => ?_)
  · skip
    obtain ⟨r1, hv9, hw⟩ := hq
    subst hv9
    refine W.eq (g2 := F0 m 9 ls [.int r1]) rfl ?_
    refine W.widen (k := 3) (n := 18) (Nat.le_refl _) (Nat.le_refl _) ?_
    exact m_i ⟨_, rfl, hw⟩ hx hb hr hlocks rfl hP hD hS (Nat.le_of_ble_eq_true rfl) (Nat.le_of_ble_eq_true rfl) dL_member_9
  · skip
    rcases hw with ⟨rfl, hw⟩ | ⟨rfl, hw⟩ | ⟨rfl, hw⟩
    · skip
      refine vx_catch (own := RL) (name := "java/lang/IndexOutOfBoundsException") hown [] { startPc := 0, endPc := 9, handlerPc := 10, catchType := 28 } [{ startPc := 0, endPc := 9, handlerPc := 15, catchType := 20 }, { startPc := 0, endPc := 9, handlerPc := 20, catchType := 22 }] (htab.trans rfl) (fun z hz => nomatch hz) rfl (by decide) (hG _ gw690) (va_Nw.use rfl (hGV.nw _ gw724)) h9 hv9 hc9 ?_
      refine W.eq (g2 := F0 m 10 ls [.ref x9]) rfl ?_
      refine W.widen (k := 3) (n := 18) (Nat.le_refl _) (Nat.le_refl _) ?_
      refine lv_astore (lv' := [(5, .ref x9), (0, .ref (ad 0)), (1, .int p1), (2, .int p2), (3, .int p3), (4, .int p4)]) hx hb dL_member_10 hl (by decide) rfl (fun ls hl => ?_)
      refine lv_bipush (v := (-77)) hx hb dL_member_12 (by decide) ?_
      exact m_i ⟨_, rfl, hw⟩ hx hb hr hlocks rfl hP hD hS (Nat.le_of_ble_eq_true rfl) (Nat.le_of_ble_eq_true rfl) dL_member_14
    · skip
      refine vx_catch (own := RL) (name := "java/lang/IllegalArgumentException") hown [{ startPc := 0, endPc := 9, handlerPc := 10, catchType := 28 }] { startPc := 0, endPc := 9, handlerPc := 15, catchType := 20 } [{ startPc := 0, endPc := 9, handlerPc := 20, catchType := 22 }] (htab.trans rfl) (fun z hz => by rcases List.mem_singleton.mp hz with rfl; exact Or.inr ⟨by decide, "java/lang/IndexOutOfBoundsException", hG _ gw690, hGV.nc ("java/lang/IllegalArgumentException", "java/lang/IndexOutOfBoundsException") (by decide)⟩) rfl (by decide) (hG _ gw499) (va_Nw.use rfl (hGV.nw _ gw597)) h9 hv9 hc9 ?_
      refine W.eq (g2 := F0 m 15 ls [.ref x9]) rfl ?_
      refine W.widen (k := 3) (n := 18) (Nat.le_refl _) (Nat.le_refl _) ?_
      refine lv_astore (lv' := [(5, .ref x9), (0, .ref (ad 0)), (1, .int p1), (2, .int p2), (3, .int p3), (4, .int p4)]) hx hb dL_member_15 hl (by decide) rfl (fun ls hl => ?_)
      refine lv_bipush (v := (-78)) hx hb dL_member_17 (by decide) ?_
      exact m_i ⟨_, rfl, hw⟩ hx hb hr hlocks rfl hP hD hS (Nat.le_of_ble_eq_true rfl) (Nat.le_of_ble_eq_true rfl) dL_member_19
    · skip
      refine vx_catch (own := RL) (name := "java/lang/IllegalStateException") hown [{ startPc := 0, endPc := 9, handlerPc := 10, catchType := 28 }, { startPc := 0, endPc := 9, handlerPc := 15, catchType := 20 }] { startPc := 0, endPc := 9, handlerPc := 20, catchType := 22 } [] (htab.trans rfl) (fun z hz => by simp only [List.mem_cons, List.not_mem_nil, or_false] at hz; rcases hz with rfl | rfl <;> first | exact Or.inr ⟨by decide, "java/lang/IndexOutOfBoundsException", hG _ gw690, hGV.nc ("java/lang/IllegalStateException", "java/lang/IndexOutOfBoundsException") (by decide)⟩ | exact Or.inr ⟨by decide, "java/lang/IllegalArgumentException", hG _ gw499, hGV.nc ("java/lang/IllegalStateException", "java/lang/IllegalArgumentException") (by decide)⟩) rfl (by decide) (hG _ gw500) (va_Nw.use rfl (hGV.nw _ gw669)) h9 hv9 hc9 ?_
      refine W.eq (g2 := F0 m 20 ls [.ref x9]) rfl ?_
      refine W.widen (k := 3) (n := 18) (Nat.le_refl _) (Nat.le_refl _) ?_
      refine lv_astore (lv' := [(5, .ref x9), (0, .ref (ad 0)), (1, .int p1), (2, .int p2), (3, .int p3), (4, .int p4)]) hx hb dL_member_20 hl (by decide) rfl (fun ls hl => ?_)
      refine lv_bipush (v := (-79)) hx hb dL_member_22 (by decide) ?_
      exact m_i ⟨_, rfl, hw⟩ hx hb hr hlocks rfl hP hD hS (Nat.le_of_ble_eq_true rfl) (Nat.le_of_ble_eq_true rfl) dL_member_24

set_option maxHeartbeats 4000000 in
set_option maxRecDepth 100000 in
theorem m_X2_addLoad (l : Launch) (hfl : l.stackTraces = false) (D : va_G) (ad : Nat → Nat) (cA : Nat → ClassId) (g : gv_T) (p1 : Int32) (p2 : Int32) (p3 : Int32) (σ : Sg) (Q : Int32 → Sg → Prop) (hw : w_X2_addLoad p1 p2 p3 σ Q) : MC l yX2_addLoad cX2_addLoad 4 (some .int) (RM 0 0 0 0) D ad cA g [.ref (ad 1), .int p1, .int p2, .int p3] σ (fun v σ' => ∃ r : Int32, v = some (.int r) ∧ Q r σ') (fun _ _ => False) := by
  refine MC.of (plainFor_of_name (by decide +kernel)) (Nat.le_of_ble_eq_true rfl) ?_
  intro p e s m args below meth c A ls hx hb hr hml hown hG hlocks htab hA hS hP hK hD hGV hl
  have hown : s.vm.findClass RX2 = some m.cls := hown
  have hl : lv_has ls 4 [(0, .ref (ad 1)), (1, .int p1), (2, .int p2), (3, .int p3)] := hl
  have hSF : CF p m c cX2_addLoad 4 s args RX2 := ⟨hx, hb, hml, hown, hG⟩
  refine lv_aload_n hx hb dX2_addLoad_0 rfl (lv_at hl 0 rfl) ?_
  refine k_get (ci := 4) (C := RX2) (T := TX2) (N := 12) (v := .ref (ad 3)) hx hb hG inX2 hown hK hP 1 wl_1 rfl 3 (by decide) gw78 rfl dX2_addLoad_1 ?_
  refine lv_iconst (v := 2) hx hb dX2_addLoad_4 (by decide) ?_
  refine lv_iload_n hx hb dX2_addLoad_5 rfl (lv_at hl 1 rfl) ?_
  refine k_imul (v := 2 * p1) hx hb dX2_addLoad_6 rfl ?_
  refine lv_iconst (v := 0) hx hb dX2_addLoad_7 (by decide) ?_
  refine k_iadd (v := (2 * p1) + 0) hx hb dX2_addLoad_8 rfl ?_
  refine lv_dup2_11 hx hb dX2_addLoad_9 rfl rfl ?_
  obtain ⟨hc1, hw⟩ := hw
  refine k_iald (v := gA σ 1 (ix ((2 * p1) + 0))) hx hb hK hP 3 wl_3 (ix ((2 * p1) + 0)) rfl rfl hc1 dX2_addLoad_10 ?_
  refine lv_iload_n hx hb dX2_addLoad_11 rfl (lv_at hl 2 rfl) ?_
  refine k_iadd (v := (gA σ 1 (ix ((2 * p1) + 0))) + p2) hx hb dX2_addLoad_12 rfl ?_
  obtain ⟨hc2, hw⟩ := hw
  obtain ⟨σ3, eσ3⟩ : ∃ z : Sg, z = sA σ 1 (ix ((2 * p1) + 0)) ((gA σ 1 (ix ((2 * p1) + 0))) + p2) := ⟨_, rfl⟩
  have hw := hw σ3 eσ3
  refine k_iast (ws1 := WL ad cA σ3) hx hb hK hP hD hS 3 wl_3 (ws_3 eσ3) hc2 dX2_addLoad_13 (fun H locs hP hD hS => ?_)
  refine lv_aload_n hx hb dX2_addLoad_14 rfl (lv_at hl 0 rfl) ?_
  refine k_get (ci := 4) (C := RX2) (T := TX2) (N := 12) (v := .ref (ad 3)) hx hb hG inX2 hown hK hP 1 wl_1 rfl 3 (by decide) gw78 rfl dX2_addLoad_15 ?_
  refine lv_iconst (v := 2) hx hb dX2_addLoad_18 (by decide) ?_
  refine lv_iload_n hx hb dX2_addLoad_19 rfl (lv_at hl 1 rfl) ?_
  refine k_imul (v := 2 * p1) hx hb dX2_addLoad_20 rfl ?_
  refine lv_iconst (v := 1) hx hb dX2_addLoad_21 (by decide) ?_
  refine k_iadd (v := (2 * p1) + 1) hx hb dX2_addLoad_22 rfl ?_
  refine lv_dup2_11 hx hb dX2_addLoad_23 rfl rfl ?_
  obtain ⟨hc4, hw⟩ := hw
  refine k_iald (v := gA σ3 1 (ix ((2 * p1) + 1))) hx hb hK hP 3 wl_3 (ix ((2 * p1) + 1)) rfl rfl hc4 dX2_addLoad_24 ?_
  refine lv_iload_n hx hb dX2_addLoad_25 rfl (lv_at hl 3 rfl) ?_
  refine k_iadd (v := (gA σ3 1 (ix ((2 * p1) + 1))) + p3) hx hb dX2_addLoad_26 rfl ?_
  obtain ⟨hc5, hw⟩ := hw
  obtain ⟨σ6, eσ6⟩ : ∃ z : Sg, z = sA σ3 1 (ix ((2 * p1) + 1)) ((gA σ3 1 (ix ((2 * p1) + 1))) + p3) := ⟨_, rfl⟩
  have hw := hw σ6 eσ6
  refine k_iast (ws1 := WL ad cA σ6) hx hb hK hP hD hS 3 wl_3 (ws_3 eσ6) hc5 dX2_addLoad_27 (fun H locs hP hD hS => ?_)
  refine lv_aload_n hx hb dX2_addLoad_28 rfl (lv_at hl 0 rfl) ?_
  refine k_get (ci := 4) (C := RX2) (T := TX2) (N := 12) (v := .ref (ad 4)) hx hb hG inX2 hown hK hP 1 wl_1 rfl 4 (by decide) gw80 rfl dX2_addLoad_29 ?_
  refine lv_iload_n hx hb dX2_addLoad_32 rfl (lv_at hl 1 rfl) ?_
  refine lv_dup2_11 hx hb dX2_addLoad_33 rfl rfl ?_
  obtain ⟨hc7, hw⟩ := hw
  refine k_iald (v := gA σ6 2 (ix p1)) hx hb hK hP 4 wl_4 (ix p1) rfl rfl hc7 dX2_addLoad_34 ?_
  refine lv_iconst (v := 1) hx hb dX2_addLoad_35 (by decide) ?_
  refine k_iadd (v := (gA σ6 2 (ix p1)) + 1) hx hb dX2_addLoad_36 rfl ?_
  obtain ⟨hc8, hw⟩ := hw
  obtain ⟨σ9, eσ9⟩ : ∃ z : Sg, z = sA σ6 2 (ix p1) ((gA σ6 2 (ix p1)) + 1) := ⟨_, rfl⟩
  have hw := hw σ9 eσ9
  refine k_iast (ws1 := WL ad cA σ9) hx hb hK hP hD hS 4 wl_4 (ws_4 eσ9) hc8 dX2_addLoad_37 (fun H locs hP hD hS => ?_)
  refine lv_aload_n hx hb dX2_addLoad_38 rfl (lv_at hl 0 rfl) ?_
  refine k_get (ci := 4) (C := RX2) (T := TX2) (N := 12) (v := .ref (ad 4)) hx hb hG inX2 hown hK hP 1 wl_1 rfl 4 (by decide) gw80 rfl dX2_addLoad_39 ?_
  refine lv_iload_n hx hb dX2_addLoad_42 rfl (lv_at hl 1 rfl) ?_
  obtain ⟨hc10, hw⟩ := hw
  refine k_iald (v := gA σ9 2 (ix p1)) hx hb hK hP 4 wl_4 (ix p1) rfl rfl hc10 dX2_addLoad_43 ?_
  exact vx_ret (m_i ⟨_, rfl, hw⟩ hx hb hr hlocks rfl hP hD hS (Nat.le_of_ble_eq_true rfl) (Nat.le_of_ble_eq_true rfl) dX2_addLoad_44)

set_option maxHeartbeats 4000000 in
set_option maxRecDepth 100000 in
theorem m_X6_load (l : Launch) (hfl : l.stackTraces = false) (D : va_G) (ad : Nat → Nat) (cA : Nat → ClassId) (g : gv_T) (p1 : Int32) (p2 : Int32) (p3 : Int32) (σ : Sg) (Q : Int32 → Sg → Prop) (X : String → Sg → Prop) (hw : w_X6_load p1 p2 p3 σ Q X) : MC l yX6_load cX6_load 4 (some .int) (RM 7 2 12 103) D ad cA g [.ref (ad 0), .int p1, .int p2, .int p3] σ (fun v σ' => ∃ r : Int32, v = some (.int r) ∧ Q r σ') X := by
  refine MC.of (plainFor_of_name (by decide +kernel)) (Nat.le_of_ble_eq_true rfl) ?_
  intro p e s m args below meth c A ls hx hb hr hml hown hG hlocks htab hA hS hP hK hD hGV hl
  have hown : s.vm.findClass RX6 = some m.cls := hown
  have hl : lv_has ls 4 [(0, .ref (ad 0)), (1, .int p1), (2, .int p2), (3, .int p3)] := hl
  have hSF : CF p m c cX6_load 4 s args RX6 := ⟨hx, hb, hml, hown, hG⟩
  refine lv_aload_n hx hb dX6_load_0 rfl (lv_at hl 0 rfl) ?_
  refine lv_iload_n hx hb dX6_load_1 rfl (lv_at hl 1 rfl) ?_
  refine mc_V hSF hl.1 hP hD hS hA hK hGV (m_X6_checkNode l hfl D ad cA g p1 σ _ _ hw) goV_X6_80 pd_X6_checkNode ⟨(Nat.le_of_ble_eq_true rfl), (Nat.le_of_ble_eq_true rfl)⟩ ⟨(Nat.le_of_ble_eq_true rfl), (Nat.le_of_ble_eq_true rfl)⟩ (va_recv hK hP (ci := 8) (q0 := 0) rfl wl_0) dX6_load_2 rfl (Nat.le_of_ble_eq_true rfl) (fun v9 σ9 H locs hq hP hD hS => ?_) (fun E9 σ9 H locs x9 ce9 hw hP hD hS h9 hv9 hc9 => ?_)
  · skip
    obtain ⟨hv9, hs9, hw⟩ := hq
    subst hv9
    subst σ9
    refine W.eq (g2 := F0 m 5 ls []) rfl ?_
    refine W.widen (k := 1) (n := 6) (Nat.le_refl _) (Nat.le_refl _) ?_
    refine lv_iload_n hx hb dX6_load_5 rfl (lv_at hl 2 rfl) ?_
    refine lv_sipush (v := (-999)) hx hb dX6_load_6 (by decide) ?_
    refine lv_sipush (v := 999) hx hb dX6_load_9 (by decide) ?_
    refine mc_S hSF hl.1 hP hD hS hA hK hGV (m_X6_isWithin l hfl D ad cA g p2 (-999) 999 σ _ hw) goS_X6_44 pd_X6_isWithin.2 ⟨(Nat.le_of_ble_eq_true rfl), (Nat.le_of_ble_eq_true rfl)⟩ ⟨(Nat.le_of_ble_eq_true rfl), (Nat.le_of_ble_eq_true rfl)⟩ dX6_load_12 rfl (Nat.le_of_ble_eq_true rfl) (fun v9 σ9 H locs hq hP hD hS => ?_) (fun _ _ _ _ _ _ h => h.elim)
    obtain ⟨r2, hv9, hs9, hw⟩ := hq
    subst hv9
    subst σ9
    refine W.eq (g2 := F0 m 15 ls [.int r2]) rfl ?_
    refine W.widen (k := 1) (n := 6) (Nat.le_refl _) (Nat.le_refl _) ?_
    refine lv_if_eq (tgt := 31) hx hb dX6_load_15 (by decide) (fun k3 => ?_) (fun k3 => ?_)
    · skip
      have hw := hw.1 k3
      exact m_throw hw (names := ["java/lang/RuntimeException", "java/lang/Exception"]) 6 hx hb hfl hown hG hGV htab hlocks (hl.1.trans hml.symm) (by decide +kernel) (by decide +kernel) gw595 gw46 rfl xat_X6_60 hP hD hS dX6_load_31 dX6_load_34 dX6_load_35 dX6_load_37 dX6_load_40 (Nat.le_of_ble_eq_true rfl) (Nat.le_of_ble_eq_true rfl) (Nat.le_of_ble_eq_true rfl) (Nat.le_of_ble_eq_true rfl) (Nat.le_of_ble_eq_true rfl) (Nat.le_of_ble_eq_true rfl)
    · skip
      have hw := hw.2 k3
      refine lv_iload_n hx hb dX6_load_18 rfl (lv_at hl 3 rfl) ?_
      refine lv_sipush (v := (-999)) hx hb dX6_load_19 (by decide) ?_
      refine lv_sipush (v := 999) hx hb dX6_load_22 (by decide) ?_
      refine mc_S hSF hl.1 hP hD hS hA hK hGV (m_X6_isWithin l hfl D ad cA g p3 (-999) 999 σ _ hw) goS_X6_44 pd_X6_isWithin.2 ⟨(Nat.le_of_ble_eq_true rfl), (Nat.le_of_ble_eq_true rfl)⟩ ⟨(Nat.le_of_ble_eq_true rfl), (Nat.le_of_ble_eq_true rfl)⟩ dX6_load_25 rfl (Nat.le_of_ble_eq_true rfl) (fun v9 σ9 H locs hq hP hD hS => ?_) (fun _ _ _ _ _ _ h => h.elim)
      obtain ⟨r4, hv9, hs9, hw⟩ := hq
      subst hv9
      subst σ9
      refine W.eq (g2 := F0 m 28 ls [.int r4]) rfl ?_
      refine W.widen (k := 1) (n := 6) (Nat.le_refl _) (Nat.le_refl _) ?_
      refine lv_if_ne (tgt := 41) hx hb dX6_load_28 (by decide) (fun k5 => ?_) (fun k5 => ?_)
      · skip
        have hw := hw.1 k5
        refine lv_aload_n hx hb dX6_load_41 rfl (lv_at hl 0 rfl) ?_
        refine k_get (ci := 8) (C := RX6) (T := TX6) (N := 5) (v := .ref (ad 12)) hx hb hG inX6 hown hK hP 0 wl_0 rfl 1 (by decide) gw306 rfl dX6_load_42 ?_
        refine lv_iconst (v := 0) hx hb dX6_load_45 (by decide) ?_
        obtain ⟨σ6, eσ6⟩ : ∃ z : Sg, z = sI σ 2 0 := ⟨_, rfl⟩
        have hw := hw σ6 eσ6
        refine k_put (ci := 3) (C := RX1) (T := TX1) (N := 17) (v := .int 0) (ws1 := WL ad cA σ6) hx hb hG inX1 tyX1 tyX1_ok nmX1 hown hK hP hD hS 12 wl_12 rfl 0 (by decide) gw139 rfl ⟨rfl, rfl⟩ (ws_12_0 eσ6) (Nat.le_of_ble_eq_true rfl) dX6_load_46 (fun H locs hP hD hS => ?_)
        refine lv_aload_n hx hb dX6_load_49 rfl (lv_at hl 0 rfl) ?_
        refine k_get (ci := 8) (C := RX6) (T := TX6) (N := 5) (v := .ref (ad 1)) hx hb hG inX6 hown hK hP 0 wl_0 rfl 0 (by decide) gw305 rfl dX6_load_50 ?_
        refine lv_iload_n hx hb dX6_load_53 rfl (lv_at hl 1 rfl) ?_
        refine lv_iload_n hx hb dX6_load_54 rfl (lv_at hl 2 rfl) ?_
        refine lv_iload_n hx hb dX6_load_55 rfl (lv_at hl 3 rfl) ?_
        refine mc_V hSF hl.1 hP hD hS hA hK hGV (m_X2_addLoad l hfl D ad cA g p1 p2 p3 σ6 _ hw) goV_X6_106 pd_X2_addLoad ⟨(Nat.le_of_ble_eq_true rfl), (Nat.le_of_ble_eq_true rfl)⟩ ⟨(Nat.le_of_ble_eq_true rfl), (Nat.le_of_ble_eq_true rfl)⟩ (va_recv hK hP (ci := 4) (q0 := 1) rfl wl_1) dX6_load_56 rfl (Nat.le_of_ble_eq_true rfl) (fun v9 σ8 H locs hq hP hD hS => ?_) (fun _ _ _ _ _ _ h => h.elim)
        obtain ⟨r7, hv9, hw⟩ := hq
        subst hv9
        refine W.eq (g2 := F0 m 59 ls [.int r7]) rfl ?_
        refine W.widen (k := 1) (n := 6) (Nat.le_refl _) (Nat.le_refl _) ?_
        exact vx_ret (m_i ⟨_, rfl, hw⟩ hx hb hr hlocks rfl hP hD hS (Nat.le_of_ble_eq_true rfl) (Nat.le_of_ble_eq_true rfl) dX6_load_59)
      · skip
        have hw := hw.2 k5
        exact m_throw hw (names := ["java/lang/RuntimeException", "java/lang/Exception"]) 6 hx hb hfl hown hG hGV htab hlocks (hl.1.trans hml.symm) (by decide +kernel) (by decide +kernel) gw595 gw46 rfl xat_X6_60 hP hD hS dX6_load_31 dX6_load_34 dX6_load_35 dX6_load_37 dX6_load_40 (Nat.le_of_ble_eq_true rfl) (Nat.le_of_ble_eq_true rfl) (Nat.le_of_ble_eq_true rfl) (Nat.le_of_ble_eq_true rfl) (Nat.le_of_ble_eq_true rfl) (Nat.le_of_ble_eq_true rfl)
  · skip
    exact m_out hw htab hlocks h9 hv9 hc9 hP hD hS (Nat.le_of_ble_eq_true rfl) (Nat.le_of_ble_eq_true rfl)

set_option maxHeartbeats 4000000 in
set_option maxRecDepth 100000 in
theorem m_L_load (l : Launch) (hfl : l.stackTraces = false) (D : va_G) (ad : Nat → Nat) (cA : Nat → ClassId) (g : gv_T) (p1 : Int32) (p2 : Int32) (p3 : Int32) (σ : Sg) (Q : Int32 → Sg → Prop) (hw : w_L_load p1 p2 p3 σ Q) : MW l yL_load cL_load 5 (some .int) [(0, 7, 8, 28), (0, 7, 13, 20)] (RM 8 2 12 126) D ad cA g [.ref (ad 0), .int p1, .int p2, .int p3] σ (fun v σ' => ∃ r : Int32, v = some (.int r) ∧ Q r σ') := by
  refine MW.of (by decide +kernel) (Nat.le_of_ble_eq_true rfl) ?_
  intro p e s m args below meth c A ls hx hb hr hml hown hG hlocks htab hA hS hP hK hD hGV hl
  have hown : s.vm.findClass RL = some m.cls := hown
  have hl : lv_has ls 5 [(0, .ref (ad 0)), (1, .int p1), (2, .int p2), (3, .int p3)] := hl
  have hSF : CF p m c cL_load 5 s args RL := ⟨hx, hb, hml, hown, hG⟩
  refine lv_aload_n hx hb dL_load_0 rfl (lv_at hl 0 rfl) ?_
  refine lv_iload_n hx hb dL_load_1 rfl (lv_at hl 1 rfl) ?_
  refine lv_iload_n hx hb dL_load_2 rfl (lv_at hl 2 rfl) ?_
  refine lv_iload_n hx hb dL_load_3 rfl (lv_at hl 3 rfl) ?_
  refine mc_V hSF hl.1 hP hD hS hA hK hGV (m_X6_load l hfl D ad cA g p1 p2 p3 σ _ _ hw) goV_L_30 pd_X6_load ⟨(Nat.le_of_ble_eq_true rfl), (Nat.le_of_ble_eq_true rfl)⟩ ⟨(Nat.le_of_ble_eq_true rfl), (Nat.le_of_ble_eq_true rfl)⟩ (va_recv hK hP (ci := 8) (q0 := 0) rfl wl_0) dL_load_4 rfl (Nat.le_of_ble_eq_true rfl) (fun v9 σ2 H locs hq hP hD hS => ?_) (fun E9 σ3 H locs x9 ce9 hw hP hD hS h9 hv9 hc9 => ?_)
  · skip
    obtain ⟨r1, hv9, hw⟩ := hq
    subst hv9
    refine W.eq (g2 := F0 m 7 ls [.int r1]) rfl ?_
    refine W.widen (k := 2) (n := 12) (Nat.le_refl _) (Nat.le_refl _) ?_
    exact m_i ⟨_, rfl, hw⟩ hx hb hr hlocks rfl hP hD hS (Nat.le_of_ble_eq_true rfl) (Nat.le_of_ble_eq_true rfl) dL_load_7
  · skip
    rcases hw with ⟨rfl, hw⟩ | ⟨rfl, hw⟩
    · skip
      refine vx_catch (own := RL) (name := "java/lang/IndexOutOfBoundsException") hown [] { startPc := 0, endPc := 7, handlerPc := 8, catchType := 28 } [{ startPc := 0, endPc := 7, handlerPc := 13, catchType := 20 }] (htab.trans rfl) (fun z hz => nomatch hz) rfl (by decide) (hG _ gw690) (va_Nw.use rfl (hGV.nw _ gw724)) h9 hv9 hc9 ?_
      refine W.eq (g2 := F0 m 8 ls [.ref x9]) rfl ?_
      refine W.widen (k := 2) (n := 12) (Nat.le_refl _) (Nat.le_refl _) ?_
      refine lv_astore (lv' := [(4, .ref x9), (0, .ref (ad 0)), (1, .int p1), (2, .int p2), (3, .int p3)]) hx hb dL_load_8 hl (by decide) rfl (fun ls hl => ?_)
      refine lv_bipush (v := (-77)) hx hb dL_load_10 (by decide) ?_
      exact m_i ⟨_, rfl, hw⟩ hx hb hr hlocks rfl hP hD hS (Nat.le_of_ble_eq_true rfl) (Nat.le_of_ble_eq_true rfl) dL_load_12
    · skip
      refine vx_catch (own := RL) (name := "java/lang/IllegalArgumentException") hown [{ startPc := 0, endPc := 7, handlerPc := 8, catchType := 28 }] { startPc := 0, endPc := 7, handlerPc := 13, catchType := 20 } [] (htab.trans rfl) (fun z hz => by rcases List.mem_singleton.mp hz with rfl; exact Or.inr ⟨by decide, "java/lang/IndexOutOfBoundsException", hG _ gw690, hGV.nc ("java/lang/IllegalArgumentException", "java/lang/IndexOutOfBoundsException") (by decide)⟩) rfl (by decide) (hG _ gw499) (va_Nw.use rfl (hGV.nw _ gw597)) h9 hv9 hc9 ?_
      refine W.eq (g2 := F0 m 13 ls [.ref x9]) rfl ?_
      refine W.widen (k := 2) (n := 12) (Nat.le_refl _) (Nat.le_refl _) ?_
      refine lv_astore (lv' := [(4, .ref x9), (0, .ref (ad 0)), (1, .int p1), (2, .int p2), (3, .int p3)]) hx hb dL_load_13 hl (by decide) rfl (fun ls hl => ?_)
      refine lv_bipush (v := (-78)) hx hb dL_load_15 (by decide) ?_
      exact m_i ⟨_, rfl, hw⟩ hx hb hr hlocks rfl hP hD hS (Nat.le_of_ble_eq_true rfl) (Nat.le_of_ble_eq_true rfl) dL_load_17

set_option maxHeartbeats 4000000 in
set_option maxRecDepth 100000 in
theorem m_X6_checkMember (l : Launch) (hfl : l.stackTraces = false) (D : va_G) (ad : Nat → Nat) (cA : Nat → ClassId) (g : gv_T) (p1 : Int32) (σ : Sg) (Q : Prop) (X : String → Sg → Prop) (hw : w_X6_checkMember p1 σ Q X) : MC l yX6_checkMember cX6_checkMember 2 none (RM 6 1 6 82) D ad cA g [.ref (ad 0), .int p1] σ (fun v σ' => v = none ∧ σ' = σ ∧ Q) X := by
  refine MC.of (plainFor_of_name (by decide +kernel)) (Nat.le_of_ble_eq_true rfl) ?_
  intro p e s m args below meth c A ls hx hb hr hml hown hG hlocks htab hA hS hP hK hD hGV hl
  have hown : s.vm.findClass RX6 = some m.cls := hown
  have hl : lv_has ls 2 [(0, .ref (ad 0)), (1, .int p1)] := hl
  have hSF : CF p m c cX6_checkMember 2 s args RX6 := ⟨hx, hb, hml, hown, hG⟩
  refine lv_iload_n hx hb dX6_checkMember_0 rfl (lv_at hl 1 rfl) ?_
  refine lv_if_lt (tgt := 15) hx hb dX6_checkMember_1 (by decide) (fun k1 => ?_) (fun k1 => ?_)
  · skip
    have hw := hw.1 k1
    exact m_throwW hw (names := ["java/lang/RuntimeException", "java/lang/Exception"]) 7 hx hb hfl hown hG hGV htab hlocks (hl.1.trans hml.symm) (by decide +kernel) (by decide +kernel) gw722 gw48 rfl xat_X6_232 hP hD hS dX6_checkMember_15 dX6_checkMember_18 dX6_checkMember_19 dX6_checkMember_22 dX6_checkMember_25 (Nat.le_of_ble_eq_true rfl) (Nat.le_of_ble_eq_true rfl) (Nat.le_of_ble_eq_true rfl) (Nat.le_of_ble_eq_true rfl) (Nat.le_of_ble_eq_true rfl) (Nat.le_of_ble_eq_true rfl)
  · skip
    have hw := hw.2 k1
    refine lv_iload_n hx hb dX6_checkMember_4 rfl (lv_at hl 1 rfl) ?_
    refine lv_aload_n hx hb dX6_checkMember_5 rfl (lv_at hl 0 rfl) ?_
    refine k_get (ci := 8) (C := RX6) (T := TX6) (N := 5) (v := .ref (ad 1)) hx hb hG inX6 hown hK hP 0 wl_0 rfl 0 (by decide) gw305 rfl dX6_checkMember_6 ?_
    refine k_get (ci := 4) (C := RX2) (T := TX2) (N := 12) (v := .int (gI σ 1)) hx hb hG inX2 hown hK hP 1 wl_1 rfl 1 (by decide) gw73 rfl dX6_checkMember_9 ?_
    refine lv_icmp_lt (tgt := 26) hx hb dX6_checkMember_12 (by decide) (fun k2 => ?_) (fun k2 => ?_)
    · skip
      have hw := hw.1 k2
      exact vx_ret (m_v ⟨rfl, rfl, hw⟩ hx hb hr hlocks hP hD hS (Nat.le_of_ble_eq_true rfl) (Nat.le_of_ble_eq_true rfl) dX6_checkMember_26)
    · skip
      have hw := hw.2 k2
      exact m_throwW hw (names := ["java/lang/RuntimeException", "java/lang/Exception"]) 7 hx hb hfl hown hG hGV htab hlocks (hl.1.trans hml.symm) (by decide +kernel) (by decide +kernel) gw722 gw48 rfl xat_X6_232 hP hD hS dX6_checkMember_15 dX6_checkMember_18 dX6_checkMember_19 dX6_checkMember_22 dX6_checkMember_25 (Nat.le_of_ble_eq_true rfl) (Nat.le_of_ble_eq_true rfl) (Nat.le_of_ble_eq_true rfl) (Nat.le_of_ble_eq_true rfl) (Nat.le_of_ble_eq_true rfl) (Nat.le_of_ble_eq_true rfl)

set_option maxHeartbeats 4000000 in
set_option maxRecDepth 100000 in
theorem m_X2_isBorne (l : Launch) (hfl : l.stackTraces = false) (D : va_G) (ad : Nat → Nat) (cA : Nat → ClassId) (g : gv_T) (p1 : Int32) (p2 : Int32) (σ : Sg) (Q : Int32 → Prop) (hw : w_X2_isBorne p1 p2 σ Q) : MC l yX2_isBorne cX2_isBorne 3 (some .boolean) (RM 0 0 0 0) D ad cA g [.ref (ad 1), .int p1, .int p2] σ (fun v σ' => ∃ r : Int32, v = some (.int r) ∧ σ' = σ ∧ Q r) (fun _ _ => False) := by
  refine MC.of (plainFor_of_name (by decide +kernel)) (Nat.le_of_ble_eq_true rfl) ?_
  intro p e s m args below meth c A ls hx hb hr hml hown hG hlocks htab hA hS hP hK hD hGV hl
  have hown : s.vm.findClass RX2 = some m.cls := hown
  have hl : lv_has ls 3 [(0, .ref (ad 1)), (1, .int p1), (2, .int p2)] := hl
  have hSF : CF p m c cX2_isBorne 3 s args RX2 := ⟨hx, hb, hml, hown, hG⟩
  refine lv_aload_n hx hb dX2_isBorne_0 rfl (lv_at hl 0 rfl) ?_
  refine k_get (ci := 4) (C := RX2) (T := TX2) (N := 12) (v := .ref (ad 5)) hx hb hG inX2 hown hK hP 1 wl_1 rfl 5 (by decide) gw81 rfl dX2_isBorne_1 ?_
  refine lv_iload_n hx hb dX2_isBorne_4 rfl (lv_at hl 1 rfl) ?_
  obtain ⟨hc1, hw⟩ := hw
  refine k_cald (v := gA σ 3 (ix p1)) hx hb hK hP 5 wl_5 (ix p1) rfl rfl hc1 dX2_isBorne_5 ?_
  refine lv_bipush (v := 112) hx hb dX2_isBorne_6 (by decide) ?_
  refine lv_icmp_eq (tgt := 27) hx hb dX2_isBorne_8 (by decide) (fun k2 => ?_) (fun k2 => ?_)
  · skip
    have hw := hw.1 k2
    refine lv_iconst (v := 1) hx hb dX2_isBorne_27 (by decide) ?_
    refine lv_goto (tgt := 32) hx hb dX2_isBorne_28 (by decide) ?_
    exact vx_ret (m_i ⟨_, rfl, rfl, hw⟩ hx hb hr hlocks rfl hP hD hS (Nat.le_of_ble_eq_true rfl) (Nat.le_of_ble_eq_true rfl) dX2_isBorne_32)
  · skip
    have hw := hw.2 k2
    refine lv_aload_n hx hb dX2_isBorne_11 rfl (lv_at hl 0 rfl) ?_
    refine k_get (ci := 4) (C := RX2) (T := TX2) (N := 12) (v := .ref (ad 5)) hx hb hG inX2 hown hK hP 1 wl_1 rfl 5 (by decide) gw81 rfl dX2_isBorne_12 ?_
    refine lv_iload_n hx hb dX2_isBorne_15 rfl (lv_at hl 1 rfl) ?_
    obtain ⟨hc3, hw⟩ := hw
    refine k_cald (v := gA σ 3 (ix p1)) hx hb hK hP 5 wl_5 (ix p1) rfl rfl hc3 dX2_isBorne_16 ?_
    refine lv_bipush (v := 114) hx hb dX2_isBorne_17 (by decide) ?_
    refine lv_icmp_ne (tgt := 31) hx hb dX2_isBorne_19 (by decide) (fun k4 => ?_) (fun k4 => ?_)
    · skip
      have hw := hw.1 k4
      refine lv_iconst (v := 0) hx hb dX2_isBorne_31 (by decide) ?_
      exact vx_ret (m_i ⟨_, rfl, rfl, hw⟩ hx hb hr hlocks rfl hP hD hS (Nat.le_of_ble_eq_true rfl) (Nat.le_of_ble_eq_true rfl) dX2_isBorne_32)
    · skip
      have hw := hw.2 k4
      refine lv_iload_n hx hb dX2_isBorne_22 rfl (lv_at hl 2 rfl) ?_
      refine lv_iconst (v := 1) hx hb dX2_isBorne_23 (by decide) ?_
      refine lv_icmp_ne (tgt := 31) hx hb dX2_isBorne_24 (by decide) (fun k5 => ?_) (fun k5 => ?_)
      · skip
        have hw := hw.1 k5
        refine lv_iconst (v := 0) hx hb dX2_isBorne_31 (by decide) ?_
        exact vx_ret (m_i ⟨_, rfl, rfl, hw⟩ hx hb hr hlocks rfl hP hD hS (Nat.le_of_ble_eq_true rfl) (Nat.le_of_ble_eq_true rfl) dX2_isBorne_32)
      · skip
        have hw := hw.2 k5
        refine lv_iconst (v := 1) hx hb dX2_isBorne_27 (by decide) ?_
        refine lv_goto (tgt := 32) hx hb dX2_isBorne_28 (by decide) ?_
        exact vx_ret (m_i ⟨_, rfl, rfl, hw⟩ hx hb hr hlocks rfl hP hD hS (Nat.le_of_ble_eq_true rfl) (Nat.le_of_ble_eq_true rfl) dX2_isBorne_32)

set_option maxHeartbeats 4000000 in
set_option maxRecDepth 100000 in
theorem m_X2_otherEnd (l : Launch) (hfl : l.stackTraces = false) (D : va_G) (ad : Nat → Nat) (cA : Nat → ClassId) (g : gv_T) (p1 : Int32) (p2 : Int32) (σ : Sg) (Q : Int32 → Prop) (hw : w_X2_otherEnd p1 p2 σ Q) : MC l yX2_otherEnd cX2_otherEnd 3 (some .int) (RM 0 0 0 0) D ad cA g [.ref (ad 1), .int p1, .int p2] σ (fun v σ' => ∃ r : Int32, v = some (.int r) ∧ σ' = σ ∧ Q r) (fun _ _ => False) := by
  refine MC.of (plainFor_of_name (by decide +kernel)) (Nat.le_of_ble_eq_true rfl) ?_
  intro p e s m args below meth c A ls hx hb hr hml hown hG hlocks htab hA hS hP hK hD hGV hl
  have hown : s.vm.findClass RX2 = some m.cls := hown
  have hl : lv_has ls 3 [(0, .ref (ad 1)), (1, .int p1), (2, .int p2)] := hl
  have hSF : CF p m c cX2_otherEnd 3 s args RX2 := ⟨hx, hb, hml, hown, hG⟩
  refine lv_aload_n hx hb dX2_otherEnd_0 rfl (lv_at hl 0 rfl) ?_
  refine k_get (ci := 4) (C := RX2) (T := TX2) (N := 12) (v := .ref (ad 6)) hx hb hG inX2 hown hK hP 1 wl_1 rfl 6 (by decide) gw82 rfl dX2_otherEnd_1 ?_
  refine lv_iload_n hx hb dX2_otherEnd_4 rfl (lv_at hl 1 rfl) ?_
  obtain ⟨hc1, hw⟩ := hw
  refine k_iald (v := gA σ 4 (ix p1)) hx hb hK hP 6 wl_6 (ix p1) rfl rfl hc1 dX2_otherEnd_5 ?_
  refine lv_iload_n hx hb dX2_otherEnd_6 rfl (lv_at hl 2 rfl) ?_
  refine lv_icmp_ne (tgt := 17) hx hb dX2_otherEnd_7 (by decide) (fun k2 => ?_) (fun k2 => ?_)
  · skip
    have hw := hw.1 k2
    refine lv_aload_n hx hb dX2_otherEnd_17 rfl (lv_at hl 0 rfl) ?_
    refine k_get (ci := 4) (C := RX2) (T := TX2) (N := 12) (v := .ref (ad 7)) hx hb hG inX2 hown hK hP 1 wl_1 rfl 7 (by decide) gw83 rfl dX2_otherEnd_18 ?_
    refine lv_iload_n hx hb dX2_otherEnd_21 rfl (lv_at hl 1 rfl) ?_
    obtain ⟨hc3, hw⟩ := hw
    refine k_iald (v := gA σ 5 (ix p1)) hx hb hK hP 7 wl_7 (ix p1) rfl rfl hc3 dX2_otherEnd_22 ?_
    refine lv_iload_n hx hb dX2_otherEnd_23 rfl (lv_at hl 2 rfl) ?_
    refine lv_icmp_ne (tgt := 36) hx hb dX2_otherEnd_24 (by decide) (fun k4 => ?_) (fun k4 => ?_)
    · skip
      have hw := hw.1 k4
      refine lv_iconst (v := (-1)) hx hb dX2_otherEnd_36 (by decide) ?_
      exact vx_ret (m_i ⟨_, rfl, rfl, hw⟩ hx hb hr hlocks rfl hP hD hS (Nat.le_of_ble_eq_true rfl) (Nat.le_of_ble_eq_true rfl) dX2_otherEnd_37)
    · skip
      have hw := hw.2 k4
      refine lv_aload_n hx hb dX2_otherEnd_27 rfl (lv_at hl 0 rfl) ?_
      refine k_get (ci := 4) (C := RX2) (T := TX2) (N := 12) (v := .ref (ad 6)) hx hb hG inX2 hown hK hP 1 wl_1 rfl 6 (by decide) gw82 rfl dX2_otherEnd_28 ?_
      refine lv_iload_n hx hb dX2_otherEnd_31 rfl (lv_at hl 1 rfl) ?_
      obtain ⟨hc5, hw⟩ := hw
      refine k_iald (v := gA σ 4 (ix p1)) hx hb hK hP 6 wl_6 (ix p1) rfl rfl hc5 dX2_otherEnd_32 ?_
      refine lv_goto (tgt := 37) hx hb dX2_otherEnd_33 (by decide) ?_
      exact vx_ret (m_i ⟨_, rfl, rfl, hw⟩ hx hb hr hlocks rfl hP hD hS (Nat.le_of_ble_eq_true rfl) (Nat.le_of_ble_eq_true rfl) dX2_otherEnd_37)
  · skip
    have hw := hw.2 k2
    refine lv_aload_n hx hb dX2_otherEnd_10 rfl (lv_at hl 0 rfl) ?_
    refine k_get (ci := 4) (C := RX2) (T := TX2) (N := 12) (v := .ref (ad 7)) hx hb hG inX2 hown hK hP 1 wl_1 rfl 7 (by decide) gw83 rfl dX2_otherEnd_11 ?_
    refine lv_iload_n hx hb dX2_otherEnd_14 rfl (lv_at hl 1 rfl) ?_
    obtain ⟨hc6, hw⟩ := hw
    refine k_iald (v := gA σ 5 (ix p1)) hx hb hK hP 7 wl_7 (ix p1) rfl rfl hc6 dX2_otherEnd_15 ?_
    exact vx_ret (m_i ⟨_, rfl, rfl, hw⟩ hx hb hr hlocks rfl hP hD hS (Nat.le_of_ble_eq_true rfl) (Nat.le_of_ble_eq_true rfl) dX2_otherEnd_16)

set_option maxHeartbeats 4000000 in
set_option maxRecDepth 100000 in
theorem m_X2_wayAlong (l : Launch) (hfl : l.stackTraces = false) (D : va_G) (ad : Nat → Nat) (cA : Nat → ClassId) (g : gv_T) (p1 : Int32) (p2 : Int32) (p3 : Int32) (σ : Sg) (Q : Int32 → Prop) (hw : w_X2_wayAlong p1 p2 p3 σ Q) : MC l yX2_wayAlong cX2_wayAlong 5 (some .int) (RM 1 0 0 22) D ad cA g [.ref (ad 1), .int p1, .int p2, .int p3] σ (fun v σ' => ∃ r : Int32, v = some (.int r) ∧ σ' = σ ∧ Q r) (fun _ _ => False) := by
  refine MC.of (plainFor_of_name (by decide +kernel)) (Nat.le_of_ble_eq_true rfl) ?_
  intro p e s m args below meth c A ls hx hb hr hml hown hG hlocks htab hA hS hP hK hD hGV hl
  have hown : s.vm.findClass RX2 = some m.cls := hown
  have hl : lv_has ls 5 [(0, .ref (ad 1)), (1, .int p1), (2, .int p2), (3, .int p3)] := hl
  have hSF : CF p m c cX2_wayAlong 5 s args RX2 := ⟨hx, hb, hml, hown, hG⟩
  refine lv_aload_n hx hb dX2_wayAlong_0 rfl (lv_at hl 0 rfl) ?_
  refine lv_iload_n hx hb dX2_wayAlong_1 rfl (lv_at hl 1 rfl) ?_
  refine lv_iload_n hx hb dX2_wayAlong_2 rfl (lv_at hl 2 rfl) ?_
  refine mc_V hSF hl.1 hP hD hS hA hK hGV (m_X2_otherEnd l hfl D ad cA g p1 p2 σ _ hw) goV_X2_50 pd_X2_otherEnd ⟨(Nat.le_of_ble_eq_true rfl), (Nat.le_of_ble_eq_true rfl)⟩ ⟨(Nat.le_of_ble_eq_true rfl), (Nat.le_of_ble_eq_true rfl)⟩ (va_recv hK hP (ci := 4) (q0 := 1) rfl wl_1) dX2_wayAlong_3 rfl (Nat.le_of_ble_eq_true rfl) (fun v9 σ9 H locs hq hP hD hS => ?_) (fun _ _ _ _ _ _ h => h.elim)
  obtain ⟨r1, hv9, hs9, hw⟩ := hq
  subst hv9
  subst σ9
  refine W.eq (g2 := F0 m 6 ls [.int r1]) rfl ?_
  refine W.widen (k := 0) (n := 0) (Nat.le_refl _) (Nat.le_refl _) ?_
  refine lv_istore (lv' := [(4, .int r1), (0, .ref (ad 1)), (1, .int p1), (2, .int p2), (3, .int p3)]) hx hb dX2_wayAlong_6 hl (by decide) rfl (fun ls hl => ?_)
  refine lv_iload hx hb dX2_wayAlong_8 (lv_at hl 0 rfl) ?_
  refine lv_if_ge (tgt := 17) hx hb dX2_wayAlong_10 (by decide) (fun k2 => ?_) (fun k2 => ?_)
  · skip
    have hw := hw.1 k2
    refine lv_aload_n hx hb dX2_wayAlong_17 rfl (lv_at hl 1 rfl) ?_
    refine k_get (ci := 4) (C := RX2) (T := TX2) (N := 12) (v := .ref (ad 2)) hx hb hG inX2 hown hK hP 1 wl_1 rfl 2 (by decide) gw76 rfl dX2_wayAlong_18 ?_
    refine lv_iconst (v := 2) hx hb dX2_wayAlong_21 (by decide) ?_
    refine lv_iload hx hb dX2_wayAlong_22 (lv_at hl 0 rfl) ?_
    refine k_imul (v := 2 * r1) hx hb dX2_wayAlong_24 rfl ?_
    refine lv_iload_n hx hb dX2_wayAlong_25 rfl (lv_at hl 4 rfl) ?_
    refine k_iadd (v := (2 * r1) + p3) hx hb dX2_wayAlong_26 rfl ?_
    obtain ⟨hc3, hw⟩ := hw
    refine k_iald (v := gA σ 0 (ix ((2 * r1) + p3))) hx hb hK hP 2 wl_2 (ix ((2 * r1) + p3)) rfl rfl hc3 dX2_wayAlong_27 ?_
    refine lv_aload_n hx hb dX2_wayAlong_28 rfl (lv_at hl 1 rfl) ?_
    refine k_get (ci := 4) (C := RX2) (T := TX2) (N := 12) (v := .ref (ad 2)) hx hb hG inX2 hown hK hP 1 wl_1 rfl 2 (by decide) gw76 rfl dX2_wayAlong_29 ?_
    refine lv_iconst (v := 2) hx hb dX2_wayAlong_32 (by decide) ?_
    refine lv_iload_n hx hb dX2_wayAlong_33 rfl (lv_at hl 3 rfl) ?_
    refine k_imul (v := 2 * p2) hx hb dX2_wayAlong_34 rfl ?_
    refine lv_iload_n hx hb dX2_wayAlong_35 rfl (lv_at hl 4 rfl) ?_
    refine k_iadd (v := (2 * p2) + p3) hx hb dX2_wayAlong_36 rfl ?_
    obtain ⟨hc4, hw⟩ := hw
    refine k_iald (v := gA σ 0 (ix ((2 * p2) + p3))) hx hb hK hP 2 wl_2 (ix ((2 * p2) + p3)) rfl rfl hc4 dX2_wayAlong_37 ?_
    refine k_isub (v := (gA σ 0 (ix ((2 * r1) + p3))) - (gA σ 0 (ix ((2 * p2) + p3)))) hx hb dX2_wayAlong_38 rfl ?_
    exact vx_ret (m_i ⟨_, rfl, rfl, hw⟩ hx hb hr hlocks rfl hP hD hS (Nat.le_of_ble_eq_true rfl) (Nat.le_of_ble_eq_true rfl) dX2_wayAlong_39)
  · skip
    have hw := hw.2 k2
    refine lv_iconst (v := 0) hx hb dX2_wayAlong_13 (by decide) ?_
    refine lv_goto (tgt := 39) hx hb dX2_wayAlong_14 (by decide) ?_
    exact vx_ret (m_i ⟨_, rfl, rfl, hw⟩ hx hb hr hlocks rfl hP hD hS (Nat.le_of_ble_eq_true rfl) (Nat.le_of_ble_eq_true rfl) dX2_wayAlong_39)

set_option maxHeartbeats 4000000 in
set_option maxRecDepth 100000 in
theorem m_X1_fillRows (l : Launch) (hfl : l.stackTraces = false) (D : va_G) (ad : Nat → Nat) (cA : Nat → ClassId) (g : gv_T) (σ : Sg) (Q : Sg → Prop) (hw : w_X1_fillRows  σ Q) : MC l yX1_fillRows cX1_fillRows 7 none (RM 2 0 0 46) D ad cA g [.ref (ad 12), .ref (ad 1)] σ (fun v σ' => v = none ∧ Q σ') (fun _ _ => False) := by
  refine MC.of (plainFor_of_name (by decide +kernel)) (Nat.le_of_ble_eq_true rfl) ?_
  intro p e s m args below meth c A ls hx hb hr hml hown hG hlocks htab hA hS hP hK hD hGV hl
  have hown : s.vm.findClass RX1 = some m.cls := hown
  have hl : lv_has ls 7 [(0, .ref (ad 12)), (1, .ref (ad 1))] := hl
  have hSF : CF p m c cX1_fillRows 7 s args RX1 := ⟨hx, hb, hml, hown, hG⟩
  refine lv_iconst (v := 0) hx hb dX1_fillRows_0 (by decide) ?_
  refine lv_istore_n (lv' := [(2, .int 0), (0, .ref (ad 12)), (1, .ref (ad 1))]) hx hb dX1_fillRows_1 rfl hl (by decide) rfl (fun ls hl => ?_)
  refine lv_iconst (v := 0) hx hb dX1_fillRows_2 (by decide) ?_
  refine lv_istore_n (lv' := [(3, .int 0), (2, .int 0), (0, .ref (ad 12)), (1, .ref (ad 1))]) hx hb dX1_fillRows_3 rfl hl (by decide) rfl (fun ls hl => ?_)
  obtain ⟨I1, μ1, hI1, hw1⟩ := hw
  have hl : lv_has ls 7 [(0, .ref (ad 12)), (1, .ref (ad 1)), (2, .int 0), (3, .int 0)] := lv_sub hl [2, 3, 1, 0] rfl
  suffices key1 : ∀ (n1 : Nat) (i2_1 : Int32) (i3_1 : Int32) (σ1 : Sg), μ1 i2_1 i3_1 σ1 < n1 → I1 i2_1 i3_1 σ1 → ∀ (H : Heap) (locs : List Loc) (ls : Array Slot), va_P D vwCl (WL ad cA σ1) H → va_D A (WL ad cA σ1) → va_S A s.heap H locs → lv_has ls 7 [(0, .ref (ad 12)), (1, .ref (ad 1)), (2, .int i2_1), (3, .int i3_1)] → W p l e (RM 2 0 0 46) s m args below meth c H locs (0) (0) (vx_MQ below (QM D ad cA A (fun v σ' => v = none ∧ Q σ')) (XM D ad cA A (fun _ _ => False)) args s (RM 2 0 0 46).cells (RM 2 0 0 46).slots A) (F0 m 4 ls []) from key1 _ _ _ _ (Nat.lt_succ_self _) hI1 _ _ ls hP hD hS hl
  clear hP hD hS hl
  intro n1
  induction n1 with
  | zero => intro _ _ _ h; exact absurd h (Nat.not_lt_zero _)
  | succ n1 ih1 =>
    intro i2_1 i3_1 σ1 hm1 hI1 H locs ls hP hD hS hl
    have hw := hw1 i2_1 i3_1 σ1 hI1
    refine lv_iload_n hx hb dX1_fillRows_4 rfl (lv_at hl 3 rfl) ?_
    refine lv_iconst (v := 2) hx hb dX1_fillRows_5 (by decide) ?_
    refine lv_aload_n hx hb dX1_fillRows_6 rfl (lv_at hl 1 rfl) ?_
    refine k_get (ci := 4) (C := RX2) (T := TX2) (N := 12) (v := .int (gI σ1 0)) hx hb hG inX2 hown hK hP 1 wl_1 rfl 0 (by decide) gw70 rfl dX1_fillRows_7 ?_
    refine k_imul (v := 2 * (gI σ1 0)) hx hb dX1_fillRows_10 rfl ?_
    refine lv_icmp_ge (tgt := 126) hx hb dX1_fillRows_11 (by decide) (fun k2 => ?_) (fun k2 => ?_)
    · skip
      have hw := hw.1 k2
      exact vx_ret (m_v ⟨rfl, hw⟩ hx hb hr hlocks hP hD hS (Nat.le_of_ble_eq_true rfl) (Nat.le_of_ble_eq_true rfl) dX1_fillRows_126)
    · skip
      have hw := hw.2 k2
      refine lv_iload_n hx hb dX1_fillRows_14 rfl (lv_at hl 2 rfl) ?_
      refine lv_bipush (v := 9) hx hb dX1_fillRows_15 (by decide) ?_
      refine lv_icmp_ge (tgt := 126) hx hb dX1_fillRows_17 (by decide) (fun k3 => ?_) (fun k3 => ?_)
      · skip
        have hw := hw.1 k3
        exact vx_ret (m_v ⟨rfl, hw⟩ hx hb hr hlocks hP hD hS (Nat.le_of_ble_eq_true rfl) (Nat.le_of_ble_eq_true rfl) dX1_fillRows_126)
      · skip
        have hw := hw.2 k3
        refine lv_iload_n hx hb dX1_fillRows_20 rfl (lv_at hl 3 rfl) ?_
        refine lv_iconst (v := 2) hx hb dX1_fillRows_21 (by decide) ?_
        refine k_idiv (v := i3_1 / 2) hx hb dX1_fillRows_22 (by decide +kernel) rfl ?_
        obtain ⟨v4, ev4⟩ : ∃ z : Int32, z = i3_1 / 2 := ⟨_, rfl⟩
        have hw := hw v4 ev4
        refine lv_istore (lv' := [(4, .int v4), (0, .ref (ad 12)), (1, .ref (ad 1)), (2, .int i2_1), (3, .int i3_1)]) hx hb dX1_fillRows_23 hl (by decide) (by subst ev4; rfl) (fun ls hl => ?_)
        refine lv_iload_n hx hb dX1_fillRows_25 rfl (lv_at hl 4 rfl) ?_
        refine lv_iconst (v := 2) hx hb dX1_fillRows_26 (by decide) ?_
        refine k_irem (v := iRem i3_1 2) hx hb dX1_fillRows_27 (by decide +kernel) rfl ?_
        obtain ⟨v5, ev5⟩ : ∃ z : Int32, z = iRem i3_1 2 := ⟨_, rfl⟩
        have hw := hw v5 ev5
        refine lv_istore (lv' := [(5, .int v5), (4, .int v4), (0, .ref (ad 12)), (1, .ref (ad 1)), (2, .int i2_1), (3, .int i3_1)]) hx hb dX1_fillRows_28 hl (by decide) (by subst ev5; rfl) (fun ls hl => ?_)
        refine lv_aload_n hx hb dX1_fillRows_30 rfl (lv_at hl 3 rfl) ?_
        refine lv_iload hx hb dX1_fillRows_31 (lv_at hl 1 rfl) ?_
        refine lv_iload hx hb dX1_fillRows_33 (lv_at hl 0 rfl) ?_
        refine mc_V hSF hl.1 hP hD hS hA hK hGV (m_X2_isBorne l hfl D ad cA g v4 v5 σ1 _ hw) goV_X1_84 pd_X2_isBorne ⟨(Nat.le_of_ble_eq_true rfl), (Nat.le_of_ble_eq_true rfl)⟩ ⟨(Nat.le_of_ble_eq_true rfl), (Nat.le_of_ble_eq_true rfl)⟩ (va_recv hK hP (ci := 4) (q0 := 1) rfl wl_1) dX1_fillRows_35 rfl (Nat.le_of_ble_eq_true rfl) (fun v9 σ9 H locs hq hP hD hS => ?_) (fun _ _ _ _ _ _ h => h.elim)
        obtain ⟨r6, hv9, hs9, hw⟩ := hq
        subst hv9
        subst σ9
        refine W.eq (g2 := F0 m 38 ls [.int r6]) rfl ?_
        refine W.widen (k := 0) (n := 0) (Nat.le_refl _) (Nat.le_refl _) ?_
        refine lv_if_eq (tgt := 44) hx hb dX1_fillRows_38 (by decide) (fun k7 => ?_) (fun k7 => ?_)
        · skip
          have hw := hw.1 k7
          refine lv_iconst (v := 0) hx hb dX1_fillRows_44 (by decide) ?_
          refine lv_istore (lv' := [(6, .int 0), (5, .int v5), (4, .int v4), (0, .ref (ad 12)), (1, .ref (ad 1)), (2, .int i2_1), (3, .int i3_1)]) hx hb dX1_fillRows_45 hl (by decide) rfl (fun ls hl => ?_)
          obtain ⟨I8, μ8, hI8, hw8⟩ := hw
          have hl : lv_has ls 7 [(0, .ref (ad 12)), (1, .ref (ad 1)), (2, .int i2_1), (3, .int i3_1), (4, .int v4), (5, .int v5), (6, .int 0)] := lv_sub hl [3, 4, 5, 6, 2, 1, 0] rfl
          suffices key8 : ∀ (n8 : Nat) (i6_8 : Int32) (σ8 : Sg), μ8 i6_8 σ8 < n8 → I8 i6_8 σ8 → ∀ (H : Heap) (locs : List Loc) (ls : Array Slot), va_P D vwCl (WL ad cA σ8) H → va_D A (WL ad cA σ8) → va_S A s.heap H locs → lv_has ls 7 [(0, .ref (ad 12)), (1, .ref (ad 1)), (2, .int i2_1), (3, .int i3_1), (4, .int v4), (5, .int v5), (6, .int i6_8)] → W p l e (RM 2 0 0 46) s m args below meth c H locs (0) (0) (vx_MQ below (QM D ad cA A (fun v σ' => v = none ∧ Q σ')) (XM D ad cA A (fun _ _ => False)) args s (RM 2 0 0 46).cells (RM 2 0 0 46).slots A) (F0 m 47 ls []) from key8 _ _ _ (Nat.lt_succ_self _) hI8 _ _ ls hP hD hS hl
          clear hP hD hS hl
          intro n8
          induction n8 with
          | zero => intro _ _ h; exact absurd h (Nat.not_lt_zero _)
          | succ n8 ih8 =>
            intro i6_8 σ8 hm8 hI8 H locs ls hP hD hS hl
            have hw := hw8 i6_8 σ8 hI8
            refine lv_iload hx hb dX1_fillRows_47 (lv_at hl 6 rfl) ?_
            refine lv_aload_n hx hb dX1_fillRows_49 rfl (lv_at hl 1 rfl) ?_
            refine k_get (ci := 4) (C := RX2) (T := TX2) (N := 12) (v := .int (gI σ8 1)) hx hb hG inX2 hown hK hP 1 wl_1 rfl 1 (by decide) gw75 rfl dX1_fillRows_50 ?_
            refine lv_icmp_ge (tgt := 84) hx hb dX1_fillRows_53 (by decide) (fun k9 => ?_) (fun k9 => ?_)
            · skip
              have hw := hw.1 k9
              refine lv_aload_n hx hb dX1_fillRows_84 rfl (lv_at hl 0 rfl) ?_
              refine k_get (ci := 3) (C := RX1) (T := TX1) (N := 17) (v := .ref (ad 17)) hx hb hG inX1 hown hK hP 12 wl_12 rfl 7 (by decide) gw149 rfl dX1_fillRows_85 ?_
              refine lv_iload_n hx hb dX1_fillRows_88 rfl (lv_at hl 2 rfl) ?_
              refine lv_aload_n hx hb dX1_fillRows_89 rfl (lv_at hl 1 rfl) ?_
              refine k_get (ci := 4) (C := RX2) (T := TX2) (N := 12) (v := .ref (ad 3)) hx hb hG inX2 hown hK hP 1 wl_1 rfl 3 (by decide) gw79 rfl dX1_fillRows_90 ?_
              refine lv_iload_n hx hb dX1_fillRows_93 rfl (lv_at hl 3 rfl) ?_
              obtain ⟨hc10, hw⟩ := hw
              refine k_iald (v := gA σ8 1 (ix i3_1)) hx hb hK hP 3 wl_3 (ix i3_1) rfl rfl hc10 dX1_fillRows_94 ?_
              refine lv_ineg hx hb dX1_fillRows_95 ?_
              refine lv_bipush (v := 8) hx hb dX1_fillRows_96 (by decide) ?_
              refine k_ishr (v := iShr (-(gA σ8 1 (ix i3_1))) 8) hx hb dX1_fillRows_98 rfl ?_
              obtain ⟨hc11, hw⟩ := hw
              obtain ⟨σ12, eσ12⟩ : ∃ z : Sg, z = sA σ8 11 (ix i2_1) (iShr (-(gA σ8 1 (ix i3_1))) 8) := ⟨_, rfl⟩
              have hw := hw σ12 eσ12
              refine k_iast (ws1 := WL ad cA σ12) hx hb hK hP hD hS 17 wl_17 (ws_17 eσ12) hc11 dX1_fillRows_99 (fun H locs hP hD hS => ?_)
              refine lv_aload_n hx hb dX1_fillRows_100 rfl (lv_at hl 0 rfl) ?_
              refine k_get (ci := 3) (C := RX1) (T := TX1) (N := 17) (v := .ref (ad 18)) hx hb hG inX1 hown hK hP 12 wl_12 rfl 8 (by decide) gw150 rfl dX1_fillRows_101 ?_
              refine lv_iload_n hx hb dX1_fillRows_104 rfl (lv_at hl 2 rfl) ?_
              refine lv_aload_n hx hb dX1_fillRows_105 rfl (lv_at hl 1 rfl) ?_
              refine k_get (ci := 4) (C := RX2) (T := TX2) (N := 12) (v := .ref (ad 3)) hx hb hG inX2 hown hK hP 1 wl_1 rfl 3 (by decide) gw79 rfl dX1_fillRows_106 ?_
              refine lv_iload_n hx hb dX1_fillRows_109 rfl (lv_at hl 3 rfl) ?_
              obtain ⟨hc13, hw⟩ := hw
              refine k_iald (v := gA σ12 1 (ix i3_1)) hx hb hK hP 3 wl_3 (ix i3_1) rfl rfl hc13 dX1_fillRows_110 ?_
              refine lv_ineg hx hb dX1_fillRows_111 ?_
              refine lv_sipush (v := 255) hx hb dX1_fillRows_112 (by decide) ?_
              refine k_iand (v := (-(gA σ12 1 (ix i3_1))) &&& 255) hx hb dX1_fillRows_115 rfl ?_
              obtain ⟨hc14, hw⟩ := hw
              obtain ⟨σ15, eσ15⟩ : ∃ z : Sg, z = sA σ12 12 (ix i2_1) ((-(gA σ12 1 (ix i3_1))) &&& 255) := ⟨_, rfl⟩
              have hw := hw σ15 eσ15
              refine k_iast (ws1 := WL ad cA σ15) hx hb hK hP hD hS 18 wl_18 (ws_18 eσ15) hc14 dX1_fillRows_116 (fun H locs hP hD hS => ?_)
              refine lv_iinc (v := i2_1 + 1) (lv' := [(2, .int (i2_1 + 1)), (0, .ref (ad 12)), (1, .ref (ad 1)), (3, .int i3_1), (4, .int v4), (5, .int v5), (6, .int i6_8)]) hx hb dX1_fillRows_117 hl (k := 2) rfl rfl (by decide) rfl (fun ls hl => ?_)
              refine lv_iinc (v := i3_1 + 1) (lv' := [(3, .int (i3_1 + 1)), (2, .int (i2_1 + 1)), (0, .ref (ad 12)), (1, .ref (ad 1)), (4, .int v4), (5, .int v5), (6, .int i6_8)]) hx hb dX1_fillRows_120 hl (k := 3) rfl rfl (by decide) rfl (fun ls hl => ?_)
              refine lv_goto (tgt := 4) hx hb dX1_fillRows_123 (by decide) ?_
              exact ih1 (i2_1 + 1) (i3_1 + 1) σ15 (Nat.lt_of_lt_of_le hw.2 (Nat.le_of_lt_succ hm1)) hw.1 _ _ ls hP hD hS (lv_sub hl [2, 3, 1, 0] rfl)
            · skip
              have hw := hw.2 k9
              refine lv_aload_n hx hb dX1_fillRows_56 rfl (lv_at hl 0 rfl) ?_
              refine k_get (ci := 3) (C := RX1) (T := TX1) (N := 17) (v := .ref (ad 16)) hx hb hG inX1 hown hK hP 12 wl_12 rfl 6 (by decide) gw148 rfl dX1_fillRows_57 ?_
              refine lv_iload_n hx hb dX1_fillRows_60 rfl (lv_at hl 2 rfl) ?_
              refine lv_bipush (v := 9) hx hb dX1_fillRows_61 (by decide) ?_
              refine k_imul (v := i2_1 * 9) hx hb dX1_fillRows_63 rfl ?_
              refine lv_iload hx hb dX1_fillRows_64 (lv_at hl 6 rfl) ?_
              refine k_iadd (v := (i2_1 * 9) + i6_8) hx hb dX1_fillRows_66 rfl ?_
              refine lv_aload_n hx hb dX1_fillRows_67 rfl (lv_at hl 1 rfl) ?_
              refine lv_iload hx hb dX1_fillRows_68 (lv_at hl 6 rfl) ?_
              refine lv_iload hx hb dX1_fillRows_70 (lv_at hl 4 rfl) ?_
              refine lv_iload hx hb dX1_fillRows_72 (lv_at hl 5 rfl) ?_
              refine mc_V hSF hl.1 hP hD hS hA hK hGV (m_X2_wayAlong l hfl D ad cA g i6_8 v4 v5 σ8 _ hw) goV_X1_112 pd_X2_wayAlong ⟨(Nat.le_of_ble_eq_true rfl), (Nat.le_of_ble_eq_true rfl)⟩ ⟨(Nat.le_of_ble_eq_true rfl), (Nat.le_of_ble_eq_true rfl)⟩ (va_recv hK hP (ci := 4) (q0 := 1) rfl wl_1) dX1_fillRows_74 rfl (Nat.le_of_ble_eq_true rfl) (fun v9 σ9 H locs hq hP hD hS => ?_) (fun _ _ _ _ _ _ h => h.elim)
              obtain ⟨r16, hv9, hs9, hw⟩ := hq
              subst hv9
              subst σ9
              refine W.eq (g2 := F0 m 77 ls [.int r16, .int ((i2_1 * 9) + i6_8), .ref (ad 16)]) rfl ?_
              refine W.widen (k := 0) (n := 0) (Nat.le_refl _) (Nat.le_refl _) ?_
              obtain ⟨hc17, hw⟩ := hw
              obtain ⟨σ18, eσ18⟩ : ∃ z : Sg, z = sA σ8 10 (ix ((i2_1 * 9) + i6_8)) r16 := ⟨_, rfl⟩
              have hw := hw σ18 eσ18
              refine k_iast (ws1 := WL ad cA σ18) hx hb hK hP hD hS 16 wl_16 (ws_16 eσ18) hc17 dX1_fillRows_77 (fun H locs hP hD hS => ?_)
              refine lv_iinc (v := i6_8 + 1) (lv' := [(6, .int (i6_8 + 1)), (0, .ref (ad 12)), (1, .ref (ad 1)), (2, .int i2_1), (3, .int i3_1), (4, .int v4), (5, .int v5)]) hx hb dX1_fillRows_78 hl (k := 6) rfl rfl (by decide) rfl (fun ls hl => ?_)
              refine lv_goto (tgt := 47) hx hb dX1_fillRows_81 (by decide) ?_
              exact ih8 (i6_8 + 1) σ18 (Nat.lt_of_lt_of_le hw.2 (Nat.le_of_lt_succ hm8)) hw.1 _ _ ls hP hD hS (lv_sub hl [1, 2, 3, 4, 5, 6, 0] rfl)
        · skip
          have hw := hw.2 k7
          refine lv_goto (tgt := 120) hx hb dX1_fillRows_41 (by decide) ?_
          refine lv_iinc (v := i3_1 + 1) (lv' := [(3, .int (i3_1 + 1)), (5, .int v5), (4, .int v4), (0, .ref (ad 12)), (1, .ref (ad 1)), (2, .int i2_1)]) hx hb dX1_fillRows_120 hl (k := 5) rfl rfl (by decide) rfl (fun ls hl => ?_)
          refine lv_goto (tgt := 4) hx hb dX1_fillRows_123 (by decide) ?_
          exact ih1 i2_1 (i3_1 + 1) σ1 (Nat.lt_of_lt_of_le hw.2 (Nat.le_of_lt_succ hm1)) hw.1 _ _ ls hP hD hS (lv_sub hl [3, 4, 5, 0] rfl)

set_option maxHeartbeats 4000000 in
set_option maxRecDepth 100000 in
theorem m_J6_bitCount_0f7a4 (l : Launch) (hfl : l.stackTraces = false) (D : va_G) (ad : Nat → Nat) (cA : Nat → ClassId) (g : gv_T) (p0 : Int32) (σ : Sg) (Q : Int32 → Prop) (hw : w_J6_bitCount_0f7a4 p0 σ Q) : MC l yJ6_bitCount_0f7a4 cJ6_bitCount_0f7a4 1 (some .int) (RM 0 0 0 0) D ad cA g [.int p0] σ (fun v σ' => ∃ r : Int32, v = some (.int r) ∧ σ' = σ ∧ Q r) (fun _ _ => False) := by
  refine MC.of (plainFor_of_name (by decide +kernel)) (Nat.le_of_ble_eq_true rfl) ?_
  intro p e s m args below meth c A ls hx hb hr hml hown hG hlocks htab hA hS hP hK hD hGV hl
  have hown : s.vm.findClass RJ6 = some m.cls := hown
  have hl : lv_has ls 1 [(0, .int p0)] := hl
  have hSF : CF p m c cJ6_bitCount_0f7a4 1 s args RJ6 := ⟨hx, hb, hml, hown, hG⟩
  refine lv_iload_n hx hb dJ6_bitCount_0f7a4_0 rfl (lv_at hl 0 rfl) ?_
  refine lv_iload_n hx hb dJ6_bitCount_0f7a4_1 rfl (lv_at hl 0 rfl) ?_
  refine lv_iconst (v := 1) hx hb dJ6_bitCount_0f7a4_2 (by decide) ?_
  refine lv_iushr (v := iUshr p0 1) hx hb dJ6_bitCount_0f7a4_3 rfl ?_
  refine lv_ldcw hx hb hown (hG _ gw356) dJ6_bitCount_0f7a4_4 ?_
  refine k_iand (v := (iUshr p0 1) &&& 1431655765) hx hb dJ6_bitCount_0f7a4_7 rfl ?_
  refine k_isub (v := p0 - ((iUshr p0 1) &&& 1431655765)) hx hb dJ6_bitCount_0f7a4_8 rfl ?_
  obtain ⟨v1, ev1⟩ : ∃ z : Int32, z = p0 - ((iUshr p0 1) &&& 1431655765) := ⟨_, rfl⟩
  have hw := hw v1 ev1
  refine lv_istore_n (lv' := [(0, .int v1)]) hx hb dJ6_bitCount_0f7a4_9 rfl hl (by decide) (by subst ev1; rfl) (fun ls hl => ?_)
  refine lv_iload_n hx hb dJ6_bitCount_0f7a4_10 rfl (lv_at hl 0 rfl) ?_
  refine lv_ldcw hx hb hown (hG _ gw357) dJ6_bitCount_0f7a4_11 ?_
  refine k_iand (v := v1 &&& 858993459) hx hb dJ6_bitCount_0f7a4_14 rfl ?_
  refine lv_iload_n hx hb dJ6_bitCount_0f7a4_15 rfl (lv_at hl 0 rfl) ?_
  refine lv_iconst (v := 2) hx hb dJ6_bitCount_0f7a4_16 (by decide) ?_
  refine lv_iushr (v := iUshr v1 2) hx hb dJ6_bitCount_0f7a4_17 rfl ?_
  refine lv_ldcw hx hb hown (hG _ gw357) dJ6_bitCount_0f7a4_18 ?_
  refine k_iand (v := (iUshr v1 2) &&& 858993459) hx hb dJ6_bitCount_0f7a4_21 rfl ?_
  refine k_iadd (v := (v1 &&& 858993459) + ((iUshr v1 2) &&& 858993459)) hx hb dJ6_bitCount_0f7a4_22 rfl ?_
  obtain ⟨v2, ev2⟩ : ∃ z : Int32, z = (v1 &&& 858993459) + ((iUshr v1 2) &&& 858993459) := ⟨_, rfl⟩
  have hw := hw v2 ev2
  refine lv_istore_n (lv' := [(0, .int v2)]) hx hb dJ6_bitCount_0f7a4_23 rfl hl (by decide) (by subst ev2; rfl) (fun ls hl => ?_)
  refine lv_iload_n hx hb dJ6_bitCount_0f7a4_24 rfl (lv_at hl 0 rfl) ?_
  refine lv_iload_n hx hb dJ6_bitCount_0f7a4_25 rfl (lv_at hl 0 rfl) ?_
  refine lv_iconst (v := 4) hx hb dJ6_bitCount_0f7a4_26 (by decide) ?_
  refine lv_iushr (v := iUshr v2 4) hx hb dJ6_bitCount_0f7a4_27 rfl ?_
  refine k_iadd (v := v2 + (iUshr v2 4)) hx hb dJ6_bitCount_0f7a4_28 rfl ?_
  refine lv_ldcw hx hb hown (hG _ gw358) dJ6_bitCount_0f7a4_29 ?_
  refine k_iand (v := (v2 + (iUshr v2 4)) &&& 252645135) hx hb dJ6_bitCount_0f7a4_32 rfl ?_
  obtain ⟨v3, ev3⟩ : ∃ z : Int32, z = (v2 + (iUshr v2 4)) &&& 252645135 := ⟨_, rfl⟩
  have hw := hw v3 ev3
  refine lv_istore_n (lv' := [(0, .int v3)]) hx hb dJ6_bitCount_0f7a4_33 rfl hl (by decide) (by subst ev3; rfl) (fun ls hl => ?_)
  refine lv_iload_n hx hb dJ6_bitCount_0f7a4_34 rfl (lv_at hl 0 rfl) ?_
  refine lv_iload_n hx hb dJ6_bitCount_0f7a4_35 rfl (lv_at hl 0 rfl) ?_
  refine lv_bipush (v := 8) hx hb dJ6_bitCount_0f7a4_36 (by decide) ?_
  refine lv_iushr (v := iUshr v3 8) hx hb dJ6_bitCount_0f7a4_38 rfl ?_
  refine k_iadd (v := v3 + (iUshr v3 8)) hx hb dJ6_bitCount_0f7a4_39 rfl ?_
  obtain ⟨v4, ev4⟩ : ∃ z : Int32, z = v3 + (iUshr v3 8) := ⟨_, rfl⟩
  have hw := hw v4 ev4
  refine lv_istore_n (lv' := [(0, .int v4)]) hx hb dJ6_bitCount_0f7a4_40 rfl hl (by decide) (by subst ev4; rfl) (fun ls hl => ?_)
  refine lv_iload_n hx hb dJ6_bitCount_0f7a4_41 rfl (lv_at hl 0 rfl) ?_
  refine lv_iload_n hx hb dJ6_bitCount_0f7a4_42 rfl (lv_at hl 0 rfl) ?_
  refine lv_bipush (v := 16) hx hb dJ6_bitCount_0f7a4_43 (by decide) ?_
  refine lv_iushr (v := iUshr v4 16) hx hb dJ6_bitCount_0f7a4_45 rfl ?_
  refine k_iadd (v := v4 + (iUshr v4 16)) hx hb dJ6_bitCount_0f7a4_46 rfl ?_
  obtain ⟨v5, ev5⟩ : ∃ z : Int32, z = v4 + (iUshr v4 16) := ⟨_, rfl⟩
  have hw := hw v5 ev5
  refine lv_istore_n (lv' := [(0, .int v5)]) hx hb dJ6_bitCount_0f7a4_47 rfl hl (by decide) (by subst ev5; rfl) (fun ls hl => ?_)
  refine lv_iload_n hx hb dJ6_bitCount_0f7a4_48 rfl (lv_at hl 0 rfl) ?_
  refine lv_bipush (v := 63) hx hb dJ6_bitCount_0f7a4_49 (by decide) ?_
  refine k_iand (v := v5 &&& 63) hx hb dJ6_bitCount_0f7a4_51 rfl ?_
  exact vx_ret (m_i ⟨_, rfl, rfl, hw⟩ hx hb hr hlocks rfl hP hD hS (Nat.le_of_ble_eq_true rfl) (Nat.le_of_ble_eq_true rfl) dJ6_bitCount_0f7a4_52)

set_option maxHeartbeats 4000000 in
set_option maxRecDepth 100000 in
theorem m_X1_expanded_19 (l : Launch) (hfl : l.stackTraces = false) (D : va_G) (ad : Nat → Nat) (cA : Nat → ClassId) (g : gv_T) (p2 : Int32) (p3 : Int32) (σ : Sg) (Q : Int64 → Prop) (hw : w_X1_expanded_19 p2 p3 σ Q) : MC l yX1_expanded cX1_expanded 9 (some .long) (RM 0 0 0 0) D ad cA g [.ref (ad 12), .ref (ad 19), .int p2, .int p3] σ (fun v σ' => ∃ r : Int64, v = some (.long r) ∧ σ' = σ ∧ Q r) (fun _ _ => False) := by
  refine MC.of (plainFor_of_name (by decide +kernel)) (Nat.le_of_ble_eq_true rfl) ?_
  intro p e s m args below meth c A ls hx hb hr hml hown hG hlocks htab hA hS hP hK hD hGV hl
  have hown : s.vm.findClass RX1 = some m.cls := hown
  have hl : lv_has ls 9 [(0, .ref (ad 12)), (1, .ref (ad 19)), (2, .int p2), (3, .int p3)] := hl
  have hSF : CF p m c cX1_expanded 9 s args RX1 := ⟨hx, hb, hml, hown, hG⟩
  refine lv_lconst (v := 0) hx hb dX1_expanded_0 (by decide) ?_
  refine lv_lstore (lv' := [(4, .long 0), (0, .ref (ad 12)), (1, .ref (ad 19)), (2, .int p2), (3, .int p3)]) hx hb dX1_expanded_1 hl (by decide) rfl (fun ls hl => ?_)
  refine lv_lconst (v := 1) hx hb dX1_expanded_3 (by decide) ?_
  refine lv_lstore (lv' := [(6, .long 1), (4, .long 0), (0, .ref (ad 12)), (1, .ref (ad 19)), (2, .int p2), (3, .int p3)]) hx hb dX1_expanded_4 hl (by decide) rfl (fun ls hl => ?_)
  refine lv_bipush (v := 8) hx hb dX1_expanded_6 (by decide) ?_
  refine lv_istore (lv' := [(8, .int 8), (6, .long 1), (4, .long 0), (0, .ref (ad 12)), (1, .ref (ad 19)), (2, .int p2), (3, .int p3)]) hx hb dX1_expanded_8 hl (by decide) rfl (fun ls hl => ?_)
  obtain ⟨I1, μ1, hI1, hw1⟩ := hw
  have hl : lv_has ls 9 [(0, .ref (ad 12)), (1, .ref (ad 19)), (2, .int p2), (3, .int p3), (4, .long 0), (6, .long 1), (8, .int 8)] := lv_sub hl [3, 4, 5, 6, 2, 1, 0] rfl
  suffices key1 : ∀ (n1 : Nat) (i4_1 : Int64) (i6_1 : Int64) (i8_1 : Int32), μ1 i4_1 i6_1 i8_1 < n1 → I1 i4_1 i6_1 i8_1 → ∀ (H : Heap) (locs : List Loc) (ls : Array Slot), va_P D vwCl (WL ad cA σ) H → va_D A (WL ad cA σ) → va_S A s.heap H locs → lv_has ls 9 [(0, .ref (ad 12)), (1, .ref (ad 19)), (2, .int p2), (3, .int p3), (4, .long i4_1), (6, .long i6_1), (8, .int i8_1)] → W p l e (RM 0 0 0 0) s m args below meth c H locs (0) (0) (vx_MQ below (QM D ad cA A (fun v σ' => ∃ r : Int64, v = some (.long r) ∧ σ' = σ ∧ Q r)) (XM D ad cA A (fun _ _ => False)) args s (RM 0 0 0 0).cells (RM 0 0 0 0).slots A) (F0 m 10 ls []) from key1 _ _ _ _ (Nat.lt_succ_self _) hI1 _ _ ls hP hD hS hl
  clear hP hD hS hl
  intro n1
  induction n1 with
  | zero => intro _ _ _ h; exact absurd h (Nat.not_lt_zero _)
  | succ n1 ih1 =>
    intro i4_1 i6_1 i8_1 hm1 hI1 H locs ls hP hD hS hl
    have hw := hw1 i4_1 i6_1 i8_1 hI1
    refine lv_iload hx hb dX1_expanded_10 (lv_at hl 6 rfl) ?_
    refine lv_if_lt (tgt := 65) hx hb dX1_expanded_12 (by decide) (fun k2 => ?_) (fun k2 => ?_)
    · skip
      have hw := hw.1 k2
      refine lv_lload hx hb dX1_expanded_65 (lv_at hl 4 rfl) ?_
      exact vx_ret (m_l ⟨_, rfl, rfl, hw⟩ hx hb hr hlocks hP hD hS (Nat.le_of_ble_eq_true rfl) (Nat.le_of_ble_eq_true rfl) dX1_expanded_67)
    · skip
      have hw := hw.2 k2
      refine lv_iload_n hx hb dX1_expanded_15 rfl (lv_at hl 2 rfl) ?_
      refine lv_iload hx hb dX1_expanded_16 (lv_at hl 6 rfl) ?_
      refine k_ishr (v := iShr p2 i8_1) hx hb dX1_expanded_18 rfl ?_
      refine lv_iconst (v := 1) hx hb dX1_expanded_19 (by decide) ?_
      refine k_iand (v := (iShr p2 i8_1) &&& 1) hx hb dX1_expanded_20 rfl ?_
      refine lv_if_eq (tgt := 59) hx hb dX1_expanded_21 (by decide) (fun k3 => ?_) (fun k3 => ?_)
      · skip
        have hw := hw.1 k3
        refine lv_iinc (v := i8_1 + (-1)) (lv' := [(8, .int (i8_1 + (-1))), (0, .ref (ad 12)), (1, .ref (ad 19)), (2, .int p2), (3, .int p3), (4, .long i4_1), (6, .long i6_1)]) hx hb dX1_expanded_59 hl (k := 6) rfl rfl (by decide) rfl (fun ls hl => ?_)
        refine lv_goto (tgt := 10) hx hb dX1_expanded_62 (by decide) ?_
        exact ih1 i4_1 i6_1 (i8_1 + (-1)) (Nat.lt_of_lt_of_le hw.2 (Nat.le_of_lt_succ hm1)) hw.1 _ _ ls hP hD hS (lv_sub hl [1, 2, 3, 4, 5, 6, 0] rfl)
      · skip
        have hw := hw.2 k3
        refine lv_lload hx hb dX1_expanded_24 (lv_at hl 4 rfl) ?_
        refine lv_lload hx hb dX1_expanded_26 (lv_at hl 5 rfl) ?_
        refine lv_aload_n hx hb dX1_expanded_28 rfl (lv_at hl 0 rfl) ?_
        refine k_get (ci := 3) (C := RX1) (T := TX1) (N := 17) (v := .ref (ad 16)) hx hb hG inX1 hown hK hP 12 wl_12 rfl 6 (by decide) gw148 rfl dX1_expanded_29 ?_
        refine lv_iload_n hx hb dX1_expanded_32 rfl (lv_at hl 3 rfl) ?_
        refine lv_bipush (v := 9) hx hb dX1_expanded_33 (by decide) ?_
        refine k_imul (v := p3 * 9) hx hb dX1_expanded_35 rfl ?_
        refine lv_iload hx hb dX1_expanded_36 (lv_at hl 6 rfl) ?_
        refine k_iadd (v := (p3 * 9) + i8_1) hx hb dX1_expanded_38 rfl ?_
        obtain ⟨hc4, hw⟩ := hw
        refine k_iald (v := gA σ 10 (ix ((p3 * 9) + i8_1))) hx hb hK hP 16 wl_16 (ix ((p3 * 9) + i8_1)) rfl rfl hc4 dX1_expanded_39 ?_
        refine lv_i2l (v := (gA σ 10 (ix ((p3 * 9) + i8_1))).toInt64) hx hb dX1_expanded_40 rfl ?_
        refine k_lmul (v := i6_1 * ((gA σ 10 (ix ((p3 * 9) + i8_1))).toInt64)) hx hb dX1_expanded_41 rfl ?_
        refine lv_aload_n hx hb dX1_expanded_42 rfl (lv_at hl 1 rfl) ?_
        refine lv_iload_n hx hb dX1_expanded_43 rfl (lv_at hl 2 rfl) ?_
        refine lv_iconst (v := 1) hx hb dX1_expanded_44 (by decide) ?_
        refine lv_iload hx hb dX1_expanded_45 (lv_at hl 6 rfl) ?_
        refine k_ishl (v := iShl 1 i8_1) hx hb dX1_expanded_47 rfl ?_
        refine k_ixor (v := p2 ^^^ (iShl 1 i8_1)) hx hb dX1_expanded_48 rfl ?_
        obtain ⟨hc5, hw⟩ := hw
        refine k_lald (v := gB σ 3 (ix (p2 ^^^ (iShl 1 i8_1)))) hx hb hK hP 19 wl_19 (ix (p2 ^^^ (iShl 1 i8_1))) rfl rfl hc5 dX1_expanded_49 ?_
        refine k_lmul (v := (i6_1 * ((gA σ 10 (ix ((p3 * 9) + i8_1))).toInt64)) * (gB σ 3 (ix (p2 ^^^ (iShl 1 i8_1))))) hx hb dX1_expanded_50 rfl ?_
        refine k_ladd (v := i4_1 + ((i6_1 * ((gA σ 10 (ix ((p3 * 9) + i8_1))).toInt64)) * (gB σ 3 (ix (p2 ^^^ (iShl 1 i8_1)))))) hx hb dX1_expanded_51 rfl ?_
        obtain ⟨v6, ev6⟩ : ∃ z : Int64, z = i4_1 + ((i6_1 * ((gA σ 10 (ix ((p3 * 9) + i8_1))).toInt64)) * (gB σ 3 (ix (p2 ^^^ (iShl 1 i8_1))))) := ⟨_, rfl⟩
        have hw := hw v6 ev6
        refine lv_lstore (lv' := [(4, .long v6), (0, .ref (ad 12)), (1, .ref (ad 19)), (2, .int p2), (3, .int p3), (6, .long i6_1), (8, .int i8_1)]) hx hb dX1_expanded_52 hl (by decide) (by subst ev6; rfl) (fun ls hl => ?_)
        refine lv_lload hx hb dX1_expanded_54 (lv_at hl 5 rfl) ?_
        refine lv_lneg hx hb dX1_expanded_56 ?_
        obtain ⟨v7, ev7⟩ : ∃ z : Int64, z = -i6_1 := ⟨_, rfl⟩
        have hw := hw v7 ev7
        refine lv_lstore (lv' := [(6, .long v7), (4, .long v6), (0, .ref (ad 12)), (1, .ref (ad 19)), (2, .int p2), (3, .int p3), (8, .int i8_1)]) hx hb dX1_expanded_57 hl (by decide) (by subst ev7; rfl) (fun ls hl => ?_)
        refine lv_iinc (v := i8_1 + (-1)) (lv' := [(8, .int (i8_1 + (-1))), (6, .long v7), (4, .long v6), (0, .ref (ad 12)), (1, .ref (ad 19)), (2, .int p2), (3, .int p3)]) hx hb dX1_expanded_59 hl (k := 6) rfl rfl (by decide) rfl (fun ls hl => ?_)
        refine lv_goto (tgt := 10) hx hb dX1_expanded_62 (by decide) ?_
        exact ih1 v6 v7 (i8_1 + (-1)) (Nat.lt_of_lt_of_le hw.2 (Nat.le_of_lt_succ hm1)) hw.1 _ _ ls hP hD hS (lv_sub hl [3, 4, 5, 6, 2, 1, 0] rfl)

set_option maxHeartbeats 4000000 in
set_option maxRecDepth 100000 in
theorem m_X1_expanded_20 (l : Launch) (hfl : l.stackTraces = false) (D : va_G) (ad : Nat → Nat) (cA : Nat → ClassId) (g : gv_T) (p2 : Int32) (p3 : Int32) (σ : Sg) (Q : Int64 → Prop) (hw : w_X1_expanded_20 p2 p3 σ Q) : MC l yX1_expanded cX1_expanded 9 (some .long) (RM 0 0 0 0) D ad cA g [.ref (ad 12), .ref (ad 20), .int p2, .int p3] σ (fun v σ' => ∃ r : Int64, v = some (.long r) ∧ σ' = σ ∧ Q r) (fun _ _ => False) := by
  refine MC.of (plainFor_of_name (by decide +kernel)) (Nat.le_of_ble_eq_true rfl) ?_
  intro p e s m args below meth c A ls hx hb hr hml hown hG hlocks htab hA hS hP hK hD hGV hl
  have hown : s.vm.findClass RX1 = some m.cls := hown
  have hl : lv_has ls 9 [(0, .ref (ad 12)), (1, .ref (ad 20)), (2, .int p2), (3, .int p3)] := hl
  have hSF : CF p m c cX1_expanded 9 s args RX1 := ⟨hx, hb, hml, hown, hG⟩
  refine lv_lconst (v := 0) hx hb dX1_expanded_0 (by decide) ?_
  refine lv_lstore (lv' := [(4, .long 0), (0, .ref (ad 12)), (1, .ref (ad 20)), (2, .int p2), (3, .int p3)]) hx hb dX1_expanded_1 hl (by decide) rfl (fun ls hl => ?_)
  refine lv_lconst (v := 1) hx hb dX1_expanded_3 (by decide) ?_
  refine lv_lstore (lv' := [(6, .long 1), (4, .long 0), (0, .ref (ad 12)), (1, .ref (ad 20)), (2, .int p2), (3, .int p3)]) hx hb dX1_expanded_4 hl (by decide) rfl (fun ls hl => ?_)
  refine lv_bipush (v := 8) hx hb dX1_expanded_6 (by decide) ?_
  refine lv_istore (lv' := [(8, .int 8), (6, .long 1), (4, .long 0), (0, .ref (ad 12)), (1, .ref (ad 20)), (2, .int p2), (3, .int p3)]) hx hb dX1_expanded_8 hl (by decide) rfl (fun ls hl => ?_)
  obtain ⟨I1, μ1, hI1, hw1⟩ := hw
  have hl : lv_has ls 9 [(0, .ref (ad 12)), (1, .ref (ad 20)), (2, .int p2), (3, .int p3), (4, .long 0), (6, .long 1), (8, .int 8)] := lv_sub hl [3, 4, 5, 6, 2, 1, 0] rfl
  suffices key1 : ∀ (n1 : Nat) (i4_1 : Int64) (i6_1 : Int64) (i8_1 : Int32), μ1 i4_1 i6_1 i8_1 < n1 → I1 i4_1 i6_1 i8_1 → ∀ (H : Heap) (locs : List Loc) (ls : Array Slot), va_P D vwCl (WL ad cA σ) H → va_D A (WL ad cA σ) → va_S A s.heap H locs → lv_has ls 9 [(0, .ref (ad 12)), (1, .ref (ad 20)), (2, .int p2), (3, .int p3), (4, .long i4_1), (6, .long i6_1), (8, .int i8_1)] → W p l e (RM 0 0 0 0) s m args below meth c H locs (0) (0) (vx_MQ below (QM D ad cA A (fun v σ' => ∃ r : Int64, v = some (.long r) ∧ σ' = σ ∧ Q r)) (XM D ad cA A (fun _ _ => False)) args s (RM 0 0 0 0).cells (RM 0 0 0 0).slots A) (F0 m 10 ls []) from key1 _ _ _ _ (Nat.lt_succ_self _) hI1 _ _ ls hP hD hS hl
  clear hP hD hS hl
  intro n1
  induction n1 with
  | zero => intro _ _ _ h; exact absurd h (Nat.not_lt_zero _)
  | succ n1 ih1 =>
    intro i4_1 i6_1 i8_1 hm1 hI1 H locs ls hP hD hS hl
    have hw := hw1 i4_1 i6_1 i8_1 hI1
    refine lv_iload hx hb dX1_expanded_10 (lv_at hl 6 rfl) ?_
    refine lv_if_lt (tgt := 65) hx hb dX1_expanded_12 (by decide) (fun k2 => ?_) (fun k2 => ?_)
    · skip
      have hw := hw.1 k2
      refine lv_lload hx hb dX1_expanded_65 (lv_at hl 4 rfl) ?_
      exact vx_ret (m_l ⟨_, rfl, rfl, hw⟩ hx hb hr hlocks hP hD hS (Nat.le_of_ble_eq_true rfl) (Nat.le_of_ble_eq_true rfl) dX1_expanded_67)
    · skip
      have hw := hw.2 k2
      refine lv_iload_n hx hb dX1_expanded_15 rfl (lv_at hl 2 rfl) ?_
      refine lv_iload hx hb dX1_expanded_16 (lv_at hl 6 rfl) ?_
      refine k_ishr (v := iShr p2 i8_1) hx hb dX1_expanded_18 rfl ?_
      refine lv_iconst (v := 1) hx hb dX1_expanded_19 (by decide) ?_
      refine k_iand (v := (iShr p2 i8_1) &&& 1) hx hb dX1_expanded_20 rfl ?_
      refine lv_if_eq (tgt := 59) hx hb dX1_expanded_21 (by decide) (fun k3 => ?_) (fun k3 => ?_)
      · skip
        have hw := hw.1 k3
        refine lv_iinc (v := i8_1 + (-1)) (lv' := [(8, .int (i8_1 + (-1))), (0, .ref (ad 12)), (1, .ref (ad 20)), (2, .int p2), (3, .int p3), (4, .long i4_1), (6, .long i6_1)]) hx hb dX1_expanded_59 hl (k := 6) rfl rfl (by decide) rfl (fun ls hl => ?_)
        refine lv_goto (tgt := 10) hx hb dX1_expanded_62 (by decide) ?_
        exact ih1 i4_1 i6_1 (i8_1 + (-1)) (Nat.lt_of_lt_of_le hw.2 (Nat.le_of_lt_succ hm1)) hw.1 _ _ ls hP hD hS (lv_sub hl [1, 2, 3, 4, 5, 6, 0] rfl)
      · skip
        have hw := hw.2 k3
        refine lv_lload hx hb dX1_expanded_24 (lv_at hl 4 rfl) ?_
        refine lv_lload hx hb dX1_expanded_26 (lv_at hl 5 rfl) ?_
        refine lv_aload_n hx hb dX1_expanded_28 rfl (lv_at hl 0 rfl) ?_
        refine k_get (ci := 3) (C := RX1) (T := TX1) (N := 17) (v := .ref (ad 16)) hx hb hG inX1 hown hK hP 12 wl_12 rfl 6 (by decide) gw148 rfl dX1_expanded_29 ?_
        refine lv_iload_n hx hb dX1_expanded_32 rfl (lv_at hl 3 rfl) ?_
        refine lv_bipush (v := 9) hx hb dX1_expanded_33 (by decide) ?_
        refine k_imul (v := p3 * 9) hx hb dX1_expanded_35 rfl ?_
        refine lv_iload hx hb dX1_expanded_36 (lv_at hl 6 rfl) ?_
        refine k_iadd (v := (p3 * 9) + i8_1) hx hb dX1_expanded_38 rfl ?_
        obtain ⟨hc4, hw⟩ := hw
        refine k_iald (v := gA σ 10 (ix ((p3 * 9) + i8_1))) hx hb hK hP 16 wl_16 (ix ((p3 * 9) + i8_1)) rfl rfl hc4 dX1_expanded_39 ?_
        refine lv_i2l (v := (gA σ 10 (ix ((p3 * 9) + i8_1))).toInt64) hx hb dX1_expanded_40 rfl ?_
        refine k_lmul (v := i6_1 * ((gA σ 10 (ix ((p3 * 9) + i8_1))).toInt64)) hx hb dX1_expanded_41 rfl ?_
        refine lv_aload_n hx hb dX1_expanded_42 rfl (lv_at hl 1 rfl) ?_
        refine lv_iload_n hx hb dX1_expanded_43 rfl (lv_at hl 2 rfl) ?_
        refine lv_iconst (v := 1) hx hb dX1_expanded_44 (by decide) ?_
        refine lv_iload hx hb dX1_expanded_45 (lv_at hl 6 rfl) ?_
        refine k_ishl (v := iShl 1 i8_1) hx hb dX1_expanded_47 rfl ?_
        refine k_ixor (v := p2 ^^^ (iShl 1 i8_1)) hx hb dX1_expanded_48 rfl ?_
        obtain ⟨hc5, hw⟩ := hw
        refine k_lald (v := gB σ 4 (ix (p2 ^^^ (iShl 1 i8_1)))) hx hb hK hP 20 wl_20 (ix (p2 ^^^ (iShl 1 i8_1))) rfl rfl hc5 dX1_expanded_49 ?_
        refine k_lmul (v := (i6_1 * ((gA σ 10 (ix ((p3 * 9) + i8_1))).toInt64)) * (gB σ 4 (ix (p2 ^^^ (iShl 1 i8_1))))) hx hb dX1_expanded_50 rfl ?_
        refine k_ladd (v := i4_1 + ((i6_1 * ((gA σ 10 (ix ((p3 * 9) + i8_1))).toInt64)) * (gB σ 4 (ix (p2 ^^^ (iShl 1 i8_1)))))) hx hb dX1_expanded_51 rfl ?_
        obtain ⟨v6, ev6⟩ : ∃ z : Int64, z = i4_1 + ((i6_1 * ((gA σ 10 (ix ((p3 * 9) + i8_1))).toInt64)) * (gB σ 4 (ix (p2 ^^^ (iShl 1 i8_1))))) := ⟨_, rfl⟩
        have hw := hw v6 ev6
        refine lv_lstore (lv' := [(4, .long v6), (0, .ref (ad 12)), (1, .ref (ad 20)), (2, .int p2), (3, .int p3), (6, .long i6_1), (8, .int i8_1)]) hx hb dX1_expanded_52 hl (by decide) (by subst ev6; rfl) (fun ls hl => ?_)
        refine lv_lload hx hb dX1_expanded_54 (lv_at hl 5 rfl) ?_
        refine lv_lneg hx hb dX1_expanded_56 ?_
        obtain ⟨v7, ev7⟩ : ∃ z : Int64, z = -i6_1 := ⟨_, rfl⟩
        have hw := hw v7 ev7
        refine lv_lstore (lv' := [(6, .long v7), (4, .long v6), (0, .ref (ad 12)), (1, .ref (ad 20)), (2, .int p2), (3, .int p3), (8, .int i8_1)]) hx hb dX1_expanded_57 hl (by decide) (by subst ev7; rfl) (fun ls hl => ?_)
        refine lv_iinc (v := i8_1 + (-1)) (lv' := [(8, .int (i8_1 + (-1))), (6, .long v7), (4, .long v6), (0, .ref (ad 12)), (1, .ref (ad 20)), (2, .int p2), (3, .int p3)]) hx hb dX1_expanded_59 hl (k := 6) rfl rfl (by decide) rfl (fun ls hl => ?_)
        refine lv_goto (tgt := 10) hx hb dX1_expanded_62 (by decide) ?_
        exact ih1 v6 v7 (i8_1 + (-1)) (Nat.lt_of_lt_of_le hw.2 (Nat.le_of_lt_succ hm1)) hw.1 _ _ ls hP hD hS (lv_sub hl [3, 4, 5, 6, 2, 1, 0] rfl)

set_option maxHeartbeats 4000000 in
set_option maxRecDepth 100000 in
theorem m_X1_expanded_21 (l : Launch) (hfl : l.stackTraces = false) (D : va_G) (ad : Nat → Nat) (cA : Nat → ClassId) (g : gv_T) (p2 : Int32) (p3 : Int32) (σ : Sg) (Q : Int64 → Prop) (hw : w_X1_expanded_21 p2 p3 σ Q) : MC l yX1_expanded cX1_expanded 9 (some .long) (RM 0 0 0 0) D ad cA g [.ref (ad 12), .ref (ad 21), .int p2, .int p3] σ (fun v σ' => ∃ r : Int64, v = some (.long r) ∧ σ' = σ ∧ Q r) (fun _ _ => False) := by
  refine MC.of (plainFor_of_name (by decide +kernel)) (Nat.le_of_ble_eq_true rfl) ?_
  intro p e s m args below meth c A ls hx hb hr hml hown hG hlocks htab hA hS hP hK hD hGV hl
  have hown : s.vm.findClass RX1 = some m.cls := hown
  have hl : lv_has ls 9 [(0, .ref (ad 12)), (1, .ref (ad 21)), (2, .int p2), (3, .int p3)] := hl
  have hSF : CF p m c cX1_expanded 9 s args RX1 := ⟨hx, hb, hml, hown, hG⟩
  refine lv_lconst (v := 0) hx hb dX1_expanded_0 (by decide) ?_
  refine lv_lstore (lv' := [(4, .long 0), (0, .ref (ad 12)), (1, .ref (ad 21)), (2, .int p2), (3, .int p3)]) hx hb dX1_expanded_1 hl (by decide) rfl (fun ls hl => ?_)
  refine lv_lconst (v := 1) hx hb dX1_expanded_3 (by decide) ?_
  refine lv_lstore (lv' := [(6, .long 1), (4, .long 0), (0, .ref (ad 12)), (1, .ref (ad 21)), (2, .int p2), (3, .int p3)]) hx hb dX1_expanded_4 hl (by decide) rfl (fun ls hl => ?_)
  refine lv_bipush (v := 8) hx hb dX1_expanded_6 (by decide) ?_
  refine lv_istore (lv' := [(8, .int 8), (6, .long 1), (4, .long 0), (0, .ref (ad 12)), (1, .ref (ad 21)), (2, .int p2), (3, .int p3)]) hx hb dX1_expanded_8 hl (by decide) rfl (fun ls hl => ?_)
  obtain ⟨I1, μ1, hI1, hw1⟩ := hw
  have hl : lv_has ls 9 [(0, .ref (ad 12)), (1, .ref (ad 21)), (2, .int p2), (3, .int p3), (4, .long 0), (6, .long 1), (8, .int 8)] := lv_sub hl [3, 4, 5, 6, 2, 1, 0] rfl
  suffices key1 : ∀ (n1 : Nat) (i4_1 : Int64) (i6_1 : Int64) (i8_1 : Int32), μ1 i4_1 i6_1 i8_1 < n1 → I1 i4_1 i6_1 i8_1 → ∀ (H : Heap) (locs : List Loc) (ls : Array Slot), va_P D vwCl (WL ad cA σ) H → va_D A (WL ad cA σ) → va_S A s.heap H locs → lv_has ls 9 [(0, .ref (ad 12)), (1, .ref (ad 21)), (2, .int p2), (3, .int p3), (4, .long i4_1), (6, .long i6_1), (8, .int i8_1)] → W p l e (RM 0 0 0 0) s m args below meth c H locs (0) (0) (vx_MQ below (QM D ad cA A (fun v σ' => ∃ r : Int64, v = some (.long r) ∧ σ' = σ ∧ Q r)) (XM D ad cA A (fun _ _ => False)) args s (RM 0 0 0 0).cells (RM 0 0 0 0).slots A) (F0 m 10 ls []) from key1 _ _ _ _ (Nat.lt_succ_self _) hI1 _ _ ls hP hD hS hl
  clear hP hD hS hl
  intro n1
  induction n1 with
  | zero => intro _ _ _ h; exact absurd h (Nat.not_lt_zero _)
  | succ n1 ih1 =>
    intro i4_1 i6_1 i8_1 hm1 hI1 H locs ls hP hD hS hl
    have hw := hw1 i4_1 i6_1 i8_1 hI1
    refine lv_iload hx hb dX1_expanded_10 (lv_at hl 6 rfl) ?_
    refine lv_if_lt (tgt := 65) hx hb dX1_expanded_12 (by decide) (fun k2 => ?_) (fun k2 => ?_)
    · skip
      have hw := hw.1 k2
      refine lv_lload hx hb dX1_expanded_65 (lv_at hl 4 rfl) ?_
      exact vx_ret (m_l ⟨_, rfl, rfl, hw⟩ hx hb hr hlocks hP hD hS (Nat.le_of_ble_eq_true rfl) (Nat.le_of_ble_eq_true rfl) dX1_expanded_67)
    · skip
      have hw := hw.2 k2
      refine lv_iload_n hx hb dX1_expanded_15 rfl (lv_at hl 2 rfl) ?_
      refine lv_iload hx hb dX1_expanded_16 (lv_at hl 6 rfl) ?_
      refine k_ishr (v := iShr p2 i8_1) hx hb dX1_expanded_18 rfl ?_
      refine lv_iconst (v := 1) hx hb dX1_expanded_19 (by decide) ?_
      refine k_iand (v := (iShr p2 i8_1) &&& 1) hx hb dX1_expanded_20 rfl ?_
      refine lv_if_eq (tgt := 59) hx hb dX1_expanded_21 (by decide) (fun k3 => ?_) (fun k3 => ?_)
      · skip
        have hw := hw.1 k3
        refine lv_iinc (v := i8_1 + (-1)) (lv' := [(8, .int (i8_1 + (-1))), (0, .ref (ad 12)), (1, .ref (ad 21)), (2, .int p2), (3, .int p3), (4, .long i4_1), (6, .long i6_1)]) hx hb dX1_expanded_59 hl (k := 6) rfl rfl (by decide) rfl (fun ls hl => ?_)
        refine lv_goto (tgt := 10) hx hb dX1_expanded_62 (by decide) ?_
        exact ih1 i4_1 i6_1 (i8_1 + (-1)) (Nat.lt_of_lt_of_le hw.2 (Nat.le_of_lt_succ hm1)) hw.1 _ _ ls hP hD hS (lv_sub hl [1, 2, 3, 4, 5, 6, 0] rfl)
      · skip
        have hw := hw.2 k3
        refine lv_lload hx hb dX1_expanded_24 (lv_at hl 4 rfl) ?_
        refine lv_lload hx hb dX1_expanded_26 (lv_at hl 5 rfl) ?_
        refine lv_aload_n hx hb dX1_expanded_28 rfl (lv_at hl 0 rfl) ?_
        refine k_get (ci := 3) (C := RX1) (T := TX1) (N := 17) (v := .ref (ad 16)) hx hb hG inX1 hown hK hP 12 wl_12 rfl 6 (by decide) gw148 rfl dX1_expanded_29 ?_
        refine lv_iload_n hx hb dX1_expanded_32 rfl (lv_at hl 3 rfl) ?_
        refine lv_bipush (v := 9) hx hb dX1_expanded_33 (by decide) ?_
        refine k_imul (v := p3 * 9) hx hb dX1_expanded_35 rfl ?_
        refine lv_iload hx hb dX1_expanded_36 (lv_at hl 6 rfl) ?_
        refine k_iadd (v := (p3 * 9) + i8_1) hx hb dX1_expanded_38 rfl ?_
        obtain ⟨hc4, hw⟩ := hw
        refine k_iald (v := gA σ 10 (ix ((p3 * 9) + i8_1))) hx hb hK hP 16 wl_16 (ix ((p3 * 9) + i8_1)) rfl rfl hc4 dX1_expanded_39 ?_
        refine lv_i2l (v := (gA σ 10 (ix ((p3 * 9) + i8_1))).toInt64) hx hb dX1_expanded_40 rfl ?_
        refine k_lmul (v := i6_1 * ((gA σ 10 (ix ((p3 * 9) + i8_1))).toInt64)) hx hb dX1_expanded_41 rfl ?_
        refine lv_aload_n hx hb dX1_expanded_42 rfl (lv_at hl 1 rfl) ?_
        refine lv_iload_n hx hb dX1_expanded_43 rfl (lv_at hl 2 rfl) ?_
        refine lv_iconst (v := 1) hx hb dX1_expanded_44 (by decide) ?_
        refine lv_iload hx hb dX1_expanded_45 (lv_at hl 6 rfl) ?_
        refine k_ishl (v := iShl 1 i8_1) hx hb dX1_expanded_47 rfl ?_
        refine k_ixor (v := p2 ^^^ (iShl 1 i8_1)) hx hb dX1_expanded_48 rfl ?_
        obtain ⟨hc5, hw⟩ := hw
        refine k_lald (v := gB σ 5 (ix (p2 ^^^ (iShl 1 i8_1)))) hx hb hK hP 21 wl_21 (ix (p2 ^^^ (iShl 1 i8_1))) rfl rfl hc5 dX1_expanded_49 ?_
        refine k_lmul (v := (i6_1 * ((gA σ 10 (ix ((p3 * 9) + i8_1))).toInt64)) * (gB σ 5 (ix (p2 ^^^ (iShl 1 i8_1))))) hx hb dX1_expanded_50 rfl ?_
        refine k_ladd (v := i4_1 + ((i6_1 * ((gA σ 10 (ix ((p3 * 9) + i8_1))).toInt64)) * (gB σ 5 (ix (p2 ^^^ (iShl 1 i8_1)))))) hx hb dX1_expanded_51 rfl ?_
        obtain ⟨v6, ev6⟩ : ∃ z : Int64, z = i4_1 + ((i6_1 * ((gA σ 10 (ix ((p3 * 9) + i8_1))).toInt64)) * (gB σ 5 (ix (p2 ^^^ (iShl 1 i8_1))))) := ⟨_, rfl⟩
        have hw := hw v6 ev6
        refine lv_lstore (lv' := [(4, .long v6), (0, .ref (ad 12)), (1, .ref (ad 21)), (2, .int p2), (3, .int p3), (6, .long i6_1), (8, .int i8_1)]) hx hb dX1_expanded_52 hl (by decide) (by subst ev6; rfl) (fun ls hl => ?_)
        refine lv_lload hx hb dX1_expanded_54 (lv_at hl 5 rfl) ?_
        refine lv_lneg hx hb dX1_expanded_56 ?_
        obtain ⟨v7, ev7⟩ : ∃ z : Int64, z = -i6_1 := ⟨_, rfl⟩
        have hw := hw v7 ev7
        refine lv_lstore (lv' := [(6, .long v7), (4, .long v6), (0, .ref (ad 12)), (1, .ref (ad 21)), (2, .int p2), (3, .int p3), (8, .int i8_1)]) hx hb dX1_expanded_57 hl (by decide) (by subst ev7; rfl) (fun ls hl => ?_)
        refine lv_iinc (v := i8_1 + (-1)) (lv' := [(8, .int (i8_1 + (-1))), (6, .long v7), (4, .long v6), (0, .ref (ad 12)), (1, .ref (ad 21)), (2, .int p2), (3, .int p3)]) hx hb dX1_expanded_59 hl (k := 6) rfl rfl (by decide) rfl (fun ls hl => ?_)
        refine lv_goto (tgt := 10) hx hb dX1_expanded_62 (by decide) ?_
        exact ih1 v6 v7 (i8_1 + (-1)) (Nat.lt_of_lt_of_le hw.2 (Nat.le_of_lt_succ hm1)) hw.1 _ _ ls hP hD hS (lv_sub hl [3, 4, 5, 6, 2, 1, 0] rfl)

set_option maxHeartbeats 4000000 in
set_option maxRecDepth 100000 in
theorem m_X1_findDeterminants (l : Launch) (hfl : l.stackTraces = false) (D : va_G) (ad : Nat → Nat) (cA : Nat → ClassId) (g : gv_T) (p1 : Int32) (σ : Sg) (Q : Sg → Prop) (hw : w_X1_findDeterminants p1 σ Q) : MC l yX1_findDeterminants cX1_findDeterminants 4 none (RM 1 0 0 28) D ad cA g [.ref (ad 12), .int p1] σ (fun v σ' => v = none ∧ Q σ') (fun _ _ => False) := by
  refine MC.of (plainFor_of_name (by decide +kernel)) (Nat.le_of_ble_eq_true rfl) ?_
  intro p e s m args below meth c A ls hx hb hr hml hown hG hlocks htab hA hS hP hK hD hGV hl
  have hown : s.vm.findClass RX1 = some m.cls := hown
  have hl : lv_has ls 4 [(0, .ref (ad 12)), (1, .int p1)] := hl
  have hSF : CF p m c cX1_findDeterminants 4 s args RX1 := ⟨hx, hb, hml, hown, hG⟩
  refine lv_iconst (v := 0) hx hb dX1_findDeterminants_0 (by decide) ?_
  refine lv_istore_n (lv' := [(2, .int 0), (0, .ref (ad 12)), (1, .int p1)]) hx hb dX1_findDeterminants_1 rfl hl (by decide) rfl (fun ls hl => ?_)
  obtain ⟨I1, μ1, hI1, hw1⟩ := hw
  have hl : lv_has ls 4 [(0, .ref (ad 12)), (1, .int p1), (2, .int 0)] := lv_sub hl [1, 2, 0] rfl
  suffices key1 : ∀ (n1 : Nat) (i2_1 : Int32) (σ1 : Sg), μ1 i2_1 σ1 < n1 → I1 i2_1 σ1 → ∀ (H : Heap) (locs : List Loc) (ls : Array Slot), va_P D vwCl (WL ad cA σ1) H → va_D A (WL ad cA σ1) → va_S A s.heap H locs → lv_has ls 4 [(0, .ref (ad 12)), (1, .int p1), (2, .int i2_1)] → W p l e (RM 1 0 0 28) s m args below meth c H locs (0) (0) (vx_MQ below (QM D ad cA A (fun v σ' => v = none ∧ Q σ')) (XM D ad cA A (fun _ _ => False)) args s (RM 1 0 0 28).cells (RM 1 0 0 28).slots A) (F0 m 2 ls []) from key1 _ _ _ (Nat.lt_succ_self _) hI1 _ _ ls hP hD hS hl
  clear hP hD hS hl
  intro n1
  induction n1 with
  | zero => intro _ _ h; exact absurd h (Nat.not_lt_zero _)
  | succ n1 ih1 =>
    intro i2_1 σ1 hm1 hI1 H locs ls hP hD hS hl
    have hw := hw1 i2_1 σ1 hI1
    refine lv_iload_n hx hb dX1_findDeterminants_2 rfl (lv_at hl 2 rfl) ?_
    refine lv_iconst (v := 1) hx hb dX1_findDeterminants_3 (by decide) ?_
    refine lv_iload_n hx hb dX1_findDeterminants_4 rfl (lv_at hl 1 rfl) ?_
    refine k_ishl (v := iShl 1 p1) hx hb dX1_findDeterminants_5 rfl ?_
    refine lv_icmp_ge (tgt := 113) hx hb dX1_findDeterminants_6 (by decide) (fun k2 => ?_) (fun k2 => ?_)
    · skip
      have hw := hw.1 k2
      exact vx_ret (m_v ⟨rfl, hw⟩ hx hb hr hlocks hP hD hS (Nat.le_of_ble_eq_true rfl) (Nat.le_of_ble_eq_true rfl) dX1_findDeterminants_113)
    · skip
      have hw := hw.2 k2
      refine lv_iload_n hx hb dX1_findDeterminants_9 rfl (lv_at hl 2 rfl) ?_
      refine mc_S hSF hl.1 hP hD hS hA hK hGV (m_J6_bitCount_0f7a4 l hfl D ad cA g i2_1 σ1 _ hw) goS_X1_119 pd_J6_bitCount_0f7a4.2 ⟨(Nat.le_of_ble_eq_true rfl), (Nat.le_of_ble_eq_true rfl)⟩ ⟨(Nat.le_of_ble_eq_true rfl), (Nat.le_of_ble_eq_true rfl)⟩ dX1_findDeterminants_10 rfl (Nat.le_of_ble_eq_true rfl) (fun v9 σ9 H locs hq hP hD hS => ?_) (fun _ _ _ _ _ _ h => h.elim)
      obtain ⟨r3, hv9, hs9, hw⟩ := hq
      subst hv9
      subst σ9
      refine W.eq (g2 := F0 m 13 ls [.int r3]) rfl ?_
      refine W.widen (k := 0) (n := 0) (Nat.le_refl _) (Nat.le_refl _) ?_
      refine lv_istore_n (lv' := [(3, .int r3), (0, .ref (ad 12)), (1, .int p1), (2, .int i2_1)]) hx hb dX1_findDeterminants_13 rfl hl (by decide) rfl (fun ls hl => ?_)
      refine lv_aload_n hx hb dX1_findDeterminants_14 rfl (lv_at hl 1 rfl) ?_
      refine k_get (ci := 3) (C := RX1) (T := TX1) (N := 17) (v := .ref (ad 19)) hx hb hG inX1 hown hK hP 12 wl_12 rfl 9 (by decide) gw151 rfl dX1_findDeterminants_15 ?_
      refine lv_iload_n hx hb dX1_findDeterminants_18 rfl (lv_at hl 3 rfl) ?_
      refine lv_iload_n hx hb dX1_findDeterminants_19 rfl (lv_at hl 3 rfl) ?_
      refine lv_if_ne (tgt := 27) hx hb dX1_findDeterminants_20 (by decide) (fun k4 => ?_) (fun k4 => ?_)
      · skip
        have hw := hw.1 k4
        refine lv_aload_n hx hb dX1_findDeterminants_27 rfl (lv_at hl 1 rfl) ?_
        refine lv_aload_n hx hb dX1_findDeterminants_28 rfl (lv_at hl 1 rfl) ?_
        refine k_get (ci := 3) (C := RX1) (T := TX1) (N := 17) (v := .ref (ad 19)) hx hb hG inX1 hown hK hP 12 wl_12 rfl 9 (by decide) gw151 rfl dX1_findDeterminants_29 ?_
        refine lv_iload_n hx hb dX1_findDeterminants_32 rfl (lv_at hl 3 rfl) ?_
        refine lv_iload_n hx hb dX1_findDeterminants_33 rfl (lv_at hl 0 rfl) ?_
        refine lv_iconst (v := 1) hx hb dX1_findDeterminants_34 (by decide) ?_
        refine k_isub (v := r3 - 1) hx hb dX1_findDeterminants_35 rfl ?_
        refine mc_V hSF hl.1 hP hD hS hA hK hGV (m_X1_expanded_19 l hfl D ad cA g i2_1 (r3 - 1) σ1 _ hw) goV_X1_125 pd_X1_expanded ⟨(Nat.le_of_ble_eq_true rfl), (Nat.le_of_ble_eq_true rfl)⟩ ⟨(Nat.le_of_ble_eq_true rfl), (Nat.le_of_ble_eq_true rfl)⟩ (va_recv hK hP (ci := 3) (q0 := 12) rfl wl_12) dX1_findDeterminants_36 rfl (Nat.le_of_ble_eq_true rfl) (fun v9 σ9 H locs hq hP hD hS => ?_) (fun _ _ _ _ _ _ h => h.elim)
        obtain ⟨r5, hv9, hs9, hw⟩ := hq
        subst hv9
        subst σ9
        refine W.eq (g2 := F0 m 39 ls [.long r5, .int i2_1, .ref (ad 19)]) rfl ?_
        refine W.widen (k := 0) (n := 0) (Nat.le_refl _) (Nat.le_refl _) ?_
        obtain ⟨hc6, hw⟩ := hw
        obtain ⟨σ7, eσ7⟩ : ∃ z : Sg, z = sB σ1 3 (ix i2_1) r5 := ⟨_, rfl⟩
        have hw := hw σ7 eσ7
        refine k_last (ws1 := WL ad cA σ7) hx hb hK hP hD hS 19 wl_19 (ws_19 eσ7) hc6 dX1_findDeterminants_39 (fun H locs hP hD hS => ?_)
        refine lv_iload_n hx hb dX1_findDeterminants_40 rfl (lv_at hl 0 rfl) ?_
        refine lv_iload_n hx hb dX1_findDeterminants_41 rfl (lv_at hl 2 rfl) ?_
        refine lv_icmp_ge (tgt := 107) hx hb dX1_findDeterminants_42 (by decide) (fun k8 => ?_) (fun k8 => ?_)
        · skip
          have hw := hw.1 k8
          refine lv_iinc (v := i2_1 + 1) (lv' := [(2, .int (i2_1 + 1)), (3, .int r3), (0, .ref (ad 12)), (1, .int p1)]) hx hb dX1_findDeterminants_107 hl (k := 3) rfl rfl (by decide) rfl (fun ls hl => ?_)
          refine lv_goto (tgt := 2) hx hb dX1_findDeterminants_110 (by decide) ?_
          exact ih1 (i2_1 + 1) σ7 (Nat.lt_of_lt_of_le hw.2 (Nat.le_of_lt_succ hm1)) hw.1 _ _ ls hP hD hS (lv_sub hl [2, 3, 0] rfl)
        · skip
          have hw := hw.2 k8
          refine lv_aload_n hx hb dX1_findDeterminants_45 rfl (lv_at hl 1 rfl) ?_
          refine k_get (ci := 3) (C := RX1) (T := TX1) (N := 17) (v := .ref (ad 20)) hx hb hG inX1 hown hK hP 12 wl_12 rfl 10 (by decide) gw152 rfl dX1_findDeterminants_46 ?_
          refine lv_iload_n hx hb dX1_findDeterminants_49 rfl (lv_at hl 3 rfl) ?_
          refine lv_aload_n hx hb dX1_findDeterminants_50 rfl (lv_at hl 1 rfl) ?_
          refine k_get (ci := 3) (C := RX1) (T := TX1) (N := 17) (v := .ref (ad 17)) hx hb hG inX1 hown hK hP 12 wl_12 rfl 7 (by decide) gw149 rfl dX1_findDeterminants_51 ?_
          refine lv_iload_n hx hb dX1_findDeterminants_54 rfl (lv_at hl 0 rfl) ?_
          obtain ⟨hc9, hw⟩ := hw
          refine k_iald (v := gA σ7 11 (ix r3)) hx hb hK hP 17 wl_17 (ix r3) rfl rfl hc9 dX1_findDeterminants_55 ?_
          refine lv_i2l (v := (gA σ7 11 (ix r3)).toInt64) hx hb dX1_findDeterminants_56 rfl ?_
          refine lv_aload_n hx hb dX1_findDeterminants_57 rfl (lv_at hl 1 rfl) ?_
          refine k_get (ci := 3) (C := RX1) (T := TX1) (N := 17) (v := .ref (ad 19)) hx hb hG inX1 hown hK hP 12 wl_12 rfl 9 (by decide) gw151 rfl dX1_findDeterminants_58 ?_
          refine lv_iload_n hx hb dX1_findDeterminants_61 rfl (lv_at hl 3 rfl) ?_
          obtain ⟨hc10, hw⟩ := hw
          refine k_lald (v := gB σ7 3 (ix i2_1)) hx hb hK hP 19 wl_19 (ix i2_1) rfl rfl hc10 dX1_findDeterminants_62 ?_
          refine k_lmul (v := ((gA σ7 11 (ix r3)).toInt64) * (gB σ7 3 (ix i2_1))) hx hb dX1_findDeterminants_63 rfl ?_
          refine lv_aload_n hx hb dX1_findDeterminants_64 rfl (lv_at hl 1 rfl) ?_
          refine lv_aload_n hx hb dX1_findDeterminants_65 rfl (lv_at hl 1 rfl) ?_
          refine k_get (ci := 3) (C := RX1) (T := TX1) (N := 17) (v := .ref (ad 20)) hx hb hG inX1 hown hK hP 12 wl_12 rfl 10 (by decide) gw152 rfl dX1_findDeterminants_66 ?_
          refine lv_iload_n hx hb dX1_findDeterminants_69 rfl (lv_at hl 3 rfl) ?_
          refine lv_iload_n hx hb dX1_findDeterminants_70 rfl (lv_at hl 0 rfl) ?_
          refine mc_V hSF hl.1 hP hD hS hA hK hGV (m_X1_expanded_20 l hfl D ad cA g i2_1 r3 σ7 _ hw) goV_X1_125 pd_X1_expanded ⟨(Nat.le_of_ble_eq_true rfl), (Nat.le_of_ble_eq_true rfl)⟩ ⟨(Nat.le_of_ble_eq_true rfl), (Nat.le_of_ble_eq_true rfl)⟩ (va_recv hK hP (ci := 3) (q0 := 12) rfl wl_12) dX1_findDeterminants_71 rfl (Nat.le_of_ble_eq_true rfl) (fun v9 σ9 H locs hq hP hD hS => ?_) (fun _ _ _ _ _ _ h => h.elim)
          obtain ⟨r11, hv9, hs9, hw⟩ := hq
          subst hv9
          subst σ9
          refine W.eq (g2 := F0 m 74 ls [.long r11, .long (((gA σ7 11 (ix r3)).toInt64) * (gB σ7 3 (ix i2_1))), .int i2_1, .ref (ad 20)]) rfl ?_
          refine W.widen (k := 0) (n := 0) (Nat.le_refl _) (Nat.le_refl _) ?_
          refine k_lsub (v := (((gA σ7 11 (ix r3)).toInt64) * (gB σ7 3 (ix i2_1))) - r11) hx hb dX1_findDeterminants_74 rfl ?_
          obtain ⟨hc12, hw⟩ := hw
          obtain ⟨σ13, eσ13⟩ : ∃ z : Sg, z = sB σ7 4 (ix i2_1) ((((gA σ7 11 (ix r3)).toInt64) * (gB σ7 3 (ix i2_1))) - r11) := ⟨_, rfl⟩
          have hw := hw σ13 eσ13
          refine k_last (ws1 := WL ad cA σ13) hx hb hK hP hD hS 20 wl_20 (ws_20 eσ13) hc12 dX1_findDeterminants_75 (fun H locs hP hD hS => ?_)
          refine lv_aload_n hx hb dX1_findDeterminants_76 rfl (lv_at hl 1 rfl) ?_
          refine k_get (ci := 3) (C := RX1) (T := TX1) (N := 17) (v := .ref (ad 21)) hx hb hG inX1 hown hK hP 12 wl_12 rfl 11 (by decide) gw153 rfl dX1_findDeterminants_77 ?_
          refine lv_iload_n hx hb dX1_findDeterminants_80 rfl (lv_at hl 3 rfl) ?_
          refine lv_aload_n hx hb dX1_findDeterminants_81 rfl (lv_at hl 1 rfl) ?_
          refine k_get (ci := 3) (C := RX1) (T := TX1) (N := 17) (v := .ref (ad 18)) hx hb hG inX1 hown hK hP 12 wl_12 rfl 8 (by decide) gw150 rfl dX1_findDeterminants_82 ?_
          refine lv_iload_n hx hb dX1_findDeterminants_85 rfl (lv_at hl 0 rfl) ?_
          obtain ⟨hc14, hw⟩ := hw
          refine k_iald (v := gA σ13 12 (ix r3)) hx hb hK hP 18 wl_18 (ix r3) rfl rfl hc14 dX1_findDeterminants_86 ?_
          refine lv_i2l (v := (gA σ13 12 (ix r3)).toInt64) hx hb dX1_findDeterminants_87 rfl ?_
          refine lv_aload_n hx hb dX1_findDeterminants_88 rfl (lv_at hl 1 rfl) ?_
          refine k_get (ci := 3) (C := RX1) (T := TX1) (N := 17) (v := .ref (ad 19)) hx hb hG inX1 hown hK hP 12 wl_12 rfl 9 (by decide) gw151 rfl dX1_findDeterminants_89 ?_
          refine lv_iload_n hx hb dX1_findDeterminants_92 rfl (lv_at hl 3 rfl) ?_
          obtain ⟨hc15, hw⟩ := hw
          refine k_lald (v := gB σ13 3 (ix i2_1)) hx hb hK hP 19 wl_19 (ix i2_1) rfl rfl hc15 dX1_findDeterminants_93 ?_
          refine k_lmul (v := ((gA σ13 12 (ix r3)).toInt64) * (gB σ13 3 (ix i2_1))) hx hb dX1_findDeterminants_94 rfl ?_
          refine lv_aload_n hx hb dX1_findDeterminants_95 rfl (lv_at hl 1 rfl) ?_
          refine lv_aload_n hx hb dX1_findDeterminants_96 rfl (lv_at hl 1 rfl) ?_
          refine k_get (ci := 3) (C := RX1) (T := TX1) (N := 17) (v := .ref (ad 21)) hx hb hG inX1 hown hK hP 12 wl_12 rfl 11 (by decide) gw153 rfl dX1_findDeterminants_97 ?_
          refine lv_iload_n hx hb dX1_findDeterminants_100 rfl (lv_at hl 3 rfl) ?_
          refine lv_iload_n hx hb dX1_findDeterminants_101 rfl (lv_at hl 0 rfl) ?_
          refine mc_V hSF hl.1 hP hD hS hA hK hGV (m_X1_expanded_21 l hfl D ad cA g i2_1 r3 σ13 _ hw) goV_X1_125 pd_X1_expanded ⟨(Nat.le_of_ble_eq_true rfl), (Nat.le_of_ble_eq_true rfl)⟩ ⟨(Nat.le_of_ble_eq_true rfl), (Nat.le_of_ble_eq_true rfl)⟩ (va_recv hK hP (ci := 3) (q0 := 12) rfl wl_12) dX1_findDeterminants_102 rfl (Nat.le_of_ble_eq_true rfl) (fun v9 σ9 H locs hq hP hD hS => ?_) (fun _ _ _ _ _ _ h => h.elim)
          obtain ⟨r16, hv9, hs9, hw⟩ := hq
          subst hv9
          subst σ9
          refine W.eq (g2 := F0 m 105 ls [.long r16, .long (((gA σ13 12 (ix r3)).toInt64) * (gB σ13 3 (ix i2_1))), .int i2_1, .ref (ad 21)]) rfl ?_
          refine W.widen (k := 0) (n := 0) (Nat.le_refl _) (Nat.le_refl _) ?_
          refine k_lsub (v := (((gA σ13 12 (ix r3)).toInt64) * (gB σ13 3 (ix i2_1))) - r16) hx hb dX1_findDeterminants_105 rfl ?_
          obtain ⟨hc17, hw⟩ := hw
          obtain ⟨σ18, eσ18⟩ : ∃ z : Sg, z = sB σ13 5 (ix i2_1) ((((gA σ13 12 (ix r3)).toInt64) * (gB σ13 3 (ix i2_1))) - r16) := ⟨_, rfl⟩
          have hw := hw σ18 eσ18
          refine k_last (ws1 := WL ad cA σ18) hx hb hK hP hD hS 21 wl_21 (ws_21 eσ18) hc17 dX1_findDeterminants_106 (fun H locs hP hD hS => ?_)
          refine lv_iinc (v := i2_1 + 1) (lv' := [(2, .int (i2_1 + 1)), (3, .int r3), (0, .ref (ad 12)), (1, .int p1)]) hx hb dX1_findDeterminants_107 hl (k := 3) rfl rfl (by decide) rfl (fun ls hl => ?_)
          refine lv_goto (tgt := 2) hx hb dX1_findDeterminants_110 (by decide) ?_
          exact ih1 (i2_1 + 1) σ18 (Nat.lt_of_lt_of_le hw.2 (Nat.le_of_lt_succ hm1)) hw.1 _ _ ls hP hD hS (lv_sub hl [2, 3, 0] rfl)
      · skip
        have hw := hw.2 k4
        refine lv_lconst (v := 1) hx hb dX1_findDeterminants_23 (by decide) ?_
        refine lv_goto (tgt := 39) hx hb dX1_findDeterminants_24 (by decide) ?_
        obtain ⟨hc19, hw⟩ := hw
        obtain ⟨σ20, eσ20⟩ : ∃ z : Sg, z = sB σ1 3 (ix i2_1) 1 := ⟨_, rfl⟩
        have hw := hw σ20 eσ20
        refine k_last (ws1 := WL ad cA σ20) hx hb hK hP hD hS 19 wl_19 (ws_19 eσ20) hc19 dX1_findDeterminants_39 (fun H locs hP hD hS => ?_)
        refine lv_iload_n hx hb dX1_findDeterminants_40 rfl (lv_at hl 0 rfl) ?_
        refine lv_iload_n hx hb dX1_findDeterminants_41 rfl (lv_at hl 2 rfl) ?_
        refine lv_icmp_ge (tgt := 107) hx hb dX1_findDeterminants_42 (by decide) (fun k21 => ?_) (fun k21 => ?_)
        · skip
          have hw := hw.1 k21
          refine lv_iinc (v := i2_1 + 1) (lv' := [(2, .int (i2_1 + 1)), (3, .int r3), (0, .ref (ad 12)), (1, .int p1)]) hx hb dX1_findDeterminants_107 hl (k := 3) rfl rfl (by decide) rfl (fun ls hl => ?_)
          refine lv_goto (tgt := 2) hx hb dX1_findDeterminants_110 (by decide) ?_
          exact ih1 (i2_1 + 1) σ20 (Nat.lt_of_lt_of_le hw.2 (Nat.le_of_lt_succ hm1)) hw.1 _ _ ls hP hD hS (lv_sub hl [2, 3, 0] rfl)
        · skip
          have hw := hw.2 k21
          refine lv_aload_n hx hb dX1_findDeterminants_45 rfl (lv_at hl 1 rfl) ?_
          refine k_get (ci := 3) (C := RX1) (T := TX1) (N := 17) (v := .ref (ad 20)) hx hb hG inX1 hown hK hP 12 wl_12 rfl 10 (by decide) gw152 rfl dX1_findDeterminants_46 ?_
          refine lv_iload_n hx hb dX1_findDeterminants_49 rfl (lv_at hl 3 rfl) ?_
          refine lv_aload_n hx hb dX1_findDeterminants_50 rfl (lv_at hl 1 rfl) ?_
          refine k_get (ci := 3) (C := RX1) (T := TX1) (N := 17) (v := .ref (ad 17)) hx hb hG inX1 hown hK hP 12 wl_12 rfl 7 (by decide) gw149 rfl dX1_findDeterminants_51 ?_
          refine lv_iload_n hx hb dX1_findDeterminants_54 rfl (lv_at hl 0 rfl) ?_
          obtain ⟨hc22, hw⟩ := hw
          refine k_iald (v := gA σ20 11 (ix r3)) hx hb hK hP 17 wl_17 (ix r3) rfl rfl hc22 dX1_findDeterminants_55 ?_
          refine lv_i2l (v := (gA σ20 11 (ix r3)).toInt64) hx hb dX1_findDeterminants_56 rfl ?_
          refine lv_aload_n hx hb dX1_findDeterminants_57 rfl (lv_at hl 1 rfl) ?_
          refine k_get (ci := 3) (C := RX1) (T := TX1) (N := 17) (v := .ref (ad 19)) hx hb hG inX1 hown hK hP 12 wl_12 rfl 9 (by decide) gw151 rfl dX1_findDeterminants_58 ?_
          refine lv_iload_n hx hb dX1_findDeterminants_61 rfl (lv_at hl 3 rfl) ?_
          obtain ⟨hc23, hw⟩ := hw
          refine k_lald (v := gB σ20 3 (ix i2_1)) hx hb hK hP 19 wl_19 (ix i2_1) rfl rfl hc23 dX1_findDeterminants_62 ?_
          refine k_lmul (v := ((gA σ20 11 (ix r3)).toInt64) * (gB σ20 3 (ix i2_1))) hx hb dX1_findDeterminants_63 rfl ?_
          refine lv_aload_n hx hb dX1_findDeterminants_64 rfl (lv_at hl 1 rfl) ?_
          refine lv_aload_n hx hb dX1_findDeterminants_65 rfl (lv_at hl 1 rfl) ?_
          refine k_get (ci := 3) (C := RX1) (T := TX1) (N := 17) (v := .ref (ad 20)) hx hb hG inX1 hown hK hP 12 wl_12 rfl 10 (by decide) gw152 rfl dX1_findDeterminants_66 ?_
          refine lv_iload_n hx hb dX1_findDeterminants_69 rfl (lv_at hl 3 rfl) ?_
          refine lv_iload_n hx hb dX1_findDeterminants_70 rfl (lv_at hl 0 rfl) ?_
          refine mc_V hSF hl.1 hP hD hS hA hK hGV (m_X1_expanded_20 l hfl D ad cA g i2_1 r3 σ20 _ hw) goV_X1_125 pd_X1_expanded ⟨(Nat.le_of_ble_eq_true rfl), (Nat.le_of_ble_eq_true rfl)⟩ ⟨(Nat.le_of_ble_eq_true rfl), (Nat.le_of_ble_eq_true rfl)⟩ (va_recv hK hP (ci := 3) (q0 := 12) rfl wl_12) dX1_findDeterminants_71 rfl (Nat.le_of_ble_eq_true rfl) (fun v9 σ9 H locs hq hP hD hS => ?_) (fun _ _ _ _ _ _ h => h.elim)
          obtain ⟨r24, hv9, hs9, hw⟩ := hq
          subst hv9
          subst σ9
          refine W.eq (g2 := F0 m 74 ls [.long r24, .long (((gA σ20 11 (ix r3)).toInt64) * (gB σ20 3 (ix i2_1))), .int i2_1, .ref (ad 20)]) rfl ?_
          refine W.widen (k := 0) (n := 0) (Nat.le_refl _) (Nat.le_refl _) ?_
          refine k_lsub (v := (((gA σ20 11 (ix r3)).toInt64) * (gB σ20 3 (ix i2_1))) - r24) hx hb dX1_findDeterminants_74 rfl ?_
          obtain ⟨hc25, hw⟩ := hw
          obtain ⟨σ26, eσ26⟩ : ∃ z : Sg, z = sB σ20 4 (ix i2_1) ((((gA σ20 11 (ix r3)).toInt64) * (gB σ20 3 (ix i2_1))) - r24) := ⟨_, rfl⟩
          have hw := hw σ26 eσ26
          refine k_last (ws1 := WL ad cA σ26) hx hb hK hP hD hS 20 wl_20 (ws_20 eσ26) hc25 dX1_findDeterminants_75 (fun H locs hP hD hS => ?_)
          refine lv_aload_n hx hb dX1_findDeterminants_76 rfl (lv_at hl 1 rfl) ?_
          refine k_get (ci := 3) (C := RX1) (T := TX1) (N := 17) (v := .ref (ad 21)) hx hb hG inX1 hown hK hP 12 wl_12 rfl 11 (by decide) gw153 rfl dX1_findDeterminants_77 ?_
          refine lv_iload_n hx hb dX1_findDeterminants_80 rfl (lv_at hl 3 rfl) ?_
          refine lv_aload_n hx hb dX1_findDeterminants_81 rfl (lv_at hl 1 rfl) ?_
          refine k_get (ci := 3) (C := RX1) (T := TX1) (N := 17) (v := .ref (ad 18)) hx hb hG inX1 hown hK hP 12 wl_12 rfl 8 (by decide) gw150 rfl dX1_findDeterminants_82 ?_
          refine lv_iload_n hx hb dX1_findDeterminants_85 rfl (lv_at hl 0 rfl) ?_
          obtain ⟨hc27, hw⟩ := hw
          refine k_iald (v := gA σ26 12 (ix r3)) hx hb hK hP 18 wl_18 (ix r3) rfl rfl hc27 dX1_findDeterminants_86 ?_
          refine lv_i2l (v := (gA σ26 12 (ix r3)).toInt64) hx hb dX1_findDeterminants_87 rfl ?_
          refine lv_aload_n hx hb dX1_findDeterminants_88 rfl (lv_at hl 1 rfl) ?_
          refine k_get (ci := 3) (C := RX1) (T := TX1) (N := 17) (v := .ref (ad 19)) hx hb hG inX1 hown hK hP 12 wl_12 rfl 9 (by decide) gw151 rfl dX1_findDeterminants_89 ?_
          refine lv_iload_n hx hb dX1_findDeterminants_92 rfl (lv_at hl 3 rfl) ?_
          obtain ⟨hc28, hw⟩ := hw
          refine k_lald (v := gB σ26 3 (ix i2_1)) hx hb hK hP 19 wl_19 (ix i2_1) rfl rfl hc28 dX1_findDeterminants_93 ?_
          refine k_lmul (v := ((gA σ26 12 (ix r3)).toInt64) * (gB σ26 3 (ix i2_1))) hx hb dX1_findDeterminants_94 rfl ?_
          refine lv_aload_n hx hb dX1_findDeterminants_95 rfl (lv_at hl 1 rfl) ?_
          refine lv_aload_n hx hb dX1_findDeterminants_96 rfl (lv_at hl 1 rfl) ?_
          refine k_get (ci := 3) (C := RX1) (T := TX1) (N := 17) (v := .ref (ad 21)) hx hb hG inX1 hown hK hP 12 wl_12 rfl 11 (by decide) gw153 rfl dX1_findDeterminants_97 ?_
          refine lv_iload_n hx hb dX1_findDeterminants_100 rfl (lv_at hl 3 rfl) ?_
          refine lv_iload_n hx hb dX1_findDeterminants_101 rfl (lv_at hl 0 rfl) ?_
          refine mc_V hSF hl.1 hP hD hS hA hK hGV (m_X1_expanded_21 l hfl D ad cA g i2_1 r3 σ26 _ hw) goV_X1_125 pd_X1_expanded ⟨(Nat.le_of_ble_eq_true rfl), (Nat.le_of_ble_eq_true rfl)⟩ ⟨(Nat.le_of_ble_eq_true rfl), (Nat.le_of_ble_eq_true rfl)⟩ (va_recv hK hP (ci := 3) (q0 := 12) rfl wl_12) dX1_findDeterminants_102 rfl (Nat.le_of_ble_eq_true rfl) (fun v9 σ9 H locs hq hP hD hS => ?_) (fun _ _ _ _ _ _ h => h.elim)
          obtain ⟨r29, hv9, hs9, hw⟩ := hq
          subst hv9
          subst σ9
          refine W.eq (g2 := F0 m 105 ls [.long r29, .long (((gA σ26 12 (ix r3)).toInt64) * (gB σ26 3 (ix i2_1))), .int i2_1, .ref (ad 21)]) rfl ?_
          refine W.widen (k := 0) (n := 0) (Nat.le_refl _) (Nat.le_refl _) ?_
          refine k_lsub (v := (((gA σ26 12 (ix r3)).toInt64) * (gB σ26 3 (ix i2_1))) - r29) hx hb dX1_findDeterminants_105 rfl ?_
          obtain ⟨hc30, hw⟩ := hw
          obtain ⟨σ31, eσ31⟩ : ∃ z : Sg, z = sB σ26 5 (ix i2_1) ((((gA σ26 12 (ix r3)).toInt64) * (gB σ26 3 (ix i2_1))) - r29) := ⟨_, rfl⟩
          have hw := hw σ31 eσ31
          refine k_last (ws1 := WL ad cA σ31) hx hb hK hP hD hS 21 wl_21 (ws_21 eσ31) hc30 dX1_findDeterminants_106 (fun H locs hP hD hS => ?_)
          refine lv_iinc (v := i2_1 + 1) (lv' := [(2, .int (i2_1 + 1)), (3, .int r3), (0, .ref (ad 12)), (1, .int p1)]) hx hb dX1_findDeterminants_107 hl (k := 3) rfl rfl (by decide) rfl (fun ls hl => ?_)
          refine lv_goto (tgt := 2) hx hb dX1_findDeterminants_110 (by decide) ?_
          exact ih1 (i2_1 + 1) σ31 (Nat.lt_of_lt_of_le hw.2 (Nat.le_of_lt_succ hm1)) hw.1 _ _ ls hP hD hS (lv_sub hl [2, 3, 0] rfl)

set_option maxHeartbeats 4000000 in
set_option maxRecDepth 100000 in
theorem m_J9_floorDiv_f86c9 (l : Launch) (hfl : l.stackTraces = false) (D : va_G) (ad : Nat → Nat) (cA : Nat → ClassId) (g : gv_T) (p0 : Int64) (p1 : Int64) (σ : Sg) (Q : Int64 → Prop) (hw : w_J9_floorDiv_f86c9 p0 p1 σ Q) : MC l yJ9_floorDiv_f86c9 cJ9_floorDiv_f86c9 6 (some .long) (RM 0 0 0 0) D ad cA g [.long p0, .long p1] σ (fun v σ' => ∃ r : Int64, v = some (.long r) ∧ σ' = σ ∧ Q r) (fun _ _ => False) := by
  refine MC.of (by decide +kernel) (Nat.le_of_ble_eq_true rfl) ?_
  intro p e s m args below meth c A ls hx hb hr hml hown hG hlocks htab hA hS hP hK hD hGV hl
  have hown : s.vm.findClass RJ9 = some m.cls := hown
  have hl : lv_has ls 6 [(0, .long p0), (2, .long p1)] := hl
  have hSF : CF p m c cJ9_floorDiv_f86c9 6 s args RJ9 := ⟨hx, hb, hml, hown, hG⟩
  refine lv_lload_n hx hb dJ9_floorDiv_f86c9_0 rfl (lv_at hl 0 rfl) ?_
  refine lv_lload_n hx hb dJ9_floorDiv_f86c9_1 rfl (lv_at hl 1 rfl) ?_
  obtain ⟨hc1, hw⟩ := hw
  refine k_ldiv (v := p0 / p1) hx hb dJ9_floorDiv_f86c9_2 hc1 rfl ?_
  obtain ⟨v2, ev2⟩ : ∃ z : Int64, z = p0 / p1 := ⟨_, rfl⟩
  have hw := hw v2 ev2
  refine lv_lstore (lv' := [(4, .long v2), (0, .long p0), (2, .long p1)]) hx hb dJ9_floorDiv_f86c9_3 hl (by decide) (by subst ev2; rfl) (fun ls hl => ?_)
  refine lv_lload_n hx hb dJ9_floorDiv_f86c9_5 rfl (lv_at hl 1 rfl) ?_
  refine lv_lload_n hx hb dJ9_floorDiv_f86c9_6 rfl (lv_at hl 2 rfl) ?_
  refine lv_lxor hx hb dJ9_floorDiv_f86c9_7 ?_
  refine lv_lconst (v := 0) hx hb dJ9_floorDiv_f86c9_8 (by decide) ?_
  refine k_lcmp (v := lg_cmp (p0 ^^^ p1) 0) hx hb dJ9_floorDiv_f86c9_9 rfl ?_
  refine lv_if_ge (tgt := 27) hx hb dJ9_floorDiv_f86c9_10 (by decide) (fun k3 => ?_) (fun k3 => ?_)
  · skip
    have hw := hw.1 (lc_ge.mp k3)
    refine lv_lload hx hb dJ9_floorDiv_f86c9_27 (lv_at hl 0 rfl) ?_
    exact vx_ret (m_l ⟨_, rfl, rfl, hw⟩ hx hb hr hlocks hP hD hS (Nat.le_of_ble_eq_true rfl) (Nat.le_of_ble_eq_true rfl) dJ9_floorDiv_f86c9_29)
  · skip
    have hw := hw.2 (fun q9 => k3 (lc_ge.mpr q9))
    refine lv_lload hx hb dJ9_floorDiv_f86c9_13 (lv_at hl 0 rfl) ?_
    refine lv_lload_n hx hb dJ9_floorDiv_f86c9_15 rfl (lv_at hl 2 rfl) ?_
    refine k_lmul (v := v2 * p1) hx hb dJ9_floorDiv_f86c9_16 rfl ?_
    refine lv_lload_n hx hb dJ9_floorDiv_f86c9_17 rfl (lv_at hl 1 rfl) ?_
    refine k_lcmp (v := lg_cmp (v2 * p1) p0) hx hb dJ9_floorDiv_f86c9_18 rfl ?_
    refine lv_if_eq (tgt := 27) hx hb dJ9_floorDiv_f86c9_19 (by decide) (fun k4 => ?_) (fun k4 => ?_)
    · skip
      have hw := hw.1 (lc_eq.mp k4)
      refine lv_lload hx hb dJ9_floorDiv_f86c9_27 (lv_at hl 0 rfl) ?_
      exact vx_ret (m_l ⟨_, rfl, rfl, hw⟩ hx hb hr hlocks hP hD hS (Nat.le_of_ble_eq_true rfl) (Nat.le_of_ble_eq_true rfl) dJ9_floorDiv_f86c9_29)
    · skip
      have hw := hw.2 (fun q9 => k4 (lc_eq.mpr q9))
      refine lv_lload hx hb dJ9_floorDiv_f86c9_22 (lv_at hl 0 rfl) ?_
      refine lv_lconst (v := 1) hx hb dJ9_floorDiv_f86c9_24 (by decide) ?_
      refine k_lsub (v := v2 - 1) hx hb dJ9_floorDiv_f86c9_25 rfl ?_
      exact vx_ret (m_l ⟨_, rfl, rfl, hw⟩ hx hb hr hlocks hP hD hS (Nat.le_of_ble_eq_true rfl) (Nat.le_of_ble_eq_true rfl) dJ9_floorDiv_f86c9_26)

set_option maxHeartbeats 4000000 in
set_option maxRecDepth 100000 in
theorem m_J9_floorMod_f86c9 (l : Launch) (hfl : l.stackTraces = false) (D : va_G) (ad : Nat → Nat) (cA : Nat → ClassId) (g : gv_T) (p0 : Int64) (p1 : Int64) (σ : Sg) (Q : Int64 → Prop) (hw : w_J9_floorMod_f86c9 p0 p1 σ Q) : MC l yJ9_floorMod_f86c9 cJ9_floorMod_f86c9 6 (some .long) (RM 0 0 0 0) D ad cA g [.long p0, .long p1] σ (fun v σ' => ∃ r : Int64, v = some (.long r) ∧ σ' = σ ∧ Q r) (fun _ _ => False) := by
  refine MC.of (by decide +kernel) (Nat.le_of_ble_eq_true rfl) ?_
  intro p e s m args below meth c A ls hx hb hr hml hown hG hlocks htab hA hS hP hK hD hGV hl
  have hown : s.vm.findClass RJ9 = some m.cls := hown
  have hl : lv_has ls 6 [(0, .long p0), (2, .long p1)] := hl
  have hSF : CF p m c cJ9_floorMod_f86c9 6 s args RJ9 := ⟨hx, hb, hml, hown, hG⟩
  refine lv_lload_n hx hb dJ9_floorMod_f86c9_0 rfl (lv_at hl 0 rfl) ?_
  refine lv_lload_n hx hb dJ9_floorMod_f86c9_1 rfl (lv_at hl 1 rfl) ?_
  obtain ⟨hc1, hw⟩ := hw
  refine k_lrem (v := lRem p0 p1) hx hb dJ9_floorMod_f86c9_2 hc1 rfl ?_
  obtain ⟨v2, ev2⟩ : ∃ z : Int64, z = lRem p0 p1 := ⟨_, rfl⟩
  have hw := hw v2 ev2
  refine lv_lstore (lv' := [(4, .long v2), (0, .long p0), (2, .long p1)]) hx hb dJ9_floorMod_f86c9_3 hl (by decide) (by subst ev2; rfl) (fun ls hl => ?_)
  refine lv_lload_n hx hb dJ9_floorMod_f86c9_5 rfl (lv_at hl 1 rfl) ?_
  refine lv_lload_n hx hb dJ9_floorMod_f86c9_6 rfl (lv_at hl 2 rfl) ?_
  refine lv_lxor hx hb dJ9_floorMod_f86c9_7 ?_
  refine lv_lconst (v := 0) hx hb dJ9_floorMod_f86c9_8 (by decide) ?_
  refine k_lcmp (v := lg_cmp (p0 ^^^ p1) 0) hx hb dJ9_floorMod_f86c9_9 rfl ?_
  refine lv_if_ge (tgt := 25) hx hb dJ9_floorMod_f86c9_10 (by decide) (fun k3 => ?_) (fun k3 => ?_)
  · skip
    have hw := hw.1 (lc_ge.mp k3)
    refine lv_lload hx hb dJ9_floorMod_f86c9_25 (lv_at hl 0 rfl) ?_
    exact vx_ret (m_l ⟨_, rfl, rfl, hw⟩ hx hb hr hlocks hP hD hS (Nat.le_of_ble_eq_true rfl) (Nat.le_of_ble_eq_true rfl) dJ9_floorMod_f86c9_27)
  · skip
    have hw := hw.2 (fun q9 => k3 (lc_ge.mpr q9))
    refine lv_lload hx hb dJ9_floorMod_f86c9_13 (lv_at hl 0 rfl) ?_
    refine lv_lconst (v := 0) hx hb dJ9_floorMod_f86c9_15 (by decide) ?_
    refine k_lcmp (v := lg_cmp v2 0) hx hb dJ9_floorMod_f86c9_16 rfl ?_
    refine lv_if_eq (tgt := 25) hx hb dJ9_floorMod_f86c9_17 (by decide) (fun k4 => ?_) (fun k4 => ?_)
    · skip
      have hw := hw.1 (lc_eq.mp k4)
      refine lv_lload hx hb dJ9_floorMod_f86c9_25 (lv_at hl 0 rfl) ?_
      exact vx_ret (m_l ⟨_, rfl, rfl, hw⟩ hx hb hr hlocks hP hD hS (Nat.le_of_ble_eq_true rfl) (Nat.le_of_ble_eq_true rfl) dJ9_floorMod_f86c9_27)
    · skip
      have hw := hw.2 (fun q9 => k4 (lc_eq.mpr q9))
      refine lv_lload hx hb dJ9_floorMod_f86c9_20 (lv_at hl 0 rfl) ?_
      refine lv_lload_n hx hb dJ9_floorMod_f86c9_22 rfl (lv_at hl 2 rfl) ?_
      refine k_ladd (v := v2 + p1) hx hb dJ9_floorMod_f86c9_23 rfl ?_
      exact vx_ret (m_l ⟨_, rfl, rfl, hw⟩ hx hb hr hlocks hP hD hS (Nat.le_of_ble_eq_true rfl) (Nat.le_of_ble_eq_true rfl) dJ9_floorMod_f86c9_24)

set_option maxHeartbeats 4000000 in
set_option maxRecDepth 100000 in
theorem m_X1_carry (l : Launch) (hfl : l.stackTraces = false) (D : va_G) (ad : Nat → Nat) (cA : Nat → ClassId) (g : gv_T) (p1 : Int32) (σ : Sg) (Q : Sg → Prop) (hw : w_X1_carry p1 σ Q) : MC l yX1_carry cX1_carry 2 none (RM 1 0 0 25) D ad cA g [.ref (ad 12), .int p1] σ (fun v σ' => v = none ∧ Q σ') (fun _ _ => False) := by
  refine MC.of (plainFor_of_name (by decide +kernel)) (Nat.le_of_ble_eq_true rfl) ?_
  intro p e s m args below meth c A ls hx hb hr hml hown hG hlocks htab hA hS hP hK hD hGV hl
  have hown : s.vm.findClass RX1 = some m.cls := hown
  have hl : lv_has ls 2 [(0, .ref (ad 12)), (1, .int p1)] := hl
  have hSF : CF p m c cX1_carry 2 s args RX1 := ⟨hx, hb, hml, hown, hG⟩
  refine lv_aload_n hx hb dX1_carry_0 rfl (lv_at hl 0 rfl) ?_
  refine k_get (ci := 3) (C := RX1) (T := TX1) (N := 17) (v := .long (gL σ 0)) hx hb hG inX1 hown hK hP 12 wl_12 rfl 2 (by decide) gw143 rfl dX1_carry_1 ?_
  refine lv_lconst (v := 0) hx hb dX1_carry_4 (by decide) ?_
  refine k_lcmp (v := lg_cmp (gL σ 0) 0) hx hb dX1_carry_5 rfl ?_
  refine lv_if_le (tgt := 50) hx hb dX1_carry_6 (by decide) (fun k1 => ?_) (fun k1 => ?_)
  · skip
    have hw := hw.1 (lc_le.mp k1)
    exact vx_ret (m_v ⟨rfl, hw⟩ hx hb hr hlocks hP hD hS (Nat.le_of_ble_eq_true rfl) (Nat.le_of_ble_eq_true rfl) dX1_carry_50)
  · skip
    have hw := hw.2 (fun q9 => k1 (lc_le.mpr q9))
    refine lv_aload_n hx hb dX1_carry_9 rfl (lv_at hl 0 rfl) ?_
    refine k_get (ci := 3) (C := RX1) (T := TX1) (N := 17) (v := .ref (ad 13)) hx hb hG inX1 hown hK hP 12 wl_12 rfl 3 (by decide) gw144 rfl dX1_carry_10 ?_
    refine lv_iload_n hx hb dX1_carry_13 rfl (lv_at hl 1 rfl) ?_
    refine lv_dup2_11 hx hb dX1_carry_14 rfl rfl ?_
    obtain ⟨hc2, hw⟩ := hw
    refine k_lald (v := gB σ 0 (ix p1)) hx hb hK hP 13 wl_13 (ix p1) rfl rfl hc2 dX1_carry_15 ?_
    refine lv_aload_n hx hb dX1_carry_16 rfl (lv_at hl 0 rfl) ?_
    refine k_get (ci := 3) (C := RX1) (T := TX1) (N := 17) (v := .ref (ad 14)) hx hb hG inX1 hown hK hP 12 wl_12 rfl 4 (by decide) gw145 rfl dX1_carry_17 ?_
    refine lv_iload_n hx hb dX1_carry_20 rfl (lv_at hl 1 rfl) ?_
    obtain ⟨hc3, hw⟩ := hw
    refine k_lald (v := gB σ 1 (ix p1)) hx hb hK hP 14 wl_14 (ix p1) rfl rfl hc3 dX1_carry_21 ?_
    refine lv_aload_n hx hb dX1_carry_22 rfl (lv_at hl 0 rfl) ?_
    refine k_get (ci := 3) (C := RX1) (T := TX1) (N := 17) (v := .long (gL σ 0)) hx hb hG inX1 hown hK hP 12 wl_12 rfl 2 (by decide) gw143 rfl dX1_carry_23 ?_
    refine mc_S hSF hl.1 hP hD hS hA hK hGV (m_J9_floorDiv_f86c9 l hfl D ad cA g (gB σ 1 (ix p1)) (gL σ 0) σ _ hw) goS_X1_131 pd_J9_floorDiv_f86c9.2 ⟨(Nat.le_of_ble_eq_true rfl), (Nat.le_of_ble_eq_true rfl)⟩ ⟨(Nat.le_of_ble_eq_true rfl), (Nat.le_of_ble_eq_true rfl)⟩ dX1_carry_26 rfl (Nat.le_of_ble_eq_true rfl) (fun v9 σ9 H locs hq hP hD hS => ?_) (fun _ _ _ _ _ _ h => h.elim)
    obtain ⟨r4, hv9, hs9, hw⟩ := hq
    subst hv9
    subst σ9
    refine W.eq (g2 := F0 m 29 ls [.long r4, .long (gB σ 0 (ix p1)), .int p1, .ref (ad 13)]) rfl ?_
    refine W.widen (k := 0) (n := 0) (Nat.le_refl _) (Nat.le_refl _) ?_
    refine k_ladd (v := (gB σ 0 (ix p1)) + r4) hx hb dX1_carry_29 rfl ?_
    obtain ⟨hc5, hw⟩ := hw
    obtain ⟨σ6, eσ6⟩ : ∃ z : Sg, z = sB σ 0 (ix p1) ((gB σ 0 (ix p1)) + r4) := ⟨_, rfl⟩
    have hw := hw σ6 eσ6
    refine k_last (ws1 := WL ad cA σ6) hx hb hK hP hD hS 13 wl_13 (ws_13 eσ6) hc5 dX1_carry_30 (fun H locs hP hD hS => ?_)
    refine lv_aload_n hx hb dX1_carry_31 rfl (lv_at hl 0 rfl) ?_
    refine k_get (ci := 3) (C := RX1) (T := TX1) (N := 17) (v := .ref (ad 14)) hx hb hG inX1 hown hK hP 12 wl_12 rfl 4 (by decide) gw145 rfl dX1_carry_32 ?_
    refine lv_iload_n hx hb dX1_carry_35 rfl (lv_at hl 1 rfl) ?_
    refine lv_aload_n hx hb dX1_carry_36 rfl (lv_at hl 0 rfl) ?_
    refine k_get (ci := 3) (C := RX1) (T := TX1) (N := 17) (v := .ref (ad 14)) hx hb hG inX1 hown hK hP 12 wl_12 rfl 4 (by decide) gw145 rfl dX1_carry_37 ?_
    refine lv_iload_n hx hb dX1_carry_40 rfl (lv_at hl 1 rfl) ?_
    obtain ⟨hc7, hw⟩ := hw
    refine k_lald (v := gB σ6 1 (ix p1)) hx hb hK hP 14 wl_14 (ix p1) rfl rfl hc7 dX1_carry_41 ?_
    refine lv_aload_n hx hb dX1_carry_42 rfl (lv_at hl 0 rfl) ?_
    refine k_get (ci := 3) (C := RX1) (T := TX1) (N := 17) (v := .long (gL σ6 0)) hx hb hG inX1 hown hK hP 12 wl_12 rfl 2 (by decide) gw143 rfl dX1_carry_43 ?_
    refine mc_S hSF hl.1 hP hD hS hA hK hGV (m_J9_floorMod_f86c9 l hfl D ad cA g (gB σ6 1 (ix p1)) (gL σ6 0) σ6 _ hw) goS_X1_135 pd_J9_floorMod_f86c9.2 ⟨(Nat.le_of_ble_eq_true rfl), (Nat.le_of_ble_eq_true rfl)⟩ ⟨(Nat.le_of_ble_eq_true rfl), (Nat.le_of_ble_eq_true rfl)⟩ dX1_carry_46 rfl (Nat.le_of_ble_eq_true rfl) (fun v9 σ9 H locs hq hP hD hS => ?_) (fun _ _ _ _ _ _ h => h.elim)
    obtain ⟨r8, hv9, hs9, hw⟩ := hq
    subst hv9
    subst σ9
    refine W.eq (g2 := F0 m 49 ls [.long r8, .int p1, .ref (ad 14)]) rfl ?_
    refine W.widen (k := 0) (n := 0) (Nat.le_refl _) (Nat.le_refl _) ?_
    obtain ⟨hc9, hw⟩ := hw
    obtain ⟨σ10, eσ10⟩ : ∃ z : Sg, z = sB σ6 1 (ix p1) r8 := ⟨_, rfl⟩
    have hw := hw σ10 eσ10
    refine k_last (ws1 := WL ad cA σ10) hx hb hK hP hD hS 14 wl_14 (ws_14 eσ10) hc9 dX1_carry_49 (fun H locs hP hD hS => ?_)
    exact vx_ret (m_v ⟨rfl, hw⟩ hx hb hr hlocks hP hD hS (Nat.le_of_ble_eq_true rfl) (Nat.le_of_ble_eq_true rfl) dX1_carry_50)

set_option maxHeartbeats 4000000 in
set_option maxRecDepth 100000 in
theorem m_X1_setPull (l : Launch) (hfl : l.stackTraces = false) (D : va_G) (ad : Nat → Nat) (cA : Nat → ClassId) (g : gv_T) (p1 : Int32) (p2 : Int32) (p3 : Int32) (σ : Sg) (Q : Sg → Prop) (hw : w_X1_setPull p1 p2 p3 σ Q) : MC l yX1_setPull cX1_setPull 8 none (RM 2 0 0 46) D ad cA g [.ref (ad 12), .int p1, .int p2, .int p3] σ (fun v σ' => v = none ∧ Q σ') (fun _ _ => False) := by
  refine MC.of (plainFor_of_name (by decide +kernel)) (Nat.le_of_ble_eq_true rfl) ?_
  intro p e s m args below meth c A ls hx hb hr hml hown hG hlocks htab hA hS hP hK hD hGV hl
  have hown : s.vm.findClass RX1 = some m.cls := hown
  have hl : lv_has ls 8 [(0, .ref (ad 12)), (1, .int p1), (2, .int p2), (3, .int p3)] := hl
  have hSF : CF p m c cX1_setPull 8 s args RX1 := ⟨hx, hb, hml, hown, hG⟩
  refine lv_iload_n hx hb dX1_setPull_0 rfl (lv_at hl 3 rfl) ?_
  refine lv_i2l (v := p3.toInt64) hx hb dX1_setPull_1 rfl ?_
  refine lv_aload_n hx hb dX1_setPull_2 rfl (lv_at hl 0 rfl) ?_
  refine k_get (ci := 3) (C := RX1) (T := TX1) (N := 17) (v := .ref (ad 20)) hx hb hG inX1 hown hK hP 12 wl_12 rfl 10 (by decide) gw152 rfl dX1_setPull_3 ?_
  refine lv_iload_n hx hb dX1_setPull_6 rfl (lv_at hl 2 rfl) ?_
  refine lv_iconst (v := 1) hx hb dX1_setPull_7 (by decide) ?_
  refine lv_iload_n hx hb dX1_setPull_8 rfl (lv_at hl 1 rfl) ?_
  refine k_ishl (v := iShl 1 p1) hx hb dX1_setPull_9 rfl ?_
  refine k_ixor (v := p2 ^^^ (iShl 1 p1)) hx hb dX1_setPull_10 rfl ?_
  obtain ⟨hc1, hw⟩ := hw
  refine k_lald (v := gB σ 4 (ix (p2 ^^^ (iShl 1 p1)))) hx hb hK hP 20 wl_20 (ix (p2 ^^^ (iShl 1 p1))) rfl rfl hc1 dX1_setPull_11 ?_
  refine k_lmul (v := p3.toInt64 * (gB σ 4 (ix (p2 ^^^ (iShl 1 p1))))) hx hb dX1_setPull_12 rfl ?_
  obtain ⟨v2, ev2⟩ : ∃ z : Int64, z = p3.toInt64 * (gB σ 4 (ix (p2 ^^^ (iShl 1 p1)))) := ⟨_, rfl⟩
  have hw := hw v2 ev2
  refine lv_lstore (lv' := [(4, .long v2), (0, .ref (ad 12)), (1, .int p1), (2, .int p2), (3, .int p3)]) hx hb dX1_setPull_13 hl (by decide) (by subst ev2; rfl) (fun ls hl => ?_)
  refine lv_iload_n hx hb dX1_setPull_15 rfl (lv_at hl 4 rfl) ?_
  refine lv_i2l (v := p3.toInt64) hx hb dX1_setPull_16 rfl ?_
  refine lv_aload_n hx hb dX1_setPull_17 rfl (lv_at hl 1 rfl) ?_
  refine k_get (ci := 3) (C := RX1) (T := TX1) (N := 17) (v := .ref (ad 21)) hx hb hG inX1 hown hK hP 12 wl_12 rfl 11 (by decide) gw153 rfl dX1_setPull_18 ?_
  refine lv_iload_n hx hb dX1_setPull_21 rfl (lv_at hl 3 rfl) ?_
  refine lv_iconst (v := 1) hx hb dX1_setPull_22 (by decide) ?_
  refine lv_iload_n hx hb dX1_setPull_23 rfl (lv_at hl 2 rfl) ?_
  refine k_ishl (v := iShl 1 p1) hx hb dX1_setPull_24 rfl ?_
  refine k_ixor (v := p2 ^^^ (iShl 1 p1)) hx hb dX1_setPull_25 rfl ?_
  obtain ⟨hc3, hw⟩ := hw
  refine k_lald (v := gB σ 5 (ix (p2 ^^^ (iShl 1 p1)))) hx hb hK hP 21 wl_21 (ix (p2 ^^^ (iShl 1 p1))) rfl rfl hc3 dX1_setPull_26 ?_
  refine k_lmul (v := p3.toInt64 * (gB σ 5 (ix (p2 ^^^ (iShl 1 p1))))) hx hb dX1_setPull_27 rfl ?_
  obtain ⟨v4, ev4⟩ : ∃ z : Int64, z = p3.toInt64 * (gB σ 5 (ix (p2 ^^^ (iShl 1 p1)))) := ⟨_, rfl⟩
  have hw := hw v4 ev4
  refine lv_lstore (lv' := [(6, .long v4), (4, .long v2), (0, .ref (ad 12)), (1, .int p1), (2, .int p2), (3, .int p3)]) hx hb dX1_setPull_28 hl (by decide) (by subst ev4; rfl) (fun ls hl => ?_)
  refine lv_aload_n hx hb dX1_setPull_30 rfl (lv_at hl 2 rfl) ?_
  refine k_get (ci := 3) (C := RX1) (T := TX1) (N := 17) (v := .long (gL σ 0)) hx hb hG inX1 hown hK hP 12 wl_12 rfl 2 (by decide) gw143 rfl dX1_setPull_31 ?_
  refine lv_lconst (v := 0) hx hb dX1_setPull_34 (by decide) ?_
  refine k_lcmp (v := lg_cmp (gL σ 0) 0) hx hb dX1_setPull_35 rfl ?_
  refine lv_if_le (tgt := 85) hx hb dX1_setPull_36 (by decide) (fun k5 => ?_) (fun k5 => ?_)
  · skip
    have hw := hw.1 (lc_le.mp k5)
    exact vx_ret (m_v ⟨rfl, hw⟩ hx hb hr hlocks hP hD hS (Nat.le_of_ble_eq_true rfl) (Nat.le_of_ble_eq_true rfl) dX1_setPull_85)
  · skip
    have hw := hw.2 (fun q9 => k5 (lc_le.mpr q9))
    refine lv_aload_n hx hb dX1_setPull_39 rfl (lv_at hl 2 rfl) ?_
    refine k_get (ci := 3) (C := RX1) (T := TX1) (N := 17) (v := .ref (ad 13)) hx hb hG inX1 hown hK hP 12 wl_12 rfl 3 (by decide) gw144 rfl dX1_setPull_40 ?_
    refine lv_iload_n hx hb dX1_setPull_43 rfl (lv_at hl 3 rfl) ?_
    refine lv_ldc2 hx hb hown (hG _ gw370) dX1_setPull_44 ?_
    refine lv_lload hx hb dX1_setPull_47 (lv_at hl 1 rfl) ?_
    refine lv_aload_n hx hb dX1_setPull_49 rfl (lv_at hl 2 rfl) ?_
    refine k_get (ci := 3) (C := RX1) (T := TX1) (N := 17) (v := .long (gL σ 0)) hx hb hG inX1 hown hK hP 12 wl_12 rfl 2 (by decide) gw143 rfl dX1_setPull_50 ?_
    refine mc_S hSF hl.1 hP hD hS hA hK hGV (m_J9_floorDiv_f86c9 l hfl D ad cA g v2 (gL σ 0) σ _ hw) goS_X1_131 pd_J9_floorDiv_f86c9.2 ⟨(Nat.le_of_ble_eq_true rfl), (Nat.le_of_ble_eq_true rfl)⟩ ⟨(Nat.le_of_ble_eq_true rfl), (Nat.le_of_ble_eq_true rfl)⟩ dX1_setPull_53 rfl (Nat.le_of_ble_eq_true rfl) (fun v9 σ9 H locs hq hP hD hS => ?_) (fun _ _ _ _ _ _ h => h.elim)
    obtain ⟨r6, hv9, hs9, hw⟩ := hq
    subst hv9
    subst σ9
    refine W.eq (g2 := F0 m 56 ls [.long r6, .long 256, .int p1, .ref (ad 13)]) rfl ?_
    refine W.widen (k := 0) (n := 0) (Nat.le_refl _) (Nat.le_refl _) ?_
    refine k_lmul (v := 256 * r6) hx hb dX1_setPull_56 rfl ?_
    obtain ⟨hc7, hw⟩ := hw
    obtain ⟨σ8, eσ8⟩ : ∃ z : Sg, z = sB σ 0 (ix p1) (256 * r6) := ⟨_, rfl⟩
    have hw := hw σ8 eσ8
    refine k_last (ws1 := WL ad cA σ8) hx hb hK hP hD hS 13 wl_13 (ws_13 eσ8) hc7 dX1_setPull_57 (fun H locs hP hD hS => ?_)
    refine lv_aload_n hx hb dX1_setPull_58 rfl (lv_at hl 2 rfl) ?_
    refine k_get (ci := 3) (C := RX1) (T := TX1) (N := 17) (v := .ref (ad 14)) hx hb hG inX1 hown hK hP 12 wl_12 rfl 4 (by decide) gw145 rfl dX1_setPull_59 ?_
    refine lv_iload_n hx hb dX1_setPull_62 rfl (lv_at hl 3 rfl) ?_
    refine lv_ldc2 hx hb hown (hG _ gw370) dX1_setPull_63 ?_
    refine lv_lload hx hb dX1_setPull_66 (lv_at hl 1 rfl) ?_
    refine lv_aload_n hx hb dX1_setPull_68 rfl (lv_at hl 2 rfl) ?_
    refine k_get (ci := 3) (C := RX1) (T := TX1) (N := 17) (v := .long (gL σ8 0)) hx hb hG inX1 hown hK hP 12 wl_12 rfl 2 (by decide) gw143 rfl dX1_setPull_69 ?_
    refine mc_S hSF hl.1 hP hD hS hA hK hGV (m_J9_floorMod_f86c9 l hfl D ad cA g v2 (gL σ8 0) σ8 _ hw) goS_X1_135 pd_J9_floorMod_f86c9.2 ⟨(Nat.le_of_ble_eq_true rfl), (Nat.le_of_ble_eq_true rfl)⟩ ⟨(Nat.le_of_ble_eq_true rfl), (Nat.le_of_ble_eq_true rfl)⟩ dX1_setPull_72 rfl (Nat.le_of_ble_eq_true rfl) (fun v9 σ9 H locs hq hP hD hS => ?_) (fun _ _ _ _ _ _ h => h.elim)
    obtain ⟨r9, hv9, hs9, hw⟩ := hq
    subst hv9
    subst σ9
    refine W.eq (g2 := F0 m 75 ls [.long r9, .long 256, .int p1, .ref (ad 14)]) rfl ?_
    refine W.widen (k := 0) (n := 0) (Nat.le_refl _) (Nat.le_refl _) ?_
    refine k_lmul (v := 256 * r9) hx hb dX1_setPull_75 rfl ?_
    refine lv_lload hx hb dX1_setPull_76 (lv_at hl 0 rfl) ?_
    refine k_ladd (v := (256 * r9) + v4) hx hb dX1_setPull_78 rfl ?_
    obtain ⟨hc10, hw⟩ := hw
    obtain ⟨σ11, eσ11⟩ : ∃ z : Sg, z = sB σ8 1 (ix p1) ((256 * r9) + v4) := ⟨_, rfl⟩
    have hw := hw σ11 eσ11
    refine k_last (ws1 := WL ad cA σ11) hx hb hK hP hD hS 14 wl_14 (ws_14 eσ11) hc10 dX1_setPull_79 (fun H locs hP hD hS => ?_)
    refine lv_aload_n hx hb dX1_setPull_80 rfl (lv_at hl 2 rfl) ?_
    refine lv_iload_n hx hb dX1_setPull_81 rfl (lv_at hl 3 rfl) ?_
    refine mc_V hSF hl.1 hP hD hS hA hK hGV (m_X1_carry l hfl D ad cA g p1 σ11 _ hw) goV_X1_138 pd_X1_carry ⟨(Nat.le_of_ble_eq_true rfl), (Nat.le_of_ble_eq_true rfl)⟩ ⟨(Nat.le_of_ble_eq_true rfl), (Nat.le_of_ble_eq_true rfl)⟩ (va_recv hK hP (ci := 3) (q0 := 12) rfl wl_12) dX1_setPull_82 rfl (Nat.le_of_ble_eq_true rfl) (fun v9 σ13 H locs hq hP hD hS => ?_) (fun _ _ _ _ _ _ h => h.elim)
    obtain ⟨hv9, hw⟩ := hq
    subst hv9
    refine W.eq (g2 := F0 m 85 ls []) rfl ?_
    refine W.widen (k := 0) (n := 0) (Nat.le_refl _) (Nat.le_refl _) ?_
    exact vx_ret (m_v ⟨rfl, hw⟩ hx hb hr hlocks hP hD hS (Nat.le_of_ble_eq_true rfl) (Nat.le_of_ble_eq_true rfl) dX1_setPull_85)

set_option maxHeartbeats 4000000 in
set_option maxRecDepth 100000 in
theorem m_X1_findPulls (l : Launch) (hfl : l.stackTraces = false) (D : va_G) (ad : Nat → Nat) (cA : Nat → ClassId) (g : gv_T) (σ : Sg) (Q : Int32 → Sg → Prop) (hw : w_X1_findPulls  σ Q) : MC l yX1_findPulls cX1_findPulls 7 (some .char) (RM 3 0 0 73) D ad cA g [.ref (ad 12), .ref (ad 1)] σ (fun v σ' => ∃ r : Int32, v = some (.int r) ∧ Q r σ') (fun _ _ => False) := by
  refine MC.of (plainFor_of_name (by decide +kernel)) (Nat.le_of_ble_eq_true rfl) ?_
  intro p e s m args below meth c A ls hx hb hr hml hown hG hlocks htab hA hS hP hK hD hGV hl
  have hown : s.vm.findClass RX1 = some m.cls := hown
  have hl : lv_has ls 7 [(0, .ref (ad 12)), (1, .ref (ad 1))] := hl
  have hSF : CF p m c cX1_findPulls 7 s args RX1 := ⟨hx, hb, hml, hown, hG⟩
  refine lv_iconst (v := 0) hx hb dX1_findPulls_0 (by decide) ?_
  refine lv_istore_n (lv' := [(2, .int 0), (0, .ref (ad 12)), (1, .ref (ad 1))]) hx hb dX1_findPulls_1 rfl hl (by decide) rfl (fun ls hl => ?_)
  refine lv_iconst (v := 0) hx hb dX1_findPulls_2 (by decide) ?_
  refine lv_istore_n (lv' := [(3, .int 0), (2, .int 0), (0, .ref (ad 12)), (1, .ref (ad 1))]) hx hb dX1_findPulls_3 rfl hl (by decide) rfl (fun ls hl => ?_)
  obtain ⟨I1, μ1, hI1, hw1⟩ := hw
  have hl : lv_has ls 7 [(0, .ref (ad 12)), (1, .ref (ad 1)), (2, .int 0), (3, .int 0)] := lv_sub hl [2, 3, 1, 0] rfl
  suffices key1 : ∀ (n1 : Nat) (i2_1 : Int32) (i3_1 : Int32), μ1 i2_1 i3_1 < n1 → I1 i2_1 i3_1 → ∀ (H : Heap) (locs : List Loc) (ls : Array Slot), va_P D vwCl (WL ad cA σ) H → va_D A (WL ad cA σ) → va_S A s.heap H locs → lv_has ls 7 [(0, .ref (ad 12)), (1, .ref (ad 1)), (2, .int i2_1), (3, .int i3_1)] → W p l e (RM 3 0 0 73) s m args below meth c H locs (0) (0) (vx_MQ below (QM D ad cA A (fun v σ' => ∃ r : Int32, v = some (.int r) ∧ Q r σ')) (XM D ad cA A (fun _ _ => False)) args s (RM 3 0 0 73).cells (RM 3 0 0 73).slots A) (F0 m 4 ls []) from key1 _ _ _ (Nat.lt_succ_self _) hI1 _ _ ls hP hD hS hl
  clear hP hD hS hl
  intro n1
  induction n1 with
  | zero => intro _ _ h; exact absurd h (Nat.not_lt_zero _)
  | succ n1 ih1 =>
    intro i2_1 i3_1 hm1 hI1 H locs ls hP hD hS hl
    have hw := hw1 i2_1 i3_1 hI1
    refine lv_iload_n hx hb dX1_findPulls_4 rfl (lv_at hl 3 rfl) ?_
    refine lv_aload_n hx hb dX1_findPulls_5 rfl (lv_at hl 1 rfl) ?_
    refine k_get (ci := 4) (C := RX2) (T := TX2) (N := 12) (v := .int (gI σ 0)) hx hb hG inX2 hown hK hP 1 wl_1 rfl 0 (by decide) gw70 rfl dX1_findPulls_6 ?_
    refine lv_icmp_ge (tgt := 52) hx hb dX1_findPulls_9 (by decide) (fun k2 => ?_) (fun k2 => ?_)
    · skip
      have hw := hw.1 k2
      refine lv_aload_n hx hb dX1_findPulls_52 rfl (lv_at hl 1 rfl) ?_
      refine k_get (ci := 4) (C := RX2) (T := TX2) (N := 12) (v := .int (gI σ 1)) hx hb hG inX2 hown hK hP 1 wl_1 rfl 1 (by decide) gw75 rfl dX1_findPulls_53 ?_
      refine lv_iload_n hx hb dX1_findPulls_56 rfl (lv_at hl 2 rfl) ?_
      refine lv_icmp_eq (tgt := 76) hx hb dX1_findPulls_57 (by decide) (fun k3 => ?_) (fun k3 => ?_)
      · skip
        have hw := hw.1 k3
        refine lv_aload_n hx hb dX1_findPulls_76 rfl (lv_at hl 0 rfl) ?_
        refine lv_aload_n hx hb dX1_findPulls_77 rfl (lv_at hl 1 rfl) ?_
        refine mc_V hSF hl.1 hP hD hS hA hK hGV (m_X1_fillRows l hfl D ad cA g  σ _ hw) goV_X1_91 pd_X1_fillRows ⟨(Nat.le_of_ble_eq_true rfl), (Nat.le_of_ble_eq_true rfl)⟩ ⟨(Nat.le_of_ble_eq_true rfl), (Nat.le_of_ble_eq_true rfl)⟩ (va_recv hK hP (ci := 3) (q0 := 12) rfl wl_12) dX1_findPulls_78 rfl (Nat.le_of_ble_eq_true rfl) (fun v9 σ5 H locs hq hP hD hS => ?_) (fun _ _ _ _ _ _ h => h.elim)
        obtain ⟨hv9, hw⟩ := hq
        subst hv9
        refine W.eq (g2 := F0 m 81 ls []) rfl ?_
        refine W.widen (k := 0) (n := 0) (Nat.le_refl _) (Nat.le_refl _) ?_
        refine lv_aload_n hx hb dX1_findPulls_81 rfl (lv_at hl 0 rfl) ?_
        refine lv_iload_n hx hb dX1_findPulls_82 rfl (lv_at hl 2 rfl) ?_
        refine mc_V hSF hl.1 hP hD hS hA hK hGV (m_X1_findDeterminants l hfl D ad cA g i2_1 σ5 _ hw) goV_X1_94 pd_X1_findDeterminants ⟨(Nat.le_of_ble_eq_true rfl), (Nat.le_of_ble_eq_true rfl)⟩ ⟨(Nat.le_of_ble_eq_true rfl), (Nat.le_of_ble_eq_true rfl)⟩ (va_recv hK hP (ci := 3) (q0 := 12) rfl wl_12) dX1_findPulls_83 rfl (Nat.le_of_ble_eq_true rfl) (fun v9 σ7 H locs hq hP hD hS => ?_) (fun _ _ _ _ _ _ h => h.elim)
        obtain ⟨hv9, hw⟩ := hq
        subst hv9
        refine W.eq (g2 := F0 m 86 ls []) rfl ?_
        refine W.widen (k := 0) (n := 0) (Nat.le_refl _) (Nat.le_refl _) ?_
        refine lv_aload_n hx hb dX1_findPulls_86 rfl (lv_at hl 0 rfl) ?_
        refine k_get (ci := 3) (C := RX1) (T := TX1) (N := 17) (v := .ref (ad 19)) hx hb hG inX1 hown hK hP 12 wl_12 rfl 9 (by decide) gw151 rfl dX1_findPulls_87 ?_
        refine lv_iconst (v := 1) hx hb dX1_findPulls_90 (by decide) ?_
        refine lv_iload_n hx hb dX1_findPulls_91 rfl (lv_at hl 2 rfl) ?_
        refine k_ishl (v := iShl 1 i2_1) hx hb dX1_findPulls_92 rfl ?_
        refine lv_iconst (v := 1) hx hb dX1_findPulls_93 (by decide) ?_
        refine k_isub (v := (iShl 1 i2_1) - 1) hx hb dX1_findPulls_94 rfl ?_
        obtain ⟨hc8, hw⟩ := hw
        refine k_lald (v := gB σ7 3 (ix ((iShl 1 i2_1) - 1))) hx hb hK hP 19 wl_19 (ix ((iShl 1 i2_1) - 1)) rfl rfl hc8 dX1_findPulls_95 ?_
        obtain ⟨v9, ev9⟩ : ∃ z : Int64, z = gB σ7 3 (ix ((iShl 1 i2_1) - 1)) := ⟨_, rfl⟩
        have hw := hw v9 ev9
        refine lv_lstore_n (lv' := [(3, .long v9), (0, .ref (ad 12)), (1, .ref (ad 1)), (2, .int i2_1)]) hx hb dX1_findPulls_96 rfl hl (by decide) (by subst ev9; rfl) (fun ls hl => ?_)
        refine lv_lload_n hx hb dX1_findPulls_97 rfl (lv_at hl 0 rfl) ?_
        refine lv_lconst (v := 0) hx hb dX1_findPulls_98 (by decide) ?_
        refine k_lcmp (v := lg_cmp v9 0) hx hb dX1_findPulls_99 rfl ?_
        refine lv_if_ne (tgt := 106) hx hb dX1_findPulls_100 (by decide) (fun k10 => ?_) (fun k10 => ?_)
        · skip
          have hw := hw.1 (lc_ne.mp k10)
          refine lv_aload_n hx hb dX1_findPulls_106 rfl (lv_at hl 1 rfl) ?_
          refine lv_lload_n hx hb dX1_findPulls_107 rfl (lv_at hl 0 rfl) ?_
          refine k_mabsl (v := mabsl v9) hx hb (hml.trans hl.1.symm) hown (hG _ gw363) (hG _ gw364) (hG _ gw41) (hG _ gw365) (Nat.le_of_ble_eq_true rfl) (Nat.le_of_ble_eq_true rfl) (Nat.le_of_ble_eq_true rfl) (Nat.le_of_ble_eq_true rfl) dX1_findPulls_108 rfl ?_
          obtain ⟨σ11, eσ11⟩ : ∃ z : Sg, z = sL σ7 0 (mabsl v9) := ⟨_, rfl⟩
          have hw := hw σ11 eσ11
          refine k_put (ci := 3) (C := RX1) (T := TX1) (N := 17) (v := .long (mabsl v9)) (ws1 := WL ad cA σ11) hx hb hG inX1 tyX1 tyX1_ok nmX1 hown hK hP hD hS 12 wl_12 rfl 2 (by decide) gw143 rfl ⟨rfl, rfl⟩ (ws_12_2 eσ11) (Nat.le_of_ble_eq_true rfl) dX1_findPulls_111 (fun H locs hP hD hS => ?_)
          refine lv_iconst (v := 0) hx hb dX1_findPulls_114 (by decide) ?_
          refine lv_istore (lv' := [(5, .int 0), (3, .long v9), (0, .ref (ad 12)), (1, .ref (ad 1)), (2, .int i2_1)]) hx hb dX1_findPulls_115 hl (by decide) rfl (fun ls hl => ?_)
          obtain ⟨I12, μ12, hI12, hw12⟩ := hw
          have hl : lv_has ls 7 [(0, .ref (ad 12)), (2, .int i2_1), (3, .long v9), (5, .int 0)] := lv_sub hl [2, 4, 1, 0] rfl
          suffices key12 : ∀ (n12 : Nat) (i5_12 : Int32) (σ12 : Sg), μ12 i5_12 σ12 < n12 → I12 i5_12 σ12 → ∀ (H : Heap) (locs : List Loc) (ls : Array Slot), va_P D vwCl (WL ad cA σ12) H → va_D A (WL ad cA σ12) → va_S A s.heap H locs → lv_has ls 7 [(0, .ref (ad 12)), (2, .int i2_1), (3, .long v9), (5, .int i5_12)] → W p l e (RM 3 0 0 73) s m args below meth c H locs (0) (0) (vx_MQ below (QM D ad cA A (fun v σ' => ∃ r : Int32, v = some (.int r) ∧ Q r σ')) (XM D ad cA A (fun _ _ => False)) args s (RM 3 0 0 73).cells (RM 3 0 0 73).slots A) (F0 m 117 ls []) from key12 _ _ _ (Nat.lt_succ_self _) hI12 _ _ ls hP hD hS hl
          clear hP hD hS hl
          intro n12
          induction n12 with
          | zero => intro _ _ h; exact absurd h (Nat.not_lt_zero _)
          | succ n12 ih12 =>
            intro i5_12 σ12 hm12 hI12 H locs ls hP hD hS hl
            have hw := hw12 i5_12 σ12 hI12
            refine lv_iload hx hb dX1_findPulls_117 (lv_at hl 3 rfl) ?_
            refine lv_iload_n hx hb dX1_findPulls_119 rfl (lv_at hl 1 rfl) ?_
            refine lv_icmp_ge (tgt := 179) hx hb dX1_findPulls_120 (by decide) (fun k13 => ?_) (fun k13 => ?_)
            · skip
              have hw := hw.1 k13
              refine lv_bipush (v := 46) hx hb dX1_findPulls_179 (by decide) ?_
              exact vx_ret (m_i ⟨_, rfl, hw⟩ hx hb hr hlocks rfl hP hD hS (Nat.le_of_ble_eq_true rfl) (Nat.le_of_ble_eq_true rfl) dX1_findPulls_181)
            · skip
              have hw := hw.2 k13
              refine lv_iload_n hx hb dX1_findPulls_123 rfl (lv_at hl 1 rfl) ?_
              refine lv_iconst (v := 1) hx hb dX1_findPulls_124 (by decide) ?_
              refine k_isub (v := i2_1 - 1) hx hb dX1_findPulls_125 rfl ?_
              refine lv_iload hx hb dX1_findPulls_126 (lv_at hl 3 rfl) ?_
              refine k_isub (v := (i2_1 - 1) - i5_12) hx hb dX1_findPulls_128 rfl ?_
              refine lv_iconst (v := 2) hx hb dX1_findPulls_129 (by decide) ?_
              refine k_irem (v := iRem ((i2_1 - 1) - i5_12) 2) hx hb dX1_findPulls_130 (by decide +kernel) rfl ?_
              refine lv_if_eq (tgt := 138) hx hb dX1_findPulls_131 (by decide) (fun k14 => ?_) (fun k14 => ?_)
              · skip
                have hw := hw.1 k14
                refine lv_iconst (v := 0) hx hb dX1_findPulls_138 (by decide) ?_
                refine lv_istore (lv' := [(6, .int 0), (0, .ref (ad 12)), (2, .int i2_1), (3, .long v9), (5, .int i5_12)]) hx hb dX1_findPulls_139 hl (by decide) rfl (fun ls hl => ?_)
                refine lv_aload_n hx hb dX1_findPulls_141 rfl (lv_at hl 1 rfl) ?_
                refine lv_iload hx hb dX1_findPulls_142 (lv_at hl 4 rfl) ?_
                refine lv_iconst (v := 1) hx hb dX1_findPulls_144 (by decide) ?_
                refine lv_iload_n hx hb dX1_findPulls_145 rfl (lv_at hl 2 rfl) ?_
                refine k_ishl (v := iShl 1 i2_1) hx hb dX1_findPulls_146 rfl ?_
                refine lv_iconst (v := 1) hx hb dX1_findPulls_147 (by decide) ?_
                refine k_isub (v := (iShl 1 i2_1) - 1) hx hb dX1_findPulls_148 rfl ?_
                refine lv_iload hx hb dX1_findPulls_149 (lv_at hl 0 rfl) ?_
                refine lv_lload_n hx hb dX1_findPulls_151 rfl (lv_at hl 3 rfl) ?_
                refine lv_lconst (v := 0) hx hb dX1_findPulls_152 (by decide) ?_
                refine k_lcmp (v := lg_cmp v9 0) hx hb dX1_findPulls_153 rfl ?_
                refine lv_if_le (tgt := 161) hx hb dX1_findPulls_154 (by decide) (fun k15 => ?_) (fun k15 => ?_)
                · skip
                  have hw := hw.1 (lc_le.mp k15)
                  refine lv_iconst (v := 0) hx hb dX1_findPulls_161 (by decide) ?_
                  refine k_icmp_ne_f (tgt := 169) hx hb dX1_findPulls_162 (by decide) (by decide) ?_
                  refine lv_iconst (v := (-1)) hx hb dX1_findPulls_165 (by decide) ?_
                  refine lv_goto (tgt := 170) hx hb dX1_findPulls_166 (by decide) ?_
                  refine mc_V hSF hl.1 hP hD hS hA hK hGV (m_X1_setPull l hfl D ad cA g i5_12 ((iShl 1 i2_1) - 1) (-1) σ12 _ hw) goV_X1_108 pd_X1_setPull ⟨(Nat.le_of_ble_eq_true rfl), (Nat.le_of_ble_eq_true rfl)⟩ ⟨(Nat.le_of_ble_eq_true rfl), (Nat.le_of_ble_eq_true rfl)⟩ (va_recv hK hP (ci := 3) (q0 := 12) rfl wl_12) dX1_findPulls_170 rfl (Nat.le_of_ble_eq_true rfl) (fun v9 σ17 H locs hq hP hD hS => ?_) (fun _ _ _ _ _ _ h => h.elim)
                  obtain ⟨hv9, hw⟩ := hq
                  subst hv9
                  refine W.eq (g2 := F0 m 173 ls []) rfl ?_
                  refine W.widen (k := 0) (n := 0) (Nat.le_refl _) (Nat.le_refl _) ?_
                  refine lv_iinc (v := i5_12 + 1) (lv' := [(5, .int (i5_12 + 1)), (6, .int 0), (0, .ref (ad 12)), (2, .int i2_1), (3, .long v9)]) hx hb dX1_findPulls_173 hl (k := 4) rfl rfl (by decide) rfl (fun ls hl => ?_)
                  refine lv_goto (tgt := 117) hx hb dX1_findPulls_176 (by decide) ?_
                  exact ih12 (i5_12 + 1) σ17 (Nat.lt_of_lt_of_le hw.2 (Nat.le_of_lt_succ hm12)) hw.1 _ _ ls hP hD hS (lv_sub hl [2, 3, 4, 0] rfl)
                · skip
                  have hw := hw.2 (fun q9 => k15 (lc_le.mpr q9))
                  refine lv_iconst (v := 1) hx hb dX1_findPulls_157 (by decide) ?_
                  refine lv_goto (tgt := 162) hx hb dX1_findPulls_158 (by decide) ?_
                  refine k_icmp_ne_t (tgt := 169) hx hb dX1_findPulls_162 (by decide) (by decide) ?_
                  refine lv_iconst (v := 1) hx hb dX1_findPulls_169 (by decide) ?_
                  refine mc_V hSF hl.1 hP hD hS hA hK hGV (m_X1_setPull l hfl D ad cA g i5_12 ((iShl 1 i2_1) - 1) 1 σ12 _ hw) goV_X1_108 pd_X1_setPull ⟨(Nat.le_of_ble_eq_true rfl), (Nat.le_of_ble_eq_true rfl)⟩ ⟨(Nat.le_of_ble_eq_true rfl), (Nat.le_of_ble_eq_true rfl)⟩ (va_recv hK hP (ci := 3) (q0 := 12) rfl wl_12) dX1_findPulls_170 rfl (Nat.le_of_ble_eq_true rfl) (fun v9 σ19 H locs hq hP hD hS => ?_) (fun _ _ _ _ _ _ h => h.elim)
                  obtain ⟨hv9, hw⟩ := hq
                  subst hv9
                  refine W.eq (g2 := F0 m 173 ls []) rfl ?_
                  refine W.widen (k := 0) (n := 0) (Nat.le_refl _) (Nat.le_refl _) ?_
                  refine lv_iinc (v := i5_12 + 1) (lv' := [(5, .int (i5_12 + 1)), (6, .int 0), (0, .ref (ad 12)), (2, .int i2_1), (3, .long v9)]) hx hb dX1_findPulls_173 hl (k := 4) rfl rfl (by decide) rfl (fun ls hl => ?_)
                  refine lv_goto (tgt := 117) hx hb dX1_findPulls_176 (by decide) ?_
                  exact ih12 (i5_12 + 1) σ19 (Nat.lt_of_lt_of_le hw.2 (Nat.le_of_lt_succ hm12)) hw.1 _ _ ls hP hD hS (lv_sub hl [2, 3, 4, 0] rfl)
              · skip
                have hw := hw.2 k14
                refine lv_iconst (v := 1) hx hb dX1_findPulls_134 (by decide) ?_
                refine lv_goto (tgt := 139) hx hb dX1_findPulls_135 (by decide) ?_
                refine lv_istore (lv' := [(6, .int 1), (0, .ref (ad 12)), (2, .int i2_1), (3, .long v9), (5, .int i5_12)]) hx hb dX1_findPulls_139 hl (by decide) rfl (fun ls hl => ?_)
                refine lv_aload_n hx hb dX1_findPulls_141 rfl (lv_at hl 1 rfl) ?_
                refine lv_iload hx hb dX1_findPulls_142 (lv_at hl 4 rfl) ?_
                refine lv_iconst (v := 1) hx hb dX1_findPulls_144 (by decide) ?_
                refine lv_iload_n hx hb dX1_findPulls_145 rfl (lv_at hl 2 rfl) ?_
                refine k_ishl (v := iShl 1 i2_1) hx hb dX1_findPulls_146 rfl ?_
                refine lv_iconst (v := 1) hx hb dX1_findPulls_147 (by decide) ?_
                refine k_isub (v := (iShl 1 i2_1) - 1) hx hb dX1_findPulls_148 rfl ?_
                refine lv_iload hx hb dX1_findPulls_149 (lv_at hl 0 rfl) ?_
                refine lv_lload_n hx hb dX1_findPulls_151 rfl (lv_at hl 3 rfl) ?_
                refine lv_lconst (v := 0) hx hb dX1_findPulls_152 (by decide) ?_
                refine k_lcmp (v := lg_cmp v9 0) hx hb dX1_findPulls_153 rfl ?_
                refine lv_if_le (tgt := 161) hx hb dX1_findPulls_154 (by decide) (fun k20 => ?_) (fun k20 => ?_)
                · skip
                  have hw := hw.1 (lc_le.mp k20)
                  refine lv_iconst (v := 0) hx hb dX1_findPulls_161 (by decide) ?_
                  refine k_icmp_ne_t (tgt := 169) hx hb dX1_findPulls_162 (by decide) (by decide) ?_
                  refine lv_iconst (v := 1) hx hb dX1_findPulls_169 (by decide) ?_
                  refine mc_V hSF hl.1 hP hD hS hA hK hGV (m_X1_setPull l hfl D ad cA g i5_12 ((iShl 1 i2_1) - 1) 1 σ12 _ hw) goV_X1_108 pd_X1_setPull ⟨(Nat.le_of_ble_eq_true rfl), (Nat.le_of_ble_eq_true rfl)⟩ ⟨(Nat.le_of_ble_eq_true rfl), (Nat.le_of_ble_eq_true rfl)⟩ (va_recv hK hP (ci := 3) (q0 := 12) rfl wl_12) dX1_findPulls_170 rfl (Nat.le_of_ble_eq_true rfl) (fun v9 σ22 H locs hq hP hD hS => ?_) (fun _ _ _ _ _ _ h => h.elim)
                  obtain ⟨hv9, hw⟩ := hq
                  subst hv9
                  refine W.eq (g2 := F0 m 173 ls []) rfl ?_
                  refine W.widen (k := 0) (n := 0) (Nat.le_refl _) (Nat.le_refl _) ?_
                  refine lv_iinc (v := i5_12 + 1) (lv' := [(5, .int (i5_12 + 1)), (6, .int 1), (0, .ref (ad 12)), (2, .int i2_1), (3, .long v9)]) hx hb dX1_findPulls_173 hl (k := 4) rfl rfl (by decide) rfl (fun ls hl => ?_)
                  refine lv_goto (tgt := 117) hx hb dX1_findPulls_176 (by decide) ?_
                  exact ih12 (i5_12 + 1) σ22 (Nat.lt_of_lt_of_le hw.2 (Nat.le_of_lt_succ hm12)) hw.1 _ _ ls hP hD hS (lv_sub hl [2, 3, 4, 0] rfl)
                · skip
                  have hw := hw.2 (fun q9 => k20 (lc_le.mpr q9))
                  refine lv_iconst (v := 1) hx hb dX1_findPulls_157 (by decide) ?_
                  refine lv_goto (tgt := 162) hx hb dX1_findPulls_158 (by decide) ?_
                  refine k_icmp_ne_f (tgt := 169) hx hb dX1_findPulls_162 (by decide) (by decide) ?_
                  refine lv_iconst (v := (-1)) hx hb dX1_findPulls_165 (by decide) ?_
                  refine lv_goto (tgt := 170) hx hb dX1_findPulls_166 (by decide) ?_
                  refine mc_V hSF hl.1 hP hD hS hA hK hGV (m_X1_setPull l hfl D ad cA g i5_12 ((iShl 1 i2_1) - 1) (-1) σ12 _ hw) goV_X1_108 pd_X1_setPull ⟨(Nat.le_of_ble_eq_true rfl), (Nat.le_of_ble_eq_true rfl)⟩ ⟨(Nat.le_of_ble_eq_true rfl), (Nat.le_of_ble_eq_true rfl)⟩ (va_recv hK hP (ci := 3) (q0 := 12) rfl wl_12) dX1_findPulls_170 rfl (Nat.le_of_ble_eq_true rfl) (fun v9 σ24 H locs hq hP hD hS => ?_) (fun _ _ _ _ _ _ h => h.elim)
                  obtain ⟨hv9, hw⟩ := hq
                  subst hv9
                  refine W.eq (g2 := F0 m 173 ls []) rfl ?_
                  refine W.widen (k := 0) (n := 0) (Nat.le_refl _) (Nat.le_refl _) ?_
                  refine lv_iinc (v := i5_12 + 1) (lv' := [(5, .int (i5_12 + 1)), (6, .int 1), (0, .ref (ad 12)), (2, .int i2_1), (3, .long v9)]) hx hb dX1_findPulls_173 hl (k := 4) rfl rfl (by decide) rfl (fun ls hl => ?_)
                  refine lv_goto (tgt := 117) hx hb dX1_findPulls_176 (by decide) ?_
                  exact ih12 (i5_12 + 1) σ24 (Nat.lt_of_lt_of_le hw.2 (Nat.le_of_lt_succ hm12)) hw.1 _ _ ls hP hD hS (lv_sub hl [2, 3, 4, 0] rfl)
        · skip
          have hw := hw.2 (lc_eq.mp k10)
          refine lv_bipush (v := 99) hx hb dX1_findPulls_103 (by decide) ?_
          exact vx_ret (m_i ⟨_, rfl, hw⟩ hx hb hr hlocks rfl hP hD hS (Nat.le_of_ble_eq_true rfl) (Nat.le_of_ble_eq_true rfl) dX1_findPulls_105)
      · skip
        have hw := hw.2 k3
        refine lv_aload_n hx hb dX1_findPulls_60 rfl (lv_at hl 1 rfl) ?_
        refine k_get (ci := 4) (C := RX2) (T := TX2) (N := 12) (v := .int (gI σ 1)) hx hb hG inX2 hown hK hP 1 wl_1 rfl 1 (by decide) gw75 rfl dX1_findPulls_61 ?_
        refine lv_iload_n hx hb dX1_findPulls_64 rfl (lv_at hl 2 rfl) ?_
        refine lv_icmp_ge (tgt := 73) hx hb dX1_findPulls_65 (by decide) (fun k25 => ?_) (fun k25 => ?_)
        · skip
          have hw := hw.1 k25
          refine lv_bipush (v := 116) hx hb dX1_findPulls_73 (by decide) ?_
          exact vx_ret (m_i ⟨_, rfl, hw⟩ hx hb hr hlocks rfl hP hD hS (Nat.le_of_ble_eq_true rfl) (Nat.le_of_ble_eq_true rfl) dX1_findPulls_75)
        · skip
          have hw := hw.2 k25
          refine lv_bipush (v := 108) hx hb dX1_findPulls_68 (by decide) ?_
          refine lv_goto (tgt := 75) hx hb dX1_findPulls_70 (by decide) ?_
          exact vx_ret (m_i ⟨_, rfl, hw⟩ hx hb hr hlocks rfl hP hD hS (Nat.le_of_ble_eq_true rfl) (Nat.le_of_ble_eq_true rfl) dX1_findPulls_75)
    · skip
      have hw := hw.2 k2
      refine lv_iload_n hx hb dX1_findPulls_12 rfl (lv_at hl 2 rfl) ?_
      refine lv_aload_n hx hb dX1_findPulls_13 rfl (lv_at hl 1 rfl) ?_
      refine lv_iload_n hx hb dX1_findPulls_14 rfl (lv_at hl 3 rfl) ?_
      refine lv_iconst (v := 0) hx hb dX1_findPulls_15 (by decide) ?_
      refine mc_V hSF hl.1 hP hD hS hA hK hGV (m_X2_isBorne l hfl D ad cA g i3_1 0 σ _ hw) goV_X1_84 pd_X2_isBorne ⟨(Nat.le_of_ble_eq_true rfl), (Nat.le_of_ble_eq_true rfl)⟩ ⟨(Nat.le_of_ble_eq_true rfl), (Nat.le_of_ble_eq_true rfl)⟩ (va_recv hK hP (ci := 4) (q0 := 1) rfl wl_1) dX1_findPulls_16 rfl (Nat.le_of_ble_eq_true rfl) (fun v9 σ9 H locs hq hP hD hS => ?_) (fun _ _ _ _ _ _ h => h.elim)
      obtain ⟨r26, hv9, hs9, hw⟩ := hq
      subst hv9
      subst σ9
      refine W.eq (g2 := F0 m 19 ls [.int r26, .int i2_1]) rfl ?_
      refine W.widen (k := 0) (n := 0) (Nat.le_refl _) (Nat.le_refl _) ?_
      refine lv_if_eq (tgt := 26) hx hb dX1_findPulls_19 (by decide) (fun k27 => ?_) (fun k27 => ?_)
      · skip
        have hw := hw.1 k27
        refine lv_iconst (v := 1) hx hb dX1_findPulls_26 (by decide) ?_
        refine k_iadd (v := i2_1 + 1) hx hb dX1_findPulls_27 rfl ?_
        obtain ⟨v28, ev28⟩ : ∃ z : Int32, z = i2_1 + 1 := ⟨_, rfl⟩
        have hw := hw v28 ev28
        refine lv_istore_n (lv' := [(2, .int v28), (0, .ref (ad 12)), (1, .ref (ad 1)), (3, .int i3_1)]) hx hb dX1_findPulls_28 rfl hl (by decide) (by subst ev28; rfl) (fun ls hl => ?_)
        refine lv_iload_n hx hb dX1_findPulls_29 rfl (lv_at hl 0 rfl) ?_
        refine lv_aload_n hx hb dX1_findPulls_30 rfl (lv_at hl 2 rfl) ?_
        refine lv_iload_n hx hb dX1_findPulls_31 rfl (lv_at hl 3 rfl) ?_
        refine lv_iconst (v := 1) hx hb dX1_findPulls_32 (by decide) ?_
        refine mc_V hSF hl.1 hP hD hS hA hK hGV (m_X2_isBorne l hfl D ad cA g i3_1 1 σ _ hw) goV_X1_84 pd_X2_isBorne ⟨(Nat.le_of_ble_eq_true rfl), (Nat.le_of_ble_eq_true rfl)⟩ ⟨(Nat.le_of_ble_eq_true rfl), (Nat.le_of_ble_eq_true rfl)⟩ (va_recv hK hP (ci := 4) (q0 := 1) rfl wl_1) dX1_findPulls_33 rfl (Nat.le_of_ble_eq_true rfl) (fun v9 σ9 H locs hq hP hD hS => ?_) (fun _ _ _ _ _ _ h => h.elim)
        obtain ⟨r29, hv9, hs9, hw⟩ := hq
        subst hv9
        subst σ9
        refine W.eq (g2 := F0 m 36 ls [.int r29, .int v28]) rfl ?_
        refine W.widen (k := 0) (n := 0) (Nat.le_refl _) (Nat.le_refl _) ?_
        refine lv_if_eq (tgt := 43) hx hb dX1_findPulls_36 (by decide) (fun k30 => ?_) (fun k30 => ?_)
        · skip
          have hw := hw.1 k30
          refine lv_iconst (v := 1) hx hb dX1_findPulls_43 (by decide) ?_
          refine k_iadd (v := v28 + 1) hx hb dX1_findPulls_44 rfl ?_
          obtain ⟨v31, ev31⟩ : ∃ z : Int32, z = v28 + 1 := ⟨_, rfl⟩
          have hw := hw v31 ev31
          refine lv_istore_n (lv' := [(2, .int v31), (0, .ref (ad 12)), (1, .ref (ad 1)), (3, .int i3_1)]) hx hb dX1_findPulls_45 rfl hl (by decide) (by subst ev31; rfl) (fun ls hl => ?_)
          refine lv_iinc (v := i3_1 + 1) (lv' := [(3, .int (i3_1 + 1)), (2, .int v31), (0, .ref (ad 12)), (1, .ref (ad 1))]) hx hb dX1_findPulls_46 hl (k := 3) rfl rfl (by decide) rfl (fun ls hl => ?_)
          refine lv_goto (tgt := 4) hx hb dX1_findPulls_49 (by decide) ?_
          exact ih1 v31 (i3_1 + 1) (Nat.lt_of_lt_of_le hw.2 (Nat.le_of_lt_succ hm1)) hw.1 _ _ ls hP hD hS (lv_sub hl [2, 3, 1, 0] rfl)
        · skip
          have hw := hw.2 k30
          refine lv_iconst (v := 0) hx hb dX1_findPulls_39 (by decide) ?_
          refine lv_goto (tgt := 44) hx hb dX1_findPulls_40 (by decide) ?_
          refine k_iadd (v := v28 + 0) hx hb dX1_findPulls_44 rfl ?_
          obtain ⟨v32, ev32⟩ : ∃ z : Int32, z = v28 + 0 := ⟨_, rfl⟩
          have hw := hw v32 ev32
          refine lv_istore_n (lv' := [(2, .int v32), (0, .ref (ad 12)), (1, .ref (ad 1)), (3, .int i3_1)]) hx hb dX1_findPulls_45 rfl hl (by decide) (by subst ev32; rfl) (fun ls hl => ?_)
          refine lv_iinc (v := i3_1 + 1) (lv' := [(3, .int (i3_1 + 1)), (2, .int v32), (0, .ref (ad 12)), (1, .ref (ad 1))]) hx hb dX1_findPulls_46 hl (k := 3) rfl rfl (by decide) rfl (fun ls hl => ?_)
          refine lv_goto (tgt := 4) hx hb dX1_findPulls_49 (by decide) ?_
          exact ih1 v32 (i3_1 + 1) (Nat.lt_of_lt_of_le hw.2 (Nat.le_of_lt_succ hm1)) hw.1 _ _ ls hP hD hS (lv_sub hl [2, 3, 1, 0] rfl)
      · skip
        have hw := hw.2 k27
        refine lv_iconst (v := 0) hx hb dX1_findPulls_22 (by decide) ?_
        refine lv_goto (tgt := 27) hx hb dX1_findPulls_23 (by decide) ?_
        refine k_iadd (v := i2_1 + 0) hx hb dX1_findPulls_27 rfl ?_
        obtain ⟨v33, ev33⟩ : ∃ z : Int32, z = i2_1 + 0 := ⟨_, rfl⟩
        have hw := hw v33 ev33
        refine lv_istore_n (lv' := [(2, .int v33), (0, .ref (ad 12)), (1, .ref (ad 1)), (3, .int i3_1)]) hx hb dX1_findPulls_28 rfl hl (by decide) (by subst ev33; rfl) (fun ls hl => ?_)
        refine lv_iload_n hx hb dX1_findPulls_29 rfl (lv_at hl 0 rfl) ?_
        refine lv_aload_n hx hb dX1_findPulls_30 rfl (lv_at hl 2 rfl) ?_
        refine lv_iload_n hx hb dX1_findPulls_31 rfl (lv_at hl 3 rfl) ?_
        refine lv_iconst (v := 1) hx hb dX1_findPulls_32 (by decide) ?_
        refine mc_V hSF hl.1 hP hD hS hA hK hGV (m_X2_isBorne l hfl D ad cA g i3_1 1 σ _ hw) goV_X1_84 pd_X2_isBorne ⟨(Nat.le_of_ble_eq_true rfl), (Nat.le_of_ble_eq_true rfl)⟩ ⟨(Nat.le_of_ble_eq_true rfl), (Nat.le_of_ble_eq_true rfl)⟩ (va_recv hK hP (ci := 4) (q0 := 1) rfl wl_1) dX1_findPulls_33 rfl (Nat.le_of_ble_eq_true rfl) (fun v9 σ9 H locs hq hP hD hS => ?_) (fun _ _ _ _ _ _ h => h.elim)
        obtain ⟨r34, hv9, hs9, hw⟩ := hq
        subst hv9
        subst σ9
        refine W.eq (g2 := F0 m 36 ls [.int r34, .int v33]) rfl ?_
        refine W.widen (k := 0) (n := 0) (Nat.le_refl _) (Nat.le_refl _) ?_
        refine lv_if_eq (tgt := 43) hx hb dX1_findPulls_36 (by decide) (fun k35 => ?_) (fun k35 => ?_)
        · skip
          have hw := hw.1 k35
          refine lv_iconst (v := 1) hx hb dX1_findPulls_43 (by decide) ?_
          refine k_iadd (v := v33 + 1) hx hb dX1_findPulls_44 rfl ?_
          obtain ⟨v36, ev36⟩ : ∃ z : Int32, z = v33 + 1 := ⟨_, rfl⟩
          have hw := hw v36 ev36
          refine lv_istore_n (lv' := [(2, .int v36), (0, .ref (ad 12)), (1, .ref (ad 1)), (3, .int i3_1)]) hx hb dX1_findPulls_45 rfl hl (by decide) (by subst ev36; rfl) (fun ls hl => ?_)
          refine lv_iinc (v := i3_1 + 1) (lv' := [(3, .int (i3_1 + 1)), (2, .int v36), (0, .ref (ad 12)), (1, .ref (ad 1))]) hx hb dX1_findPulls_46 hl (k := 3) rfl rfl (by decide) rfl (fun ls hl => ?_)
          refine lv_goto (tgt := 4) hx hb dX1_findPulls_49 (by decide) ?_
          exact ih1 v36 (i3_1 + 1) (Nat.lt_of_lt_of_le hw.2 (Nat.le_of_lt_succ hm1)) hw.1 _ _ ls hP hD hS (lv_sub hl [2, 3, 1, 0] rfl)
        · skip
          have hw := hw.2 k35
          refine lv_iconst (v := 0) hx hb dX1_findPulls_39 (by decide) ?_
          refine lv_goto (tgt := 44) hx hb dX1_findPulls_40 (by decide) ?_
          refine k_iadd (v := v33 + 0) hx hb dX1_findPulls_44 rfl ?_
          obtain ⟨v37, ev37⟩ : ∃ z : Int32, z = v33 + 0 := ⟨_, rfl⟩
          have hw := hw v37 ev37
          refine lv_istore_n (lv' := [(2, .int v37), (0, .ref (ad 12)), (1, .ref (ad 1)), (3, .int i3_1)]) hx hb dX1_findPulls_45 rfl hl (by decide) (by subst ev37; rfl) (fun ls hl => ?_)
          refine lv_iinc (v := i3_1 + 1) (lv' := [(3, .int (i3_1 + 1)), (2, .int v37), (0, .ref (ad 12)), (1, .ref (ad 1))]) hx hb dX1_findPulls_46 hl (k := 3) rfl rfl (by decide) rfl (fun ls hl => ?_)
          refine lv_goto (tgt := 4) hx hb dX1_findPulls_49 (by decide) ?_
          exact ih1 v37 (i3_1 + 1) (Nat.lt_of_lt_of_le hw.2 (Nat.le_of_lt_succ hm1)) hw.1 _ _ ls hP hD hS (lv_sub hl [2, 3, 1, 0] rfl)

set_option maxHeartbeats 4000000 in
set_option maxRecDepth 100000 in
theorem m_X1_findBearings (l : Launch) (hfl : l.stackTraces = false) (D : va_G) (ad : Nat → Nat) (cA : Nat → ClassId) (g : gv_T) (σ : Sg) (Q : Sg → Prop) (hw : w_X1_findBearings  σ Q) : MC l yX1_findBearings cX1_findBearings 6 none (RM 2 0 0 46) D ad cA g [.ref (ad 12), .ref (ad 1)] σ (fun v σ' => v = none ∧ Q σ') (fun _ _ => False) := by
  refine MC.of (plainFor_of_name (by decide +kernel)) (Nat.le_of_ble_eq_true rfl) ?_
  intro p e s m args below meth c A ls hx hb hr hml hown hG hlocks htab hA hS hP hK hD hGV hl
  have hown : s.vm.findClass RX1 = some m.cls := hown
  have hl : lv_has ls 6 [(0, .ref (ad 12)), (1, .ref (ad 1))] := hl
  have hSF : CF p m c cX1_findBearings 6 s args RX1 := ⟨hx, hb, hml, hown, hG⟩
  refine lv_iconst (v := 0) hx hb dX1_findBearings_0 (by decide) ?_
  refine lv_istore_n (lv' := [(2, .int 0), (0, .ref (ad 12)), (1, .ref (ad 1))]) hx hb dX1_findBearings_1 rfl hl (by decide) rfl (fun ls hl => ?_)
  obtain ⟨I1, μ1, hI1, hw1⟩ := hw
  have hl : lv_has ls 6 [(0, .ref (ad 12)), (1, .ref (ad 1)), (2, .int 0)] := lv_sub hl [1, 2, 0] rfl
  suffices key1 : ∀ (n1 : Nat) (i2_1 : Int32) (σ1 : Sg), μ1 i2_1 σ1 < n1 → I1 i2_1 σ1 → ∀ (H : Heap) (locs : List Loc) (ls : Array Slot), va_P D vwCl (WL ad cA σ1) H → va_D A (WL ad cA σ1) → va_S A s.heap H locs → lv_has ls 6 [(0, .ref (ad 12)), (1, .ref (ad 1)), (2, .int i2_1)] → W p l e (RM 2 0 0 46) s m args below meth c H locs (0) (0) (vx_MQ below (QM D ad cA A (fun v σ' => v = none ∧ Q σ')) (XM D ad cA A (fun _ _ => False)) args s (RM 2 0 0 46).cells (RM 2 0 0 46).slots A) (F0 m 2 ls []) from key1 _ _ _ (Nat.lt_succ_self _) hI1 _ _ ls hP hD hS hl
  clear hP hD hS hl
  intro n1
  induction n1 with
  | zero => intro _ _ h; exact absurd h (Nat.not_lt_zero _)
  | succ n1 ih1 =>
    intro i2_1 σ1 hm1 hI1 H locs ls hP hD hS hl
    have hw := hw1 i2_1 σ1 hI1
    refine lv_iload_n hx hb dX1_findBearings_2 rfl (lv_at hl 2 rfl) ?_
    refine lv_iconst (v := 2) hx hb dX1_findBearings_3 (by decide) ?_
    refine lv_aload_n hx hb dX1_findBearings_4 rfl (lv_at hl 1 rfl) ?_
    refine k_get (ci := 4) (C := RX2) (T := TX2) (N := 12) (v := .int (gI σ1 0)) hx hb hG inX2 hown hK hP 1 wl_1 rfl 0 (by decide) gw70 rfl dX1_findBearings_5 ?_
    refine k_imul (v := 2 * (gI σ1 0)) hx hb dX1_findBearings_8 rfl ?_
    refine lv_icmp_ge (tgt := 144) hx hb dX1_findBearings_9 (by decide) (fun k2 => ?_) (fun k2 => ?_)
    · skip
      have hw := hw.1 k2
      exact vx_ret (m_v ⟨rfl, hw⟩ hx hb hr hlocks hP hD hS (Nat.le_of_ble_eq_true rfl) (Nat.le_of_ble_eq_true rfl) dX1_findBearings_144)
    · skip
      have hw := hw.2 k2
      refine lv_bipush (v := 9) hx hb dX1_findBearings_12 (by decide) ?_
      refine lv_iload_n hx hb dX1_findBearings_14 rfl (lv_at hl 2 rfl) ?_
      refine k_iadd (v := 9 + i2_1) hx hb dX1_findBearings_15 rfl ?_
      obtain ⟨v3, ev3⟩ : ∃ z : Int32, z = 9 + i2_1 := ⟨_, rfl⟩
      have hw := hw v3 ev3
      refine lv_istore_n (lv' := [(3, .int v3), (0, .ref (ad 12)), (1, .ref (ad 1)), (2, .int i2_1)]) hx hb dX1_findBearings_16 rfl hl (by decide) (by subst ev3; rfl) (fun ls hl => ?_)
      refine lv_aload_n hx hb dX1_findBearings_17 rfl (lv_at hl 1 rfl) ?_
      refine k_get (ci := 3) (C := RX1) (T := TX1) (N := 17) (v := .ref (ad 13)) hx hb hG inX1 hown hK hP 12 wl_12 rfl 3 (by decide) gw144 rfl dX1_findBearings_18 ?_
      refine lv_iload_n hx hb dX1_findBearings_21 rfl (lv_at hl 0 rfl) ?_
      refine lv_lconst (v := 0) hx hb dX1_findBearings_22 (by decide) ?_
      obtain ⟨hc4, hw⟩ := hw
      obtain ⟨σ5, eσ5⟩ : ∃ z : Sg, z = sB σ1 0 (ix v3) 0 := ⟨_, rfl⟩
      have hw := hw σ5 eσ5
      refine k_last (ws1 := WL ad cA σ5) hx hb hK hP hD hS 13 wl_13 (ws_13 eσ5) hc4 dX1_findBearings_23 (fun H locs hP hD hS => ?_)
      refine lv_aload_n hx hb dX1_findBearings_24 rfl (lv_at hl 1 rfl) ?_
      refine k_get (ci := 3) (C := RX1) (T := TX1) (N := 17) (v := .ref (ad 14)) hx hb hG inX1 hown hK hP 12 wl_12 rfl 4 (by decide) gw145 rfl dX1_findBearings_25 ?_
      refine lv_iload_n hx hb dX1_findBearings_28 rfl (lv_at hl 0 rfl) ?_
      refine lv_lconst (v := 0) hx hb dX1_findBearings_29 (by decide) ?_
      obtain ⟨hc6, hw⟩ := hw
      obtain ⟨σ7, eσ7⟩ : ∃ z : Sg, z = sB σ5 1 (ix v3) 0 := ⟨_, rfl⟩
      have hw := hw σ7 eσ7
      refine k_last (ws1 := WL ad cA σ7) hx hb hK hP hD hS 14 wl_14 (ws_14 eσ7) hc6 dX1_findBearings_30 (fun H locs hP hD hS => ?_)
      refine lv_aload_n hx hb dX1_findBearings_31 rfl (lv_at hl 2 rfl) ?_
      refine lv_iload_n hx hb dX1_findBearings_32 rfl (lv_at hl 3 rfl) ?_
      refine lv_iconst (v := 2) hx hb dX1_findBearings_33 (by decide) ?_
      refine k_idiv (v := i2_1 / 2) hx hb dX1_findBearings_34 (by decide +kernel) rfl ?_
      refine lv_iload_n hx hb dX1_findBearings_35 rfl (lv_at hl 3 rfl) ?_
      refine lv_iconst (v := 2) hx hb dX1_findBearings_36 (by decide) ?_
      refine k_irem (v := iRem i2_1 2) hx hb dX1_findBearings_37 (by decide +kernel) rfl ?_
      refine mc_V hSF hl.1 hP hD hS hA hK hGV (m_X2_isBorne l hfl D ad cA g (i2_1 / 2) (iRem i2_1 2) σ7 _ hw) goV_X1_84 pd_X2_isBorne ⟨(Nat.le_of_ble_eq_true rfl), (Nat.le_of_ble_eq_true rfl)⟩ ⟨(Nat.le_of_ble_eq_true rfl), (Nat.le_of_ble_eq_true rfl)⟩ (va_recv hK hP (ci := 4) (q0 := 1) rfl wl_1) dX1_findBearings_38 rfl (Nat.le_of_ble_eq_true rfl) (fun v9 σ9 H locs hq hP hD hS => ?_) (fun _ _ _ _ _ _ h => h.elim)
      obtain ⟨r8, hv9, hs9, hw⟩ := hq
      subst hv9
      subst σ9
      refine W.eq (g2 := F0 m 41 ls [.int r8]) rfl ?_
      refine W.widen (k := 0) (n := 0) (Nat.le_refl _) (Nat.le_refl _) ?_
      refine lv_if_ne (tgt := 47) hx hb dX1_findBearings_41 (by decide) (fun k9 => ?_) (fun k9 => ?_)
      · skip
        have hw := hw.1 k9
        refine lv_aload_n hx hb dX1_findBearings_47 rfl (lv_at hl 1 rfl) ?_
        refine k_get (ci := 3) (C := RX1) (T := TX1) (N := 17) (v := .ref (ad 13)) hx hb hG inX1 hown hK hP 12 wl_12 rfl 3 (by decide) gw144 rfl dX1_findBearings_48 ?_
        refine lv_iload_n hx hb dX1_findBearings_51 rfl (lv_at hl 0 rfl) ?_
        refine lv_aload_n hx hb dX1_findBearings_52 rfl (lv_at hl 2 rfl) ?_
        refine k_get (ci := 4) (C := RX2) (T := TX2) (N := 12) (v := .ref (ad 3)) hx hb hG inX2 hown hK hP 1 wl_1 rfl 3 (by decide) gw79 rfl dX1_findBearings_53 ?_
        refine lv_iload_n hx hb dX1_findBearings_56 rfl (lv_at hl 3 rfl) ?_
        obtain ⟨hc10, hw⟩ := hw
        refine k_iald (v := gA σ7 1 (ix i2_1)) hx hb hK hP 3 wl_3 (ix i2_1) rfl rfl hc10 dX1_findBearings_57 ?_
        refine lv_ineg hx hb dX1_findBearings_58 ?_
        refine lv_i2l (v := (-(gA σ7 1 (ix i2_1))).toInt64) hx hb dX1_findBearings_59 rfl ?_
        obtain ⟨hc11, hw⟩ := hw
        obtain ⟨σ12, eσ12⟩ : ∃ z : Sg, z = sB σ7 0 (ix v3) ((-(gA σ7 1 (ix i2_1))).toInt64) := ⟨_, rfl⟩
        have hw := hw σ12 eσ12
        refine k_last (ws1 := WL ad cA σ12) hx hb hK hP hD hS 13 wl_13 (ws_13 eσ12) hc11 dX1_findBearings_60 (fun H locs hP hD hS => ?_)
        refine lv_iconst (v := 0) hx hb dX1_findBearings_61 (by decide) ?_
        refine lv_istore (lv' := [(4, .int 0), (3, .int v3), (0, .ref (ad 12)), (1, .ref (ad 1)), (2, .int i2_1)]) hx hb dX1_findBearings_62 hl (by decide) rfl (fun ls hl => ?_)
        obtain ⟨I13, μ13, hI13, hw13⟩ := hw
        have hl : lv_has ls 6 [(0, .ref (ad 12)), (1, .ref (ad 1)), (2, .int i2_1), (3, .int v3), (4, .int 0)] := lv_sub hl [2, 3, 4, 1, 0] rfl
        suffices key13 : ∀ (n13 : Nat) (i4_13 : Int32) (σ13 : Sg), μ13 i4_13 σ13 < n13 → I13 i4_13 σ13 → ∀ (H : Heap) (locs : List Loc) (ls : Array Slot), va_P D vwCl (WL ad cA σ13) H → va_D A (WL ad cA σ13) → va_S A s.heap H locs → lv_has ls 6 [(0, .ref (ad 12)), (1, .ref (ad 1)), (2, .int i2_1), (3, .int v3), (4, .int i4_13)] → W p l e (RM 2 0 0 46) s m args below meth c H locs (0) (0) (vx_MQ below (QM D ad cA A (fun v σ' => v = none ∧ Q σ')) (XM D ad cA A (fun _ _ => False)) args s (RM 2 0 0 46).cells (RM 2 0 0 46).slots A) (F0 m 64 ls []) from key13 _ _ _ (Nat.lt_succ_self _) hI13 _ _ ls hP hD hS hl
        clear hP hD hS hl
        intro n13
        induction n13 with
        | zero => intro _ _ h; exact absurd h (Nat.not_lt_zero _)
        | succ n13 ih13 =>
          intro i4_13 σ13 hm13 hI13 H locs ls hP hD hS hl
          have hw := hw13 i4_13 σ13 hI13
          refine lv_iload hx hb dX1_findBearings_64 (lv_at hl 4 rfl) ?_
          refine lv_aload_n hx hb dX1_findBearings_66 rfl (lv_at hl 1 rfl) ?_
          refine k_get (ci := 4) (C := RX2) (T := TX2) (N := 12) (v := .int (gI σ13 1)) hx hb hG inX2 hown hK hP 1 wl_1 rfl 1 (by decide) gw75 rfl dX1_findBearings_67 ?_
          refine lv_icmp_ge (tgt := 133) hx hb dX1_findBearings_70 (by decide) (fun k14 => ?_) (fun k14 => ?_)
          · skip
            have hw := hw.1 k14
            refine lv_aload_n hx hb dX1_findBearings_133 rfl (lv_at hl 0 rfl) ?_
            refine lv_iload_n hx hb dX1_findBearings_134 rfl (lv_at hl 3 rfl) ?_
            refine mc_V hSF hl.1 hP hD hS hA hK hGV (m_X1_carry l hfl D ad cA g v3 σ13 _ hw) goV_X1_138 pd_X1_carry ⟨(Nat.le_of_ble_eq_true rfl), (Nat.le_of_ble_eq_true rfl)⟩ ⟨(Nat.le_of_ble_eq_true rfl), (Nat.le_of_ble_eq_true rfl)⟩ (va_recv hK hP (ci := 3) (q0 := 12) rfl wl_12) dX1_findBearings_135 rfl (Nat.le_of_ble_eq_true rfl) (fun v9 σ16 H locs hq hP hD hS => ?_) (fun _ _ _ _ _ _ h => h.elim)
            obtain ⟨hv9, hw⟩ := hq
            subst hv9
            refine W.eq (g2 := F0 m 138 ls []) rfl ?_
            refine W.widen (k := 0) (n := 0) (Nat.le_refl _) (Nat.le_refl _) ?_
            refine lv_iinc (v := i2_1 + 1) (lv' := [(2, .int (i2_1 + 1)), (0, .ref (ad 12)), (1, .ref (ad 1)), (3, .int v3), (4, .int i4_13)]) hx hb dX1_findBearings_138 hl (k := 2) rfl rfl (by decide) rfl (fun ls hl => ?_)
            refine lv_goto (tgt := 2) hx hb dX1_findBearings_141 (by decide) ?_
            exact ih1 (i2_1 + 1) σ16 (Nat.lt_of_lt_of_le hw.2 (Nat.le_of_lt_succ hm1)) hw.1 _ _ ls hP hD hS (lv_sub hl [1, 2, 0] rfl)
          · skip
            have hw := hw.2 k14
            refine lv_aload_n hx hb dX1_findBearings_73 rfl (lv_at hl 1 rfl) ?_
            refine lv_iload hx hb dX1_findBearings_74 (lv_at hl 4 rfl) ?_
            refine lv_iload_n hx hb dX1_findBearings_76 rfl (lv_at hl 2 rfl) ?_
            refine lv_iconst (v := 2) hx hb dX1_findBearings_77 (by decide) ?_
            refine k_idiv (v := i2_1 / 2) hx hb dX1_findBearings_78 (by decide +kernel) rfl ?_
            refine lv_iload_n hx hb dX1_findBearings_79 rfl (lv_at hl 2 rfl) ?_
            refine lv_iconst (v := 2) hx hb dX1_findBearings_80 (by decide) ?_
            refine k_irem (v := iRem i2_1 2) hx hb dX1_findBearings_81 (by decide +kernel) rfl ?_
            refine mc_V hSF hl.1 hP hD hS hA hK hGV (m_X2_wayAlong l hfl D ad cA g i4_13 (i2_1 / 2) (iRem i2_1 2) σ13 _ hw) goV_X1_112 pd_X2_wayAlong ⟨(Nat.le_of_ble_eq_true rfl), (Nat.le_of_ble_eq_true rfl)⟩ ⟨(Nat.le_of_ble_eq_true rfl), (Nat.le_of_ble_eq_true rfl)⟩ (va_recv hK hP (ci := 4) (q0 := 1) rfl wl_1) dX1_findBearings_82 rfl (Nat.le_of_ble_eq_true rfl) (fun v9 σ9 H locs hq hP hD hS => ?_) (fun _ _ _ _ _ _ h => h.elim)
            obtain ⟨r17, hv9, hs9, hw⟩ := hq
            subst hv9
            subst σ9
            refine W.eq (g2 := F0 m 85 ls [.int r17]) rfl ?_
            refine W.widen (k := 0) (n := 0) (Nat.le_refl _) (Nat.le_refl _) ?_
            refine lv_istore (lv' := [(5, .int r17), (0, .ref (ad 12)), (1, .ref (ad 1)), (2, .int i2_1), (3, .int v3), (4, .int i4_13)]) hx hb dX1_findBearings_85 hl (by decide) rfl (fun ls hl => ?_)
            refine lv_aload_n hx hb dX1_findBearings_87 rfl (lv_at hl 1 rfl) ?_
            refine k_get (ci := 3) (C := RX1) (T := TX1) (N := 17) (v := .ref (ad 13)) hx hb hG inX1 hown hK hP 12 wl_12 rfl 3 (by decide) gw144 rfl dX1_findBearings_88 ?_
            refine lv_iload_n hx hb dX1_findBearings_91 rfl (lv_at hl 4 rfl) ?_
            refine lv_dup2_11 hx hb dX1_findBearings_92 rfl rfl ?_
            obtain ⟨hc18, hw⟩ := hw
            refine k_lald (v := gB σ13 0 (ix v3)) hx hb hK hP 13 wl_13 (ix v3) rfl rfl hc18 dX1_findBearings_93 ?_
            refine lv_iload hx hb dX1_findBearings_94 (lv_at hl 0 rfl) ?_
            refine lv_i2l (v := r17.toInt64) hx hb dX1_findBearings_96 rfl ?_
            refine lv_aload_n hx hb dX1_findBearings_97 rfl (lv_at hl 1 rfl) ?_
            refine k_get (ci := 3) (C := RX1) (T := TX1) (N := 17) (v := .ref (ad 13)) hx hb hG inX1 hown hK hP 12 wl_12 rfl 3 (by decide) gw144 rfl dX1_findBearings_98 ?_
            refine lv_iload hx hb dX1_findBearings_101 (lv_at hl 5 rfl) ?_
            obtain ⟨hc19, hw⟩ := hw
            refine k_lald (v := gB σ13 0 (ix i4_13)) hx hb hK hP 13 wl_13 (ix i4_13) rfl rfl hc19 dX1_findBearings_103 ?_
            refine k_lmul (v := r17.toInt64 * (gB σ13 0 (ix i4_13))) hx hb dX1_findBearings_104 rfl ?_
            refine k_lsub (v := (gB σ13 0 (ix v3)) - (r17.toInt64 * (gB σ13 0 (ix i4_13)))) hx hb dX1_findBearings_105 rfl ?_
            obtain ⟨hc20, hw⟩ := hw
            obtain ⟨σ21, eσ21⟩ : ∃ z : Sg, z = sB σ13 0 (ix v3) ((gB σ13 0 (ix v3)) - (r17.toInt64 * (gB σ13 0 (ix i4_13)))) := ⟨_, rfl⟩
            have hw := hw σ21 eσ21
            refine k_last (ws1 := WL ad cA σ21) hx hb hK hP hD hS 13 wl_13 (ws_13 eσ21) hc20 dX1_findBearings_106 (fun H locs hP hD hS => ?_)
            refine lv_aload_n hx hb dX1_findBearings_107 rfl (lv_at hl 1 rfl) ?_
            refine k_get (ci := 3) (C := RX1) (T := TX1) (N := 17) (v := .ref (ad 14)) hx hb hG inX1 hown hK hP 12 wl_12 rfl 4 (by decide) gw145 rfl dX1_findBearings_108 ?_
            refine lv_iload_n hx hb dX1_findBearings_111 rfl (lv_at hl 4 rfl) ?_
            refine lv_dup2_11 hx hb dX1_findBearings_112 rfl rfl ?_
            obtain ⟨hc22, hw⟩ := hw
            refine k_lald (v := gB σ21 1 (ix v3)) hx hb hK hP 14 wl_14 (ix v3) rfl rfl hc22 dX1_findBearings_113 ?_
            refine lv_iload hx hb dX1_findBearings_114 (lv_at hl 0 rfl) ?_
            refine lv_i2l (v := r17.toInt64) hx hb dX1_findBearings_116 rfl ?_
            refine lv_aload_n hx hb dX1_findBearings_117 rfl (lv_at hl 1 rfl) ?_
            refine k_get (ci := 3) (C := RX1) (T := TX1) (N := 17) (v := .ref (ad 14)) hx hb hG inX1 hown hK hP 12 wl_12 rfl 4 (by decide) gw145 rfl dX1_findBearings_118 ?_
            refine lv_iload hx hb dX1_findBearings_121 (lv_at hl 5 rfl) ?_
            obtain ⟨hc23, hw⟩ := hw
            refine k_lald (v := gB σ21 1 (ix i4_13)) hx hb hK hP 14 wl_14 (ix i4_13) rfl rfl hc23 dX1_findBearings_123 ?_
            refine k_lmul (v := r17.toInt64 * (gB σ21 1 (ix i4_13))) hx hb dX1_findBearings_124 rfl ?_
            refine k_lsub (v := (gB σ21 1 (ix v3)) - (r17.toInt64 * (gB σ21 1 (ix i4_13)))) hx hb dX1_findBearings_125 rfl ?_
            obtain ⟨hc24, hw⟩ := hw
            obtain ⟨σ25, eσ25⟩ : ∃ z : Sg, z = sB σ21 1 (ix v3) ((gB σ21 1 (ix v3)) - (r17.toInt64 * (gB σ21 1 (ix i4_13)))) := ⟨_, rfl⟩
            have hw := hw σ25 eσ25
            refine k_last (ws1 := WL ad cA σ25) hx hb hK hP hD hS 14 wl_14 (ws_14 eσ25) hc24 dX1_findBearings_126 (fun H locs hP hD hS => ?_)
            refine lv_iinc (v := i4_13 + 1) (lv' := [(4, .int (i4_13 + 1)), (5, .int r17), (0, .ref (ad 12)), (1, .ref (ad 1)), (2, .int i2_1), (3, .int v3)]) hx hb dX1_findBearings_127 hl (k := 5) rfl rfl (by decide) rfl (fun ls hl => ?_)
            refine lv_goto (tgt := 64) hx hb dX1_findBearings_130 (by decide) ?_
            exact ih13 (i4_13 + 1) σ25 (Nat.lt_of_lt_of_le hw.2 (Nat.le_of_lt_succ hm13)) hw.1 _ _ ls hP hD hS (lv_sub hl [2, 3, 4, 5, 0] rfl)
      · skip
        have hw := hw.2 k9
        refine lv_goto (tgt := 138) hx hb dX1_findBearings_44 (by decide) ?_
        refine lv_iinc (v := i2_1 + 1) (lv' := [(2, .int (i2_1 + 1)), (3, .int v3), (0, .ref (ad 12)), (1, .ref (ad 1))]) hx hb dX1_findBearings_138 hl (k := 3) rfl rfl (by decide) rfl (fun ls hl => ?_)
        refine lv_goto (tgt := 2) hx hb dX1_findBearings_141 (by decide) ?_
        exact ih1 (i2_1 + 1) σ7 (Nat.lt_of_lt_of_le hw.2 (Nat.le_of_lt_succ hm1)) hw.1 _ _ ls hP hD hS (lv_sub hl [2, 3, 0] rfl)

set_option maxHeartbeats 4000000 in
set_option maxRecDepth 100000 in
theorem m_X5_set_24 (l : Launch) (hfl : l.stackTraces = false) (D : va_G) (ad : Nat → Nat) (cA : Nat → ClassId) (g : gv_T) (p1 : Int64) (σ : Sg) (Q : Sg → Prop) (hw : w_X5_set_24 p1 σ Q) : MC l yX5_set cX5_set 4 none (RM 0 0 0 0) D ad cA g [.ref (ad 24), .long p1] σ (fun v σ' => v = none ∧ Q σ') (fun _ _ => False) := by
  refine MC.of (plainFor_of_name (by decide +kernel)) (Nat.le_of_ble_eq_true rfl) ?_
  intro p e s m args below meth c A ls hx hb hr hml hown hG hlocks htab hA hS hP hK hD hGV hl
  have hown : s.vm.findClass RX5 = some m.cls := hown
  have hl : lv_has ls 4 [(0, .ref (ad 24)), (1, .long p1)] := hl
  have hSF : CF p m c cX5_set 4 s args RX5 := ⟨hx, hb, hml, hown, hG⟩
  refine lv_iconst (v := 2) hx hb dX5_set_0 (by decide) ?_
  refine lv_istore_n (lv' := [(3, .int 2), (0, .ref (ad 24)), (1, .long p1)]) hx hb dX5_set_1 rfl hl (by decide) rfl (fun ls hl => ?_)
  obtain ⟨I1, μ1, hI1, hw1⟩ := hw
  have hl : lv_has ls 4 [(0, .ref (ad 24)), (1, .long p1), (3, .int 2)] := lv_sub hl [1, 2, 0] rfl
  suffices key1 : ∀ (n1 : Nat) (i3_1 : Int32) (σ1 : Sg), μ1 i3_1 σ1 < n1 → I1 i3_1 σ1 → ∀ (H : Heap) (locs : List Loc) (ls : Array Slot), va_P D vwCl (WL ad cA σ1) H → va_D A (WL ad cA σ1) → va_S A s.heap H locs → lv_has ls 4 [(0, .ref (ad 24)), (1, .long p1), (3, .int i3_1)] → W p l e (RM 0 0 0 0) s m args below meth c H locs (0) (0) (vx_MQ below (QM D ad cA A (fun v σ' => v = none ∧ Q σ')) (XM D ad cA A (fun _ _ => False)) args s (RM 0 0 0 0).cells (RM 0 0 0 0).slots A) (F0 m 2 ls []) from key1 _ _ _ (Nat.lt_succ_self _) hI1 _ _ ls hP hD hS hl
  clear hP hD hS hl
  intro n1
  induction n1 with
  | zero => intro _ _ h; exact absurd h (Nat.not_lt_zero _)
  | succ n1 ih1 =>
    intro i3_1 σ1 hm1 hI1 H locs ls hP hD hS hl
    have hw := hw1 i3_1 σ1 hI1
    refine lv_iload_n hx hb dX5_set_2 rfl (lv_at hl 2 rfl) ?_
    refine lv_bipush (v := 8) hx hb dX5_set_3 (by decide) ?_
    refine lv_icmp_ge (tgt := 21) hx hb dX5_set_5 (by decide) (fun k2 => ?_) (fun k2 => ?_)
    · skip
      have hw := hw.1 k2
      refine lv_aload_n hx hb dX5_set_21 rfl (lv_at hl 0 rfl) ?_
      refine k_get (ci := 7) (C := RX5) (T := TX5) (N := 1) (v := .ref (ad 25)) hx hb hG inX5 hown hK hP 24 wl_24 rfl 0 (by decide) gw134 rfl dX5_set_22 ?_
      refine lv_iconst (v := 0) hx hb dX5_set_25 (by decide) ?_
      refine lv_lload_n hx hb dX5_set_26 rfl (lv_at hl 1 rfl) ?_
      refine lv_ldc2 hx hb hown (hG _ gw393) dX5_set_27 ?_
      refine k_land (v := p1 &&& 4294967295) hx hb dX5_set_30 rfl ?_
      obtain ⟨σ3, eσ3⟩ : ∃ z : Sg, z = sB σ1 7 (ix 0) (p1 &&& 4294967295) := ⟨_, rfl⟩
      have hw := hw σ3 eσ3
      refine k_last (ws1 := WL ad cA σ3) hx hb hK hP hD hS 25 wl_25 (ws_25 eσ3) (by unfold vp_in; decide) dX5_set_31 (fun H locs hP hD hS => ?_)
      refine lv_aload_n hx hb dX5_set_32 rfl (lv_at hl 0 rfl) ?_
      refine k_get (ci := 7) (C := RX5) (T := TX5) (N := 1) (v := .ref (ad 25)) hx hb hG inX5 hown hK hP 24 wl_24 rfl 0 (by decide) gw134 rfl dX5_set_33 ?_
      refine lv_iconst (v := 1) hx hb dX5_set_36 (by decide) ?_
      refine lv_lload_n hx hb dX5_set_37 rfl (lv_at hl 1 rfl) ?_
      refine lv_bipush (v := 32) hx hb dX5_set_38 (by decide) ?_
      refine lv_lushr (v := lUshr p1 32) hx hb dX5_set_40 rfl ?_
      obtain ⟨σ4, eσ4⟩ : ∃ z : Sg, z = sB σ3 7 (ix 1) (lUshr p1 32) := ⟨_, rfl⟩
      have hw := hw σ4 eσ4
      refine k_last (ws1 := WL ad cA σ4) hx hb hK hP hD hS 25 wl_25 (ws_25 eσ4) (by unfold vp_in; decide) dX5_set_41 (fun H locs hP hD hS => ?_)
      exact vx_ret (m_v ⟨rfl, hw⟩ hx hb hr hlocks hP hD hS (Nat.le_of_ble_eq_true rfl) (Nat.le_of_ble_eq_true rfl) dX5_set_42)
    · skip
      have hw := hw.2 k2
      refine lv_aload_n hx hb dX5_set_8 rfl (lv_at hl 0 rfl) ?_
      refine k_get (ci := 7) (C := RX5) (T := TX5) (N := 1) (v := .ref (ad 25)) hx hb hG inX5 hown hK hP 24 wl_24 rfl 0 (by decide) gw134 rfl dX5_set_9 ?_
      refine lv_iload_n hx hb dX5_set_12 rfl (lv_at hl 2 rfl) ?_
      refine lv_lconst (v := 0) hx hb dX5_set_13 (by decide) ?_
      obtain ⟨hc5, hw⟩ := hw
      obtain ⟨σ6, eσ6⟩ : ∃ z : Sg, z = sB σ1 7 (ix i3_1) 0 := ⟨_, rfl⟩
      have hw := hw σ6 eσ6
      refine k_last (ws1 := WL ad cA σ6) hx hb hK hP hD hS 25 wl_25 (ws_25 eσ6) hc5 dX5_set_14 (fun H locs hP hD hS => ?_)
      refine lv_iinc (v := i3_1 + 1) (lv' := [(3, .int (i3_1 + 1)), (0, .ref (ad 24)), (1, .long p1)]) hx hb dX5_set_15 hl (k := 2) rfl rfl (by decide) rfl (fun ls hl => ?_)
      refine lv_goto (tgt := 2) hx hb dX5_set_18 (by decide) ?_
      exact ih1 (i3_1 + 1) σ6 (Nat.lt_of_lt_of_le hw.2 (Nat.le_of_lt_succ hm1)) hw.1 _ _ ls hP hD hS (lv_sub hl [1, 2, 0] rfl)

set_option maxHeartbeats 4000000 in
set_option maxRecDepth 100000 in
theorem m_X2_lengthSquare (l : Launch) (hfl : l.stackTraces = false) (D : va_G) (ad : Nat → Nat) (cA : Nat → ClassId) (g : gv_T) (p1 : Int32) (σ : Sg) (Q : Int32 → Prop) (hw : w_X2_lengthSquare p1 σ Q) : MC l yX2_lengthSquare cX2_lengthSquare 6 (some .int) (RM 0 0 0 0) D ad cA g [.ref (ad 1), .int p1] σ (fun v σ' => ∃ r : Int32, v = some (.int r) ∧ σ' = σ ∧ Q r) (fun _ _ => False) := by
  refine MC.of (plainFor_of_name (by decide +kernel)) (Nat.le_of_ble_eq_true rfl) ?_
  intro p e s m args below meth c A ls hx hb hr hml hown hG hlocks htab hA hS hP hK hD hGV hl
  have hown : s.vm.findClass RX2 = some m.cls := hown
  have hl : lv_has ls 6 [(0, .ref (ad 1)), (1, .int p1)] := hl
  have hSF : CF p m c cX2_lengthSquare 6 s args RX2 := ⟨hx, hb, hml, hown, hG⟩
  refine lv_iconst (v := 2) hx hb dX2_lengthSquare_0 (by decide) ?_
  refine lv_aload_n hx hb dX2_lengthSquare_1 rfl (lv_at hl 0 rfl) ?_
  refine k_get (ci := 4) (C := RX2) (T := TX2) (N := 12) (v := .ref (ad 6)) hx hb hG inX2 hown hK hP 1 wl_1 rfl 6 (by decide) gw82 rfl dX2_lengthSquare_2 ?_
  refine lv_iload_n hx hb dX2_lengthSquare_5 rfl (lv_at hl 1 rfl) ?_
  obtain ⟨hc1, hw⟩ := hw
  refine k_iald (v := gA σ 4 (ix p1)) hx hb hK hP 6 wl_6 (ix p1) rfl rfl hc1 dX2_lengthSquare_6 ?_
  refine k_imul (v := 2 * (gA σ 4 (ix p1))) hx hb dX2_lengthSquare_7 rfl ?_
  obtain ⟨v2, ev2⟩ : ∃ z : Int32, z = 2 * (gA σ 4 (ix p1)) := ⟨_, rfl⟩
  have hw := hw v2 ev2
  refine lv_istore_n (lv' := [(2, .int v2), (0, .ref (ad 1)), (1, .int p1)]) hx hb dX2_lengthSquare_8 rfl hl (by decide) (by subst ev2; rfl) (fun ls hl => ?_)
  refine lv_iconst (v := 2) hx hb dX2_lengthSquare_9 (by decide) ?_
  refine lv_aload_n hx hb dX2_lengthSquare_10 rfl (lv_at hl 1 rfl) ?_
  refine k_get (ci := 4) (C := RX2) (T := TX2) (N := 12) (v := .ref (ad 7)) hx hb hG inX2 hown hK hP 1 wl_1 rfl 7 (by decide) gw83 rfl dX2_lengthSquare_11 ?_
  refine lv_iload_n hx hb dX2_lengthSquare_14 rfl (lv_at hl 2 rfl) ?_
  obtain ⟨hc3, hw⟩ := hw
  refine k_iald (v := gA σ 5 (ix p1)) hx hb hK hP 7 wl_7 (ix p1) rfl rfl hc3 dX2_lengthSquare_15 ?_
  refine k_imul (v := 2 * (gA σ 5 (ix p1))) hx hb dX2_lengthSquare_16 rfl ?_
  obtain ⟨v4, ev4⟩ : ∃ z : Int32, z = 2 * (gA σ 5 (ix p1)) := ⟨_, rfl⟩
  have hw := hw v4 ev4
  refine lv_istore_n (lv' := [(3, .int v4), (2, .int v2), (0, .ref (ad 1)), (1, .int p1)]) hx hb dX2_lengthSquare_17 rfl hl (by decide) (by subst ev4; rfl) (fun ls hl => ?_)
  refine lv_aload_n hx hb dX2_lengthSquare_18 rfl (lv_at hl 2 rfl) ?_
  refine k_get (ci := 4) (C := RX2) (T := TX2) (N := 12) (v := .ref (ad 2)) hx hb hG inX2 hown hK hP 1 wl_1 rfl 2 (by decide) gw76 rfl dX2_lengthSquare_19 ?_
  refine lv_iload_n hx hb dX2_lengthSquare_22 rfl (lv_at hl 0 rfl) ?_
  refine lv_iconst (v := 0) hx hb dX2_lengthSquare_23 (by decide) ?_
  refine k_iadd (v := v4 + 0) hx hb dX2_lengthSquare_24 rfl ?_
  obtain ⟨hc5, hw⟩ := hw
  refine k_iald (v := gA σ 0 (ix (v4 + 0))) hx hb hK hP 2 wl_2 (ix (v4 + 0)) rfl rfl hc5 dX2_lengthSquare_25 ?_
  refine lv_aload_n hx hb dX2_lengthSquare_26 rfl (lv_at hl 2 rfl) ?_
  refine k_get (ci := 4) (C := RX2) (T := TX2) (N := 12) (v := .ref (ad 2)) hx hb hG inX2 hown hK hP 1 wl_1 rfl 2 (by decide) gw76 rfl dX2_lengthSquare_27 ?_
  refine lv_iload_n hx hb dX2_lengthSquare_30 rfl (lv_at hl 1 rfl) ?_
  refine lv_iconst (v := 0) hx hb dX2_lengthSquare_31 (by decide) ?_
  refine k_iadd (v := v2 + 0) hx hb dX2_lengthSquare_32 rfl ?_
  obtain ⟨hc6, hw⟩ := hw
  refine k_iald (v := gA σ 0 (ix (v2 + 0))) hx hb hK hP 2 wl_2 (ix (v2 + 0)) rfl rfl hc6 dX2_lengthSquare_33 ?_
  refine k_isub (v := (gA σ 0 (ix (v4 + 0))) - (gA σ 0 (ix (v2 + 0)))) hx hb dX2_lengthSquare_34 rfl ?_
  obtain ⟨v7, ev7⟩ : ∃ z : Int32, z = (gA σ 0 (ix (v4 + 0))) - (gA σ 0 (ix (v2 + 0))) := ⟨_, rfl⟩
  have hw := hw v7 ev7
  refine lv_istore (lv' := [(4, .int v7), (3, .int v4), (2, .int v2), (0, .ref (ad 1)), (1, .int p1)]) hx hb dX2_lengthSquare_35 hl (by decide) (by subst ev7; rfl) (fun ls hl => ?_)
  refine lv_aload_n hx hb dX2_lengthSquare_37 rfl (lv_at hl 3 rfl) ?_
  refine k_get (ci := 4) (C := RX2) (T := TX2) (N := 12) (v := .ref (ad 2)) hx hb hG inX2 hown hK hP 1 wl_1 rfl 2 (by decide) gw76 rfl dX2_lengthSquare_38 ?_
  refine lv_iload_n hx hb dX2_lengthSquare_41 rfl (lv_at hl 1 rfl) ?_
  refine lv_iconst (v := 1) hx hb dX2_lengthSquare_42 (by decide) ?_
  refine k_iadd (v := v4 + 1) hx hb dX2_lengthSquare_43 rfl ?_
  obtain ⟨hc8, hw⟩ := hw
  refine k_iald (v := gA σ 0 (ix (v4 + 1))) hx hb hK hP 2 wl_2 (ix (v4 + 1)) rfl rfl hc8 dX2_lengthSquare_44 ?_
  refine lv_aload_n hx hb dX2_lengthSquare_45 rfl (lv_at hl 3 rfl) ?_
  refine k_get (ci := 4) (C := RX2) (T := TX2) (N := 12) (v := .ref (ad 2)) hx hb hG inX2 hown hK hP 1 wl_1 rfl 2 (by decide) gw76 rfl dX2_lengthSquare_46 ?_
  refine lv_iload_n hx hb dX2_lengthSquare_49 rfl (lv_at hl 2 rfl) ?_
  refine lv_iconst (v := 1) hx hb dX2_lengthSquare_50 (by decide) ?_
  refine k_iadd (v := v2 + 1) hx hb dX2_lengthSquare_51 rfl ?_
  obtain ⟨hc9, hw⟩ := hw
  refine k_iald (v := gA σ 0 (ix (v2 + 1))) hx hb hK hP 2 wl_2 (ix (v2 + 1)) rfl rfl hc9 dX2_lengthSquare_52 ?_
  refine k_isub (v := (gA σ 0 (ix (v4 + 1))) - (gA σ 0 (ix (v2 + 1)))) hx hb dX2_lengthSquare_53 rfl ?_
  obtain ⟨v10, ev10⟩ : ∃ z : Int32, z = (gA σ 0 (ix (v4 + 1))) - (gA σ 0 (ix (v2 + 1))) := ⟨_, rfl⟩
  have hw := hw v10 ev10
  refine lv_istore (lv' := [(5, .int v10), (4, .int v7), (3, .int v4), (2, .int v2), (0, .ref (ad 1)), (1, .int p1)]) hx hb dX2_lengthSquare_54 hl (by decide) (by subst ev10; rfl) (fun ls hl => ?_)
  refine lv_iload hx hb dX2_lengthSquare_56 (lv_at hl 1 rfl) ?_
  refine lv_iload hx hb dX2_lengthSquare_58 (lv_at hl 1 rfl) ?_
  refine k_imul (v := v7 * v7) hx hb dX2_lengthSquare_60 rfl ?_
  refine lv_iload hx hb dX2_lengthSquare_61 (lv_at hl 0 rfl) ?_
  refine lv_iload hx hb dX2_lengthSquare_63 (lv_at hl 0 rfl) ?_
  refine k_imul (v := v10 * v10) hx hb dX2_lengthSquare_65 rfl ?_
  refine k_iadd (v := (v7 * v7) + (v10 * v10)) hx hb dX2_lengthSquare_66 rfl ?_
  exact vx_ret (m_i ⟨_, rfl, rfl, hw⟩ hx hb hr hlocks rfl hP hD hS (Nat.le_of_ble_eq_true rfl) (Nat.le_of_ble_eq_true rfl) dX2_lengthSquare_67)

set_option maxHeartbeats 4000000 in
set_option maxRecDepth 100000 in
theorem m_X5_set_22 (l : Launch) (hfl : l.stackTraces = false) (D : va_G) (ad : Nat → Nat) (cA : Nat → ClassId) (g : gv_T) (p1 : Int64) (σ : Sg) (Q : Sg → Prop) (hw : w_X5_set_22 p1 σ Q) : MC l yX5_set cX5_set 4 none (RM 0 0 0 0) D ad cA g [.ref (ad 22), .long p1] σ (fun v σ' => v = none ∧ Q σ') (fun _ _ => False) := by
  refine MC.of (plainFor_of_name (by decide +kernel)) (Nat.le_of_ble_eq_true rfl) ?_
  intro p e s m args below meth c A ls hx hb hr hml hown hG hlocks htab hA hS hP hK hD hGV hl
  have hown : s.vm.findClass RX5 = some m.cls := hown
  have hl : lv_has ls 4 [(0, .ref (ad 22)), (1, .long p1)] := hl
  have hSF : CF p m c cX5_set 4 s args RX5 := ⟨hx, hb, hml, hown, hG⟩
  refine lv_iconst (v := 2) hx hb dX5_set_0 (by decide) ?_
  refine lv_istore_n (lv' := [(3, .int 2), (0, .ref (ad 22)), (1, .long p1)]) hx hb dX5_set_1 rfl hl (by decide) rfl (fun ls hl => ?_)
  obtain ⟨I1, μ1, hI1, hw1⟩ := hw
  have hl : lv_has ls 4 [(0, .ref (ad 22)), (1, .long p1), (3, .int 2)] := lv_sub hl [1, 2, 0] rfl
  suffices key1 : ∀ (n1 : Nat) (i3_1 : Int32) (σ1 : Sg), μ1 i3_1 σ1 < n1 → I1 i3_1 σ1 → ∀ (H : Heap) (locs : List Loc) (ls : Array Slot), va_P D vwCl (WL ad cA σ1) H → va_D A (WL ad cA σ1) → va_S A s.heap H locs → lv_has ls 4 [(0, .ref (ad 22)), (1, .long p1), (3, .int i3_1)] → W p l e (RM 0 0 0 0) s m args below meth c H locs (0) (0) (vx_MQ below (QM D ad cA A (fun v σ' => v = none ∧ Q σ')) (XM D ad cA A (fun _ _ => False)) args s (RM 0 0 0 0).cells (RM 0 0 0 0).slots A) (F0 m 2 ls []) from key1 _ _ _ (Nat.lt_succ_self _) hI1 _ _ ls hP hD hS hl
  clear hP hD hS hl
  intro n1
  induction n1 with
  | zero => intro _ _ h; exact absurd h (Nat.not_lt_zero _)
  | succ n1 ih1 =>
    intro i3_1 σ1 hm1 hI1 H locs ls hP hD hS hl
    have hw := hw1 i3_1 σ1 hI1
    refine lv_iload_n hx hb dX5_set_2 rfl (lv_at hl 2 rfl) ?_
    refine lv_bipush (v := 8) hx hb dX5_set_3 (by decide) ?_
    refine lv_icmp_ge (tgt := 21) hx hb dX5_set_5 (by decide) (fun k2 => ?_) (fun k2 => ?_)
    · skip
      have hw := hw.1 k2
      refine lv_aload_n hx hb dX5_set_21 rfl (lv_at hl 0 rfl) ?_
      refine k_get (ci := 7) (C := RX5) (T := TX5) (N := 1) (v := .ref (ad 23)) hx hb hG inX5 hown hK hP 22 wl_22 rfl 0 (by decide) gw134 rfl dX5_set_22 ?_
      refine lv_iconst (v := 0) hx hb dX5_set_25 (by decide) ?_
      refine lv_lload_n hx hb dX5_set_26 rfl (lv_at hl 1 rfl) ?_
      refine lv_ldc2 hx hb hown (hG _ gw393) dX5_set_27 ?_
      refine k_land (v := p1 &&& 4294967295) hx hb dX5_set_30 rfl ?_
      obtain ⟨σ3, eσ3⟩ : ∃ z : Sg, z = sB σ1 6 (ix 0) (p1 &&& 4294967295) := ⟨_, rfl⟩
      have hw := hw σ3 eσ3
      refine k_last (ws1 := WL ad cA σ3) hx hb hK hP hD hS 23 wl_23 (ws_23 eσ3) (by unfold vp_in; decide) dX5_set_31 (fun H locs hP hD hS => ?_)
      refine lv_aload_n hx hb dX5_set_32 rfl (lv_at hl 0 rfl) ?_
      refine k_get (ci := 7) (C := RX5) (T := TX5) (N := 1) (v := .ref (ad 23)) hx hb hG inX5 hown hK hP 22 wl_22 rfl 0 (by decide) gw134 rfl dX5_set_33 ?_
      refine lv_iconst (v := 1) hx hb dX5_set_36 (by decide) ?_
      refine lv_lload_n hx hb dX5_set_37 rfl (lv_at hl 1 rfl) ?_
      refine lv_bipush (v := 32) hx hb dX5_set_38 (by decide) ?_
      refine lv_lushr (v := lUshr p1 32) hx hb dX5_set_40 rfl ?_
      obtain ⟨σ4, eσ4⟩ : ∃ z : Sg, z = sB σ3 6 (ix 1) (lUshr p1 32) := ⟨_, rfl⟩
      have hw := hw σ4 eσ4
      refine k_last (ws1 := WL ad cA σ4) hx hb hK hP hD hS 23 wl_23 (ws_23 eσ4) (by unfold vp_in; decide) dX5_set_41 (fun H locs hP hD hS => ?_)
      exact vx_ret (m_v ⟨rfl, hw⟩ hx hb hr hlocks hP hD hS (Nat.le_of_ble_eq_true rfl) (Nat.le_of_ble_eq_true rfl) dX5_set_42)
    · skip
      have hw := hw.2 k2
      refine lv_aload_n hx hb dX5_set_8 rfl (lv_at hl 0 rfl) ?_
      refine k_get (ci := 7) (C := RX5) (T := TX5) (N := 1) (v := .ref (ad 23)) hx hb hG inX5 hown hK hP 22 wl_22 rfl 0 (by decide) gw134 rfl dX5_set_9 ?_
      refine lv_iload_n hx hb dX5_set_12 rfl (lv_at hl 2 rfl) ?_
      refine lv_lconst (v := 0) hx hb dX5_set_13 (by decide) ?_
      obtain ⟨hc5, hw⟩ := hw
      obtain ⟨σ6, eσ6⟩ : ∃ z : Sg, z = sB σ1 6 (ix i3_1) 0 := ⟨_, rfl⟩
      have hw := hw σ6 eσ6
      refine k_last (ws1 := WL ad cA σ6) hx hb hK hP hD hS 23 wl_23 (ws_23 eσ6) hc5 dX5_set_14 (fun H locs hP hD hS => ?_)
      refine lv_iinc (v := i3_1 + 1) (lv' := [(3, .int (i3_1 + 1)), (0, .ref (ad 22)), (1, .long p1)]) hx hb dX5_set_15 hl (k := 2) rfl rfl (by decide) rfl (fun ls hl => ?_)
      refine lv_goto (tgt := 2) hx hb dX5_set_18 (by decide) ?_
      exact ih1 (i3_1 + 1) σ6 (Nat.lt_of_lt_of_le hw.2 (Nat.le_of_lt_succ hm1)) hw.1 _ _ ls hP hD hS (lv_sub hl [1, 2, 0] rfl)

set_option maxHeartbeats 4000000 in
set_option maxRecDepth 100000 in
theorem m_X5_setProduct_26_22_24 (l : Launch) (hfl : l.stackTraces = false) (D : va_G) (ad : Nat → Nat) (cA : Nat → ClassId) (g : gv_T) (σ : Sg) (Q : Sg → Prop) (hw : w_X5_setProduct_26_22_24  σ Q) : MC l yX5_setProduct cX5_setProduct 7 none (RM 0 0 0 0) D ad cA g [.ref (ad 26), .ref (ad 22), .ref (ad 24)] σ (fun v σ' => v = none ∧ Q σ') (fun _ _ => False) := by
  refine MC.of (plainFor_of_name (by decide +kernel)) (Nat.le_of_ble_eq_true rfl) ?_
  intro p e s m args below meth c A ls hx hb hr hml hown hG hlocks htab hA hS hP hK hD hGV hl
  have hown : s.vm.findClass RX5 = some m.cls := hown
  have hl : lv_has ls 7 [(0, .ref (ad 26)), (1, .ref (ad 22)), (2, .ref (ad 24))] := hl
  have hSF : CF p m c cX5_setProduct 7 s args RX5 := ⟨hx, hb, hml, hown, hG⟩
  refine lv_iconst (v := 0) hx hb dX5_setProduct_0 (by decide) ?_
  refine lv_istore_n (lv' := [(3, .int 0), (0, .ref (ad 26)), (1, .ref (ad 22)), (2, .ref (ad 24))]) hx hb dX5_setProduct_1 rfl hl (by decide) rfl (fun ls hl => ?_)
  obtain ⟨I1, μ1, hI1, hw1⟩ := hw
  have hl : lv_has ls 7 [(0, .ref (ad 26)), (1, .ref (ad 22)), (2, .ref (ad 24)), (3, .int 0)] := lv_sub hl [1, 2, 3, 0] rfl
  suffices key1 : ∀ (n1 : Nat) (i3_1 : Int32) (σ1 : Sg), μ1 i3_1 σ1 < n1 → I1 i3_1 σ1 → ∀ (H : Heap) (locs : List Loc) (ls : Array Slot), va_P D vwCl (WL ad cA σ1) H → va_D A (WL ad cA σ1) → va_S A s.heap H locs → lv_has ls 7 [(0, .ref (ad 26)), (1, .ref (ad 22)), (2, .ref (ad 24)), (3, .int i3_1)] → W p l e (RM 0 0 0 0) s m args below meth c H locs (0) (0) (vx_MQ below (QM D ad cA A (fun v σ' => v = none ∧ Q σ')) (XM D ad cA A (fun _ _ => False)) args s (RM 0 0 0 0).cells (RM 0 0 0 0).slots A) (F0 m 2 ls []) from key1 _ _ _ (Nat.lt_succ_self _) hI1 _ _ ls hP hD hS hl
  clear hP hD hS hl
  intro n1
  induction n1 with
  | zero => intro _ _ h; exact absurd h (Nat.not_lt_zero _)
  | succ n1 ih1 =>
    intro i3_1 σ1 hm1 hI1 H locs ls hP hD hS hl
    have hw := hw1 i3_1 σ1 hI1
    refine lv_iload_n hx hb dX5_setProduct_2 rfl (lv_at hl 3 rfl) ?_
    refine lv_bipush (v := 8) hx hb dX5_setProduct_3 (by decide) ?_
    refine lv_icmp_ge (tgt := 21) hx hb dX5_setProduct_5 (by decide) (fun k2 => ?_) (fun k2 => ?_)
    · skip
      have hw := hw.1 k2
      refine lv_iconst (v := 0) hx hb dX5_setProduct_21 (by decide) ?_
      refine lv_istore_n (lv' := [(3, .int 0), (0, .ref (ad 26)), (1, .ref (ad 22)), (2, .ref (ad 24))]) hx hb dX5_setProduct_22 rfl hl (by decide) rfl (fun ls hl => ?_)
      obtain ⟨I3, μ3, hI3, hw3⟩ := hw
      have hl : lv_has ls 7 [(0, .ref (ad 26)), (1, .ref (ad 22)), (2, .ref (ad 24)), (3, .int 0)] := lv_sub hl [1, 2, 3, 0] rfl
      suffices key3 : ∀ (n3 : Nat) (i3_3 : Int32) (σ3 : Sg), μ3 i3_3 σ3 < n3 → I3 i3_3 σ3 → ∀ (H : Heap) (locs : List Loc) (ls : Array Slot), va_P D vwCl (WL ad cA σ3) H → va_D A (WL ad cA σ3) → va_S A s.heap H locs → lv_has ls 7 [(0, .ref (ad 26)), (1, .ref (ad 22)), (2, .ref (ad 24)), (3, .int i3_3)] → W p l e (RM 0 0 0 0) s m args below meth c H locs (0) (0) (vx_MQ below (QM D ad cA A (fun v σ' => v = none ∧ Q σ')) (XM D ad cA A (fun _ _ => False)) args s (RM 0 0 0 0).cells (RM 0 0 0 0).slots A) (F0 m 23 ls []) from key3 _ _ _ (Nat.lt_succ_self _) hI3 _ _ ls hP hD hS hl
      clear hP hD hS hl
      intro n3
      induction n3 with
      | zero => intro _ _ h; exact absurd h (Nat.not_lt_zero _)
      | succ n3 ih3 =>
        intro i3_3 σ3 hm3 hI3 H locs ls hP hD hS hl
        have hw := hw3 i3_3 σ3 hI3
        refine lv_iload_n hx hb dX5_setProduct_23 rfl (lv_at hl 3 rfl) ?_
        refine lv_bipush (v := 8) hx hb dX5_setProduct_24 (by decide) ?_
        refine lv_icmp_ge (tgt := 103) hx hb dX5_setProduct_26 (by decide) (fun k4 => ?_) (fun k4 => ?_)
        · skip
          have hw := hw.1 k4
          exact vx_ret (m_v ⟨rfl, hw⟩ hx hb hr hlocks hP hD hS (Nat.le_of_ble_eq_true rfl) (Nat.le_of_ble_eq_true rfl) dX5_setProduct_103)
        · skip
          have hw := hw.2 k4
          refine lv_lconst (v := 0) hx hb dX5_setProduct_29 (by decide) ?_
          refine lv_lstore (lv' := [(4, .long 0), (0, .ref (ad 26)), (1, .ref (ad 22)), (2, .ref (ad 24)), (3, .int i3_3)]) hx hb dX5_setProduct_30 hl (by decide) rfl (fun ls hl => ?_)
          refine lv_iload_n hx hb dX5_setProduct_32 rfl (lv_at hl 4 rfl) ?_
          refine lv_istore (lv' := [(6, .int i3_3), (4, .long 0), (0, .ref (ad 26)), (1, .ref (ad 22)), (2, .ref (ad 24)), (3, .int i3_3)]) hx hb dX5_setProduct_33 hl (by decide) rfl (fun ls hl => ?_)
          obtain ⟨I5, μ5, hI5, hw5⟩ := hw
          have hl : lv_has ls 7 [(0, .ref (ad 26)), (1, .ref (ad 22)), (2, .ref (ad 24)), (3, .int i3_3), (4, .long 0), (6, .int i3_3)] := lv_sub hl [2, 3, 4, 5, 1, 0] rfl
          suffices key5 : ∀ (n5 : Nat) (i4_5 : Int64) (i6_5 : Int32) (σ5 : Sg), μ5 i4_5 i6_5 σ5 < n5 → I5 i4_5 i6_5 σ5 → ∀ (H : Heap) (locs : List Loc) (ls : Array Slot), va_P D vwCl (WL ad cA σ5) H → va_D A (WL ad cA σ5) → va_S A s.heap H locs → lv_has ls 7 [(0, .ref (ad 26)), (1, .ref (ad 22)), (2, .ref (ad 24)), (3, .int i3_3), (4, .long i4_5), (6, .int i6_5)] → W p l e (RM 0 0 0 0) s m args below meth c H locs (0) (0) (vx_MQ below (QM D ad cA A (fun v σ' => v = none ∧ Q σ')) (XM D ad cA A (fun _ _ => False)) args s (RM 0 0 0 0).cells (RM 0 0 0 0).slots A) (F0 m 35 ls []) from key5 _ _ _ _ (Nat.lt_succ_self _) hI5 _ _ ls hP hD hS hl
          clear hP hD hS hl
          intro n5
          induction n5 with
          | zero => intro _ _ _ h; exact absurd h (Nat.not_lt_zero _)
          | succ n5 ih5 =>
            intro i4_5 i6_5 σ5 hm5 hI5 H locs ls hP hD hS hl
            have hw := hw5 i4_5 i6_5 σ5 hI5
            refine lv_iload hx hb dX5_setProduct_35 (lv_at hl 5 rfl) ?_
            refine lv_bipush (v := 8) hx hb dX5_setProduct_37 (by decide) ?_
            refine lv_icmp_ge (tgt := 97) hx hb dX5_setProduct_39 (by decide) (fun k6 => ?_) (fun k6 => ?_)
            · skip
              have hw := hw.1 k6
              refine lv_iinc (v := i3_3 + 1) (lv' := [(3, .int (i3_3 + 1)), (0, .ref (ad 26)), (1, .ref (ad 22)), (2, .ref (ad 24)), (4, .long i4_5), (6, .int i6_5)]) hx hb dX5_setProduct_97 hl (k := 3) rfl rfl (by decide) rfl (fun ls hl => ?_)
              refine lv_goto (tgt := 23) hx hb dX5_setProduct_100 (by decide) ?_
              exact ih3 (i3_3 + 1) σ5 (Nat.lt_of_lt_of_le hw.2 (Nat.le_of_lt_succ hm3)) hw.1 _ _ ls hP hD hS (lv_sub hl [1, 2, 3, 0] rfl)
            · skip
              have hw := hw.2 k6
              refine lv_lload hx hb dX5_setProduct_42 (lv_at hl 4 rfl) ?_
              refine lv_aload_n hx hb dX5_setProduct_44 rfl (lv_at hl 1 rfl) ?_
              refine k_get (ci := 7) (C := RX5) (T := TX5) (N := 1) (v := .ref (ad 23)) hx hb hG inX5 hown hK hP 22 wl_22 rfl 0 (by decide) gw134 rfl dX5_setProduct_45 ?_
              refine lv_iload_n hx hb dX5_setProduct_48 rfl (lv_at hl 3 rfl) ?_
              obtain ⟨hc7, hw⟩ := hw
              refine k_lald (v := gB σ5 6 (ix i3_3)) hx hb hK hP 23 wl_23 (ix i3_3) rfl rfl hc7 dX5_setProduct_49 ?_
              refine lv_aload_n hx hb dX5_setProduct_50 rfl (lv_at hl 2 rfl) ?_
              refine k_get (ci := 7) (C := RX5) (T := TX5) (N := 1) (v := .ref (ad 25)) hx hb hG inX5 hown hK hP 24 wl_24 rfl 0 (by decide) gw134 rfl dX5_setProduct_51 ?_
              refine lv_iload hx hb dX5_setProduct_54 (lv_at hl 5 rfl) ?_
              refine lv_iload_n hx hb dX5_setProduct_56 rfl (lv_at hl 3 rfl) ?_
              refine k_isub (v := i6_5 - i3_3) hx hb dX5_setProduct_57 rfl ?_
              obtain ⟨hc8, hw⟩ := hw
              refine k_lald (v := gB σ5 7 (ix (i6_5 - i3_3))) hx hb hK hP 25 wl_25 (ix (i6_5 - i3_3)) rfl rfl hc8 dX5_setProduct_58 ?_
              refine k_lmul (v := (gB σ5 6 (ix i3_3)) * (gB σ5 7 (ix (i6_5 - i3_3)))) hx hb dX5_setProduct_59 rfl ?_
              refine lv_aload_n hx hb dX5_setProduct_60 rfl (lv_at hl 0 rfl) ?_
              refine k_get (ci := 7) (C := RX5) (T := TX5) (N := 1) (v := .ref (ad 27)) hx hb hG inX5 hown hK hP 26 wl_26 rfl 0 (by decide) gw134 rfl dX5_setProduct_61 ?_
              refine lv_iload hx hb dX5_setProduct_64 (lv_at hl 5 rfl) ?_
              obtain ⟨hc9, hw⟩ := hw
              refine k_lald (v := gB σ5 8 (ix i6_5)) hx hb hK hP 27 wl_27 (ix i6_5) rfl rfl hc9 dX5_setProduct_66 ?_
              refine k_ladd (v := ((gB σ5 6 (ix i3_3)) * (gB σ5 7 (ix (i6_5 - i3_3)))) + (gB σ5 8 (ix i6_5))) hx hb dX5_setProduct_67 rfl ?_
              refine k_ladd (v := i4_5 + (((gB σ5 6 (ix i3_3)) * (gB σ5 7 (ix (i6_5 - i3_3)))) + (gB σ5 8 (ix i6_5)))) hx hb dX5_setProduct_68 rfl ?_
              obtain ⟨v10, ev10⟩ : ∃ z : Int64, z = i4_5 + (((gB σ5 6 (ix i3_3)) * (gB σ5 7 (ix (i6_5 - i3_3)))) + (gB σ5 8 (ix i6_5))) := ⟨_, rfl⟩
              have hw := hw v10 ev10
              refine lv_lstore (lv' := [(4, .long v10), (0, .ref (ad 26)), (1, .ref (ad 22)), (2, .ref (ad 24)), (3, .int i3_3), (6, .int i6_5)]) hx hb dX5_setProduct_69 hl (by decide) (by subst ev10; rfl) (fun ls hl => ?_)
              refine lv_aload_n hx hb dX5_setProduct_71 rfl (lv_at hl 1 rfl) ?_
              refine k_get (ci := 7) (C := RX5) (T := TX5) (N := 1) (v := .ref (ad 27)) hx hb hG inX5 hown hK hP 26 wl_26 rfl 0 (by decide) gw134 rfl dX5_setProduct_72 ?_
              refine lv_iload hx hb dX5_setProduct_75 (lv_at hl 5 rfl) ?_
              refine lv_lload hx hb dX5_setProduct_77 (lv_at hl 0 rfl) ?_
              refine lv_ldc2 hx hb hown (hG _ gw393) dX5_setProduct_79 ?_
              refine k_land (v := v10 &&& 4294967295) hx hb dX5_setProduct_82 rfl ?_
              obtain ⟨hc11, hw⟩ := hw
              obtain ⟨σ12, eσ12⟩ : ∃ z : Sg, z = sB σ5 8 (ix i6_5) (v10 &&& 4294967295) := ⟨_, rfl⟩
              have hw := hw σ12 eσ12
              refine k_last (ws1 := WL ad cA σ12) hx hb hK hP hD hS 27 wl_27 (ws_27 eσ12) hc11 dX5_setProduct_83 (fun H locs hP hD hS => ?_)
              refine lv_lload hx hb dX5_setProduct_84 (lv_at hl 0 rfl) ?_
              refine lv_bipush (v := 32) hx hb dX5_setProduct_86 (by decide) ?_
              refine lv_lushr (v := lUshr v10 32) hx hb dX5_setProduct_88 rfl ?_
              obtain ⟨v13, ev13⟩ : ∃ z : Int64, z = lUshr v10 32 := ⟨_, rfl⟩
              have hw := hw v13 ev13
              refine lv_lstore (lv' := [(4, .long v13), (0, .ref (ad 26)), (1, .ref (ad 22)), (2, .ref (ad 24)), (3, .int i3_3), (6, .int i6_5)]) hx hb dX5_setProduct_89 hl (by decide) (by subst ev13; rfl) (fun ls hl => ?_)
              refine lv_iinc (v := i6_5 + 1) (lv' := [(6, .int (i6_5 + 1)), (4, .long v13), (0, .ref (ad 26)), (1, .ref (ad 22)), (2, .ref (ad 24)), (3, .int i3_3)]) hx hb dX5_setProduct_91 hl (k := 5) rfl rfl (by decide) rfl (fun ls hl => ?_)
              refine lv_goto (tgt := 35) hx hb dX5_setProduct_94 (by decide) ?_
              exact ih5 v13 (i6_5 + 1) σ12 (Nat.lt_of_lt_of_le hw.2 (Nat.le_of_lt_succ hm5)) hw.1 _ _ ls hP hD hS (lv_sub hl [2, 3, 4, 5, 1, 0] rfl)
    · skip
      have hw := hw.2 k2
      refine lv_aload_n hx hb dX5_setProduct_8 rfl (lv_at hl 0 rfl) ?_
      refine k_get (ci := 7) (C := RX5) (T := TX5) (N := 1) (v := .ref (ad 27)) hx hb hG inX5 hown hK hP 26 wl_26 rfl 0 (by decide) gw134 rfl dX5_setProduct_9 ?_
      refine lv_iload_n hx hb dX5_setProduct_12 rfl (lv_at hl 3 rfl) ?_
      refine lv_lconst (v := 0) hx hb dX5_setProduct_13 (by decide) ?_
      obtain ⟨hc14, hw⟩ := hw
      obtain ⟨σ15, eσ15⟩ : ∃ z : Sg, z = sB σ1 8 (ix i3_1) 0 := ⟨_, rfl⟩
      have hw := hw σ15 eσ15
      refine k_last (ws1 := WL ad cA σ15) hx hb hK hP hD hS 27 wl_27 (ws_27 eσ15) hc14 dX5_setProduct_14 (fun H locs hP hD hS => ?_)
      refine lv_iinc (v := i3_1 + 1) (lv' := [(3, .int (i3_1 + 1)), (0, .ref (ad 26)), (1, .ref (ad 22)), (2, .ref (ad 24))]) hx hb dX5_setProduct_15 hl (k := 3) rfl rfl (by decide) rfl (fun ls hl => ?_)
      refine lv_goto (tgt := 2) hx hb dX5_setProduct_18 (by decide) ?_
      exact ih1 (i3_1 + 1) σ15 (Nat.lt_of_lt_of_le hw.2 (Nat.le_of_lt_succ hm1)) hw.1 _ _ ls hP hD hS (lv_sub hl [1, 2, 3, 0] rfl)

