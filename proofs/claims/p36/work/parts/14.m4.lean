set_option maxHeartbeats 4000000 in
set_option maxRecDepth 100000 in
theorem m_X6_canRaise (l : Launch) (hfl : l.stackTraces = false) (D : va_G) (ad : Nat → Nat) (cA : Nat → ClassId) (g : gv_T) (σ : Sg) (Q : Int32 → Sg → Prop) (hw : w_X6_canRaise  σ Q) : MC l yX6_canRaise cX6_canRaise 1 (some .boolean) (RM 5 0 0 115) D ad cA g [.ref (ad 0)] σ (fun v σ' => ∃ r : Int32, v = some (.int r) ∧ Q r σ') (fun _ _ => False) := by
  refine MC.of (plainFor_of_name (by decide +kernel)) (Nat.le_of_ble_eq_true rfl) ?_
  intro p e s m args below meth c A ls hx hb hr hml hown hG hlocks htab hA hS hP hK hD hGV hl
  have hown : s.vm.findClass RX6 = some m.cls := hown
  have hl : lv_has ls 1 [(0, .ref (ad 0))] := hl
  have hSF : CF p m c cX6_canRaise 1 s args RX6 := ⟨hx, hb, hml, hown, hG⟩
  refine lv_aload_n hx hb dX6_canRaise_0 rfl (lv_at hl 0 rfl) ?_
  refine k_get (ci := 8) (C := RX6) (T := TX6) (N := 5) (v := .ref (ad 46)) hx hb hG inX6 hown hK hP 0 wl_0 rfl 4 (by decide) gw309 rfl dX6_canRaise_1 ?_
  refine lv_aload_n hx hb dX6_canRaise_4 rfl (lv_at hl 0 rfl) ?_
  refine k_get (ci := 8) (C := RX6) (T := TX6) (N := 5) (v := .ref (ad 1)) hx hb hG inX6 hown hK hP 0 wl_0 rfl 0 (by decide) gw305 rfl dX6_canRaise_5 ?_
  refine lv_aload_n hx hb dX6_canRaise_8 rfl (lv_at hl 0 rfl) ?_
  refine k_get (ci := 8) (C := RX6) (T := TX6) (N := 5) (v := .ref (ad 32)) hx hb hG inX6 hown hK hP 0 wl_0 rfl 2 (by decide) gw307 rfl dX6_canRaise_9 ?_
  refine mc_V hSF hl.1 hP hD hS hA hK hGV (m_X4_find l hfl D ad cA g  σ _ hw) goV_X6_247 pd_X4_find ⟨(Nat.le_of_ble_eq_true rfl), (Nat.le_of_ble_eq_true rfl)⟩ ⟨(Nat.le_of_ble_eq_true rfl), (Nat.le_of_ble_eq_true rfl)⟩ (va_recv hK hP (ci := 6) (q0 := 46) rfl wl_46) dX6_canRaise_12 rfl (Nat.le_of_ble_eq_true rfl) (fun v9 σ2 H locs hq hP hD hS => ?_) (fun _ _ _ _ _ _ h => h.elim)
  obtain ⟨hv9, hw⟩ := hq
  subst hv9
  refine W.eq (g2 := F0 m 15 ls []) rfl ?_
  refine W.widen (k := 0) (n := 0) (Nat.le_refl _) (Nat.le_refl _) ?_
  refine lv_aload_n hx hb dX6_canRaise_15 rfl (lv_at hl 0 rfl) ?_
  refine k_get (ci := 8) (C := RX6) (T := TX6) (N := 5) (v := .ref (ad 46)) hx hb hG inX6 hown hK hP 0 wl_0 rfl 4 (by decide) gw309 rfl dX6_canRaise_16 ?_
  refine mc_V hSF hl.1 hP hD hS hA hK hGV (m_X4_orderCount l hfl D ad cA g  σ2 _ hw) goV_X6_250 pd_X4_orderCount ⟨(Nat.le_of_ble_eq_true rfl), (Nat.le_of_ble_eq_true rfl)⟩ ⟨(Nat.le_of_ble_eq_true rfl), (Nat.le_of_ble_eq_true rfl)⟩ (va_recv hK hP (ci := 6) (q0 := 46) rfl wl_46) dX6_canRaise_19 rfl (Nat.le_of_ble_eq_true rfl) (fun v9 σ9 H locs hq hP hD hS => ?_) (fun _ _ _ _ _ _ h => h.elim)
  obtain ⟨r3, hv9, hs9, hw⟩ := hq
  subst hv9
  subst σ9
  refine W.eq (g2 := F0 m 22 ls [.int r3]) rfl ?_
  refine W.widen (k := 0) (n := 0) (Nat.le_refl _) (Nat.le_refl _) ?_
  refine lv_if_le (tgt := 29) hx hb dX6_canRaise_22 (by decide) (fun k4 => ?_) (fun k4 => ?_)
  · skip
    have hw := hw.1 k4
    refine lv_iconst (v := 0) hx hb dX6_canRaise_29 (by decide) ?_
    exact vx_ret (m_i ⟨_, rfl, hw⟩ hx hb hr hlocks rfl hP hD hS (Nat.le_of_ble_eq_true rfl) (Nat.le_of_ble_eq_true rfl) dX6_canRaise_30)
  · skip
    have hw := hw.2 k4
    refine lv_iconst (v := 1) hx hb dX6_canRaise_25 (by decide) ?_
    refine lv_goto (tgt := 30) hx hb dX6_canRaise_26 (by decide) ?_
    exact vx_ret (m_i ⟨_, rfl, hw⟩ hx hb hr hlocks rfl hP hD hS (Nat.le_of_ble_eq_true rfl) (Nat.le_of_ble_eq_true rfl) dX6_canRaise_30)

set_option maxHeartbeats 4000000 in
set_option maxRecDepth 100000 in
theorem m_X6_canTakeAway (l : Launch) (hfl : l.stackTraces = false) (D : va_G) (ad : Nat → Nat) (cA : Nat → ClassId) (g : gv_T) (σ : Sg) (Q : Int32 → Sg → Prop) (hw : w_X6_canTakeAway  σ Q) : MC l yX6_canTakeAway cX6_canTakeAway 1 (some .boolean) (RM 5 0 0 115) D ad cA g [.ref (ad 0)] σ (fun v σ' => ∃ r : Int32, v = some (.int r) ∧ Q r σ') (fun _ _ => False) := by
  refine MC.of (plainFor_of_name (by decide +kernel)) (Nat.le_of_ble_eq_true rfl) ?_
  intro p e s m args below meth c A ls hx hb hr hml hown hG hlocks htab hA hS hP hK hD hGV hl
  have hown : s.vm.findClass RX6 = some m.cls := hown
  have hl : lv_has ls 1 [(0, .ref (ad 0))] := hl
  have hSF : CF p m c cX6_canTakeAway 1 s args RX6 := ⟨hx, hb, hml, hown, hG⟩
  refine lv_aload_n hx hb dX6_canTakeAway_0 rfl (lv_at hl 0 rfl) ?_
  refine k_get (ci := 8) (C := RX6) (T := TX6) (N := 5) (v := .ref (ad 46)) hx hb hG inX6 hown hK hP 0 wl_0 rfl 4 (by decide) gw309 rfl dX6_canTakeAway_1 ?_
  refine lv_aload_n hx hb dX6_canTakeAway_4 rfl (lv_at hl 0 rfl) ?_
  refine k_get (ci := 8) (C := RX6) (T := TX6) (N := 5) (v := .ref (ad 1)) hx hb hG inX6 hown hK hP 0 wl_0 rfl 0 (by decide) gw305 rfl dX6_canTakeAway_5 ?_
  refine lv_aload_n hx hb dX6_canTakeAway_8 rfl (lv_at hl 0 rfl) ?_
  refine k_get (ci := 8) (C := RX6) (T := TX6) (N := 5) (v := .ref (ad 32)) hx hb hG inX6 hown hK hP 0 wl_0 rfl 2 (by decide) gw307 rfl dX6_canTakeAway_9 ?_
  refine mc_V hSF hl.1 hP hD hS hA hK hGV (m_X4_find l hfl D ad cA g  σ _ hw) goV_X6_247 pd_X4_find ⟨(Nat.le_of_ble_eq_true rfl), (Nat.le_of_ble_eq_true rfl)⟩ ⟨(Nat.le_of_ble_eq_true rfl), (Nat.le_of_ble_eq_true rfl)⟩ (va_recv hK hP (ci := 6) (q0 := 46) rfl wl_46) dX6_canTakeAway_12 rfl (Nat.le_of_ble_eq_true rfl) (fun v9 σ2 H locs hq hP hD hS => ?_) (fun _ _ _ _ _ _ h => h.elim)
  obtain ⟨hv9, hw⟩ := hq
  subst hv9
  refine W.eq (g2 := F0 m 15 ls []) rfl ?_
  refine W.widen (k := 0) (n := 0) (Nat.le_refl _) (Nat.le_refl _) ?_
  refine lv_aload_n hx hb dX6_canTakeAway_15 rfl (lv_at hl 0 rfl) ?_
  refine k_get (ci := 8) (C := RX6) (T := TX6) (N := 5) (v := .ref (ad 46)) hx hb hG inX6 hown hK hP 0 wl_0 rfl 4 (by decide) gw309 rfl dX6_canTakeAway_16 ?_
  refine k_get (ci := 6) (C := RX4) (T := TX4) (N := 9) (v := .ref (ad 50)) hx hb hG inX4 hown hK hP 46 wl_46 rfl 7 (by decide) gw282 rfl dX6_canTakeAway_19 ?_
  refine lv_iconst (v := 0) hx hb dX6_canTakeAway_22 (by decide) ?_
  refine k_zald (v := gA σ2 27 (ix 0)) hx hb hK hP 50 wl_50 (ix 0) rfl rfl (by unfold vp_in; decide) dX6_canTakeAway_23 ?_
  obtain ⟨hc3, hw⟩ := hw
  exact vx_ret (m_i ⟨_, rfl, hw⟩ hx hb hr hlocks hc3 hP hD hS (Nat.le_of_ble_eq_true rfl) (Nat.le_of_ble_eq_true rfl) dX6_canTakeAway_24)

set_option maxHeartbeats 4000000 in
set_option maxRecDepth 100000 in
theorem m_L_isRaising (l : Launch) (hfl : l.stackTraces = false) (D : va_G) (ad : Nat → Nat) (cA : Nat → ClassId) (g : gv_T) (p1 : Int32) (σ : Sg) (Q : Int32 → Sg → Prop) (hw : w_L_isRaising p1 σ Q) : MC l yL_isRaising cL_isRaising 8 (some .boolean) (RM 9 32 192 181) D ad cA g [.ref (ad 0), .int p1] σ (fun v σ' => ∃ r : Int32, v = some (.int r) ∧ Q r σ') (fun _ _ => False) := by
  refine MC.of (plainFor_of_name (by decide +kernel)) (Nat.le_of_ble_eq_true rfl) ?_
  intro p e s m args below meth c A ls hx hb hr hml hown hG hlocks htab hA hS hP hK hD hGV hl
  have hown : s.vm.findClass RL = some m.cls := hown
  have hl : lv_has ls 8 [(0, .ref (ad 0)), (1, .int p1)] := hl
  have hSF : CF p m c cL_isRaising 8 s args RL := ⟨hx, hb, hml, hown, hG⟩
  refine lv_aload_n hx hb dL_isRaising_0 rfl (lv_at hl 0 rfl) ?_
  refine mc_V hSF hl.1 hP hD hS hA hK hGV (m_X6_canRaise l hfl D ad cA g  σ _ hw) goV_L_245 pd_X6_canRaise ⟨(Nat.le_of_ble_eq_true rfl), (Nat.le_of_ble_eq_true rfl)⟩ ⟨(Nat.le_of_ble_eq_true rfl), (Nat.le_of_ble_eq_true rfl)⟩ (va_recv hK hP (ci := 8) (q0 := 0) rfl wl_0) dL_isRaising_1 rfl (Nat.le_of_ble_eq_true rfl) (fun v9 σ2 H locs hq hP hD hS => ?_) (fun _ _ _ _ _ _ h => h.elim)
  obtain ⟨r1, hv9, hw⟩ := hq
  subst hv9
  refine W.eq (g2 := F0 m 4 ls [.int r1]) rfl ?_
  refine W.widen (k := 0) (n := 0) (Nat.le_refl _) (Nat.le_refl _) ?_
  refine lv_istore_n (lv' := [(2, .int r1), (0, .ref (ad 0)), (1, .int p1)]) hx hb dL_isRaising_4 rfl hl (by decide) rfl (fun ls hl => ?_)
  refine (fun hw => ?_) (hw (fun (s0_3 : Int32) (σ3 : Sg) => ∀ (H : Heap) (locs : List Loc) (ls : Array Slot), va_P D vwCl (WL ad cA σ3) H → va_D A (WL ad cA σ3) → va_S A s.heap H locs → lv_has ls 8 [(0, .ref (ad 0)), (1, .int p1), (2, .int r1)] → W p l e (RM 9 32 192 181) s m args below meth c H locs (0) (0) (vx_MQ below (QM D ad cA A (fun v σ' => ∃ r : Int32, v = some (.int r) ∧ Q r σ')) (XM D ad cA A (fun _ _ => False)) args s (RM 9 32 192 181).cells (RM 9 32 192 181).slots A) (F0 m 34 ls [.int s0_3])) ?_)
  · skip
    refine lv_aload_n hx hb dL_isRaising_5 rfl (lv_at hl 1 rfl) ?_
    refine mc_V hSF hl.1 hP hD hS hA hK hGV (m_X6_canTakeAway l hfl D ad cA g  σ2 _ hw) goV_L_248 pd_X6_canTakeAway ⟨(Nat.le_of_ble_eq_true rfl), (Nat.le_of_ble_eq_true rfl)⟩ ⟨(Nat.le_of_ble_eq_true rfl), (Nat.le_of_ble_eq_true rfl)⟩ (va_recv hK hP (ci := 8) (q0 := 0) rfl wl_0) dL_isRaising_6 rfl (Nat.le_of_ble_eq_true rfl) (fun v9 σ5 H locs hq hP hD hS => ?_) (fun _ _ _ _ _ _ h => h.elim)
    obtain ⟨r4, hv9, hw⟩ := hq
    subst hv9
    refine W.eq (g2 := F0 m 9 ls [.int r4]) rfl ?_
    refine W.widen (k := 0) (n := 0) (Nat.le_refl _) (Nat.le_refl _) ?_
    refine lv_iload_n hx hb dL_isRaising_9 rfl (lv_at hl 0 rfl) ?_
    refine lv_icmp_ne (tgt := 33) hx hb dL_isRaising_10 (by decide) (fun k6 => ?_) (fun k6 => ?_)
    · skip
      have hw := hw.1 k6
      refine lv_iconst (v := 0) hx hb dL_isRaising_33 (by decide) ?_
      exact W.widen (Nat.le_of_ble_eq_true rfl) (Nat.le_of_ble_eq_true rfl) (hw _ _ ls hP hD hS (lv_sub hl [1, 2, 0] rfl))
    · skip
      have hw := hw.2 k6
      refine lv_aload_n hx hb dL_isRaising_13 rfl (lv_at hl 1 rfl) ?_
      refine mc_V hSF hl.1 hP hD hS hA hK hGV (m_X6_orders l hfl D ad cA g  σ5 _ hw) goV_L_251 pd_X6_orders ⟨(Nat.le_of_ble_eq_true rfl), (Nat.le_of_ble_eq_true rfl)⟩ ⟨(Nat.le_of_ble_eq_true rfl), (Nat.le_of_ble_eq_true rfl)⟩ (va_recv hK hP (ci := 8) (q0 := 0) rfl wl_0) dL_isRaising_14 rfl (Nat.le_of_ble_eq_true rfl) (fun v9 σ8 H locs hq hP hD hS => ?_) (fun _ _ _ _ _ _ h => h.elim)
      obtain ⟨r7, hv9, hw⟩ := hq
      subst hv9
      refine W.eq (g2 := F0 m 17 ls [.int r7]) rfl ?_
      refine W.widen (k := 0) (n := 0) (Nat.le_refl _) (Nat.le_refl _) ?_
      refine lv_if_le (tgt := 24) hx hb dL_isRaising_17 (by decide) (fun k9 => ?_) (fun k9 => ?_)
      · skip
        have hw := hw.1 k9
        refine lv_iconst (v := 0) hx hb dL_isRaising_24 (by decide) ?_
        refine lv_iload_n hx hb dL_isRaising_25 rfl (lv_at hl 0 rfl) ?_
        refine lv_icmp_ne (tgt := 33) hx hb dL_isRaising_26 (by decide) (fun k10 => ?_) (fun k10 => ?_)
        · skip
          have hw := hw.1 k10
          refine lv_iconst (v := 0) hx hb dL_isRaising_33 (by decide) ?_
          exact W.widen (Nat.le_of_ble_eq_true rfl) (Nat.le_of_ble_eq_true rfl) (hw _ _ ls hP hD hS (lv_sub hl [1, 2, 0] rfl))
        · skip
          have hw := hw.2 k10
          refine lv_iconst (v := 1) hx hb dL_isRaising_29 (by decide) ?_
          refine lv_goto (tgt := 34) hx hb dL_isRaising_30 (by decide) ?_
          exact W.widen (Nat.le_of_ble_eq_true rfl) (Nat.le_of_ble_eq_true rfl) (hw _ _ ls hP hD hS (lv_sub hl [1, 2, 0] rfl))
      · skip
        have hw := hw.2 k9
        refine lv_iconst (v := 1) hx hb dL_isRaising_20 (by decide) ?_
        refine lv_goto (tgt := 25) hx hb dL_isRaising_21 (by decide) ?_
        refine lv_iload_n hx hb dL_isRaising_25 rfl (lv_at hl 0 rfl) ?_
        refine lv_icmp_ne (tgt := 33) hx hb dL_isRaising_26 (by decide) (fun k11 => ?_) (fun k11 => ?_)
        · skip
          have hw := hw.1 k11
          refine lv_iconst (v := 0) hx hb dL_isRaising_33 (by decide) ?_
          exact W.widen (Nat.le_of_ble_eq_true rfl) (Nat.le_of_ble_eq_true rfl) (hw _ _ ls hP hD hS (lv_sub hl [1, 2, 0] rfl))
        · skip
          have hw := hw.2 k11
          refine lv_iconst (v := 1) hx hb dL_isRaising_29 (by decide) ?_
          refine lv_goto (tgt := 34) hx hb dL_isRaising_30 (by decide) ?_
          exact W.widen (Nat.le_of_ble_eq_true rfl) (Nat.le_of_ble_eq_true rfl) (hw _ _ ls hP hD hS (lv_sub hl [1, 2, 0] rfl))
  · skip
    intro s0_3 σ3 hw H locs ls hP hD hS hl
    refine lv_istore_n (lv' := [(3, .int s0_3), (0, .ref (ad 0)), (1, .int p1), (2, .int r1)]) hx hb dL_isRaising_34 rfl hl (by decide) rfl (fun ls hl => ?_)
    refine lv_iconst (v := 0) hx hb dL_isRaising_35 (by decide) ?_
    refine lv_istore (lv' := [(4, .int 0), (3, .int s0_3), (0, .ref (ad 0)), (1, .int p1), (2, .int r1)]) hx hb dL_isRaising_36 hl (by decide) rfl (fun ls hl => ?_)
    refine lv_aload_n hx hb dL_isRaising_38 rfl (lv_at hl 2 rfl) ?_
    refine lv_iconst (v := 0) hx hb dL_isRaising_39 (by decide) ?_
    refine mc_SW hSF hl.1 hP hD hS hA hK hGV (m_L_setProps l hfl D ad cA g 0 σ3 _ hw) goW_L_156 pd_L_setProps.2 ⟨(Nat.le_of_ble_eq_true rfl), (Nat.le_of_ble_eq_true rfl)⟩ ⟨(Nat.le_of_ble_eq_true rfl), (Nat.le_of_ble_eq_true rfl)⟩ dL_isRaising_40 rfl (Nat.le_of_ble_eq_true rfl) (fun v9 σ13 H locs hq hP hD hS => ?_)
    obtain ⟨r12, hv9, hw⟩ := hq
    subst hv9
    refine W.eq (g2 := F0 m 43 ls [.int r12]) rfl ?_
    refine W.widen (k := 1) (n := 6) (Nat.le_refl _) (Nat.le_refl _) ?_
    refine lv_istore (lv' := [(5, .int r12), (4, .int 0), (3, .int s0_3), (0, .ref (ad 0)), (1, .int p1), (2, .int r1)]) hx hb dL_isRaising_43 hl (by decide) rfl (fun ls hl => ?_)
    refine lv_iload_n hx hb dL_isRaising_45 rfl (lv_at hl 2 rfl) ?_
    refine lv_aload_n hx hb dL_isRaising_46 rfl (lv_at hl 3 rfl) ?_
    refine lv_iload hx hb dL_isRaising_47 (lv_at hl 0 rfl) ?_
    refine mc_SW hSF hl.1 hP hD hS hA hK hGV (m_L_setProps l hfl D ad cA g r12 σ13 _ hw) goW_L_156 pd_L_setProps.2 ⟨(Nat.le_of_ble_eq_true rfl), (Nat.le_of_ble_eq_true rfl)⟩ ⟨(Nat.le_of_ble_eq_true rfl), (Nat.le_of_ble_eq_true rfl)⟩ dL_isRaising_49 rfl (Nat.le_of_ble_eq_true rfl) (fun v9 σ15 H locs hq hP hD hS => ?_)
    obtain ⟨r14, hv9, hw⟩ := hq
    subst hv9
    refine W.eq (g2 := F0 m 52 ls [.int r14, .int s0_3]) rfl ?_
    refine W.widen (k := 2) (n := 12) (Nat.le_refl _) (Nat.le_refl _) ?_
    refine (fun hw => ?_) (hw (fun (s0_16 : Int32) => ∀ (H : Heap) (locs : List Loc) (ls : Array Slot), va_P D vwCl (WL ad cA σ15) H → va_D A (WL ad cA σ15) → va_S A s.heap H locs → lv_has ls 8 [(0, .ref (ad 0)), (1, .int p1), (2, .int r1), (4, .int 0), (5, .int r12)] → W p l e (RM 9 32 192 181) s m args below meth c H locs (2) (12) (vx_MQ below (QM D ad cA A (fun v σ' => ∃ r : Int32, v = some (.int r) ∧ Q r σ')) (XM D ad cA A (fun _ _ => False)) args s (RM 9 32 192 181).cells (RM 9 32 192 181).slots A) (F0 m 60 ls [.int s0_16, .int s0_3])) ?_)
    · skip
      refine lv_if_ne (tgt := 59) hx hb dL_isRaising_52 (by decide) (fun k17 => ?_) (fun k17 => ?_)
      · skip
        have hw := hw.1 k17
        refine lv_iconst (v := 0) hx hb dL_isRaising_59 (by decide) ?_
        exact W.widen (Nat.le_of_ble_eq_true rfl) (Nat.le_of_ble_eq_true rfl) (hw _ _ ls hP hD hS (lv_sub hl [3, 4, 5, 1, 0] rfl))
      · skip
        have hw := hw.2 k17
        refine lv_iconst (v := 1) hx hb dL_isRaising_55 (by decide) ?_
        refine lv_goto (tgt := 60) hx hb dL_isRaising_56 (by decide) ?_
        exact W.widen (Nat.le_of_ble_eq_true rfl) (Nat.le_of_ble_eq_true rfl) (hw _ _ ls hP hD hS (lv_sub hl [3, 4, 5, 1, 0] rfl))
    · skip
      intro s0_16 hw H locs ls hP hD hS hl
      refine k_iand (v := s0_3 &&& s0_16) hx hb dL_isRaising_60 rfl ?_
      obtain ⟨v18, ev18⟩ : ∃ z : Int32, z = s0_3 &&& s0_16 := ⟨_, rfl⟩
      have hw := hw v18 ev18
      refine lv_istore_n (lv' := [(3, .int v18), (0, .ref (ad 0)), (1, .int p1), (2, .int r1), (4, .int 0), (5, .int r12)]) hx hb dL_isRaising_61 rfl hl (by decide) (by subst ev18; rfl) (fun ls hl => ?_)
      refine lv_iconst (v := 0) hx hb dL_isRaising_62 (by decide) ?_
      refine lv_istore (lv' := [(6, .int 0), (3, .int v18), (0, .ref (ad 0)), (1, .int p1), (2, .int r1), (4, .int 0), (5, .int r12)]) hx hb dL_isRaising_63 hl (by decide) rfl (fun ls hl => ?_)
      obtain ⟨I19, μ19, hB19, hI19, hw19⟩ := hw
      have hl : lv_has ls 8 [(0, .ref (ad 0)), (1, .int p1), (2, .int r1), (3, .int v18), (4, .int 0), (5, .int r12), (6, .int 0)] := lv_sub hl [2, 3, 4, 1, 5, 6, 0] rfl
      suffices key19 : ∀ (n19 : Nat) (i3_19 : Int32) (i4_19 : Int32) (i6_19 : Int32) (σ19 : Sg), μ19 i3_19 i4_19 i6_19 σ19 < n19 → I19 i3_19 i4_19 i6_19 σ19 → ∀ (cl19 sl19 : Nat) (hcl19 : cl19 ≤ 2 + 3 * (9 - μ19 i3_19 i4_19 i6_19 σ19)) (hsl19 : sl19 ≤ 12 + 18 * (9 - μ19 i3_19 i4_19 i6_19 σ19)) (hmu19 : μ19 i3_19 i4_19 i6_19 σ19 ≤ 9) (H : Heap) (locs : List Loc) (ls : Array Slot), va_P D vwCl (WL ad cA σ19) H → va_D A (WL ad cA σ19) → va_S A s.heap H locs → lv_has ls 8 [(0, .ref (ad 0)), (1, .int p1), (2, .int r1), (3, .int i3_19), (4, .int i4_19), (5, .int r12), (6, .int i6_19)] → W p l e (RM 9 32 192 181) s m args below meth c H locs cl19 sl19 (vx_MQ below (QM D ad cA A (fun v σ' => ∃ r : Int32, v = some (.int r) ∧ Q r σ')) (XM D ad cA A (fun _ _ => False)) args s (RM 9 32 192 181).cells (RM 9 32 192 181).slots A) (F0 m 65 ls []) from key19 _ _ _ _ _ (Nat.lt_succ_self _) hI19 (2) (12) (Nat.le_add_right _ _) (Nat.le_add_right _ _) hB19 _ _ ls hP hD hS hl
      clear hP hD hS hl
      intro n19
      induction n19 with
      | zero => intro _ _ _ _ h; exact absurd h (Nat.not_lt_zero _)
      | succ n19 ih19 =>
        intro i3_19 i4_19 i6_19 σ19 hm19 hI19 cl19 sl19 hcl19 hsl19 hmu19 H locs ls hP hD hS hl
        have hw := hw19 i3_19 i4_19 i6_19 σ19 hI19
        refine lv_iload hx hb dL_isRaising_65 (lv_at hl 6 rfl) ?_
        refine lv_iload_n hx hb dL_isRaising_67 rfl (lv_at hl 1 rfl) ?_
        refine lv_icmp_ge (tgt := 181) hx hb dL_isRaising_68 (by decide) (fun k20 => ?_) (fun k20 => ?_)
        · skip
          have hw := hw.1 k20
          refine lv_aload_n hx hb dL_isRaising_181 rfl (lv_at hl 0 rfl) ?_
          refine mc_SW hSF hl.1 hP hD hS hA hK hGV (m_L_stuck l hfl D ad cA g  σ19 _ hw) goW_L_258 pd_L_stuck.2 ⟨(Nat.le_of_ble_eq_true rfl), (Nat.le_of_ble_eq_true rfl)⟩ ⟨(show cl19 + 1 ≤ 32 by omega), (show sl19 + 6 ≤ 192 by omega)⟩ dL_isRaising_182 rfl (Nat.le_of_ble_eq_true rfl) (fun v9 σ22 H locs hq hP hD hS => ?_)
          obtain ⟨r21, hv9, hw⟩ := hq
          subst hv9
          refine W.eq (g2 := F0 m 185 ls [.int r21]) rfl ?_
          refine W.widen (k := cl19 + 1) (n := sl19 + 6) (Nat.le_refl _) (Nat.le_refl _) ?_
          refine lv_istore (lv' := [(6, .int r21), (0, .ref (ad 0)), (1, .int p1), (2, .int r1), (3, .int i3_19), (4, .int i4_19), (5, .int r12)]) hx hb dL_isRaising_185 hl (by decide) rfl (fun ls hl => ?_)
          refine lv_iload_n hx hb dL_isRaising_187 rfl (lv_at hl 4 rfl) ?_
          refine lv_if_eq (tgt := 235) hx hb dL_isRaising_188 (by decide) (fun k23 => ?_) (fun k23 => ?_)
          · skip
            have hw := hw.1 k23
            refine lv_iconst (v := 0) hx hb dL_isRaising_235 (by decide) ?_
            exact vx_ret (m_i ⟨_, rfl, hw⟩ hx hb hr hlocks rfl hP hD hS (show cl19 + 1 ≤ 32 by omega) (show sl19 + 6 ≤ 192 by omega) dL_isRaising_236)
          · skip
            have hw := hw.2 k23
            refine lv_aload_n hx hb dL_isRaising_191 rfl (lv_at hl 1 rfl) ?_
            refine lv_iload_n hx hb dL_isRaising_192 rfl (lv_at hl 2 rfl) ?_
            refine mc_SW hSF hl.1 hP hD hS hA hK hGV (m_L_raised l hfl D ad cA g p1 σ22 _ hw) goW_L_254 pd_L_raised.2 ⟨(Nat.le_of_ble_eq_true rfl), (Nat.le_of_ble_eq_true rfl)⟩ ⟨(show cl19 + 2 ≤ 32 by omega), (show sl19 + 12 ≤ 192 by omega)⟩ dL_isRaising_193 rfl (Nat.le_of_ble_eq_true rfl) (fun v9 σ25 H locs hq hP hD hS => ?_)
            obtain ⟨r24, hv9, hw⟩ := hq
            subst hv9
            refine W.eq (g2 := F0 m 196 ls [.int r24]) rfl ?_
            refine W.widen (k := cl19 + 2) (n := sl19 + 12) (Nat.le_refl _) (Nat.le_refl _) ?_
            refine lv_iload_n hx hb dL_isRaising_196 rfl (lv_at hl 3 rfl) ?_
            refine lv_if_eq (tgt := 205) hx hb dL_isRaising_197 (by decide) (fun k26 => ?_) (fun k26 => ?_)
            · skip
              have hw := hw.1 k26
              refine lv_bipush (v := (-75)) hx hb dL_isRaising_205 (by decide) ?_
              refine lv_icmp_ne (tgt := 235) hx hb dL_isRaising_207 (by decide) (fun k27 => ?_) (fun k27 => ?_)
              · skip
                have hw := hw.1 k27
                refine lv_iconst (v := 0) hx hb dL_isRaising_235 (by decide) ?_
                exact vx_ret (m_i ⟨_, rfl, hw⟩ hx hb hr hlocks rfl hP hD hS (show cl19 + 2 ≤ 32 by omega) (show sl19 + 12 ≤ 192 by omega) dL_isRaising_236)
              · skip
                have hw := hw.2 k27
                refine lv_iload hx hb dL_isRaising_210 (lv_at hl 0 rfl) ?_
                refine lv_bipush (v := (-75)) hx hb dL_isRaising_212 (by decide) ?_
                refine lv_icmp_eq (tgt := 223) hx hb dL_isRaising_214 (by decide) (fun k28 => ?_) (fun k28 => ?_)
                · skip
                  have hw := hw.1 k28
                  refine lv_aload_n hx hb dL_isRaising_223 rfl (lv_at hl 1 rfl) ?_
                  refine mc_V hSF hl.1 hP hD hS hA hK hGV (m_X6_canRaise l hfl D ad cA g  σ25 _ hw) goV_L_245 pd_X6_canRaise ⟨(Nat.le_of_ble_eq_true rfl), (Nat.le_of_ble_eq_true rfl)⟩ ⟨(show cl19 + 2 ≤ 32 by omega), (show sl19 + 12 ≤ 192 by omega)⟩ (va_recv hK hP (ci := 8) (q0 := 0) rfl wl_0) dL_isRaising_224 rfl (Nat.le_of_ble_eq_true rfl) (fun v9 σ30 H locs hq hP hD hS => ?_) (fun _ _ _ _ _ _ h => h.elim)
                  obtain ⟨r29, hv9, hw⟩ := hq
                  subst hv9
                  refine W.eq (g2 := F0 m 227 ls [.int r29]) rfl ?_
                  refine W.widen (k := cl19 + 2) (n := sl19 + 12) (Nat.le_refl _) (Nat.le_refl _) ?_
                  refine lv_iload_n hx hb dL_isRaising_227 rfl (lv_at hl 3 rfl) ?_
                  refine lv_icmp_ne (tgt := 235) hx hb dL_isRaising_228 (by decide) (fun k31 => ?_) (fun k31 => ?_)
                  · skip
                    have hw := hw.1 k31
                    refine lv_iconst (v := 0) hx hb dL_isRaising_235 (by decide) ?_
                    exact vx_ret (m_i ⟨_, rfl, hw⟩ hx hb hr hlocks rfl hP hD hS (show cl19 + 2 ≤ 32 by omega) (show sl19 + 12 ≤ 192 by omega) dL_isRaising_236)
                  · skip
                    have hw := hw.2 k31
                    refine lv_iconst (v := 1) hx hb dL_isRaising_231 (by decide) ?_
                    refine lv_goto (tgt := 236) hx hb dL_isRaising_232 (by decide) ?_
                    exact vx_ret (m_i ⟨_, rfl, hw⟩ hx hb hr hlocks rfl hP hD hS (show cl19 + 2 ≤ 32 by omega) (show sl19 + 12 ≤ 192 by omega) dL_isRaising_236)
                · skip
                  have hw := hw.2 k28
                  refine lv_iload hx hb dL_isRaising_217 (lv_at hl 0 rfl) ?_
                  refine lv_iload_n hx hb dL_isRaising_219 rfl (lv_at hl 2 rfl) ?_
                  refine lv_icmp_ge (tgt := 235) hx hb dL_isRaising_220 (by decide) (fun k32 => ?_) (fun k32 => ?_)
                  · skip
                    have hw := hw.1 k32
                    refine lv_iconst (v := 0) hx hb dL_isRaising_235 (by decide) ?_
                    exact vx_ret (m_i ⟨_, rfl, hw⟩ hx hb hr hlocks rfl hP hD hS (show cl19 + 2 ≤ 32 by omega) (show sl19 + 12 ≤ 192 by omega) dL_isRaising_236)
                  · skip
                    have hw := hw.2 k32
                    refine lv_aload_n hx hb dL_isRaising_223 rfl (lv_at hl 1 rfl) ?_
                    refine mc_V hSF hl.1 hP hD hS hA hK hGV (m_X6_canRaise l hfl D ad cA g  σ25 _ hw) goV_L_245 pd_X6_canRaise ⟨(Nat.le_of_ble_eq_true rfl), (Nat.le_of_ble_eq_true rfl)⟩ ⟨(show cl19 + 2 ≤ 32 by omega), (show sl19 + 12 ≤ 192 by omega)⟩ (va_recv hK hP (ci := 8) (q0 := 0) rfl wl_0) dL_isRaising_224 rfl (Nat.le_of_ble_eq_true rfl) (fun v9 σ34 H locs hq hP hD hS => ?_) (fun _ _ _ _ _ _ h => h.elim)
                    obtain ⟨r33, hv9, hw⟩ := hq
                    subst hv9
                    refine W.eq (g2 := F0 m 227 ls [.int r33]) rfl ?_
                    refine W.widen (k := cl19 + 2) (n := sl19 + 12) (Nat.le_refl _) (Nat.le_refl _) ?_
                    refine lv_iload_n hx hb dL_isRaising_227 rfl (lv_at hl 3 rfl) ?_
                    refine lv_icmp_ne (tgt := 235) hx hb dL_isRaising_228 (by decide) (fun k35 => ?_) (fun k35 => ?_)
                    · skip
                      have hw := hw.1 k35
                      refine lv_iconst (v := 0) hx hb dL_isRaising_235 (by decide) ?_
                      exact vx_ret (m_i ⟨_, rfl, hw⟩ hx hb hr hlocks rfl hP hD hS (show cl19 + 2 ≤ 32 by omega) (show sl19 + 12 ≤ 192 by omega) dL_isRaising_236)
                    · skip
                      have hw := hw.2 k35
                      refine lv_iconst (v := 1) hx hb dL_isRaising_231 (by decide) ?_
                      refine lv_goto (tgt := 236) hx hb dL_isRaising_232 (by decide) ?_
                      exact vx_ret (m_i ⟨_, rfl, hw⟩ hx hb hr hlocks rfl hP hD hS (show cl19 + 2 ≤ 32 by omega) (show sl19 + 12 ≤ 192 by omega) dL_isRaising_236)
            · skip
              have hw := hw.2 k26
              refine lv_bipush (v := (-77)) hx hb dL_isRaising_200 (by decide) ?_
              refine lv_goto (tgt := 207) hx hb dL_isRaising_202 (by decide) ?_
              refine lv_icmp_ne (tgt := 235) hx hb dL_isRaising_207 (by decide) (fun k36 => ?_) (fun k36 => ?_)
              · skip
                have hw := hw.1 k36
                refine lv_iconst (v := 0) hx hb dL_isRaising_235 (by decide) ?_
                exact vx_ret (m_i ⟨_, rfl, hw⟩ hx hb hr hlocks rfl hP hD hS (show cl19 + 2 ≤ 32 by omega) (show sl19 + 12 ≤ 192 by omega) dL_isRaising_236)
              · skip
                have hw := hw.2 k36
                refine lv_iload hx hb dL_isRaising_210 (lv_at hl 0 rfl) ?_
                refine lv_bipush (v := (-75)) hx hb dL_isRaising_212 (by decide) ?_
                refine lv_icmp_eq (tgt := 223) hx hb dL_isRaising_214 (by decide) (fun k37 => ?_) (fun k37 => ?_)
                · skip
                  have hw := hw.1 k37
                  refine lv_aload_n hx hb dL_isRaising_223 rfl (lv_at hl 1 rfl) ?_
                  refine mc_V hSF hl.1 hP hD hS hA hK hGV (m_X6_canRaise l hfl D ad cA g  σ25 _ hw) goV_L_245 pd_X6_canRaise ⟨(Nat.le_of_ble_eq_true rfl), (Nat.le_of_ble_eq_true rfl)⟩ ⟨(show cl19 + 2 ≤ 32 by omega), (show sl19 + 12 ≤ 192 by omega)⟩ (va_recv hK hP (ci := 8) (q0 := 0) rfl wl_0) dL_isRaising_224 rfl (Nat.le_of_ble_eq_true rfl) (fun v9 σ39 H locs hq hP hD hS => ?_) (fun _ _ _ _ _ _ h => h.elim)
                  obtain ⟨r38, hv9, hw⟩ := hq
                  subst hv9
                  refine W.eq (g2 := F0 m 227 ls [.int r38]) rfl ?_
                  refine W.widen (k := cl19 + 2) (n := sl19 + 12) (Nat.le_refl _) (Nat.le_refl _) ?_
                  refine lv_iload_n hx hb dL_isRaising_227 rfl (lv_at hl 3 rfl) ?_
                  refine lv_icmp_ne (tgt := 235) hx hb dL_isRaising_228 (by decide) (fun k40 => ?_) (fun k40 => ?_)
                  · skip
                    have hw := hw.1 k40
                    refine lv_iconst (v := 0) hx hb dL_isRaising_235 (by decide) ?_
                    exact vx_ret (m_i ⟨_, rfl, hw⟩ hx hb hr hlocks rfl hP hD hS (show cl19 + 2 ≤ 32 by omega) (show sl19 + 12 ≤ 192 by omega) dL_isRaising_236)
                  · skip
                    have hw := hw.2 k40
                    refine lv_iconst (v := 1) hx hb dL_isRaising_231 (by decide) ?_
                    refine lv_goto (tgt := 236) hx hb dL_isRaising_232 (by decide) ?_
                    exact vx_ret (m_i ⟨_, rfl, hw⟩ hx hb hr hlocks rfl hP hD hS (show cl19 + 2 ≤ 32 by omega) (show sl19 + 12 ≤ 192 by omega) dL_isRaising_236)
                · skip
                  have hw := hw.2 k37
                  refine lv_iload hx hb dL_isRaising_217 (lv_at hl 0 rfl) ?_
                  refine lv_iload_n hx hb dL_isRaising_219 rfl (lv_at hl 2 rfl) ?_
                  refine lv_icmp_ge (tgt := 235) hx hb dL_isRaising_220 (by decide) (fun k41 => ?_) (fun k41 => ?_)
                  · skip
                    have hw := hw.1 k41
                    refine lv_iconst (v := 0) hx hb dL_isRaising_235 (by decide) ?_
                    exact vx_ret (m_i ⟨_, rfl, hw⟩ hx hb hr hlocks rfl hP hD hS (show cl19 + 2 ≤ 32 by omega) (show sl19 + 12 ≤ 192 by omega) dL_isRaising_236)
                  · skip
                    have hw := hw.2 k41
                    refine lv_aload_n hx hb dL_isRaising_223 rfl (lv_at hl 1 rfl) ?_
                    refine mc_V hSF hl.1 hP hD hS hA hK hGV (m_X6_canRaise l hfl D ad cA g  σ25 _ hw) goV_L_245 pd_X6_canRaise ⟨(Nat.le_of_ble_eq_true rfl), (Nat.le_of_ble_eq_true rfl)⟩ ⟨(show cl19 + 2 ≤ 32 by omega), (show sl19 + 12 ≤ 192 by omega)⟩ (va_recv hK hP (ci := 8) (q0 := 0) rfl wl_0) dL_isRaising_224 rfl (Nat.le_of_ble_eq_true rfl) (fun v9 σ43 H locs hq hP hD hS => ?_) (fun _ _ _ _ _ _ h => h.elim)
                    obtain ⟨r42, hv9, hw⟩ := hq
                    subst hv9
                    refine W.eq (g2 := F0 m 227 ls [.int r42]) rfl ?_
                    refine W.widen (k := cl19 + 2) (n := sl19 + 12) (Nat.le_refl _) (Nat.le_refl _) ?_
                    refine lv_iload_n hx hb dL_isRaising_227 rfl (lv_at hl 3 rfl) ?_
                    refine lv_icmp_ne (tgt := 235) hx hb dL_isRaising_228 (by decide) (fun k44 => ?_) (fun k44 => ?_)
                    · skip
                      have hw := hw.1 k44
                      refine lv_iconst (v := 0) hx hb dL_isRaising_235 (by decide) ?_
                      exact vx_ret (m_i ⟨_, rfl, hw⟩ hx hb hr hlocks rfl hP hD hS (show cl19 + 2 ≤ 32 by omega) (show sl19 + 12 ≤ 192 by omega) dL_isRaising_236)
                    · skip
                      have hw := hw.2 k44
                      refine lv_iconst (v := 1) hx hb dL_isRaising_231 (by decide) ?_
                      refine lv_goto (tgt := 236) hx hb dL_isRaising_232 (by decide) ?_
                      exact vx_ret (m_i ⟨_, rfl, hw⟩ hx hb hr hlocks rfl hP hD hS (show cl19 + 2 ≤ 32 by omega) (show sl19 + 12 ≤ 192 by omega) dL_isRaising_236)
        · skip
          have hw := hw.2 k20
          refine lv_aload_n hx hb dL_isRaising_71 rfl (lv_at hl 0 rfl) ?_
          refine lv_iload hx hb dL_isRaising_72 (lv_at hl 6 rfl) ?_
          refine mc_SW hSF hl.1 hP hD hS hA hK hGV (m_L_raised l hfl D ad cA g i6_19 σ19 _ hw) goW_L_254 pd_L_raised.2 ⟨(Nat.le_of_ble_eq_true rfl), (Nat.le_of_ble_eq_true rfl)⟩ ⟨(show cl19 + 1 ≤ 32 by omega), (show sl19 + 6 ≤ 192 by omega)⟩ dL_isRaising_74 rfl (Nat.le_of_ble_eq_true rfl) (fun v9 σ46 H locs hq hP hD hS => ?_)
          obtain ⟨r45, hv9, hw⟩ := hq
          subst hv9
          refine W.eq (g2 := F0 m 77 ls [.int r45]) rfl ?_
          refine W.widen (k := cl19 + 1) (n := sl19 + 6) (Nat.le_refl _) (Nat.le_refl _) ?_
          refine lv_istore (lv' := [(7, .int r45), (0, .ref (ad 0)), (1, .int p1), (2, .int r1), (3, .int i3_19), (4, .int i4_19), (5, .int r12), (6, .int i6_19)]) hx hb dL_isRaising_77 hl (by decide) rfl (fun ls hl => ?_)
          refine lv_iload_n hx hb dL_isRaising_79 rfl (lv_at hl 4 rfl) ?_
          refine (fun hw => ?_) (hw (fun (s0_47 : Int32) (σ47 : Sg) => ∀ (H : Heap) (locs : List Loc) (ls : Array Slot), va_P D vwCl (WL ad cA σ47) H → va_D A (WL ad cA σ47) → va_S A s.heap H locs → lv_has ls 8 [(0, .ref (ad 0)), (1, .int p1), (2, .int r1), (4, .int i4_19), (5, .int r12), (6, .int i6_19), (7, .int r45)] → W p l e (RM 9 32 192 181) s m args below meth c H locs (cl19 + 3) (sl19 + 18) (vx_MQ below (QM D ad cA A (fun v σ' => ∃ r : Int32, v = some (.int r) ∧ Q r σ')) (XM D ad cA A (fun _ _ => False)) args s (RM 9 32 192 181).cells (RM 9 32 192 181).slots A) (F0 m 156 ls [.int s0_47, .int i3_19])) ?_)
          · skip
            refine lv_iload_n hx hb dL_isRaising_80 rfl (lv_at hl 3 rfl) ?_
            refine lv_if_eq (tgt := 133) hx hb dL_isRaising_81 (by decide) (fun k48 => ?_) (fun k48 => ?_)
            · skip
              have hw := hw.1 k48
              refine lv_iload hx hb dL_isRaising_133 (lv_at hl 0 rfl) ?_
              refine lv_bipush (v := (-75)) hx hb dL_isRaising_135 (by decide) ?_
              refine lv_icmp_ne (tgt := 155) hx hb dL_isRaising_137 (by decide) (fun k49 => ?_) (fun k49 => ?_)
              · skip
                have hw := hw.1 k49
                refine lv_iconst (v := 0) hx hb dL_isRaising_155 (by decide) ?_
                exact W.widen (Nat.add_le_add_left (Nat.le_of_ble_eq_true rfl) _) (Nat.add_le_add_left (Nat.le_of_ble_eq_true rfl) _) (hw _ _ ls hP hD hS (lv_sub hl [1, 2, 3, 5, 6, 7, 0] rfl))
              · skip
                have hw := hw.2 k49
                refine lv_aload_n hx hb dL_isRaising_140 rfl (lv_at hl 1 rfl) ?_
                refine lv_iload hx hb dL_isRaising_141 (lv_at hl 7 rfl) ?_
                refine mc_SW hSF hl.1 hP hD hS hA hK hGV (m_L_props l hfl D ad cA g i6_19 σ46 _ hw) goW_L_256 pd_L_props.2 ⟨(Nat.le_of_ble_eq_true rfl), (Nat.le_of_ble_eq_true rfl)⟩ ⟨(show cl19 + 2 ≤ 32 by omega), (show sl19 + 12 ≤ 192 by omega)⟩ dL_isRaising_143 rfl (Nat.le_of_ble_eq_true rfl) (fun v9 σ51 H locs hq hP hD hS => ?_)
                obtain ⟨r50, hv9, hw⟩ := hq
                subst hv9
                refine W.eq (g2 := F0 m 146 ls [.int r50, .int i3_19]) rfl ?_
                refine W.widen (k := cl19 + 2) (n := sl19 + 12) (Nat.le_refl _) (Nat.le_refl _) ?_
                refine lv_bipush (v := (-75)) hx hb dL_isRaising_146 (by decide) ?_
                refine lv_icmp_ne (tgt := 155) hx hb dL_isRaising_148 (by decide) (fun k52 => ?_) (fun k52 => ?_)
                · skip
                  have hw := hw.1 k52
                  refine lv_iconst (v := 0) hx hb dL_isRaising_155 (by decide) ?_
                  exact W.widen (Nat.add_le_add_left (Nat.le_of_ble_eq_true rfl) _) (Nat.add_le_add_left (Nat.le_of_ble_eq_true rfl) _) (hw _ _ ls hP hD hS (lv_sub hl [1, 2, 3, 5, 6, 7, 0] rfl))
                · skip
                  have hw := hw.2 k52
                  refine lv_iconst (v := 1) hx hb dL_isRaising_151 (by decide) ?_
                  refine lv_goto (tgt := 156) hx hb dL_isRaising_152 (by decide) ?_
                  exact W.widen (Nat.add_le_add_left (Nat.le_of_ble_eq_true rfl) _) (Nat.add_le_add_left (Nat.le_of_ble_eq_true rfl) _) (hw _ _ ls hP hD hS (lv_sub hl [1, 2, 3, 5, 6, 7, 0] rfl))
            · skip
              have hw := hw.2 k48
              refine lv_iload hx hb dL_isRaising_84 (lv_at hl 0 rfl) ?_
              refine lv_if_lt (tgt := 129) hx hb dL_isRaising_86 (by decide) (fun k53 => ?_) (fun k53 => ?_)
              · skip
                have hw := hw.1 k53
                refine lv_iconst (v := 0) hx hb dL_isRaising_129 (by decide) ?_
                refine lv_goto (tgt := 156) hx hb dL_isRaising_130 (by decide) ?_
                exact W.widen (Nat.add_le_add_left (Nat.le_of_ble_eq_true rfl) _) (Nat.add_le_add_left (Nat.le_of_ble_eq_true rfl) _) (hw _ _ ls hP hD hS (lv_sub hl [1, 2, 3, 5, 6, 7, 0] rfl))
              · skip
                have hw := hw.2 k53
                refine lv_iload hx hb dL_isRaising_89 (lv_at hl 0 rfl) ?_
                refine lv_iload_n hx hb dL_isRaising_91 rfl (lv_at hl 2 rfl) ?_
                refine lv_icmp_ge (tgt := 129) hx hb dL_isRaising_92 (by decide) (fun k54 => ?_) (fun k54 => ?_)
                · skip
                  have hw := hw.1 k54
                  refine lv_iconst (v := 0) hx hb dL_isRaising_129 (by decide) ?_
                  refine lv_goto (tgt := 156) hx hb dL_isRaising_130 (by decide) ?_
                  exact W.widen (Nat.add_le_add_left (Nat.le_of_ble_eq_true rfl) _) (Nat.add_le_add_left (Nat.le_of_ble_eq_true rfl) _) (hw _ _ ls hP hD hS (lv_sub hl [1, 2, 3, 5, 6, 7, 0] rfl))
                · skip
                  have hw := hw.2 k54
                  refine lv_iload hx hb dL_isRaising_95 (lv_at hl 5 rfl) ?_
                  refine lv_iload hx hb dL_isRaising_97 (lv_at hl 0 rfl) ?_
                  refine k_ishr (v := iShr i4_19 r45) hx hb dL_isRaising_99 rfl ?_
                  refine lv_iconst (v := 1) hx hb dL_isRaising_100 (by decide) ?_
                  refine k_iand (v := (iShr i4_19 r45) &&& 1) hx hb dL_isRaising_101 rfl ?_
                  refine lv_if_ne (tgt := 129) hx hb dL_isRaising_102 (by decide) (fun k55 => ?_) (fun k55 => ?_)
                  · skip
                    have hw := hw.1 k55
                    refine lv_iconst (v := 0) hx hb dL_isRaising_129 (by decide) ?_
                    refine lv_goto (tgt := 156) hx hb dL_isRaising_130 (by decide) ?_
                    exact W.widen (Nat.add_le_add_left (Nat.le_of_ble_eq_true rfl) _) (Nat.add_le_add_left (Nat.le_of_ble_eq_true rfl) _) (hw _ _ ls hP hD hS (lv_sub hl [1, 2, 3, 5, 6, 7, 0] rfl))
                  · skip
                    have hw := hw.2 k55
                    refine lv_aload_n hx hb dL_isRaising_105 rfl (lv_at hl 1 rfl) ?_
                    refine lv_iload hx hb dL_isRaising_106 (lv_at hl 7 rfl) ?_
                    refine mc_SW hSF hl.1 hP hD hS hA hK hGV (m_L_props l hfl D ad cA g i6_19 σ46 _ hw) goW_L_256 pd_L_props.2 ⟨(Nat.le_of_ble_eq_true rfl), (Nat.le_of_ble_eq_true rfl)⟩ ⟨(show cl19 + 2 ≤ 32 by omega), (show sl19 + 12 ≤ 192 by omega)⟩ dL_isRaising_108 rfl (Nat.le_of_ble_eq_true rfl) (fun v9 σ57 H locs hq hP hD hS => ?_)
                    obtain ⟨r56, hv9, hw⟩ := hq
                    subst hv9
                    refine W.eq (g2 := F0 m 111 ls [.int r56, .int i3_19]) rfl ?_
                    refine W.widen (k := cl19 + 2) (n := sl19 + 12) (Nat.le_refl _) (Nat.le_refl _) ?_
                    refine lv_if_lt (tgt := 129) hx hb dL_isRaising_111 (by decide) (fun k58 => ?_) (fun k58 => ?_)
                    · skip
                      have hw := hw.1 k58
                      refine lv_iconst (v := 0) hx hb dL_isRaising_129 (by decide) ?_
                      refine lv_goto (tgt := 156) hx hb dL_isRaising_130 (by decide) ?_
                      exact W.widen (Nat.add_le_add_left (Nat.le_of_ble_eq_true rfl) _) (Nat.add_le_add_left (Nat.le_of_ble_eq_true rfl) _) (hw _ _ ls hP hD hS (lv_sub hl [1, 2, 3, 5, 6, 7, 0] rfl))
                    · skip
                      have hw := hw.2 k58
                      refine lv_aload_n hx hb dL_isRaising_114 rfl (lv_at hl 1 rfl) ?_
                      refine lv_iload hx hb dL_isRaising_115 (lv_at hl 7 rfl) ?_
                      refine mc_SW hSF hl.1 hP hD hS hA hK hGV (m_L_props l hfl D ad cA g i6_19 σ57 _ hw) goW_L_256 pd_L_props.2 ⟨(Nat.le_of_ble_eq_true rfl), (Nat.le_of_ble_eq_true rfl)⟩ ⟨(show cl19 + 3 ≤ 32 by omega), (show sl19 + 18 ≤ 192 by omega)⟩ dL_isRaising_117 rfl (Nat.le_of_ble_eq_true rfl) (fun v9 σ60 H locs hq hP hD hS => ?_)
                      obtain ⟨r59, hv9, hw⟩ := hq
                      subst hv9
                      refine W.eq (g2 := F0 m 120 ls [.int r59, .int i3_19]) rfl ?_
                      refine W.widen (k := cl19 + 3) (n := sl19 + 18) (Nat.le_refl _) (Nat.le_refl _) ?_
                      refine lv_iload hx hb dL_isRaising_120 (lv_at hl 6 rfl) ?_
                      refine lv_icmp_gt (tgt := 129) hx hb dL_isRaising_122 (by decide) (fun k61 => ?_) (fun k61 => ?_)
                      · skip
                        have hw := hw.1 k61
                        refine lv_iconst (v := 0) hx hb dL_isRaising_129 (by decide) ?_
                        refine lv_goto (tgt := 156) hx hb dL_isRaising_130 (by decide) ?_
                        exact W.widen (Nat.add_le_add_left (Nat.le_of_ble_eq_true rfl) _) (Nat.add_le_add_left (Nat.le_of_ble_eq_true rfl) _) (hw _ _ ls hP hD hS (lv_sub hl [1, 2, 3, 5, 6, 7, 0] rfl))
                      · skip
                        have hw := hw.2 k61
                        refine lv_iconst (v := 1) hx hb dL_isRaising_125 (by decide) ?_
                        refine lv_goto (tgt := 156) hx hb dL_isRaising_126 (by decide) ?_
                        exact W.widen (Nat.add_le_add_left (Nat.le_of_ble_eq_true rfl) _) (Nat.add_le_add_left (Nat.le_of_ble_eq_true rfl) _) (hw _ _ ls hP hD hS (lv_sub hl [1, 2, 3, 5, 6, 7, 0] rfl))
          · skip
            intro s0_47 σ47 hw H locs ls hP hD hS hl
            refine k_iand (v := i3_19 &&& s0_47) hx hb dL_isRaising_156 rfl ?_
            obtain ⟨v62, ev62⟩ : ∃ z : Int32, z = i3_19 &&& s0_47 := ⟨_, rfl⟩
            have hw := hw v62 ev62
            refine lv_istore_n (lv' := [(3, .int v62), (0, .ref (ad 0)), (1, .int p1), (2, .int r1), (4, .int i4_19), (5, .int r12), (6, .int i6_19), (7, .int r45)]) hx hb dL_isRaising_157 rfl hl (by decide) (by subst ev62; rfl) (fun ls hl => ?_)
            refine lv_iload hx hb dL_isRaising_158 (lv_at hl 4 rfl) ?_
            refine (fun hw => ?_) (hw (fun (s0_63 : Int32) => ∀ (H : Heap) (locs : List Loc) (ls : Array Slot), va_P D vwCl (WL ad cA σ47) H → va_D A (WL ad cA σ47) → va_S A s.heap H locs → lv_has ls 8 [(0, .ref (ad 0)), (1, .int p1), (2, .int r1), (3, .int v62), (5, .int r12), (6, .int i6_19)] → W p l e (RM 9 32 192 181) s m args below meth c H locs (cl19 + 3) (sl19 + 18) (vx_MQ below (QM D ad cA A (fun v σ' => ∃ r : Int32, v = some (.int r) ∧ Q r σ')) (XM D ad cA A (fun _ _ => False)) args s (RM 9 32 192 181).cells (RM 9 32 192 181).slots A) (F0 m 172 ls [.int s0_63, .int i4_19])) ?_)
            · skip
              refine lv_iload_n hx hb dL_isRaising_160 rfl (lv_at hl 3 rfl) ?_
              refine lv_if_eq (tgt := 171) hx hb dL_isRaising_161 (by decide) (fun k64 => ?_) (fun k64 => ?_)
              · skip
                have hw := hw.1 k64
                refine lv_iconst (v := 0) hx hb dL_isRaising_171 (by decide) ?_
                exact W.widen (Nat.add_le_add_left (Nat.le_of_ble_eq_true rfl) _) (Nat.add_le_add_left (Nat.le_of_ble_eq_true rfl) _) (hw _ _ ls hP hD hS (lv_sub hl [1, 2, 3, 0, 5, 6] rfl))
              · skip
                have hw := hw.2 k64
                refine lv_iconst (v := 1) hx hb dL_isRaising_164 (by decide) ?_
                refine lv_iload hx hb dL_isRaising_165 (lv_at hl 7 rfl) ?_
                refine k_ishl (v := iShl 1 r45) hx hb dL_isRaising_167 rfl ?_
                refine lv_goto (tgt := 172) hx hb dL_isRaising_168 (by decide) ?_
                exact W.widen (Nat.add_le_add_left (Nat.le_of_ble_eq_true rfl) _) (Nat.add_le_add_left (Nat.le_of_ble_eq_true rfl) _) (hw _ _ ls hP hD hS (lv_sub hl [1, 2, 3, 0, 5, 6] rfl))
            · skip
              intro s0_63 hw H locs ls hP hD hS hl
              refine k_ior (v := i4_19 ||| s0_63) hx hb dL_isRaising_172 rfl ?_
              obtain ⟨v65, ev65⟩ : ∃ z : Int32, z = i4_19 ||| s0_63 := ⟨_, rfl⟩
              have hw := hw v65 ev65
              refine lv_istore (lv' := [(4, .int v65), (0, .ref (ad 0)), (1, .int p1), (2, .int r1), (3, .int v62), (5, .int r12), (6, .int i6_19)]) hx hb dL_isRaising_173 hl (by decide) (by subst ev65; rfl) (fun ls hl => ?_)
              refine lv_iinc (v := i6_19 + 1) (lv' := [(6, .int (i6_19 + 1)), (4, .int v65), (0, .ref (ad 0)), (1, .int p1), (2, .int r1), (3, .int v62), (5, .int r12)]) hx hb dL_isRaising_175 hl (k := 6) rfl rfl (by decide) rfl (fun ls hl => ?_)
              refine lv_goto (tgt := 65) hx hb dL_isRaising_178 (by decide) ?_
              exact ih19 v62 v65 (i6_19 + 1) σ47 (Nat.lt_of_lt_of_le hw.2 (Nat.le_of_lt_succ hm19)) hw.1 (cl19 + 3) (sl19 + 18) (by have := hw.2; omega) (by have := hw.2; omega) (by have := hw.2; omega) _ _ ls hP hD hS (lv_sub hl [2, 3, 4, 5, 1, 6, 0] rfl)

set_option maxHeartbeats 4000000 in
set_option maxRecDepth 100000 in
theorem m_X6_isSound (l : Launch) (hfl : l.stackTraces = false) (D : va_G) (ad : Nat → Nat) (cA : Nat → ClassId) (g : gv_T) (σ : Sg) (Q : Int32 → Sg → Prop) (hw : w_X6_isSound  σ Q) : MC l yX6_isSound cX6_isSound 2 (some .boolean) (RM 6 0 0 135) D ad cA g [.ref (ad 0)] σ (fun v σ' => ∃ r : Int32, v = some (.int r) ∧ Q r σ') (fun _ _ => False) := by
  refine MC.of (plainFor_of_name (by decide +kernel)) (Nat.le_of_ble_eq_true rfl) ?_
  intro p e s m args below meth c A ls hx hb hr hml hown hG hlocks htab hA hS hP hK hD hGV hl
  have hown : s.vm.findClass RX6 = some m.cls := hown
  have hl : lv_has ls 2 [(0, .ref (ad 0))] := hl
  have hSF : CF p m c cX6_isSound 2 s args RX6 := ⟨hx, hb, hml, hown, hG⟩
  refine lv_aload_n hx hb dX6_isSound_0 rfl (lv_at hl 0 rfl) ?_
  refine k_get (ci := 8) (C := RX6) (T := TX6) (N := 5) (v := .ref (ad 12)) hx hb hG inX6 hown hK hP 0 wl_0 rfl 1 (by decide) gw306 rfl dX6_isSound_1 ?_
  refine lv_aload_n hx hb dX6_isSound_4 rfl (lv_at hl 0 rfl) ?_
  refine k_get (ci := 8) (C := RX6) (T := TX6) (N := 5) (v := .ref (ad 1)) hx hb hG inX6 hown hK hP 0 wl_0 rfl 0 (by decide) gw305 rfl dX6_isSound_5 ?_
  refine mc_V hSF hl.1 hP hD hS hA hK hGV (m_X1_find l hfl D ad cA g  σ _ hw) goV_X6_110 pd_X1_find ⟨(Nat.le_of_ble_eq_true rfl), (Nat.le_of_ble_eq_true rfl)⟩ ⟨(Nat.le_of_ble_eq_true rfl), (Nat.le_of_ble_eq_true rfl)⟩ (va_recv hK hP (ci := 3) (q0 := 12) rfl wl_12) dX6_isSound_8 rfl (Nat.le_of_ble_eq_true rfl) (fun v9 σ2 H locs hq hP hD hS => ?_) (fun _ _ _ _ _ _ h => h.elim)
  obtain ⟨hv9, hw⟩ := hq
  subst hv9
  refine W.eq (g2 := F0 m 11 ls []) rfl ?_
  refine W.widen (k := 0) (n := 0) (Nat.le_refl _) (Nat.le_refl _) ?_
  refine lv_aload_n hx hb dX6_isSound_11 rfl (lv_at hl 0 rfl) ?_
  refine k_get (ci := 8) (C := RX6) (T := TX6) (N := 5) (v := .ref (ad 12)) hx hb hG inX6 hown hK hP 0 wl_0 rfl 1 (by decide) gw306 rfl dX6_isSound_12 ?_
  refine k_get (ci := 3) (C := RX1) (T := TX1) (N := 17) (v := .int (gI σ2 3)) hx hb hG inX1 hown hK hP 12 wl_12 rfl 1 (by decide) gw142 rfl dX6_isSound_15 ?_
  refine lv_bipush (v := 46) hx hb dX6_isSound_18 (by decide) ?_
  refine lv_icmp_ne (tgt := 54) hx hb dX6_isSound_20 (by decide) (fun k3 => ?_) (fun k3 => ?_)
  · skip
    have hw := hw.1 k3
    refine lv_aload_n hx hb dX6_isSound_54 rfl (lv_at hl 0 rfl) ?_
    refine mc_V hSF hl.1 hP hD hS hA hK hGV (m_X6_canRaise l hfl D ad cA g  σ2 _ hw) goV_X6_273 pd_X6_canRaise ⟨(Nat.le_of_ble_eq_true rfl), (Nat.le_of_ble_eq_true rfl)⟩ ⟨(Nat.le_of_ble_eq_true rfl), (Nat.le_of_ble_eq_true rfl)⟩ (va_recv hK hP (ci := 8) (q0 := 0) rfl wl_0) dX6_isSound_55 rfl (Nat.le_of_ble_eq_true rfl) (fun v9 σ5 H locs hq hP hD hS => ?_) (fun _ _ _ _ _ _ h => h.elim)
    obtain ⟨r4, hv9, hw⟩ := hq
    subst hv9
    refine W.eq (g2 := F0 m 58 ls [.int r4]) rfl ?_
    refine W.widen (k := 0) (n := 0) (Nat.le_refl _) (Nat.le_refl _) ?_
    refine lv_aload_n hx hb dX6_isSound_58 rfl (lv_at hl 0 rfl) ?_
    refine mc_V hSF hl.1 hP hD hS hA hK hGV (m_X6_canTakeAway l hfl D ad cA g  σ5 _ hw) goV_X6_277 pd_X6_canTakeAway ⟨(Nat.le_of_ble_eq_true rfl), (Nat.le_of_ble_eq_true rfl)⟩ ⟨(Nat.le_of_ble_eq_true rfl), (Nat.le_of_ble_eq_true rfl)⟩ (va_recv hK hP (ci := 8) (q0 := 0) rfl wl_0) dX6_isSound_59 rfl (Nat.le_of_ble_eq_true rfl) (fun v9 σ7 H locs hq hP hD hS => ?_) (fun _ _ _ _ _ _ h => h.elim)
    obtain ⟨r6, hv9, hw⟩ := hq
    subst hv9
    refine W.eq (g2 := F0 m 62 ls [.int r6, .int r4]) rfl ?_
    refine W.widen (k := 0) (n := 0) (Nat.le_refl _) (Nat.le_refl _) ?_
    refine lv_icmp_ne (tgt := 69) hx hb dX6_isSound_62 (by decide) (fun k8 => ?_) (fun k8 => ?_)
    · skip
      have hw := hw.1 k8
      refine lv_iconst (v := 0) hx hb dX6_isSound_69 (by decide) ?_
      exact vx_ret (m_i ⟨_, rfl, hw⟩ hx hb hr hlocks rfl hP hD hS (Nat.le_of_ble_eq_true rfl) (Nat.le_of_ble_eq_true rfl) dX6_isSound_70)
    · skip
      have hw := hw.2 k8
      refine lv_iconst (v := 1) hx hb dX6_isSound_65 (by decide) ?_
      refine lv_goto (tgt := 70) hx hb dX6_isSound_66 (by decide) ?_
      exact vx_ret (m_i ⟨_, rfl, hw⟩ hx hb hr hlocks rfl hP hD hS (Nat.le_of_ble_eq_true rfl) (Nat.le_of_ble_eq_true rfl) dX6_isSound_70)
  · skip
    have hw := hw.2 k3
    refine lv_iconst (v := 0) hx hb dX6_isSound_23 (by decide) ?_
    refine lv_istore_n (lv' := [(1, .int 0), (0, .ref (ad 0))]) hx hb dX6_isSound_24 rfl hl (by decide) rfl (fun ls hl => ?_)
    obtain ⟨I9, μ9, hI9, hw9⟩ := hw
    have hl : lv_has ls 2 [(0, .ref (ad 0)), (1, .int 0)] := lv_sub hl [1, 0] rfl
    suffices key9 : ∀ (n9 : Nat) (i1_9 : Int32), μ9 i1_9 < n9 → I9 i1_9 → ∀ (H : Heap) (locs : List Loc) (ls : Array Slot), va_P D vwCl (WL ad cA σ2) H → va_D A (WL ad cA σ2) → va_S A s.heap H locs → lv_has ls 2 [(0, .ref (ad 0)), (1, .int i1_9)] → W p l e (RM 6 0 0 135) s m args below meth c H locs (0) (0) (vx_MQ below (QM D ad cA A (fun v σ' => ∃ r : Int32, v = some (.int r) ∧ Q r σ')) (XM D ad cA A (fun _ _ => False)) args s (RM 6 0 0 135).cells (RM 6 0 0 135).slots A) (F0 m 25 ls []) from key9 _ _ (Nat.lt_succ_self _) hI9 _ _ ls hP hD hS hl
    clear hP hD hS hl
    intro n9
    induction n9 with
    | zero => intro _ h; exact absurd h (Nat.not_lt_zero _)
    | succ n9 ih9 =>
      intro i1_9 hm9 hI9 H locs ls hP hD hS hl
      have hw := hw9 i1_9 hI9
      refine lv_iload_n hx hb dX6_isSound_25 rfl (lv_at hl 1 rfl) ?_
      refine lv_bipush (v := 30) hx hb dX6_isSound_26 (by decide) ?_
      refine lv_icmp_gt (tgt := 54) hx hb dX6_isSound_28 (by decide) (fun k10 => ?_) (fun k10 => ?_)
      · skip
        have hw := hw.1 k10
        refine lv_aload_n hx hb dX6_isSound_54 rfl (lv_at hl 0 rfl) ?_
        refine mc_V hSF hl.1 hP hD hS hA hK hGV (m_X6_canRaise l hfl D ad cA g  σ2 _ hw) goV_X6_273 pd_X6_canRaise ⟨(Nat.le_of_ble_eq_true rfl), (Nat.le_of_ble_eq_true rfl)⟩ ⟨(Nat.le_of_ble_eq_true rfl), (Nat.le_of_ble_eq_true rfl)⟩ (va_recv hK hP (ci := 8) (q0 := 0) rfl wl_0) dX6_isSound_55 rfl (Nat.le_of_ble_eq_true rfl) (fun v9 σ12 H locs hq hP hD hS => ?_) (fun _ _ _ _ _ _ h => h.elim)
        obtain ⟨r11, hv9, hw⟩ := hq
        subst hv9
        refine W.eq (g2 := F0 m 58 ls [.int r11]) rfl ?_
        refine W.widen (k := 0) (n := 0) (Nat.le_refl _) (Nat.le_refl _) ?_
        refine lv_aload_n hx hb dX6_isSound_58 rfl (lv_at hl 0 rfl) ?_
        refine mc_V hSF hl.1 hP hD hS hA hK hGV (m_X6_canTakeAway l hfl D ad cA g  σ12 _ hw) goV_X6_277 pd_X6_canTakeAway ⟨(Nat.le_of_ble_eq_true rfl), (Nat.le_of_ble_eq_true rfl)⟩ ⟨(Nat.le_of_ble_eq_true rfl), (Nat.le_of_ble_eq_true rfl)⟩ (va_recv hK hP (ci := 8) (q0 := 0) rfl wl_0) dX6_isSound_59 rfl (Nat.le_of_ble_eq_true rfl) (fun v9 σ14 H locs hq hP hD hS => ?_) (fun _ _ _ _ _ _ h => h.elim)
        obtain ⟨r13, hv9, hw⟩ := hq
        subst hv9
        refine W.eq (g2 := F0 m 62 ls [.int r13, .int r11]) rfl ?_
        refine W.widen (k := 0) (n := 0) (Nat.le_refl _) (Nat.le_refl _) ?_
        refine lv_icmp_ne (tgt := 69) hx hb dX6_isSound_62 (by decide) (fun k15 => ?_) (fun k15 => ?_)
        · skip
          have hw := hw.1 k15
          refine lv_iconst (v := 0) hx hb dX6_isSound_69 (by decide) ?_
          exact vx_ret (m_i ⟨_, rfl, hw⟩ hx hb hr hlocks rfl hP hD hS (Nat.le_of_ble_eq_true rfl) (Nat.le_of_ble_eq_true rfl) dX6_isSound_70)
        · skip
          have hw := hw.2 k15
          refine lv_iconst (v := 1) hx hb dX6_isSound_65 (by decide) ?_
          refine lv_goto (tgt := 70) hx hb dX6_isSound_66 (by decide) ?_
          exact vx_ret (m_i ⟨_, rfl, hw⟩ hx hb hr hlocks rfl hP hD hS (Nat.le_of_ble_eq_true rfl) (Nat.le_of_ble_eq_true rfl) dX6_isSound_70)
      · skip
        have hw := hw.2 k10
        refine lv_aload_n hx hb dX6_isSound_31 rfl (lv_at hl 0 rfl) ?_
        refine k_get (ci := 8) (C := RX6) (T := TX6) (N := 5) (v := .ref (ad 12)) hx hb hG inX6 hown hK hP 0 wl_0 rfl 1 (by decide) gw306 rfl dX6_isSound_32 ?_
        refine lv_aload_n hx hb dX6_isSound_35 rfl (lv_at hl 0 rfl) ?_
        refine k_get (ci := 8) (C := RX6) (T := TX6) (N := 5) (v := .ref (ad 1)) hx hb hG inX6 hown hK hP 0 wl_0 rfl 0 (by decide) gw305 rfl dX6_isSound_36 ?_
        refine lv_iload_n hx hb dX6_isSound_39 rfl (lv_at hl 1 rfl) ?_
        refine mc_V hSF hl.1 hP hD hS hA hK hGV (m_X1_holdsAt l hfl D ad cA g i1_9 σ2 _ hw) goV_X6_138 pd_X1_holdsAt ⟨(Nat.le_of_ble_eq_true rfl), (Nat.le_of_ble_eq_true rfl)⟩ ⟨(Nat.le_of_ble_eq_true rfl), (Nat.le_of_ble_eq_true rfl)⟩ (va_recv hK hP (ci := 3) (q0 := 12) rfl wl_12) dX6_isSound_40 rfl (Nat.le_of_ble_eq_true rfl) (fun v9 σ9 H locs hq hP hD hS => ?_) (fun _ _ _ _ _ _ h => h.elim)
        obtain ⟨r16, hv9, hs9, hw⟩ := hq
        subst hv9
        subst σ9
        refine W.eq (g2 := F0 m 43 ls [.int r16]) rfl ?_
        refine W.widen (k := 0) (n := 0) (Nat.le_refl _) (Nat.le_refl _) ?_
        refine lv_if_ne (tgt := 48) hx hb dX6_isSound_43 (by decide) (fun k17 => ?_) (fun k17 => ?_)
        · skip
          have hw := hw.1 k17
          refine lv_iinc (v := i1_9 + 1) (lv' := [(1, .int (i1_9 + 1)), (0, .ref (ad 0))]) hx hb dX6_isSound_48 hl (k := 1) rfl rfl (by decide) rfl (fun ls hl => ?_)
          refine lv_goto (tgt := 25) hx hb dX6_isSound_51 (by decide) ?_
          exact ih9 (i1_9 + 1) (Nat.lt_of_lt_of_le hw.2 (Nat.le_of_lt_succ hm9)) hw.1 _ _ ls hP hD hS (lv_sub hl [1, 0] rfl)
        · skip
          have hw := hw.2 k17
          refine lv_iconst (v := 0) hx hb dX6_isSound_46 (by decide) ?_
          exact vx_ret (m_i ⟨_, rfl, hw⟩ hx hb hr hlocks rfl hP hD hS (Nat.le_of_ble_eq_true rfl) (Nat.le_of_ble_eq_true rfl) dX6_isSound_47)

set_option maxHeartbeats 4000000 in
set_option maxRecDepth 100000 in
theorem m_J0_isLatin1_aae02_S27 (l : Launch) (hfl : l.stackTraces = false) (D : va_G) (ad : Nat → Nat) (cA : Nat → ClassId) (g : gv_T) (σ : Sg) (Q : Int32 → Prop) (hw : w_J0_isLatin1_aae02_S27  σ Q) : MC l yJ0_isLatin1_aae02 cJ0_isLatin1_aae02 1 (some .boolean) (RM 0 0 0 0) D ad cA g [.ref (g.1 27)] σ (fun v σ' => ∃ r : Int32, v = some (.int r) ∧ σ' = σ ∧ Q r) (fun _ _ => False) := by
  refine MC.of (plainFor_of_name (by decide +kernel)) (Nat.le_of_ble_eq_true rfl) ?_
  intro p e s m args below meth c A ls hx hb hr hml hown hG hlocks htab hA hS hP hK hD hGV hl
  have hown : s.vm.findClass RJ0 = some m.cls := hown
  have hl : lv_has ls 1 [(0, .ref (g.1 27))] := hl
  have hSF : CF p m c cJ0_isLatin1_aae02 1 s args RJ0 := ⟨hx, hb, hml, hown, hG⟩
  refine k_getsC hx hb hGV hG hS hown gw521 dJ0_isLatin1_aae02_0 ?_
  refine k_if_eq_f (tgt := 17) hx hb dJ0_isLatin1_aae02_3 (by decide) (by decide) ?_
  refine lv_aload_n hx hb dJ0_isLatin1_aae02_6 rfl (lv_at hl 0 rfl) ?_
  refine k_scoder (x9 := (27, 3, [45, 45, 112])) hx hb hGV (by decide) hG hS hown gw1195 dJ0_isLatin1_aae02_7 ?_
  refine k_if_ne_f (tgt := 17) hx hb dJ0_isLatin1_aae02_10 (by decide) (by decide) ?_
  refine lv_iconst (v := 1) hx hb dJ0_isLatin1_aae02_13 (by decide) ?_
  refine lv_goto (tgt := 18) hx hb dJ0_isLatin1_aae02_14 (by decide) ?_
  exact vx_ret (m_i ⟨_, rfl, rfl, hw⟩ hx hb hr hlocks rfl hP hD hS (Nat.le_of_ble_eq_true rfl) (Nat.le_of_ble_eq_true rfl) dJ0_isLatin1_aae02_18)

set_option maxHeartbeats 4000000 in
set_option maxRecDepth 100000 in
theorem m_J0_checkIndex_df160_3 (l : Launch) (hfl : l.stackTraces = false) (D : va_G) (ad : Nat → Nat) (cA : Nat → ClassId) (g : gv_T) (p0 : Int32) (σ : Sg) (Q : Prop) (hw : w_J0_checkIndex_df160_3 p0 σ Q) : MC l yJ0_checkIndex_df160 cJ0_checkIndex_df160 2 none (RM 1 0 0 22) D ad cA g [.int p0, .int 3] σ (fun v σ' => v = none ∧ σ' = σ ∧ Q) (fun _ _ => False) := by
  refine MC.of (plainFor_of_name (by decide +kernel)) (Nat.le_of_ble_eq_true rfl) ?_
  intro p e s m args below meth c A ls hx hb hr hml hown hG hlocks htab hA hS hP hK hD hGV hl
  have hown : s.vm.findClass RJ0 = some m.cls := hown
  have hl : lv_has ls 2 [(0, .int p0), (1, .int 3)] := hl
  have hSF : CF p m c cJ0_checkIndex_df160 2 s args RJ0 := ⟨hx, hb, hml, hown, hG⟩
  refine lv_iload_n hx hb dJ0_checkIndex_df160_0 rfl (lv_at hl 0 rfl) ?_
  refine lv_iload_n hx hb dJ0_checkIndex_df160_1 rfl (lv_at hl 1 rfl) ?_
  refine k_getsF hx hb hGV hG hS hown gw564 dJ0_checkIndex_df160_2 ?_
  refine mc_S hSF hl.1 hP hD hS hA hK hGV (m_J3_checkIndex_8e157 l hfl D ad cA g p0 3 σ _ hw) goS_J0_1059 pd_J3_checkIndex_8e157.2 ⟨(Nat.le_of_ble_eq_true rfl), (Nat.le_of_ble_eq_true rfl)⟩ ⟨(Nat.le_of_ble_eq_true rfl), (Nat.le_of_ble_eq_true rfl)⟩ dJ0_checkIndex_df160_5 rfl (Nat.le_of_ble_eq_true rfl) (fun v9 σ9 H locs hq hP hD hS => ?_) (fun _ _ _ _ _ _ h => h.elim)
  obtain ⟨r1, hv9, hs9, hw⟩ := hq
  subst hv9
  subst σ9
  refine W.eq (g2 := F0 m 8 ls [.int r1]) rfl ?_
  refine W.widen (k := 0) (n := 0) (Nat.le_refl _) (Nat.le_refl _) ?_
  refine lv_pop hx hb dJ0_checkIndex_df160_8 rfl ?_
  exact vx_ret (m_v ⟨rfl, rfl, hw⟩ hx hb hr hlocks hP hD hS (Nat.le_of_ble_eq_true rfl) (Nat.le_of_ble_eq_true rfl) dJ0_checkIndex_df160_9)

set_option maxHeartbeats 4000000 in
set_option maxRecDepth 100000 in
theorem m_J1_charAt_3b067_V27 (l : Launch) (hfl : l.stackTraces = false) (D : va_G) (ad : Nat → Nat) (cA : Nat → ClassId) (g : gv_T) (p1 : Int32) (σ : Sg) (Q : Int32 → Prop) (hw : w_J1_charAt_3b067_V27 p1 σ Q) : MC l yJ1_charAt_3b067 cJ1_charAt_3b067 2 (some .char) (RM 2 0 0 43) D ad cA g [.ref (g.2.1 27), .int p1] σ (fun v σ' => ∃ r : Int32, v = some (.int r) ∧ σ' = σ ∧ Q r) (fun _ _ => False) := by
  refine MC.of (plainFor_of_name (by decide +kernel)) (Nat.le_of_ble_eq_true rfl) ?_
  intro p e s m args below meth c A ls hx hb hr hml hown hG hlocks htab hA hS hP hK hD hGV hl
  have hown : s.vm.findClass RJ1 = some m.cls := hown
  have hl : lv_has ls 2 [(0, .ref (g.2.1 27)), (1, .int p1)] := hl
  have hSF : CF p m c cJ1_charAt_3b067 2 s args RJ1 := ⟨hx, hb, hml, hown, hG⟩
  refine lv_iload_n hx hb dJ1_charAt_3b067_0 rfl (lv_at hl 1 rfl) ?_
  refine lv_aload_n hx hb dJ1_charAt_3b067_1 rfl (lv_at hl 0 rfl) ?_
  refine k_slen (x9 := (27, 3, [45, 45, 112])) (v := 3) hx hb hGV (by decide) hS (by decide) dJ1_charAt_3b067_2 ?_
  refine mc_S hSF hl.1 hP hD hS hA hK hGV (m_J0_checkIndex_df160_3 l hfl D ad cA g p1 σ _ hw) goS_J1_9 pd_J0_checkIndex_df160.2 ⟨(Nat.le_of_ble_eq_true rfl), (Nat.le_of_ble_eq_true rfl)⟩ ⟨(Nat.le_of_ble_eq_true rfl), (Nat.le_of_ble_eq_true rfl)⟩ dJ1_charAt_3b067_3 rfl (Nat.le_of_ble_eq_true rfl) (fun v9 σ9 H locs hq hP hD hS => ?_) (fun _ _ _ _ _ _ h => h.elim)
  obtain ⟨hv9, hs9, hw⟩ := hq
  subst hv9
  subst σ9
  refine W.eq (g2 := F0 m 6 ls []) rfl ?_
  refine W.widen (k := 0) (n := 0) (Nat.le_refl _) (Nat.le_refl _) ?_
  refine lv_aload_n hx hb dJ1_charAt_3b067_6 rfl (lv_at hl 0 rfl) ?_
  refine lv_iload_n hx hb dJ1_charAt_3b067_7 rfl (lv_at hl 1 rfl) ?_
  obtain ⟨hc2, hw⟩ := hw
  refine k_sld (x9 := (27, 3, [45, 45, 112])) (v := sby [45, 45, 112] p1) hx hb hGV (by decide) hS hc2 rfl dJ1_charAt_3b067_8 ?_
  refine lv_sipush (v := 255) hx hb dJ1_charAt_3b067_9 (by decide) ?_
  refine k_iand (v := (sby [45, 45, 112] p1) &&& 255) hx hb dJ1_charAt_3b067_12 rfl ?_
  refine lv_i2c (v := (((sby [45, 45, 112] p1) &&& 255).toUInt32 % 65536).toInt32) hx hb dJ1_charAt_3b067_13 rfl ?_
  obtain ⟨hc3, hw⟩ := hw
  exact vx_ret (m_i ⟨_, rfl, rfl, hw⟩ hx hb hr hlocks hc3 hP hD hS (Nat.le_of_ble_eq_true rfl) (Nat.le_of_ble_eq_true rfl) dJ1_charAt_3b067_14)

set_option maxHeartbeats 4000000 in
set_option maxRecDepth 100000 in
theorem m_J0_charAt_5068e_S27 (l : Launch) (hfl : l.stackTraces = false) (D : va_G) (ad : Nat → Nat) (cA : Nat → ClassId) (g : gv_T) (p1 : Int32) (σ : Sg) (Q : Int32 → Prop) (hw : w_J0_charAt_5068e_S27 p1 σ Q) : MC l yJ0_charAt_5068e cJ0_charAt_5068e 2 (some .char) (RM 3 0 0 64) D ad cA g [.ref (g.1 27), .int p1] σ (fun v σ' => ∃ r : Int32, v = some (.int r) ∧ σ' = σ ∧ Q r) (fun _ _ => False) := by
  refine MC.of (plainFor_of_name (by decide +kernel)) (Nat.le_of_ble_eq_true rfl) ?_
  intro p e s m args below meth c A ls hx hb hr hml hown hG hlocks htab hA hS hP hK hD hGV hl
  have hown : s.vm.findClass RJ0 = some m.cls := hown
  have hl : lv_has ls 2 [(0, .ref (g.1 27)), (1, .int p1)] := hl
  have hSF : CF p m c cJ0_charAt_5068e 2 s args RJ0 := ⟨hx, hb, hml, hown, hG⟩
  refine lv_aload_n hx hb dJ0_charAt_5068e_0 rfl (lv_at hl 0 rfl) ?_
  refine mc_V hSF hl.1 hP hD hS hA hK hGV (m_J0_isLatin1_aae02_S27 l hfl D ad cA g  σ (fun r9 => r9 = 1) rfl) goV_J0_492 pd_J0_isLatin1_aae02 ⟨(Nat.le_of_ble_eq_true rfl), (Nat.le_of_ble_eq_true rfl)⟩ ⟨(Nat.le_of_ble_eq_true rfl), (Nat.le_of_ble_eq_true rfl)⟩ (k_srecv (x9 := (27, 3, [45, 45, 112])) hGV (by decide) hS) dJ0_charAt_5068e_1 rfl (Nat.le_of_ble_eq_true rfl) (fun v9 σ9 H locs hq hP hD hS => ?_) (fun _ _ _ _ _ _ h => h.elim)
  obtain ⟨r9, hv9, hs9, hr9⟩ := hq
  subst hv9
  subst σ9
  subst hr9
  refine W.eq (g2 := F0 m 4 ls [.int 1]) rfl ?_
  refine W.widen (k := 0) (n := 0) (Nat.le_refl _) (Nat.le_refl _) ?_
  refine k_if_eq_f (tgt := 16) hx hb dJ0_charAt_5068e_4 (by decide) (by decide) ?_
  refine lv_aload_n hx hb dJ0_charAt_5068e_7 rfl (lv_at hl 0 rfl) ?_
  refine k_svalue (x9 := (27, 3, [45, 45, 112])) hx hb hGV (by decide) hG hS hown gw1196 dJ0_charAt_5068e_8 ?_
  refine lv_iload_n hx hb dJ0_charAt_5068e_11 rfl (lv_at hl 1 rfl) ?_
  refine mc_S hSF hl.1 hP hD hS hA hK hGV (m_J1_charAt_3b067_V27 l hfl D ad cA g p1 σ _ hw) goS_J0_495 pd_J1_charAt_3b067.2 ⟨(Nat.le_of_ble_eq_true rfl), (Nat.le_of_ble_eq_true rfl)⟩ ⟨(Nat.le_of_ble_eq_true rfl), (Nat.le_of_ble_eq_true rfl)⟩ dJ0_charAt_5068e_12 rfl (Nat.le_of_ble_eq_true rfl) (fun v9 σ9 H locs hq hP hD hS => ?_) (fun _ _ _ _ _ _ h => h.elim)
  obtain ⟨r2, hv9, hs9, hw⟩ := hq
  subst hv9
  subst σ9
  refine W.eq (g2 := F0 m 15 ls [.int r2]) rfl ?_
  refine W.widen (k := 0) (n := 0) (Nat.le_refl _) (Nat.le_refl _) ?_
  obtain ⟨hc3, hw⟩ := hw
  exact vx_ret (m_i ⟨_, rfl, rfl, hw⟩ hx hb hr hlocks hc3 hP hD hS (Nat.le_of_ble_eq_true rfl) (Nat.le_of_ble_eq_true rfl) dJ0_charAt_5068e_15)

theorem lw_end {p : Program} {l : Launch} {e : Env} {s : State} {m : MethodId} {below : List Frame} {meth : Method} {c : Code} {b : Nat} {args : Array Value} {A : Nat → Prop} {H : Heap} {locs : List Loc} {ls : Array Slot} {cells slots pc : Nat} (hx : p.tables.exec = Jvm.exec) (hb : c.code = cL_law) (hr : meth.sig.returnType = some .boolean) (hlocks : meth.locks = false) (hargs : args = #[Value.ref b]) (hAe : A = fun q : Nat => s.heap.size ≤ q) (hS : va_S A s.heap H locs) (h1 : cells ≤ 600397) (h2 : slots ≤ 7293062) (d : decode cL_law pc = .ok (.ireturn, 1)) : W p l e room_1 s m args below meth c H locs cells slots (lw_Z below args s) (F0 m pc ls [.int 1]) := by
  subst hargs
  subst hAe
  refine va_forget (fun q hq => hS.2.2 q hq) ?_
  refine W.widen (k := 600397) (n := 7293062) h1 h2 ?_
  exact lw_ret (d0 := s.drawn) (Drawn.sameBut.refl s.drawn lw_cs) hx hb hr hlocks d
set_option maxHeartbeats 8000000 in
set_option maxRecDepth 100000 in
theorem m_L_law {p : Program} {e : Env} {s : State} {m : MethodId} {below : List Frame} {meth : Method} {c : Code} (l : Launch) (hfl : l.stackTraces = false) (D : va_G) (ad : Nat → Nat) (cA : Nat → ClassId) (g : gv_T) (σ : Sg) (hw : w_L_law g.2.2.2.2.1 g.2.2.2.2.2 σ) {H : Heap} {locs : List Loc} {ls : Array Slot}
    (hx : p.tables.exec = Jvm.exec) (hb : c.code = cL_law) (hr : meth.sig.returnType = some .boolean) (hml : c.maxLocals = 12) (hown : s.vm.findClass RL = some m.cls) (hG : ∀ w ∈ GW, w.before #[Value.ref g.2.2.2.1] s = true) (hlocks : meth.locks = false)
    (hP : va_P D vwCl (WL ad cA σ) H) (hK : va_K D vwCl (TYS cA) s) (hD : va_D (fun q : Nat => s.heap.size ≤ q) (WL ad cA σ)) (hS : va_S (fun q : Nat => s.heap.size ≤ q) s.heap H locs) (hGV : GV g (fun q : Nat => s.heap.size ≤ q) s s.heap) (hl : lv_has ls 12 [(0, .ref g.2.2.2.1)]) :
    W p l e room_1 s m #[Value.ref g.2.2.2.1] below meth c H locs 300 6000 (lw_Z below #[Value.ref g.2.2.2.1] s) (F0 m 7 ls [.ref (ad 0)]) := by
  obtain ⟨A, hAe⟩ : ∃ A : Nat → Prop, A = fun q : Nat => s.heap.size ≤ q := ⟨_, rfl⟩
  rw [← hAe] at hD hS hGV
  have hA : ∀ q : Nat, s.heap.size ≤ q → A q := fun q h => by rw [hAe]; exact h
  obtain ⟨args, hargs⟩ : ∃ z, z = #[Value.ref g.2.2.2.1] := ⟨_, rfl⟩
  rw [← hargs] at hG ⊢
  have hSF : CF p m c cL_law 12 s args RL := ⟨hx, hb, hml, hown, hG⟩
  refine lv_astore_n (lv' := [(1, .ref (ad 0)), (0, .ref g.2.2.2.1)]) hx hb dL_law_7 rfl hl (by decide) rfl (fun ls hl => ?_)
  refine lv_iconst (v := 1) hx hb dL_law_8 (by decide) ?_
  refine lv_istore_n (lv' := [(2, .int 1), (1, .ref (ad 0)), (0, .ref g.2.2.2.1)]) hx hb dL_law_9 rfl hl (by decide) rfl (fun ls hl => ?_)
  refine lv_iconst (v := 3) hx hb dL_law_10 (by decide) ?_
  refine lv_aload_n hx hb dL_law_11 rfl (lv_at hl 2 rfl) ?_
  refine lv_iload_n hx hb dL_law_12 rfl (lv_at hl 0 rfl) ?_
  refine lv_iconst (v := 3) hx hb dL_law_13 (by decide) ?_
  refine mc_S hSF hl.1 hP hD hS hA hK hGV (m_L_pick l hfl D ad cA g 1 3 σ _ hw) goS_L_128 pd_L_pick.2 ⟨(Nat.le_of_ble_eq_true rfl), (Nat.le_of_ble_eq_true rfl)⟩ ⟨(Nat.le_of_ble_eq_true rfl), (Nat.le_of_ble_eq_true rfl)⟩ dL_law_14 rfl (Nat.le_of_ble_eq_true rfl) (fun v9 σ9 H locs hq hP hD hS => ?_) (fun _ _ _ _ _ _ h => h.elim)
  obtain ⟨r1, hv9, hs9, hw⟩ := hq
  subst hv9
  subst σ9
  refine W.eq (g2 := F0 m 17 ls [.int r1, .int 3]) rfl ?_
  refine W.widen (k := 300) (n := 6000) (Nat.le_refl _) (Nat.le_refl _) ?_
  refine k_iadd (v := 3 + r1) hx hb dL_law_17 rfl ?_
  obtain ⟨v2, ev2⟩ : ∃ z : Int32, z = 3 + r1 := ⟨_, rfl⟩
  have hw := hw v2 ev2
  refine lv_istore_n (lv' := [(3, .int v2), (2, .int 1), (1, .ref (ad 0)), (0, .ref g.2.2.2.1)]) hx hb dL_law_18 rfl hl (by decide) (by subst ev2; rfl) (fun ls hl => ?_)
  refine lv_iconst (v := 1) hx hb dL_law_19 (by decide) ?_
  refine lv_istore (lv' := [(4, .int 1), (3, .int v2), (2, .int 1), (1, .ref (ad 0)), (0, .ref g.2.2.2.1)]) hx hb dL_law_20 hl (by decide) rfl (fun ls hl => ?_)
  refine lv_iconst (v := 0) hx hb dL_law_22 (by decide) ?_
  refine lv_istore (lv' := [(5, .int 0), (4, .int 1), (3, .int v2), (2, .int 1), (1, .ref (ad 0)), (0, .ref g.2.2.2.1)]) hx hb dL_law_23 hl (by decide) rfl (fun ls hl => ?_)
  obtain ⟨I3, μ3, hB3, hI3, hw3⟩ := hw
  have hl : lv_has ls 12 [(0, .ref g.2.2.2.1), (1, .ref (ad 0)), (2, .int 1), (3, .int v2), (4, .int 1), (5, .int 0)] := lv_sub hl [5, 4, 3, 2, 1, 0] rfl
  suffices key3 : ∀ (n3 : Nat) (i2_3 : Int32) (i4_3 : Int32) (i5_3 : Int32) (σ3 : Sg), μ3 i2_3 i4_3 i5_3 σ3 < n3 → I3 i2_3 i4_3 i5_3 σ3 → ∀ (cl3 sl3 : Nat) (hcl3 : cl3 ≤ 300 + 1 * (5 - μ3 i2_3 i4_3 i5_3 σ3)) (hsl3 : sl3 ≤ 6000 + 6 * (5 - μ3 i2_3 i4_3 i5_3 σ3)) (hmu3 : μ3 i2_3 i4_3 i5_3 σ3 ≤ 5) (H : Heap) (locs : List Loc) (ls : Array Slot), va_P D vwCl (WL ad cA σ3) H → va_D A (WL ad cA σ3) → va_S A s.heap H locs → lv_has ls 12 [(0, .ref g.2.2.2.1), (1, .ref (ad 0)), (2, .int i2_3), (3, .int v2), (4, .int i4_3), (5, .int i5_3)] → W p l e room_1 s m args below meth c H locs cl3 sl3 (lw_Z below args s) (F0 m 25 ls []) from key3 _ _ _ _ _ (Nat.lt_succ_self _) hI3 (300) (6000) (Nat.le_add_right _ _) (Nat.le_add_right _ _) hB3 _ _ ls hP hD hS hl
  clear hP hD hS hl
  intro n3
  induction n3 with
  | zero => intro _ _ _ _ h; exact absurd h (Nat.not_lt_zero _)
  | succ n3 ih3 =>
    intro i2_3 i4_3 i5_3 σ3 hm3 hI3 cl3 sl3 hcl3 hsl3 hmu3 H locs ls hP hD hS hl
    have hw := hw3 i2_3 i4_3 i5_3 σ3 hI3
    refine lv_iload hx hb dL_law_25 (lv_at hl 5 rfl) ?_
    refine lv_iload_n hx hb dL_law_27 rfl (lv_at hl 3 rfl) ?_
    refine lv_icmp_ge (tgt := 113) hx hb dL_law_28 (by decide) (fun k4 => ?_) (fun k4 => ?_)
    · skip
      have hw := hw.1 k4
      refine lv_iconst (v := 0) hx hb dL_law_113 (by decide) ?_
      refine lv_istore (lv' := [(5, .int 0), (0, .ref g.2.2.2.1), (1, .ref (ad 0)), (2, .int i2_3), (3, .int v2), (4, .int i4_3)]) hx hb dL_law_114 hl (by decide) rfl (fun ls hl => ?_)
      refine lv_iconst (v := 0) hx hb dL_law_116 (by decide) ?_
      refine lv_istore (lv' := [(6, .int 0), (5, .int 0), (0, .ref g.2.2.2.1), (1, .ref (ad 0)), (2, .int i2_3), (3, .int v2), (4, .int i4_3)]) hx hb dL_law_117 hl (by decide) rfl (fun ls hl => ?_)
      refine lv_iconst (v := 0) hx hb dL_law_119 (by decide) ?_
      refine lv_istore (lv' := [(7, .int 0), (6, .int 0), (5, .int 0), (0, .ref g.2.2.2.1), (1, .ref (ad 0)), (2, .int i2_3), (3, .int v2), (4, .int i4_3)]) hx hb dL_law_120 hl (by decide) rfl (fun ls hl => ?_)
      refine lv_iconst (v := 0) hx hb dL_law_122 (by decide) ?_
      refine lv_istore (lv' := [(8, .int 0), (7, .int 0), (6, .int 0), (5, .int 0), (0, .ref g.2.2.2.1), (1, .ref (ad 0)), (2, .int i2_3), (3, .int v2), (4, .int i4_3)]) hx hb dL_law_123 hl (by decide) rfl (fun ls hl => ?_)
      obtain ⟨I5, μ5, hB5, hI5, hw5⟩ := hw
      have hl : lv_has ls 12 [(0, .ref g.2.2.2.1), (1, .ref (ad 0)), (2, .int i2_3), (3, .int v2), (4, .int i4_3), (5, .int 0), (6, .int 0), (7, .int 0), (8, .int 0)] := lv_sub hl [4, 5, 6, 7, 8, 3, 2, 1, 0] rfl
      suffices key5 : ∀ (n5 : Nat) (i2_5 : Int32) (i4_5 : Int32) (i5_5 : Int32) (i6_5 : Int32) (i7_5 : Int32) (i8_5 : Int32) (σ5 : Sg), μ5 i2_5 i4_5 i5_5 i6_5 i7_5 i8_5 σ5 < n5 → I5 i2_5 i4_5 i5_5 i6_5 i7_5 i8_5 σ5 → ∀ (cl5 sl5 : Nat) (hcl5 : cl5 ≤ cl3 + 0 + 209 * (34 - μ5 i2_5 i4_5 i5_5 i6_5 i7_5 i8_5 σ5)) (hsl5 : sl5 ≤ sl3 + 0 + 1252 * (34 - μ5 i2_5 i4_5 i5_5 i6_5 i7_5 i8_5 σ5)) (hmu5 : μ5 i2_5 i4_5 i5_5 i6_5 i7_5 i8_5 σ5 ≤ 34) (H : Heap) (locs : List Loc) (ls : Array Slot), va_P D vwCl (WL ad cA σ5) H → va_D A (WL ad cA σ5) → va_S A s.heap H locs → lv_has ls 12 [(0, .ref g.2.2.2.1), (1, .ref (ad 0)), (2, .int i2_5), (3, .int v2), (4, .int i4_5), (5, .int i5_5), (6, .int i6_5), (7, .int i7_5), (8, .int i8_5)] → W p l e room_1 s m args below meth c H locs cl5 sl5 (lw_Z below args s) (F0 m 125 ls []) from key5 _ _ _ _ _ _ _ _ (Nat.lt_succ_self _) hI5 (cl3 + 0) (sl3 + 0) (Nat.le_add_right _ _) (Nat.le_add_right _ _) hB5 _ _ ls hP hD hS hl
      clear hP hD hS hl
      intro n5
      induction n5 with
      | zero => intro _ _ _ _ _ _ _ h; exact absurd h (Nat.not_lt_zero _)
      | succ n5 ih5 =>
        intro i2_5 i4_5 i5_5 i6_5 i7_5 i8_5 σ5 hm5 hI5 cl5 sl5 hcl5 hsl5 hmu5 H locs ls hP hD hS hl
        have hw := hw5 i2_5 i4_5 i5_5 i6_5 i7_5 i8_5 σ5 hI5
        refine lv_iload hx hb dL_law_125 (lv_at hl 8 rfl) ?_
        refine lv_bipush (v := 34) hx hb dL_law_127 (by decide) ?_
        refine lv_icmp_ge (tgt := 654) hx hb dL_law_129 (by decide) (fun k6 => ?_) (fun k6 => ?_)
        · skip
          have hw := hw.1 k6
          refine lv_iload hx hb dL_law_654 (lv_at hl 4 rfl) ?_
          refine lv_if_eq (tgt := 670) hx hb dL_law_656 (by decide) (fun k7 => ?_) (fun k7 => ?_)
          · skip
            have hw := hw.1 k7
            refine lv_iconst (v := 0) hx hb dL_law_670 (by decide) ?_
            have hv : 0 = (1 : Int32) := hw
            exact absurd hv (by decide)
          · skip
            have hw := hw.2 k7
            refine lv_aload_n hx hb dL_law_659 rfl (lv_at hl 1 rfl) ?_
            refine mc_S hSF hl.1 hP hD hS hA hK hGV (m_L_isThrown l hfl D ad cA g  σ5 _ hw) goS_L_182 pd_L_isThrown.2 ⟨(Nat.le_of_ble_eq_true rfl), (Nat.le_of_ble_eq_true rfl)⟩ ⟨(show cl5 + 16 ≤ 600397 by omega), (show sl5 + 96 ≤ 7293062 by omega)⟩ dL_law_660 rfl (Nat.le_of_ble_eq_true rfl) (fun v9 σ9 H locs hq hP hD hS => ?_) (fun _ _ _ _ _ _ h => h.elim)
            obtain ⟨r8, hv9, hw⟩ := hq
            subst hv9
            refine W.eq (g2 := F0 m 663 ls [.int r8]) rfl ?_
            refine W.widen (k := cl5 + 16) (n := sl5 + 96) (Nat.le_refl _) (Nat.le_refl _) ?_
            refine lv_if_eq (tgt := 670) hx hb dL_law_663 (by decide) (fun k10 => ?_) (fun k10 => ?_)
            · skip
              have hw := hw.1 k10
              refine lv_iconst (v := 0) hx hb dL_law_670 (by decide) ?_
              have hv : 0 = (1 : Int32) := hw
              exact absurd hv (by decide)
            · skip
              have hw := hw.2 k10
              refine lv_iconst (v := 1) hx hb dL_law_666 (by decide) ?_
              refine lv_goto (tgt := 671) hx hb dL_law_667 (by decide) ?_
              have hv : 1 = (1 : Int32) := hw
              exact lw_end hx hb hr hlocks hargs hAe hS (show cl5 + 16 ≤ 600397 by omega) (show sl5 + 96 ≤ 7293062 by omega) dL_law_671
        · skip
          have hw := hw.2 k6
          refine lv_iload hx hb dL_law_132 (lv_at hl 4 rfl) ?_
          refine lv_if_eq (tgt := 654) hx hb dL_law_134 (by decide) (fun k11 => ?_) (fun k11 => ?_)
          · skip
            have hw := hw.1 k11
            refine lv_iload hx hb dL_law_654 (lv_at hl 4 rfl) ?_
            refine lv_if_eq (tgt := 670) hx hb dL_law_656 (by decide) (fun k12 => ?_) (fun k12 => ?_)
            · skip
              have hw := hw.1 k12
              refine lv_iconst (v := 0) hx hb dL_law_670 (by decide) ?_
              have hv : 0 = (1 : Int32) := hw
              exact absurd hv (by decide)
            · skip
              have hw := hw.2 k12
              refine lv_aload_n hx hb dL_law_659 rfl (lv_at hl 1 rfl) ?_
              refine mc_S hSF hl.1 hP hD hS hA hK hGV (m_L_isThrown l hfl D ad cA g  σ5 _ hw) goS_L_182 pd_L_isThrown.2 ⟨(Nat.le_of_ble_eq_true rfl), (Nat.le_of_ble_eq_true rfl)⟩ ⟨(show cl5 + 16 ≤ 600397 by omega), (show sl5 + 96 ≤ 7293062 by omega)⟩ dL_law_660 rfl (Nat.le_of_ble_eq_true rfl) (fun v9 σ14 H locs hq hP hD hS => ?_) (fun _ _ _ _ _ _ h => h.elim)
              obtain ⟨r13, hv9, hw⟩ := hq
              subst hv9
              refine W.eq (g2 := F0 m 663 ls [.int r13]) rfl ?_
              refine W.widen (k := cl5 + 16) (n := sl5 + 96) (Nat.le_refl _) (Nat.le_refl _) ?_
              refine lv_if_eq (tgt := 670) hx hb dL_law_663 (by decide) (fun k15 => ?_) (fun k15 => ?_)
              · skip
                have hw := hw.1 k15
                refine lv_iconst (v := 0) hx hb dL_law_670 (by decide) ?_
                have hv : 0 = (1 : Int32) := hw
                exact absurd hv (by decide)
              · skip
                have hw := hw.2 k15
                refine lv_iconst (v := 1) hx hb dL_law_666 (by decide) ?_
                refine lv_goto (tgt := 671) hx hb dL_law_667 (by decide) ?_
                have hv : 1 = (1 : Int32) := hw
                exact lw_end hx hb hr hlocks hargs hAe hS (show cl5 + 16 ≤ 600397 by omega) (show sl5 + 96 ≤ 7293062 by omega) dL_law_671
          · skip
            have hw := hw.2 k11
            refine lv_aload_n hx hb dL_law_137 rfl (lv_at hl 0 rfl) ?_
            refine lv_iload_n hx hb dL_law_138 rfl (lv_at hl 2 rfl) ?_
            refine lv_iconst (v := 1) hx hb dL_law_139 (by decide) ?_
            refine k_iadd (v := i2_5 + 1) hx hb dL_law_140 rfl ?_
            refine lv_bipush (v := 8) hx hb dL_law_141 (by decide) ?_
            refine mc_S hSF hl.1 hP hD hS hA hK hGV (m_L_pick l hfl D ad cA g (i2_5 + 1) 8 σ5 _ hw) goS_L_128 pd_L_pick.2 ⟨(Nat.le_of_ble_eq_true rfl), (Nat.le_of_ble_eq_true rfl)⟩ ⟨(show cl5 + 0 ≤ 600397 by omega), (show sl5 + 0 ≤ 7293062 by omega)⟩ dL_law_143 rfl (Nat.le_of_ble_eq_true rfl) (fun v9 σ9 H locs hq hP hD hS => ?_) (fun _ _ _ _ _ _ h => h.elim)
            obtain ⟨r16, hv9, hs9, hw⟩ := hq
            subst hv9
            subst σ9
            refine W.eq (g2 := F0 m 146 ls [.int r16]) rfl ?_
            refine W.widen (k := cl5 + 0) (n := sl5 + 0) (Nat.le_refl _) (Nat.le_refl _) ?_
            refine lv_istore (lv' := [(9, .int r16), (0, .ref g.2.2.2.1), (1, .ref (ad 0)), (2, .int i2_5), (3, .int v2), (4, .int i4_5), (5, .int i5_5), (6, .int i6_5), (7, .int i7_5), (8, .int i8_5)]) hx hb dL_law_146 hl (by decide) rfl (fun ls hl => ?_)
            refine lv_aload_n hx hb dL_law_148 rfl (lv_at hl 1 rfl) ?_
            refine lv_iload_n hx hb dL_law_149 rfl (lv_at hl 3 rfl) ?_
            refine lv_iconst (v := 2) hx hb dL_law_150 (by decide) ?_
            refine k_iadd (v := i2_5 + 2) hx hb dL_law_151 rfl ?_
            refine lv_bipush (v := 8) hx hb dL_law_152 (by decide) ?_
            refine mc_S hSF hl.1 hP hD hS hA hK hGV (m_L_pick l hfl D ad cA g (i2_5 + 2) 8 σ5 _ hw) goS_L_128 pd_L_pick.2 ⟨(Nat.le_of_ble_eq_true rfl), (Nat.le_of_ble_eq_true rfl)⟩ ⟨(show cl5 + 0 ≤ 600397 by omega), (show sl5 + 0 ≤ 7293062 by omega)⟩ dL_law_154 rfl (Nat.le_of_ble_eq_true rfl) (fun v9 σ9 H locs hq hP hD hS => ?_) (fun _ _ _ _ _ _ h => h.elim)
            obtain ⟨r17, hv9, hs9, hw⟩ := hq
            subst hv9
            subst σ9
            refine W.eq (g2 := F0 m 157 ls [.int r17]) rfl ?_
            refine W.widen (k := cl5 + 0) (n := sl5 + 0) (Nat.le_refl _) (Nat.le_refl _) ?_
            refine lv_istore (lv' := [(10, .int r17), (9, .int r16), (0, .ref g.2.2.2.1), (1, .ref (ad 0)), (2, .int i2_5), (3, .int v2), (4, .int i4_5), (5, .int i5_5), (6, .int i6_5), (7, .int i7_5), (8, .int i8_5)]) hx hb dL_law_157 hl (by decide) rfl (fun ls hl => ?_)
            refine lv_aload_n hx hb dL_law_159 rfl (lv_at hl 2 rfl) ?_
            refine lv_iload_n hx hb dL_law_160 rfl (lv_at hl 4 rfl) ?_
            refine lv_bipush (v := 9) hx hb dL_law_161 (by decide) ?_
            refine mc_S hSF hl.1 hP hD hS hA hK hGV (m_L_pick l hfl D ad cA g i2_5 9 σ5 _ hw) goS_L_128 pd_L_pick.2 ⟨(Nat.le_of_ble_eq_true rfl), (Nat.le_of_ble_eq_true rfl)⟩ ⟨(show cl5 + 0 ≤ 600397 by omega), (show sl5 + 0 ≤ 7293062 by omega)⟩ dL_law_163 rfl (Nat.le_of_ble_eq_true rfl) (fun v9 σ9 H locs hq hP hD hS => ?_) (fun _ _ _ _ _ _ h => h.elim)
            obtain ⟨r18, hv9, hs9, hw⟩ := hq
            subst hv9
            subst σ9
            refine W.eq (g2 := F0 m 166 ls [.int r18]) rfl ?_
            refine W.widen (k := cl5 + 0) (n := sl5 + 0) (Nat.le_refl _) (Nat.le_refl _) ?_
            refine (fun hw => ?_) (hw (fun (j4_19 : Int32) (j5_19 : Int32) (j6_19 : Int32) (j7_19 : Int32) (σ19 : Sg) => ∀ (H : Heap) (locs : List Loc) (ls : Array Slot), va_P D vwCl (WL ad cA σ19) H → va_D A (WL ad cA σ19) → va_S A s.heap H locs → lv_has ls 12 [(0, .ref g.2.2.2.1), (1, .ref (ad 0)), (2, .int i2_5), (3, .int v2), (4, .int j4_19), (5, .int j5_19), (6, .int j6_19), (7, .int j7_19), (8, .int i8_5)] → W p l e room_1 s m args below meth c H locs (cl5 + 4) (sl5 + 24) (lw_Z below args s) (F0 m 587 ls [])) ?_)
            · skip
              rcases sw7 r18 with hs | hs | hs | hs | hs | hs | hs | hs | hs
              · skip
                have hw := hw.1 (Or.inl hs)
                rw [hs]
                refine lv_tableIn (off := 46) (tgt := 212) hx hb dL_law_166 (by decide) (by decide) (by decide +kernel) (by decide) ?_
                refine lv_aload_n hx hb dL_law_212 rfl (lv_at hl 3 rfl) ?_
                refine lv_iload hx hb dL_law_213 (lv_at hl 1 rfl) ?_
                refine lv_iload_n hx hb dL_law_215 rfl (lv_at hl 5 rfl) ?_
                obtain ⟨hc20, hw⟩ := hw
                refine k_irem (v := iRem r16 v2) hx hb dL_law_216 hc20 rfl ?_
                refine lv_iload hx hb dL_law_217 (lv_at hl 0 rfl) ?_
                refine lv_iload_n hx hb dL_law_219 rfl (lv_at hl 5 rfl) ?_
                obtain ⟨hc21, hw⟩ := hw
                refine k_irem (v := iRem r17 v2) hx hb dL_law_220 hc21 rfl ?_
                refine lv_bipush (v := 6) hx hb dL_law_221 (by decide) ?_
                refine lv_iconst (v := 2) hx hb dL_law_223 (by decide) ?_
                refine lv_iload hx hb dL_law_224 (lv_at hl 1 rfl) ?_
                refine k_imul (v := 2 * r16) hx hb dL_law_226 rfl ?_
                refine k_iadd (v := 6 + (2 * r16)) hx hb dL_law_227 rfl ?_
                refine lv_iload hx hb dL_law_228 (lv_at hl 0 rfl) ?_
                refine lv_iconst (v := 4) hx hb dL_law_230 (by decide) ?_
                refine k_irem (v := iRem r17 4) hx hb dL_law_231 (by decide +kernel) rfl ?_
                refine mc_SW hSF hl.1 hP hD hS hA hK hGV (m_L_member l hfl D ad cA g (iRem r16 v2) (iRem r17 v2) (6 + (2 * r16)) (iRem r17 4) σ5 _ hw) goW_L_143 pd_L_member.2 ⟨(Nat.le_of_ble_eq_true rfl), (Nat.le_of_ble_eq_true rfl)⟩ ⟨(show cl5 + 3 ≤ 600397 by omega), (show sl5 + 18 ≤ 7293062 by omega)⟩ dL_law_232 rfl (Nat.le_of_ble_eq_true rfl) (fun v9 σ23 H locs hq hP hD hS => ?_)
                obtain ⟨r22, hv9, hw⟩ := hq
                subst hv9
                refine W.eq (g2 := F0 m 235 ls [.int r22]) rfl ?_
                refine W.widen (k := cl5 + 3) (n := sl5 + 18) (Nat.le_refl _) (Nat.le_refl _) ?_
                refine lv_istore (lv' := [(11, .int r22), (10, .int r17), (9, .int r16), (0, .ref g.2.2.2.1), (1, .ref (ad 0)), (2, .int i2_5), (3, .int v2), (4, .int i4_5), (5, .int i5_5), (6, .int i6_5), (7, .int i7_5), (8, .int i8_5)]) hx hb dL_law_235 hl (by decide) rfl (fun ls hl => ?_)
                refine lv_iload hx hb dL_law_237 (lv_at hl 7 rfl) ?_
                refine (fun hw => ?_) (hw (fun (s0_24 : Int32) => ∀ (H : Heap) (locs : List Loc) (ls : Array Slot), va_P D vwCl (WL ad cA σ23) H → va_D A (WL ad cA σ23) → va_S A s.heap H locs → lv_has ls 12 [(0, .ref g.2.2.2.1), (1, .ref (ad 0)), (2, .int i2_5), (3, .int v2), (5, .int i5_5), (6, .int i6_5), (7, .int i7_5), (8, .int i8_5), (11, .int r22)] → W p l e room_1 s m args below meth c H locs (cl5 + 3) (sl5 + 18) (lw_Z below args s) (F0 m 283 ls [.int s0_24, .int i4_5])) ?_)
                · skip
                  refine lv_iload hx hb dL_law_239 (lv_at hl 0 rfl) ?_
                  refine lv_iload hx hb dL_law_241 (lv_at hl 8 rfl) ?_
                  refine lv_icmp_eq (tgt := 278) hx hb dL_law_243 (by decide) (fun k25 => ?_) (fun k25 => ?_)
                  · skip
                    have hw := hw.1 k25
                    refine lv_iconst (v := 1) hx hb dL_law_278 (by decide) ?_
                    refine lv_goto (tgt := 283) hx hb dL_law_279 (by decide) ?_
                    exact W.widen (Nat.add_le_add_left (Nat.le_of_ble_eq_true rfl) _) (Nat.add_le_add_left (Nat.le_of_ble_eq_true rfl) _) (hw _ _ ls hP hD hS (lv_sub hl [3, 4, 5, 6, 8, 9, 10, 11, 0] rfl))
                  · skip
                    have hw := hw.2 k25
                    refine lv_iload hx hb dL_law_246 (lv_at hl 0 rfl) ?_
                    refine lv_bipush (v := (-79)) hx hb dL_law_248 (by decide) ?_
                    refine lv_icmp_ne (tgt := 260) hx hb dL_law_250 (by decide) (fun k26 => ?_) (fun k26 => ?_)
                    · skip
                      have hw := hw.1 k26
                      refine lv_iload hx hb dL_law_260 (lv_at hl 0 rfl) ?_
                      refine lv_bipush (v := (-78)) hx hb dL_law_262 (by decide) ?_
                      refine lv_icmp_ne (tgt := 282) hx hb dL_law_264 (by decide) (fun k27 => ?_) (fun k27 => ?_)
                      · skip
                        have hw := hw.1 k27
                        refine lv_iconst (v := 0) hx hb dL_law_282 (by decide) ?_
                        exact W.widen (Nat.add_le_add_left (Nat.le_of_ble_eq_true rfl) _) (Nat.add_le_add_left (Nat.le_of_ble_eq_true rfl) _) (hw _ _ ls hP hD hS (lv_sub hl [3, 4, 5, 6, 8, 9, 10, 11, 0] rfl))
                      · skip
                        have hw := hw.2 k27
                        refine lv_iload hx hb dL_law_267 (lv_at hl 2 rfl) ?_
                        refine lv_iload_n hx hb dL_law_269 rfl (lv_at hl 6 rfl) ?_
                        obtain ⟨hc28, hw⟩ := hw
                        refine k_irem (v := iRem r16 v2) hx hb dL_law_270 hc28 rfl ?_
                        refine lv_iload hx hb dL_law_271 (lv_at hl 1 rfl) ?_
                        refine lv_iload_n hx hb dL_law_273 rfl (lv_at hl 6 rfl) ?_
                        obtain ⟨hc29, hw⟩ := hw
                        refine k_irem (v := iRem r17 v2) hx hb dL_law_274 hc29 rfl ?_
                        refine lv_icmp_ne (tgt := 282) hx hb dL_law_275 (by decide) (fun k30 => ?_) (fun k30 => ?_)
                        · skip
                          have hw := hw.1 k30
                          refine lv_iconst (v := 0) hx hb dL_law_282 (by decide) ?_
                          exact W.widen (Nat.add_le_add_left (Nat.le_of_ble_eq_true rfl) _) (Nat.add_le_add_left (Nat.le_of_ble_eq_true rfl) _) (hw _ _ ls hP hD hS (lv_sub hl [3, 4, 5, 6, 8, 9, 10, 11, 0] rfl))
                        · skip
                          have hw := hw.2 k30
                          refine lv_iconst (v := 1) hx hb dL_law_278 (by decide) ?_
                          refine lv_goto (tgt := 283) hx hb dL_law_279 (by decide) ?_
                          exact W.widen (Nat.add_le_add_left (Nat.le_of_ble_eq_true rfl) _) (Nat.add_le_add_left (Nat.le_of_ble_eq_true rfl) _) (hw _ _ ls hP hD hS (lv_sub hl [3, 4, 5, 6, 8, 9, 10, 11, 0] rfl))
                    · skip
                      have hw := hw.2 k26
                      refine lv_iload hx hb dL_law_253 (lv_at hl 8 rfl) ?_
                      refine lv_bipush (v := 9) hx hb dL_law_255 (by decide) ?_
                      refine lv_icmp_eq (tgt := 278) hx hb dL_law_257 (by decide) (fun k31 => ?_) (fun k31 => ?_)
                      · skip
                        have hw := hw.1 k31
                        refine lv_iconst (v := 1) hx hb dL_law_278 (by decide) ?_
                        refine lv_goto (tgt := 283) hx hb dL_law_279 (by decide) ?_
                        exact W.widen (Nat.add_le_add_left (Nat.le_of_ble_eq_true rfl) _) (Nat.add_le_add_left (Nat.le_of_ble_eq_true rfl) _) (hw _ _ ls hP hD hS (lv_sub hl [3, 4, 5, 6, 8, 9, 10, 11, 0] rfl))
                      · skip
                        have hw := hw.2 k31
                        refine lv_iload hx hb dL_law_260 (lv_at hl 0 rfl) ?_
                        refine lv_bipush (v := (-78)) hx hb dL_law_262 (by decide) ?_
                        refine lv_icmp_ne (tgt := 282) hx hb dL_law_264 (by decide) (fun k32 => ?_) (fun k32 => ?_)
                        · skip
                          have hw := hw.1 k32
                          refine lv_iconst (v := 0) hx hb dL_law_282 (by decide) ?_
                          exact W.widen (Nat.add_le_add_left (Nat.le_of_ble_eq_true rfl) _) (Nat.add_le_add_left (Nat.le_of_ble_eq_true rfl) _) (hw _ _ ls hP hD hS (lv_sub hl [3, 4, 5, 6, 8, 9, 10, 11, 0] rfl))
                        · skip
                          have hw := hw.2 k32
                          refine lv_iload hx hb dL_law_267 (lv_at hl 2 rfl) ?_
                          refine lv_iload_n hx hb dL_law_269 rfl (lv_at hl 6 rfl) ?_
                          obtain ⟨hc33, hw⟩ := hw
                          refine k_irem (v := iRem r16 v2) hx hb dL_law_270 hc33 rfl ?_
                          refine lv_iload hx hb dL_law_271 (lv_at hl 1 rfl) ?_
                          refine lv_iload_n hx hb dL_law_273 rfl (lv_at hl 6 rfl) ?_
                          obtain ⟨hc34, hw⟩ := hw
                          refine k_irem (v := iRem r17 v2) hx hb dL_law_274 hc34 rfl ?_
                          refine lv_icmp_ne (tgt := 282) hx hb dL_law_275 (by decide) (fun k35 => ?_) (fun k35 => ?_)
                          · skip
                            have hw := hw.1 k35
                            refine lv_iconst (v := 0) hx hb dL_law_282 (by decide) ?_
                            exact W.widen (Nat.add_le_add_left (Nat.le_of_ble_eq_true rfl) _) (Nat.add_le_add_left (Nat.le_of_ble_eq_true rfl) _) (hw _ _ ls hP hD hS (lv_sub hl [3, 4, 5, 6, 8, 9, 10, 11, 0] rfl))
                          · skip
                            have hw := hw.2 k35
                            refine lv_iconst (v := 1) hx hb dL_law_278 (by decide) ?_
                            refine lv_goto (tgt := 283) hx hb dL_law_279 (by decide) ?_
                            exact W.widen (Nat.add_le_add_left (Nat.le_of_ble_eq_true rfl) _) (Nat.add_le_add_left (Nat.le_of_ble_eq_true rfl) _) (hw _ _ ls hP hD hS (lv_sub hl [3, 4, 5, 6, 8, 9, 10, 11, 0] rfl))
                · skip
                  intro s0_24 hw H locs ls hP hD hS hl
                  refine k_iand (v := i4_5 &&& s0_24) hx hb dL_law_283 rfl ?_
                  obtain ⟨v36, ev36⟩ : ∃ z : Int32, z = i4_5 &&& s0_24 := ⟨_, rfl⟩
                  have hw := hw v36 ev36
                  refine lv_istore (lv' := [(4, .int v36), (0, .ref g.2.2.2.1), (1, .ref (ad 0)), (2, .int i2_5), (3, .int v2), (5, .int i5_5), (6, .int i6_5), (7, .int i7_5), (8, .int i8_5), (11, .int r22)]) hx hb dL_law_284 hl (by decide) (by subst ev36; rfl) (fun ls hl => ?_)
                  refine lv_iload hx hb dL_law_286 (lv_at hl 5 rfl) ?_
                  refine (fun hw => ?_) (hw (fun (s0_37 : Int32) => ∀ (H : Heap) (locs : List Loc) (ls : Array Slot), va_P D vwCl (WL ad cA σ23) H → va_D A (WL ad cA σ23) → va_S A s.heap H locs → lv_has ls 12 [(0, .ref g.2.2.2.1), (1, .ref (ad 0)), (2, .int i2_5), (3, .int v2), (4, .int v36), (6, .int i6_5), (7, .int i7_5), (8, .int i8_5)] → W p l e room_1 s m args below meth c H locs (cl5 + 3) (sl5 + 18) (lw_Z below args s) (F0 m 298 ls [.int s0_37, .int i5_5])) ?_)
                  · skip
                    refine lv_iload hx hb dL_law_288 (lv_at hl 9 rfl) ?_
                    refine lv_if_lt (tgt := 297) hx hb dL_law_290 (by decide) (fun k38 => ?_) (fun k38 => ?_)
                    · skip
                      have hw := hw.1 k38
                      refine lv_iconst (v := 0) hx hb dL_law_297 (by decide) ?_
                      exact W.widen (Nat.add_le_add_left (Nat.le_of_ble_eq_true rfl) _) (Nat.add_le_add_left (Nat.le_of_ble_eq_true rfl) _) (hw _ _ ls hP hD hS (lv_sub hl [1, 2, 3, 4, 0, 6, 7, 8] rfl))
                    · skip
                      have hw := hw.2 k38
                      refine lv_iconst (v := 1) hx hb dL_law_293 (by decide) ?_
                      refine lv_goto (tgt := 298) hx hb dL_law_294 (by decide) ?_
                      exact W.widen (Nat.add_le_add_left (Nat.le_of_ble_eq_true rfl) _) (Nat.add_le_add_left (Nat.le_of_ble_eq_true rfl) _) (hw _ _ ls hP hD hS (lv_sub hl [1, 2, 3, 4, 0, 6, 7, 8] rfl))
                  · skip
                    intro s0_37 hw H locs ls hP hD hS hl
                    refine k_iadd (v := i5_5 + s0_37) hx hb dL_law_298 rfl ?_
                    obtain ⟨v39, ev39⟩ : ∃ z : Int32, z = i5_5 + s0_37 := ⟨_, rfl⟩
                    have hw := hw v39 ev39
                    refine lv_istore (lv' := [(5, .int v39), (0, .ref g.2.2.2.1), (1, .ref (ad 0)), (2, .int i2_5), (3, .int v2), (4, .int v36), (6, .int i6_5), (7, .int i7_5), (8, .int i8_5)]) hx hb dL_law_299 hl (by decide) (by subst ev39; rfl) (fun ls hl => ?_)
                    refine lv_goto (tgt := 587) hx hb dL_law_301 (by decide) ?_
                    exact W.widen (Nat.add_le_add_left (Nat.le_of_ble_eq_true rfl) _) (Nat.add_le_add_left (Nat.le_of_ble_eq_true rfl) _) (hw _ _ ls hP hD hS (lv_sub hl [1, 2, 3, 4, 5, 0, 6, 7, 8] rfl))
              · skip
                have hw := hw.1 ((Or.inr (Or.inl hs)))
                rw [hs]
                refine lv_tableIn (off := 46) (tgt := 212) hx hb dL_law_166 (by decide) (by decide) (by decide +kernel) (by decide) ?_
                refine lv_aload_n hx hb dL_law_212 rfl (lv_at hl 3 rfl) ?_
                refine lv_iload hx hb dL_law_213 (lv_at hl 1 rfl) ?_
                refine lv_iload_n hx hb dL_law_215 rfl (lv_at hl 5 rfl) ?_
                obtain ⟨hc40, hw⟩ := hw
                refine k_irem (v := iRem r16 v2) hx hb dL_law_216 hc40 rfl ?_
                refine lv_iload hx hb dL_law_217 (lv_at hl 0 rfl) ?_
                refine lv_iload_n hx hb dL_law_219 rfl (lv_at hl 5 rfl) ?_
                obtain ⟨hc41, hw⟩ := hw
                refine k_irem (v := iRem r17 v2) hx hb dL_law_220 hc41 rfl ?_
                refine lv_bipush (v := 6) hx hb dL_law_221 (by decide) ?_
                refine lv_iconst (v := 2) hx hb dL_law_223 (by decide) ?_
                refine lv_iload hx hb dL_law_224 (lv_at hl 1 rfl) ?_
                refine k_imul (v := 2 * r16) hx hb dL_law_226 rfl ?_
                refine k_iadd (v := 6 + (2 * r16)) hx hb dL_law_227 rfl ?_
                refine lv_iload hx hb dL_law_228 (lv_at hl 0 rfl) ?_
                refine lv_iconst (v := 4) hx hb dL_law_230 (by decide) ?_
                refine k_irem (v := iRem r17 4) hx hb dL_law_231 (by decide +kernel) rfl ?_
                refine mc_SW hSF hl.1 hP hD hS hA hK hGV (m_L_member l hfl D ad cA g (iRem r16 v2) (iRem r17 v2) (6 + (2 * r16)) (iRem r17 4) σ5 _ hw) goW_L_143 pd_L_member.2 ⟨(Nat.le_of_ble_eq_true rfl), (Nat.le_of_ble_eq_true rfl)⟩ ⟨(show cl5 + 3 ≤ 600397 by omega), (show sl5 + 18 ≤ 7293062 by omega)⟩ dL_law_232 rfl (Nat.le_of_ble_eq_true rfl) (fun v9 σ43 H locs hq hP hD hS => ?_)
                obtain ⟨r42, hv9, hw⟩ := hq
                subst hv9
                refine W.eq (g2 := F0 m 235 ls [.int r42]) rfl ?_
                refine W.widen (k := cl5 + 3) (n := sl5 + 18) (Nat.le_refl _) (Nat.le_refl _) ?_
                refine lv_istore (lv' := [(11, .int r42), (10, .int r17), (9, .int r16), (0, .ref g.2.2.2.1), (1, .ref (ad 0)), (2, .int i2_5), (3, .int v2), (4, .int i4_5), (5, .int i5_5), (6, .int i6_5), (7, .int i7_5), (8, .int i8_5)]) hx hb dL_law_235 hl (by decide) rfl (fun ls hl => ?_)
                refine lv_iload hx hb dL_law_237 (lv_at hl 7 rfl) ?_
                refine (fun hw => ?_) (hw (fun (s0_44 : Int32) => ∀ (H : Heap) (locs : List Loc) (ls : Array Slot), va_P D vwCl (WL ad cA σ43) H → va_D A (WL ad cA σ43) → va_S A s.heap H locs → lv_has ls 12 [(0, .ref g.2.2.2.1), (1, .ref (ad 0)), (2, .int i2_5), (3, .int v2), (5, .int i5_5), (6, .int i6_5), (7, .int i7_5), (8, .int i8_5), (11, .int r42)] → W p l e room_1 s m args below meth c H locs (cl5 + 3) (sl5 + 18) (lw_Z below args s) (F0 m 283 ls [.int s0_44, .int i4_5])) ?_)
                · skip
                  refine lv_iload hx hb dL_law_239 (lv_at hl 0 rfl) ?_
                  refine lv_iload hx hb dL_law_241 (lv_at hl 8 rfl) ?_
                  refine lv_icmp_eq (tgt := 278) hx hb dL_law_243 (by decide) (fun k45 => ?_) (fun k45 => ?_)
                  · skip
                    have hw := hw.1 k45
                    refine lv_iconst (v := 1) hx hb dL_law_278 (by decide) ?_
                    refine lv_goto (tgt := 283) hx hb dL_law_279 (by decide) ?_
                    exact W.widen (Nat.add_le_add_left (Nat.le_of_ble_eq_true rfl) _) (Nat.add_le_add_left (Nat.le_of_ble_eq_true rfl) _) (hw _ _ ls hP hD hS (lv_sub hl [3, 4, 5, 6, 8, 9, 10, 11, 0] rfl))
                  · skip
                    have hw := hw.2 k45
                    refine lv_iload hx hb dL_law_246 (lv_at hl 0 rfl) ?_
                    refine lv_bipush (v := (-79)) hx hb dL_law_248 (by decide) ?_
                    refine lv_icmp_ne (tgt := 260) hx hb dL_law_250 (by decide) (fun k46 => ?_) (fun k46 => ?_)
                    · skip
                      have hw := hw.1 k46
                      refine lv_iload hx hb dL_law_260 (lv_at hl 0 rfl) ?_
                      refine lv_bipush (v := (-78)) hx hb dL_law_262 (by decide) ?_
                      refine lv_icmp_ne (tgt := 282) hx hb dL_law_264 (by decide) (fun k47 => ?_) (fun k47 => ?_)
                      · skip
                        have hw := hw.1 k47
                        refine lv_iconst (v := 0) hx hb dL_law_282 (by decide) ?_
                        exact W.widen (Nat.add_le_add_left (Nat.le_of_ble_eq_true rfl) _) (Nat.add_le_add_left (Nat.le_of_ble_eq_true rfl) _) (hw _ _ ls hP hD hS (lv_sub hl [3, 4, 5, 6, 8, 9, 10, 11, 0] rfl))
                      · skip
                        have hw := hw.2 k47
                        refine lv_iload hx hb dL_law_267 (lv_at hl 2 rfl) ?_
                        refine lv_iload_n hx hb dL_law_269 rfl (lv_at hl 6 rfl) ?_
                        obtain ⟨hc48, hw⟩ := hw
                        refine k_irem (v := iRem r16 v2) hx hb dL_law_270 hc48 rfl ?_
                        refine lv_iload hx hb dL_law_271 (lv_at hl 1 rfl) ?_
                        refine lv_iload_n hx hb dL_law_273 rfl (lv_at hl 6 rfl) ?_
                        obtain ⟨hc49, hw⟩ := hw
                        refine k_irem (v := iRem r17 v2) hx hb dL_law_274 hc49 rfl ?_
                        refine lv_icmp_ne (tgt := 282) hx hb dL_law_275 (by decide) (fun k50 => ?_) (fun k50 => ?_)
                        · skip
                          have hw := hw.1 k50
                          refine lv_iconst (v := 0) hx hb dL_law_282 (by decide) ?_
                          exact W.widen (Nat.add_le_add_left (Nat.le_of_ble_eq_true rfl) _) (Nat.add_le_add_left (Nat.le_of_ble_eq_true rfl) _) (hw _ _ ls hP hD hS (lv_sub hl [3, 4, 5, 6, 8, 9, 10, 11, 0] rfl))
                        · skip
                          have hw := hw.2 k50
                          refine lv_iconst (v := 1) hx hb dL_law_278 (by decide) ?_
                          refine lv_goto (tgt := 283) hx hb dL_law_279 (by decide) ?_
                          exact W.widen (Nat.add_le_add_left (Nat.le_of_ble_eq_true rfl) _) (Nat.add_le_add_left (Nat.le_of_ble_eq_true rfl) _) (hw _ _ ls hP hD hS (lv_sub hl [3, 4, 5, 6, 8, 9, 10, 11, 0] rfl))
                    · skip
                      have hw := hw.2 k46
                      refine lv_iload hx hb dL_law_253 (lv_at hl 8 rfl) ?_
                      refine lv_bipush (v := 9) hx hb dL_law_255 (by decide) ?_
                      refine lv_icmp_eq (tgt := 278) hx hb dL_law_257 (by decide) (fun k51 => ?_) (fun k51 => ?_)
                      · skip
                        have hw := hw.1 k51
                        refine lv_iconst (v := 1) hx hb dL_law_278 (by decide) ?_
                        refine lv_goto (tgt := 283) hx hb dL_law_279 (by decide) ?_
                        exact W.widen (Nat.add_le_add_left (Nat.le_of_ble_eq_true rfl) _) (Nat.add_le_add_left (Nat.le_of_ble_eq_true rfl) _) (hw _ _ ls hP hD hS (lv_sub hl [3, 4, 5, 6, 8, 9, 10, 11, 0] rfl))
                      · skip
                        have hw := hw.2 k51
                        refine lv_iload hx hb dL_law_260 (lv_at hl 0 rfl) ?_
                        refine lv_bipush (v := (-78)) hx hb dL_law_262 (by decide) ?_
                        refine lv_icmp_ne (tgt := 282) hx hb dL_law_264 (by decide) (fun k52 => ?_) (fun k52 => ?_)
                        · skip
                          have hw := hw.1 k52
                          refine lv_iconst (v := 0) hx hb dL_law_282 (by decide) ?_
                          exact W.widen (Nat.add_le_add_left (Nat.le_of_ble_eq_true rfl) _) (Nat.add_le_add_left (Nat.le_of_ble_eq_true rfl) _) (hw _ _ ls hP hD hS (lv_sub hl [3, 4, 5, 6, 8, 9, 10, 11, 0] rfl))
                        · skip
                          have hw := hw.2 k52
                          refine lv_iload hx hb dL_law_267 (lv_at hl 2 rfl) ?_
                          refine lv_iload_n hx hb dL_law_269 rfl (lv_at hl 6 rfl) ?_
                          obtain ⟨hc53, hw⟩ := hw
                          refine k_irem (v := iRem r16 v2) hx hb dL_law_270 hc53 rfl ?_
                          refine lv_iload hx hb dL_law_271 (lv_at hl 1 rfl) ?_
                          refine lv_iload_n hx hb dL_law_273 rfl (lv_at hl 6 rfl) ?_
                          obtain ⟨hc54, hw⟩ := hw
                          refine k_irem (v := iRem r17 v2) hx hb dL_law_274 hc54 rfl ?_
                          refine lv_icmp_ne (tgt := 282) hx hb dL_law_275 (by decide) (fun k55 => ?_) (fun k55 => ?_)
                          · skip
                            have hw := hw.1 k55
                            refine lv_iconst (v := 0) hx hb dL_law_282 (by decide) ?_
                            exact W.widen (Nat.add_le_add_left (Nat.le_of_ble_eq_true rfl) _) (Nat.add_le_add_left (Nat.le_of_ble_eq_true rfl) _) (hw _ _ ls hP hD hS (lv_sub hl [3, 4, 5, 6, 8, 9, 10, 11, 0] rfl))
                          · skip
                            have hw := hw.2 k55
                            refine lv_iconst (v := 1) hx hb dL_law_278 (by decide) ?_
                            refine lv_goto (tgt := 283) hx hb dL_law_279 (by decide) ?_
                            exact W.widen (Nat.add_le_add_left (Nat.le_of_ble_eq_true rfl) _) (Nat.add_le_add_left (Nat.le_of_ble_eq_true rfl) _) (hw _ _ ls hP hD hS (lv_sub hl [3, 4, 5, 6, 8, 9, 10, 11, 0] rfl))
                · skip
                  intro s0_44 hw H locs ls hP hD hS hl
                  refine k_iand (v := i4_5 &&& s0_44) hx hb dL_law_283 rfl ?_
                  obtain ⟨v56, ev56⟩ : ∃ z : Int32, z = i4_5 &&& s0_44 := ⟨_, rfl⟩
                  have hw := hw v56 ev56
                  refine lv_istore (lv' := [(4, .int v56), (0, .ref g.2.2.2.1), (1, .ref (ad 0)), (2, .int i2_5), (3, .int v2), (5, .int i5_5), (6, .int i6_5), (7, .int i7_5), (8, .int i8_5), (11, .int r42)]) hx hb dL_law_284 hl (by decide) (by subst ev56; rfl) (fun ls hl => ?_)
                  refine lv_iload hx hb dL_law_286 (lv_at hl 5 rfl) ?_
                  refine (fun hw => ?_) (hw (fun (s0_57 : Int32) => ∀ (H : Heap) (locs : List Loc) (ls : Array Slot), va_P D vwCl (WL ad cA σ43) H → va_D A (WL ad cA σ43) → va_S A s.heap H locs → lv_has ls 12 [(0, .ref g.2.2.2.1), (1, .ref (ad 0)), (2, .int i2_5), (3, .int v2), (4, .int v56), (6, .int i6_5), (7, .int i7_5), (8, .int i8_5)] → W p l e room_1 s m args below meth c H locs (cl5 + 3) (sl5 + 18) (lw_Z below args s) (F0 m 298 ls [.int s0_57, .int i5_5])) ?_)
                  · skip
                    refine lv_iload hx hb dL_law_288 (lv_at hl 9 rfl) ?_
                    refine lv_if_lt (tgt := 297) hx hb dL_law_290 (by decide) (fun k58 => ?_) (fun k58 => ?_)
                    · skip
                      have hw := hw.1 k58
                      refine lv_iconst (v := 0) hx hb dL_law_297 (by decide) ?_
                      exact W.widen (Nat.add_le_add_left (Nat.le_of_ble_eq_true rfl) _) (Nat.add_le_add_left (Nat.le_of_ble_eq_true rfl) _) (hw _ _ ls hP hD hS (lv_sub hl [1, 2, 3, 4, 0, 6, 7, 8] rfl))
                    · skip
                      have hw := hw.2 k58
                      refine lv_iconst (v := 1) hx hb dL_law_293 (by decide) ?_
                      refine lv_goto (tgt := 298) hx hb dL_law_294 (by decide) ?_
                      exact W.widen (Nat.add_le_add_left (Nat.le_of_ble_eq_true rfl) _) (Nat.add_le_add_left (Nat.le_of_ble_eq_true rfl) _) (hw _ _ ls hP hD hS (lv_sub hl [1, 2, 3, 4, 0, 6, 7, 8] rfl))
                  · skip
                    intro s0_57 hw H locs ls hP hD hS hl
                    refine k_iadd (v := i5_5 + s0_57) hx hb dL_law_298 rfl ?_
                    obtain ⟨v59, ev59⟩ : ∃ z : Int32, z = i5_5 + s0_57 := ⟨_, rfl⟩
                    have hw := hw v59 ev59
                    refine lv_istore (lv' := [(5, .int v59), (0, .ref g.2.2.2.1), (1, .ref (ad 0)), (2, .int i2_5), (3, .int v2), (4, .int v56), (6, .int i6_5), (7, .int i7_5), (8, .int i8_5)]) hx hb dL_law_299 hl (by decide) (by subst ev59; rfl) (fun ls hl => ?_)
                    refine lv_goto (tgt := 587) hx hb dL_law_301 (by decide) ?_
                    exact W.widen (Nat.add_le_add_left (Nat.le_of_ble_eq_true rfl) _) (Nat.add_le_add_left (Nat.le_of_ble_eq_true rfl) _) (hw _ _ ls hP hD hS (lv_sub hl [1, 2, 3, 4, 5, 0, 6, 7, 8] rfl))
              · skip
                have hw := hw.1 (Or.inr (Or.inr hs))
                rw [hs]
                refine lv_tableIn (off := 46) (tgt := 212) hx hb dL_law_166 (by decide) (by decide) (by decide +kernel) (by decide) ?_
                refine lv_aload_n hx hb dL_law_212 rfl (lv_at hl 3 rfl) ?_
                refine lv_iload hx hb dL_law_213 (lv_at hl 1 rfl) ?_
                refine lv_iload_n hx hb dL_law_215 rfl (lv_at hl 5 rfl) ?_
                obtain ⟨hc60, hw⟩ := hw
                refine k_irem (v := iRem r16 v2) hx hb dL_law_216 hc60 rfl ?_
                refine lv_iload hx hb dL_law_217 (lv_at hl 0 rfl) ?_
                refine lv_iload_n hx hb dL_law_219 rfl (lv_at hl 5 rfl) ?_
                obtain ⟨hc61, hw⟩ := hw
                refine k_irem (v := iRem r17 v2) hx hb dL_law_220 hc61 rfl ?_
                refine lv_bipush (v := 6) hx hb dL_law_221 (by decide) ?_
                refine lv_iconst (v := 2) hx hb dL_law_223 (by decide) ?_
                refine lv_iload hx hb dL_law_224 (lv_at hl 1 rfl) ?_
                refine k_imul (v := 2 * r16) hx hb dL_law_226 rfl ?_
                refine k_iadd (v := 6 + (2 * r16)) hx hb dL_law_227 rfl ?_
                refine lv_iload hx hb dL_law_228 (lv_at hl 0 rfl) ?_
                refine lv_iconst (v := 4) hx hb dL_law_230 (by decide) ?_
                refine k_irem (v := iRem r17 4) hx hb dL_law_231 (by decide +kernel) rfl ?_
                refine mc_SW hSF hl.1 hP hD hS hA hK hGV (m_L_member l hfl D ad cA g (iRem r16 v2) (iRem r17 v2) (6 + (2 * r16)) (iRem r17 4) σ5 _ hw) goW_L_143 pd_L_member.2 ⟨(Nat.le_of_ble_eq_true rfl), (Nat.le_of_ble_eq_true rfl)⟩ ⟨(show cl5 + 3 ≤ 600397 by omega), (show sl5 + 18 ≤ 7293062 by omega)⟩ dL_law_232 rfl (Nat.le_of_ble_eq_true rfl) (fun v9 σ63 H locs hq hP hD hS => ?_)
                obtain ⟨r62, hv9, hw⟩ := hq
                subst hv9
                refine W.eq (g2 := F0 m 235 ls [.int r62]) rfl ?_
                refine W.widen (k := cl5 + 3) (n := sl5 + 18) (Nat.le_refl _) (Nat.le_refl _) ?_
                refine lv_istore (lv' := [(11, .int r62), (10, .int r17), (9, .int r16), (0, .ref g.2.2.2.1), (1, .ref (ad 0)), (2, .int i2_5), (3, .int v2), (4, .int i4_5), (5, .int i5_5), (6, .int i6_5), (7, .int i7_5), (8, .int i8_5)]) hx hb dL_law_235 hl (by decide) rfl (fun ls hl => ?_)
                refine lv_iload hx hb dL_law_237 (lv_at hl 7 rfl) ?_
                refine (fun hw => ?_) (hw (fun (s0_64 : Int32) => ∀ (H : Heap) (locs : List Loc) (ls : Array Slot), va_P D vwCl (WL ad cA σ63) H → va_D A (WL ad cA σ63) → va_S A s.heap H locs → lv_has ls 12 [(0, .ref g.2.2.2.1), (1, .ref (ad 0)), (2, .int i2_5), (3, .int v2), (5, .int i5_5), (6, .int i6_5), (7, .int i7_5), (8, .int i8_5), (11, .int r62)] → W p l e room_1 s m args below meth c H locs (cl5 + 3) (sl5 + 18) (lw_Z below args s) (F0 m 283 ls [.int s0_64, .int i4_5])) ?_)
                · skip
                  refine lv_iload hx hb dL_law_239 (lv_at hl 0 rfl) ?_
                  refine lv_iload hx hb dL_law_241 (lv_at hl 8 rfl) ?_
                  refine lv_icmp_eq (tgt := 278) hx hb dL_law_243 (by decide) (fun k65 => ?_) (fun k65 => ?_)
                  · skip
                    have hw := hw.1 k65
                    refine lv_iconst (v := 1) hx hb dL_law_278 (by decide) ?_
                    refine lv_goto (tgt := 283) hx hb dL_law_279 (by decide) ?_
                    exact W.widen (Nat.add_le_add_left (Nat.le_of_ble_eq_true rfl) _) (Nat.add_le_add_left (Nat.le_of_ble_eq_true rfl) _) (hw _ _ ls hP hD hS (lv_sub hl [3, 4, 5, 6, 8, 9, 10, 11, 0] rfl))
                  · skip
                    have hw := hw.2 k65
                    refine lv_iload hx hb dL_law_246 (lv_at hl 0 rfl) ?_
                    refine lv_bipush (v := (-79)) hx hb dL_law_248 (by decide) ?_
                    refine lv_icmp_ne (tgt := 260) hx hb dL_law_250 (by decide) (fun k66 => ?_) (fun k66 => ?_)
                    · skip
                      have hw := hw.1 k66
                      refine lv_iload hx hb dL_law_260 (lv_at hl 0 rfl) ?_
                      refine lv_bipush (v := (-78)) hx hb dL_law_262 (by decide) ?_
                      refine lv_icmp_ne (tgt := 282) hx hb dL_law_264 (by decide) (fun k67 => ?_) (fun k67 => ?_)
                      · skip
                        have hw := hw.1 k67
                        refine lv_iconst (v := 0) hx hb dL_law_282 (by decide) ?_
                        exact W.widen (Nat.add_le_add_left (Nat.le_of_ble_eq_true rfl) _) (Nat.add_le_add_left (Nat.le_of_ble_eq_true rfl) _) (hw _ _ ls hP hD hS (lv_sub hl [3, 4, 5, 6, 8, 9, 10, 11, 0] rfl))
                      · skip
                        have hw := hw.2 k67
                        refine lv_iload hx hb dL_law_267 (lv_at hl 2 rfl) ?_
                        refine lv_iload_n hx hb dL_law_269 rfl (lv_at hl 6 rfl) ?_
                        obtain ⟨hc68, hw⟩ := hw
                        refine k_irem (v := iRem r16 v2) hx hb dL_law_270 hc68 rfl ?_
                        refine lv_iload hx hb dL_law_271 (lv_at hl 1 rfl) ?_
                        refine lv_iload_n hx hb dL_law_273 rfl (lv_at hl 6 rfl) ?_
                        obtain ⟨hc69, hw⟩ := hw
                        refine k_irem (v := iRem r17 v2) hx hb dL_law_274 hc69 rfl ?_
                        refine lv_icmp_ne (tgt := 282) hx hb dL_law_275 (by decide) (fun k70 => ?_) (fun k70 => ?_)
                        · skip
                          have hw := hw.1 k70
                          refine lv_iconst (v := 0) hx hb dL_law_282 (by decide) ?_
                          exact W.widen (Nat.add_le_add_left (Nat.le_of_ble_eq_true rfl) _) (Nat.add_le_add_left (Nat.le_of_ble_eq_true rfl) _) (hw _ _ ls hP hD hS (lv_sub hl [3, 4, 5, 6, 8, 9, 10, 11, 0] rfl))
                        · skip
                          have hw := hw.2 k70
                          refine lv_iconst (v := 1) hx hb dL_law_278 (by decide) ?_
                          refine lv_goto (tgt := 283) hx hb dL_law_279 (by decide) ?_
                          exact W.widen (Nat.add_le_add_left (Nat.le_of_ble_eq_true rfl) _) (Nat.add_le_add_left (Nat.le_of_ble_eq_true rfl) _) (hw _ _ ls hP hD hS (lv_sub hl [3, 4, 5, 6, 8, 9, 10, 11, 0] rfl))
                    · skip
                      have hw := hw.2 k66
                      refine lv_iload hx hb dL_law_253 (lv_at hl 8 rfl) ?_
                      refine lv_bipush (v := 9) hx hb dL_law_255 (by decide) ?_
                      refine lv_icmp_eq (tgt := 278) hx hb dL_law_257 (by decide) (fun k71 => ?_) (fun k71 => ?_)
                      · skip
                        have hw := hw.1 k71
                        refine lv_iconst (v := 1) hx hb dL_law_278 (by decide) ?_
                        refine lv_goto (tgt := 283) hx hb dL_law_279 (by decide) ?_
                        exact W.widen (Nat.add_le_add_left (Nat.le_of_ble_eq_true rfl) _) (Nat.add_le_add_left (Nat.le_of_ble_eq_true rfl) _) (hw _ _ ls hP hD hS (lv_sub hl [3, 4, 5, 6, 8, 9, 10, 11, 0] rfl))
                      · skip
                        have hw := hw.2 k71
                        refine lv_iload hx hb dL_law_260 (lv_at hl 0 rfl) ?_
                        refine lv_bipush (v := (-78)) hx hb dL_law_262 (by decide) ?_
                        refine lv_icmp_ne (tgt := 282) hx hb dL_law_264 (by decide) (fun k72 => ?_) (fun k72 => ?_)
                        · skip
                          have hw := hw.1 k72
                          refine lv_iconst (v := 0) hx hb dL_law_282 (by decide) ?_
                          exact W.widen (Nat.add_le_add_left (Nat.le_of_ble_eq_true rfl) _) (Nat.add_le_add_left (Nat.le_of_ble_eq_true rfl) _) (hw _ _ ls hP hD hS (lv_sub hl [3, 4, 5, 6, 8, 9, 10, 11, 0] rfl))
                        · skip
                          have hw := hw.2 k72
                          refine lv_iload hx hb dL_law_267 (lv_at hl 2 rfl) ?_
                          refine lv_iload_n hx hb dL_law_269 rfl (lv_at hl 6 rfl) ?_
                          obtain ⟨hc73, hw⟩ := hw
                          refine k_irem (v := iRem r16 v2) hx hb dL_law_270 hc73 rfl ?_
                          refine lv_iload hx hb dL_law_271 (lv_at hl 1 rfl) ?_
                          refine lv_iload_n hx hb dL_law_273 rfl (lv_at hl 6 rfl) ?_
                          obtain ⟨hc74, hw⟩ := hw
                          refine k_irem (v := iRem r17 v2) hx hb dL_law_274 hc74 rfl ?_
                          refine lv_icmp_ne (tgt := 282) hx hb dL_law_275 (by decide) (fun k75 => ?_) (fun k75 => ?_)
                          · skip
                            have hw := hw.1 k75
                            refine lv_iconst (v := 0) hx hb dL_law_282 (by decide) ?_
                            exact W.widen (Nat.add_le_add_left (Nat.le_of_ble_eq_true rfl) _) (Nat.add_le_add_left (Nat.le_of_ble_eq_true rfl) _) (hw _ _ ls hP hD hS (lv_sub hl [3, 4, 5, 6, 8, 9, 10, 11, 0] rfl))
                          · skip
                            have hw := hw.2 k75
                            refine lv_iconst (v := 1) hx hb dL_law_278 (by decide) ?_
                            refine lv_goto (tgt := 283) hx hb dL_law_279 (by decide) ?_
                            exact W.widen (Nat.add_le_add_left (Nat.le_of_ble_eq_true rfl) _) (Nat.add_le_add_left (Nat.le_of_ble_eq_true rfl) _) (hw _ _ ls hP hD hS (lv_sub hl [3, 4, 5, 6, 8, 9, 10, 11, 0] rfl))
                · skip
                  intro s0_64 hw H locs ls hP hD hS hl
                  refine k_iand (v := i4_5 &&& s0_64) hx hb dL_law_283 rfl ?_
                  obtain ⟨v76, ev76⟩ : ∃ z : Int32, z = i4_5 &&& s0_64 := ⟨_, rfl⟩
                  have hw := hw v76 ev76
                  refine lv_istore (lv' := [(4, .int v76), (0, .ref g.2.2.2.1), (1, .ref (ad 0)), (2, .int i2_5), (3, .int v2), (5, .int i5_5), (6, .int i6_5), (7, .int i7_5), (8, .int i8_5), (11, .int r62)]) hx hb dL_law_284 hl (by decide) (by subst ev76; rfl) (fun ls hl => ?_)
                  refine lv_iload hx hb dL_law_286 (lv_at hl 5 rfl) ?_
                  refine (fun hw => ?_) (hw (fun (s0_77 : Int32) => ∀ (H : Heap) (locs : List Loc) (ls : Array Slot), va_P D vwCl (WL ad cA σ63) H → va_D A (WL ad cA σ63) → va_S A s.heap H locs → lv_has ls 12 [(0, .ref g.2.2.2.1), (1, .ref (ad 0)), (2, .int i2_5), (3, .int v2), (4, .int v76), (6, .int i6_5), (7, .int i7_5), (8, .int i8_5)] → W p l e room_1 s m args below meth c H locs (cl5 + 3) (sl5 + 18) (lw_Z below args s) (F0 m 298 ls [.int s0_77, .int i5_5])) ?_)
                  · skip
                    refine lv_iload hx hb dL_law_288 (lv_at hl 9 rfl) ?_
                    refine lv_if_lt (tgt := 297) hx hb dL_law_290 (by decide) (fun k78 => ?_) (fun k78 => ?_)
                    · skip
                      have hw := hw.1 k78
                      refine lv_iconst (v := 0) hx hb dL_law_297 (by decide) ?_
                      exact W.widen (Nat.add_le_add_left (Nat.le_of_ble_eq_true rfl) _) (Nat.add_le_add_left (Nat.le_of_ble_eq_true rfl) _) (hw _ _ ls hP hD hS (lv_sub hl [1, 2, 3, 4, 0, 6, 7, 8] rfl))
                    · skip
                      have hw := hw.2 k78
                      refine lv_iconst (v := 1) hx hb dL_law_293 (by decide) ?_
                      refine lv_goto (tgt := 298) hx hb dL_law_294 (by decide) ?_
                      exact W.widen (Nat.add_le_add_left (Nat.le_of_ble_eq_true rfl) _) (Nat.add_le_add_left (Nat.le_of_ble_eq_true rfl) _) (hw _ _ ls hP hD hS (lv_sub hl [1, 2, 3, 4, 0, 6, 7, 8] rfl))
                  · skip
                    intro s0_77 hw H locs ls hP hD hS hl
                    refine k_iadd (v := i5_5 + s0_77) hx hb dL_law_298 rfl ?_
                    obtain ⟨v79, ev79⟩ : ∃ z : Int32, z = i5_5 + s0_77 := ⟨_, rfl⟩
                    have hw := hw v79 ev79
                    refine lv_istore (lv' := [(5, .int v79), (0, .ref g.2.2.2.1), (1, .ref (ad 0)), (2, .int i2_5), (3, .int v2), (4, .int v76), (6, .int i6_5), (7, .int i7_5), (8, .int i8_5)]) hx hb dL_law_299 hl (by decide) (by subst ev79; rfl) (fun ls hl => ?_)
                    refine lv_goto (tgt := 587) hx hb dL_law_301 (by decide) ?_
                    exact W.widen (Nat.add_le_add_left (Nat.le_of_ble_eq_true rfl) _) (Nat.add_le_add_left (Nat.le_of_ble_eq_true rfl) _) (hw _ _ ls hP hD hS (lv_sub hl [1, 2, 3, 4, 5, 0, 6, 7, 8] rfl))
              · skip
                have hw := hw.2.1 (hs)
                rw [hs]
                refine lv_tableIn (off := 138) (tgt := 304) hx hb dL_law_166 (by decide) (by decide) (by decide +kernel) (by decide) ?_
                refine lv_iload hx hb dL_law_304 (lv_at hl 6 rfl) ?_
                refine lv_aload_n hx hb dL_law_306 rfl (lv_at hl 3 rfl) ?_
                refine lv_iload hx hb dL_law_307 (lv_at hl 1 rfl) ?_
                refine lv_iload_n hx hb dL_law_309 rfl (lv_at hl 5 rfl) ?_
                obtain ⟨hc80, hw⟩ := hw
                refine k_irem (v := iRem r16 v2) hx hb dL_law_310 hc80 rfl ?_
                refine lv_bipush (v := 9) hx hb dL_law_311 (by decide) ?_
                refine lv_iload hx hb dL_law_313 (lv_at hl 0 rfl) ?_
                refine k_imul (v := 9 * r17) hx hb dL_law_315 rfl ?_
                refine lv_bipush (v := 30) hx hb dL_law_316 (by decide) ?_
                refine k_isub (v := (9 * r17) - 30) hx hb dL_law_318 rfl ?_
                refine lv_bipush (v := 7) hx hb dL_law_319 (by decide) ?_
                refine lv_iload hx hb dL_law_321 (lv_at hl 1 rfl) ?_
                refine k_imul (v := 7 * r16) hx hb dL_law_323 rfl ?_
                refine lv_bipush (v := 20) hx hb dL_law_324 (by decide) ?_
                refine k_isub (v := (7 * r16) - 20) hx hb dL_law_326 rfl ?_
                refine mc_SW hSF hl.1 hP hD hS hA hK hGV (m_L_load l hfl D ad cA g (iRem r16 v2) ((9 * r17) - 30) ((7 * r16) - 20) σ5 _ hw) goW_L_146 pd_L_load.2 ⟨(Nat.le_of_ble_eq_true rfl), (Nat.le_of_ble_eq_true rfl)⟩ ⟨(show cl5 + 2 ≤ 600397 by omega), (show sl5 + 12 ≤ 7293062 by omega)⟩ dL_law_327 rfl (Nat.le_of_ble_eq_true rfl) (fun v9 σ82 H locs hq hP hD hS => ?_)
                obtain ⟨r81, hv9, hw⟩ := hq
                subst hv9
                refine W.eq (g2 := F0 m 330 ls [.int r81, .int i4_5]) rfl ?_
                refine W.widen (k := cl5 + 2) (n := sl5 + 12) (Nat.le_refl _) (Nat.le_refl _) ?_
                refine (fun hw => ?_) (hw (fun (s0_83 : Int32) => ∀ (H : Heap) (locs : List Loc) (ls : Array Slot), va_P D vwCl (WL ad cA σ82) H → va_D A (WL ad cA σ82) → va_S A s.heap H locs → lv_has ls 12 [(0, .ref g.2.2.2.1), (1, .ref (ad 0)), (2, .int i2_5), (3, .int v2), (5, .int i5_5), (6, .int i6_5), (7, .int i7_5), (8, .int i8_5)] → W p l e room_1 s m args below meth c H locs (cl5 + 2) (sl5 + 12) (lw_Z below args s) (F0 m 338 ls [.int s0_83, .int i4_5])) ?_)
                · skip
                  refine lv_if_le (tgt := 337) hx hb dL_law_330 (by decide) (fun k84 => ?_) (fun k84 => ?_)
                  · skip
                    have hw := hw.1 k84
                    refine lv_iconst (v := 0) hx hb dL_law_337 (by decide) ?_
                    exact W.widen (Nat.add_le_add_left (Nat.le_of_ble_eq_true rfl) _) (Nat.add_le_add_left (Nat.le_of_ble_eq_true rfl) _) (hw _ _ ls hP hD hS (lv_sub hl [2, 3, 4, 5, 7, 8, 9, 10] rfl))
                  · skip
                    have hw := hw.2 k84
                    refine lv_iconst (v := 1) hx hb dL_law_333 (by decide) ?_
                    refine lv_goto (tgt := 338) hx hb dL_law_334 (by decide) ?_
                    exact W.widen (Nat.add_le_add_left (Nat.le_of_ble_eq_true rfl) _) (Nat.add_le_add_left (Nat.le_of_ble_eq_true rfl) _) (hw _ _ ls hP hD hS (lv_sub hl [2, 3, 4, 5, 7, 8, 9, 10] rfl))
                · skip
                  intro s0_83 hw H locs ls hP hD hS hl
                  refine k_iand (v := i4_5 &&& s0_83) hx hb dL_law_338 rfl ?_
                  obtain ⟨v85, ev85⟩ : ∃ z : Int32, z = i4_5 &&& s0_83 := ⟨_, rfl⟩
                  have hw := hw v85 ev85
                  refine lv_istore (lv' := [(4, .int v85), (0, .ref g.2.2.2.1), (1, .ref (ad 0)), (2, .int i2_5), (3, .int v2), (5, .int i5_5), (6, .int i6_5), (7, .int i7_5), (8, .int i8_5)]) hx hb dL_law_339 hl (by decide) (by subst ev85; rfl) (fun ls hl => ?_)
                  refine lv_goto (tgt := 587) hx hb dL_law_341 (by decide) ?_
                  exact W.widen (Nat.add_le_add_left (Nat.le_of_ble_eq_true rfl) _) (Nat.add_le_add_left (Nat.le_of_ble_eq_true rfl) _) (hw _ _ ls hP hD hS (lv_sub hl [1, 2, 3, 4, 0, 5, 6, 7, 8] rfl))
              · skip
                have hw := hw.2.2.1 (Or.inl hs)
                rw [hs]
                refine lv_tableIn (off := 178) (tgt := 344) hx hb dL_law_166 (by decide) (by decide) (by decide +kernel) (by decide) ?_
                refine (fun hw => ?_) (hw (fun (s0_86 : Int32) (σ86 : Sg) => ∀ (H : Heap) (locs : List Loc) (ls : Array Slot), va_P D vwCl (WL ad cA σ86) H → va_D A (WL ad cA σ86) → va_S A s.heap H locs → lv_has ls 12 [(0, .ref g.2.2.2.1), (1, .ref (ad 0)), (2, .int i2_5), (3, .int v2), (4, .int i4_5), (5, .int i5_5), (6, .int i6_5), (7, .int i7_5), (8, .int i8_5)] → W p l e room_1 s m args below meth c H locs (cl5 + 3) (sl5 + 18) (lw_Z below args s) (F0 m 395 ls [.int s0_86])) ?_)
                · skip
                  refine lv_iload hx hb dL_law_344 (lv_at hl 7 rfl) ?_
                  refine lv_iconst (v := 2) hx hb dL_law_346 (by decide) ?_
                  refine lv_icmp_ge (tgt := 355) hx hb dL_law_347 (by decide) (fun k87 => ?_) (fun k87 => ?_)
                  · skip
                    have hw := hw.1 k87
                    refine lv_aload_n hx hb dL_law_355 rfl (lv_at hl 3 rfl) ?_
                    refine lv_iload hx hb dL_law_356 (lv_at hl 1 rfl) ?_
                    refine lv_iload hx hb dL_law_358 (lv_at hl 7 rfl) ?_
                    obtain ⟨hc88, hw⟩ := hw
                    refine k_irem (v := iRem r16 i5_5) hx hb dL_law_360 hc88 rfl ?_
                    refine lv_iload hx hb dL_law_361 (lv_at hl 0 rfl) ?_
                    refine lv_iload hx hb dL_law_363 (lv_at hl 7 rfl) ?_
                    obtain ⟨hc89, hw⟩ := hw
                    refine k_irem (v := iRem r17 i5_5) hx hb dL_law_365 hc89 rfl ?_
                    refine k_ldcS hx hb hGV 28 rfl hown dL_law_366 ?_
                    refine lv_aload_n hx hb dL_law_368 rfl (lv_at hl 2 rfl) ?_
                    refine lv_iload_n hx hb dL_law_369 rfl (lv_at hl 4 rfl) ?_
                    refine lv_iconst (v := 3) hx hb dL_law_370 (by decide) ?_
                    refine k_iadd (v := i2_5 + 3) hx hb dL_law_371 rfl ?_
                    refine lv_iconst (v := 5) hx hb dL_law_372 (by decide) ?_
                    refine mc_S hSF hl.1 hP hD hS hA hK hGV (m_L_pick l hfl D ad cA g (i2_5 + 3) 5 σ5 _ hw) goS_L_128 pd_L_pick.2 ⟨(Nat.le_of_ble_eq_true rfl), (Nat.le_of_ble_eq_true rfl)⟩ ⟨(show cl5 + 0 ≤ 600397 by omega), (show sl5 + 0 ≤ 7293062 by omega)⟩ dL_law_373 rfl (Nat.le_of_ble_eq_true rfl) (fun v9 σ9 H locs hq hP hD hS => ?_) (fun _ _ _ _ _ _ h => h.elim)
                    obtain ⟨r90, hv9, hs9, hw⟩ := hq
                    subst hv9
                    subst σ9
                    refine W.eq (g2 := F0 m 376 ls [.int r90, .ref (g.1 28), .int (iRem r17 i5_5), .int (iRem r16 i5_5), .ref (ad 0)]) rfl ?_
                    refine W.widen (k := cl5 + 0) (n := sl5 + 0) (Nat.le_refl _) (Nat.le_refl _) ?_
                    refine mc_V hSF hl.1 hP hD hS hA hK hGV (m_J0_charAt_5068e_S28 l hfl D ad cA g r90 σ5 _ hw) goV_L_134 pd_J0_charAt_5068e ⟨(Nat.le_of_ble_eq_true rfl), (Nat.le_of_ble_eq_true rfl)⟩ ⟨(show cl5 + 0 ≤ 600397 by omega), (show sl5 + 0 ≤ 7293062 by omega)⟩ (k_srecv (x9 := (28, 5, [117, 100, 108, 114, 102])) hGV (by decide) hS) dL_law_376 rfl (Nat.le_of_ble_eq_true rfl) (fun v9 σ9 H locs hq hP hD hS => ?_) (fun _ _ _ _ _ _ h => h.elim)
                    obtain ⟨r91, hv9, hs9, hw⟩ := hq
                    subst hv9
                    subst σ9
                    refine W.eq (g2 := F0 m 379 ls [.int r91, .int (iRem r17 i5_5), .int (iRem r16 i5_5), .ref (ad 0)]) rfl ?_
                    refine W.widen (k := cl5 + 0) (n := sl5 + 0) (Nat.le_refl _) (Nat.le_refl _) ?_
                    refine lv_iconst (v := 2) hx hb dL_law_379 (by decide) ?_
                    refine lv_iload hx hb dL_law_380 (lv_at hl 0 rfl) ?_
                    refine k_iadd (v := 2 + r17) hx hb dL_law_382 rfl ?_
                    refine lv_iconst (v := 1) hx hb dL_law_383 (by decide) ?_
                    refine lv_iconst (v := 4) hx hb dL_law_384 (by decide) ?_
                    refine lv_iload hx hb dL_law_385 (lv_at hl 1 rfl) ?_
                    refine k_imul (v := 4 * r16) hx hb dL_law_387 rfl ?_
                    refine lv_bipush (v := 31) hx hb dL_law_388 (by decide) ?_
                    refine k_irem (v := iRem (4 * r16) 31) hx hb dL_law_390 (by decide +kernel) rfl ?_
                    refine k_iadd (v := 1 + (iRem (4 * r16) 31)) hx hb dL_law_391 rfl ?_
                    refine mc_SW hSF hl.1 hP hD hS hA hK hGV (m_L_joint l hfl D ad cA g (iRem r16 i5_5) (iRem r17 i5_5) r91 (2 + r17) (1 + (iRem (4 * r16) 31)) σ5 _ hw) goW_L_151 pd_L_joint.2 ⟨(Nat.le_of_ble_eq_true rfl), (Nat.le_of_ble_eq_true rfl)⟩ ⟨(show cl5 + 3 ≤ 600397 by omega), (show sl5 + 18 ≤ 7293062 by omega)⟩ dL_law_392 rfl (Nat.le_of_ble_eq_true rfl) (fun v9 σ93 H locs hq hP hD hS => ?_)
                    obtain ⟨r92, hv9, hw⟩ := hq
                    subst hv9
                    refine W.eq (g2 := F0 m 395 ls [.int r92]) rfl ?_
                    refine W.widen (k := cl5 + 3) (n := sl5 + 18) (Nat.le_refl _) (Nat.le_refl _) ?_
                    exact W.widen (Nat.add_le_add_left (Nat.le_of_ble_eq_true rfl) _) (Nat.add_le_add_left (Nat.le_of_ble_eq_true rfl) _) (hw _ _ ls hP hD hS (lv_sub hl [2, 3, 4, 5, 6, 7, 8, 9, 10] rfl))
                  · skip
                    have hw := hw.2 k87
                    refine lv_bipush (v := (-76)) hx hb dL_law_350 (by decide) ?_
                    refine lv_goto (tgt := 395) hx hb dL_law_352 (by decide) ?_
                    exact W.widen (Nat.add_le_add_left (Nat.le_of_ble_eq_true rfl) _) (Nat.add_le_add_left (Nat.le_of_ble_eq_true rfl) _) (hw _ _ ls hP hD hS (lv_sub hl [2, 3, 4, 5, 6, 7, 8, 9, 10] rfl))
                · skip
                  intro s0_86 σ86 hw H locs ls hP hD hS hl
                  refine lv_istore (lv' := [(11, .int s0_86), (0, .ref g.2.2.2.1), (1, .ref (ad 0)), (2, .int i2_5), (3, .int v2), (4, .int i4_5), (5, .int i5_5), (6, .int i6_5), (7, .int i7_5), (8, .int i8_5)]) hx hb dL_law_395 hl (by decide) rfl (fun ls hl => ?_)
                  refine lv_iload hx hb dL_law_397 (lv_at hl 5 rfl) ?_
                  refine (fun hw => ?_) (hw (fun (s0_94 : Int32) => ∀ (H : Heap) (locs : List Loc) (ls : Array Slot), va_P D vwCl (WL ad cA σ86) H → va_D A (WL ad cA σ86) → va_S A s.heap H locs → lv_has ls 12 [(0, .ref g.2.2.2.1), (1, .ref (ad 0)), (2, .int i2_5), (3, .int v2), (5, .int i5_5), (6, .int i6_5), (7, .int i7_5), (8, .int i8_5), (11, .int s0_86)] → W p l e room_1 s m args below meth c H locs (cl5 + 3) (sl5 + 18) (lw_Z below args s) (F0 m 416 ls [.int s0_94, .int i4_5])) ?_)
                  · skip
                    refine lv_iload hx hb dL_law_399 (lv_at hl 0 rfl) ?_
                    refine lv_if_lt (tgt := 411) hx hb dL_law_401 (by decide) (fun k95 => ?_) (fun k95 => ?_)
                    · skip
                      have hw := hw.1 k95
                      refine lv_iconst (v := 1) hx hb dL_law_411 (by decide) ?_
                      refine lv_goto (tgt := 416) hx hb dL_law_412 (by decide) ?_
                      exact W.widen (Nat.add_le_add_left (Nat.le_of_ble_eq_true rfl) _) (Nat.add_le_add_left (Nat.le_of_ble_eq_true rfl) _) (hw _ _ ls hP hD hS (lv_sub hl [1, 2, 3, 4, 6, 7, 8, 9, 0] rfl))
                    · skip
                      have hw := hw.2 k95
                      refine lv_iload hx hb dL_law_404 (lv_at hl 0 rfl) ?_
                      refine lv_iload hx hb dL_law_406 (lv_at hl 7 rfl) ?_
                      refine lv_icmp_ne (tgt := 415) hx hb dL_law_408 (by decide) (fun k96 => ?_) (fun k96 => ?_)
                      · skip
                        have hw := hw.1 k96
                        refine lv_iconst (v := 0) hx hb dL_law_415 (by decide) ?_
                        exact W.widen (Nat.add_le_add_left (Nat.le_of_ble_eq_true rfl) _) (Nat.add_le_add_left (Nat.le_of_ble_eq_true rfl) _) (hw _ _ ls hP hD hS (lv_sub hl [1, 2, 3, 4, 6, 7, 8, 9, 0] rfl))
                      · skip
                        have hw := hw.2 k96
                        refine lv_iconst (v := 1) hx hb dL_law_411 (by decide) ?_
                        refine lv_goto (tgt := 416) hx hb dL_law_412 (by decide) ?_
                        exact W.widen (Nat.add_le_add_left (Nat.le_of_ble_eq_true rfl) _) (Nat.add_le_add_left (Nat.le_of_ble_eq_true rfl) _) (hw _ _ ls hP hD hS (lv_sub hl [1, 2, 3, 4, 6, 7, 8, 9, 0] rfl))
                  · skip
                    intro s0_94 hw H locs ls hP hD hS hl
                    refine k_iand (v := i4_5 &&& s0_94) hx hb dL_law_416 rfl ?_
                    obtain ⟨v97, ev97⟩ : ∃ z : Int32, z = i4_5 &&& s0_94 := ⟨_, rfl⟩
                    have hw := hw v97 ev97
                    refine lv_istore (lv' := [(4, .int v97), (0, .ref g.2.2.2.1), (1, .ref (ad 0)), (2, .int i2_5), (3, .int v2), (5, .int i5_5), (6, .int i6_5), (7, .int i7_5), (8, .int i8_5), (11, .int s0_86)]) hx hb dL_law_417 hl (by decide) (by subst ev97; rfl) (fun ls hl => ?_)
                    refine lv_iload hx hb dL_law_419 (lv_at hl 6 rfl) ?_
                    refine (fun hw => ?_) (hw (fun (s0_98 : Int32) => ∀ (H : Heap) (locs : List Loc) (ls : Array Slot), va_P D vwCl (WL ad cA σ86) H → va_D A (WL ad cA σ86) → va_S A s.heap H locs → lv_has ls 12 [(0, .ref g.2.2.2.1), (1, .ref (ad 0)), (2, .int i2_5), (3, .int v2), (4, .int v97), (5, .int i5_5), (7, .int i7_5), (8, .int i8_5)] → W p l e room_1 s m args below meth c H locs (cl5 + 3) (sl5 + 18) (lw_Z below args s) (F0 m 431 ls [.int s0_98, .int i6_5])) ?_)
                    · skip
                      refine lv_iload hx hb dL_law_421 (lv_at hl 9 rfl) ?_
                      refine lv_if_lt (tgt := 430) hx hb dL_law_423 (by decide) (fun k99 => ?_) (fun k99 => ?_)
                      · skip
                        have hw := hw.1 k99
                        refine lv_iconst (v := 0) hx hb dL_law_430 (by decide) ?_
                        exact W.widen (Nat.add_le_add_left (Nat.le_of_ble_eq_true rfl) _) (Nat.add_le_add_left (Nat.le_of_ble_eq_true rfl) _) (hw _ _ ls hP hD hS (lv_sub hl [1, 2, 3, 4, 0, 5, 7, 8] rfl))
                      · skip
                        have hw := hw.2 k99
                        refine lv_iconst (v := 1) hx hb dL_law_426 (by decide) ?_
                        refine lv_goto (tgt := 431) hx hb dL_law_427 (by decide) ?_
                        exact W.widen (Nat.add_le_add_left (Nat.le_of_ble_eq_true rfl) _) (Nat.add_le_add_left (Nat.le_of_ble_eq_true rfl) _) (hw _ _ ls hP hD hS (lv_sub hl [1, 2, 3, 4, 0, 5, 7, 8] rfl))
                    · skip
                      intro s0_98 hw H locs ls hP hD hS hl
                      refine k_iadd (v := i6_5 + s0_98) hx hb dL_law_431 rfl ?_
                      obtain ⟨v100, ev100⟩ : ∃ z : Int32, z = i6_5 + s0_98 := ⟨_, rfl⟩
                      have hw := hw v100 ev100
                      refine lv_istore (lv' := [(6, .int v100), (0, .ref g.2.2.2.1), (1, .ref (ad 0)), (2, .int i2_5), (3, .int v2), (4, .int v97), (5, .int i5_5), (7, .int i7_5), (8, .int i8_5)]) hx hb dL_law_432 hl (by decide) (by subst ev100; rfl) (fun ls hl => ?_)
                      refine lv_goto (tgt := 587) hx hb dL_law_434 (by decide) ?_
                      exact W.widen (Nat.add_le_add_left (Nat.le_of_ble_eq_true rfl) _) (Nat.add_le_add_left (Nat.le_of_ble_eq_true rfl) _) (hw _ _ ls hP hD hS (lv_sub hl [1, 2, 3, 4, 5, 6, 0, 7, 8] rfl))
              · skip
                have hw := hw.2.2.1 (Or.inr hs)
                rw [hs]
                refine lv_tableIn (off := 178) (tgt := 344) hx hb dL_law_166 (by decide) (by decide) (by decide +kernel) (by decide) ?_
                refine (fun hw => ?_) (hw (fun (s0_101 : Int32) (σ101 : Sg) => ∀ (H : Heap) (locs : List Loc) (ls : Array Slot), va_P D vwCl (WL ad cA σ101) H → va_D A (WL ad cA σ101) → va_S A s.heap H locs → lv_has ls 12 [(0, .ref g.2.2.2.1), (1, .ref (ad 0)), (2, .int i2_5), (3, .int v2), (4, .int i4_5), (5, .int i5_5), (6, .int i6_5), (7, .int i7_5), (8, .int i8_5)] → W p l e room_1 s m args below meth c H locs (cl5 + 3) (sl5 + 18) (lw_Z below args s) (F0 m 395 ls [.int s0_101])) ?_)
                · skip
                  refine lv_iload hx hb dL_law_344 (lv_at hl 7 rfl) ?_
                  refine lv_iconst (v := 2) hx hb dL_law_346 (by decide) ?_
                  refine lv_icmp_ge (tgt := 355) hx hb dL_law_347 (by decide) (fun k102 => ?_) (fun k102 => ?_)
                  · skip
                    have hw := hw.1 k102
                    refine lv_aload_n hx hb dL_law_355 rfl (lv_at hl 3 rfl) ?_
                    refine lv_iload hx hb dL_law_356 (lv_at hl 1 rfl) ?_
                    refine lv_iload hx hb dL_law_358 (lv_at hl 7 rfl) ?_
                    obtain ⟨hc103, hw⟩ := hw
                    refine k_irem (v := iRem r16 i5_5) hx hb dL_law_360 hc103 rfl ?_
                    refine lv_iload hx hb dL_law_361 (lv_at hl 0 rfl) ?_
                    refine lv_iload hx hb dL_law_363 (lv_at hl 7 rfl) ?_
                    obtain ⟨hc104, hw⟩ := hw
                    refine k_irem (v := iRem r17 i5_5) hx hb dL_law_365 hc104 rfl ?_
                    refine k_ldcS hx hb hGV 28 rfl hown dL_law_366 ?_
                    refine lv_aload_n hx hb dL_law_368 rfl (lv_at hl 2 rfl) ?_
                    refine lv_iload_n hx hb dL_law_369 rfl (lv_at hl 4 rfl) ?_
                    refine lv_iconst (v := 3) hx hb dL_law_370 (by decide) ?_
                    refine k_iadd (v := i2_5 + 3) hx hb dL_law_371 rfl ?_
                    refine lv_iconst (v := 5) hx hb dL_law_372 (by decide) ?_
                    refine mc_S hSF hl.1 hP hD hS hA hK hGV (m_L_pick l hfl D ad cA g (i2_5 + 3) 5 σ5 _ hw) goS_L_128 pd_L_pick.2 ⟨(Nat.le_of_ble_eq_true rfl), (Nat.le_of_ble_eq_true rfl)⟩ ⟨(show cl5 + 0 ≤ 600397 by omega), (show sl5 + 0 ≤ 7293062 by omega)⟩ dL_law_373 rfl (Nat.le_of_ble_eq_true rfl) (fun v9 σ9 H locs hq hP hD hS => ?_) (fun _ _ _ _ _ _ h => h.elim)
                    obtain ⟨r105, hv9, hs9, hw⟩ := hq
                    subst hv9
                    subst σ9
                    refine W.eq (g2 := F0 m 376 ls [.int r105, .ref (g.1 28), .int (iRem r17 i5_5), .int (iRem r16 i5_5), .ref (ad 0)]) rfl ?_
                    refine W.widen (k := cl5 + 0) (n := sl5 + 0) (Nat.le_refl _) (Nat.le_refl _) ?_
                    refine mc_V hSF hl.1 hP hD hS hA hK hGV (m_J0_charAt_5068e_S28 l hfl D ad cA g r105 σ5 _ hw) goV_L_134 pd_J0_charAt_5068e ⟨(Nat.le_of_ble_eq_true rfl), (Nat.le_of_ble_eq_true rfl)⟩ ⟨(show cl5 + 0 ≤ 600397 by omega), (show sl5 + 0 ≤ 7293062 by omega)⟩ (k_srecv (x9 := (28, 5, [117, 100, 108, 114, 102])) hGV (by decide) hS) dL_law_376 rfl (Nat.le_of_ble_eq_true rfl) (fun v9 σ9 H locs hq hP hD hS => ?_) (fun _ _ _ _ _ _ h => h.elim)
                    obtain ⟨r106, hv9, hs9, hw⟩ := hq
                    subst hv9
                    subst σ9
                    refine W.eq (g2 := F0 m 379 ls [.int r106, .int (iRem r17 i5_5), .int (iRem r16 i5_5), .ref (ad 0)]) rfl ?_
                    refine W.widen (k := cl5 + 0) (n := sl5 + 0) (Nat.le_refl _) (Nat.le_refl _) ?_
                    refine lv_iconst (v := 2) hx hb dL_law_379 (by decide) ?_
                    refine lv_iload hx hb dL_law_380 (lv_at hl 0 rfl) ?_
                    refine k_iadd (v := 2 + r17) hx hb dL_law_382 rfl ?_
                    refine lv_iconst (v := 1) hx hb dL_law_383 (by decide) ?_
                    refine lv_iconst (v := 4) hx hb dL_law_384 (by decide) ?_
                    refine lv_iload hx hb dL_law_385 (lv_at hl 1 rfl) ?_
                    refine k_imul (v := 4 * r16) hx hb dL_law_387 rfl ?_
                    refine lv_bipush (v := 31) hx hb dL_law_388 (by decide) ?_
                    refine k_irem (v := iRem (4 * r16) 31) hx hb dL_law_390 (by decide +kernel) rfl ?_
                    refine k_iadd (v := 1 + (iRem (4 * r16) 31)) hx hb dL_law_391 rfl ?_
                    refine mc_SW hSF hl.1 hP hD hS hA hK hGV (m_L_joint l hfl D ad cA g (iRem r16 i5_5) (iRem r17 i5_5) r106 (2 + r17) (1 + (iRem (4 * r16) 31)) σ5 _ hw) goW_L_151 pd_L_joint.2 ⟨(Nat.le_of_ble_eq_true rfl), (Nat.le_of_ble_eq_true rfl)⟩ ⟨(show cl5 + 3 ≤ 600397 by omega), (show sl5 + 18 ≤ 7293062 by omega)⟩ dL_law_392 rfl (Nat.le_of_ble_eq_true rfl) (fun v9 σ108 H locs hq hP hD hS => ?_)
                    obtain ⟨r107, hv9, hw⟩ := hq
                    subst hv9
                    refine W.eq (g2 := F0 m 395 ls [.int r107]) rfl ?_
                    refine W.widen (k := cl5 + 3) (n := sl5 + 18) (Nat.le_refl _) (Nat.le_refl _) ?_
                    exact W.widen (Nat.add_le_add_left (Nat.le_of_ble_eq_true rfl) _) (Nat.add_le_add_left (Nat.le_of_ble_eq_true rfl) _) (hw _ _ ls hP hD hS (lv_sub hl [2, 3, 4, 5, 6, 7, 8, 9, 10] rfl))
                  · skip
                    have hw := hw.2 k102
                    refine lv_bipush (v := (-76)) hx hb dL_law_350 (by decide) ?_
                    refine lv_goto (tgt := 395) hx hb dL_law_352 (by decide) ?_
                    exact W.widen (Nat.add_le_add_left (Nat.le_of_ble_eq_true rfl) _) (Nat.add_le_add_left (Nat.le_of_ble_eq_true rfl) _) (hw _ _ ls hP hD hS (lv_sub hl [2, 3, 4, 5, 6, 7, 8, 9, 10] rfl))
                · skip
                  intro s0_101 σ101 hw H locs ls hP hD hS hl
                  refine lv_istore (lv' := [(11, .int s0_101), (0, .ref g.2.2.2.1), (1, .ref (ad 0)), (2, .int i2_5), (3, .int v2), (4, .int i4_5), (5, .int i5_5), (6, .int i6_5), (7, .int i7_5), (8, .int i8_5)]) hx hb dL_law_395 hl (by decide) rfl (fun ls hl => ?_)
                  refine lv_iload hx hb dL_law_397 (lv_at hl 5 rfl) ?_
                  refine (fun hw => ?_) (hw (fun (s0_109 : Int32) => ∀ (H : Heap) (locs : List Loc) (ls : Array Slot), va_P D vwCl (WL ad cA σ101) H → va_D A (WL ad cA σ101) → va_S A s.heap H locs → lv_has ls 12 [(0, .ref g.2.2.2.1), (1, .ref (ad 0)), (2, .int i2_5), (3, .int v2), (5, .int i5_5), (6, .int i6_5), (7, .int i7_5), (8, .int i8_5), (11, .int s0_101)] → W p l e room_1 s m args below meth c H locs (cl5 + 3) (sl5 + 18) (lw_Z below args s) (F0 m 416 ls [.int s0_109, .int i4_5])) ?_)
                  · skip
                    refine lv_iload hx hb dL_law_399 (lv_at hl 0 rfl) ?_
                    refine lv_if_lt (tgt := 411) hx hb dL_law_401 (by decide) (fun k110 => ?_) (fun k110 => ?_)
                    · skip
                      have hw := hw.1 k110
                      refine lv_iconst (v := 1) hx hb dL_law_411 (by decide) ?_
                      refine lv_goto (tgt := 416) hx hb dL_law_412 (by decide) ?_
                      exact W.widen (Nat.add_le_add_left (Nat.le_of_ble_eq_true rfl) _) (Nat.add_le_add_left (Nat.le_of_ble_eq_true rfl) _) (hw _ _ ls hP hD hS (lv_sub hl [1, 2, 3, 4, 6, 7, 8, 9, 0] rfl))
                    · skip
                      have hw := hw.2 k110
                      refine lv_iload hx hb dL_law_404 (lv_at hl 0 rfl) ?_
                      refine lv_iload hx hb dL_law_406 (lv_at hl 7 rfl) ?_
                      refine lv_icmp_ne (tgt := 415) hx hb dL_law_408 (by decide) (fun k111 => ?_) (fun k111 => ?_)
                      · skip
                        have hw := hw.1 k111
                        refine lv_iconst (v := 0) hx hb dL_law_415 (by decide) ?_
                        exact W.widen (Nat.add_le_add_left (Nat.le_of_ble_eq_true rfl) _) (Nat.add_le_add_left (Nat.le_of_ble_eq_true rfl) _) (hw _ _ ls hP hD hS (lv_sub hl [1, 2, 3, 4, 6, 7, 8, 9, 0] rfl))
                      · skip
                        have hw := hw.2 k111
                        refine lv_iconst (v := 1) hx hb dL_law_411 (by decide) ?_
                        refine lv_goto (tgt := 416) hx hb dL_law_412 (by decide) ?_
                        exact W.widen (Nat.add_le_add_left (Nat.le_of_ble_eq_true rfl) _) (Nat.add_le_add_left (Nat.le_of_ble_eq_true rfl) _) (hw _ _ ls hP hD hS (lv_sub hl [1, 2, 3, 4, 6, 7, 8, 9, 0] rfl))
                  · skip
                    intro s0_109 hw H locs ls hP hD hS hl
                    refine k_iand (v := i4_5 &&& s0_109) hx hb dL_law_416 rfl ?_
                    obtain ⟨v112, ev112⟩ : ∃ z : Int32, z = i4_5 &&& s0_109 := ⟨_, rfl⟩
                    have hw := hw v112 ev112
                    refine lv_istore (lv' := [(4, .int v112), (0, .ref g.2.2.2.1), (1, .ref (ad 0)), (2, .int i2_5), (3, .int v2), (5, .int i5_5), (6, .int i6_5), (7, .int i7_5), (8, .int i8_5), (11, .int s0_101)]) hx hb dL_law_417 hl (by decide) (by subst ev112; rfl) (fun ls hl => ?_)
                    refine lv_iload hx hb dL_law_419 (lv_at hl 6 rfl) ?_
                    refine (fun hw => ?_) (hw (fun (s0_113 : Int32) => ∀ (H : Heap) (locs : List Loc) (ls : Array Slot), va_P D vwCl (WL ad cA σ101) H → va_D A (WL ad cA σ101) → va_S A s.heap H locs → lv_has ls 12 [(0, .ref g.2.2.2.1), (1, .ref (ad 0)), (2, .int i2_5), (3, .int v2), (4, .int v112), (5, .int i5_5), (7, .int i7_5), (8, .int i8_5)] → W p l e room_1 s m args below meth c H locs (cl5 + 3) (sl5 + 18) (lw_Z below args s) (F0 m 431 ls [.int s0_113, .int i6_5])) ?_)
                    · skip
                      refine lv_iload hx hb dL_law_421 (lv_at hl 9 rfl) ?_
                      refine lv_if_lt (tgt := 430) hx hb dL_law_423 (by decide) (fun k114 => ?_) (fun k114 => ?_)
                      · skip
                        have hw := hw.1 k114
                        refine lv_iconst (v := 0) hx hb dL_law_430 (by decide) ?_
                        exact W.widen (Nat.add_le_add_left (Nat.le_of_ble_eq_true rfl) _) (Nat.add_le_add_left (Nat.le_of_ble_eq_true rfl) _) (hw _ _ ls hP hD hS (lv_sub hl [1, 2, 3, 4, 0, 5, 7, 8] rfl))
                      · skip
                        have hw := hw.2 k114
                        refine lv_iconst (v := 1) hx hb dL_law_426 (by decide) ?_
                        refine lv_goto (tgt := 431) hx hb dL_law_427 (by decide) ?_
                        exact W.widen (Nat.add_le_add_left (Nat.le_of_ble_eq_true rfl) _) (Nat.add_le_add_left (Nat.le_of_ble_eq_true rfl) _) (hw _ _ ls hP hD hS (lv_sub hl [1, 2, 3, 4, 0, 5, 7, 8] rfl))
                    · skip
                      intro s0_113 hw H locs ls hP hD hS hl
                      refine k_iadd (v := i6_5 + s0_113) hx hb dL_law_431 rfl ?_
                      obtain ⟨v115, ev115⟩ : ∃ z : Int32, z = i6_5 + s0_113 := ⟨_, rfl⟩
                      have hw := hw v115 ev115
                      refine lv_istore (lv' := [(6, .int v115), (0, .ref g.2.2.2.1), (1, .ref (ad 0)), (2, .int i2_5), (3, .int v2), (4, .int v112), (5, .int i5_5), (7, .int i7_5), (8, .int i8_5)]) hx hb dL_law_432 hl (by decide) (by subst ev115; rfl) (fun ls hl => ?_)
                      refine lv_goto (tgt := 587) hx hb dL_law_434 (by decide) ?_
                      exact W.widen (Nat.add_le_add_left (Nat.le_of_ble_eq_true rfl) _) (Nat.add_le_add_left (Nat.le_of_ble_eq_true rfl) _) (hw _ _ ls hP hD hS (lv_sub hl [1, 2, 3, 4, 5, 6, 0, 7, 8] rfl))
              · skip
                have hw := hw.2.2.2.1 (hs)
                rw [hs]
                refine lv_tableIn (off := 271) (tgt := 437) hx hb dL_law_166 (by decide) (by decide) (by decide +kernel) (by decide) ?_
                refine lv_aload_n hx hb dL_law_437 rfl (lv_at hl 3 rfl) ?_
                refine lv_bipush (v := 100) hx hb dL_law_438 (by decide) ?_
                refine lv_bipush (v := 100) hx hb dL_law_440 (by decide) ?_
                refine lv_iload hx hb dL_law_442 (lv_at hl 1 rfl) ?_
                refine k_imul (v := 100 * r16) hx hb dL_law_444 rfl ?_
                refine k_iadd (v := 100 + (100 * r16)) hx hb dL_law_445 rfl ?_
                refine lv_bipush (v := 10) hx hb dL_law_446 (by decide) ?_
                refine lv_iconst (v := 4) hx hb dL_law_448 (by decide) ?_
                refine lv_iload hx hb dL_law_449 (lv_at hl 0 rfl) ?_
                refine k_imul (v := 4 * r17) hx hb dL_law_451 rfl ?_
                refine k_iadd (v := 10 + (4 * r17)) hx hb dL_law_452 rfl ?_
                refine lv_iload hx hb dL_law_453 (lv_at hl 0 rfl) ?_
                refine lv_iconst (v := 4) hx hb dL_law_455 (by decide) ?_
                refine k_irem (v := iRem r17 4) hx hb dL_law_456 (by decide +kernel) rfl ?_
                refine mc_SW hSF hl.1 hP hD hS hA hK hGV (m_L_stick l hfl D ad cA g (100 + (100 * r16)) (10 + (4 * r17)) (iRem r17 4) σ5 _ hw) goW_L_154 pd_L_stick.2 ⟨(Nat.le_of_ble_eq_true rfl), (Nat.le_of_ble_eq_true rfl)⟩ ⟨(show cl5 + 1 ≤ 600397 by omega), (show sl5 + 6 ≤ 7293062 by omega)⟩ dL_law_457 rfl (Nat.le_of_ble_eq_true rfl) (fun v9 σ117 H locs hq hP hD hS => ?_)
                obtain ⟨r116, hv9, hw⟩ := hq
                subst hv9
                refine W.eq (g2 := F0 m 460 ls [.int r116]) rfl ?_
                refine W.widen (k := cl5 + 1) (n := sl5 + 6) (Nat.le_refl _) (Nat.le_refl _) ?_
                refine lv_istore (lv' := [(11, .int r116), (10, .int r17), (9, .int r16), (0, .ref g.2.2.2.1), (1, .ref (ad 0)), (2, .int i2_5), (3, .int v2), (4, .int i4_5), (5, .int i5_5), (6, .int i6_5), (7, .int i7_5), (8, .int i8_5)]) hx hb dL_law_460 hl (by decide) rfl (fun ls hl => ?_)
                refine lv_iload hx hb dL_law_462 (lv_at hl 7 rfl) ?_
                refine (fun hw => ?_) (hw (fun (s0_118 : Int32) => ∀ (H : Heap) (locs : List Loc) (ls : Array Slot), va_P D vwCl (WL ad cA σ117) H → va_D A (WL ad cA σ117) → va_S A s.heap H locs → lv_has ls 12 [(0, .ref g.2.2.2.1), (1, .ref (ad 0)), (2, .int i2_5), (3, .int v2), (5, .int i5_5), (6, .int i6_5), (7, .int i7_5), (8, .int i8_5), (11, .int r116)] → W p l e room_1 s m args below meth c H locs (cl5 + 1) (sl5 + 6) (lw_Z below args s) (F0 m 489 ls [.int s0_118, .int i4_5])) ?_)
                · skip
                  refine lv_iload hx hb dL_law_464 (lv_at hl 0 rfl) ?_
                  refine lv_iload hx hb dL_law_466 (lv_at hl 10 rfl) ?_
                  refine lv_icmp_eq (tgt := 484) hx hb dL_law_468 (by decide) (fun k119 => ?_) (fun k119 => ?_)
                  · skip
                    have hw := hw.1 k119
                    refine lv_iconst (v := 1) hx hb dL_law_484 (by decide) ?_
                    refine lv_goto (tgt := 489) hx hb dL_law_485 (by decide) ?_
                    exact W.widen (Nat.add_le_add_left (Nat.le_of_ble_eq_true rfl) _) (Nat.add_le_add_left (Nat.le_of_ble_eq_true rfl) _) (hw _ _ ls hP hD hS (lv_sub hl [3, 4, 5, 6, 8, 9, 10, 11, 0] rfl))
                  · skip
                    have hw := hw.2 k119
                    refine lv_iload hx hb dL_law_471 (lv_at hl 0 rfl) ?_
                    refine lv_bipush (v := (-79)) hx hb dL_law_473 (by decide) ?_
                    refine lv_icmp_ne (tgt := 488) hx hb dL_law_475 (by decide) (fun k120 => ?_) (fun k120 => ?_)
                    · skip
                      have hw := hw.1 k120
                      refine lv_iconst (v := 0) hx hb dL_law_488 (by decide) ?_
                      exact W.widen (Nat.add_le_add_left (Nat.le_of_ble_eq_true rfl) _) (Nat.add_le_add_left (Nat.le_of_ble_eq_true rfl) _) (hw _ _ ls hP hD hS (lv_sub hl [3, 4, 5, 6, 8, 9, 10, 11, 0] rfl))
                    · skip
                      have hw := hw.2 k120
                      refine lv_iload hx hb dL_law_478 (lv_at hl 10 rfl) ?_
                      refine lv_iconst (v := 5) hx hb dL_law_480 (by decide) ?_
                      refine lv_icmp_ne (tgt := 488) hx hb dL_law_481 (by decide) (fun k121 => ?_) (fun k121 => ?_)
                      · skip
                        have hw := hw.1 k121
                        refine lv_iconst (v := 0) hx hb dL_law_488 (by decide) ?_
                        exact W.widen (Nat.add_le_add_left (Nat.le_of_ble_eq_true rfl) _) (Nat.add_le_add_left (Nat.le_of_ble_eq_true rfl) _) (hw _ _ ls hP hD hS (lv_sub hl [3, 4, 5, 6, 8, 9, 10, 11, 0] rfl))
                      · skip
                        have hw := hw.2 k121
                        refine lv_iconst (v := 1) hx hb dL_law_484 (by decide) ?_
                        refine lv_goto (tgt := 489) hx hb dL_law_485 (by decide) ?_
                        exact W.widen (Nat.add_le_add_left (Nat.le_of_ble_eq_true rfl) _) (Nat.add_le_add_left (Nat.le_of_ble_eq_true rfl) _) (hw _ _ ls hP hD hS (lv_sub hl [3, 4, 5, 6, 8, 9, 10, 11, 0] rfl))
                · skip
                  intro s0_118 hw H locs ls hP hD hS hl
                  refine k_iand (v := i4_5 &&& s0_118) hx hb dL_law_489 rfl ?_
                  obtain ⟨v122, ev122⟩ : ∃ z : Int32, z = i4_5 &&& s0_118 := ⟨_, rfl⟩
                  have hw := hw v122 ev122
                  refine lv_istore (lv' := [(4, .int v122), (0, .ref g.2.2.2.1), (1, .ref (ad 0)), (2, .int i2_5), (3, .int v2), (5, .int i5_5), (6, .int i6_5), (7, .int i7_5), (8, .int i8_5), (11, .int r116)]) hx hb dL_law_490 hl (by decide) (by subst ev122; rfl) (fun ls hl => ?_)
                  refine lv_iload hx hb dL_law_492 (lv_at hl 7 rfl) ?_
                  refine (fun hw => ?_) (hw (fun (s0_123 : Int32) => ∀ (H : Heap) (locs : List Loc) (ls : Array Slot), va_P D vwCl (WL ad cA σ117) H → va_D A (WL ad cA σ117) → va_S A s.heap H locs → lv_has ls 12 [(0, .ref g.2.2.2.1), (1, .ref (ad 0)), (2, .int i2_5), (3, .int v2), (4, .int v122), (5, .int i5_5), (6, .int i6_5), (8, .int i8_5)] → W p l e room_1 s m args below meth c H locs (cl5 + 1) (sl5 + 6) (lw_Z below args s) (F0 m 504 ls [.int s0_123, .int i7_5])) ?_)
                  · skip
                    refine lv_iload hx hb dL_law_494 (lv_at hl 9 rfl) ?_
                    refine lv_if_lt (tgt := 503) hx hb dL_law_496 (by decide) (fun k124 => ?_) (fun k124 => ?_)
                    · skip
                      have hw := hw.1 k124
                      refine lv_iconst (v := 0) hx hb dL_law_503 (by decide) ?_
                      exact W.widen (Nat.add_le_add_left (Nat.le_of_ble_eq_true rfl) _) (Nat.add_le_add_left (Nat.le_of_ble_eq_true rfl) _) (hw _ _ ls hP hD hS (lv_sub hl [1, 2, 3, 4, 0, 5, 6, 8] rfl))
                    · skip
                      have hw := hw.2 k124
                      refine lv_iconst (v := 1) hx hb dL_law_499 (by decide) ?_
                      refine lv_goto (tgt := 504) hx hb dL_law_500 (by decide) ?_
                      exact W.widen (Nat.add_le_add_left (Nat.le_of_ble_eq_true rfl) _) (Nat.add_le_add_left (Nat.le_of_ble_eq_true rfl) _) (hw _ _ ls hP hD hS (lv_sub hl [1, 2, 3, 4, 0, 5, 6, 8] rfl))
                  · skip
                    intro s0_123 hw H locs ls hP hD hS hl
                    refine k_iadd (v := i7_5 + s0_123) hx hb dL_law_504 rfl ?_
                    obtain ⟨v125, ev125⟩ : ∃ z : Int32, z = i7_5 + s0_123 := ⟨_, rfl⟩
                    have hw := hw v125 ev125
                    refine lv_istore (lv' := [(7, .int v125), (0, .ref g.2.2.2.1), (1, .ref (ad 0)), (2, .int i2_5), (3, .int v2), (4, .int v122), (5, .int i5_5), (6, .int i6_5), (8, .int i8_5)]) hx hb dL_law_505 hl (by decide) (by subst ev125; rfl) (fun ls hl => ?_)
                    refine lv_goto (tgt := 587) hx hb dL_law_507 (by decide) ?_
                    exact W.widen (Nat.add_le_add_left (Nat.le_of_ble_eq_true rfl) _) (Nat.add_le_add_left (Nat.le_of_ble_eq_true rfl) _) (hw _ _ ls hP hD hS (lv_sub hl [1, 2, 3, 4, 5, 6, 7, 0, 8] rfl))
              · skip
                have hw := hw.2.2.2.2.1 (hs)
                rw [hs]
                refine lv_tableIn (off := 344) (tgt := 510) hx hb dL_law_166 (by decide) (by decide) (by decide +kernel) (by decide) ?_
                refine lv_iload hx hb dL_law_510 (lv_at hl 6 rfl) ?_
                refine lv_aload_n hx hb dL_law_512 rfl (lv_at hl 3 rfl) ?_
                refine lv_iload hx hb dL_law_513 (lv_at hl 1 rfl) ?_
                refine lv_iconst (v := 4) hx hb dL_law_515 (by decide) ?_
                refine k_irem (v := iRem r16 4) hx hb dL_law_516 (by decide +kernel) rfl ?_
                refine mc_SW hSF hl.1 hP hD hS hA hK hGV (m_L_setProps l hfl D ad cA g (iRem r16 4) σ5 _ hw) goW_L_156 pd_L_setProps.2 ⟨(Nat.le_of_ble_eq_true rfl), (Nat.le_of_ble_eq_true rfl)⟩ ⟨(show cl5 + 1 ≤ 600397 by omega), (show sl5 + 6 ≤ 7293062 by omega)⟩ dL_law_517 rfl (Nat.le_of_ble_eq_true rfl) (fun v9 σ127 H locs hq hP hD hS => ?_)
                obtain ⟨r126, hv9, hw⟩ := hq
                subst hv9
                refine W.eq (g2 := F0 m 520 ls [.int r126, .int i4_5]) rfl ?_
                refine W.widen (k := cl5 + 1) (n := sl5 + 6) (Nat.le_refl _) (Nat.le_refl _) ?_
                refine (fun hw => ?_) (hw (fun (s0_128 : Int32) => ∀ (H : Heap) (locs : List Loc) (ls : Array Slot), va_P D vwCl (WL ad cA σ127) H → va_D A (WL ad cA σ127) → va_S A s.heap H locs → lv_has ls 12 [(0, .ref g.2.2.2.1), (1, .ref (ad 0)), (2, .int i2_5), (3, .int v2), (5, .int i5_5), (6, .int i6_5), (7, .int i7_5), (8, .int i8_5)] → W p l e room_1 s m args below meth c H locs (cl5 + 1) (sl5 + 6) (lw_Z below args s) (F0 m 528 ls [.int s0_128, .int i4_5])) ?_)
                · skip
                  refine lv_if_lt (tgt := 527) hx hb dL_law_520 (by decide) (fun k129 => ?_) (fun k129 => ?_)
                  · skip
                    have hw := hw.1 k129
                    refine lv_iconst (v := 0) hx hb dL_law_527 (by decide) ?_
                    exact W.widen (Nat.add_le_add_left (Nat.le_of_ble_eq_true rfl) _) (Nat.add_le_add_left (Nat.le_of_ble_eq_true rfl) _) (hw _ _ ls hP hD hS (lv_sub hl [2, 3, 4, 5, 7, 8, 9, 10] rfl))
                  · skip
                    have hw := hw.2 k129
                    refine lv_iconst (v := 1) hx hb dL_law_523 (by decide) ?_
                    refine lv_goto (tgt := 528) hx hb dL_law_524 (by decide) ?_
                    exact W.widen (Nat.add_le_add_left (Nat.le_of_ble_eq_true rfl) _) (Nat.add_le_add_left (Nat.le_of_ble_eq_true rfl) _) (hw _ _ ls hP hD hS (lv_sub hl [2, 3, 4, 5, 7, 8, 9, 10] rfl))
                · skip
                  intro s0_128 hw H locs ls hP hD hS hl
                  refine k_iand (v := i4_5 &&& s0_128) hx hb dL_law_528 rfl ?_
                  obtain ⟨v130, ev130⟩ : ∃ z : Int32, z = i4_5 &&& s0_128 := ⟨_, rfl⟩
                  have hw := hw v130 ev130
                  refine lv_istore (lv' := [(4, .int v130), (0, .ref g.2.2.2.1), (1, .ref (ad 0)), (2, .int i2_5), (3, .int v2), (5, .int i5_5), (6, .int i6_5), (7, .int i7_5), (8, .int i8_5)]) hx hb dL_law_529 hl (by decide) (by subst ev130; rfl) (fun ls hl => ?_)
                  refine lv_goto (tgt := 587) hx hb dL_law_531 (by decide) ?_
                  exact W.widen (Nat.add_le_add_left (Nat.le_of_ble_eq_true rfl) _) (Nat.add_le_add_left (Nat.le_of_ble_eq_true rfl) _) (hw _ _ ls hP hD hS (lv_sub hl [1, 2, 3, 4, 0, 5, 6, 7, 8] rfl))
              · skip
                have hw := hw.2.2.2.2.2 hs
                refine lv_tableOut (tgt := 534) hx hb dL_law_166 hs (by decide) ?_
                refine lv_iload hx hb dL_law_534 (lv_at hl 6 rfl) ?_
                refine (fun hw => ?_) (hw (fun (s0_131 : Int32) (σ131 : Sg) => ∀ (H : Heap) (locs : List Loc) (ls : Array Slot), va_P D vwCl (WL ad cA σ131) H → va_D A (WL ad cA σ131) → va_S A s.heap H locs → lv_has ls 12 [(0, .ref g.2.2.2.1), (1, .ref (ad 0)), (2, .int i2_5), (3, .int v2), (5, .int i5_5), (6, .int i6_5), (7, .int i7_5), (8, .int i8_5)] → W p l e room_1 s m args below meth c H locs (cl5 + 4) (sl5 + 24) (lw_Z below args s) (F0 m 584 ls [.int s0_131, .int i4_5])) ?_)
                · skip
                  refine lv_iload hx hb dL_law_536 (lv_at hl 7 rfl) ?_
                  refine lv_if_eq (tgt := 579) hx hb dL_law_538 (by decide) (fun k132 => ?_) (fun k132 => ?_)
                  · skip
                    have hw := hw.1 k132
                    refine lv_iconst (v := 1) hx hb dL_law_579 (by decide) ?_
                    refine lv_goto (tgt := 584) hx hb dL_law_580 (by decide) ?_
                    exact W.widen (Nat.add_le_add_left (Nat.le_of_ble_eq_true rfl) _) (Nat.add_le_add_left (Nat.le_of_ble_eq_true rfl) _) (hw _ _ ls hP hD hS (lv_sub hl [2, 3, 4, 5, 7, 8, 9, 10] rfl))
                  · skip
                    have hw := hw.2 k132
                    refine lv_aload_n hx hb dL_law_541 rfl (lv_at hl 3 rfl) ?_
                    refine lv_iload hx hb dL_law_542 (lv_at hl 1 rfl) ?_
                    refine lv_iload hx hb dL_law_544 (lv_at hl 7 rfl) ?_
                    obtain ⟨hc133, hw⟩ := hw
                    refine k_irem (v := iRem r16 i5_5) hx hb dL_law_546 hc133 rfl ?_
                    refine lv_bipush (v := 20) hx hb dL_law_547 (by decide) ?_
                    refine lv_iconst (v := 5) hx hb dL_law_549 (by decide) ?_
                    refine lv_iload hx hb dL_law_550 (lv_at hl 0 rfl) ?_
                    refine k_imul (v := 5 * r17) hx hb dL_law_552 rfl ?_
                    refine k_iadd (v := 20 + (5 * r17)) hx hb dL_law_553 rfl ?_
                    refine mc_SW hSF hl.1 hP hD hS hA hK hGV (m_L_cutAt l hfl D ad cA g (iRem r16 i5_5) (20 + (5 * r17)) σ5 _ hw) goW_L_159 pd_L_cutAt.2 ⟨(Nat.le_of_ble_eq_true rfl), (Nat.le_of_ble_eq_true rfl)⟩ ⟨(show cl5 + 2 ≤ 600397 by omega), (show sl5 + 12 ≤ 7293062 by omega)⟩ dL_law_554 rfl (Nat.le_of_ble_eq_true rfl) (fun v9 σ135 H locs hq hP hD hS => ?_)
                    obtain ⟨r134, hv9, hw⟩ := hq
                    subst hv9
                    refine W.eq (g2 := F0 m 557 ls [.int r134, .int i4_5]) rfl ?_
                    refine W.widen (k := cl5 + 2) (n := sl5 + 12) (Nat.le_refl _) (Nat.le_refl _) ?_
                    refine lv_if_le (tgt := 583) hx hb dL_law_557 (by decide) (fun k136 => ?_) (fun k136 => ?_)
                    · skip
                      have hw := hw.1 k136
                      refine lv_iconst (v := 0) hx hb dL_law_583 (by decide) ?_
                      exact W.widen (Nat.add_le_add_left (Nat.le_of_ble_eq_true rfl) _) (Nat.add_le_add_left (Nat.le_of_ble_eq_true rfl) _) (hw _ _ ls hP hD hS (lv_sub hl [2, 3, 4, 5, 7, 8, 9, 10] rfl))
                    · skip
                      have hw := hw.2 k136
                      refine lv_aload_n hx hb dL_law_560 rfl (lv_at hl 3 rfl) ?_
                      refine lv_iload hx hb dL_law_561 (lv_at hl 0 rfl) ?_
                      refine lv_iload hx hb dL_law_563 (lv_at hl 7 rfl) ?_
                      obtain ⟨hc137, hw⟩ := hw
                      refine k_irem (v := iRem r17 i5_5) hx hb dL_law_565 hc137 rfl ?_
                      refine lv_bipush (v := 10) hx hb dL_law_566 (by decide) ?_
                      refine lv_iconst (v := 3) hx hb dL_law_568 (by decide) ?_
                      refine lv_iload hx hb dL_law_569 (lv_at hl 1 rfl) ?_
                      refine k_imul (v := 3 * r16) hx hb dL_law_571 rfl ?_
                      refine k_iadd (v := 10 + (3 * r16)) hx hb dL_law_572 rfl ?_
                      refine mc_SW hSF hl.1 hP hD hS hA hK hGV (m_L_dry l hfl D ad cA g (iRem r17 i5_5) (10 + (3 * r16)) σ135 _ hw) goW_L_162 pd_L_dry.2 ⟨(Nat.le_of_ble_eq_true rfl), (Nat.le_of_ble_eq_true rfl)⟩ ⟨(show cl5 + 4 ≤ 600397 by omega), (show sl5 + 24 ≤ 7293062 by omega)⟩ dL_law_573 rfl (Nat.le_of_ble_eq_true rfl) (fun v9 σ139 H locs hq hP hD hS => ?_)
                      obtain ⟨r138, hv9, hw⟩ := hq
                      subst hv9
                      refine W.eq (g2 := F0 m 576 ls [.int r138, .int i4_5]) rfl ?_
                      refine W.widen (k := cl5 + 4) (n := sl5 + 24) (Nat.le_refl _) (Nat.le_refl _) ?_
                      refine lv_if_le (tgt := 583) hx hb dL_law_576 (by decide) (fun k140 => ?_) (fun k140 => ?_)
                      · skip
                        have hw := hw.1 k140
                        refine lv_iconst (v := 0) hx hb dL_law_583 (by decide) ?_
                        exact W.widen (Nat.add_le_add_left (Nat.le_of_ble_eq_true rfl) _) (Nat.add_le_add_left (Nat.le_of_ble_eq_true rfl) _) (hw _ _ ls hP hD hS (lv_sub hl [2, 3, 4, 5, 7, 8, 9, 10] rfl))
                      · skip
                        have hw := hw.2 k140
                        refine lv_iconst (v := 1) hx hb dL_law_579 (by decide) ?_
                        refine lv_goto (tgt := 584) hx hb dL_law_580 (by decide) ?_
                        exact W.widen (Nat.add_le_add_left (Nat.le_of_ble_eq_true rfl) _) (Nat.add_le_add_left (Nat.le_of_ble_eq_true rfl) _) (hw _ _ ls hP hD hS (lv_sub hl [2, 3, 4, 5, 7, 8, 9, 10] rfl))
                · skip
                  intro s0_131 σ131 hw H locs ls hP hD hS hl
                  refine k_iand (v := i4_5 &&& s0_131) hx hb dL_law_584 rfl ?_
                  obtain ⟨v141, ev141⟩ : ∃ z : Int32, z = i4_5 &&& s0_131 := ⟨_, rfl⟩
                  have hw := hw v141 ev141
                  refine lv_istore (lv' := [(4, .int v141), (0, .ref g.2.2.2.1), (1, .ref (ad 0)), (2, .int i2_5), (3, .int v2), (5, .int i5_5), (6, .int i6_5), (7, .int i7_5), (8, .int i8_5)]) hx hb dL_law_585 hl (by decide) (by subst ev141; rfl) (fun ls hl => ?_)
                  exact W.widen (Nat.add_le_add_left (Nat.le_of_ble_eq_true rfl) _) (Nat.add_le_add_left (Nat.le_of_ble_eq_true rfl) _) (hw _ _ ls hP hD hS (lv_sub hl [1, 2, 3, 4, 0, 5, 6, 7, 8] rfl))
            · skip
              intro j4_19 j5_19 j6_19 j7_19 σ19 hw H locs ls hP hD hS hl
              refine (fun hw => ?_) (hw (fun (s0_142 : Int32) (σ142 : Sg) => ∀ (H : Heap) (locs : List Loc) (ls : Array Slot), va_P D vwCl (WL ad cA σ142) H → va_D A (WL ad cA σ142) → va_S A s.heap H locs → lv_has ls 12 [(0, .ref g.2.2.2.1), (1, .ref (ad 0)), (2, .int i2_5), (3, .int v2), (5, .int j5_19), (6, .int j6_19), (7, .int j7_19), (8, .int i8_5)] → W p l e room_1 s m args below meth c H locs (cl5 + 209) (sl5 + 1252) (lw_Z below args s) (F0 m 643 ls [.int s0_142])) ?_)
              · skip
                refine lv_iload hx hb dL_law_587 (lv_at hl 4 rfl) ?_
                refine lv_if_eq (tgt := 642) hx hb dL_law_589 (by decide) (fun k143 => ?_) (fun k143 => ?_)
                · skip
                  have hw := hw.1 k143
                  refine lv_iconst (v := 0) hx hb dL_law_642 (by decide) ?_
                  exact W.widen (Nat.add_le_add_left (Nat.le_of_ble_eq_true rfl) _) (Nat.add_le_add_left (Nat.le_of_ble_eq_true rfl) _) (hw _ _ ls hP hD hS (lv_sub hl [0, 1, 2, 3, 5, 6, 7, 8] rfl))
                · skip
                  have hw := hw.2 k143
                  refine lv_aload_n hx hb dL_law_592 rfl (lv_at hl 1 rfl) ?_
                  refine lv_iload_n hx hb dL_law_593 rfl (lv_at hl 3 rfl) ?_
                  refine lv_iload hx hb dL_law_594 (lv_at hl 5 rfl) ?_
                  refine mc_S hSF hl.1 hP hD hS hA hK hGV (m_L_isFrame l hfl D ad cA g v2 j5_19 σ19 _ hw) goS_L_164 pd_L_isFrame.2 ⟨(Nat.le_of_ble_eq_true rfl), (Nat.le_of_ble_eq_true rfl)⟩ ⟨(show cl5 + 54 ≤ 600397 by omega), (show sl5 + 324 ≤ 7293062 by omega)⟩ dL_law_596 rfl (Nat.le_of_ble_eq_true rfl) (fun v9 σ145 H locs hq hP hD hS => ?_) (fun _ _ _ _ _ _ h => h.elim)
                  obtain ⟨r144, hv9, hw⟩ := hq
                  subst hv9
                  refine W.eq (g2 := F0 m 599 ls [.int r144]) rfl ?_
                  refine W.widen (k := cl5 + 54) (n := sl5 + 324) (Nat.le_refl _) (Nat.le_refl _) ?_
                  refine lv_if_eq (tgt := 642) hx hb dL_law_599 (by decide) (fun k146 => ?_) (fun k146 => ?_)
                  · skip
                    have hw := hw.1 k146
                    refine lv_iconst (v := 0) hx hb dL_law_642 (by decide) ?_
                    exact W.widen (Nat.add_le_add_left (Nat.le_of_ble_eq_true rfl) _) (Nat.add_le_add_left (Nat.le_of_ble_eq_true rfl) _) (hw _ _ ls hP hD hS (lv_sub hl [0, 1, 2, 3, 5, 6, 7, 8] rfl))
                  · skip
                    have hw := hw.2 k146
                    refine lv_aload_n hx hb dL_law_602 rfl (lv_at hl 1 rfl) ?_
                    refine lv_iload hx hb dL_law_603 (lv_at hl 6 rfl) ?_
                    refine mc_S hSF hl.1 hP hD hS hA hK hGV (m_L_areJoints l hfl D ad cA g j6_19 σ145 _ hw) goS_L_168 pd_L_areJoints.2 ⟨(Nat.le_of_ble_eq_true rfl), (Nat.le_of_ble_eq_true rfl)⟩ ⟨(show cl5 + 120 ≤ 600397 by omega), (show sl5 + 720 ≤ 7293062 by omega)⟩ dL_law_605 rfl (Nat.le_of_ble_eq_true rfl) (fun v9 σ9 H locs hq hP hD hS => ?_) (fun _ _ _ _ _ _ h => h.elim)
                    obtain ⟨r147, hv9, hs9, hw⟩ := hq
                    subst hv9
                    subst σ9
                    refine W.eq (g2 := F0 m 608 ls [.int r147]) rfl ?_
                    refine W.widen (k := cl5 + 120) (n := sl5 + 720) (Nat.le_refl _) (Nat.le_refl _) ?_
                    refine lv_if_eq (tgt := 642) hx hb dL_law_608 (by decide) (fun k148 => ?_) (fun k148 => ?_)
                    · skip
                      have hw := hw.1 k148
                      refine lv_iconst (v := 0) hx hb dL_law_642 (by decide) ?_
                      exact W.widen (Nat.add_le_add_left (Nat.le_of_ble_eq_true rfl) _) (Nat.add_le_add_left (Nat.le_of_ble_eq_true rfl) _) (hw _ _ ls hP hD hS (lv_sub hl [0, 1, 2, 3, 5, 6, 7, 8] rfl))
                    · skip
                      have hw := hw.2 k148
                      refine lv_aload_n hx hb dL_law_611 rfl (lv_at hl 1 rfl) ?_
                      refine lv_iload hx hb dL_law_612 (lv_at hl 5 rfl) ?_
                      refine lv_iload hx hb dL_law_614 (lv_at hl 7 rfl) ?_
                      refine mc_S hSF hl.1 hP hD hS hA hK hGV (m_L_isYard l hfl D ad cA g j5_19 j7_19 σ145 _ hw) goS_L_172 pd_L_isYard.2 ⟨(Nat.le_of_ble_eq_true rfl), (Nat.le_of_ble_eq_true rfl)⟩ ⟨(show cl5 + 177 ≤ 600397 by omega), (show sl5 + 1060 ≤ 7293062 by omega)⟩ dL_law_616 rfl (Nat.le_of_ble_eq_true rfl) (fun v9 σ150 H locs hq hP hD hS => ?_) (fun _ _ _ _ _ _ h => h.elim)
                      obtain ⟨r149, hv9, hw⟩ := hq
                      subst hv9
                      refine W.eq (g2 := F0 m 619 ls [.int r149]) rfl ?_
                      refine W.widen (k := cl5 + 177) (n := sl5 + 1060) (Nat.le_refl _) (Nat.le_refl _) ?_
                      refine lv_if_eq (tgt := 642) hx hb dL_law_619 (by decide) (fun k151 => ?_) (fun k151 => ?_)
                      · skip
                        have hw := hw.1 k151
                        refine lv_iconst (v := 0) hx hb dL_law_642 (by decide) ?_
                        exact W.widen (Nat.add_le_add_left (Nat.le_of_ble_eq_true rfl) _) (Nat.add_le_add_left (Nat.le_of_ble_eq_true rfl) _) (hw _ _ ls hP hD hS (lv_sub hl [0, 1, 2, 3, 5, 6, 7, 8] rfl))
                      · skip
                        have hw := hw.2 k151
                        refine lv_aload_n hx hb dL_law_622 rfl (lv_at hl 1 rfl) ?_
                        refine lv_iload hx hb dL_law_623 (lv_at hl 5 rfl) ?_
                        refine mc_S hSF hl.1 hP hD hS hA hK hGV (m_L_isRaising l hfl D ad cA g j5_19 σ150 _ hw) goS_L_175 pd_L_isRaising.2 ⟨(Nat.le_of_ble_eq_true rfl), (Nat.le_of_ble_eq_true rfl)⟩ ⟨(show cl5 + 209 ≤ 600397 by omega), (show sl5 + 1252 ≤ 7293062 by omega)⟩ dL_law_625 rfl (Nat.le_of_ble_eq_true rfl) (fun v9 σ153 H locs hq hP hD hS => ?_) (fun _ _ _ _ _ _ h => h.elim)
                        obtain ⟨r152, hv9, hw⟩ := hq
                        subst hv9
                        refine W.eq (g2 := F0 m 628 ls [.int r152]) rfl ?_
                        refine W.widen (k := cl5 + 209) (n := sl5 + 1252) (Nat.le_refl _) (Nat.le_refl _) ?_
                        refine lv_if_eq (tgt := 642) hx hb dL_law_628 (by decide) (fun k154 => ?_) (fun k154 => ?_)
                        · skip
                          have hw := hw.1 k154
                          refine lv_iconst (v := 0) hx hb dL_law_642 (by decide) ?_
                          exact W.widen (Nat.add_le_add_left (Nat.le_of_ble_eq_true rfl) _) (Nat.add_le_add_left (Nat.le_of_ble_eq_true rfl) _) (hw _ _ ls hP hD hS (lv_sub hl [0, 1, 2, 3, 5, 6, 7, 8] rfl))
                        · skip
                          have hw := hw.2 k154
                          refine lv_aload_n hx hb dL_law_631 rfl (lv_at hl 1 rfl) ?_
                          refine mc_V hSF hl.1 hP hD hS hA hK hGV (m_X6_isSound l hfl D ad cA g  σ153 _ hw) goV_L_178 pd_X6_isSound ⟨(Nat.le_of_ble_eq_true rfl), (Nat.le_of_ble_eq_true rfl)⟩ ⟨(show cl5 + 209 ≤ 600397 by omega), (show sl5 + 1252 ≤ 7293062 by omega)⟩ (va_recv hK hP (ci := 8) (q0 := 0) rfl wl_0) dL_law_632 rfl (Nat.le_of_ble_eq_true rfl) (fun v9 σ156 H locs hq hP hD hS => ?_) (fun _ _ _ _ _ _ h => h.elim)
                          obtain ⟨r155, hv9, hw⟩ := hq
                          subst hv9
                          refine W.eq (g2 := F0 m 635 ls [.int r155]) rfl ?_
                          refine W.widen (k := cl5 + 209) (n := sl5 + 1252) (Nat.le_refl _) (Nat.le_refl _) ?_
                          refine lv_if_eq (tgt := 642) hx hb dL_law_635 (by decide) (fun k157 => ?_) (fun k157 => ?_)
                          · skip
                            have hw := hw.1 k157
                            refine lv_iconst (v := 0) hx hb dL_law_642 (by decide) ?_
                            exact W.widen (Nat.add_le_add_left (Nat.le_of_ble_eq_true rfl) _) (Nat.add_le_add_left (Nat.le_of_ble_eq_true rfl) _) (hw _ _ ls hP hD hS (lv_sub hl [0, 1, 2, 3, 5, 6, 7, 8] rfl))
                          · skip
                            have hw := hw.2 k157
                            refine lv_iconst (v := 1) hx hb dL_law_638 (by decide) ?_
                            refine lv_goto (tgt := 643) hx hb dL_law_639 (by decide) ?_
                            exact W.widen (Nat.add_le_add_left (Nat.le_of_ble_eq_true rfl) _) (Nat.add_le_add_left (Nat.le_of_ble_eq_true rfl) _) (hw _ _ ls hP hD hS (lv_sub hl [0, 1, 2, 3, 5, 6, 7, 8] rfl))
              · skip
                intro s0_142 σ142 hw H locs ls hP hD hS hl
                refine lv_istore (lv' := [(4, .int s0_142), (0, .ref g.2.2.2.1), (1, .ref (ad 0)), (2, .int i2_5), (3, .int v2), (5, .int j5_19), (6, .int j6_19), (7, .int j7_19), (8, .int i8_5)]) hx hb dL_law_643 hl (by decide) rfl (fun ls hl => ?_)
                refine lv_iinc (v := i2_5 + 4) (lv' := [(2, .int (i2_5 + 4)), (4, .int s0_142), (0, .ref g.2.2.2.1), (1, .ref (ad 0)), (3, .int v2), (5, .int j5_19), (6, .int j6_19), (7, .int j7_19), (8, .int i8_5)]) hx hb dL_law_645 hl (k := 3) rfl rfl (by decide) rfl (fun ls hl => ?_)
                refine lv_iinc (v := i8_5 + 1) (lv' := [(8, .int (i8_5 + 1)), (2, .int (i2_5 + 4)), (4, .int s0_142), (0, .ref g.2.2.2.1), (1, .ref (ad 0)), (3, .int v2), (5, .int j5_19), (6, .int j6_19), (7, .int j7_19)]) hx hb dL_law_648 hl (k := 8) rfl rfl (by decide) rfl (fun ls hl => ?_)
                refine lv_goto (tgt := 125) hx hb dL_law_651 (by decide) ?_
                exact ih5 (i2_5 + 4) s0_142 j5_19 j6_19 j7_19 (i8_5 + 1) σ142 (Nat.lt_of_lt_of_le hw.2 (Nat.le_of_lt_succ hm5)) hw.1 (cl5 + 209) (sl5 + 1252) (by have := hw.2; omega) (by have := hw.2; omega) (by have := hw.2; omega) _ _ ls hP hD hS (lv_sub hl [3, 4, 1, 5, 2, 6, 7, 8, 0] rfl)
    · skip
      have hw := hw.2 k4
      refine lv_iload hx hb dL_law_31 (lv_at hl 4 rfl) ?_
      refine lv_aload_n hx hb dL_law_33 rfl (lv_at hl 1 rfl) ?_
      refine lv_iconst (v := 5) hx hb dL_law_34 (by decide) ?_
      refine lv_iload hx hb dL_law_35 (lv_at hl 5 rfl) ?_
      refine k_imul (v := 5 * i5_3) hx hb dL_law_37 rfl ?_
      refine lv_aload_n hx hb dL_law_38 rfl (lv_at hl 0 rfl) ?_
      refine lv_iload_n hx hb dL_law_39 rfl (lv_at hl 2 rfl) ?_
      refine lv_iconst (v := 1) hx hb dL_law_40 (by decide) ?_
      refine k_iadd (v := i2_3 + 1) hx hb dL_law_41 rfl ?_
      refine lv_iconst (v := 5) hx hb dL_law_42 (by decide) ?_
      refine mc_S hSF hl.1 hP hD hS hA hK hGV (m_L_pick l hfl D ad cA g (i2_3 + 1) 5 σ3 _ hw) goS_L_128 pd_L_pick.2 ⟨(Nat.le_of_ble_eq_true rfl), (Nat.le_of_ble_eq_true rfl)⟩ ⟨(show cl3 + 0 ≤ 600397 by omega), (show sl3 + 0 ≤ 7293062 by omega)⟩ dL_law_43 rfl (Nat.le_of_ble_eq_true rfl) (fun v9 σ9 H locs hq hP hD hS => ?_) (fun _ _ _ _ _ _ h => h.elim)
      obtain ⟨r158, hv9, hs9, hw⟩ := hq
      subst hv9
      subst σ9
      refine W.eq (g2 := F0 m 46 ls [.int r158, .int (5 * i5_3), .ref (ad 0), .int i4_3]) rfl ?_
      refine W.widen (k := cl3 + 0) (n := sl3 + 0) (Nat.le_refl _) (Nat.le_refl _) ?_
      refine k_iadd (v := (5 * i5_3) + r158) hx hb dL_law_46 rfl ?_
      refine lv_aload_n hx hb dL_law_47 rfl (lv_at hl 0 rfl) ?_
      refine lv_iload_n hx hb dL_law_48 rfl (lv_at hl 2 rfl) ?_
      refine lv_iconst (v := 2) hx hb dL_law_49 (by decide) ?_
      refine k_iadd (v := i2_3 + 2) hx hb dL_law_50 rfl ?_
      refine lv_bipush (v := 12) hx hb dL_law_51 (by decide) ?_
      refine mc_S hSF hl.1 hP hD hS hA hK hGV (m_L_pick l hfl D ad cA g (i2_3 + 2) 12 σ3 _ hw) goS_L_128 pd_L_pick.2 ⟨(Nat.le_of_ble_eq_true rfl), (Nat.le_of_ble_eq_true rfl)⟩ ⟨(show cl3 + 0 ≤ 600397 by omega), (show sl3 + 0 ≤ 7293062 by omega)⟩ dL_law_53 rfl (Nat.le_of_ble_eq_true rfl) (fun v9 σ9 H locs hq hP hD hS => ?_) (fun _ _ _ _ _ _ h => h.elim)
      obtain ⟨r159, hv9, hs9, hw⟩ := hq
      subst hv9
      subst σ9
      refine W.eq (g2 := F0 m 56 ls [.int r159, .int ((5 * i5_3) + r158), .ref (ad 0), .int i4_3]) rfl ?_
      refine W.widen (k := cl3 + 0) (n := sl3 + 0) (Nat.le_refl _) (Nat.le_refl _) ?_
      refine (fun hw => ?_) (hw (fun (s0_160 : Int32) => ∀ (H : Heap) (locs : List Loc) (ls : Array Slot), va_P D vwCl (WL ad cA σ3) H → va_D A (WL ad cA σ3) → va_S A s.heap H locs → lv_has ls 12 [(0, .ref g.2.2.2.1), (1, .ref (ad 0)), (2, .int i2_3), (3, .int v2), (5, .int i5_3)] → W p l e room_1 s m args below meth c H locs (cl3 + 0) (sl3 + 0) (lw_Z below args s) (F0 m 88 ls [.int s0_160, .int r159, .int ((5 * i5_3) + r158), .ref (ad 0), .int i4_3])) ?_)
      · skip
        refine lv_iload hx hb dL_law_56 (lv_at hl 5 rfl) ?_
        refine lv_if_ne (tgt := 66) hx hb dL_law_58 (by decide) (fun k161 => ?_) (fun k161 => ?_)
        · skip
          have hw := hw.1 k161
          refine lv_iload hx hb dL_law_66 (lv_at hl 5 rfl) ?_
          refine lv_iconst (v := 1) hx hb dL_law_68 (by decide) ?_
          refine lv_icmp_ne (tgt := 77) hx hb dL_law_69 (by decide) (fun k162 => ?_) (fun k162 => ?_)
          · skip
            have hw := hw.1 k162
            refine k_ldcS hx hb hGV 27 rfl hown dL_law_77 ?_
            refine lv_aload_n hx hb dL_law_79 rfl (lv_at hl 0 rfl) ?_
            refine lv_iload_n hx hb dL_law_80 rfl (lv_at hl 2 rfl) ?_
            refine lv_iconst (v := 3) hx hb dL_law_81 (by decide) ?_
            refine mc_S hSF hl.1 hP hD hS hA hK hGV (m_L_pick l hfl D ad cA g i2_3 3 σ3 _ hw) goS_L_128 pd_L_pick.2 ⟨(Nat.le_of_ble_eq_true rfl), (Nat.le_of_ble_eq_true rfl)⟩ ⟨(show cl3 + 0 ≤ 600397 by omega), (show sl3 + 0 ≤ 7293062 by omega)⟩ dL_law_82 rfl (Nat.le_of_ble_eq_true rfl) (fun v9 σ9 H locs hq hP hD hS => ?_) (fun _ _ _ _ _ _ h => h.elim)
            obtain ⟨r163, hv9, hs9, hw⟩ := hq
            subst hv9
            subst σ9
            refine W.eq (g2 := F0 m 85 ls [.int r163, .ref (g.1 27), .int r159, .int ((5 * i5_3) + r158), .ref (ad 0), .int i4_3]) rfl ?_
            refine W.widen (k := cl3 + 0) (n := sl3 + 0) (Nat.le_refl _) (Nat.le_refl _) ?_
            refine mc_V hSF hl.1 hP hD hS hA hK hGV (m_J0_charAt_5068e_S27 l hfl D ad cA g r163 σ3 _ hw) goV_L_134 pd_J0_charAt_5068e ⟨(Nat.le_of_ble_eq_true rfl), (Nat.le_of_ble_eq_true rfl)⟩ ⟨(show cl3 + 0 ≤ 600397 by omega), (show sl3 + 0 ≤ 7293062 by omega)⟩ (k_srecv (x9 := (27, 3, [45, 45, 112])) hGV (by decide) hS) dL_law_85 rfl (Nat.le_of_ble_eq_true rfl) (fun v9 σ9 H locs hq hP hD hS => ?_) (fun _ _ _ _ _ _ h => h.elim)
            obtain ⟨r164, hv9, hs9, hw⟩ := hq
            subst hv9
            subst σ9
            refine W.eq (g2 := F0 m 88 ls [.int r164, .int r159, .int ((5 * i5_3) + r158), .ref (ad 0), .int i4_3]) rfl ?_
            refine W.widen (k := cl3 + 0) (n := sl3 + 0) (Nat.le_refl _) (Nat.le_refl _) ?_
            exact W.widen (Nat.add_le_add_left (Nat.le_of_ble_eq_true rfl) _) (Nat.add_le_add_left (Nat.le_of_ble_eq_true rfl) _) (hw _ _ ls hP hD hS (lv_sub hl [0, 1, 2, 3, 5] rfl))
          · skip
            have hw := hw.2 k162
            refine lv_bipush (v := 114) hx hb dL_law_72 (by decide) ?_
            refine lv_goto (tgt := 88) hx hb dL_law_74 (by decide) ?_
            exact W.widen (Nat.add_le_add_left (Nat.le_of_ble_eq_true rfl) _) (Nat.add_le_add_left (Nat.le_of_ble_eq_true rfl) _) (hw _ _ ls hP hD hS (lv_sub hl [0, 1, 2, 3, 5] rfl))
        · skip
          have hw := hw.2 k161
          refine lv_bipush (v := 112) hx hb dL_law_61 (by decide) ?_
          refine lv_goto (tgt := 88) hx hb dL_law_63 (by decide) ?_
          exact W.widen (Nat.add_le_add_left (Nat.le_of_ble_eq_true rfl) _) (Nat.add_le_add_left (Nat.le_of_ble_eq_true rfl) _) (hw _ _ ls hP hD hS (lv_sub hl [0, 1, 2, 3, 5] rfl))
      · skip
        intro s0_160 hw H locs ls hP hD hS hl
        refine mc_SW hSF hl.1 hP hD hS hA hK hGV (m_L_node l hfl D ad cA g ((5 * i5_3) + r158) r159 s0_160 σ3 _ hw) goW_L_140 pd_L_node.2 ⟨(Nat.le_of_ble_eq_true rfl), (Nat.le_of_ble_eq_true rfl)⟩ ⟨(show cl3 + 1 ≤ 600397 by omega), (show sl3 + 6 ≤ 7293062 by omega)⟩ dL_law_88 rfl (Nat.le_of_ble_eq_true rfl) (fun v9 σ166 H locs hq hP hD hS => ?_)
        obtain ⟨r165, hv9, hw⟩ := hq
        subst hv9
        refine W.eq (g2 := F0 m 91 ls [.int r165, .int i4_3]) rfl ?_
        refine W.widen (k := cl3 + 1) (n := sl3 + 6) (Nat.le_refl _) (Nat.le_refl _) ?_
        refine (fun hw => ?_) (hw (fun (s0_167 : Int32) => ∀ (H : Heap) (locs : List Loc) (ls : Array Slot), va_P D vwCl (WL ad cA σ166) H → va_D A (WL ad cA σ166) → va_S A s.heap H locs → lv_has ls 12 [(0, .ref g.2.2.2.1), (1, .ref (ad 0)), (2, .int i2_3), (3, .int v2), (5, .int i5_3)] → W p l e room_1 s m args below meth c H locs (cl3 + 1) (sl3 + 6) (lw_Z below args s) (F0 m 101 ls [.int s0_167, .int i4_3])) ?_)
        · skip
          refine lv_iload hx hb dL_law_91 (lv_at hl 4 rfl) ?_
          refine lv_icmp_ne (tgt := 100) hx hb dL_law_93 (by decide) (fun k168 => ?_) (fun k168 => ?_)
          · skip
            have hw := hw.1 k168
            refine lv_iconst (v := 0) hx hb dL_law_100 (by decide) ?_
            exact W.widen (Nat.add_le_add_left (Nat.le_of_ble_eq_true rfl) _) (Nat.add_le_add_left (Nat.le_of_ble_eq_true rfl) _) (hw _ _ ls hP hD hS (lv_sub hl [0, 1, 2, 3, 4] rfl))
          · skip
            have hw := hw.2 k168
            refine lv_iconst (v := 1) hx hb dL_law_96 (by decide) ?_
            refine lv_goto (tgt := 101) hx hb dL_law_97 (by decide) ?_
            exact W.widen (Nat.add_le_add_left (Nat.le_of_ble_eq_true rfl) _) (Nat.add_le_add_left (Nat.le_of_ble_eq_true rfl) _) (hw _ _ ls hP hD hS (lv_sub hl [0, 1, 2, 3, 4] rfl))
        · skip
          intro s0_167 hw H locs ls hP hD hS hl
          refine k_iand (v := i4_3 &&& s0_167) hx hb dL_law_101 rfl ?_
          obtain ⟨v169, ev169⟩ : ∃ z : Int32, z = i4_3 &&& s0_167 := ⟨_, rfl⟩
          have hw := hw v169 ev169
          refine lv_istore (lv' := [(4, .int v169), (0, .ref g.2.2.2.1), (1, .ref (ad 0)), (2, .int i2_3), (3, .int v2), (5, .int i5_3)]) hx hb dL_law_102 hl (by decide) (by subst ev169; rfl) (fun ls hl => ?_)
          refine lv_iinc (v := i2_3 + 3) (lv' := [(2, .int (i2_3 + 3)), (4, .int v169), (0, .ref g.2.2.2.1), (1, .ref (ad 0)), (3, .int v2), (5, .int i5_3)]) hx hb dL_law_104 hl (k := 3) rfl rfl (by decide) rfl (fun ls hl => ?_)
          refine lv_iinc (v := i5_3 + 1) (lv' := [(5, .int (i5_3 + 1)), (2, .int (i2_3 + 3)), (4, .int v169), (0, .ref g.2.2.2.1), (1, .ref (ad 0)), (3, .int v2)]) hx hb dL_law_107 hl (k := 5) rfl rfl (by decide) rfl (fun ls hl => ?_)
          refine lv_goto (tgt := 25) hx hb dL_law_110 (by decide) ?_
          exact ih3 (i2_3 + 3) v169 (i5_3 + 1) σ166 (Nat.lt_of_lt_of_le hw.2 (Nat.le_of_lt_succ hm3)) hw.1 (cl3 + 1) (sl3 + 6) (by have := hw.2; omega) (by have := hw.2; omega) (by have := hw.2; omega) _ _ ls hP hD hS (lv_sub hl [3, 4, 1, 5, 2, 0] rfl)

