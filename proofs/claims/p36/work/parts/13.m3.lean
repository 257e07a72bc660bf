set_option maxHeartbeats 4000000 in
set_option maxRecDepth 100000 in
theorem m_X4_findOrder (l : Launch) (hfl : l.stackTraces = false) (D : va_G) (ad : Nat → Nat) (cA : Nat → ClassId) (g : gv_T) (p1 : Int32) (σ : Sg) (Q : Sg → Prop) (hw : w_X4_findOrder p1 σ Q) : MC l yX4_findOrder cX4_findOrder 5 none (RM 3 0 0 69) D ad cA g [.ref (ad 46), .int p1] σ (fun v σ' => v = none ∧ Q σ') (fun _ _ => False) := by
  refine MC.of (plainFor_of_name (by decide +kernel)) (Nat.le_of_ble_eq_true rfl) ?_
  intro p e s m args below meth c A ls hx hb hr hml hown hG hlocks htab hA hS hP hK hD hGV hl
  have hown : s.vm.findClass RX4 = some m.cls := hown
  have hl : lv_has ls 5 [(0, .ref (ad 46)), (1, .int p1)] := hl
  have hSF : CF p m c cX4_findOrder 5 s args RX4 := ⟨hx, hb, hml, hown, hG⟩
  refine lv_iconst (v := 0) hx hb dX4_findOrder_0 (by decide) ?_
  refine lv_istore_n (lv' := [(2, .int 0), (0, .ref (ad 46)), (1, .int p1)]) hx hb dX4_findOrder_1 rfl hl (by decide) rfl (fun ls hl => ?_)
  refine lv_iconst (v := 0) hx hb dX4_findOrder_2 (by decide) ?_
  refine lv_istore_n (lv' := [(3, .int 0), (2, .int 0), (0, .ref (ad 46)), (1, .int p1)]) hx hb dX4_findOrder_3 rfl hl (by decide) rfl (fun ls hl => ?_)
  obtain ⟨I1, μ1, hI1, hw1⟩ := hw
  have hl : lv_has ls 5 [(0, .ref (ad 46)), (1, .int p1), (2, .int 0), (3, .int 0)] := lv_sub hl [2, 3, 1, 0] rfl
  suffices key1 : ∀ (n1 : Nat) (i2_1 : Int32) (i3_1 : Int32) (σ1 : Sg), μ1 i2_1 i3_1 σ1 < n1 → I1 i2_1 i3_1 σ1 → ∀ (H : Heap) (locs : List Loc) (ls : Array Slot), va_P D vwCl (WL ad cA σ1) H → va_D A (WL ad cA σ1) → va_S A s.heap H locs → lv_has ls 5 [(0, .ref (ad 46)), (1, .int p1), (2, .int i2_1), (3, .int i3_1)] → W p l e (RM 3 0 0 69) s m args below meth c H locs (0) (0) (vx_MQ below (QM D ad cA A (fun v σ' => v = none ∧ Q σ')) (XM D ad cA A (fun _ _ => False)) args s (RM 3 0 0 69).cells (RM 3 0 0 69).slots A) (F0 m 4 ls []) from key1 _ _ _ _ (Nat.lt_succ_self _) hI1 _ _ ls hP hD hS hl
  clear hP hD hS hl
  intro n1
  induction n1 with
  | zero => intro _ _ _ h; exact absurd h (Nat.not_lt_zero _)
  | succ n1 ih1 =>
    intro i2_1 i3_1 σ1 hm1 hI1 H locs ls hP hD hS hl
    have hw := hw1 i2_1 i3_1 σ1 hI1
    refine lv_iload_n hx hb dX4_findOrder_4 rfl (lv_at hl 3 rfl) ?_
    refine lv_iload_n hx hb dX4_findOrder_5 rfl (lv_at hl 1 rfl) ?_
    refine lv_icmp_ge (tgt := 44) hx hb dX4_findOrder_6 (by decide) (fun k2 => ?_) (fun k2 => ?_)
    · skip
      have hw := hw.1 k2
      exact vx_ret (m_v ⟨rfl, hw⟩ hx hb hr hlocks hP hD hS (Nat.le_of_ble_eq_true rfl) (Nat.le_of_ble_eq_true rfl) dX4_findOrder_44)
    · skip
      have hw := hw.2 k2
      refine lv_aload_n hx hb dX4_findOrder_9 rfl (lv_at hl 0 rfl) ?_
      refine lv_iload_n hx hb dX4_findOrder_10 rfl (lv_at hl 2 rfl) ?_
      refine lv_iload_n hx hb dX4_findOrder_11 rfl (lv_at hl 1 rfl) ?_
      refine mc_V hSF hl.1 hP hD hS hA hK hGV (m_X4_firstThatLeads l hfl D ad cA g i2_1 p1 σ1 _ hw) goV_X4_90 pd_X4_firstThatLeads ⟨(Nat.le_of_ble_eq_true rfl), (Nat.le_of_ble_eq_true rfl)⟩ ⟨(Nat.le_of_ble_eq_true rfl), (Nat.le_of_ble_eq_true rfl)⟩ (va_recv hK hP (ci := 6) (q0 := 46) rfl wl_46) dX4_findOrder_12 rfl (Nat.le_of_ble_eq_true rfl) (fun v9 σ9 H locs hq hP hD hS => ?_) (fun _ _ _ _ _ _ h => h.elim)
      obtain ⟨r3, hv9, hs9, hw⟩ := hq
      subst hv9
      subst σ9
      refine W.eq (g2 := F0 m 15 ls [.int r3]) rfl ?_
      refine W.widen (k := 0) (n := 0) (Nat.le_refl _) (Nat.le_refl _) ?_
      refine lv_istore (lv' := [(4, .int r3), (0, .ref (ad 46)), (1, .int p1), (2, .int i2_1), (3, .int i3_1)]) hx hb dX4_findOrder_15 hl (by decide) rfl (fun ls hl => ?_)
      refine lv_iload hx hb dX4_findOrder_17 (lv_at hl 0 rfl) ?_
      refine lv_if_ge (tgt := 23) hx hb dX4_findOrder_19 (by decide) (fun k4 => ?_) (fun k4 => ?_)
      · skip
        have hw := hw.1 k4
        refine lv_aload_n hx hb dX4_findOrder_23 rfl (lv_at hl 1 rfl) ?_
        refine k_get (ci := 6) (C := RX4) (T := TX4) (N := 9) (v := .ref (ad 51)) hx hb hG inX4 hown hK hP 46 wl_46 rfl 8 (by decide) gw283 rfl dX4_findOrder_24 ?_
        refine lv_iload_n hx hb dX4_findOrder_27 rfl (lv_at hl 4 rfl) ?_
        refine lv_iload hx hb dX4_findOrder_28 (lv_at hl 0 rfl) ?_
        obtain ⟨hc5, hw⟩ := hw
        obtain ⟨σ6, eσ6⟩ : ∃ z : Sg, z = sA σ1 28 (ix i3_1) r3 := ⟨_, rfl⟩
        have hw := hw σ6 eσ6
        refine k_iast (ws1 := WL ad cA σ6) hx hb hK hP hD hS 51 wl_51 (ws_51 eσ6) hc5 dX4_findOrder_30 (fun H locs hP hD hS => ?_)
        refine lv_iload_n hx hb dX4_findOrder_31 rfl (lv_at hl 3 rfl) ?_
        refine lv_iconst (v := 1) hx hb dX4_findOrder_32 (by decide) ?_
        refine lv_iload hx hb dX4_findOrder_33 (lv_at hl 0 rfl) ?_
        refine k_ishl (v := iShl 1 r3) hx hb dX4_findOrder_35 rfl ?_
        refine k_ior (v := i2_1 ||| (iShl 1 r3)) hx hb dX4_findOrder_36 rfl ?_
        obtain ⟨v7, ev7⟩ : ∃ z : Int32, z = i2_1 ||| (iShl 1 r3) := ⟨_, rfl⟩
        have hw := hw v7 ev7
        refine lv_istore_n (lv' := [(2, .int v7), (4, .int r3), (0, .ref (ad 46)), (1, .int p1), (3, .int i3_1)]) hx hb dX4_findOrder_37 rfl hl (by decide) (by subst ev7; rfl) (fun ls hl => ?_)
        refine lv_iinc (v := i3_1 + 1) (lv' := [(3, .int (i3_1 + 1)), (2, .int v7), (4, .int r3), (0, .ref (ad 46)), (1, .int p1)]) hx hb dX4_findOrder_38 hl (k := 4) rfl rfl (by decide) rfl (fun ls hl => ?_)
        refine lv_goto (tgt := 4) hx hb dX4_findOrder_41 (by decide) ?_
        exact ih1 v7 (i3_1 + 1) σ6 (Nat.lt_of_lt_of_le hw.2 (Nat.le_of_lt_succ hm1)) hw.1 _ _ ls hP hD hS (lv_sub hl [3, 4, 1, 0] rfl)
      · skip
        have hw := hw.2 k4
        exact vx_ret (m_v ⟨rfl, hw⟩ hx hb hr hlocks hP hD hS (Nat.le_of_ble_eq_true rfl) (Nat.le_of_ble_eq_true rfl) dX4_findOrder_22)

set_option maxHeartbeats 4000000 in
set_option maxRecDepth 100000 in
theorem m_X4_find (l : Launch) (hfl : l.stackTraces = false) (D : va_G) (ad : Nat → Nat) (cA : Nat → ClassId) (g : gv_T) (σ : Sg) (Q : Sg → Prop) (hw : w_X4_find  σ Q) : MC l yX4_find cX4_find 3 none (RM 4 0 0 93) D ad cA g [.ref (ad 46), .ref (ad 1), .ref (ad 32)] σ (fun v σ' => v = none ∧ Q σ') (fun _ _ => False) := by
  refine MC.of (plainFor_of_name (by decide +kernel)) (Nat.le_of_ble_eq_true rfl) ?_
  intro p e s m args below meth c A ls hx hb hr hml hown hG hlocks htab hA hS hP hK hD hGV hl
  have hown : s.vm.findClass RX4 = some m.cls := hown
  have hl : lv_has ls 3 [(0, .ref (ad 46)), (1, .ref (ad 1)), (2, .ref (ad 32))] := hl
  have hSF : CF p m c cX4_find 3 s args RX4 := ⟨hx, hb, hml, hown, hG⟩
  refine lv_aload_n hx hb dX4_find_0 rfl (lv_at hl 0 rfl) ?_
  refine k_get (ci := 6) (C := RX4) (T := TX4) (N := 9) (v := .int (gI σ 10)) hx hb hG inX4 hown hK hP 46 wl_46 rfl 1 (by decide) gw274 rfl dX4_find_1 ?_
  refine lv_if_eq (tgt := 8) hx hb dX4_find_4 (by decide) (fun k1 => ?_) (fun k1 => ?_)
  · skip
    have hw := hw.1 k1
    refine lv_aload_n hx hb dX4_find_8 rfl (lv_at hl 0 rfl) ?_
    refine lv_iconst (v := 1) hx hb dX4_find_9 (by decide) ?_
    refine lv_aload_n hx hb dX4_find_10 rfl (lv_at hl 1 rfl) ?_
    refine k_get (ci := 4) (C := RX2) (T := TX2) (N := 12) (v := .int (gI σ 1)) hx hb hG inX2 hown hK hP 1 wl_1 rfl 1 (by decide) gw72 rfl dX4_find_11 ?_
    refine k_ishl (v := iShl 1 (gI σ 1)) hx hb dX4_find_14 rfl ?_
    refine lv_iconst (v := 1) hx hb dX4_find_15 (by decide) ?_
    refine k_isub (v := (iShl 1 (gI σ 1)) - 1) hx hb dX4_find_16 rfl ?_
    obtain ⟨σ2, eσ2⟩ : ∃ z : Sg, z = sI σ 11 ((iShl 1 (gI σ 1)) - 1) := ⟨_, rfl⟩
    have hw := hw σ2 eσ2
    refine k_put (ci := 6) (C := RX4) (T := TX4) (N := 9) (v := .int ((iShl 1 (gI σ 1)) - 1)) (ws1 := WL ad cA σ2) hx hb hG inX4 tyX4 tyX4_ok nmX4 hown hK hP hD hS 46 wl_46 rfl 2 (by decide) gw276 rfl ⟨rfl, rfl⟩ (ws_46_2 eσ2) (Nat.le_of_ble_eq_true rfl) dX4_find_17 (fun H locs hP hD hS => ?_)
    refine lv_aload_n hx hb dX4_find_20 rfl (lv_at hl 0 rfl) ?_
    refine lv_aload_n hx hb dX4_find_21 rfl (lv_at hl 1 rfl) ?_
    refine lv_aload_n hx hb dX4_find_22 rfl (lv_at hl 2 rfl) ?_
    refine mc_V hSF hl.1 hP hD hS hA hK hGV (m_X4_gather l hfl D ad cA g  σ2 _ hw) goV_X4_46 pd_X4_gather ⟨(Nat.le_of_ble_eq_true rfl), (Nat.le_of_ble_eq_true rfl)⟩ ⟨(Nat.le_of_ble_eq_true rfl), (Nat.le_of_ble_eq_true rfl)⟩ (va_recv hK hP (ci := 6) (q0 := 46) rfl wl_46) dX4_find_23 rfl (Nat.le_of_ble_eq_true rfl) (fun v9 σ4 H locs hq hP hD hS => ?_) (fun _ _ _ _ _ _ h => h.elim)
    obtain ⟨hv9, hw⟩ := hq
    subst hv9
    refine W.eq (g2 := F0 m 26 ls []) rfl ?_
    refine W.widen (k := 0) (n := 0) (Nat.le_refl _) (Nat.le_refl _) ?_
    refine lv_aload_n hx hb dX4_find_26 rfl (lv_at hl 0 rfl) ?_
    refine lv_aload_n hx hb dX4_find_27 rfl (lv_at hl 1 rfl) ?_
    refine k_get (ci := 4) (C := RX2) (T := TX2) (N := 12) (v := .int (gI σ4 1)) hx hb hG inX2 hown hK hP 1 wl_1 rfl 1 (by decide) gw72 rfl dX4_find_28 ?_
    refine mc_V hSF hl.1 hP hD hS hA hK hGV (m_X4_goForward l hfl D ad cA g (gI σ4 1) σ4 _ hw) goV_X4_50 pd_X4_goForward ⟨(Nat.le_of_ble_eq_true rfl), (Nat.le_of_ble_eq_true rfl)⟩ ⟨(Nat.le_of_ble_eq_true rfl), (Nat.le_of_ble_eq_true rfl)⟩ (va_recv hK hP (ci := 6) (q0 := 46) rfl wl_46) dX4_find_31 rfl (Nat.le_of_ble_eq_true rfl) (fun v9 σ6 H locs hq hP hD hS => ?_) (fun _ _ _ _ _ _ h => h.elim)
    obtain ⟨hv9, hw⟩ := hq
    subst hv9
    refine W.eq (g2 := F0 m 34 ls []) rfl ?_
    refine W.widen (k := 0) (n := 0) (Nat.le_refl _) (Nat.le_refl _) ?_
    refine lv_aload_n hx hb dX4_find_34 rfl (lv_at hl 0 rfl) ?_
    refine lv_aload_n hx hb dX4_find_35 rfl (lv_at hl 1 rfl) ?_
    refine k_get (ci := 4) (C := RX2) (T := TX2) (N := 12) (v := .int (gI σ6 1)) hx hb hG inX2 hown hK hP 1 wl_1 rfl 1 (by decide) gw72 rfl dX4_find_36 ?_
    refine mc_V hSF hl.1 hP hD hS hA hK hGV (m_X4_goBackward l hfl D ad cA g (gI σ6 1) σ6 _ hw) goV_X4_54 pd_X4_goBackward ⟨(Nat.le_of_ble_eq_true rfl), (Nat.le_of_ble_eq_true rfl)⟩ ⟨(Nat.le_of_ble_eq_true rfl), (Nat.le_of_ble_eq_true rfl)⟩ (va_recv hK hP (ci := 6) (q0 := 46) rfl wl_46) dX4_find_39 rfl (Nat.le_of_ble_eq_true rfl) (fun v9 σ8 H locs hq hP hD hS => ?_) (fun _ _ _ _ _ _ h => h.elim)
    obtain ⟨hv9, hw⟩ := hq
    subst hv9
    refine W.eq (g2 := F0 m 42 ls []) rfl ?_
    refine W.widen (k := 0) (n := 0) (Nat.le_refl _) (Nat.le_refl _) ?_
    refine lv_aload_n hx hb dX4_find_42 rfl (lv_at hl 0 rfl) ?_
    refine lv_aload_n hx hb dX4_find_43 rfl (lv_at hl 1 rfl) ?_
    refine k_get (ci := 4) (C := RX2) (T := TX2) (N := 12) (v := .int (gI σ8 1)) hx hb hG inX2 hown hK hP 1 wl_1 rfl 1 (by decide) gw72 rfl dX4_find_44 ?_
    refine mc_V hSF hl.1 hP hD hS hA hK hGV (m_X4_findOrder l hfl D ad cA g (gI σ8 1) σ8 _ hw) goV_X4_57 pd_X4_findOrder ⟨(Nat.le_of_ble_eq_true rfl), (Nat.le_of_ble_eq_true rfl)⟩ ⟨(Nat.le_of_ble_eq_true rfl), (Nat.le_of_ble_eq_true rfl)⟩ (va_recv hK hP (ci := 6) (q0 := 46) rfl wl_46) dX4_find_47 rfl (Nat.le_of_ble_eq_true rfl) (fun v9 σ10 H locs hq hP hD hS => ?_) (fun _ _ _ _ _ _ h => h.elim)
    obtain ⟨hv9, hw⟩ := hq
    subst hv9
    refine W.eq (g2 := F0 m 50 ls []) rfl ?_
    refine W.widen (k := 0) (n := 0) (Nat.le_refl _) (Nat.le_refl _) ?_
    refine lv_aload_n hx hb dX4_find_50 rfl (lv_at hl 0 rfl) ?_
    refine lv_iconst (v := 1) hx hb dX4_find_51 (by decide) ?_
    obtain ⟨σ11, eσ11⟩ : ∃ z : Sg, z = sI σ10 10 1 := ⟨_, rfl⟩
    have hw := hw σ11 eσ11
    refine k_put (ci := 6) (C := RX4) (T := TX4) (N := 9) (v := .int 1) (ws1 := WL ad cA σ11) hx hb hG inX4 tyX4 tyX4_ok nmX4 hown hK hP hD hS 46 wl_46 rfl 1 (by decide) gw274 rfl ⟨rfl, rfl⟩ (ws_46_1 eσ11) (Nat.le_of_ble_eq_true rfl) dX4_find_52 (fun H locs hP hD hS => ?_)
    exact vx_ret (m_v ⟨rfl, hw⟩ hx hb hr hlocks hP hD hS (Nat.le_of_ble_eq_true rfl) (Nat.le_of_ble_eq_true rfl) dX4_find_55)
  · skip
    have hw := hw.2 k1
    exact vx_ret (m_v ⟨rfl, hw⟩ hx hb hr hlocks hP hD hS (Nat.le_of_ble_eq_true rfl) (Nat.le_of_ble_eq_true rfl) dX4_find_7)

set_option maxHeartbeats 4000000 in
set_option maxRecDepth 100000 in
theorem m_X4_orderCount (l : Launch) (hfl : l.stackTraces = false) (D : va_G) (ad : Nat → Nat) (cA : Nat → ClassId) (g : gv_T) (σ : Sg) (Q : Int32 → Prop) (hw : w_X4_orderCount  σ Q) : MC l yX4_orderCount cX4_orderCount 1 (some .int) (RM 0 0 0 0) D ad cA g [.ref (ad 46)] σ (fun v σ' => ∃ r : Int32, v = some (.int r) ∧ σ' = σ ∧ Q r) (fun _ _ => False) := by
  refine MC.of (plainFor_of_name (by decide +kernel)) (Nat.le_of_ble_eq_true rfl) ?_
  intro p e s m args below meth c A ls hx hb hr hml hown hG hlocks htab hA hS hP hK hD hGV hl
  have hown : s.vm.findClass RX4 = some m.cls := hown
  have hl : lv_has ls 1 [(0, .ref (ad 46))] := hl
  have hSF : CF p m c cX4_orderCount 1 s args RX4 := ⟨hx, hb, hml, hown, hG⟩
  refine lv_aload_n hx hb dX4_orderCount_0 rfl (lv_at hl 0 rfl) ?_
  refine k_get (ci := 6) (C := RX4) (T := TX4) (N := 9) (v := .ref (ad 49)) hx hb hG inX4 hown hK hP 46 wl_46 rfl 6 (by decide) gw280 rfl dX4_orderCount_1 ?_
  refine lv_aload_n hx hb dX4_orderCount_4 rfl (lv_at hl 0 rfl) ?_
  refine k_get (ci := 6) (C := RX4) (T := TX4) (N := 9) (v := .int (gI σ 11)) hx hb hG inX4 hown hK hP 46 wl_46 rfl 2 (by decide) gw276 rfl dX4_orderCount_5 ?_
  obtain ⟨hc1, hw⟩ := hw
  refine k_iald (v := gA σ 26 (ix (gI σ 11))) hx hb hK hP 49 wl_49 (ix (gI σ 11)) rfl rfl hc1 dX4_orderCount_8 ?_
  exact vx_ret (m_i ⟨_, rfl, rfl, hw⟩ hx hb hr hlocks rfl hP hD hS (Nat.le_of_ble_eq_true rfl) (Nat.le_of_ble_eq_true rfl) dX4_orderCount_9)

set_option maxHeartbeats 4000000 in
set_option maxRecDepth 100000 in
theorem m_X6_checkPlaceInOrder (l : Launch) (hfl : l.stackTraces = false) (D : va_G) (ad : Nat → Nat) (cA : Nat → ClassId) (g : gv_T) (p1 : Int32) (σ : Sg) (Q : Sg → Prop) (X : String → Sg → Prop) (hw : w_X6_checkPlaceInOrder p1 σ Q X) : MC l yX6_checkPlaceInOrder cX6_checkPlaceInOrder 2 none (RM 6 1 6 115) D ad cA g [.ref (ad 0), .int p1] σ (fun v σ' => v = none ∧ Q σ') X := by
  refine MC.of (plainFor_of_name (by decide +kernel)) (Nat.le_of_ble_eq_true rfl) ?_
  intro p e s m args below meth c A ls hx hb hr hml hown hG hlocks htab hA hS hP hK hD hGV hl
  have hown : s.vm.findClass RX6 = some m.cls := hown
  have hl : lv_has ls 2 [(0, .ref (ad 0)), (1, .int p1)] := hl
  have hSF : CF p m c cX6_checkPlaceInOrder 2 s args RX6 := ⟨hx, hb, hml, hown, hG⟩
  refine lv_aload_n hx hb dX6_checkPlaceInOrder_0 rfl (lv_at hl 0 rfl) ?_
  refine k_get (ci := 8) (C := RX6) (T := TX6) (N := 5) (v := .ref (ad 46)) hx hb hG inX6 hown hK hP 0 wl_0 rfl 4 (by decide) gw309 rfl dX6_checkPlaceInOrder_1 ?_
  refine lv_aload_n hx hb dX6_checkPlaceInOrder_4 rfl (lv_at hl 0 rfl) ?_
  refine k_get (ci := 8) (C := RX6) (T := TX6) (N := 5) (v := .ref (ad 1)) hx hb hG inX6 hown hK hP 0 wl_0 rfl 0 (by decide) gw305 rfl dX6_checkPlaceInOrder_5 ?_
  refine lv_aload_n hx hb dX6_checkPlaceInOrder_8 rfl (lv_at hl 0 rfl) ?_
  refine k_get (ci := 8) (C := RX6) (T := TX6) (N := 5) (v := .ref (ad 32)) hx hb hG inX6 hown hK hP 0 wl_0 rfl 2 (by decide) gw307 rfl dX6_checkPlaceInOrder_9 ?_
  refine mc_V hSF hl.1 hP hD hS hA hK hGV (m_X4_find l hfl D ad cA g  σ _ hw) goV_X6_247 pd_X4_find ⟨(Nat.le_of_ble_eq_true rfl), (Nat.le_of_ble_eq_true rfl)⟩ ⟨(Nat.le_of_ble_eq_true rfl), (Nat.le_of_ble_eq_true rfl)⟩ (va_recv hK hP (ci := 6) (q0 := 46) rfl wl_46) dX6_checkPlaceInOrder_12 rfl (Nat.le_of_ble_eq_true rfl) (fun v9 σ2 H locs hq hP hD hS => ?_) (fun _ _ _ _ _ _ h => h.elim)
  obtain ⟨hv9, hw⟩ := hq
  subst hv9
  refine W.eq (g2 := F0 m 15 ls []) rfl ?_
  refine W.widen (k := 0) (n := 0) (Nat.le_refl _) (Nat.le_refl _) ?_
  refine lv_aload_n hx hb dX6_checkPlaceInOrder_15 rfl (lv_at hl 0 rfl) ?_
  refine k_get (ci := 8) (C := RX6) (T := TX6) (N := 5) (v := .ref (ad 46)) hx hb hG inX6 hown hK hP 0 wl_0 rfl 4 (by decide) gw309 rfl dX6_checkPlaceInOrder_16 ?_
  refine mc_V hSF hl.1 hP hD hS hA hK hGV (m_X4_orderCount l hfl D ad cA g  σ2 _ hw) goV_X6_250 pd_X4_orderCount ⟨(Nat.le_of_ble_eq_true rfl), (Nat.le_of_ble_eq_true rfl)⟩ ⟨(Nat.le_of_ble_eq_true rfl), (Nat.le_of_ble_eq_true rfl)⟩ (va_recv hK hP (ci := 6) (q0 := 46) rfl wl_46) dX6_checkPlaceInOrder_19 rfl (Nat.le_of_ble_eq_true rfl) (fun v9 σ9 H locs hq hP hD hS => ?_) (fun _ _ _ _ _ _ h => h.elim)
  obtain ⟨r3, hv9, hs9, hw⟩ := hq
  subst hv9
  subst σ9
  refine W.eq (g2 := F0 m 22 ls [.int r3]) rfl ?_
  refine W.widen (k := 0) (n := 0) (Nat.le_refl _) (Nat.le_refl _) ?_
  refine lv_if_ne (tgt := 36) hx hb dX6_checkPlaceInOrder_22 (by decide) (fun k4 => ?_) (fun k4 => ?_)
  · skip
    have hw := hw.1 k4
    refine lv_iload_n hx hb dX6_checkPlaceInOrder_36 rfl (lv_at hl 1 rfl) ?_
    refine lv_if_lt (tgt := 51) hx hb dX6_checkPlaceInOrder_37 (by decide) (fun k5 => ?_) (fun k5 => ?_)
    · skip
      have hw := hw.1 k5
      exact m_throwW hw (names := ["java/lang/RuntimeException", "java/lang/Exception"]) 25 hx hb hfl hown hG hGV htab hlocks (hl.1.trans hml.symm) (by decide +kernel) (by decide +kernel) gw722 gw48 rfl xat_X6_232 hP hD hS dX6_checkPlaceInOrder_51 dX6_checkPlaceInOrder_54 dX6_checkPlaceInOrder_55 dX6_checkPlaceInOrder_58 dX6_checkPlaceInOrder_61 (Nat.le_of_ble_eq_true rfl) (Nat.le_of_ble_eq_true rfl) (Nat.le_of_ble_eq_true rfl) (Nat.le_of_ble_eq_true rfl) (Nat.le_of_ble_eq_true rfl) (Nat.le_of_ble_eq_true rfl)
    · skip
      have hw := hw.2 k5
      refine lv_iload_n hx hb dX6_checkPlaceInOrder_40 rfl (lv_at hl 1 rfl) ?_
      refine lv_aload_n hx hb dX6_checkPlaceInOrder_41 rfl (lv_at hl 0 rfl) ?_
      refine k_get (ci := 8) (C := RX6) (T := TX6) (N := 5) (v := .ref (ad 1)) hx hb hG inX6 hown hK hP 0 wl_0 rfl 0 (by decide) gw305 rfl dX6_checkPlaceInOrder_42 ?_
      refine k_get (ci := 4) (C := RX2) (T := TX2) (N := 12) (v := .int (gI σ2 1)) hx hb hG inX2 hown hK hP 1 wl_1 rfl 1 (by decide) gw73 rfl dX6_checkPlaceInOrder_45 ?_
      refine lv_icmp_lt (tgt := 62) hx hb dX6_checkPlaceInOrder_48 (by decide) (fun k6 => ?_) (fun k6 => ?_)
      · skip
        have hw := hw.1 k6
        exact vx_ret (m_v ⟨rfl, hw⟩ hx hb hr hlocks hP hD hS (Nat.le_of_ble_eq_true rfl) (Nat.le_of_ble_eq_true rfl) dX6_checkPlaceInOrder_62)
      · skip
        have hw := hw.2 k6
        exact m_throwW hw (names := ["java/lang/RuntimeException", "java/lang/Exception"]) 25 hx hb hfl hown hG hGV htab hlocks (hl.1.trans hml.symm) (by decide +kernel) (by decide +kernel) gw722 gw48 rfl xat_X6_232 hP hD hS dX6_checkPlaceInOrder_51 dX6_checkPlaceInOrder_54 dX6_checkPlaceInOrder_55 dX6_checkPlaceInOrder_58 dX6_checkPlaceInOrder_61 (Nat.le_of_ble_eq_true rfl) (Nat.le_of_ble_eq_true rfl) (Nat.le_of_ble_eq_true rfl) (Nat.le_of_ble_eq_true rfl) (Nat.le_of_ble_eq_true rfl) (Nat.le_of_ble_eq_true rfl)
  · skip
    have hw := hw.2 k4
    exact m_throwNW hw (Y0 := "java/lang/RuntimeException") (idx := 13) (bs := prog_35_method_4_code) (names := ["java/lang/Exception"]) 24 hx hb hfl hown hG hGV htab hlocks (hl.1.trans hml.symm) (by decide +kernel) (by decide +kernel) (by decide +kernel) ns_0 ns_1 ns_2 ns_5 gw881 gw52 rfl xat_X6_146 hP hD hS dX6_checkPlaceInOrder_25 dX6_checkPlaceInOrder_28 dX6_checkPlaceInOrder_29 dX6_checkPlaceInOrder_32 dX6_checkPlaceInOrder_35 (Nat.le_of_ble_eq_true rfl) (Nat.le_of_ble_eq_true rfl) (Nat.le_of_ble_eq_true rfl) (Nat.le_of_ble_eq_true rfl) (Nat.le_of_ble_eq_true rfl) (Nat.le_of_ble_eq_true rfl)

set_option maxHeartbeats 4000000 in
set_option maxRecDepth 100000 in
theorem m_X6_raised (l : Launch) (hfl : l.stackTraces = false) (D : va_G) (ad : Nat → Nat) (cA : Nat → ClassId) (g : gv_T) (p1 : Int32) (σ : Sg) (Q : Int32 → Sg → Prop) (X : String → Sg → Prop) (hw : w_X6_raised p1 σ Q X) : MC l yX6_raised cX6_raised 2 (some .int) (RM 7 1 6 136) D ad cA g [.ref (ad 0), .int p1] σ (fun v σ' => ∃ r : Int32, v = some (.int r) ∧ Q r σ') X := by
  refine MC.of (plainFor_of_name (by decide +kernel)) (Nat.le_of_ble_eq_true rfl) ?_
  intro p e s m args below meth c A ls hx hb hr hml hown hG hlocks htab hA hS hP hK hD hGV hl
  have hown : s.vm.findClass RX6 = some m.cls := hown
  have hl : lv_has ls 2 [(0, .ref (ad 0)), (1, .int p1)] := hl
  have hSF : CF p m c cX6_raised 2 s args RX6 := ⟨hx, hb, hml, hown, hG⟩
  refine lv_aload_n hx hb dX6_raised_0 rfl (lv_at hl 0 rfl) ?_
  refine lv_iload_n hx hb dX6_raised_1 rfl (lv_at hl 1 rfl) ?_
  refine mc_V hSF hl.1 hP hD hS hA hK hGV (m_X6_checkPlaceInOrder l hfl D ad cA g p1 σ _ _ hw) goV_X6_241 pd_X6_checkPlaceInOrder ⟨(Nat.le_of_ble_eq_true rfl), (Nat.le_of_ble_eq_true rfl)⟩ ⟨(Nat.le_of_ble_eq_true rfl), (Nat.le_of_ble_eq_true rfl)⟩ (va_recv hK hP (ci := 8) (q0 := 0) rfl wl_0) dX6_raised_2 rfl (Nat.le_of_ble_eq_true rfl) (fun v9 σ2 H locs hq hP hD hS => ?_) (fun E9 σ9 H locs x9 ce9 hw hP hD hS h9 hv9 hc9 => ?_)
  · skip
    obtain ⟨hv9, hw⟩ := hq
    subst hv9
    refine W.eq (g2 := F0 m 5 ls []) rfl ?_
    refine W.widen (k := 1) (n := 6) (Nat.le_refl _) (Nat.le_refl _) ?_
    refine lv_aload_n hx hb dX6_raised_5 rfl (lv_at hl 0 rfl) ?_
    refine k_get (ci := 8) (C := RX6) (T := TX6) (N := 5) (v := .ref (ad 46)) hx hb hG inX6 hown hK hP 0 wl_0 rfl 4 (by decide) gw309 rfl dX6_raised_6 ?_
    refine k_get (ci := 6) (C := RX4) (T := TX4) (N := 9) (v := .ref (ad 51)) hx hb hG inX4 hown hK hP 46 wl_46 rfl 8 (by decide) gw284 rfl dX6_raised_9 ?_
    refine lv_iload_n hx hb dX6_raised_12 rfl (lv_at hl 1 rfl) ?_
    obtain ⟨hc3, hw⟩ := hw
    refine k_iald (v := gA σ2 28 (ix p1)) hx hb hK hP 51 wl_51 (ix p1) rfl rfl hc3 dX6_raised_13 ?_
    exact vx_ret (m_i ⟨_, rfl, hw⟩ hx hb hr hlocks rfl hP hD hS (Nat.le_of_ble_eq_true rfl) (Nat.le_of_ble_eq_true rfl) dX6_raised_14)
  · skip
    exact m_out hw htab hlocks h9 hv9 hc9 hP hD hS (Nat.le_of_ble_eq_true rfl) (Nat.le_of_ble_eq_true rfl)

set_option maxHeartbeats 4000000 in
set_option maxRecDepth 100000 in
theorem m_L_raised (l : Launch) (hfl : l.stackTraces = false) (D : va_G) (ad : Nat → Nat) (cA : Nat → ClassId) (g : gv_T) (p1 : Int32) (σ : Sg) (Q : Int32 → Sg → Prop) (hw : w_L_raised p1 σ Q) : MW l yL_raised cL_raised 3 (some .int) [(0, 5, 6, 53), (0, 5, 10, 28)] (RM 8 1 6 157) D ad cA g [.ref (ad 0), .int p1] σ (fun v σ' => ∃ r : Int32, v = some (.int r) ∧ Q r σ') := by
  refine MW.of (by decide +kernel) (Nat.le_of_ble_eq_true rfl) ?_
  intro p e s m args below meth c A ls hx hb hr hml hown hG hlocks htab hA hS hP hK hD hGV hl
  have hown : s.vm.findClass RL = some m.cls := hown
  have hl : lv_has ls 3 [(0, .ref (ad 0)), (1, .int p1)] := hl
  have hSF : CF p m c cL_raised 3 s args RL := ⟨hx, hb, hml, hown, hG⟩
  refine lv_aload_n hx hb dL_raised_0 rfl (lv_at hl 0 rfl) ?_
  refine lv_iload_n hx hb dL_raised_1 rfl (lv_at hl 1 rfl) ?_
  refine mc_V hSF hl.1 hP hD hS hA hK hGV (m_X6_raised l hfl D ad cA g p1 σ _ _ hw) goV_L_99 pd_X6_raised ⟨(Nat.le_of_ble_eq_true rfl), (Nat.le_of_ble_eq_true rfl)⟩ ⟨(Nat.le_of_ble_eq_true rfl), (Nat.le_of_ble_eq_true rfl)⟩ (va_recv hK hP (ci := 8) (q0 := 0) rfl wl_0) dL_raised_2 rfl (Nat.le_of_ble_eq_true rfl) (fun v9 σ2 H locs hq hP hD hS => ?_) (fun E9 σ3 H locs x9 ce9 hw hP hD hS h9 hv9 hc9 => ?_)
  · skip
    obtain ⟨r1, hv9, hw⟩ := hq
    subst hv9
    refine W.eq (g2 := F0 m 5 ls [.int r1]) rfl ?_
    refine W.widen (k := 1) (n := 6) (Nat.le_refl _) (Nat.le_refl _) ?_
    exact m_i ⟨_, rfl, hw⟩ hx hb hr hlocks rfl hP hD hS (Nat.le_of_ble_eq_true rfl) (Nat.le_of_ble_eq_true rfl) dL_raised_5
  · skip
    rcases hw with ⟨rfl, hw⟩ | ⟨rfl, hw⟩
    · skip
      refine vx_catch (own := RL) (name := "java/util/NoSuchElementException") hown [] { startPc := 0, endPc := 5, handlerPc := 6, catchType := 53 } [{ startPc := 0, endPc := 5, handlerPc := 10, catchType := 28 }] (htab.trans rfl) (fun z hz => nomatch hz) rfl (by decide) (hG _ gw876) (va_Nw.use rfl (hGV.nw _ gw883)) h9 hv9 hc9 ?_
      refine W.eq (g2 := F0 m 6 ls [.ref x9]) rfl ?_
      refine W.widen (k := 1) (n := 6) (Nat.le_refl _) (Nat.le_refl _) ?_
      refine lv_astore_n (lv' := [(2, .ref x9), (0, .ref (ad 0)), (1, .int p1)]) hx hb dL_raised_6 rfl hl (by decide) rfl (fun ls hl => ?_)
      refine lv_bipush (v := (-75)) hx hb dL_raised_7 (by decide) ?_
      exact m_i ⟨_, rfl, hw⟩ hx hb hr hlocks rfl hP hD hS (Nat.le_of_ble_eq_true rfl) (Nat.le_of_ble_eq_true rfl) dL_raised_9
    · skip
      refine vx_catch (own := RL) (name := "java/lang/IndexOutOfBoundsException") hown [{ startPc := 0, endPc := 5, handlerPc := 6, catchType := 53 }] { startPc := 0, endPc := 5, handlerPc := 10, catchType := 28 } [] (htab.trans rfl) (fun z hz => by rcases List.mem_singleton.mp hz with rfl; exact Or.inr ⟨by decide, "java/util/NoSuchElementException", hG _ gw876, hGV.nc ("java/lang/IndexOutOfBoundsException", "java/util/NoSuchElementException") (by decide)⟩) rfl (by decide) (hG _ gw690) (va_Nw.use rfl (hGV.nw _ gw724)) h9 hv9 hc9 ?_
      refine W.eq (g2 := F0 m 10 ls [.ref x9]) rfl ?_
      refine W.widen (k := 1) (n := 6) (Nat.le_refl _) (Nat.le_refl _) ?_
      refine lv_astore_n (lv' := [(2, .ref x9), (0, .ref (ad 0)), (1, .int p1)]) hx hb dL_raised_10 rfl hl (by decide) rfl (fun ls hl => ?_)
      refine lv_bipush (v := (-77)) hx hb dL_raised_11 (by decide) ?_
      exact m_i ⟨_, rfl, hw⟩ hx hb hr hlocks rfl hP hD hS (Nat.le_of_ble_eq_true rfl) (Nat.le_of_ble_eq_true rfl) dL_raised_13

set_option maxHeartbeats 4000000 in
set_option maxRecDepth 100000 in
theorem m_X6_props (l : Launch) (hfl : l.stackTraces = false) (D : va_G) (ad : Nat → Nat) (cA : Nat → ClassId) (g : gv_T) (p1 : Int32) (σ : Sg) (Q : Int32 → Sg → Prop) (X : String → Sg → Prop) (hw : w_X6_props p1 σ Q X) : MC l yX6_props cX6_props 4 (some .int) (RM 7 1 6 136) D ad cA g [.ref (ad 0), .int p1] σ (fun v σ' => ∃ r : Int32, v = some (.int r) ∧ Q r σ') X := by
  refine MC.of (plainFor_of_name (by decide +kernel)) (Nat.le_of_ble_eq_true rfl) ?_
  intro p e s m args below meth c A ls hx hb hr hml hown hG hlocks htab hA hS hP hK hD hGV hl
  have hown : s.vm.findClass RX6 = some m.cls := hown
  have hl : lv_has ls 4 [(0, .ref (ad 0)), (1, .int p1)] := hl
  have hSF : CF p m c cX6_props 4 s args RX6 := ⟨hx, hb, hml, hown, hG⟩
  refine lv_aload_n hx hb dX6_props_0 rfl (lv_at hl 0 rfl) ?_
  refine lv_iload_n hx hb dX6_props_1 rfl (lv_at hl 1 rfl) ?_
  refine mc_V hSF hl.1 hP hD hS hA hK hGV (m_X6_checkPlaceInOrder l hfl D ad cA g p1 σ _ _ hw) goV_X6_241 pd_X6_checkPlaceInOrder ⟨(Nat.le_of_ble_eq_true rfl), (Nat.le_of_ble_eq_true rfl)⟩ ⟨(Nat.le_of_ble_eq_true rfl), (Nat.le_of_ble_eq_true rfl)⟩ (va_recv hK hP (ci := 8) (q0 := 0) rfl wl_0) dX6_props_2 rfl (Nat.le_of_ble_eq_true rfl) (fun v9 σ2 H locs hq hP hD hS => ?_) (fun E9 σ9 H locs x9 ce9 hw hP hD hS h9 hv9 hc9 => ?_)
  · skip
    obtain ⟨hv9, hw⟩ := hq
    subst hv9
    refine W.eq (g2 := F0 m 5 ls []) rfl ?_
    refine W.widen (k := 1) (n := 6) (Nat.le_refl _) (Nat.le_refl _) ?_
    refine lv_iconst (v := 0) hx hb dX6_props_5 (by decide) ?_
    refine lv_istore_n (lv' := [(2, .int 0), (0, .ref (ad 0)), (1, .int p1)]) hx hb dX6_props_6 rfl hl (by decide) rfl (fun ls hl => ?_)
    refine lv_iconst (v := 0) hx hb dX6_props_7 (by decide) ?_
    refine lv_istore_n (lv' := [(3, .int 0), (2, .int 0), (0, .ref (ad 0)), (1, .int p1)]) hx hb dX6_props_8 rfl hl (by decide) rfl (fun ls hl => ?_)
    obtain ⟨I3, μ3, hI3, hw3⟩ := hw
    have hl : lv_has ls 4 [(0, .ref (ad 0)), (1, .int p1), (2, .int 0), (3, .int 0)] := lv_sub hl [2, 3, 1, 0] rfl
    suffices key3 : ∀ (n3 : Nat) (i2_3 : Int32) (i3_3 : Int32), μ3 i2_3 i3_3 < n3 → I3 i2_3 i3_3 → ∀ (H : Heap) (locs : List Loc) (ls : Array Slot), va_P D vwCl (WL ad cA σ2) H → va_D A (WL ad cA σ2) → va_S A s.heap H locs → lv_has ls 4 [(0, .ref (ad 0)), (1, .int p1), (2, .int i2_3), (3, .int i3_3)] → W p l e (RM 7 1 6 136) s m args below meth c H locs (1) (6) (vx_MQ below (QM D ad cA A (fun v σ' => ∃ r : Int32, v = some (.int r) ∧ Q r σ')) (XM D ad cA A X) args s (RM 7 1 6 136).cells (RM 7 1 6 136).slots A) (F0 m 9 ls []) from key3 _ _ _ (Nat.lt_succ_self _) hI3 _ _ ls hP hD hS hl
    clear hP hD hS hl
    intro n3
    induction n3 with
    | zero => intro _ _ h; exact absurd h (Nat.not_lt_zero _)
    | succ n3 ih3 =>
      intro i2_3 i3_3 hm3 hI3 H locs ls hP hD hS hl
      have hw := hw3 i2_3 i3_3 hI3
      refine lv_iload_n hx hb dX6_props_9 rfl (lv_at hl 3 rfl) ?_
      refine lv_iload_n hx hb dX6_props_10 rfl (lv_at hl 1 rfl) ?_
      refine lv_icmp_gt (tgt := 34) hx hb dX6_props_11 (by decide) (fun k4 => ?_) (fun k4 => ?_)
      · skip
        have hw := hw.1 k4
        refine lv_aload_n hx hb dX6_props_34 rfl (lv_at hl 0 rfl) ?_
        refine k_get (ci := 8) (C := RX6) (T := TX6) (N := 5) (v := .ref (ad 46)) hx hb hG inX6 hown hK hP 0 wl_0 rfl 4 (by decide) gw309 rfl dX6_props_35 ?_
        refine lv_iload_n hx hb dX6_props_38 rfl (lv_at hl 2 rfl) ?_
        refine mc_V hSF hl.1 hP hD hS hA hK hGV (m_X4_propsFor l hfl D ad cA g i2_3 σ2 _ hw) goV_X6_258 pd_X4_propsFor ⟨(Nat.le_of_ble_eq_true rfl), (Nat.le_of_ble_eq_true rfl)⟩ ⟨(Nat.le_of_ble_eq_true rfl), (Nat.le_of_ble_eq_true rfl)⟩ (va_recv hK hP (ci := 6) (q0 := 46) rfl wl_46) dX6_props_39 rfl (Nat.le_of_ble_eq_true rfl) (fun v9 σ9 H locs hq hP hD hS => ?_) (fun _ _ _ _ _ _ h => h.elim)
        obtain ⟨r5, hv9, hs9, hw⟩ := hq
        subst hv9
        subst σ9
        refine W.eq (g2 := F0 m 42 ls [.int r5]) rfl ?_
        refine W.widen (k := 1) (n := 6) (Nat.le_refl _) (Nat.le_refl _) ?_
        exact vx_ret (m_i ⟨_, rfl, hw⟩ hx hb hr hlocks rfl hP hD hS (Nat.le_of_ble_eq_true rfl) (Nat.le_of_ble_eq_true rfl) dX6_props_42)
      · skip
        have hw := hw.2 k4
        refine lv_iload_n hx hb dX6_props_14 rfl (lv_at hl 2 rfl) ?_
        refine lv_iconst (v := 1) hx hb dX6_props_15 (by decide) ?_
        refine lv_aload_n hx hb dX6_props_16 rfl (lv_at hl 0 rfl) ?_
        refine k_get (ci := 8) (C := RX6) (T := TX6) (N := 5) (v := .ref (ad 46)) hx hb hG inX6 hown hK hP 0 wl_0 rfl 4 (by decide) gw309 rfl dX6_props_17 ?_
        refine k_get (ci := 6) (C := RX4) (T := TX4) (N := 9) (v := .ref (ad 51)) hx hb hG inX4 hown hK hP 46 wl_46 rfl 8 (by decide) gw284 rfl dX6_props_20 ?_
        refine lv_iload_n hx hb dX6_props_23 rfl (lv_at hl 3 rfl) ?_
        obtain ⟨hc6, hw⟩ := hw
        refine k_iald (v := gA σ2 28 (ix i3_3)) hx hb hK hP 51 wl_51 (ix i3_3) rfl rfl hc6 dX6_props_24 ?_
        refine k_ishl (v := iShl 1 (gA σ2 28 (ix i3_3))) hx hb dX6_props_25 rfl ?_
        refine k_ior (v := i2_3 ||| (iShl 1 (gA σ2 28 (ix i3_3)))) hx hb dX6_props_26 rfl ?_
        obtain ⟨v7, ev7⟩ : ∃ z : Int32, z = i2_3 ||| (iShl 1 (gA σ2 28 (ix i3_3))) := ⟨_, rfl⟩
        have hw := hw v7 ev7
        refine lv_istore_n (lv' := [(2, .int v7), (0, .ref (ad 0)), (1, .int p1), (3, .int i3_3)]) hx hb dX6_props_27 rfl hl (by decide) (by subst ev7; rfl) (fun ls hl => ?_)
        refine lv_iinc (v := i3_3 + 1) (lv' := [(3, .int (i3_3 + 1)), (2, .int v7), (0, .ref (ad 0)), (1, .int p1)]) hx hb dX6_props_28 hl (k := 3) rfl rfl (by decide) rfl (fun ls hl => ?_)
        refine lv_goto (tgt := 9) hx hb dX6_props_31 (by decide) ?_
        exact ih3 v7 (i3_3 + 1) (Nat.lt_of_lt_of_le hw.2 (Nat.le_of_lt_succ hm3)) hw.1 _ _ ls hP hD hS (lv_sub hl [2, 3, 1, 0] rfl)
  · skip
    exact m_out hw htab hlocks h9 hv9 hc9 hP hD hS (Nat.le_of_ble_eq_true rfl) (Nat.le_of_ble_eq_true rfl)

set_option maxHeartbeats 4000000 in
set_option maxRecDepth 100000 in
theorem m_L_props (l : Launch) (hfl : l.stackTraces = false) (D : va_G) (ad : Nat → Nat) (cA : Nat → ClassId) (g : gv_T) (p1 : Int32) (σ : Sg) (Q : Int32 → Sg → Prop) (hw : w_L_props p1 σ Q) : MW l yL_props cL_props 3 (some .int) [(0, 5, 6, 53), (0, 5, 10, 28)] (RM 8 1 6 159) D ad cA g [.ref (ad 0), .int p1] σ (fun v σ' => ∃ r : Int32, v = some (.int r) ∧ Q r σ') := by
  refine MW.of (by decide +kernel) (Nat.le_of_ble_eq_true rfl) ?_
  intro p e s m args below meth c A ls hx hb hr hml hown hG hlocks htab hA hS hP hK hD hGV hl
  have hown : s.vm.findClass RL = some m.cls := hown
  have hl : lv_has ls 3 [(0, .ref (ad 0)), (1, .int p1)] := hl
  have hSF : CF p m c cL_props 3 s args RL := ⟨hx, hb, hml, hown, hG⟩
  refine lv_aload_n hx hb dL_props_0 rfl (lv_at hl 0 rfl) ?_
  refine lv_iload_n hx hb dL_props_1 rfl (lv_at hl 1 rfl) ?_
  refine mc_V hSF hl.1 hP hD hS hA hK hGV (m_X6_props l hfl D ad cA g p1 σ _ _ hw) goV_L_102 pd_X6_props ⟨(Nat.le_of_ble_eq_true rfl), (Nat.le_of_ble_eq_true rfl)⟩ ⟨(Nat.le_of_ble_eq_true rfl), (Nat.le_of_ble_eq_true rfl)⟩ (va_recv hK hP (ci := 8) (q0 := 0) rfl wl_0) dL_props_2 rfl (Nat.le_of_ble_eq_true rfl) (fun v9 σ2 H locs hq hP hD hS => ?_) (fun E9 σ3 H locs x9 ce9 hw hP hD hS h9 hv9 hc9 => ?_)
  · skip
    obtain ⟨r1, hv9, hw⟩ := hq
    subst hv9
    refine W.eq (g2 := F0 m 5 ls [.int r1]) rfl ?_
    refine W.widen (k := 1) (n := 6) (Nat.le_refl _) (Nat.le_refl _) ?_
    exact m_i ⟨_, rfl, hw⟩ hx hb hr hlocks rfl hP hD hS (Nat.le_of_ble_eq_true rfl) (Nat.le_of_ble_eq_true rfl) dL_props_5
  · skip
    rcases hw with ⟨rfl, hw⟩ | ⟨rfl, hw⟩
    · skip
      refine vx_catch (own := RL) (name := "java/util/NoSuchElementException") hown [] { startPc := 0, endPc := 5, handlerPc := 6, catchType := 53 } [{ startPc := 0, endPc := 5, handlerPc := 10, catchType := 28 }] (htab.trans rfl) (fun z hz => nomatch hz) rfl (by decide) (hG _ gw876) (va_Nw.use rfl (hGV.nw _ gw883)) h9 hv9 hc9 ?_
      refine W.eq (g2 := F0 m 6 ls [.ref x9]) rfl ?_
      refine W.widen (k := 1) (n := 6) (Nat.le_refl _) (Nat.le_refl _) ?_
      refine lv_astore_n (lv' := [(2, .ref x9), (0, .ref (ad 0)), (1, .int p1)]) hx hb dL_props_6 rfl hl (by decide) rfl (fun ls hl => ?_)
      refine lv_bipush (v := (-75)) hx hb dL_props_7 (by decide) ?_
      exact m_i ⟨_, rfl, hw⟩ hx hb hr hlocks rfl hP hD hS (Nat.le_of_ble_eq_true rfl) (Nat.le_of_ble_eq_true rfl) dL_props_9
    · skip
      refine vx_catch (own := RL) (name := "java/lang/IndexOutOfBoundsException") hown [{ startPc := 0, endPc := 5, handlerPc := 6, catchType := 53 }] { startPc := 0, endPc := 5, handlerPc := 10, catchType := 28 } [] (htab.trans rfl) (fun z hz => by rcases List.mem_singleton.mp hz with rfl; exact Or.inr ⟨by decide, "java/util/NoSuchElementException", hG _ gw876, hGV.nc ("java/lang/IndexOutOfBoundsException", "java/util/NoSuchElementException") (by decide)⟩) rfl (by decide) (hG _ gw690) (va_Nw.use rfl (hGV.nw _ gw724)) h9 hv9 hc9 ?_
      refine W.eq (g2 := F0 m 10 ls [.ref x9]) rfl ?_
      refine W.widen (k := 1) (n := 6) (Nat.le_refl _) (Nat.le_refl _) ?_
      refine lv_astore_n (lv' := [(2, .ref x9), (0, .ref (ad 0)), (1, .int p1)]) hx hb dL_props_10 rfl hl (by decide) rfl (fun ls hl => ?_)
      refine lv_bipush (v := (-77)) hx hb dL_props_11 (by decide) ?_
      exact m_i ⟨_, rfl, hw⟩ hx hb hr hlocks rfl hP hD hS (Nat.le_of_ble_eq_true rfl) (Nat.le_of_ble_eq_true rfl) dL_props_13

set_option maxHeartbeats 4000000 in
set_option maxRecDepth 100000 in
theorem m_X4_lowestStuck (l : Launch) (hfl : l.stackTraces = false) (D : va_G) (ad : Nat → Nat) (cA : Nat → ClassId) (g : gv_T) (σ : Sg) (Q : Int32 → Prop) (hw : w_X4_lowestStuck  σ Q) : MC l yX4_lowestStuck cX4_lowestStuck 3 (some .int) (RM 1 0 0 24) D ad cA g [.ref (ad 46)] σ (fun v σ' => ∃ r : Int32, v = some (.int r) ∧ σ' = σ ∧ Q r) (fun _ _ => False) := by
  refine MC.of (plainFor_of_name (by decide +kernel)) (Nat.le_of_ble_eq_true rfl) ?_
  intro p e s m args below meth c A ls hx hb hr hml hown hG hlocks htab hA hS hP hK hD hGV hl
  have hown : s.vm.findClass RX4 = some m.cls := hown
  have hl : lv_has ls 3 [(0, .ref (ad 46))] := hl
  have hSF : CF p m c cX4_lowestStuck 3 s args RX4 := ⟨hx, hb, hml, hown, hG⟩
  refine lv_iconst (v := 0) hx hb dX4_lowestStuck_0 (by decide) ?_
  refine lv_istore_n (lv' := [(1, .int 0), (0, .ref (ad 46))]) hx hb dX4_lowestStuck_1 rfl hl (by decide) rfl (fun ls hl => ?_)
  obtain ⟨I1, μ1, hI1, hw1⟩ := hw
  have hl : lv_has ls 3 [(0, .ref (ad 46)), (1, .int 0)] := lv_sub hl [1, 0] rfl
  suffices key1 : ∀ (n1 : Nat) (i1_1 : Int32), μ1 i1_1 < n1 → I1 i1_1 → ∀ (H : Heap) (locs : List Loc) (ls : Array Slot), va_P D vwCl (WL ad cA σ) H → va_D A (WL ad cA σ) → va_S A s.heap H locs → lv_has ls 3 [(0, .ref (ad 46)), (1, .int i1_1)] → W p l e (RM 1 0 0 24) s m args below meth c H locs (0) (0) (vx_MQ below (QM D ad cA A (fun v σ' => ∃ r : Int32, v = some (.int r) ∧ σ' = σ ∧ Q r)) (XM D ad cA A (fun _ _ => False)) args s (RM 1 0 0 24).cells (RM 1 0 0 24).slots A) (F0 m 2 ls []) from key1 _ _ (Nat.lt_succ_self _) hI1 _ _ ls hP hD hS hl
  clear hP hD hS hl
  intro n1
  induction n1 with
  | zero => intro _ h; exact absurd h (Nat.not_lt_zero _)
  | succ n1 ih1 =>
    intro i1_1 hm1 hI1 H locs ls hP hD hS hl
    have hw := hw1 i1_1 hI1
    refine lv_iload_n hx hb dX4_lowestStuck_2 rfl (lv_at hl 1 rfl) ?_
    refine lv_bipush (v := 9) hx hb dX4_lowestStuck_3 (by decide) ?_
    refine lv_icmp_ge (tgt := 43) hx hb dX4_lowestStuck_5 (by decide) (fun k2 => ?_) (fun k2 => ?_)
    · skip
      have hw := hw.1 k2
      refine lv_iconst (v := (-1)) hx hb dX4_lowestStuck_43 (by decide) ?_
      exact vx_ret (m_i ⟨_, rfl, rfl, hw⟩ hx hb hr hlocks rfl hP hD hS (Nat.le_of_ble_eq_true rfl) (Nat.le_of_ble_eq_true rfl) dX4_lowestStuck_44)
    · skip
      have hw := hw.2 k2
      refine lv_iconst (v := 1) hx hb dX4_lowestStuck_8 (by decide) ?_
      refine lv_iload_n hx hb dX4_lowestStuck_9 rfl (lv_at hl 1 rfl) ?_
      refine k_ishl (v := iShl 1 i1_1) hx hb dX4_lowestStuck_10 rfl ?_
      obtain ⟨v3, ev3⟩ : ∃ z : Int32, z = iShl 1 i1_1 := ⟨_, rfl⟩
      have hw := hw v3 ev3
      refine lv_istore_n (lv' := [(2, .int v3), (0, .ref (ad 46)), (1, .int i1_1)]) hx hb dX4_lowestStuck_11 rfl hl (by decide) (by subst ev3; rfl) (fun ls hl => ?_)
      refine lv_aload_n hx hb dX4_lowestStuck_12 rfl (lv_at hl 1 rfl) ?_
      refine k_get (ci := 6) (C := RX4) (T := TX4) (N := 9) (v := .int (gI σ 11)) hx hb hG inX4 hown hK hP 46 wl_46 rfl 2 (by decide) gw276 rfl dX4_lowestStuck_13 ?_
      refine lv_iload_n hx hb dX4_lowestStuck_16 rfl (lv_at hl 0 rfl) ?_
      refine k_iand (v := (gI σ 11) &&& v3) hx hb dX4_lowestStuck_17 rfl ?_
      refine lv_if_eq (tgt := 37) hx hb dX4_lowestStuck_18 (by decide) (fun k4 => ?_) (fun k4 => ?_)
      · skip
        have hw := hw.1 k4
        refine lv_iinc (v := i1_1 + 1) (lv' := [(1, .int (i1_1 + 1)), (2, .int v3), (0, .ref (ad 46))]) hx hb dX4_lowestStuck_37 hl (k := 2) rfl rfl (by decide) rfl (fun ls hl => ?_)
        refine lv_goto (tgt := 2) hx hb dX4_lowestStuck_40 (by decide) ?_
        exact ih1 (i1_1 + 1) (Nat.lt_of_lt_of_le hw.2 (Nat.le_of_lt_succ hm1)) hw.1 _ _ ls hP hD hS (lv_sub hl [2, 0] rfl)
      · skip
        have hw := hw.2 k4
        refine lv_aload_n hx hb dX4_lowestStuck_21 rfl (lv_at hl 1 rfl) ?_
        refine lv_iload_n hx hb dX4_lowestStuck_22 rfl (lv_at hl 2 rfl) ?_
        refine lv_aload_n hx hb dX4_lowestStuck_23 rfl (lv_at hl 1 rfl) ?_
        refine k_get (ci := 6) (C := RX4) (T := TX4) (N := 9) (v := .int (gI σ 11)) hx hb hG inX4 hown hK hP 46 wl_46 rfl 2 (by decide) gw276 rfl dX4_lowestStuck_24 ?_
        refine lv_iload_n hx hb dX4_lowestStuck_27 rfl (lv_at hl 0 rfl) ?_
        refine k_ixor (v := (gI σ 11) ^^^ v3) hx hb dX4_lowestStuck_28 rfl ?_
        refine mc_V hSF hl.1 hP hD hS hA hK hGV (m_X4_canMoveIn l hfl D ad cA g i1_1 ((gI σ 11) ^^^ v3) σ _ hw) goV_X4_86 pd_X4_canMoveIn ⟨(Nat.le_of_ble_eq_true rfl), (Nat.le_of_ble_eq_true rfl)⟩ ⟨(Nat.le_of_ble_eq_true rfl), (Nat.le_of_ble_eq_true rfl)⟩ (va_recv hK hP (ci := 6) (q0 := 46) rfl wl_46) dX4_lowestStuck_29 rfl (Nat.le_of_ble_eq_true rfl) (fun v9 σ9 H locs hq hP hD hS => ?_) (fun _ _ _ _ _ _ h => h.elim)
        obtain ⟨r5, hv9, hs9, hw⟩ := hq
        subst hv9
        subst σ9
        refine W.eq (g2 := F0 m 32 ls [.int r5]) rfl ?_
        refine W.widen (k := 0) (n := 0) (Nat.le_refl _) (Nat.le_refl _) ?_
        refine lv_if_ne (tgt := 37) hx hb dX4_lowestStuck_32 (by decide) (fun k6 => ?_) (fun k6 => ?_)
        · skip
          have hw := hw.1 k6
          refine lv_iinc (v := i1_1 + 1) (lv' := [(1, .int (i1_1 + 1)), (2, .int v3), (0, .ref (ad 46))]) hx hb dX4_lowestStuck_37 hl (k := 2) rfl rfl (by decide) rfl (fun ls hl => ?_)
          refine lv_goto (tgt := 2) hx hb dX4_lowestStuck_40 (by decide) ?_
          exact ih1 (i1_1 + 1) (Nat.lt_of_lt_of_le hw.2 (Nat.le_of_lt_succ hm1)) hw.1 _ _ ls hP hD hS (lv_sub hl [2, 0] rfl)
        · skip
          have hw := hw.2 k6
          refine lv_iload_n hx hb dX4_lowestStuck_35 rfl (lv_at hl 2 rfl) ?_
          exact vx_ret (m_i ⟨_, rfl, rfl, hw⟩ hx hb hr hlocks rfl hP hD hS (Nat.le_of_ble_eq_true rfl) (Nat.le_of_ble_eq_true rfl) dX4_lowestStuck_36)

set_option maxHeartbeats 4000000 in
set_option maxRecDepth 100000 in
theorem m_X6_stuck (l : Launch) (hfl : l.stackTraces = false) (D : va_G) (ad : Nat → Nat) (cA : Nat → ClassId) (g : gv_T) (σ : Sg) (Q : Int32 → Sg → Prop) (X : String → Sg → Prop) (hw : w_X6_stuck  σ Q X) : MC l yX6_stuck cX6_stuck 2 (some .int) (RM 6 1 6 115) D ad cA g [.ref (ad 0)] σ (fun v σ' => ∃ r : Int32, v = some (.int r) ∧ Q r σ') X := by
  refine MC.of (plainFor_of_name (by decide +kernel)) (Nat.le_of_ble_eq_true rfl) ?_
  intro p e s m args below meth c A ls hx hb hr hml hown hG hlocks htab hA hS hP hK hD hGV hl
  have hown : s.vm.findClass RX6 = some m.cls := hown
  have hl : lv_has ls 2 [(0, .ref (ad 0))] := hl
  have hSF : CF p m c cX6_stuck 2 s args RX6 := ⟨hx, hb, hml, hown, hG⟩
  refine lv_aload_n hx hb dX6_stuck_0 rfl (lv_at hl 0 rfl) ?_
  refine k_get (ci := 8) (C := RX6) (T := TX6) (N := 5) (v := .ref (ad 46)) hx hb hG inX6 hown hK hP 0 wl_0 rfl 4 (by decide) gw309 rfl dX6_stuck_1 ?_
  refine lv_aload_n hx hb dX6_stuck_4 rfl (lv_at hl 0 rfl) ?_
  refine k_get (ci := 8) (C := RX6) (T := TX6) (N := 5) (v := .ref (ad 1)) hx hb hG inX6 hown hK hP 0 wl_0 rfl 0 (by decide) gw305 rfl dX6_stuck_5 ?_
  refine lv_aload_n hx hb dX6_stuck_8 rfl (lv_at hl 0 rfl) ?_
  refine k_get (ci := 8) (C := RX6) (T := TX6) (N := 5) (v := .ref (ad 32)) hx hb hG inX6 hown hK hP 0 wl_0 rfl 2 (by decide) gw307 rfl dX6_stuck_9 ?_
  refine mc_V hSF hl.1 hP hD hS hA hK hGV (m_X4_find l hfl D ad cA g  σ _ hw) goV_X6_247 pd_X4_find ⟨(Nat.le_of_ble_eq_true rfl), (Nat.le_of_ble_eq_true rfl)⟩ ⟨(Nat.le_of_ble_eq_true rfl), (Nat.le_of_ble_eq_true rfl)⟩ (va_recv hK hP (ci := 6) (q0 := 46) rfl wl_46) dX6_stuck_12 rfl (Nat.le_of_ble_eq_true rfl) (fun v9 σ2 H locs hq hP hD hS => ?_) (fun _ _ _ _ _ _ h => h.elim)
  obtain ⟨hv9, hw⟩ := hq
  subst hv9
  refine W.eq (g2 := F0 m 15 ls []) rfl ?_
  refine W.widen (k := 0) (n := 0) (Nat.le_refl _) (Nat.le_refl _) ?_
  refine lv_aload_n hx hb dX6_stuck_15 rfl (lv_at hl 0 rfl) ?_
  refine k_get (ci := 8) (C := RX6) (T := TX6) (N := 5) (v := .ref (ad 46)) hx hb hG inX6 hown hK hP 0 wl_0 rfl 4 (by decide) gw309 rfl dX6_stuck_16 ?_
  refine mc_V hSF hl.1 hP hD hS hA hK hGV (m_X4_lowestStuck l hfl D ad cA g  σ2 _ hw) goV_X6_261 pd_X4_lowestStuck ⟨(Nat.le_of_ble_eq_true rfl), (Nat.le_of_ble_eq_true rfl)⟩ ⟨(Nat.le_of_ble_eq_true rfl), (Nat.le_of_ble_eq_true rfl)⟩ (va_recv hK hP (ci := 6) (q0 := 46) rfl wl_46) dX6_stuck_19 rfl (Nat.le_of_ble_eq_true rfl) (fun v9 σ9 H locs hq hP hD hS => ?_) (fun _ _ _ _ _ _ h => h.elim)
  obtain ⟨r3, hv9, hs9, hw⟩ := hq
  subst hv9
  subst σ9
  refine W.eq (g2 := F0 m 22 ls [.int r3]) rfl ?_
  refine W.widen (k := 0) (n := 0) (Nat.le_refl _) (Nat.le_refl _) ?_
  refine lv_istore_n (lv' := [(1, .int r3), (0, .ref (ad 0))]) hx hb dX6_stuck_22 rfl hl (by decide) rfl (fun ls hl => ?_)
  refine lv_iload_n hx hb dX6_stuck_23 rfl (lv_at hl 0 rfl) ?_
  refine lv_if_ge (tgt := 38) hx hb dX6_stuck_24 (by decide) (fun k4 => ?_) (fun k4 => ?_)
  · skip
    have hw := hw.1 k4
    refine lv_iload_n hx hb dX6_stuck_38 rfl (lv_at hl 0 rfl) ?_
    exact vx_ret (m_i ⟨_, rfl, hw⟩ hx hb hr hlocks rfl hP hD hS (Nat.le_of_ble_eq_true rfl) (Nat.le_of_ble_eq_true rfl) dX6_stuck_39)
  · skip
    have hw := hw.2 k4
    exact m_throwNW hw (Y0 := "java/lang/RuntimeException") (idx := 13) (bs := prog_35_method_4_code) (names := ["java/lang/Exception"]) 26 hx hb hfl hown hG hGV htab hlocks (hl.1.trans hml.symm) (by decide +kernel) (by decide +kernel) (by decide +kernel) ns_0 ns_1 ns_2 ns_5 gw881 gw52 rfl xat_X6_146 hP hD hS dX6_stuck_27 dX6_stuck_30 dX6_stuck_31 dX6_stuck_34 dX6_stuck_37 (Nat.le_of_ble_eq_true rfl) (Nat.le_of_ble_eq_true rfl) (Nat.le_of_ble_eq_true rfl) (Nat.le_of_ble_eq_true rfl) (Nat.le_of_ble_eq_true rfl) (Nat.le_of_ble_eq_true rfl)

set_option maxHeartbeats 4000000 in
set_option maxRecDepth 100000 in
theorem m_L_stuck (l : Launch) (hfl : l.stackTraces = false) (D : va_G) (ad : Nat → Nat) (cA : Nat → ClassId) (g : gv_T) (σ : Sg) (Q : Int32 → Sg → Prop) (hw : w_L_stuck  σ Q) : MW l yL_stuck cL_stuck 2 (some .int) [(0, 4, 5, 53)] (RM 7 1 6 136) D ad cA g [.ref (ad 0)] σ (fun v σ' => ∃ r : Int32, v = some (.int r) ∧ Q r σ') := by
  refine MW.of (by decide +kernel) (Nat.le_of_ble_eq_true rfl) ?_
  intro p e s m args below meth c A ls hx hb hr hml hown hG hlocks htab hA hS hP hK hD hGV hl
  have hown : s.vm.findClass RL = some m.cls := hown
  have hl : lv_has ls 2 [(0, .ref (ad 0))] := hl
  have hSF : CF p m c cL_stuck 2 s args RL := ⟨hx, hb, hml, hown, hG⟩
  refine lv_aload_n hx hb dL_stuck_0 rfl (lv_at hl 0 rfl) ?_
  refine mc_V hSF hl.1 hP hD hS hA hK hGV (m_X6_stuck l hfl D ad cA g  σ _ _ hw) goV_L_105 pd_X6_stuck ⟨(Nat.le_of_ble_eq_true rfl), (Nat.le_of_ble_eq_true rfl)⟩ ⟨(Nat.le_of_ble_eq_true rfl), (Nat.le_of_ble_eq_true rfl)⟩ (va_recv hK hP (ci := 8) (q0 := 0) rfl wl_0) dL_stuck_1 rfl (Nat.le_of_ble_eq_true rfl) (fun v9 σ2 H locs hq hP hD hS => ?_) (fun E9 σ3 H locs x9 ce9 hw hP hD hS h9 hv9 hc9 => ?_)
  · skip
    obtain ⟨r1, hv9, hw⟩ := hq
    subst hv9
    refine W.eq (g2 := F0 m 4 ls [.int r1]) rfl ?_
    refine W.widen (k := 1) (n := 6) (Nat.le_refl _) (Nat.le_refl _) ?_
    exact m_i ⟨_, rfl, hw⟩ hx hb hr hlocks rfl hP hD hS (Nat.le_of_ble_eq_true rfl) (Nat.le_of_ble_eq_true rfl) dL_stuck_4
  · skip
    obtain ⟨rfl, hw⟩ := hw
    refine vx_catch (own := RL) (name := "java/util/NoSuchElementException") hown [] { startPc := 0, endPc := 4, handlerPc := 5, catchType := 53 } [] (htab.trans rfl) (fun z hz => nomatch hz) rfl (by decide) (hG _ gw876) (va_Nw.use rfl (hGV.nw _ gw883)) h9 hv9 hc9 ?_
    refine W.eq (g2 := F0 m 5 ls [.ref x9]) rfl ?_
    refine W.widen (k := 1) (n := 6) (Nat.le_refl _) (Nat.le_refl _) ?_
    refine lv_astore_n (lv' := [(1, .ref x9), (0, .ref (ad 0))]) hx hb dL_stuck_5 rfl hl (by decide) rfl (fun ls hl => ?_)
    refine lv_bipush (v := (-75)) hx hb dL_stuck_6 (by decide) ?_
    exact m_i ⟨_, rfl, hw⟩ hx hb hr hlocks rfl hP hD hS (Nat.le_of_ble_eq_true rfl) (Nat.le_of_ble_eq_true rfl) dL_stuck_8

set_option maxHeartbeats 4000000 in
set_option maxRecDepth 100000 in
theorem m_X6_allForce (l : Launch) (hfl : l.stackTraces = false) (D : va_G) (ad : Nat → Nat) (cA : Nat → ClassId) (g : gv_T) (σ : Sg) (Q : Int64 → Sg → Prop) (X : String → Sg → Prop) (hw : w_X6_allForce  σ Q X) : MC l yX6_allForce cX6_allForce 4 (some .long) (RM 7 1 6 140) D ad cA g [.ref (ad 0)] σ (fun v σ' => ∃ r : Int64, v = some (.long r) ∧ Q r σ') X := by
  refine MC.of (plainFor_of_name (by decide +kernel)) (Nat.le_of_ble_eq_true rfl) ?_
  intro p e s m args below meth c A ls hx hb hr hml hown hG hlocks htab hA hS hP hK hD hGV hl
  have hown : s.vm.findClass RX6 = some m.cls := hown
  have hl : lv_has ls 4 [(0, .ref (ad 0))] := hl
  have hSF : CF p m c cX6_allForce 4 s args RX6 := ⟨hx, hb, hml, hown, hG⟩
  refine lv_aload_n hx hb dX6_allForce_0 rfl (lv_at hl 0 rfl) ?_
  refine mc_V hSF hl.1 hP hD hS hA hK hGV (m_X6_checkStanding l hfl D ad cA g  σ _ _ hw) goV_X6_121 pd_X6_checkStanding ⟨(Nat.le_of_ble_eq_true rfl), (Nat.le_of_ble_eq_true rfl)⟩ ⟨(Nat.le_of_ble_eq_true rfl), (Nat.le_of_ble_eq_true rfl)⟩ (va_recv hK hP (ci := 8) (q0 := 0) rfl wl_0) dX6_allForce_1 rfl (Nat.le_of_ble_eq_true rfl) (fun v9 σ2 H locs hq hP hD hS => ?_) (fun E9 σ9 H locs x9 ce9 hw hP hD hS h9 hv9 hc9 => ?_)
  · skip
    obtain ⟨hv9, hw⟩ := hq
    subst hv9
    refine W.eq (g2 := F0 m 4 ls []) rfl ?_
    refine W.widen (k := 1) (n := 6) (Nat.le_refl _) (Nat.le_refl _) ?_
    refine lv_lconst (v := 0) hx hb dX6_allForce_4 (by decide) ?_
    refine lv_lstore_n (lv' := [(1, .long 0), (0, .ref (ad 0))]) hx hb dX6_allForce_5 rfl hl (by decide) rfl (fun ls hl => ?_)
    refine lv_iconst (v := 0) hx hb dX6_allForce_6 (by decide) ?_
    refine lv_istore_n (lv' := [(3, .int 0), (1, .long 0), (0, .ref (ad 0))]) hx hb dX6_allForce_7 rfl hl (by decide) rfl (fun ls hl => ?_)
    obtain ⟨I3, μ3, hI3, hw3⟩ := hw
    have hl : lv_has ls 4 [(0, .ref (ad 0)), (1, .long 0), (3, .int 0)] := lv_sub hl [2, 1, 0] rfl
    suffices key3 : ∀ (n3 : Nat) (i1_3 : Int64) (i3_3 : Int32), μ3 i1_3 i3_3 < n3 → I3 i1_3 i3_3 → ∀ (H : Heap) (locs : List Loc) (ls : Array Slot), va_P D vwCl (WL ad cA σ2) H → va_D A (WL ad cA σ2) → va_S A s.heap H locs → lv_has ls 4 [(0, .ref (ad 0)), (1, .long i1_3), (3, .int i3_3)] → W p l e (RM 7 1 6 140) s m args below meth c H locs (1) (6) (vx_MQ below (QM D ad cA A (fun v σ' => ∃ r : Int64, v = some (.long r) ∧ Q r σ')) (XM D ad cA A X) args s (RM 7 1 6 140).cells (RM 7 1 6 140).slots A) (F0 m 8 ls []) from key3 _ _ _ (Nat.lt_succ_self _) hI3 _ _ ls hP hD hS hl
    clear hP hD hS hl
    intro n3
    induction n3 with
    | zero => intro _ _ h; exact absurd h (Nat.not_lt_zero _)
    | succ n3 ih3 =>
      intro i1_3 i3_3 hm3 hI3 H locs ls hP hD hS hl
      have hw := hw3 i1_3 i3_3 hI3
      refine lv_iload_n hx hb dX6_allForce_8 rfl (lv_at hl 2 rfl) ?_
      refine lv_aload_n hx hb dX6_allForce_9 rfl (lv_at hl 0 rfl) ?_
      refine k_get (ci := 8) (C := RX6) (T := TX6) (N := 5) (v := .ref (ad 1)) hx hb hG inX6 hown hK hP 0 wl_0 rfl 0 (by decide) gw305 rfl dX6_allForce_10 ?_
      refine k_get (ci := 4) (C := RX2) (T := TX2) (N := 12) (v := .int (gI σ2 1)) hx hb hG inX2 hown hK hP 1 wl_1 rfl 1 (by decide) gw73 rfl dX6_allForce_13 ?_
      refine lv_icmp_ge (tgt := 40) hx hb dX6_allForce_16 (by decide) (fun k4 => ?_) (fun k4 => ?_)
      · skip
        have hw := hw.1 k4
        refine lv_lload_n hx hb dX6_allForce_40 rfl (lv_at hl 1 rfl) ?_
        exact vx_ret (m_l ⟨_, rfl, hw⟩ hx hb hr hlocks hP hD hS (Nat.le_of_ble_eq_true rfl) (Nat.le_of_ble_eq_true rfl) dX6_allForce_41)
      · skip
        have hw := hw.2 k4
        refine lv_lload_n hx hb dX6_allForce_19 rfl (lv_at hl 1 rfl) ?_
        refine lv_aload_n hx hb dX6_allForce_20 rfl (lv_at hl 0 rfl) ?_
        refine k_get (ci := 8) (C := RX6) (T := TX6) (N := 5) (v := .ref (ad 12)) hx hb hG inX6 hown hK hP 0 wl_0 rfl 1 (by decide) gw306 rfl dX6_allForce_21 ?_
        refine k_get (ci := 3) (C := RX1) (T := TX1) (N := 17) (v := .ref (ad 15)) hx hb hG inX1 hown hK hP 12 wl_12 rfl 5 (by decide) gw147 rfl dX6_allForce_24 ?_
        refine lv_iload_n hx hb dX6_allForce_27 rfl (lv_at hl 2 rfl) ?_
        obtain ⟨hc5, hw⟩ := hw
        refine k_lald (v := gB σ2 2 (ix i3_3)) hx hb hK hP 15 wl_15 (ix i3_3) rfl rfl hc5 dX6_allForce_28 ?_
        refine k_mabsl (v := mabsl (gB σ2 2 (ix i3_3))) hx hb (hml.trans hl.1.symm) hown (hG _ gw871) (hG _ gw364) (hG _ gw41) (hG _ gw365) (Nat.le_of_ble_eq_true rfl) (Nat.le_of_ble_eq_true rfl) (Nat.le_of_ble_eq_true rfl) (Nat.le_of_ble_eq_true rfl) dX6_allForce_29 rfl ?_
        refine k_ladd (v := i1_3 + (mabsl (gB σ2 2 (ix i3_3)))) hx hb dX6_allForce_32 rfl ?_
        obtain ⟨v6, ev6⟩ : ∃ z : Int64, z = i1_3 + (mabsl (gB σ2 2 (ix i3_3))) := ⟨_, rfl⟩
        have hw := hw v6 ev6
        refine lv_lstore_n (lv' := [(1, .long v6), (0, .ref (ad 0)), (3, .int i3_3)]) hx hb dX6_allForce_33 rfl hl (by decide) (by subst ev6; rfl) (fun ls hl => ?_)
        refine lv_iinc (v := i3_3 + 1) (lv' := [(3, .int (i3_3 + 1)), (1, .long v6), (0, .ref (ad 0))]) hx hb dX6_allForce_34 hl (k := 2) rfl rfl (by decide) rfl (fun ls hl => ?_)
        refine lv_goto (tgt := 8) hx hb dX6_allForce_37 (by decide) ?_
        exact ih3 v6 (i3_3 + 1) (Nat.lt_of_lt_of_le hw.2 (Nat.le_of_lt_succ hm3)) hw.1 _ _ ls hP hD hS (lv_sub hl [2, 1, 0] rfl)
  · skip
    exact m_out hw htab hlocks h9 hv9 hc9 hP hD hS (Nat.le_of_ble_eq_true rfl) (Nat.le_of_ble_eq_true rfl)

set_option maxHeartbeats 4000000 in
set_option maxRecDepth 100000 in
theorem m_L_allForce (l : Launch) (hfl : l.stackTraces = false) (D : va_G) (ad : Nat → Nat) (cA : Nat → ClassId) (g : gv_T) (σ : Sg) (Q : Int64 → Sg → Prop) (hw : w_L_allForce  σ Q) : MW l yL_allForce cL_allForce 2 (some .long) [(0, 4, 5, 22)] (RM 8 1 6 163) D ad cA g [.ref (ad 0)] σ (fun v σ' => ∃ r : Int64, v = some (.long r) ∧ Q r σ') := by
  refine MW.of (by decide +kernel) (Nat.le_of_ble_eq_true rfl) ?_
  intro p e s m args below meth c A ls hx hb hr hml hown hG hlocks htab hA hS hP hK hD hGV hl
  have hown : s.vm.findClass RL = some m.cls := hown
  have hl : lv_has ls 2 [(0, .ref (ad 0))] := hl
  have hSF : CF p m c cL_allForce 2 s args RL := ⟨hx, hb, hml, hown, hG⟩
  refine lv_aload_n hx hb dL_allForce_0 rfl (lv_at hl 0 rfl) ?_
  refine mc_V hSF hl.1 hP hD hS hA hK hGV (m_X6_allForce l hfl D ad cA g  σ _ _ hw) goV_L_108 pd_X6_allForce ⟨(Nat.le_of_ble_eq_true rfl), (Nat.le_of_ble_eq_true rfl)⟩ ⟨(Nat.le_of_ble_eq_true rfl), (Nat.le_of_ble_eq_true rfl)⟩ (va_recv hK hP (ci := 8) (q0 := 0) rfl wl_0) dL_allForce_1 rfl (Nat.le_of_ble_eq_true rfl) (fun v9 σ2 H locs hq hP hD hS => ?_) (fun E9 σ3 H locs x9 ce9 hw hP hD hS h9 hv9 hc9 => ?_)
  · skip
    obtain ⟨r1, hv9, hw⟩ := hq
    subst hv9
    refine W.eq (g2 := F0 m 4 ls [.long r1]) rfl ?_
    refine W.widen (k := 1) (n := 6) (Nat.le_refl _) (Nat.le_refl _) ?_
    exact m_l ⟨_, rfl, hw⟩ hx hb hr hlocks hP hD hS (Nat.le_of_ble_eq_true rfl) (Nat.le_of_ble_eq_true rfl) dL_allForce_4
  · skip
    obtain ⟨rfl, hw⟩ := hw
    refine vx_catch (own := RL) (name := "java/lang/IllegalStateException") hown [] { startPc := 0, endPc := 4, handlerPc := 5, catchType := 22 } [] (htab.trans rfl) (fun z hz => nomatch hz) rfl (by decide) (hG _ gw500) (va_Nw.use rfl (hGV.nw _ gw669)) h9 hv9 hc9 ?_
    refine W.eq (g2 := F0 m 5 ls [.ref x9]) rfl ?_
    refine W.widen (k := 1) (n := 6) (Nat.le_refl _) (Nat.le_refl _) ?_
    refine lv_astore_n (lv' := [(1, .ref x9), (0, .ref (ad 0))]) hx hb dL_allForce_5 rfl hl (by decide) rfl (fun ls hl => ?_)
    refine lv_ldc2 hx hb hown (hG _ gw872) dL_allForce_6 ?_
    exact m_l ⟨_, rfl, hw⟩ hx hb hr hlocks hP hD hS (Nat.le_of_ble_eq_true rfl) (Nat.le_of_ble_eq_true rfl) dL_allForce_9

set_option maxHeartbeats 4000000 in
set_option maxRecDepth 100000 in
theorem m_X6_rightShare (l : Launch) (hfl : l.stackTraces = false) (D : va_G) (ad : Nat → Nat) (cA : Nat → ClassId) (g : gv_T) (σ : Sg) (Q : UInt32 → Prop) (X : String → Sg → Prop) (hw : w_X6_rightShare  σ Q X) : MC l yX6_rightShare cX6_rightShare 3 (some .float) (RM 6 1 6 82) D ad cA g [.ref (ad 0)] σ (fun v σ' => ∃ r : UInt32, v = some (.float r) ∧ σ' = σ ∧ Q r) X := by
  refine MC.of (plainFor_of_name (by decide +kernel)) (Nat.le_of_ble_eq_true rfl) ?_
  intro p e s m args below meth c A ls hx hb hr hml hown hG hlocks htab hA hS hP hK hD hGV hl
  have hown : s.vm.findClass RX6 = some m.cls := hown
  have hl : lv_has ls 3 [(0, .ref (ad 0))] := hl
  have hSF : CF p m c cX6_rightShare 3 s args RX6 := ⟨hx, hb, hml, hown, hG⟩
  refine lv_aload_n hx hb dX6_rightShare_0 rfl (lv_at hl 0 rfl) ?_
  refine k_get (ci := 8) (C := RX6) (T := TX6) (N := 5) (v := .ref (ad 32)) hx hb hG inX6 hown hK hP 0 wl_0 rfl 2 (by decide) gw307 rfl dX6_rightShare_1 ?_
  refine k_get (ci := 5) (C := RX3) (T := TX3) (N := 6) (v := .int (gI σ 4)) hx hb hG inX3 hown hK hP 32 wl_32 rfl 0 (by decide) gw202 rfl dX6_rightShare_4 ?_
  refine lv_if_ne (tgt := 20) hx hb dX6_rightShare_7 (by decide) (fun k1 => ?_) (fun k1 => ?_)
  · skip
    have hw := hw.1 k1
    refine lv_iconst (v := 0) hx hb dX6_rightShare_20 (by decide) ?_
    refine lv_istore_n (lv' := [(1, .int 0), (0, .ref (ad 0))]) hx hb dX6_rightShare_21 rfl hl (by decide) rfl (fun ls hl => ?_)
    refine lv_iconst (v := 0) hx hb dX6_rightShare_22 (by decide) ?_
    refine lv_istore_n (lv' := [(2, .int 0), (1, .int 0), (0, .ref (ad 0))]) hx hb dX6_rightShare_23 rfl hl (by decide) rfl (fun ls hl => ?_)
    obtain ⟨I2, μ2, hI2, hw2⟩ := hw
    have hl : lv_has ls 3 [(0, .ref (ad 0)), (1, .int 0), (2, .int 0)] := lv_sub hl [2, 1, 0] rfl
    suffices key2 : ∀ (n2 : Nat) (i1_2 : Int32) (i2_2 : Int32), μ2 i1_2 i2_2 < n2 → I2 i1_2 i2_2 → ∀ (H : Heap) (locs : List Loc) (ls : Array Slot), va_P D vwCl (WL ad cA σ) H → va_D A (WL ad cA σ) → va_S A s.heap H locs → lv_has ls 3 [(0, .ref (ad 0)), (1, .int i1_2), (2, .int i2_2)] → W p l e (RM 6 1 6 82) s m args below meth c H locs (0) (0) (vx_MQ below (QM D ad cA A (fun v σ' => ∃ r : UInt32, v = some (.float r) ∧ σ' = σ ∧ Q r)) (XM D ad cA A X) args s (RM 6 1 6 82).cells (RM 6 1 6 82).slots A) (F0 m 24 ls []) from key2 _ _ _ (Nat.lt_succ_self _) hI2 _ _ ls hP hD hS hl
    clear hP hD hS hl
    intro n2
    induction n2 with
    | zero => intro _ _ h; exact absurd h (Nat.not_lt_zero _)
    | succ n2 ih2 =>
      intro i1_2 i2_2 hm2 hI2 H locs ls hP hD hS hl
      have hw := hw2 i1_2 i2_2 hI2
      refine lv_iload_n hx hb dX6_rightShare_24 rfl (lv_at hl 2 rfl) ?_
      refine lv_aload_n hx hb dX6_rightShare_25 rfl (lv_at hl 0 rfl) ?_
      refine k_get (ci := 8) (C := RX6) (T := TX6) (N := 5) (v := .ref (ad 32)) hx hb hG inX6 hown hK hP 0 wl_0 rfl 2 (by decide) gw307 rfl dX6_rightShare_26 ?_
      refine k_get (ci := 5) (C := RX3) (T := TX3) (N := 6) (v := .int (gI σ 4)) hx hb hG inX3 hown hK hP 32 wl_32 rfl 0 (by decide) gw202 rfl dX6_rightShare_29 ?_
      refine lv_icmp_ge (tgt := 64) hx hb dX6_rightShare_32 (by decide) (fun k3 => ?_) (fun k3 => ?_)
      · skip
        have hw := hw.1 k3
        refine lv_iload_n hx hb dX6_rightShare_64 rfl (lv_at hl 1 rfl) ?_
        refine lv_i2f hx hb dX6_rightShare_65 ?_
        refine lv_aload_n hx hb dX6_rightShare_66 rfl (lv_at hl 0 rfl) ?_
        refine k_get (ci := 8) (C := RX6) (T := TX6) (N := 5) (v := .ref (ad 32)) hx hb hG inX6 hown hK hP 0 wl_0 rfl 2 (by decide) gw307 rfl dX6_rightShare_67 ?_
        refine k_get (ci := 5) (C := RX3) (T := TX3) (N := 6) (v := .int (gI σ 4)) hx hb hG inX3 hown hK hP 32 wl_32 rfl 0 (by decide) gw202 rfl dX6_rightShare_70 ?_
        refine lv_i2f hx hb dX6_rightShare_73 ?_
        obtain ⟨hc4, hw⟩ := hw
        refine lv_fdiv hx hb dX6_rightShare_74 hc4 ?_
        exact vx_ret (m_f ⟨_, rfl, rfl, hw⟩ hx hb hr hlocks hP hD hS (Nat.le_of_ble_eq_true rfl) (Nat.le_of_ble_eq_true rfl) dX6_rightShare_75)
      · skip
        have hw := hw.2 k3
        refine lv_iload_n hx hb dX6_rightShare_35 rfl (lv_at hl 1 rfl) ?_
        refine lv_aload_n hx hb dX6_rightShare_36 rfl (lv_at hl 0 rfl) ?_
        refine k_get (ci := 8) (C := RX6) (T := TX6) (N := 5) (v := .ref (ad 32)) hx hb hG inX6 hown hK hP 0 wl_0 rfl 2 (by decide) gw307 rfl dX6_rightShare_37 ?_
        refine lv_iload_n hx hb dX6_rightShare_40 rfl (lv_at hl 2 rfl) ?_
        refine lv_aload_n hx hb dX6_rightShare_41 rfl (lv_at hl 0 rfl) ?_
        refine k_get (ci := 8) (C := RX6) (T := TX6) (N := 5) (v := .ref (ad 1)) hx hb hG inX6 hown hK hP 0 wl_0 rfl 0 (by decide) gw305 rfl dX6_rightShare_42 ?_
        refine mc_V hSF hl.1 hP hD hS hA hK hGV (m_X3_isThinEnough l hfl D ad cA g i2_2 σ _ hw) goV_X6_182 pd_X3_isThinEnough ⟨(Nat.le_of_ble_eq_true rfl), (Nat.le_of_ble_eq_true rfl)⟩ ⟨(Nat.le_of_ble_eq_true rfl), (Nat.le_of_ble_eq_true rfl)⟩ (va_recv hK hP (ci := 5) (q0 := 32) rfl wl_32) dX6_rightShare_45 rfl (Nat.le_of_ble_eq_true rfl) (fun v9 σ9 H locs hq hP hD hS => ?_) (fun _ _ _ _ _ _ h => h.elim)
        obtain ⟨r5, hv9, hs9, hw⟩ := hq
        subst hv9
        subst σ9
        refine W.eq (g2 := F0 m 48 ls [.int r5, .int i1_2]) rfl ?_
        refine W.widen (k := 0) (n := 0) (Nat.le_refl _) (Nat.le_refl _) ?_
        refine lv_if_eq (tgt := 55) hx hb dX6_rightShare_48 (by decide) (fun k6 => ?_) (fun k6 => ?_)
        · skip
          have hw := hw.1 k6
          refine lv_iconst (v := 0) hx hb dX6_rightShare_55 (by decide) ?_
          refine k_iadd (v := i1_2 + 0) hx hb dX6_rightShare_56 rfl ?_
          obtain ⟨v7, ev7⟩ : ∃ z : Int32, z = i1_2 + 0 := ⟨_, rfl⟩
          have hw := hw v7 ev7
          refine lv_istore_n (lv' := [(1, .int v7), (0, .ref (ad 0)), (2, .int i2_2)]) hx hb dX6_rightShare_57 rfl hl (by decide) (by subst ev7; rfl) (fun ls hl => ?_)
          refine lv_iinc (v := i2_2 + 1) (lv' := [(2, .int (i2_2 + 1)), (1, .int v7), (0, .ref (ad 0))]) hx hb dX6_rightShare_58 hl (k := 2) rfl rfl (by decide) rfl (fun ls hl => ?_)
          refine lv_goto (tgt := 24) hx hb dX6_rightShare_61 (by decide) ?_
          exact ih2 v7 (i2_2 + 1) (Nat.lt_of_lt_of_le hw.2 (Nat.le_of_lt_succ hm2)) hw.1 _ _ ls hP hD hS (lv_sub hl [2, 1, 0] rfl)
        · skip
          have hw := hw.2 k6
          refine lv_iconst (v := 1) hx hb dX6_rightShare_51 (by decide) ?_
          refine lv_goto (tgt := 56) hx hb dX6_rightShare_52 (by decide) ?_
          refine k_iadd (v := i1_2 + 1) hx hb dX6_rightShare_56 rfl ?_
          obtain ⟨v8, ev8⟩ : ∃ z : Int32, z = i1_2 + 1 := ⟨_, rfl⟩
          have hw := hw v8 ev8
          refine lv_istore_n (lv' := [(1, .int v8), (0, .ref (ad 0)), (2, .int i2_2)]) hx hb dX6_rightShare_57 rfl hl (by decide) (by subst ev8; rfl) (fun ls hl => ?_)
          refine lv_iinc (v := i2_2 + 1) (lv' := [(2, .int (i2_2 + 1)), (1, .int v8), (0, .ref (ad 0))]) hx hb dX6_rightShare_58 hl (k := 2) rfl rfl (by decide) rfl (fun ls hl => ?_)
          refine lv_goto (tgt := 24) hx hb dX6_rightShare_61 (by decide) ?_
          exact ih2 v8 (i2_2 + 1) (Nat.lt_of_lt_of_le hw.2 (Nat.le_of_lt_succ hm2)) hw.1 _ _ ls hP hD hS (lv_sub hl [2, 1, 0] rfl)
  · skip
    have hw := hw.2 k1
    exact m_throw hw (names := ["java/lang/RuntimeException", "java/lang/Exception"]) 21 hx hb hfl hown hG hGV htab hlocks (hl.1.trans hml.symm) (by decide +kernel) (by decide +kernel) gw926 gw53 rfl xat_X6_268 hP hD hS dX6_rightShare_10 dX6_rightShare_13 dX6_rightShare_14 dX6_rightShare_16 dX6_rightShare_19 (Nat.le_of_ble_eq_true rfl) (Nat.le_of_ble_eq_true rfl) (Nat.le_of_ble_eq_true rfl) (Nat.le_of_ble_eq_true rfl) (Nat.le_of_ble_eq_true rfl) (Nat.le_of_ble_eq_true rfl)

set_option maxHeartbeats 4000000 in
set_option maxRecDepth 100000 in
theorem m_L_rightShare (l : Launch) (hfl : l.stackTraces = false) (D : va_G) (ad : Nat → Nat) (cA : Nat → ClassId) (g : gv_T) (σ : Sg) (Q : UInt32 → Prop) (hw : w_L_rightShare  σ Q) : MW l yL_rightShare cL_rightShare 2 (some .float) [(0, 4, 5, 116)] (RM 7 1 6 104) D ad cA g [.ref (ad 0)] σ (fun v σ' => ∃ r : UInt32, v = some (.float r) ∧ σ' = σ ∧ Q r) := by
  refine MW.of (by decide +kernel) (Nat.le_of_ble_eq_true rfl) ?_
  intro p e s m args below meth c A ls hx hb hr hml hown hG hlocks htab hA hS hP hK hD hGV hl
  have hown : s.vm.findClass RL = some m.cls := hown
  have hl : lv_has ls 2 [(0, .ref (ad 0))] := hl
  have hSF : CF p m c cL_rightShare 2 s args RL := ⟨hx, hb, hml, hown, hG⟩
  refine lv_aload_n hx hb dL_rightShare_0 rfl (lv_at hl 0 rfl) ?_
  refine mc_V hSF hl.1 hP hD hS hA hK hGV (m_X6_rightShare l hfl D ad cA g  σ _ _ hw) goV_L_112 pd_X6_rightShare ⟨(Nat.le_of_ble_eq_true rfl), (Nat.le_of_ble_eq_true rfl)⟩ ⟨(Nat.le_of_ble_eq_true rfl), (Nat.le_of_ble_eq_true rfl)⟩ (va_recv hK hP (ci := 8) (q0 := 0) rfl wl_0) dL_rightShare_1 rfl (Nat.le_of_ble_eq_true rfl) (fun v9 σ9 H locs hq hP hD hS => ?_) (fun E9 σ2 H locs x9 ce9 hw hP hD hS h9 hv9 hc9 => ?_)
  · skip
    obtain ⟨r1, hv9, hs9, hw⟩ := hq
    subst hv9
    subst σ9
    refine W.eq (g2 := F0 m 4 ls [.float r1]) rfl ?_
    refine W.widen (k := 1) (n := 6) (Nat.le_refl _) (Nat.le_refl _) ?_
    exact m_f ⟨_, rfl, rfl, hw⟩ hx hb hr hlocks hP hD hS (Nat.le_of_ble_eq_true rfl) (Nat.le_of_ble_eq_true rfl) dL_rightShare_4
  · skip
    obtain ⟨rfl, hs9, hw⟩ := hw
    subst hs9
    refine vx_catch (own := RL) (name := "java/lang/ArithmeticException") hown [] { startPc := 0, endPc := 4, handlerPc := 5, catchType := 116 } [] (htab.trans rfl) (fun z hz => nomatch hz) rfl (by decide) (hG _ gw908) (va_Nw.use rfl (hGV.nw _ gw920)) h9 hv9 hc9 ?_
    refine W.eq (g2 := F0 m 5 ls [.ref x9]) rfl ?_
    refine W.widen (k := 1) (n := 6) (Nat.le_refl _) (Nat.le_refl _) ?_
    refine lv_astore_n (lv' := [(1, .ref x9), (0, .ref (ad 0))]) hx hb dL_rightShare_5 rfl hl (by decide) rfl (fun ls hl => ?_)
    refine lv_ldcf hx hb hown (hG _ gw1023) dL_rightShare_6 ?_
    exact m_f ⟨_, rfl, rfl, hw⟩ hx hb hr hlocks hP hD hS (Nat.le_of_ble_eq_true rfl) (Nat.le_of_ble_eq_true rfl) dL_rightShare_8

set_option maxHeartbeats 4000000 in
set_option maxRecDepth 100000 in
theorem m_X1_sumOfThousandths (l : Launch) (hfl : l.stackTraces = false) (D : va_G) (ad : Nat → Nat) (cA : Nat → ClassId) (g : gv_T) (p1 : Int32) (σ : Sg) (Q : UInt64 → Prop) (hw : w_X1_sumOfThousandths p1 σ Q) : MC l yX1_sumOfThousandths cX1_sumOfThousandths 7 (some .double) (RM 1 0 0 26) D ad cA g [.ref (ad 12), .int p1] σ (fun v σ' => ∃ r : UInt64, v = some (.double r) ∧ σ' = σ ∧ Q r) (fun _ _ => False) := by
  refine MC.of (plainFor_of_name (by decide +kernel)) (Nat.le_of_ble_eq_true rfl) ?_
  intro p e s m args below meth c A ls hx hb hr hml hown hG hlocks htab hA hS hP hK hD hGV hl
  have hown : s.vm.findClass RX1 = some m.cls := hown
  have hl : lv_has ls 7 [(0, .ref (ad 12)), (1, .int p1)] := hl
  have hSF : CF p m c cX1_sumOfThousandths 7 s args RX1 := ⟨hx, hb, hml, hown, hG⟩
  refine lv_lconst (v := 0) hx hb dX1_sumOfThousandths_0 (by decide) ?_
  refine lv_lstore_n (lv' := [(2, .long 0), (0, .ref (ad 12)), (1, .int p1)]) hx hb dX1_sumOfThousandths_1 rfl hl (by decide) rfl (fun ls hl => ?_)
  refine lv_lconst (v := 0) hx hb dX1_sumOfThousandths_2 (by decide) ?_
  refine lv_lstore (lv' := [(4, .long 0), (2, .long 0), (0, .ref (ad 12)), (1, .int p1)]) hx hb dX1_sumOfThousandths_3 hl (by decide) rfl (fun ls hl => ?_)
  refine lv_iconst (v := 0) hx hb dX1_sumOfThousandths_5 (by decide) ?_
  refine lv_istore (lv' := [(6, .int 0), (4, .long 0), (2, .long 0), (0, .ref (ad 12)), (1, .int p1)]) hx hb dX1_sumOfThousandths_6 hl (by decide) rfl (fun ls hl => ?_)
  obtain ⟨I1, μ1, hI1, hw1⟩ := hw
  have hl : lv_has ls 7 [(0, .ref (ad 12)), (1, .int p1), (2, .long 0), (4, .long 0), (6, .int 0)] := lv_sub hl [3, 4, 2, 1, 0] rfl
  suffices key1 : ∀ (n1 : Nat) (i2_1 : Int64) (i4_1 : Int64) (i6_1 : Int32), μ1 i2_1 i4_1 i6_1 < n1 → I1 i2_1 i4_1 i6_1 → ∀ (H : Heap) (locs : List Loc) (ls : Array Slot), va_P D vwCl (WL ad cA σ) H → va_D A (WL ad cA σ) → va_S A s.heap H locs → lv_has ls 7 [(0, .ref (ad 12)), (1, .int p1), (2, .long i2_1), (4, .long i4_1), (6, .int i6_1)] → W p l e (RM 1 0 0 26) s m args below meth c H locs (0) (0) (vx_MQ below (QM D ad cA A (fun v σ' => ∃ r : UInt64, v = some (.double r) ∧ σ' = σ ∧ Q r)) (XM D ad cA A (fun _ _ => False)) args s (RM 1 0 0 26).cells (RM 1 0 0 26).slots A) (F0 m 8 ls []) from key1 _ _ _ _ (Nat.lt_succ_self _) hI1 _ _ ls hP hD hS hl
  clear hP hD hS hl
  intro n1
  induction n1 with
  | zero => intro _ _ _ h; exact absurd h (Nat.not_lt_zero _)
  | succ n1 ih1 =>
    intro i2_1 i4_1 i6_1 hm1 hI1 H locs ls hP hD hS hl
    have hw := hw1 i2_1 i4_1 i6_1 hI1
    refine lv_iload hx hb dX1_sumOfThousandths_8 (lv_at hl 4 rfl) ?_
    refine lv_iload_n hx hb dX1_sumOfThousandths_10 rfl (lv_at hl 1 rfl) ?_
    refine lv_icmp_ge (tgt := 64) hx hb dX1_sumOfThousandths_11 (by decide) (fun k2 => ?_) (fun k2 => ?_)
    · skip
      have hw := hw.1 k2
      refine lv_lload_n hx hb dX1_sumOfThousandths_64 rfl (lv_at hl 2 rfl) ?_
      refine lv_l2d hx hb dX1_sumOfThousandths_65 ?_
      refine lv_ldc2d hx hb hown (hG _ gw939) dX1_sumOfThousandths_66 ?_
      obtain ⟨hc3, hw⟩ := hw
      refine lv_dmul hx hb dX1_sumOfThousandths_69 hc3 ?_
      refine lv_lload hx hb dX1_sumOfThousandths_70 (lv_at hl 3 rfl) ?_
      refine lv_l2d hx hb dX1_sumOfThousandths_72 ?_
      obtain ⟨hc4, hw⟩ := hw
      refine lv_dadd hx hb dX1_sumOfThousandths_73 hc4 ?_
      exact vx_ret (m_d ⟨_, rfl, rfl, hw⟩ hx hb hr hlocks hP hD hS (Nat.le_of_ble_eq_true rfl) (Nat.le_of_ble_eq_true rfl) dX1_sumOfThousandths_74)
    · skip
      have hw := hw.2 k2
      refine lv_lload_n hx hb dX1_sumOfThousandths_14 rfl (lv_at hl 2 rfl) ?_
      refine lv_ldc2 hx hb hown (hG _ gw932) dX1_sumOfThousandths_15 ?_
      refine lv_aload_n hx hb dX1_sumOfThousandths_18 rfl (lv_at hl 0 rfl) ?_
      refine k_get (ci := 3) (C := RX1) (T := TX1) (N := 17) (v := .ref (ad 13)) hx hb hG inX1 hown hK hP 12 wl_12 rfl 3 (by decide) gw144 rfl dX1_sumOfThousandths_19 ?_
      refine lv_iload hx hb dX1_sumOfThousandths_22 (lv_at hl 4 rfl) ?_
      obtain ⟨hc5, hw⟩ := hw
      refine k_lald (v := gB σ 0 (ix i6_1)) hx hb hK hP 13 wl_13 (ix i6_1) rfl rfl hc5 dX1_sumOfThousandths_24 ?_
      refine lv_bipush (v := 32) hx hb dX1_sumOfThousandths_25 (by decide) ?_
      refine lv_lshr (v := lShr (gB σ 0 (ix i6_1)) 32) hx hb dX1_sumOfThousandths_27 rfl ?_
      refine k_lmul (v := 1000 * (lShr (gB σ 0 (ix i6_1)) 32)) hx hb dX1_sumOfThousandths_28 rfl ?_
      refine k_ladd (v := i2_1 + (1000 * (lShr (gB σ 0 (ix i6_1)) 32))) hx hb dX1_sumOfThousandths_29 rfl ?_
      obtain ⟨v6, ev6⟩ : ∃ z : Int64, z = i2_1 + (1000 * (lShr (gB σ 0 (ix i6_1)) 32)) := ⟨_, rfl⟩
      have hw := hw v6 ev6
      refine lv_lstore_n (lv' := [(2, .long v6), (0, .ref (ad 12)), (1, .int p1), (4, .long i4_1), (6, .int i6_1)]) hx hb dX1_sumOfThousandths_30 rfl hl (by decide) (by subst ev6; rfl) (fun ls hl => ?_)
      refine lv_lload hx hb dX1_sumOfThousandths_31 (lv_at hl 3 rfl) ?_
      refine lv_ldc2 hx hb hown (hG _ gw932) dX1_sumOfThousandths_33 ?_
      refine lv_aload_n hx hb dX1_sumOfThousandths_36 rfl (lv_at hl 1 rfl) ?_
      refine k_get (ci := 3) (C := RX1) (T := TX1) (N := 17) (v := .ref (ad 13)) hx hb hG inX1 hown hK hP 12 wl_12 rfl 3 (by decide) gw144 rfl dX1_sumOfThousandths_37 ?_
      refine lv_iload hx hb dX1_sumOfThousandths_40 (lv_at hl 4 rfl) ?_
      obtain ⟨hc7, hw⟩ := hw
      refine k_lald (v := gB σ 0 (ix i6_1)) hx hb hK hP 13 wl_13 (ix i6_1) rfl rfl hc7 dX1_sumOfThousandths_42 ?_
      refine lv_ldc2 hx hb hown (hG _ gw933) dX1_sumOfThousandths_43 ?_
      refine k_land (v := (gB σ 0 (ix i6_1)) &&& 4294967295) hx hb dX1_sumOfThousandths_46 rfl ?_
      refine k_lmul (v := 1000 * ((gB σ 0 (ix i6_1)) &&& 4294967295)) hx hb dX1_sumOfThousandths_47 rfl ?_
      refine lv_aload_n hx hb dX1_sumOfThousandths_48 rfl (lv_at hl 1 rfl) ?_
      refine lv_iload hx hb dX1_sumOfThousandths_49 (lv_at hl 4 rfl) ?_
      refine mc_V hSF hl.1 hP hD hS hA hK hGV (m_X1_restInThousandths l hfl D ad cA g i6_1 σ _ hw) goV_X1_175 pd_X1_restInThousandths ⟨(Nat.le_of_ble_eq_true rfl), (Nat.le_of_ble_eq_true rfl)⟩ ⟨(Nat.le_of_ble_eq_true rfl), (Nat.le_of_ble_eq_true rfl)⟩ (va_recv hK hP (ci := 3) (q0 := 12) rfl wl_12) dX1_sumOfThousandths_51 rfl (Nat.le_of_ble_eq_true rfl) (fun v9 σ9 H locs hq hP hD hS => ?_) (fun _ _ _ _ _ _ h => h.elim)
      obtain ⟨r8, hv9, hs9, hw⟩ := hq
      subst hv9
      subst σ9
      refine W.eq (g2 := F0 m 54 ls [.long r8, .long (1000 * ((gB σ 0 (ix i6_1)) &&& 4294967295)), .long i4_1]) rfl ?_
      refine W.widen (k := 0) (n := 0) (Nat.le_refl _) (Nat.le_refl _) ?_
      refine k_ladd (v := (1000 * ((gB σ 0 (ix i6_1)) &&& 4294967295)) + r8) hx hb dX1_sumOfThousandths_54 rfl ?_
      refine k_ladd (v := i4_1 + ((1000 * ((gB σ 0 (ix i6_1)) &&& 4294967295)) + r8)) hx hb dX1_sumOfThousandths_55 rfl ?_
      obtain ⟨v9, ev9⟩ : ∃ z : Int64, z = i4_1 + ((1000 * ((gB σ 0 (ix i6_1)) &&& 4294967295)) + r8) := ⟨_, rfl⟩
      have hw := hw v9 ev9
      refine lv_lstore (lv' := [(4, .long v9), (2, .long v6), (0, .ref (ad 12)), (1, .int p1), (6, .int i6_1)]) hx hb dX1_sumOfThousandths_56 hl (by decide) (by subst ev9; rfl) (fun ls hl => ?_)
      refine lv_iinc (v := i6_1 + 1) (lv' := [(6, .int (i6_1 + 1)), (4, .long v9), (2, .long v6), (0, .ref (ad 12)), (1, .int p1)]) hx hb dX1_sumOfThousandths_58 hl (k := 4) rfl rfl (by decide) rfl (fun ls hl => ?_)
      refine lv_goto (tgt := 8) hx hb dX1_sumOfThousandths_61 (by decide) ?_
      exact ih1 v6 v9 (i6_1 + 1) (Nat.lt_of_lt_of_le hw.2 (Nat.le_of_lt_succ hm1)) hw.1 _ _ ls hP hD hS (lv_sub hl [3, 4, 2, 1, 0] rfl)

set_option maxHeartbeats 4000000 in
set_option maxRecDepth 100000 in
theorem m_X6_meanPull (l : Launch) (hfl : l.stackTraces = false) (D : va_G) (ad : Nat → Nat) (cA : Nat → ClassId) (g : gv_T) (σ : Sg) (Q : UInt64 → Sg → Prop) (X : String → Sg → Prop) (hw : w_X6_meanPull  σ Q X) : MC l yX6_meanPull cX6_meanPull 1 (some .double) (RM 7 2 12 140) D ad cA g [.ref (ad 0)] σ (fun v σ' => ∃ r : UInt64, v = some (.double r) ∧ Q r σ') X := by
  refine MC.of (plainFor_of_name (by decide +kernel)) (Nat.le_of_ble_eq_true rfl) ?_
  intro p e s m args below meth c A ls hx hb hr hml hown hG hlocks htab hA hS hP hK hD hGV hl
  have hown : s.vm.findClass RX6 = some m.cls := hown
  have hl : lv_has ls 1 [(0, .ref (ad 0))] := hl
  have hSF : CF p m c cX6_meanPull 1 s args RX6 := ⟨hx, hb, hml, hown, hG⟩
  refine lv_aload_n hx hb dX6_meanPull_0 rfl (lv_at hl 0 rfl) ?_
  refine mc_V hSF hl.1 hP hD hS hA hK hGV (m_X6_checkStanding l hfl D ad cA g  σ _ _ hw) goV_X6_121 pd_X6_checkStanding ⟨(Nat.le_of_ble_eq_true rfl), (Nat.le_of_ble_eq_true rfl)⟩ ⟨(Nat.le_of_ble_eq_true rfl), (Nat.le_of_ble_eq_true rfl)⟩ (va_recv hK hP (ci := 8) (q0 := 0) rfl wl_0) dX6_meanPull_1 rfl (Nat.le_of_ble_eq_true rfl) (fun v9 σ2 H locs hq hP hD hS => ?_) (fun E9 σ9 H locs x9 ce9 hw hP hD hS h9 hv9 hc9 => ?_)
  · skip
    obtain ⟨hv9, hw⟩ := hq
    subst hv9
    refine W.eq (g2 := F0 m 4 ls []) rfl ?_
    refine W.widen (k := 1) (n := 6) (Nat.le_refl _) (Nat.le_refl _) ?_
    refine lv_aload_n hx hb dX6_meanPull_4 rfl (lv_at hl 0 rfl) ?_
    refine k_get (ci := 8) (C := RX6) (T := TX6) (N := 5) (v := .ref (ad 1)) hx hb hG inX6 hown hK hP 0 wl_0 rfl 0 (by decide) gw305 rfl dX6_meanPull_5 ?_
    refine k_get (ci := 4) (C := RX2) (T := TX2) (N := 12) (v := .int (gI σ2 1)) hx hb hG inX2 hown hK hP 1 wl_1 rfl 1 (by decide) gw73 rfl dX6_meanPull_8 ?_
    refine lv_if_ne (tgt := 24) hx hb dX6_meanPull_11 (by decide) (fun k3 => ?_) (fun k3 => ?_)
    · skip
      have hw := hw.1 k3
      refine lv_aload_n hx hb dX6_meanPull_24 rfl (lv_at hl 0 rfl) ?_
      refine k_get (ci := 8) (C := RX6) (T := TX6) (N := 5) (v := .ref (ad 12)) hx hb hG inX6 hown hK hP 0 wl_0 rfl 1 (by decide) gw306 rfl dX6_meanPull_25 ?_
      refine lv_aload_n hx hb dX6_meanPull_28 rfl (lv_at hl 0 rfl) ?_
      refine k_get (ci := 8) (C := RX6) (T := TX6) (N := 5) (v := .ref (ad 1)) hx hb hG inX6 hown hK hP 0 wl_0 rfl 0 (by decide) gw305 rfl dX6_meanPull_29 ?_
      refine k_get (ci := 4) (C := RX2) (T := TX2) (N := 12) (v := .int (gI σ2 1)) hx hb hG inX2 hown hK hP 1 wl_1 rfl 1 (by decide) gw73 rfl dX6_meanPull_32 ?_
      refine mc_V hSF hl.1 hP hD hS hA hK hGV (m_X1_sumOfThousandths l hfl D ad cA g (gI σ2 1) σ2 _ hw) goV_X6_269 pd_X1_sumOfThousandths ⟨(Nat.le_of_ble_eq_true rfl), (Nat.le_of_ble_eq_true rfl)⟩ ⟨(Nat.le_of_ble_eq_true rfl), (Nat.le_of_ble_eq_true rfl)⟩ (va_recv hK hP (ci := 3) (q0 := 12) rfl wl_12) dX6_meanPull_35 rfl (Nat.le_of_ble_eq_true rfl) (fun v9 σ9 H locs hq hP hD hS => ?_) (fun _ _ _ _ _ _ h => h.elim)
      obtain ⟨r4, hv9, hs9, hw⟩ := hq
      subst hv9
      subst σ9
      refine W.eq (g2 := F0 m 38 ls [.double r4]) rfl ?_
      refine W.widen (k := 1) (n := 6) (Nat.le_refl _) (Nat.le_refl _) ?_
      refine lv_aload_n hx hb dX6_meanPull_38 rfl (lv_at hl 0 rfl) ?_
      refine k_get (ci := 8) (C := RX6) (T := TX6) (N := 5) (v := .ref (ad 1)) hx hb hG inX6 hown hK hP 0 wl_0 rfl 0 (by decide) gw305 rfl dX6_meanPull_39 ?_
      refine k_get (ci := 4) (C := RX2) (T := TX2) (N := 12) (v := .int (gI σ2 1)) hx hb hG inX2 hown hK hP 1 wl_1 rfl 1 (by decide) gw73 rfl dX6_meanPull_42 ?_
      refine lv_i2d hx hb dX6_meanPull_45 ?_
      obtain ⟨hc5, hw⟩ := hw
      refine lv_ddiv hx hb dX6_meanPull_46 hc5 ?_
      exact vx_ret (m_d ⟨_, rfl, hw⟩ hx hb hr hlocks hP hD hS (Nat.le_of_ble_eq_true rfl) (Nat.le_of_ble_eq_true rfl) dX6_meanPull_47)
    · skip
      have hw := hw.2 k3
      exact m_throw hw (names := ["java/lang/RuntimeException", "java/lang/Exception"]) 18 hx hb hfl hown hG hGV htab hlocks (hl.1.trans hml.symm) (by decide +kernel) (by decide +kernel) gw926 gw53 rfl xat_X6_268 hP hD hS dX6_meanPull_14 dX6_meanPull_17 dX6_meanPull_18 dX6_meanPull_20 dX6_meanPull_23 (Nat.le_of_ble_eq_true rfl) (Nat.le_of_ble_eq_true rfl) (Nat.le_of_ble_eq_true rfl) (Nat.le_of_ble_eq_true rfl) (Nat.le_of_ble_eq_true rfl) (Nat.le_of_ble_eq_true rfl)
  · skip
    exact m_out hw htab hlocks h9 hv9 hc9 hP hD hS (Nat.le_of_ble_eq_true rfl) (Nat.le_of_ble_eq_true rfl)

set_option maxHeartbeats 4000000 in
set_option maxRecDepth 100000 in
theorem m_L_meanPull (l : Launch) (hfl : l.stackTraces = false) (D : va_G) (ad : Nat → Nat) (cA : Nat → ClassId) (g : gv_T) (σ : Sg) (Q : UInt64 → Sg → Prop) (hw : w_L_meanPull  σ Q) : MW l yL_meanPull cL_meanPull 2 (some .double) [(0, 4, 5, 22), (0, 4, 10, 116)] (RM 8 2 12 160) D ad cA g [.ref (ad 0)] σ (fun v σ' => ∃ r : UInt64, v = some (.double r) ∧ Q r σ') := by
  refine MW.of (by decide +kernel) (Nat.le_of_ble_eq_true rfl) ?_
  intro p e s m args below meth c A ls hx hb hr hml hown hG hlocks htab hA hS hP hK hD hGV hl
  have hown : s.vm.findClass RL = some m.cls := hown
  have hl : lv_has ls 2 [(0, .ref (ad 0))] := hl
  have hSF : CF p m c cL_meanPull 2 s args RL := ⟨hx, hb, hml, hown, hG⟩
  refine lv_aload_n hx hb dL_meanPull_0 rfl (lv_at hl 0 rfl) ?_
  refine mc_V hSF hl.1 hP hD hS hA hK hGV (m_X6_meanPull l hfl D ad cA g  σ _ _ hw) goV_L_119 pd_X6_meanPull ⟨(Nat.le_of_ble_eq_true rfl), (Nat.le_of_ble_eq_true rfl)⟩ ⟨(Nat.le_of_ble_eq_true rfl), (Nat.le_of_ble_eq_true rfl)⟩ (va_recv hK hP (ci := 8) (q0 := 0) rfl wl_0) dL_meanPull_1 rfl (Nat.le_of_ble_eq_true rfl) (fun v9 σ2 H locs hq hP hD hS => ?_) (fun E9 σ3 H locs x9 ce9 hw hP hD hS h9 hv9 hc9 => ?_)
  · skip
    obtain ⟨r1, hv9, hw⟩ := hq
    subst hv9
    refine W.eq (g2 := F0 m 4 ls [.double r1]) rfl ?_
    refine W.widen (k := 2) (n := 12) (Nat.le_refl _) (Nat.le_refl _) ?_
    exact m_d ⟨_, rfl, hw⟩ hx hb hr hlocks hP hD hS (Nat.le_of_ble_eq_true rfl) (Nat.le_of_ble_eq_true rfl) dL_meanPull_4
  · skip
    rcases hw with ⟨rfl, hw⟩ | ⟨rfl, hw⟩
    · skip
      refine vx_catch (own := RL) (name := "java/lang/IllegalStateException") hown [] { startPc := 0, endPc := 4, handlerPc := 5, catchType := 22 } [{ startPc := 0, endPc := 4, handlerPc := 10, catchType := 116 }] (htab.trans rfl) (fun z hz => nomatch hz) rfl (by decide) (hG _ gw500) (va_Nw.use rfl (hGV.nw _ gw669)) h9 hv9 hc9 ?_
      refine W.eq (g2 := F0 m 5 ls [.ref x9]) rfl ?_
      refine W.widen (k := 2) (n := 12) (Nat.le_refl _) (Nat.le_refl _) ?_
      refine lv_astore_n (lv' := [(1, .ref x9), (0, .ref (ad 0))]) hx hb dL_meanPull_5 rfl hl (by decide) rfl (fun ls hl => ?_)
      refine lv_ldc2d hx hb hown (hG _ gw940) dL_meanPull_6 ?_
      exact m_d ⟨_, rfl, hw⟩ hx hb hr hlocks hP hD hS (Nat.le_of_ble_eq_true rfl) (Nat.le_of_ble_eq_true rfl) dL_meanPull_9
    · skip
      refine vx_catch (own := RL) (name := "java/lang/ArithmeticException") hown [{ startPc := 0, endPc := 4, handlerPc := 5, catchType := 22 }] { startPc := 0, endPc := 4, handlerPc := 10, catchType := 116 } [] (htab.trans rfl) (fun z hz => by rcases List.mem_singleton.mp hz with rfl; exact Or.inr ⟨by decide, "java/lang/IllegalStateException", hG _ gw500, hGV.nc ("java/lang/ArithmeticException", "java/lang/IllegalStateException") (by decide)⟩) rfl (by decide) (hG _ gw908) (va_Nw.use rfl (hGV.nw _ gw920)) h9 hv9 hc9 ?_
      refine W.eq (g2 := F0 m 10 ls [.ref x9]) rfl ?_
      refine W.widen (k := 2) (n := 12) (Nat.le_refl _) (Nat.le_refl _) ?_
      refine lv_astore_n (lv' := [(1, .ref x9), (0, .ref (ad 0))]) hx hb dL_meanPull_10 rfl hl (by decide) rfl (fun ls hl => ?_)
      refine lv_ldc2d hx hb hown (hG _ gw941) dL_meanPull_11 ?_
      exact m_d ⟨_, rfl, hw⟩ hx hb hr hlocks hP hD hS (Nat.le_of_ble_eq_true rfl) (Nat.le_of_ble_eq_true rfl) dL_meanPull_14

set_option maxHeartbeats 4000000 in
set_option maxRecDepth 100000 in
theorem m_X6_state (l : Launch) (hfl : l.stackTraces = false) (D : va_G) (ad : Nat → Nat) (cA : Nat → ClassId) (g : gv_T) (σ : Sg) (Q : Int32 → Sg → Prop) (hw : w_X6_state  σ Q) : MC l yX6_state cX6_state 1 (some .char) (RM 5 0 0 120) D ad cA g [.ref (ad 0)] σ (fun v σ' => ∃ r : Int32, v = some (.int r) ∧ Q r σ') (fun _ _ => False) := by
  refine MC.of (plainFor_of_name (by decide +kernel)) (Nat.le_of_ble_eq_true rfl) ?_
  intro p e s m args below meth c A ls hx hb hr hml hown hG hlocks htab hA hS hP hK hD hGV hl
  have hown : s.vm.findClass RX6 = some m.cls := hown
  have hl : lv_has ls 1 [(0, .ref (ad 0))] := hl
  have hSF : CF p m c cX6_state 1 s args RX6 := ⟨hx, hb, hml, hown, hG⟩
  refine lv_aload_n hx hb dX6_state_0 rfl (lv_at hl 0 rfl) ?_
  refine k_get (ci := 8) (C := RX6) (T := TX6) (N := 5) (v := .ref (ad 12)) hx hb hG inX6 hown hK hP 0 wl_0 rfl 1 (by decide) gw306 rfl dX6_state_1 ?_
  refine lv_aload_n hx hb dX6_state_4 rfl (lv_at hl 0 rfl) ?_
  refine k_get (ci := 8) (C := RX6) (T := TX6) (N := 5) (v := .ref (ad 1)) hx hb hG inX6 hown hK hP 0 wl_0 rfl 0 (by decide) gw305 rfl dX6_state_5 ?_
  refine mc_V hSF hl.1 hP hD hS hA hK hGV (m_X1_find l hfl D ad cA g  σ _ hw) goV_X6_110 pd_X1_find ⟨(Nat.le_of_ble_eq_true rfl), (Nat.le_of_ble_eq_true rfl)⟩ ⟨(Nat.le_of_ble_eq_true rfl), (Nat.le_of_ble_eq_true rfl)⟩ (va_recv hK hP (ci := 3) (q0 := 12) rfl wl_12) dX6_state_8 rfl (Nat.le_of_ble_eq_true rfl) (fun v9 σ2 H locs hq hP hD hS => ?_) (fun _ _ _ _ _ _ h => h.elim)
  obtain ⟨hv9, hw⟩ := hq
  subst hv9
  refine W.eq (g2 := F0 m 11 ls []) rfl ?_
  refine W.widen (k := 0) (n := 0) (Nat.le_refl _) (Nat.le_refl _) ?_
  refine lv_aload_n hx hb dX6_state_11 rfl (lv_at hl 0 rfl) ?_
  refine k_get (ci := 8) (C := RX6) (T := TX6) (N := 5) (v := .ref (ad 12)) hx hb hG inX6 hown hK hP 0 wl_0 rfl 1 (by decide) gw306 rfl dX6_state_12 ?_
  refine k_get (ci := 3) (C := RX1) (T := TX1) (N := 17) (v := .int (gI σ2 3)) hx hb hG inX1 hown hK hP 12 wl_12 rfl 1 (by decide) gw142 rfl dX6_state_15 ?_
  obtain ⟨hc3, hw⟩ := hw
  exact vx_ret (m_i ⟨_, rfl, hw⟩ hx hb hr hlocks hc3 hP hD hS (Nat.le_of_ble_eq_true rfl) (Nat.le_of_ble_eq_true rfl) dX6_state_18)

set_option maxHeartbeats 4000000 in
set_option maxRecDepth 100000 in
theorem m_X3_canBeConfused (l : Launch) (hfl : l.stackTraces = false) (D : va_G) (ad : Nat → Nat) (cA : Nat → ClassId) (g : gv_T) (p1 : Int32) (p2 : Int32) (σ : Sg) (Q : Int32 → Prop) (hw : w_X3_canBeConfused p1 p2 σ Q) : MC l yX3_canBeConfused cX3_canBeConfused 3 (some .boolean) (RM 1 0 0 23) D ad cA g [.ref (ad 32), .int p1, .int p2] σ (fun v σ' => ∃ r : Int32, v = some (.int r) ∧ σ' = σ ∧ Q r) (fun _ _ => False) := by
  refine MC.of (plainFor_of_name (by decide +kernel)) (Nat.le_of_ble_eq_true rfl) ?_
  intro p e s m args below meth c A ls hx hb hr hml hown hG hlocks htab hA hS hP hK hD hGV hl
  have hown : s.vm.findClass RX3 = some m.cls := hown
  have hl : lv_has ls 3 [(0, .ref (ad 32)), (1, .int p1), (2, .int p2)] := hl
  have hSF : CF p m c cX3_canBeConfused 3 s args RX3 := ⟨hx, hb, hml, hown, hG⟩
  refine lv_aload_n hx hb dX3_canBeConfused_0 rfl (lv_at hl 0 rfl) ?_
  refine k_get (ci := 5) (C := RX3) (T := TX3) (N := 6) (v := .ref (ad 37)) hx hb hG inX3 hown hK hP 32 wl_32 rfl 5 (by decide) gw207 rfl dX3_canBeConfused_1 ?_
  refine lv_iload_n hx hb dX3_canBeConfused_4 rfl (lv_at hl 1 rfl) ?_
  obtain ⟨hc1, hw⟩ := hw
  refine k_iald (v := gA σ 17 (ix p1)) hx hb hK hP 37 wl_37 (ix p1) rfl rfl hc1 dX3_canBeConfused_5 ?_
  refine lv_aload_n hx hb dX3_canBeConfused_6 rfl (lv_at hl 0 rfl) ?_
  refine k_get (ci := 5) (C := RX3) (T := TX3) (N := 6) (v := .ref (ad 37)) hx hb hG inX3 hown hK hP 32 wl_32 rfl 5 (by decide) gw207 rfl dX3_canBeConfused_7 ?_
  refine lv_iload_n hx hb dX3_canBeConfused_10 rfl (lv_at hl 2 rfl) ?_
  obtain ⟨hc2, hw⟩ := hw
  refine k_iald (v := gA σ 17 (ix p2)) hx hb hK hP 37 wl_37 (ix p2) rfl rfl hc2 dX3_canBeConfused_11 ?_
  refine lv_icmp_eq (tgt := 29) hx hb dX3_canBeConfused_12 (by decide) (fun k3 => ?_) (fun k3 => ?_)
  · skip
    have hw := hw.1 k3
    refine lv_iconst (v := 1) hx hb dX3_canBeConfused_29 (by decide) ?_
    refine lv_goto (tgt := 34) hx hb dX3_canBeConfused_30 (by decide) ?_
    exact vx_ret (m_i ⟨_, rfl, rfl, hw⟩ hx hb hr hlocks rfl hP hD hS (Nat.le_of_ble_eq_true rfl) (Nat.le_of_ble_eq_true rfl) dX3_canBeConfused_34)
  · skip
    have hw := hw.2 k3
    refine lv_aload_n hx hb dX3_canBeConfused_15 rfl (lv_at hl 0 rfl) ?_
    refine lv_iload_n hx hb dX3_canBeConfused_16 rfl (lv_at hl 1 rfl) ?_
    refine mc_V hSF hl.1 hP hD hS hA hK hGV (m_X3_misreadMark l hfl D ad cA g p1 σ _ hw) goV_X3_53 pd_X3_misreadMark ⟨(Nat.le_of_ble_eq_true rfl), (Nat.le_of_ble_eq_true rfl)⟩ ⟨(Nat.le_of_ble_eq_true rfl), (Nat.le_of_ble_eq_true rfl)⟩ (va_recv hK hP (ci := 5) (q0 := 32) rfl wl_32) dX3_canBeConfused_17 rfl (Nat.le_of_ble_eq_true rfl) (fun v9 σ9 H locs hq hP hD hS => ?_) (fun _ _ _ _ _ _ h => h.elim)
    obtain ⟨r4, hv9, hs9, hw⟩ := hq
    subst hv9
    subst σ9
    refine W.eq (g2 := F0 m 20 ls [.int r4]) rfl ?_
    refine W.widen (k := 0) (n := 0) (Nat.le_refl _) (Nat.le_refl _) ?_
    refine lv_aload_n hx hb dX3_canBeConfused_20 rfl (lv_at hl 0 rfl) ?_
    refine k_get (ci := 5) (C := RX3) (T := TX3) (N := 6) (v := .ref (ad 37)) hx hb hG inX3 hown hK hP 32 wl_32 rfl 5 (by decide) gw207 rfl dX3_canBeConfused_21 ?_
    refine lv_iload_n hx hb dX3_canBeConfused_24 rfl (lv_at hl 2 rfl) ?_
    obtain ⟨hc5, hw⟩ := hw
    refine k_iald (v := gA σ 17 (ix p2)) hx hb hK hP 37 wl_37 (ix p2) rfl rfl hc5 dX3_canBeConfused_25 ?_
    refine lv_icmp_ne (tgt := 33) hx hb dX3_canBeConfused_26 (by decide) (fun k6 => ?_) (fun k6 => ?_)
    · skip
      have hw := hw.1 k6
      refine lv_iconst (v := 0) hx hb dX3_canBeConfused_33 (by decide) ?_
      exact vx_ret (m_i ⟨_, rfl, rfl, hw⟩ hx hb hr hlocks rfl hP hD hS (Nat.le_of_ble_eq_true rfl) (Nat.le_of_ble_eq_true rfl) dX3_canBeConfused_34)
    · skip
      have hw := hw.2 k6
      refine lv_iconst (v := 1) hx hb dX3_canBeConfused_29 (by decide) ?_
      refine lv_goto (tgt := 34) hx hb dX3_canBeConfused_30 (by decide) ?_
      exact vx_ret (m_i ⟨_, rfl, rfl, hw⟩ hx hb hr hlocks rfl hP hD hS (Nat.le_of_ble_eq_true rfl) (Nat.le_of_ble_eq_true rfl) dX3_canBeConfused_34)

set_option maxHeartbeats 4000000 in
set_option maxRecDepth 100000 in
theorem m_X6_clashes (l : Launch) (hfl : l.stackTraces = false) (D : va_G) (ad : Nat → Nat) (cA : Nat → ClassId) (g : gv_T) (σ : Sg) (Q : Int32 → Prop) (hw : w_X6_clashes  σ Q) : MC l yX6_clashes cX6_clashes 4 (some .int) (RM 2 0 0 45) D ad cA g [.ref (ad 0)] σ (fun v σ' => ∃ r : Int32, v = some (.int r) ∧ σ' = σ ∧ Q r) (fun _ _ => False) := by
  refine MC.of (plainFor_of_name (by decide +kernel)) (Nat.le_of_ble_eq_true rfl) ?_
  intro p e s m args below meth c A ls hx hb hr hml hown hG hlocks htab hA hS hP hK hD hGV hl
  have hown : s.vm.findClass RX6 = some m.cls := hown
  have hl : lv_has ls 4 [(0, .ref (ad 0))] := hl
  have hSF : CF p m c cX6_clashes 4 s args RX6 := ⟨hx, hb, hml, hown, hG⟩
  refine lv_iconst (v := 0) hx hb dX6_clashes_0 (by decide) ?_
  refine lv_istore_n (lv' := [(1, .int 0), (0, .ref (ad 0))]) hx hb dX6_clashes_1 rfl hl (by decide) rfl (fun ls hl => ?_)
  refine lv_iconst (v := 0) hx hb dX6_clashes_2 (by decide) ?_
  refine lv_istore_n (lv' := [(2, .int 0), (1, .int 0), (0, .ref (ad 0))]) hx hb dX6_clashes_3 rfl hl (by decide) rfl (fun ls hl => ?_)
  obtain ⟨I1, μ1, hI1, hw1⟩ := hw
  have hl : lv_has ls 4 [(0, .ref (ad 0)), (1, .int 0), (2, .int 0)] := lv_sub hl [2, 1, 0] rfl
  suffices key1 : ∀ (n1 : Nat) (i1_1 : Int32) (i2_1 : Int32), μ1 i1_1 i2_1 < n1 → I1 i1_1 i2_1 → ∀ (H : Heap) (locs : List Loc) (ls : Array Slot), va_P D vwCl (WL ad cA σ) H → va_D A (WL ad cA σ) → va_S A s.heap H locs → lv_has ls 4 [(0, .ref (ad 0)), (1, .int i1_1), (2, .int i2_1)] → W p l e (RM 2 0 0 45) s m args below meth c H locs (0) (0) (vx_MQ below (QM D ad cA A (fun v σ' => ∃ r : Int32, v = some (.int r) ∧ σ' = σ ∧ Q r)) (XM D ad cA A (fun _ _ => False)) args s (RM 2 0 0 45).cells (RM 2 0 0 45).slots A) (F0 m 4 ls []) from key1 _ _ _ (Nat.lt_succ_self _) hI1 _ _ ls hP hD hS hl
  clear hP hD hS hl
  intro n1
  induction n1 with
  | zero => intro _ _ h; exact absurd h (Nat.not_lt_zero _)
  | succ n1 ih1 =>
    intro i1_1 i2_1 hm1 hI1 H locs ls hP hD hS hl
    have hw := hw1 i1_1 i2_1 hI1
    refine lv_iload_n hx hb dX6_clashes_4 rfl (lv_at hl 2 rfl) ?_
    refine lv_aload_n hx hb dX6_clashes_5 rfl (lv_at hl 0 rfl) ?_
    refine k_get (ci := 8) (C := RX6) (T := TX6) (N := 5) (v := .ref (ad 32)) hx hb hG inX6 hown hK hP 0 wl_0 rfl 2 (by decide) gw307 rfl dX6_clashes_6 ?_
    refine k_get (ci := 5) (C := RX3) (T := TX3) (N := 6) (v := .int (gI σ 4)) hx hb hG inX3 hown hK hP 32 wl_32 rfl 0 (by decide) gw202 rfl dX6_clashes_9 ?_
    refine lv_icmp_ge (tgt := 54) hx hb dX6_clashes_12 (by decide) (fun k2 => ?_) (fun k2 => ?_)
    · skip
      have hw := hw.1 k2
      refine lv_iload_n hx hb dX6_clashes_54 rfl (lv_at hl 1 rfl) ?_
      exact vx_ret (m_i ⟨_, rfl, rfl, hw⟩ hx hb hr hlocks rfl hP hD hS (Nat.le_of_ble_eq_true rfl) (Nat.le_of_ble_eq_true rfl) dX6_clashes_55)
    · skip
      have hw := hw.2 k2
      refine lv_iconst (v := 0) hx hb dX6_clashes_15 (by decide) ?_
      refine lv_istore_n (lv' := [(3, .int 0), (0, .ref (ad 0)), (1, .int i1_1), (2, .int i2_1)]) hx hb dX6_clashes_16 rfl hl (by decide) rfl (fun ls hl => ?_)
      obtain ⟨I3, μ3, hI3, hw3⟩ := hw
      have hl : lv_has ls 4 [(0, .ref (ad 0)), (1, .int i1_1), (2, .int i2_1), (3, .int 0)] := lv_sub hl [1, 2, 3, 0] rfl
      suffices key3 : ∀ (n3 : Nat) (i1_3 : Int32) (i3_3 : Int32), μ3 i1_3 i3_3 < n3 → I3 i1_3 i3_3 → ∀ (H : Heap) (locs : List Loc) (ls : Array Slot), va_P D vwCl (WL ad cA σ) H → va_D A (WL ad cA σ) → va_S A s.heap H locs → lv_has ls 4 [(0, .ref (ad 0)), (1, .int i1_3), (2, .int i2_1), (3, .int i3_3)] → W p l e (RM 2 0 0 45) s m args below meth c H locs (0) (0) (vx_MQ below (QM D ad cA A (fun v σ' => ∃ r : Int32, v = some (.int r) ∧ σ' = σ ∧ Q r)) (XM D ad cA A (fun _ _ => False)) args s (RM 2 0 0 45).cells (RM 2 0 0 45).slots A) (F0 m 17 ls []) from key3 _ _ _ (Nat.lt_succ_self _) hI3 _ _ ls hP hD hS hl
      clear hP hD hS hl
      intro n3
      induction n3 with
      | zero => intro _ _ h; exact absurd h (Nat.not_lt_zero _)
      | succ n3 ih3 =>
        intro i1_3 i3_3 hm3 hI3 H locs ls hP hD hS hl
        have hw := hw3 i1_3 i3_3 hI3
        refine lv_iload_n hx hb dX6_clashes_17 rfl (lv_at hl 3 rfl) ?_
        refine lv_iload_n hx hb dX6_clashes_18 rfl (lv_at hl 2 rfl) ?_
        refine lv_icmp_ge (tgt := 48) hx hb dX6_clashes_19 (by decide) (fun k4 => ?_) (fun k4 => ?_)
        · skip
          have hw := hw.1 k4
          refine lv_iinc (v := i2_1 + 1) (lv' := [(2, .int (i2_1 + 1)), (0, .ref (ad 0)), (1, .int i1_3), (3, .int i3_3)]) hx hb dX6_clashes_48 hl (k := 2) rfl rfl (by decide) rfl (fun ls hl => ?_)
          refine lv_goto (tgt := 4) hx hb dX6_clashes_51 (by decide) ?_
          exact ih1 i1_3 (i2_1 + 1) (Nat.lt_of_lt_of_le hw.2 (Nat.le_of_lt_succ hm1)) hw.1 _ _ ls hP hD hS (lv_sub hl [1, 2, 0] rfl)
        · skip
          have hw := hw.2 k4
          refine lv_iload_n hx hb dX6_clashes_22 rfl (lv_at hl 1 rfl) ?_
          refine lv_aload_n hx hb dX6_clashes_23 rfl (lv_at hl 0 rfl) ?_
          refine k_get (ci := 8) (C := RX6) (T := TX6) (N := 5) (v := .ref (ad 32)) hx hb hG inX6 hown hK hP 0 wl_0 rfl 2 (by decide) gw307 rfl dX6_clashes_24 ?_
          refine lv_iload_n hx hb dX6_clashes_27 rfl (lv_at hl 2 rfl) ?_
          refine lv_iload_n hx hb dX6_clashes_28 rfl (lv_at hl 3 rfl) ?_
          refine mc_V hSF hl.1 hP hD hS hA hK hGV (m_X3_canBeConfused l hfl D ad cA g i2_1 i3_3 σ _ hw) goV_X6_189 pd_X3_canBeConfused ⟨(Nat.le_of_ble_eq_true rfl), (Nat.le_of_ble_eq_true rfl)⟩ ⟨(Nat.le_of_ble_eq_true rfl), (Nat.le_of_ble_eq_true rfl)⟩ (va_recv hK hP (ci := 5) (q0 := 32) rfl wl_32) dX6_clashes_29 rfl (Nat.le_of_ble_eq_true rfl) (fun v9 σ9 H locs hq hP hD hS => ?_) (fun _ _ _ _ _ _ h => h.elim)
          obtain ⟨r5, hv9, hs9, hw⟩ := hq
          subst hv9
          subst σ9
          refine W.eq (g2 := F0 m 32 ls [.int r5, .int i1_3]) rfl ?_
          refine W.widen (k := 0) (n := 0) (Nat.le_refl _) (Nat.le_refl _) ?_
          refine lv_if_eq (tgt := 39) hx hb dX6_clashes_32 (by decide) (fun k6 => ?_) (fun k6 => ?_)
          · skip
            have hw := hw.1 k6
            refine lv_iconst (v := 0) hx hb dX6_clashes_39 (by decide) ?_
            refine k_iadd (v := i1_3 + 0) hx hb dX6_clashes_40 rfl ?_
            obtain ⟨v7, ev7⟩ : ∃ z : Int32, z = i1_3 + 0 := ⟨_, rfl⟩
            have hw := hw v7 ev7
            refine lv_istore_n (lv' := [(1, .int v7), (0, .ref (ad 0)), (2, .int i2_1), (3, .int i3_3)]) hx hb dX6_clashes_41 rfl hl (by decide) (by subst ev7; rfl) (fun ls hl => ?_)
            refine lv_iinc (v := i3_3 + 1) (lv' := [(3, .int (i3_3 + 1)), (1, .int v7), (0, .ref (ad 0)), (2, .int i2_1)]) hx hb dX6_clashes_42 hl (k := 3) rfl rfl (by decide) rfl (fun ls hl => ?_)
            refine lv_goto (tgt := 17) hx hb dX6_clashes_45 (by decide) ?_
            exact ih3 v7 (i3_3 + 1) (Nat.lt_of_lt_of_le hw.2 (Nat.le_of_lt_succ hm3)) hw.1 _ _ ls hP hD hS (lv_sub hl [2, 1, 3, 0] rfl)
          · skip
            have hw := hw.2 k6
            refine lv_iconst (v := 1) hx hb dX6_clashes_35 (by decide) ?_
            refine lv_goto (tgt := 40) hx hb dX6_clashes_36 (by decide) ?_
            refine k_iadd (v := i1_3 + 1) hx hb dX6_clashes_40 rfl ?_
            obtain ⟨v8, ev8⟩ : ∃ z : Int32, z = i1_3 + 1 := ⟨_, rfl⟩
            have hw := hw v8 ev8
            refine lv_istore_n (lv' := [(1, .int v8), (0, .ref (ad 0)), (2, .int i2_1), (3, .int i3_3)]) hx hb dX6_clashes_41 rfl hl (by decide) (by subst ev8; rfl) (fun ls hl => ?_)
            refine lv_iinc (v := i3_3 + 1) (lv' := [(3, .int (i3_3 + 1)), (1, .int v8), (0, .ref (ad 0)), (2, .int i2_1)]) hx hb dX6_clashes_42 hl (k := 3) rfl rfl (by decide) rfl (fun ls hl => ?_)
            refine lv_goto (tgt := 17) hx hb dX6_clashes_45 (by decide) ?_
            exact ih3 v8 (i3_3 + 1) (Nat.lt_of_lt_of_le hw.2 (Nat.le_of_lt_succ hm3)) hw.1 _ _ ls hP hD hS (lv_sub hl [2, 1, 3, 0] rfl)

set_option maxHeartbeats 4000000 in
set_option maxRecDepth 100000 in
theorem m_X6_orders (l : Launch) (hfl : l.stackTraces = false) (D : va_G) (ad : Nat → Nat) (cA : Nat → ClassId) (g : gv_T) (σ : Sg) (Q : Int32 → Sg → Prop) (hw : w_X6_orders  σ Q) : MC l yX6_orders cX6_orders 1 (some .int) (RM 5 0 0 115) D ad cA g [.ref (ad 0)] σ (fun v σ' => ∃ r : Int32, v = some (.int r) ∧ Q r σ') (fun _ _ => False) := by
  refine MC.of (plainFor_of_name (by decide +kernel)) (Nat.le_of_ble_eq_true rfl) ?_
  intro p e s m args below meth c A ls hx hb hr hml hown hG hlocks htab hA hS hP hK hD hGV hl
  have hown : s.vm.findClass RX6 = some m.cls := hown
  have hl : lv_has ls 1 [(0, .ref (ad 0))] := hl
  have hSF : CF p m c cX6_orders 1 s args RX6 := ⟨hx, hb, hml, hown, hG⟩
  refine lv_aload_n hx hb dX6_orders_0 rfl (lv_at hl 0 rfl) ?_
  refine k_get (ci := 8) (C := RX6) (T := TX6) (N := 5) (v := .ref (ad 46)) hx hb hG inX6 hown hK hP 0 wl_0 rfl 4 (by decide) gw309 rfl dX6_orders_1 ?_
  refine lv_aload_n hx hb dX6_orders_4 rfl (lv_at hl 0 rfl) ?_
  refine k_get (ci := 8) (C := RX6) (T := TX6) (N := 5) (v := .ref (ad 1)) hx hb hG inX6 hown hK hP 0 wl_0 rfl 0 (by decide) gw305 rfl dX6_orders_5 ?_
  refine lv_aload_n hx hb dX6_orders_8 rfl (lv_at hl 0 rfl) ?_
  refine k_get (ci := 8) (C := RX6) (T := TX6) (N := 5) (v := .ref (ad 32)) hx hb hG inX6 hown hK hP 0 wl_0 rfl 2 (by decide) gw307 rfl dX6_orders_9 ?_
  refine mc_V hSF hl.1 hP hD hS hA hK hGV (m_X4_find l hfl D ad cA g  σ _ hw) goV_X6_247 pd_X4_find ⟨(Nat.le_of_ble_eq_true rfl), (Nat.le_of_ble_eq_true rfl)⟩ ⟨(Nat.le_of_ble_eq_true rfl), (Nat.le_of_ble_eq_true rfl)⟩ (va_recv hK hP (ci := 6) (q0 := 46) rfl wl_46) dX6_orders_12 rfl (Nat.le_of_ble_eq_true rfl) (fun v9 σ2 H locs hq hP hD hS => ?_) (fun _ _ _ _ _ _ h => h.elim)
  obtain ⟨hv9, hw⟩ := hq
  subst hv9
  refine W.eq (g2 := F0 m 15 ls []) rfl ?_
  refine W.widen (k := 0) (n := 0) (Nat.le_refl _) (Nat.le_refl _) ?_
  refine lv_aload_n hx hb dX6_orders_15 rfl (lv_at hl 0 rfl) ?_
  refine k_get (ci := 8) (C := RX6) (T := TX6) (N := 5) (v := .ref (ad 46)) hx hb hG inX6 hown hK hP 0 wl_0 rfl 4 (by decide) gw309 rfl dX6_orders_16 ?_
  refine mc_V hSF hl.1 hP hD hS hA hK hGV (m_X4_orderCount l hfl D ad cA g  σ2 _ hw) goV_X6_250 pd_X4_orderCount ⟨(Nat.le_of_ble_eq_true rfl), (Nat.le_of_ble_eq_true rfl)⟩ ⟨(Nat.le_of_ble_eq_true rfl), (Nat.le_of_ble_eq_true rfl)⟩ (va_recv hK hP (ci := 6) (q0 := 46) rfl wl_46) dX6_orders_19 rfl (Nat.le_of_ble_eq_true rfl) (fun v9 σ9 H locs hq hP hD hS => ?_) (fun _ _ _ _ _ _ h => h.elim)
  obtain ⟨r3, hv9, hs9, hw⟩ := hq
  subst hv9
  subst σ9
  refine W.eq (g2 := F0 m 22 ls [.int r3]) rfl ?_
  refine W.widen (k := 0) (n := 0) (Nat.le_refl _) (Nat.le_refl _) ?_
  exact vx_ret (m_i ⟨_, rfl, hw⟩ hx hb hr hlocks rfl hP hD hS (Nat.le_of_ble_eq_true rfl) (Nat.le_of_ble_eq_true rfl) dX6_orders_22)

set_option maxHeartbeats 4000000 in
set_option maxRecDepth 100000 in
theorem m_L_isThrown (l : Launch) (hfl : l.stackTraces = false) (D : va_G) (ad : Nat → Nat) (cA : Nat → ClassId) (g : gv_T) (σ : Sg) (Q : Int32 → Sg → Prop) (hw : w_L_isThrown  σ Q) : MC l yL_isThrown cL_isThrown 5 (some .boolean) (RM 9 16 96 183) D ad cA g [.ref (ad 0)] σ (fun v σ' => ∃ r : Int32, v = some (.int r) ∧ Q r σ') (fun _ _ => False) := by
  refine MC.of (plainFor_of_name (by decide +kernel)) (Nat.le_of_ble_eq_true rfl) ?_
  intro p e s m args below meth c A ls hx hb hr hml hown hG hlocks htab hA hS hP hK hD hGV hl
  have hown : s.vm.findClass RL = some m.cls := hown
  have hl : lv_has ls 5 [(0, .ref (ad 0))] := hl
  have hSF : CF p m c cL_isThrown 5 s args RL := ⟨hx, hb, hml, hown, hG⟩
  refine lv_aload_n hx hb dL_isThrown_0 rfl (lv_at hl 0 rfl) ?_
  refine mc_V hSF hl.1 hP hD hS hA hK hGV (m_X6_state l hfl D ad cA g  σ _ hw) goV_L_186 pd_X6_state ⟨(Nat.le_of_ble_eq_true rfl), (Nat.le_of_ble_eq_true rfl)⟩ ⟨(Nat.le_of_ble_eq_true rfl), (Nat.le_of_ble_eq_true rfl)⟩ (va_recv hK hP (ci := 8) (q0 := 0) rfl wl_0) dL_isThrown_1 rfl (Nat.le_of_ble_eq_true rfl) (fun v9 σ2 H locs hq hP hD hS => ?_) (fun _ _ _ _ _ _ h => h.elim)
  obtain ⟨r1, hv9, hw⟩ := hq
  subst hv9
  refine W.eq (g2 := F0 m 4 ls [.int r1]) rfl ?_
  refine W.widen (k := 0) (n := 0) (Nat.le_refl _) (Nat.le_refl _) ?_
  refine lv_istore_n (lv' := [(1, .int r1), (0, .ref (ad 0))]) hx hb dL_isThrown_4 rfl hl (by decide) rfl (fun ls hl => ?_)
  refine lv_aload_n hx hb dL_isThrown_5 rfl (lv_at hl 1 rfl) ?_
  refine mc_V hSF hl.1 hP hD hS hA hK hGV (m_X6_clashes l hfl D ad cA g  σ2 _ hw) goV_L_234 pd_X6_clashes ⟨(Nat.le_of_ble_eq_true rfl), (Nat.le_of_ble_eq_true rfl)⟩ ⟨(Nat.le_of_ble_eq_true rfl), (Nat.le_of_ble_eq_true rfl)⟩ (va_recv hK hP (ci := 8) (q0 := 0) rfl wl_0) dL_isThrown_6 rfl (Nat.le_of_ble_eq_true rfl) (fun v9 σ9 H locs hq hP hD hS => ?_) (fun _ _ _ _ _ _ h => h.elim)
  obtain ⟨r3, hv9, hs9, hw⟩ := hq
  subst hv9
  subst σ9
  refine W.eq (g2 := F0 m 9 ls [.int r3]) rfl ?_
  refine W.widen (k := 0) (n := 0) (Nat.le_refl _) (Nat.le_refl _) ?_
  refine lv_istore_n (lv' := [(2, .int r3), (1, .int r1), (0, .ref (ad 0))]) hx hb dL_isThrown_9 rfl hl (by decide) rfl (fun ls hl => ?_)
  refine lv_aload_n hx hb dL_isThrown_10 rfl (lv_at hl 2 rfl) ?_
  refine mc_V hSF hl.1 hP hD hS hA hK hGV (m_X6_orders l hfl D ad cA g  σ2 _ hw) goV_L_251 pd_X6_orders ⟨(Nat.le_of_ble_eq_true rfl), (Nat.le_of_ble_eq_true rfl)⟩ ⟨(Nat.le_of_ble_eq_true rfl), (Nat.le_of_ble_eq_true rfl)⟩ (va_recv hK hP (ci := 8) (q0 := 0) rfl wl_0) dL_isThrown_11 rfl (Nat.le_of_ble_eq_true rfl) (fun v9 σ5 H locs hq hP hD hS => ?_) (fun _ _ _ _ _ _ h => h.elim)
  obtain ⟨r4, hv9, hw⟩ := hq
  subst hv9
  refine W.eq (g2 := F0 m 14 ls [.int r4]) rfl ?_
  refine W.widen (k := 0) (n := 0) (Nat.le_refl _) (Nat.le_refl _) ?_
  refine lv_istore_n (lv' := [(3, .int r4), (2, .int r3), (1, .int r1), (0, .ref (ad 0))]) hx hb dL_isThrown_14 rfl hl (by decide) rfl (fun ls hl => ?_)
  refine lv_aload_n hx hb dL_isThrown_15 rfl (lv_at hl 3 rfl) ?_
  refine lv_iconst (v := (-1)) hx hb dL_isThrown_16 (by decide) ?_
  refine lv_iconst (v := 0) hx hb dL_isThrown_17 (by decide) ?_
  refine lv_bipush (v := 112) hx hb dL_isThrown_18 (by decide) ?_
  refine mc_SW hSF hl.1 hP hD hS hA hK hGV (m_L_node l hfl D ad cA g (-1) 0 112 σ5 _ hw) goW_L_140 pd_L_node.2 ⟨(Nat.le_of_ble_eq_true rfl), (Nat.le_of_ble_eq_true rfl)⟩ ⟨(Nat.le_of_ble_eq_true rfl), (Nat.le_of_ble_eq_true rfl)⟩ dL_isThrown_20 rfl (Nat.le_of_ble_eq_true rfl) (fun v9 σ7 H locs hq hP hD hS => ?_)
  obtain ⟨r6, hv9, hw⟩ := hq
  subst hv9
  refine W.eq (g2 := F0 m 23 ls [.int r6]) rfl ?_
  refine W.widen (k := 1) (n := 6) (Nat.le_refl _) (Nat.le_refl _) ?_
  refine lv_bipush (v := (-78)) hx hb dL_isThrown_23 (by decide) ?_
  refine lv_icmp_ne (tgt := 136) hx hb dL_isThrown_25 (by decide) (fun k8 => ?_) (fun k8 => ?_)
  · skip
    have hw := hw.1 k8
    refine lv_iconst (v := 0) hx hb dL_isThrown_136 (by decide) ?_
    refine lv_istore (lv' := [(4, .int 0), (3, .int r4), (2, .int r3), (1, .int r1), (0, .ref (ad 0))]) hx hb dL_isThrown_137 hl (by decide) rfl (fun ls hl => ?_)
    refine lv_iload hx hb dL_isThrown_139 (lv_at hl 0 rfl) ?_
    refine k_if_eq_t (tgt := 172) hx hb dL_isThrown_141 (by decide) (by decide) ?_
    refine lv_iconst (v := 0) hx hb dL_isThrown_172 (by decide) ?_
    exact vx_ret (m_i ⟨_, rfl, hw⟩ hx hb hr hlocks rfl hP hD hS (Nat.le_of_ble_eq_true rfl) (Nat.le_of_ble_eq_true rfl) dL_isThrown_173)
  · skip
    have hw := hw.2 k8
    refine lv_aload_n hx hb dL_isThrown_28 rfl (lv_at hl 3 rfl) ?_
    refine lv_bipush (v := 8) hx hb dL_isThrown_29 (by decide) ?_
    refine lv_iconst (v := 0) hx hb dL_isThrown_31 (by decide) ?_
    refine lv_bipush (v := 9) hx hb dL_isThrown_32 (by decide) ?_
    refine lv_iconst (v := 0) hx hb dL_isThrown_34 (by decide) ?_
    refine mc_SW hSF hl.1 hP hD hS hA hK hGV (m_L_member l hfl D ad cA g 8 0 9 0 σ7 _ hw) goW_L_143 pd_L_member.2 ⟨(Nat.le_of_ble_eq_true rfl), (Nat.le_of_ble_eq_true rfl)⟩ ⟨(Nat.le_of_ble_eq_true rfl), (Nat.le_of_ble_eq_true rfl)⟩ dL_isThrown_35 rfl (Nat.le_of_ble_eq_true rfl) (fun v9 σ10 H locs hq hP hD hS => ?_)
    obtain ⟨r9, hv9, hw⟩ := hq
    subst hv9
    refine W.eq (g2 := F0 m 38 ls [.int r9]) rfl ?_
    refine W.widen (k := 4) (n := 24) (Nat.le_refl _) (Nat.le_refl _) ?_
    refine lv_bipush (v := (-77)) hx hb dL_isThrown_38 (by decide) ?_
    refine lv_icmp_ne (tgt := 136) hx hb dL_isThrown_40 (by decide) (fun k11 => ?_) (fun k11 => ?_)
    · skip
      have hw := hw.1 k11
      refine lv_iconst (v := 0) hx hb dL_isThrown_136 (by decide) ?_
      refine lv_istore (lv' := [(4, .int 0), (3, .int r4), (2, .int r3), (1, .int r1), (0, .ref (ad 0))]) hx hb dL_isThrown_137 hl (by decide) rfl (fun ls hl => ?_)
      refine lv_iload hx hb dL_isThrown_139 (lv_at hl 0 rfl) ?_
      refine k_if_eq_t (tgt := 172) hx hb dL_isThrown_141 (by decide) (by decide) ?_
      refine lv_iconst (v := 0) hx hb dL_isThrown_172 (by decide) ?_
      exact vx_ret (m_i ⟨_, rfl, hw⟩ hx hb hr hlocks rfl hP hD hS (Nat.le_of_ble_eq_true rfl) (Nat.le_of_ble_eq_true rfl) dL_isThrown_173)
    · skip
      have hw := hw.2 k11
      refine lv_aload_n hx hb dL_isThrown_43 rfl (lv_at hl 3 rfl) ?_
      refine lv_bipush (v := 8) hx hb dL_isThrown_44 (by decide) ?_
      refine lv_iconst (v := 0) hx hb dL_isThrown_46 (by decide) ?_
      refine lv_iconst (v := 0) hx hb dL_isThrown_47 (by decide) ?_
      refine mc_SW hSF hl.1 hP hD hS hA hK hGV (m_L_load l hfl D ad cA g 8 0 0 σ10 _ hw) goW_L_146 pd_L_load.2 ⟨(Nat.le_of_ble_eq_true rfl), (Nat.le_of_ble_eq_true rfl)⟩ ⟨(Nat.le_of_ble_eq_true rfl), (Nat.le_of_ble_eq_true rfl)⟩ dL_isThrown_48 rfl (Nat.le_of_ble_eq_true rfl) (fun v9 σ13 H locs hq hP hD hS => ?_)
      obtain ⟨r12, hv9, hw⟩ := hq
      subst hv9
      refine W.eq (g2 := F0 m 51 ls [.int r12]) rfl ?_
      refine W.widen (k := 6) (n := 36) (Nat.le_refl _) (Nat.le_refl _) ?_
      refine lv_bipush (v := (-77)) hx hb dL_isThrown_51 (by decide) ?_
      refine lv_icmp_ne (tgt := 136) hx hb dL_isThrown_53 (by decide) (fun k14 => ?_) (fun k14 => ?_)
      · skip
        have hw := hw.1 k14
        refine lv_iconst (v := 0) hx hb dL_isThrown_136 (by decide) ?_
        refine lv_istore (lv' := [(4, .int 0), (3, .int r4), (2, .int r3), (1, .int r1), (0, .ref (ad 0))]) hx hb dL_isThrown_137 hl (by decide) rfl (fun ls hl => ?_)
        refine lv_iload hx hb dL_isThrown_139 (lv_at hl 0 rfl) ?_
        refine k_if_eq_t (tgt := 172) hx hb dL_isThrown_141 (by decide) (by decide) ?_
        refine lv_iconst (v := 0) hx hb dL_isThrown_172 (by decide) ?_
        exact vx_ret (m_i ⟨_, rfl, hw⟩ hx hb hr hlocks rfl hP hD hS (Nat.le_of_ble_eq_true rfl) (Nat.le_of_ble_eq_true rfl) dL_isThrown_173)
      · skip
        have hw := hw.2 k14
        refine lv_aload_n hx hb dL_isThrown_56 rfl (lv_at hl 3 rfl) ?_
        refine lv_bipush (v := 9) hx hb dL_isThrown_57 (by decide) ?_
        refine lv_iconst (v := 0) hx hb dL_isThrown_59 (by decide) ?_
        refine lv_bipush (v := 117) hx hb dL_isThrown_60 (by decide) ?_
        refine lv_iconst (v := 2) hx hb dL_isThrown_62 (by decide) ?_
        refine lv_iconst (v := 1) hx hb dL_isThrown_63 (by decide) ?_
        refine mc_SW hSF hl.1 hP hD hS hA hK hGV (m_L_joint l hfl D ad cA g 9 0 117 2 1 σ13 _ hw) goW_L_151 pd_L_joint.2 ⟨(Nat.le_of_ble_eq_true rfl), (Nat.le_of_ble_eq_true rfl)⟩ ⟨(Nat.le_of_ble_eq_true rfl), (Nat.le_of_ble_eq_true rfl)⟩ dL_isThrown_64 rfl (Nat.le_of_ble_eq_true rfl) (fun v9 σ16 H locs hq hP hD hS => ?_)
        obtain ⟨r15, hv9, hw⟩ := hq
        subst hv9
        refine W.eq (g2 := F0 m 67 ls [.int r15]) rfl ?_
        refine W.widen (k := 9) (n := 54) (Nat.le_refl _) (Nat.le_refl _) ?_
        refine lv_bipush (v := (-77)) hx hb dL_isThrown_67 (by decide) ?_
        refine lv_icmp_ne (tgt := 136) hx hb dL_isThrown_69 (by decide) (fun k17 => ?_) (fun k17 => ?_)
        · skip
          have hw := hw.1 k17
          refine lv_iconst (v := 0) hx hb dL_isThrown_136 (by decide) ?_
          refine lv_istore (lv' := [(4, .int 0), (3, .int r4), (2, .int r3), (1, .int r1), (0, .ref (ad 0))]) hx hb dL_isThrown_137 hl (by decide) rfl (fun ls hl => ?_)
          refine lv_iload hx hb dL_isThrown_139 (lv_at hl 0 rfl) ?_
          refine k_if_eq_t (tgt := 172) hx hb dL_isThrown_141 (by decide) (by decide) ?_
          refine lv_iconst (v := 0) hx hb dL_isThrown_172 (by decide) ?_
          exact vx_ret (m_i ⟨_, rfl, hw⟩ hx hb hr hlocks rfl hP hD hS (Nat.le_of_ble_eq_true rfl) (Nat.le_of_ble_eq_true rfl) dL_isThrown_173)
        · skip
          have hw := hw.2 k17
          refine lv_aload_n hx hb dL_isThrown_72 rfl (lv_at hl 3 rfl) ?_
          refine lv_bipush (v := 9) hx hb dL_isThrown_73 (by decide) ?_
          refine lv_bipush (v := 30) hx hb dL_isThrown_75 (by decide) ?_
          refine mc_SW hSF hl.1 hP hD hS hA hK hGV (m_L_cutAt l hfl D ad cA g 9 30 σ16 _ hw) goW_L_159 pd_L_cutAt.2 ⟨(Nat.le_of_ble_eq_true rfl), (Nat.le_of_ble_eq_true rfl)⟩ ⟨(Nat.le_of_ble_eq_true rfl), (Nat.le_of_ble_eq_true rfl)⟩ dL_isThrown_77 rfl (Nat.le_of_ble_eq_true rfl) (fun v9 σ19 H locs hq hP hD hS => ?_)
          obtain ⟨r18, hv9, hw⟩ := hq
          subst hv9
          refine W.eq (g2 := F0 m 80 ls [.int r18]) rfl ?_
          refine W.widen (k := 11) (n := 66) (Nat.le_refl _) (Nat.le_refl _) ?_
          refine lv_bipush (v := (-77)) hx hb dL_isThrown_80 (by decide) ?_
          refine lv_icmp_ne (tgt := 136) hx hb dL_isThrown_82 (by decide) (fun k20 => ?_) (fun k20 => ?_)
          · skip
            have hw := hw.1 k20
            refine lv_iconst (v := 0) hx hb dL_isThrown_136 (by decide) ?_
            refine lv_istore (lv' := [(4, .int 0), (3, .int r4), (2, .int r3), (1, .int r1), (0, .ref (ad 0))]) hx hb dL_isThrown_137 hl (by decide) rfl (fun ls hl => ?_)
            refine lv_iload hx hb dL_isThrown_139 (lv_at hl 0 rfl) ?_
            refine k_if_eq_t (tgt := 172) hx hb dL_isThrown_141 (by decide) (by decide) ?_
            refine lv_iconst (v := 0) hx hb dL_isThrown_172 (by decide) ?_
            exact vx_ret (m_i ⟨_, rfl, hw⟩ hx hb hr hlocks rfl hP hD hS (Nat.le_of_ble_eq_true rfl) (Nat.le_of_ble_eq_true rfl) dL_isThrown_173)
          · skip
            have hw := hw.2 k20
            refine lv_aload_n hx hb dL_isThrown_85 rfl (lv_at hl 3 rfl) ?_
            refine lv_iconst (v := 0) hx hb dL_isThrown_86 (by decide) ?_
            refine lv_bipush (v := 9) hx hb dL_isThrown_87 (by decide) ?_
            refine lv_iconst (v := 0) hx hb dL_isThrown_89 (by decide) ?_
            refine mc_SW hSF hl.1 hP hD hS hA hK hGV (m_L_stick l hfl D ad cA g 0 9 0 σ19 _ hw) goW_L_154 pd_L_stick.2 ⟨(Nat.le_of_ble_eq_true rfl), (Nat.le_of_ble_eq_true rfl)⟩ ⟨(Nat.le_of_ble_eq_true rfl), (Nat.le_of_ble_eq_true rfl)⟩ dL_isThrown_90 rfl (Nat.le_of_ble_eq_true rfl) (fun v9 σ22 H locs hq hP hD hS => ?_)
            obtain ⟨r21, hv9, hw⟩ := hq
            subst hv9
            refine W.eq (g2 := F0 m 93 ls [.int r21]) rfl ?_
            refine W.widen (k := 12) (n := 72) (Nat.le_refl _) (Nat.le_refl _) ?_
            refine lv_bipush (v := (-78)) hx hb dL_isThrown_93 (by decide) ?_
            refine lv_icmp_ne (tgt := 136) hx hb dL_isThrown_95 (by decide) (fun k23 => ?_) (fun k23 => ?_)
            · skip
              have hw := hw.1 k23
              refine lv_iconst (v := 0) hx hb dL_isThrown_136 (by decide) ?_
              refine lv_istore (lv' := [(4, .int 0), (3, .int r4), (2, .int r3), (1, .int r1), (0, .ref (ad 0))]) hx hb dL_isThrown_137 hl (by decide) rfl (fun ls hl => ?_)
              refine lv_iload hx hb dL_isThrown_139 (lv_at hl 0 rfl) ?_
              refine k_if_eq_t (tgt := 172) hx hb dL_isThrown_141 (by decide) (by decide) ?_
              refine lv_iconst (v := 0) hx hb dL_isThrown_172 (by decide) ?_
              exact vx_ret (m_i ⟨_, rfl, hw⟩ hx hb hr hlocks rfl hP hD hS (Nat.le_of_ble_eq_true rfl) (Nat.le_of_ble_eq_true rfl) dL_isThrown_173)
            · skip
              have hw := hw.2 k23
              refine lv_aload_n hx hb dL_isThrown_98 rfl (lv_at hl 3 rfl) ?_
              refine lv_iconst (v := (-1)) hx hb dL_isThrown_99 (by decide) ?_
              refine mc_SW hSF hl.1 hP hD hS hA hK hGV (m_L_setProps l hfl D ad cA g (-1) σ22 _ hw) goW_L_156 pd_L_setProps.2 ⟨(Nat.le_of_ble_eq_true rfl), (Nat.le_of_ble_eq_true rfl)⟩ ⟨(Nat.le_of_ble_eq_true rfl), (Nat.le_of_ble_eq_true rfl)⟩ dL_isThrown_100 rfl (Nat.le_of_ble_eq_true rfl) (fun v9 σ25 H locs hq hP hD hS => ?_)
              obtain ⟨r24, hv9, hw⟩ := hq
              subst hv9
              refine W.eq (g2 := F0 m 103 ls [.int r24]) rfl ?_
              refine W.widen (k := 13) (n := 78) (Nat.le_refl _) (Nat.le_refl _) ?_
              refine lv_bipush (v := (-78)) hx hb dL_isThrown_103 (by decide) ?_
              refine lv_icmp_ne (tgt := 136) hx hb dL_isThrown_105 (by decide) (fun k26 => ?_) (fun k26 => ?_)
              · skip
                have hw := hw.1 k26
                refine lv_iconst (v := 0) hx hb dL_isThrown_136 (by decide) ?_
                refine lv_istore (lv' := [(4, .int 0), (3, .int r4), (2, .int r3), (1, .int r1), (0, .ref (ad 0))]) hx hb dL_isThrown_137 hl (by decide) rfl (fun ls hl => ?_)
                refine lv_iload hx hb dL_isThrown_139 (lv_at hl 0 rfl) ?_
                refine k_if_eq_t (tgt := 172) hx hb dL_isThrown_141 (by decide) (by decide) ?_
                refine lv_iconst (v := 0) hx hb dL_isThrown_172 (by decide) ?_
                exact vx_ret (m_i ⟨_, rfl, hw⟩ hx hb hr hlocks rfl hP hD hS (Nat.le_of_ble_eq_true rfl) (Nat.le_of_ble_eq_true rfl) dL_isThrown_173)
              · skip
                have hw := hw.2 k26
                refine lv_aload_n hx hb dL_isThrown_108 rfl (lv_at hl 3 rfl) ?_
                refine lv_bipush (v := 9) hx hb dL_isThrown_109 (by decide) ?_
                refine mc_SW hSF hl.1 hP hD hS hA hK hGV (m_L_force l hfl D ad cA g 9 σ25 _ hw) goW_L_206 pd_L_force.2 ⟨(Nat.le_of_ble_eq_true rfl), (Nat.le_of_ble_eq_true rfl)⟩ ⟨(Nat.le_of_ble_eq_true rfl), (Nat.le_of_ble_eq_true rfl)⟩ dL_isThrown_111 rfl (Nat.le_of_ble_eq_true rfl) (fun v9 σ28 H locs hq hP hD hS => ?_)
                obtain ⟨r27, hv9, hw⟩ := hq
                subst hv9
                refine W.eq (g2 := F0 m 114 ls [.long r27]) rfl ?_
                refine W.widen (k := 15) (n := 90) (Nat.le_refl _) (Nat.le_refl _) ?_
                refine lv_ldc2 hx hb hown (hG _ gw949) dL_isThrown_114 ?_
                refine k_lcmp (v := lg_cmp r27 (-77)) hx hb dL_isThrown_117 rfl ?_
                refine lv_if_ne (tgt := 136) hx hb dL_isThrown_118 (by decide) (fun k29 => ?_) (fun k29 => ?_)
                · skip
                  have hw := hw.1 (lc_ne.mp k29)
                  refine lv_iconst (v := 0) hx hb dL_isThrown_136 (by decide) ?_
                  refine lv_istore (lv' := [(4, .int 0), (3, .int r4), (2, .int r3), (1, .int r1), (0, .ref (ad 0))]) hx hb dL_isThrown_137 hl (by decide) rfl (fun ls hl => ?_)
                  refine lv_iload hx hb dL_isThrown_139 (lv_at hl 0 rfl) ?_
                  refine k_if_eq_t (tgt := 172) hx hb dL_isThrown_141 (by decide) (by decide) ?_
                  refine lv_iconst (v := 0) hx hb dL_isThrown_172 (by decide) ?_
                  exact vx_ret (m_i ⟨_, rfl, hw⟩ hx hb hr hlocks rfl hP hD hS (Nat.le_of_ble_eq_true rfl) (Nat.le_of_ble_eq_true rfl) dL_isThrown_173)
                · skip
                  have hw := hw.2 (lc_eq.mp k29)
                  refine lv_aload_n hx hb dL_isThrown_121 rfl (lv_at hl 3 rfl) ?_
                  refine lv_bipush (v := 31) hx hb dL_isThrown_122 (by decide) ?_
                  refine mc_SW hSF hl.1 hP hD hS hA hK hGV (m_L_isBalanced l hfl D ad cA g 31 σ28 _ hw) goW_L_201 pd_L_isBalanced.2 ⟨(Nat.le_of_ble_eq_true rfl), (Nat.le_of_ble_eq_true rfl)⟩ ⟨(Nat.le_of_ble_eq_true rfl), (Nat.le_of_ble_eq_true rfl)⟩ dL_isThrown_124 rfl (Nat.le_of_ble_eq_true rfl) (fun v9 σ31 H locs hq hP hD hS => ?_)
                  obtain ⟨r30, hv9, hw⟩ := hq
                  subst hv9
                  refine W.eq (g2 := F0 m 127 ls [.int r30]) rfl ?_
                  refine W.widen (k := 16) (n := 96) (Nat.le_refl _) (Nat.le_refl _) ?_
                  refine lv_bipush (v := (-78)) hx hb dL_isThrown_127 (by decide) ?_
                  refine lv_icmp_ne (tgt := 136) hx hb dL_isThrown_129 (by decide) (fun k32 => ?_) (fun k32 => ?_)
                  · skip
                    have hw := hw.1 k32
                    refine lv_iconst (v := 0) hx hb dL_isThrown_136 (by decide) ?_
                    refine lv_istore (lv' := [(4, .int 0), (3, .int r4), (2, .int r3), (1, .int r1), (0, .ref (ad 0))]) hx hb dL_isThrown_137 hl (by decide) rfl (fun ls hl => ?_)
                    refine lv_iload hx hb dL_isThrown_139 (lv_at hl 0 rfl) ?_
                    refine k_if_eq_t (tgt := 172) hx hb dL_isThrown_141 (by decide) (by decide) ?_
                    refine lv_iconst (v := 0) hx hb dL_isThrown_172 (by decide) ?_
                    exact vx_ret (m_i ⟨_, rfl, hw⟩ hx hb hr hlocks rfl hP hD hS (Nat.le_of_ble_eq_true rfl) (Nat.le_of_ble_eq_true rfl) dL_isThrown_173)
                  · skip
                    have hw := hw.2 k32
                    refine lv_iconst (v := 1) hx hb dL_isThrown_132 (by decide) ?_
                    refine lv_goto (tgt := 137) hx hb dL_isThrown_133 (by decide) ?_
                    refine lv_istore (lv' := [(4, .int 1), (3, .int r4), (2, .int r3), (1, .int r1), (0, .ref (ad 0))]) hx hb dL_isThrown_137 hl (by decide) rfl (fun ls hl => ?_)
                    refine lv_iload hx hb dL_isThrown_139 (lv_at hl 0 rfl) ?_
                    refine k_if_eq_f (tgt := 172) hx hb dL_isThrown_141 (by decide) (by decide) ?_
                    refine lv_aload_n hx hb dL_isThrown_144 rfl (lv_at hl 4 rfl) ?_
                    refine mc_V hSF hl.1 hP hD hS hA hK hGV (m_X6_state l hfl D ad cA g  σ31 _ hw) goV_L_186 pd_X6_state ⟨(Nat.le_of_ble_eq_true rfl), (Nat.le_of_ble_eq_true rfl)⟩ ⟨(Nat.le_of_ble_eq_true rfl), (Nat.le_of_ble_eq_true rfl)⟩ (va_recv hK hP (ci := 8) (q0 := 0) rfl wl_0) dL_isThrown_145 rfl (Nat.le_of_ble_eq_true rfl) (fun v9 σ34 H locs hq hP hD hS => ?_) (fun _ _ _ _ _ _ h => h.elim)
                    obtain ⟨r33, hv9, hw⟩ := hq
                    subst hv9
                    refine W.eq (g2 := F0 m 148 ls [.int r33]) rfl ?_
                    refine W.widen (k := 16) (n := 96) (Nat.le_refl _) (Nat.le_refl _) ?_
                    refine lv_iload_n hx hb dL_isThrown_148 rfl (lv_at hl 3 rfl) ?_
                    refine lv_icmp_ne (tgt := 172) hx hb dL_isThrown_149 (by decide) (fun k35 => ?_) (fun k35 => ?_)
                    · skip
                      have hw := hw.1 k35
                      refine lv_iconst (v := 0) hx hb dL_isThrown_172 (by decide) ?_
                      exact vx_ret (m_i ⟨_, rfl, hw⟩ hx hb hr hlocks rfl hP hD hS (Nat.le_of_ble_eq_true rfl) (Nat.le_of_ble_eq_true rfl) dL_isThrown_173)
                    · skip
                      have hw := hw.2 k35
                      refine lv_aload_n hx hb dL_isThrown_152 rfl (lv_at hl 4 rfl) ?_
                      refine mc_V hSF hl.1 hP hD hS hA hK hGV (m_X6_clashes l hfl D ad cA g  σ34 _ hw) goV_L_234 pd_X6_clashes ⟨(Nat.le_of_ble_eq_true rfl), (Nat.le_of_ble_eq_true rfl)⟩ ⟨(Nat.le_of_ble_eq_true rfl), (Nat.le_of_ble_eq_true rfl)⟩ (va_recv hK hP (ci := 8) (q0 := 0) rfl wl_0) dL_isThrown_153 rfl (Nat.le_of_ble_eq_true rfl) (fun v9 σ9 H locs hq hP hD hS => ?_) (fun _ _ _ _ _ _ h => h.elim)
                      obtain ⟨r36, hv9, hs9, hw⟩ := hq
                      subst hv9
                      subst σ9
                      refine W.eq (g2 := F0 m 156 ls [.int r36]) rfl ?_
                      refine W.widen (k := 16) (n := 96) (Nat.le_refl _) (Nat.le_refl _) ?_
                      refine lv_iload_n hx hb dL_isThrown_156 rfl (lv_at hl 2 rfl) ?_
                      refine lv_icmp_ne (tgt := 172) hx hb dL_isThrown_157 (by decide) (fun k37 => ?_) (fun k37 => ?_)
                      · skip
                        have hw := hw.1 k37
                        refine lv_iconst (v := 0) hx hb dL_isThrown_172 (by decide) ?_
                        exact vx_ret (m_i ⟨_, rfl, hw⟩ hx hb hr hlocks rfl hP hD hS (Nat.le_of_ble_eq_true rfl) (Nat.le_of_ble_eq_true rfl) dL_isThrown_173)
                      · skip
                        have hw := hw.2 k37
                        refine lv_aload_n hx hb dL_isThrown_160 rfl (lv_at hl 4 rfl) ?_
                        refine mc_V hSF hl.1 hP hD hS hA hK hGV (m_X6_orders l hfl D ad cA g  σ34 _ hw) goV_L_251 pd_X6_orders ⟨(Nat.le_of_ble_eq_true rfl), (Nat.le_of_ble_eq_true rfl)⟩ ⟨(Nat.le_of_ble_eq_true rfl), (Nat.le_of_ble_eq_true rfl)⟩ (va_recv hK hP (ci := 8) (q0 := 0) rfl wl_0) dL_isThrown_161 rfl (Nat.le_of_ble_eq_true rfl) (fun v9 σ39 H locs hq hP hD hS => ?_) (fun _ _ _ _ _ _ h => h.elim)
                        obtain ⟨r38, hv9, hw⟩ := hq
                        subst hv9
                        refine W.eq (g2 := F0 m 164 ls [.int r38]) rfl ?_
                        refine W.widen (k := 16) (n := 96) (Nat.le_refl _) (Nat.le_refl _) ?_
                        refine lv_iload_n hx hb dL_isThrown_164 rfl (lv_at hl 1 rfl) ?_
                        refine lv_icmp_ne (tgt := 172) hx hb dL_isThrown_165 (by decide) (fun k40 => ?_) (fun k40 => ?_)
                        · skip
                          have hw := hw.1 k40
                          refine lv_iconst (v := 0) hx hb dL_isThrown_172 (by decide) ?_
                          exact vx_ret (m_i ⟨_, rfl, hw⟩ hx hb hr hlocks rfl hP hD hS (Nat.le_of_ble_eq_true rfl) (Nat.le_of_ble_eq_true rfl) dL_isThrown_173)
                        · skip
                          have hw := hw.2 k40
                          refine lv_iconst (v := 1) hx hb dL_isThrown_168 (by decide) ?_
                          refine lv_goto (tgt := 173) hx hb dL_isThrown_169 (by decide) ?_
                          exact vx_ret (m_i ⟨_, rfl, hw⟩ hx hb hr hlocks rfl hP hD hS (Nat.le_of_ble_eq_true rfl) (Nat.le_of_ble_eq_true rfl) dL_isThrown_173)

set_option maxHeartbeats 4000000 in
set_option maxRecDepth 100000 in
theorem m_J0_isLatin1_aae02_S28 (l : Launch) (hfl : l.stackTraces = false) (D : va_G) (ad : Nat → Nat) (cA : Nat → ClassId) (g : gv_T) (σ : Sg) (Q : Int32 → Prop) (hw : w_J0_isLatin1_aae02_S28  σ Q) : MC l yJ0_isLatin1_aae02 cJ0_isLatin1_aae02 1 (some .boolean) (RM 0 0 0 0) D ad cA g [.ref (g.1 28)] σ (fun v σ' => ∃ r : Int32, v = some (.int r) ∧ σ' = σ ∧ Q r) (fun _ _ => False) := by
  refine MC.of (plainFor_of_name (by decide +kernel)) (Nat.le_of_ble_eq_true rfl) ?_
  intro p e s m args below meth c A ls hx hb hr hml hown hG hlocks htab hA hS hP hK hD hGV hl
  have hown : s.vm.findClass RJ0 = some m.cls := hown
  have hl : lv_has ls 1 [(0, .ref (g.1 28))] := hl
  have hSF : CF p m c cJ0_isLatin1_aae02 1 s args RJ0 := ⟨hx, hb, hml, hown, hG⟩
  refine k_getsC hx hb hGV hG hS hown gw521 dJ0_isLatin1_aae02_0 ?_
  refine k_if_eq_f (tgt := 17) hx hb dJ0_isLatin1_aae02_3 (by decide) (by decide) ?_
  refine lv_aload_n hx hb dJ0_isLatin1_aae02_6 rfl (lv_at hl 0 rfl) ?_
  refine k_scoder (x9 := (28, 5, [117, 100, 108, 114, 102])) hx hb hGV (by decide) hG hS hown gw1195 dJ0_isLatin1_aae02_7 ?_
  refine k_if_ne_f (tgt := 17) hx hb dJ0_isLatin1_aae02_10 (by decide) (by decide) ?_
  refine lv_iconst (v := 1) hx hb dJ0_isLatin1_aae02_13 (by decide) ?_
  refine lv_goto (tgt := 18) hx hb dJ0_isLatin1_aae02_14 (by decide) ?_
  exact vx_ret (m_i ⟨_, rfl, rfl, hw⟩ hx hb hr hlocks rfl hP hD hS (Nat.le_of_ble_eq_true rfl) (Nat.le_of_ble_eq_true rfl) dJ0_isLatin1_aae02_18)

set_option maxHeartbeats 4000000 in
set_option maxRecDepth 100000 in
theorem m_J3_checkIndex_8e157 (l : Launch) (hfl : l.stackTraces = false) (D : va_G) (ad : Nat → Nat) (cA : Nat → ClassId) (g : gv_T) (p0 : Int32) (p1 : Int32) (σ : Sg) (Q : Int32 → Prop) (hw : w_J3_checkIndex_8e157 p0 p1 σ Q) : MC l yJ3_checkIndex_8e157 cJ3_checkIndex_8e157 3 (some .int) (RM 0 0 0 0) D ad cA g [.int p0, .int p1, (ov g.2.2.1)] σ (fun v σ' => ∃ r : Int32, v = some (.int r) ∧ σ' = σ ∧ Q r) (fun _ _ => False) := by
  refine MC.of (plainFor_of_name (by decide +kernel)) (by cases g.2.2.1 <;> exact Nat.le_of_ble_eq_true rfl) ?_
  intro p e s m args below meth c A ls hx hb hr hml hown hG hlocks htab hA hS hP hK hD hGV hl
  have hown : s.vm.findClass RJ3 = some m.cls := hown
  have hl : lv_has ls 3 [(0, .int p0), (1, .int p1), (2, (ov g.2.2.1))] := hl
  have hSF : CF p m c cJ3_checkIndex_8e157 3 s args RJ3 := ⟨hx, hb, hml, hown, hG⟩
  refine lv_iload_n hx hb dJ3_checkIndex_8e157_0 rfl (lv_at hl 0 rfl) ?_
  refine lv_if_lt (tgt := 9) hx hb dJ3_checkIndex_8e157_1 (by decide) (fun k1 => ?_) (fun k1 => ?_)
  · skip
    have hw := hw.1 k1
    exact False.elim hw
  · skip
    have hw := hw.2 k1
    refine lv_iload_n hx hb dJ3_checkIndex_8e157_4 rfl (lv_at hl 0 rfl) ?_
    refine lv_iload_n hx hb dJ3_checkIndex_8e157_5 rfl (lv_at hl 1 rfl) ?_
    refine lv_icmp_lt (tgt := 16) hx hb dJ3_checkIndex_8e157_6 (by decide) (fun k2 => ?_) (fun k2 => ?_)
    · skip
      have hw := hw.1 k2
      refine lv_iload_n hx hb dJ3_checkIndex_8e157_16 rfl (lv_at hl 0 rfl) ?_
      exact vx_ret (m_i ⟨_, rfl, rfl, hw⟩ hx hb hr hlocks rfl hP hD hS (Nat.le_of_ble_eq_true rfl) (Nat.le_of_ble_eq_true rfl) dJ3_checkIndex_8e157_17)
    · skip
      have hw := hw.2 k2
      exact False.elim hw

set_option maxHeartbeats 4000000 in
set_option maxRecDepth 100000 in
theorem m_J0_checkIndex_df160_5 (l : Launch) (hfl : l.stackTraces = false) (D : va_G) (ad : Nat → Nat) (cA : Nat → ClassId) (g : gv_T) (p0 : Int32) (σ : Sg) (Q : Prop) (hw : w_J0_checkIndex_df160_5 p0 σ Q) : MC l yJ0_checkIndex_df160 cJ0_checkIndex_df160 2 none (RM 1 0 0 22) D ad cA g [.int p0, .int 5] σ (fun v σ' => v = none ∧ σ' = σ ∧ Q) (fun _ _ => False) := by
  refine MC.of (plainFor_of_name (by decide +kernel)) (Nat.le_of_ble_eq_true rfl) ?_
  intro p e s m args below meth c A ls hx hb hr hml hown hG hlocks htab hA hS hP hK hD hGV hl
  have hown : s.vm.findClass RJ0 = some m.cls := hown
  have hl : lv_has ls 2 [(0, .int p0), (1, .int 5)] := hl
  have hSF : CF p m c cJ0_checkIndex_df160 2 s args RJ0 := ⟨hx, hb, hml, hown, hG⟩
  refine lv_iload_n hx hb dJ0_checkIndex_df160_0 rfl (lv_at hl 0 rfl) ?_
  refine lv_iload_n hx hb dJ0_checkIndex_df160_1 rfl (lv_at hl 1 rfl) ?_
  refine k_getsF hx hb hGV hG hS hown gw564 dJ0_checkIndex_df160_2 ?_
  refine mc_S hSF hl.1 hP hD hS hA hK hGV (m_J3_checkIndex_8e157 l hfl D ad cA g p0 5 σ _ hw) goS_J0_1059 pd_J3_checkIndex_8e157.2 ⟨(Nat.le_of_ble_eq_true rfl), (Nat.le_of_ble_eq_true rfl)⟩ ⟨(Nat.le_of_ble_eq_true rfl), (Nat.le_of_ble_eq_true rfl)⟩ dJ0_checkIndex_df160_5 rfl (Nat.le_of_ble_eq_true rfl) (fun v9 σ9 H locs hq hP hD hS => ?_) (fun _ _ _ _ _ _ h => h.elim)
  obtain ⟨r1, hv9, hs9, hw⟩ := hq
  subst hv9
  subst σ9
  refine W.eq (g2 := F0 m 8 ls [.int r1]) rfl ?_
  refine W.widen (k := 0) (n := 0) (Nat.le_refl _) (Nat.le_refl _) ?_
  refine lv_pop hx hb dJ0_checkIndex_df160_8 rfl ?_
  exact vx_ret (m_v ⟨rfl, rfl, hw⟩ hx hb hr hlocks hP hD hS (Nat.le_of_ble_eq_true rfl) (Nat.le_of_ble_eq_true rfl) dJ0_checkIndex_df160_9)

set_option maxHeartbeats 4000000 in
set_option maxRecDepth 100000 in
theorem m_J1_charAt_3b067_V28 (l : Launch) (hfl : l.stackTraces = false) (D : va_G) (ad : Nat → Nat) (cA : Nat → ClassId) (g : gv_T) (p1 : Int32) (σ : Sg) (Q : Int32 → Prop) (hw : w_J1_charAt_3b067_V28 p1 σ Q) : MC l yJ1_charAt_3b067 cJ1_charAt_3b067 2 (some .char) (RM 2 0 0 43) D ad cA g [.ref (g.2.1 28), .int p1] σ (fun v σ' => ∃ r : Int32, v = some (.int r) ∧ σ' = σ ∧ Q r) (fun _ _ => False) := by
  refine MC.of (plainFor_of_name (by decide +kernel)) (Nat.le_of_ble_eq_true rfl) ?_
  intro p e s m args below meth c A ls hx hb hr hml hown hG hlocks htab hA hS hP hK hD hGV hl
  have hown : s.vm.findClass RJ1 = some m.cls := hown
  have hl : lv_has ls 2 [(0, .ref (g.2.1 28)), (1, .int p1)] := hl
  have hSF : CF p m c cJ1_charAt_3b067 2 s args RJ1 := ⟨hx, hb, hml, hown, hG⟩
  refine lv_iload_n hx hb dJ1_charAt_3b067_0 rfl (lv_at hl 1 rfl) ?_
  refine lv_aload_n hx hb dJ1_charAt_3b067_1 rfl (lv_at hl 0 rfl) ?_
  refine k_slen (x9 := (28, 5, [117, 100, 108, 114, 102])) (v := 5) hx hb hGV (by decide) hS (by decide) dJ1_charAt_3b067_2 ?_
  refine mc_S hSF hl.1 hP hD hS hA hK hGV (m_J0_checkIndex_df160_5 l hfl D ad cA g p1 σ _ hw) goS_J1_9 pd_J0_checkIndex_df160.2 ⟨(Nat.le_of_ble_eq_true rfl), (Nat.le_of_ble_eq_true rfl)⟩ ⟨(Nat.le_of_ble_eq_true rfl), (Nat.le_of_ble_eq_true rfl)⟩ dJ1_charAt_3b067_3 rfl (Nat.le_of_ble_eq_true rfl) (fun v9 σ9 H locs hq hP hD hS => ?_) (fun _ _ _ _ _ _ h => h.elim)
  obtain ⟨hv9, hs9, hw⟩ := hq
  subst hv9
  subst σ9
  refine W.eq (g2 := F0 m 6 ls []) rfl ?_
  refine W.widen (k := 0) (n := 0) (Nat.le_refl _) (Nat.le_refl _) ?_
  refine lv_aload_n hx hb dJ1_charAt_3b067_6 rfl (lv_at hl 0 rfl) ?_
  refine lv_iload_n hx hb dJ1_charAt_3b067_7 rfl (lv_at hl 1 rfl) ?_
  obtain ⟨hc2, hw⟩ := hw
  refine k_sld (x9 := (28, 5, [117, 100, 108, 114, 102])) (v := sby [117, 100, 108, 114, 102] p1) hx hb hGV (by decide) hS hc2 rfl dJ1_charAt_3b067_8 ?_
  refine lv_sipush (v := 255) hx hb dJ1_charAt_3b067_9 (by decide) ?_
  refine k_iand (v := (sby [117, 100, 108, 114, 102] p1) &&& 255) hx hb dJ1_charAt_3b067_12 rfl ?_
  refine lv_i2c (v := (((sby [117, 100, 108, 114, 102] p1) &&& 255).toUInt32 % 65536).toInt32) hx hb dJ1_charAt_3b067_13 rfl ?_
  obtain ⟨hc3, hw⟩ := hw
  exact vx_ret (m_i ⟨_, rfl, rfl, hw⟩ hx hb hr hlocks hc3 hP hD hS (Nat.le_of_ble_eq_true rfl) (Nat.le_of_ble_eq_true rfl) dJ1_charAt_3b067_14)

set_option maxHeartbeats 4000000 in
set_option maxRecDepth 100000 in
theorem m_J0_charAt_5068e_S28 (l : Launch) (hfl : l.stackTraces = false) (D : va_G) (ad : Nat → Nat) (cA : Nat → ClassId) (g : gv_T) (p1 : Int32) (σ : Sg) (Q : Int32 → Prop) (hw : w_J0_charAt_5068e_S28 p1 σ Q) : MC l yJ0_charAt_5068e cJ0_charAt_5068e 2 (some .char) (RM 3 0 0 64) D ad cA g [.ref (g.1 28), .int p1] σ (fun v σ' => ∃ r : Int32, v = some (.int r) ∧ σ' = σ ∧ Q r) (fun _ _ => False) := by
  refine MC.of (plainFor_of_name (by decide +kernel)) (Nat.le_of_ble_eq_true rfl) ?_
  intro p e s m args below meth c A ls hx hb hr hml hown hG hlocks htab hA hS hP hK hD hGV hl
  have hown : s.vm.findClass RJ0 = some m.cls := hown
  have hl : lv_has ls 2 [(0, .ref (g.1 28)), (1, .int p1)] := hl
  have hSF : CF p m c cJ0_charAt_5068e 2 s args RJ0 := ⟨hx, hb, hml, hown, hG⟩
  refine lv_aload_n hx hb dJ0_charAt_5068e_0 rfl (lv_at hl 0 rfl) ?_
  refine mc_V hSF hl.1 hP hD hS hA hK hGV (m_J0_isLatin1_aae02_S28 l hfl D ad cA g  σ (fun r9 => r9 = 1) rfl) goV_J0_492 pd_J0_isLatin1_aae02 ⟨(Nat.le_of_ble_eq_true rfl), (Nat.le_of_ble_eq_true rfl)⟩ ⟨(Nat.le_of_ble_eq_true rfl), (Nat.le_of_ble_eq_true rfl)⟩ (k_srecv (x9 := (28, 5, [117, 100, 108, 114, 102])) hGV (by decide) hS) dJ0_charAt_5068e_1 rfl (Nat.le_of_ble_eq_true rfl) (fun v9 σ9 H locs hq hP hD hS => ?_) (fun _ _ _ _ _ _ h => h.elim)
  obtain ⟨r9, hv9, hs9, hr9⟩ := hq
  subst hv9
  subst σ9
  subst hr9
  refine W.eq (g2 := F0 m 4 ls [.int 1]) rfl ?_
  refine W.widen (k := 0) (n := 0) (Nat.le_refl _) (Nat.le_refl _) ?_
  refine k_if_eq_f (tgt := 16) hx hb dJ0_charAt_5068e_4 (by decide) (by decide) ?_
  refine lv_aload_n hx hb dJ0_charAt_5068e_7 rfl (lv_at hl 0 rfl) ?_
  refine k_svalue (x9 := (28, 5, [117, 100, 108, 114, 102])) hx hb hGV (by decide) hG hS hown gw1196 dJ0_charAt_5068e_8 ?_
  refine lv_iload_n hx hb dJ0_charAt_5068e_11 rfl (lv_at hl 1 rfl) ?_
  refine mc_S hSF hl.1 hP hD hS hA hK hGV (m_J1_charAt_3b067_V28 l hfl D ad cA g p1 σ _ hw) goS_J0_495 pd_J1_charAt_3b067.2 ⟨(Nat.le_of_ble_eq_true rfl), (Nat.le_of_ble_eq_true rfl)⟩ ⟨(Nat.le_of_ble_eq_true rfl), (Nat.le_of_ble_eq_true rfl)⟩ dJ0_charAt_5068e_12 rfl (Nat.le_of_ble_eq_true rfl) (fun v9 σ9 H locs hq hP hD hS => ?_) (fun _ _ _ _ _ _ h => h.elim)
  obtain ⟨r2, hv9, hs9, hw⟩ := hq
  subst hv9
  subst σ9
  refine W.eq (g2 := F0 m 15 ls [.int r2]) rfl ?_
  refine W.widen (k := 0) (n := 0) (Nat.le_refl _) (Nat.le_refl _) ?_
  obtain ⟨hc3, hw⟩ := hw
  exact vx_ret (m_i ⟨_, rfl, rfl, hw⟩ hx hb hr hlocks hc3 hP hD hS (Nat.le_of_ble_eq_true rfl) (Nat.le_of_ble_eq_true rfl) dJ0_charAt_5068e_15)

set_option maxHeartbeats 4000000 in
set_option maxRecDepth 100000 in
theorem m_J0_isLatin1_aae02_S16 (l : Launch) (hfl : l.stackTraces = false) (D : va_G) (ad : Nat → Nat) (cA : Nat → ClassId) (g : gv_T) (σ : Sg) (Q : Int32 → Prop) (hw : w_J0_isLatin1_aae02_S16  σ Q) : MC l yJ0_isLatin1_aae02 cJ0_isLatin1_aae02 1 (some .boolean) (RM 0 0 0 0) D ad cA g [.ref (g.1 16)] σ (fun v σ' => ∃ r : Int32, v = some (.int r) ∧ σ' = σ ∧ Q r) (fun _ _ => False) := by
  refine MC.of (plainFor_of_name (by decide +kernel)) (Nat.le_of_ble_eq_true rfl) ?_
  intro p e s m args below meth c A ls hx hb hr hml hown hG hlocks htab hA hS hP hK hD hGV hl
  have hown : s.vm.findClass RJ0 = some m.cls := hown
  have hl : lv_has ls 1 [(0, .ref (g.1 16))] := hl
  have hSF : CF p m c cJ0_isLatin1_aae02 1 s args RJ0 := ⟨hx, hb, hml, hown, hG⟩
  refine k_getsC hx hb hGV hG hS hown gw521 dJ0_isLatin1_aae02_0 ?_
  refine k_if_eq_f (tgt := 17) hx hb dJ0_isLatin1_aae02_3 (by decide) (by decide) ?_
  refine lv_aload_n hx hb dJ0_isLatin1_aae02_6 rfl (lv_at hl 0 rfl) ?_
  refine k_scoder (x9 := (16, 4, [108, 116, 99, 46])) hx hb hGV (by decide) hG hS hown gw1195 dJ0_isLatin1_aae02_7 ?_
  refine k_if_ne_f (tgt := 17) hx hb dJ0_isLatin1_aae02_10 (by decide) (by decide) ?_
  refine lv_iconst (v := 1) hx hb dJ0_isLatin1_aae02_13 (by decide) ?_
  refine lv_goto (tgt := 18) hx hb dJ0_isLatin1_aae02_14 (by decide) ?_
  exact vx_ret (m_i ⟨_, rfl, rfl, hw⟩ hx hb hr hlocks rfl hP hD hS (Nat.le_of_ble_eq_true rfl) (Nat.le_of_ble_eq_true rfl) dJ0_isLatin1_aae02_18)

set_option maxHeartbeats 4000000 in
set_option maxRecDepth 100000 in
theorem m_J0_coder_7d493_S16 (l : Launch) (hfl : l.stackTraces = false) (D : va_G) (ad : Nat → Nat) (cA : Nat → ClassId) (g : gv_T) (σ : Sg) (Q : Int32 → Prop) (hw : w_J0_coder_7d493_S16  σ Q) : MC l yJ0_coder_7d493 cJ0_coder_7d493 1 (some .byte) (RM 0 0 0 0) D ad cA g [.ref (g.1 16)] σ (fun v σ' => ∃ r : Int32, v = some (.int r) ∧ σ' = σ ∧ Q r) (fun _ _ => False) := by
  refine MC.of (plainFor_of_name (by decide +kernel)) (Nat.le_of_ble_eq_true rfl) ?_
  intro p e s m args below meth c A ls hx hb hr hml hown hG hlocks htab hA hS hP hK hD hGV hl
  have hown : s.vm.findClass RJ0 = some m.cls := hown
  have hl : lv_has ls 1 [(0, .ref (g.1 16))] := hl
  have hSF : CF p m c cJ0_coder_7d493 1 s args RJ0 := ⟨hx, hb, hml, hown, hG⟩
  refine k_getsC hx hb hGV hG hS hown gw521 dJ0_coder_7d493_0 ?_
  refine k_if_eq_f (tgt := 13) hx hb dJ0_coder_7d493_3 (by decide) (by decide) ?_
  refine lv_aload_n hx hb dJ0_coder_7d493_6 rfl (lv_at hl 0 rfl) ?_
  refine k_scoder (x9 := (16, 4, [108, 116, 99, 46])) hx hb hGV (by decide) hG hS hown gw1195 dJ0_coder_7d493_7 ?_
  refine lv_goto (tgt := 14) hx hb dJ0_coder_7d493_10 (by decide) ?_
  exact vx_ret (m_i ⟨_, rfl, rfl, hw⟩ hx hb hr hlocks rfl hP hD hS (Nat.le_of_ble_eq_true rfl) (Nat.le_of_ble_eq_true rfl) dJ0_coder_7d493_14)

set_option maxHeartbeats 4000000 in
set_option maxRecDepth 100000 in
theorem m_J0_length_8abf5_S16 (l : Launch) (hfl : l.stackTraces = false) (D : va_G) (ad : Nat → Nat) (cA : Nat → ClassId) (g : gv_T) (σ : Sg) (Q : Int32 → Prop) (hw : w_J0_length_8abf5_S16  σ Q) : MC l yJ0_length_8abf5 cJ0_length_8abf5 1 (some .int) (RM 1 0 0 20) D ad cA g [.ref (g.1 16)] σ (fun v σ' => ∃ r : Int32, v = some (.int r) ∧ σ' = σ ∧ Q r) (fun _ _ => False) := by
  refine MC.of (plainFor_of_name (by decide +kernel)) (Nat.le_of_ble_eq_true rfl) ?_
  intro p e s m args below meth c A ls hx hb hr hml hown hG hlocks htab hA hS hP hK hD hGV hl
  have hown : s.vm.findClass RJ0 = some m.cls := hown
  have hl : lv_has ls 1 [(0, .ref (g.1 16))] := hl
  have hSF : CF p m c cJ0_length_8abf5 1 s args RJ0 := ⟨hx, hb, hml, hown, hG⟩
  refine lv_aload_n hx hb dJ0_length_8abf5_0 rfl (lv_at hl 0 rfl) ?_
  refine k_svalue (x9 := (16, 4, [108, 116, 99, 46])) hx hb hGV (by decide) hG hS hown gw1196 dJ0_length_8abf5_1 ?_
  refine k_slen (x9 := (16, 4, [108, 116, 99, 46])) (v := 4) hx hb hGV (by decide) hS (by decide) dJ0_length_8abf5_4 ?_
  refine lv_aload_n hx hb dJ0_length_8abf5_5 rfl (lv_at hl 0 rfl) ?_
  refine mc_V hSF hl.1 hP hD hS hA hK hGV (m_J0_coder_7d493_S16 l hfl D ad cA g  σ (fun r9 => r9 = 0) rfl) goV_J0_335 pd_J0_coder_7d493 ⟨(Nat.le_of_ble_eq_true rfl), (Nat.le_of_ble_eq_true rfl)⟩ ⟨(Nat.le_of_ble_eq_true rfl), (Nat.le_of_ble_eq_true rfl)⟩ (k_srecv (x9 := (16, 4, [108, 116, 99, 46])) hGV (by decide) hS) dJ0_length_8abf5_6 rfl (Nat.le_of_ble_eq_true rfl) (fun v9 σ9 H locs hq hP hD hS => ?_) (fun _ _ _ _ _ _ h => h.elim)
  obtain ⟨r9, hv9, hs9, hr9⟩ := hq
  subst hv9
  subst σ9
  subst hr9
  refine W.eq (g2 := F0 m 9 ls [.int 0, .int 4]) rfl ?_
  refine W.widen (k := 0) (n := 0) (Nat.le_refl _) (Nat.le_refl _) ?_
  refine k_ishr (v := 4) hx hb dJ0_length_8abf5_9 (by decide +kernel) ?_
  exact vx_ret (m_i ⟨_, rfl, rfl, hw⟩ hx hb hr hlocks rfl hP hD hS (Nat.le_of_ble_eq_true rfl) (Nat.le_of_ble_eq_true rfl) dJ0_length_8abf5_10)

set_option maxHeartbeats 4000000 in
set_option maxRecDepth 100000 in
theorem m_J1_indexOfChar_4cfef_V16_0_4 (l : Launch) (hfl : l.stackTraces = false) (D : va_G) (ad : Nat → Nat) (cA : Nat → ClassId) (g : gv_T) (p1 : Int32) (σ : Sg) (Q : Int32 → Prop) (hw : w_J1_indexOfChar_4cfef_V16_0_4 p1 σ Q) : MC l yJ1_indexOfChar_4cfef cJ1_indexOfChar_4cfef 6 (some .int) (RM 0 0 0 0) D ad cA g [.ref (g.2.1 16), .int p1, .int 0, .int 4] σ (fun v σ' => ∃ r : Int32, v = some (.int r) ∧ σ' = σ ∧ Q r) (fun _ _ => False) := by
  refine MC.of (plainFor_of_name (by decide +kernel)) (Nat.le_of_ble_eq_true rfl) ?_
  intro p e s m args below meth c A ls hx hb hr hml hown hG hlocks htab hA hS hP hK hD hGV hl
  have hown : s.vm.findClass RJ1 = some m.cls := hown
  have hl : lv_has ls 6 [(0, .ref (g.2.1 16)), (1, .int p1), (2, .int 0), (3, .int 4)] := hl
  have hSF : CF p m c cJ1_indexOfChar_4cfef 6 s args RJ1 := ⟨hx, hb, hml, hown, hG⟩
  refine lv_iload_n hx hb dJ1_indexOfChar_4cfef_0 rfl (lv_at hl 1 rfl) ?_
  refine lv_i2b (v := p1.toInt8.toInt32) hx hb dJ1_indexOfChar_4cfef_1 rfl ?_
  obtain ⟨v1, ev1⟩ : ∃ z : Int32, z = p1.toInt8.toInt32 := ⟨_, rfl⟩
  have hw := hw v1 ev1
  refine lv_istore (lv' := [(4, .int v1), (0, .ref (g.2.1 16)), (1, .int p1), (2, .int 0), (3, .int 4)]) hx hb dJ1_indexOfChar_4cfef_2 hl (by decide) (by subst ev1; rfl) (fun ls hl => ?_)
  refine lv_iload_n hx hb dJ1_indexOfChar_4cfef_4 rfl (lv_at hl 3 rfl) ?_
  refine lv_istore (lv' := [(5, .int 0), (4, .int v1), (0, .ref (g.2.1 16)), (1, .int p1), (2, .int 0), (3, .int 4)]) hx hb dJ1_indexOfChar_4cfef_5 hl (by decide) rfl (fun ls hl => ?_)
  refine lv_iload hx hb dJ1_indexOfChar_4cfef_7 (lv_at hl 0 rfl) ?_
  refine lv_iload_n hx hb dJ1_indexOfChar_4cfef_9 rfl (lv_at hl 5 rfl) ?_
  refine k_icmp_ge_f (tgt := 31) hx hb dJ1_indexOfChar_4cfef_10 (by decide) (by decide) ?_
  refine lv_aload_n hx hb dJ1_indexOfChar_4cfef_13 rfl (lv_at hl 2 rfl) ?_
  refine lv_iload hx hb dJ1_indexOfChar_4cfef_14 (lv_at hl 0 rfl) ?_
  refine k_sld (x9 := (16, 4, [108, 116, 99, 46])) (v := 108) hx hb hGV (by decide) hS (by unfold vp_in; decide) (by decide) dJ1_indexOfChar_4cfef_16 ?_
  refine lv_iload hx hb dJ1_indexOfChar_4cfef_17 (lv_at hl 1 rfl) ?_
  refine lv_icmp_ne (tgt := 25) hx hb dJ1_indexOfChar_4cfef_19 (by decide) (fun k2 => ?_) (fun k2 => ?_)
  · skip
    have hw := hw.1 k2
    refine lv_iinc (v := 1) (lv' := [(5, .int 1), (4, .int v1), (0, .ref (g.2.1 16)), (1, .int p1), (2, .int 0), (3, .int 4)]) hx hb dJ1_indexOfChar_4cfef_25 hl (k := 0) rfl (by decide +kernel) (by decide) rfl (fun ls hl => ?_)
    refine lv_goto (tgt := 7) hx hb dJ1_indexOfChar_4cfef_28 (by decide) ?_
    refine lv_iload hx hb dJ1_indexOfChar_4cfef_7 (lv_at hl 0 rfl) ?_
    refine lv_iload_n hx hb dJ1_indexOfChar_4cfef_9 rfl (lv_at hl 5 rfl) ?_
    refine k_icmp_ge_f (tgt := 31) hx hb dJ1_indexOfChar_4cfef_10 (by decide) (by decide) ?_
    refine lv_aload_n hx hb dJ1_indexOfChar_4cfef_13 rfl (lv_at hl 2 rfl) ?_
    refine lv_iload hx hb dJ1_indexOfChar_4cfef_14 (lv_at hl 0 rfl) ?_
    refine k_sld (x9 := (16, 4, [108, 116, 99, 46])) (v := 116) hx hb hGV (by decide) hS (by unfold vp_in; decide) (by decide) dJ1_indexOfChar_4cfef_16 ?_
    refine lv_iload hx hb dJ1_indexOfChar_4cfef_17 (lv_at hl 1 rfl) ?_
    refine lv_icmp_ne (tgt := 25) hx hb dJ1_indexOfChar_4cfef_19 (by decide) (fun k3 => ?_) (fun k3 => ?_)
    · skip
      have hw := hw.1 k3
      refine lv_iinc (v := 2) (lv' := [(5, .int 2), (4, .int v1), (0, .ref (g.2.1 16)), (1, .int p1), (2, .int 0), (3, .int 4)]) hx hb dJ1_indexOfChar_4cfef_25 hl (k := 0) rfl (by decide +kernel) (by decide) rfl (fun ls hl => ?_)
      refine lv_goto (tgt := 7) hx hb dJ1_indexOfChar_4cfef_28 (by decide) ?_
      refine lv_iload hx hb dJ1_indexOfChar_4cfef_7 (lv_at hl 0 rfl) ?_
      refine lv_iload_n hx hb dJ1_indexOfChar_4cfef_9 rfl (lv_at hl 5 rfl) ?_
      refine k_icmp_ge_f (tgt := 31) hx hb dJ1_indexOfChar_4cfef_10 (by decide) (by decide) ?_
      refine lv_aload_n hx hb dJ1_indexOfChar_4cfef_13 rfl (lv_at hl 2 rfl) ?_
      refine lv_iload hx hb dJ1_indexOfChar_4cfef_14 (lv_at hl 0 rfl) ?_
      refine k_sld (x9 := (16, 4, [108, 116, 99, 46])) (v := 99) hx hb hGV (by decide) hS (by unfold vp_in; decide) (by decide) dJ1_indexOfChar_4cfef_16 ?_
      refine lv_iload hx hb dJ1_indexOfChar_4cfef_17 (lv_at hl 1 rfl) ?_
      refine lv_icmp_ne (tgt := 25) hx hb dJ1_indexOfChar_4cfef_19 (by decide) (fun k4 => ?_) (fun k4 => ?_)
      · skip
        have hw := hw.1 k4
        refine lv_iinc (v := 3) (lv' := [(5, .int 3), (4, .int v1), (0, .ref (g.2.1 16)), (1, .int p1), (2, .int 0), (3, .int 4)]) hx hb dJ1_indexOfChar_4cfef_25 hl (k := 0) rfl (by decide +kernel) (by decide) rfl (fun ls hl => ?_)
        refine lv_goto (tgt := 7) hx hb dJ1_indexOfChar_4cfef_28 (by decide) ?_
        refine lv_iload hx hb dJ1_indexOfChar_4cfef_7 (lv_at hl 0 rfl) ?_
        refine lv_iload_n hx hb dJ1_indexOfChar_4cfef_9 rfl (lv_at hl 5 rfl) ?_
        refine k_icmp_ge_f (tgt := 31) hx hb dJ1_indexOfChar_4cfef_10 (by decide) (by decide) ?_
        refine lv_aload_n hx hb dJ1_indexOfChar_4cfef_13 rfl (lv_at hl 2 rfl) ?_
        refine lv_iload hx hb dJ1_indexOfChar_4cfef_14 (lv_at hl 0 rfl) ?_
        refine k_sld (x9 := (16, 4, [108, 116, 99, 46])) (v := 46) hx hb hGV (by decide) hS (by unfold vp_in; decide) (by decide) dJ1_indexOfChar_4cfef_16 ?_
        refine lv_iload hx hb dJ1_indexOfChar_4cfef_17 (lv_at hl 1 rfl) ?_
        refine lv_icmp_ne (tgt := 25) hx hb dJ1_indexOfChar_4cfef_19 (by decide) (fun k5 => ?_) (fun k5 => ?_)
        · skip
          have hw := hw.1 k5
          refine lv_iinc (v := 4) (lv' := [(5, .int 4), (4, .int v1), (0, .ref (g.2.1 16)), (1, .int p1), (2, .int 0), (3, .int 4)]) hx hb dJ1_indexOfChar_4cfef_25 hl (k := 0) rfl (by decide +kernel) (by decide) rfl (fun ls hl => ?_)
          refine lv_goto (tgt := 7) hx hb dJ1_indexOfChar_4cfef_28 (by decide) ?_
          refine lv_iload hx hb dJ1_indexOfChar_4cfef_7 (lv_at hl 0 rfl) ?_
          refine lv_iload_n hx hb dJ1_indexOfChar_4cfef_9 rfl (lv_at hl 5 rfl) ?_
          refine k_icmp_ge_t (tgt := 31) hx hb dJ1_indexOfChar_4cfef_10 (by decide) (by decide) ?_
          refine lv_iconst (v := (-1)) hx hb dJ1_indexOfChar_4cfef_31 (by decide) ?_
          exact vx_ret (m_i ⟨_, rfl, rfl, hw⟩ hx hb hr hlocks rfl hP hD hS (Nat.le_of_ble_eq_true rfl) (Nat.le_of_ble_eq_true rfl) dJ1_indexOfChar_4cfef_32)
        · skip
          have hw := hw.2 k5
          refine lv_iload hx hb dJ1_indexOfChar_4cfef_22 (lv_at hl 0 rfl) ?_
          exact vx_ret (m_i ⟨_, rfl, rfl, hw⟩ hx hb hr hlocks rfl hP hD hS (Nat.le_of_ble_eq_true rfl) (Nat.le_of_ble_eq_true rfl) dJ1_indexOfChar_4cfef_24)
      · skip
        have hw := hw.2 k4
        refine lv_iload hx hb dJ1_indexOfChar_4cfef_22 (lv_at hl 0 rfl) ?_
        exact vx_ret (m_i ⟨_, rfl, rfl, hw⟩ hx hb hr hlocks rfl hP hD hS (Nat.le_of_ble_eq_true rfl) (Nat.le_of_ble_eq_true rfl) dJ1_indexOfChar_4cfef_24)
    · skip
      have hw := hw.2 k3
      refine lv_iload hx hb dJ1_indexOfChar_4cfef_22 (lv_at hl 0 rfl) ?_
      exact vx_ret (m_i ⟨_, rfl, rfl, hw⟩ hx hb hr hlocks rfl hP hD hS (Nat.le_of_ble_eq_true rfl) (Nat.le_of_ble_eq_true rfl) dJ1_indexOfChar_4cfef_24)
  · skip
    have hw := hw.2 k2
    refine lv_iload hx hb dJ1_indexOfChar_4cfef_22 (lv_at hl 0 rfl) ?_
    exact vx_ret (m_i ⟨_, rfl, rfl, hw⟩ hx hb hr hlocks rfl hP hD hS (Nat.le_of_ble_eq_true rfl) (Nat.le_of_ble_eq_true rfl) dJ1_indexOfChar_4cfef_24)

set_option maxHeartbeats 4000000 in
set_option maxRecDepth 100000 in
theorem m_J1_indexOf_4cfef_V16_0_4 (l : Launch) (hfl : l.stackTraces = false) (D : va_G) (ad : Nat → Nat) (cA : Nat → ClassId) (g : gv_T) (p1 : Int32) (σ : Sg) (Q : Int32 → Prop) (hw : w_J1_indexOf_4cfef_V16_0_4 p1 σ Q) : MC l yJ1_indexOf_4cfef cJ1_indexOf_4cfef 4 (some .int) (RM 1 0 0 25) D ad cA g [.ref (g.2.1 16), .int p1, .int 0, .int 4] σ (fun v σ' => ∃ r : Int32, v = some (.int r) ∧ σ' = σ ∧ Q r) (fun _ _ => False) := by
  refine MC.of (plainFor_of_name (by decide +kernel)) (Nat.le_of_ble_eq_true rfl) ?_
  intro p e s m args below meth c A ls hx hb hr hml hown hG hlocks htab hA hS hP hK hD hGV hl
  have hown : s.vm.findClass RJ1 = some m.cls := hown
  have hl : lv_has ls 4 [(0, .ref (g.2.1 16)), (1, .int p1), (2, .int 0), (3, .int 4)] := hl
  have hSF : CF p m c cJ1_indexOf_4cfef 4 s args RJ1 := ⟨hx, hb, hml, hown, hG⟩
  refine lv_iload_n hx hb dJ1_indexOf_4cfef_0 rfl (lv_at hl 1 rfl) ?_
  refine mc_S hSF hl.1 hP hD hS hA hK hGV (m_J1_canEncode_9a6ad l hfl D ad cA g p1 σ _ hw) goS_J1_88 pd_J1_canEncode_9a6ad.2 ⟨(Nat.le_of_ble_eq_true rfl), (Nat.le_of_ble_eq_true rfl)⟩ ⟨(Nat.le_of_ble_eq_true rfl), (Nat.le_of_ble_eq_true rfl)⟩ dJ1_indexOf_4cfef_1 rfl (Nat.le_of_ble_eq_true rfl) (fun v9 σ9 H locs hq hP hD hS => ?_) (fun _ _ _ _ _ _ h => h.elim)
  obtain ⟨r1, hv9, hs9, hw⟩ := hq
  subst hv9
  subst σ9
  refine W.eq (g2 := F0 m 4 ls [.int r1]) rfl ?_
  refine W.widen (k := 0) (n := 0) (Nat.le_refl _) (Nat.le_refl _) ?_
  refine lv_if_ne (tgt := 9) hx hb dJ1_indexOf_4cfef_4 (by decide) (fun k2 => ?_) (fun k2 => ?_)
  · skip
    have hw := hw.1 k2
    refine lv_iload_n hx hb dJ1_indexOf_4cfef_9 rfl (lv_at hl 2 rfl) ?_
    refine lv_iconst (v := 0) hx hb dJ1_indexOf_4cfef_10 (by decide) ?_
    refine k_mmax (v := 0) hx hb (hml.trans hl.1.symm) hown (hG _ gw537) (hG _ gw538) (hG _ gw41) (hG _ gw539) (Nat.le_of_ble_eq_true rfl) (Nat.le_of_ble_eq_true rfl) (Nat.le_of_ble_eq_true rfl) (Nat.le_of_ble_eq_true rfl) dJ1_indexOf_4cfef_11 (by decide +kernel) ?_
    refine lv_istore_n (lv' := [(2, .int 0), (0, .ref (g.2.1 16)), (1, .int p1), (3, .int 4)]) hx hb dJ1_indexOf_4cfef_14 rfl hl (by decide) rfl (fun ls hl => ?_)
    refine lv_iload_n hx hb dJ1_indexOf_4cfef_15 rfl (lv_at hl 3 rfl) ?_
    refine lv_aload_n hx hb dJ1_indexOf_4cfef_16 rfl (lv_at hl 1 rfl) ?_
    refine k_slen (x9 := (16, 4, [108, 116, 99, 46])) (v := 4) hx hb hGV (by decide) hS (by decide) dJ1_indexOf_4cfef_17 ?_
    refine k_mmin (v := 4) hx hb (hml.trans hl.1.symm) hown (hG _ gw540) (hG _ gw541) (hG _ gw41) (hG _ gw542) (Nat.le_of_ble_eq_true rfl) (Nat.le_of_ble_eq_true rfl) (Nat.le_of_ble_eq_true rfl) (Nat.le_of_ble_eq_true rfl) dJ1_indexOf_4cfef_18 (by decide +kernel) ?_
    refine lv_istore_n (lv' := [(3, .int 4), (2, .int 0), (0, .ref (g.2.1 16)), (1, .int p1)]) hx hb dJ1_indexOf_4cfef_21 rfl hl (by decide) rfl (fun ls hl => ?_)
    refine lv_iload_n hx hb dJ1_indexOf_4cfef_22 rfl (lv_at hl 1 rfl) ?_
    refine lv_iload_n hx hb dJ1_indexOf_4cfef_23 rfl (lv_at hl 0 rfl) ?_
    refine k_icmp_lt_t (tgt := 29) hx hb dJ1_indexOf_4cfef_24 (by decide) (by decide) ?_
    refine lv_aload_n hx hb dJ1_indexOf_4cfef_29 rfl (lv_at hl 2 rfl) ?_
    refine lv_iload_n hx hb dJ1_indexOf_4cfef_30 rfl (lv_at hl 3 rfl) ?_
    refine lv_iload_n hx hb dJ1_indexOf_4cfef_31 rfl (lv_at hl 1 rfl) ?_
    refine lv_iload_n hx hb dJ1_indexOf_4cfef_32 rfl (lv_at hl 0 rfl) ?_
    refine mc_S hSF hl.1 hP hD hS hA hK hGV (m_J1_indexOfChar_4cfef_V16_0_4 l hfl D ad cA g p1 σ _ hw) goS_J1_95 pd_J1_indexOfChar_4cfef.2 ⟨(Nat.le_of_ble_eq_true rfl), (Nat.le_of_ble_eq_true rfl)⟩ ⟨(Nat.le_of_ble_eq_true rfl), (Nat.le_of_ble_eq_true rfl)⟩ dJ1_indexOf_4cfef_33 rfl (Nat.le_of_ble_eq_true rfl) (fun v9 σ9 H locs hq hP hD hS => ?_) (fun _ _ _ _ _ _ h => h.elim)
    obtain ⟨r3, hv9, hs9, hw⟩ := hq
    subst hv9
    subst σ9
    refine W.eq (g2 := F0 m 36 ls [.int r3]) rfl ?_
    refine W.widen (k := 0) (n := 0) (Nat.le_refl _) (Nat.le_refl _) ?_
    exact vx_ret (m_i ⟨_, rfl, rfl, hw⟩ hx hb hr hlocks rfl hP hD hS (Nat.le_of_ble_eq_true rfl) (Nat.le_of_ble_eq_true rfl) dJ1_indexOf_4cfef_36)
  · skip
    have hw := hw.2 k2
    refine lv_iconst (v := (-1)) hx hb dJ1_indexOf_4cfef_7 (by decide) ?_
    exact vx_ret (m_i ⟨_, rfl, rfl, hw⟩ hx hb hr hlocks rfl hP hD hS (Nat.le_of_ble_eq_true rfl) (Nat.le_of_ble_eq_true rfl) dJ1_indexOf_4cfef_8)

set_option maxHeartbeats 4000000 in
set_option maxRecDepth 100000 in
theorem m_J0_indexOf_7cf53_S16_0 (l : Launch) (hfl : l.stackTraces = false) (D : va_G) (ad : Nat → Nat) (cA : Nat → ClassId) (g : gv_T) (p1 : Int32) (σ : Sg) (Q : Int32 → Prop) (hw : w_J0_indexOf_7cf53_S16_0 p1 σ Q) : MC l yJ0_indexOf_7cf53 cJ0_indexOf_7cf53 3 (some .int) (RM 2 0 0 48) D ad cA g [.ref (g.1 16), .int p1, .int 0] σ (fun v σ' => ∃ r : Int32, v = some (.int r) ∧ σ' = σ ∧ Q r) (fun _ _ => False) := by
  refine MC.of (plainFor_of_name (by decide +kernel)) (Nat.le_of_ble_eq_true rfl) ?_
  intro p e s m args below meth c A ls hx hb hr hml hown hG hlocks htab hA hS hP hK hD hGV hl
  have hown : s.vm.findClass RJ0 = some m.cls := hown
  have hl : lv_has ls 3 [(0, .ref (g.1 16)), (1, .int p1), (2, .int 0)] := hl
  have hSF : CF p m c cJ0_indexOf_7cf53 3 s args RJ0 := ⟨hx, hb, hml, hown, hG⟩
  refine lv_aload_n hx hb dJ0_indexOf_7cf53_0 rfl (lv_at hl 0 rfl) ?_
  refine mc_V hSF hl.1 hP hD hS hA hK hGV (m_J0_isLatin1_aae02_S16 l hfl D ad cA g  σ (fun r9 => r9 = 1) rfl) goV_J0_492 pd_J0_isLatin1_aae02 ⟨(Nat.le_of_ble_eq_true rfl), (Nat.le_of_ble_eq_true rfl)⟩ ⟨(Nat.le_of_ble_eq_true rfl), (Nat.le_of_ble_eq_true rfl)⟩ (k_srecv (x9 := (16, 4, [108, 116, 99, 46])) hGV (by decide) hS) dJ0_indexOf_7cf53_1 rfl (Nat.le_of_ble_eq_true rfl) (fun v9 σ9 H locs hq hP hD hS => ?_) (fun _ _ _ _ _ _ h => h.elim)
  obtain ⟨r9, hv9, hs9, hr9⟩ := hq
  subst hv9
  subst σ9
  subst hr9
  refine W.eq (g2 := F0 m 4 ls [.int 1]) rfl ?_
  refine W.widen (k := 0) (n := 0) (Nat.le_refl _) (Nat.le_refl _) ?_
  refine k_if_eq_f (tgt := 23) hx hb dJ0_indexOf_7cf53_4 (by decide) (by decide) ?_
  refine lv_aload_n hx hb dJ0_indexOf_7cf53_7 rfl (lv_at hl 0 rfl) ?_
  refine k_svalue (x9 := (16, 4, [108, 116, 99, 46])) hx hb hGV (by decide) hG hS hown gw1196 dJ0_indexOf_7cf53_8 ?_
  refine lv_iload_n hx hb dJ0_indexOf_7cf53_11 rfl (lv_at hl 1 rfl) ?_
  refine lv_iload_n hx hb dJ0_indexOf_7cf53_12 rfl (lv_at hl 2 rfl) ?_
  refine lv_aload_n hx hb dJ0_indexOf_7cf53_13 rfl (lv_at hl 0 rfl) ?_
  refine mc_V hSF hl.1 hP hD hS hA hK hGV (m_J0_length_8abf5_S16 l hfl D ad cA g  σ (fun r9 => r9 = 4) rfl) goV_J0_505 pd_J0_length_8abf5 ⟨(Nat.le_of_ble_eq_true rfl), (Nat.le_of_ble_eq_true rfl)⟩ ⟨(Nat.le_of_ble_eq_true rfl), (Nat.le_of_ble_eq_true rfl)⟩ (k_srecv (x9 := (16, 4, [108, 116, 99, 46])) hGV (by decide) hS) dJ0_indexOf_7cf53_14 rfl (Nat.le_of_ble_eq_true rfl) (fun v9 σ9 H locs hq hP hD hS => ?_) (fun _ _ _ _ _ _ h => h.elim)
  obtain ⟨r9, hv9, hs9, hr9⟩ := hq
  subst hv9
  subst σ9
  subst hr9
  refine W.eq (g2 := F0 m 17 ls [.int 4, .int 0, .int p1, .ref (g.2.1 16)]) rfl ?_
  refine W.widen (k := 0) (n := 0) (Nat.le_refl _) (Nat.le_refl _) ?_
  refine mc_S hSF hl.1 hP hD hS hA hK hGV (m_J1_indexOf_4cfef_V16_0_4 l hfl D ad cA g p1 σ _ hw) goS_J0_637 pd_J1_indexOf_4cfef.2 ⟨(Nat.le_of_ble_eq_true rfl), (Nat.le_of_ble_eq_true rfl)⟩ ⟨(Nat.le_of_ble_eq_true rfl), (Nat.le_of_ble_eq_true rfl)⟩ dJ0_indexOf_7cf53_17 rfl (Nat.le_of_ble_eq_true rfl) (fun v9 σ9 H locs hq hP hD hS => ?_) (fun _ _ _ _ _ _ h => h.elim)
  obtain ⟨r3, hv9, hs9, hw⟩ := hq
  subst hv9
  subst σ9
  refine W.eq (g2 := F0 m 20 ls [.int r3]) rfl ?_
  refine W.widen (k := 0) (n := 0) (Nat.le_refl _) (Nat.le_refl _) ?_
  refine lv_goto (tgt := 36) hx hb dJ0_indexOf_7cf53_20 (by decide) ?_
  exact vx_ret (m_i ⟨_, rfl, rfl, hw⟩ hx hb hr hlocks rfl hP hD hS (Nat.le_of_ble_eq_true rfl) (Nat.le_of_ble_eq_true rfl) dJ0_indexOf_7cf53_36)

set_option maxHeartbeats 4000000 in
set_option maxRecDepth 100000 in
theorem m_J0_indexOf_0f7a4_S16 (l : Launch) (hfl : l.stackTraces = false) (D : va_G) (ad : Nat → Nat) (cA : Nat → ClassId) (g : gv_T) (p1 : Int32) (σ : Sg) (Q : Int32 → Prop) (hw : w_J0_indexOf_0f7a4_S16 p1 σ Q) : MC l yJ0_indexOf_0f7a4 cJ0_indexOf_0f7a4 2 (some .int) (RM 3 0 0 70) D ad cA g [.ref (g.1 16), .int p1] σ (fun v σ' => ∃ r : Int32, v = some (.int r) ∧ σ' = σ ∧ Q r) (fun _ _ => False) := by
  refine MC.of (plainFor_of_name (by decide +kernel)) (Nat.le_of_ble_eq_true rfl) ?_
  intro p e s m args below meth c A ls hx hb hr hml hown hG hlocks htab hA hS hP hK hD hGV hl
  have hown : s.vm.findClass RJ0 = some m.cls := hown
  have hl : lv_has ls 2 [(0, .ref (g.1 16)), (1, .int p1)] := hl
  have hSF : CF p m c cJ0_indexOf_0f7a4 2 s args RJ0 := ⟨hx, hb, hml, hown, hG⟩
  refine lv_aload_n hx hb dJ0_indexOf_0f7a4_0 rfl (lv_at hl 0 rfl) ?_
  refine lv_iload_n hx hb dJ0_indexOf_0f7a4_1 rfl (lv_at hl 1 rfl) ?_
  refine lv_iconst (v := 0) hx hb dJ0_indexOf_0f7a4_2 (by decide) ?_
  refine mc_V hSF hl.1 hP hD hS hA hK hGV (m_J0_indexOf_7cf53_S16_0 l hfl D ad cA g p1 σ _ hw) goV_J0_633 pd_J0_indexOf_7cf53 ⟨(Nat.le_of_ble_eq_true rfl), (Nat.le_of_ble_eq_true rfl)⟩ ⟨(Nat.le_of_ble_eq_true rfl), (Nat.le_of_ble_eq_true rfl)⟩ (k_srecv (x9 := (16, 4, [108, 116, 99, 46])) hGV (by decide) hS) dJ0_indexOf_0f7a4_3 rfl (Nat.le_of_ble_eq_true rfl) (fun v9 σ9 H locs hq hP hD hS => ?_) (fun _ _ _ _ _ _ h => h.elim)
  obtain ⟨r1, hv9, hs9, hw⟩ := hq
  subst hv9
  subst σ9
  refine W.eq (g2 := F0 m 6 ls [.int r1]) rfl ?_
  refine W.widen (k := 0) (n := 0) (Nat.le_refl _) (Nat.le_refl _) ?_
  exact vx_ret (m_i ⟨_, rfl, rfl, hw⟩ hx hb hr hlocks rfl hP hD hS (Nat.le_of_ble_eq_true rfl) (Nat.le_of_ble_eq_true rfl) dJ0_indexOf_0f7a4_6)

set_option maxHeartbeats 4000000 in
set_option maxRecDepth 100000 in
theorem m_J9_max_f86c9 (l : Launch) (hfl : l.stackTraces = false) (D : va_G) (ad : Nat → Nat) (cA : Nat → ClassId) (g : gv_T) (p0 : Int64) (p1 : Int64) (σ : Sg) (Q : Int64 → Prop) (hw : w_J9_max_f86c9 p0 p1 σ Q) : MC l yJ9_max_f86c9 cJ9_max_f86c9 4 (some .long) (RM 0 0 0 0) D ad cA g [.long p0, .long p1] σ (fun v σ' => ∃ r : Int64, v = some (.long r) ∧ σ' = σ ∧ Q r) (fun _ _ => False) := by
  refine MC.of (by decide +kernel) (Nat.le_of_ble_eq_true rfl) ?_
  intro p e s m args below meth c A ls hx hb hr hml hown hG hlocks htab hA hS hP hK hD hGV hl
  have hown : s.vm.findClass RJ9 = some m.cls := hown
  have hl : lv_has ls 4 [(0, .long p0), (2, .long p1)] := hl
  have hSF : CF p m c cJ9_max_f86c9 4 s args RJ9 := ⟨hx, hb, hml, hown, hG⟩
  refine lv_lload_n hx hb dJ9_max_f86c9_0 rfl (lv_at hl 0 rfl) ?_
  refine lv_lload_n hx hb dJ9_max_f86c9_1 rfl (lv_at hl 1 rfl) ?_
  refine k_lcmp (v := lg_cmp p0 p1) hx hb dJ9_max_f86c9_2 rfl ?_
  refine lv_if_lt (tgt := 10) hx hb dJ9_max_f86c9_3 (by decide) (fun k1 => ?_) (fun k1 => ?_)
  · skip
    have hw := hw.1 (lc_lt.mp k1)
    refine lv_lload_n hx hb dJ9_max_f86c9_10 rfl (lv_at hl 1 rfl) ?_
    exact vx_ret (m_l ⟨_, rfl, rfl, hw⟩ hx hb hr hlocks hP hD hS (Nat.le_of_ble_eq_true rfl) (Nat.le_of_ble_eq_true rfl) dJ9_max_f86c9_11)
  · skip
    have hw := hw.2 (fun q9 => k1 (lc_lt.mpr q9))
    refine lv_lload_n hx hb dJ9_max_f86c9_6 rfl (lv_at hl 0 rfl) ?_
    refine lv_goto (tgt := 11) hx hb dJ9_max_f86c9_7 (by decide) ?_
    exact vx_ret (m_l ⟨_, rfl, rfl, hw⟩ hx hb hr hlocks hP hD hS (Nat.le_of_ble_eq_true rfl) (Nat.le_of_ble_eq_true rfl) dJ9_max_f86c9_11)

set_option maxHeartbeats 4000000 in
set_option maxRecDepth 100000 in
theorem m_L_isFrame (l : Launch) (hfl : l.stackTraces = false) (D : va_G) (ad : Nat → Nat) (cA : Nat → ClassId) (g : gv_T) (p1 : Int32) (p2 : Int32) (σ : Sg) (Q : Int32 → Sg → Prop) (hw : w_L_isFrame p1 p2 σ Q) : MC l yL_isFrame cL_isFrame 16 (some .boolean) (RM 9 50 300 184) D ad cA g [.ref (ad 0), .int p1, .int p2] σ (fun v σ' => ∃ r : Int32, v = some (.int r) ∧ Q r σ') (fun _ _ => False) := by
  refine MC.of (plainFor_of_name (by decide +kernel)) (Nat.le_of_ble_eq_true rfl) ?_
  intro p e s m args below meth c A ls hx hb hr hml hown hG hlocks htab hA hS hP hK hD hGV hl
  have hown : s.vm.findClass RL = some m.cls := hown
  have hl : lv_has ls 16 [(0, .ref (ad 0)), (1, .int p1), (2, .int p2)] := hl
  have hSF : CF p m c cL_isFrame 16 s args RL := ⟨hx, hb, hml, hown, hG⟩
  refine lv_aload_n hx hb dL_isFrame_0 rfl (lv_at hl 0 rfl) ?_
  refine mc_V hSF hl.1 hP hD hS hA hK hGV (m_X6_state l hfl D ad cA g  σ _ hw) goV_L_186 pd_X6_state ⟨(Nat.le_of_ble_eq_true rfl), (Nat.le_of_ble_eq_true rfl)⟩ ⟨(Nat.le_of_ble_eq_true rfl), (Nat.le_of_ble_eq_true rfl)⟩ (va_recv hK hP (ci := 8) (q0 := 0) rfl wl_0) dL_isFrame_1 rfl (Nat.le_of_ble_eq_true rfl) (fun v9 σ2 H locs hq hP hD hS => ?_) (fun _ _ _ _ _ _ h => h.elim)
  obtain ⟨r1, hv9, hw⟩ := hq
  subst hv9
  refine W.eq (g2 := F0 m 4 ls [.int r1]) rfl ?_
  refine W.widen (k := 0) (n := 0) (Nat.le_refl _) (Nat.le_refl _) ?_
  refine lv_istore_n (lv' := [(3, .int r1), (0, .ref (ad 0)), (1, .int p1), (2, .int p2)]) hx hb dL_isFrame_4 rfl hl (by decide) rfl (fun ls hl => ?_)
  refine k_ldcS hx hb hGV 16 rfl hown dL_isFrame_5 ?_
  refine lv_iload_n hx hb dL_isFrame_7 rfl (lv_at hl 0 rfl) ?_
  refine mc_V hSF hl.1 hP hD hS hA hK hGV (m_J0_indexOf_0f7a4_S16 l hfl D ad cA g r1 σ2 _ hw) goV_L_192 pd_J0_indexOf_0f7a4 ⟨(Nat.le_of_ble_eq_true rfl), (Nat.le_of_ble_eq_true rfl)⟩ ⟨(Nat.le_of_ble_eq_true rfl), (Nat.le_of_ble_eq_true rfl)⟩ (k_srecv (x9 := (16, 4, [108, 116, 99, 46])) hGV (by decide) hS) dL_isFrame_8 rfl (Nat.le_of_ble_eq_true rfl) (fun v9 σ9 H locs hq hP hD hS => ?_) (fun _ _ _ _ _ _ h => h.elim)
  obtain ⟨r3, hv9, hs9, hw⟩ := hq
  subst hv9
  subst σ9
  refine W.eq (g2 := F0 m 11 ls [.int r3]) rfl ?_
  refine W.widen (k := 0) (n := 0) (Nat.le_refl _) (Nat.le_refl _) ?_
  refine (fun hw => ?_) (hw (fun (s0_4 : Int32) => ∀ (H : Heap) (locs : List Loc) (ls : Array Slot), va_P D vwCl (WL ad cA σ2) H → va_D A (WL ad cA σ2) → va_S A s.heap H locs → lv_has ls 16 [(0, .ref (ad 0)), (2, .int p2), (3, .int r1)] → W p l e (RM 9 50 300 184) s m args below meth c H locs (0) (0) (vx_MQ below (QM D ad cA A (fun v σ' => ∃ r : Int32, v = some (.int r) ∧ Q r σ')) (XM D ad cA A (fun _ _ => False)) args s (RM 9 50 300 184).cells (RM 9 50 300 184).slots A) (F0 m 19 ls [.int s0_4])) ?_)
  · skip
    refine lv_if_lt (tgt := 18) hx hb dL_isFrame_11 (by decide) (fun k5 => ?_) (fun k5 => ?_)
    · skip
      have hw := hw.1 k5
      refine lv_iconst (v := 0) hx hb dL_isFrame_18 (by decide) ?_
      exact W.widen (Nat.le_of_ble_eq_true rfl) (Nat.le_of_ble_eq_true rfl) (hw _ _ ls hP hD hS (lv_sub hl [1, 3, 0] rfl))
    · skip
      have hw := hw.2 k5
      refine lv_iconst (v := 1) hx hb dL_isFrame_14 (by decide) ?_
      refine lv_goto (tgt := 19) hx hb dL_isFrame_15 (by decide) ?_
      exact W.widen (Nat.le_of_ble_eq_true rfl) (Nat.le_of_ble_eq_true rfl) (hw _ _ ls hP hD hS (lv_sub hl [1, 3, 0] rfl))
  · skip
    intro s0_4 hw H locs ls hP hD hS hl
    refine lv_istore (lv' := [(4, .int s0_4), (0, .ref (ad 0)), (2, .int p2), (3, .int r1)]) hx hb dL_isFrame_19 hl (by decide) rfl (fun ls hl => ?_)
    refine lv_iload_n hx hb dL_isFrame_21 rfl (lv_at hl 3 rfl) ?_
    refine lv_bipush (v := 46) hx hb dL_isFrame_22 (by decide) ?_
    refine lv_icmp_eq (tgt := 79) hx hb dL_isFrame_24 (by decide) (fun k6 => ?_) (fun k6 => ?_)
    · skip
      have hw := hw.1 k6
      refine lv_lconst (v := 0) hx hb dL_isFrame_79 (by decide) ?_
      refine lv_lstore (lv' := [(5, .long 0), (4, .int s0_4), (0, .ref (ad 0)), (2, .int p2), (3, .int r1)]) hx hb dL_isFrame_80 hl (by decide) rfl (fun ls hl => ?_)
      refine lv_lconst (v := 0) hx hb dL_isFrame_82 (by decide) ?_
      refine lv_lstore (lv' := [(7, .long 0), (5, .long 0), (4, .int s0_4), (0, .ref (ad 0)), (2, .int p2), (3, .int r1)]) hx hb dL_isFrame_83 hl (by decide) rfl (fun ls hl => ?_)
      refine lv_lconst (v := 0) hx hb dL_isFrame_85 (by decide) ?_
      refine lv_lstore (lv' := [(9, .long 0), (7, .long 0), (5, .long 0), (4, .int s0_4), (0, .ref (ad 0)), (2, .int p2), (3, .int r1)]) hx hb dL_isFrame_86 hl (by decide) rfl (fun ls hl => ?_)
      refine lv_iconst (v := 0) hx hb dL_isFrame_88 (by decide) ?_
      refine lv_istore (lv' := [(11, .int 0), (9, .long 0), (7, .long 0), (5, .long 0), (4, .int s0_4), (0, .ref (ad 0)), (2, .int p2), (3, .int r1)]) hx hb dL_isFrame_89 hl (by decide) rfl (fun ls hl => ?_)
      obtain ⟨I7, μ7, hB7, hI7, hw7⟩ := hw
      have hl : lv_has ls 16 [(0, .ref (ad 0)), (2, .int p2), (4, .int s0_4), (5, .long 0), (7, .long 0), (9, .long 0), (11, .int 0)] := lv_sub hl [5, 6, 4, 3, 2, 1, 0] rfl
      suffices key7 : ∀ (n7 : Nat) (i4_7 : Int32) (i5_7 : Int64) (i7_7 : Int64) (i9_7 : Int64) (i11_7 : Int32) (σ7 : Sg), μ7 i4_7 i5_7 i7_7 i9_7 i11_7 σ7 < n7 → I7 i4_7 i5_7 i7_7 i9_7 i11_7 σ7 → ∀ (cl7 sl7 : Nat) (hcl7 : cl7 ≤ 0 + 4 * (9 - μ7 i4_7 i5_7 i7_7 i9_7 i11_7 σ7)) (hsl7 : sl7 ≤ 0 + 24 * (9 - μ7 i4_7 i5_7 i7_7 i9_7 i11_7 σ7)) (hmu7 : μ7 i4_7 i5_7 i7_7 i9_7 i11_7 σ7 ≤ 9) (H : Heap) (locs : List Loc) (ls : Array Slot), va_P D vwCl (WL ad cA σ7) H → va_D A (WL ad cA σ7) → va_S A s.heap H locs → lv_has ls 16 [(0, .ref (ad 0)), (2, .int p2), (4, .int i4_7), (5, .long i5_7), (7, .long i7_7), (9, .long i9_7), (11, .int i11_7)] → W p l e (RM 9 50 300 184) s m args below meth c H locs cl7 sl7 (vx_MQ below (QM D ad cA A (fun v σ' => ∃ r : Int32, v = some (.int r) ∧ Q r σ')) (XM D ad cA A (fun _ _ => False)) args s (RM 9 50 300 184).cells (RM 9 50 300 184).slots A) (F0 m 91 ls []) from key7 _ _ _ _ _ _ _ (Nat.lt_succ_self _) hI7 (0) (0) (Nat.le_add_right _ _) (Nat.le_add_right _ _) hB7 _ _ ls hP hD hS hl
      clear hP hD hS hl
      intro n7
      induction n7 with
      | zero => intro _ _ _ _ _ _ h; exact absurd h (Nat.not_lt_zero _)
      | succ n7 ih7 =>
        intro i4_7 i5_7 i7_7 i9_7 i11_7 σ7 hm7 hI7 cl7 sl7 hcl7 hsl7 hmu7 H locs ls hP hD hS hl
        have hw := hw7 i4_7 i5_7 i7_7 i9_7 i11_7 σ7 hI7
        refine lv_iload hx hb dL_isFrame_91 (lv_at hl 6 rfl) ?_
        refine lv_iload_n hx hb dL_isFrame_93 rfl (lv_at hl 1 rfl) ?_
        refine lv_icmp_ge (tgt := 192) hx hb dL_isFrame_94 (by decide) (fun k8 => ?_) (fun k8 => ?_)
        · skip
          have hw := hw.1 k8
          refine lv_iconst (v := 0) hx hb dL_isFrame_192 (by decide) ?_
          refine lv_istore (lv' := [(11, .int 0), (0, .ref (ad 0)), (2, .int p2), (4, .int i4_7), (5, .long i5_7), (7, .long i7_7), (9, .long i9_7)]) hx hb dL_isFrame_193 hl (by decide) rfl (fun ls hl => ?_)
          obtain ⟨I9, μ9, hB9, hI9, hw9⟩ := hw
          have hl : lv_has ls 16 [(0, .ref (ad 0)), (2, .int p2), (4, .int i4_7), (5, .long i5_7), (7, .long i7_7), (9, .long i9_7), (11, .int 0)] := lv_sub hl [1, 2, 3, 4, 5, 6, 0] rfl
          suffices key9 : ∀ (n9 : Nat) (i4_9 : Int32) (i11_9 : Int32) (σ9 : Sg), μ9 i4_9 i11_9 σ9 < n9 → I9 i4_9 i11_9 σ9 → ∀ (cl9 sl9 : Nat) (hcl9 : cl9 ≤ cl7 + 0 + 1 * (7 - μ9 i4_9 i11_9 σ9)) (hsl9 : sl9 ≤ sl7 + 0 + 6 * (7 - μ9 i4_9 i11_9 σ9)) (hmu9 : μ9 i4_9 i11_9 σ9 ≤ 7) (H : Heap) (locs : List Loc) (ls : Array Slot), va_P D vwCl (WL ad cA σ9) H → va_D A (WL ad cA σ9) → va_S A s.heap H locs → lv_has ls 16 [(0, .ref (ad 0)), (2, .int p2), (4, .int i4_9), (5, .long i5_7), (7, .long i7_7), (9, .long i9_7), (11, .int i11_9)] → W p l e (RM 9 50 300 184) s m args below meth c H locs cl9 sl9 (vx_MQ below (QM D ad cA A (fun v σ' => ∃ r : Int32, v = some (.int r) ∧ Q r σ')) (XM D ad cA A (fun _ _ => False)) args s (RM 9 50 300 184).cells (RM 9 50 300 184).slots A) (F0 m 195 ls []) from key9 _ _ _ _ (Nat.lt_succ_self _) hI9 (cl7 + 0) (sl7 + 0) (Nat.le_add_right _ _) (Nat.le_add_right _ _) hB9 _ _ ls hP hD hS hl
          clear hP hD hS hl
          intro n9
          induction n9 with
          | zero => intro _ _ _ h; exact absurd h (Nat.not_lt_zero _)
          | succ n9 ih9 =>
            intro i4_9 i11_9 σ9 hm9 hI9 cl9 sl9 hcl9 hsl9 hmu9 H locs ls hP hD hS hl
            have hw := hw9 i4_9 i11_9 σ9 hI9
            refine lv_iload hx hb dL_isFrame_195 (lv_at hl 6 rfl) ?_
            refine lv_bipush (v := 30) hx hb dL_isFrame_197 (by decide) ?_
            refine lv_icmp_gt (tgt := 228) hx hb dL_isFrame_199 (by decide) (fun k10 => ?_) (fun k10 => ?_)
            · skip
              have hw := hw.1 k10
              refine lv_aload_n hx hb dL_isFrame_228 rfl (lv_at hl 0 rfl) ?_
              refine mc_SW hSF hl.1 hP hD hS hA hK hGV (m_L_weakest l hfl D ad cA g  σ9 _ hw) goW_L_198 pd_L_weakest.2 ⟨(Nat.le_of_ble_eq_true rfl), (Nat.le_of_ble_eq_true rfl)⟩ ⟨(show cl9 + 2 ≤ 50 by omega), (show sl9 + 12 ≤ 300 by omega)⟩ dL_isFrame_229 rfl (Nat.le_of_ble_eq_true rfl) (fun v9 σ12 H locs hq hP hD hS => ?_)
              obtain ⟨r11, hv9, hw⟩ := hq
              subst hv9
              refine W.eq (g2 := F0 m 232 ls [.int r11]) rfl ?_
              refine W.widen (k := cl9 + 2) (n := sl9 + 12) (Nat.le_refl _) (Nat.le_refl _) ?_
              refine lv_istore (lv' := [(11, .int r11), (0, .ref (ad 0)), (2, .int p2), (4, .int i4_9), (5, .long i5_7), (7, .long i7_7), (9, .long i9_7)]) hx hb dL_isFrame_232 hl (by decide) rfl (fun ls hl => ?_)
              refine lv_iload hx hb dL_isFrame_234 (lv_at hl 3 rfl) ?_
              refine lv_if_eq (tgt := 296) hx hb dL_isFrame_236 (by decide) (fun k13 => ?_) (fun k13 => ?_)
              · skip
                have hw := hw.1 k13
                refine lv_iconst (v := 0) hx hb dL_isFrame_296 (by decide) ?_
                exact vx_ret (m_i ⟨_, rfl, hw⟩ hx hb hr hlocks rfl hP hD hS (show cl9 + 2 ≤ 50 by omega) (show sl9 + 12 ≤ 300 by omega) dL_isFrame_297)
              · skip
                have hw := hw.2 k13
                refine lv_aload_n hx hb dL_isFrame_239 rfl (lv_at hl 1 rfl) ?_
                refine mc_SW hSF hl.1 hP hD hS hA hK hGV (m_L_allForce l hfl D ad cA g  σ12 _ hw) goW_L_195 pd_L_allForce.2 ⟨(Nat.le_of_ble_eq_true rfl), (Nat.le_of_ble_eq_true rfl)⟩ ⟨(show cl9 + 3 ≤ 50 by omega), (show sl9 + 18 ≤ 300 by omega)⟩ dL_isFrame_240 rfl (Nat.le_of_ble_eq_true rfl) (fun v9 σ15 H locs hq hP hD hS => ?_)
                obtain ⟨r14, hv9, hw⟩ := hq
                subst hv9
                refine W.eq (g2 := F0 m 243 ls [.long r14]) rfl ?_
                refine W.widen (k := cl9 + 3) (n := sl9 + 18) (Nat.le_refl _) (Nat.le_refl _) ?_
                refine lv_lload hx hb dL_isFrame_243 (lv_at hl 4 rfl) ?_
                refine k_lcmp (v := lg_cmp r14 i5_7) hx hb dL_isFrame_245 rfl ?_
                refine lv_if_ne (tgt := 296) hx hb dL_isFrame_246 (by decide) (fun k16 => ?_) (fun k16 => ?_)
                · skip
                  have hw := hw.1 (lc_ne.mp k16)
                  refine lv_iconst (v := 0) hx hb dL_isFrame_296 (by decide) ?_
                  exact vx_ret (m_i ⟨_, rfl, hw⟩ hx hb hr hlocks rfl hP hD hS (show cl9 + 3 ≤ 50 by omega) (show sl9 + 18 ≤ 300 by omega) dL_isFrame_297)
                · skip
                  have hw := hw.2 (lc_eq.mp k16)
                  refine lv_iload_n hx hb dL_isFrame_249 rfl (lv_at hl 2 rfl) ?_
                  refine lv_if_ne (tgt := 263) hx hb dL_isFrame_250 (by decide) (fun k17 => ?_) (fun k17 => ?_)
                  · skip
                    have hw := hw.1 k17
                    refine lv_aload_n hx hb dL_isFrame_263 rfl (lv_at hl 1 rfl) ?_
                    refine lv_iload hx hb dL_isFrame_264 (lv_at hl 0 rfl) ?_
                    refine mc_SW hSF hl.1 hP hD hS hA hK hGV (m_L_force l hfl D ad cA g r11 σ15 _ hw) goW_L_206 pd_L_force.2 ⟨(Nat.le_of_ble_eq_true rfl), (Nat.le_of_ble_eq_true rfl)⟩ ⟨(show cl9 + 5 ≤ 50 by omega), (show sl9 + 30 ≤ 300 by omega)⟩ dL_isFrame_266 rfl (Nat.le_of_ble_eq_true rfl) (fun v9 σ19 H locs hq hP hD hS => ?_)
                    obtain ⟨r18, hv9, hw⟩ := hq
                    subst hv9
                    refine W.eq (g2 := F0 m 269 ls [.long r18]) rfl ?_
                    refine W.widen (k := cl9 + 5) (n := sl9 + 30) (Nat.le_refl _) (Nat.le_refl _) ?_
                    refine k_mabsl (v := mabsl r18) hx hb (hml.trans hl.1.symm) hown (hG _ gw961) (hG _ gw364) (hG _ gw41) (hG _ gw365) (Nat.le_of_ble_eq_true rfl) (Nat.le_of_ble_eq_true rfl) (show cl9 + 5 ≤ 50 by omega) (show sl9 + 30 ≤ 300 by omega) dL_isFrame_269 rfl ?_
                    refine lv_lload hx hb dL_isFrame_272 (lv_at hl 6 rfl) ?_
                    refine k_lcmp (v := lg_cmp (mabsl r18) i9_7) hx hb dL_isFrame_274 rfl ?_
                    refine lv_if_ne (tgt := 296) hx hb dL_isFrame_275 (by decide) (fun k20 => ?_) (fun k20 => ?_)
                    · skip
                      have hw := hw.1 (lc_ne.mp k20)
                      refine lv_iconst (v := 0) hx hb dL_isFrame_296 (by decide) ?_
                      exact vx_ret (m_i ⟨_, rfl, hw⟩ hx hb hr hlocks rfl hP hD hS (show cl9 + 5 ≤ 50 by omega) (show sl9 + 30 ≤ 300 by omega) dL_isFrame_297)
                    · skip
                      have hw := hw.2 (lc_eq.mp k20)
                      refine lv_aload_n hx hb dL_isFrame_278 rfl (lv_at hl 1 rfl) ?_
                      refine mc_SW hSF hl.1 hP hD hS hA hK hGV (m_L_meanPull l hfl D ad cA g  σ19 _ hw) goW_L_203 pd_L_meanPull.2 ⟨(Nat.le_of_ble_eq_true rfl), (Nat.le_of_ble_eq_true rfl)⟩ ⟨(show cl9 + 7 ≤ 50 by omega), (show sl9 + 42 ≤ 300 by omega)⟩ dL_isFrame_279 rfl (Nat.le_of_ble_eq_true rfl) (fun v9 σ22 H locs hq hP hD hS => ?_)
                      obtain ⟨r21, hv9, hw⟩ := hq
                      subst hv9
                      refine W.eq (g2 := F0 m 282 ls [.double r21]) rfl ?_
                      refine W.widen (k := cl9 + 7) (n := sl9 + 42) (Nat.le_refl _) (Nat.le_refl _) ?_
                      refine lv_lload hx hb dL_isFrame_282 (lv_at hl 5 rfl) ?_
                      refine lv_l2d hx hb dL_isFrame_284 ?_
                      refine lv_iload_n hx hb dL_isFrame_285 rfl (lv_at hl 2 rfl) ?_
                      refine lv_i2d hx hb dL_isFrame_286 ?_
                      obtain ⟨hc23, hw⟩ := hw
                      refine lv_ddiv hx hb dL_isFrame_287 hc23 ?_
                      refine lv_dcmp hx hb dL_isFrame_288 ?_
                      refine lv_if_ne (tgt := 296) hx hb dL_isFrame_289 (by decide) (fun k24 => ?_) (fun k24 => ?_)
                      · skip
                        have hw := hw.1 k24
                        refine lv_iconst (v := 0) hx hb dL_isFrame_296 (by decide) ?_
                        exact vx_ret (m_i ⟨_, rfl, hw⟩ hx hb hr hlocks rfl hP hD hS (show cl9 + 7 ≤ 50 by omega) (show sl9 + 42 ≤ 300 by omega) dL_isFrame_297)
                      · skip
                        have hw := hw.2 k24
                        refine lv_iconst (v := 1) hx hb dL_isFrame_292 (by decide) ?_
                        refine lv_goto (tgt := 297) hx hb dL_isFrame_293 (by decide) ?_
                        exact vx_ret (m_i ⟨_, rfl, hw⟩ hx hb hr hlocks rfl hP hD hS (show cl9 + 7 ≤ 50 by omega) (show sl9 + 42 ≤ 300 by omega) dL_isFrame_297)
                  · skip
                    have hw := hw.2 k17
                    refine lv_iload hx hb dL_isFrame_253 (lv_at hl 0 rfl) ?_
                    refine lv_bipush (v := (-75)) hx hb dL_isFrame_255 (by decide) ?_
                    refine lv_icmp_ne (tgt := 296) hx hb dL_isFrame_257 (by decide) (fun k25 => ?_) (fun k25 => ?_)
                    · skip
                      have hw := hw.1 k25
                      refine lv_iconst (v := 0) hx hb dL_isFrame_296 (by decide) ?_
                      exact vx_ret (m_i ⟨_, rfl, hw⟩ hx hb hr hlocks rfl hP hD hS (show cl9 + 3 ≤ 50 by omega) (show sl9 + 18 ≤ 300 by omega) dL_isFrame_297)
                    · skip
                      have hw := hw.2 k25
                      refine lv_goto (tgt := 292) hx hb dL_isFrame_260 (by decide) ?_
                      refine lv_iconst (v := 1) hx hb dL_isFrame_292 (by decide) ?_
                      refine lv_goto (tgt := 297) hx hb dL_isFrame_293 (by decide) ?_
                      exact vx_ret (m_i ⟨_, rfl, hw⟩ hx hb hr hlocks rfl hP hD hS (show cl9 + 3 ≤ 50 by omega) (show sl9 + 18 ≤ 300 by omega) dL_isFrame_297)
            · skip
              have hw := hw.2 k10
              refine lv_iload hx hb dL_isFrame_202 (lv_at hl 2 rfl) ?_
              refine lv_aload_n hx hb dL_isFrame_204 rfl (lv_at hl 0 rfl) ?_
              refine lv_iload hx hb dL_isFrame_205 (lv_at hl 6 rfl) ?_
              refine mc_SW hSF hl.1 hP hD hS hA hK hGV (m_L_isBalanced l hfl D ad cA g i11_9 σ9 _ hw) goW_L_201 pd_L_isBalanced.2 ⟨(Nat.le_of_ble_eq_true rfl), (Nat.le_of_ble_eq_true rfl)⟩ ⟨(show cl9 + 1 ≤ 50 by omega), (show sl9 + 6 ≤ 300 by omega)⟩ dL_isFrame_207 rfl (Nat.le_of_ble_eq_true rfl) (fun v9 σ27 H locs hq hP hD hS => ?_)
              obtain ⟨r26, hv9, hw⟩ := hq
              subst hv9
              refine W.eq (g2 := F0 m 210 ls [.int r26, .int i4_9]) rfl ?_
              refine W.widen (k := cl9 + 1) (n := sl9 + 6) (Nat.le_refl _) (Nat.le_refl _) ?_
              refine (fun hw => ?_) (hw (fun (s0_28 : Int32) => ∀ (H : Heap) (locs : List Loc) (ls : Array Slot), va_P D vwCl (WL ad cA σ27) H → va_D A (WL ad cA σ27) → va_S A s.heap H locs → lv_has ls 16 [(0, .ref (ad 0)), (2, .int p2), (5, .long i5_7), (7, .long i7_7), (9, .long i9_7), (11, .int i11_9)] → W p l e (RM 9 50 300 184) s m args below meth c H locs (cl9 + 1) (sl9 + 6) (vx_MQ below (QM D ad cA A (fun v σ' => ∃ r : Int32, v = some (.int r) ∧ Q r σ')) (XM D ad cA A (fun _ _ => False)) args s (RM 9 50 300 184).cells (RM 9 50 300 184).slots A) (F0 m 219 ls [.int s0_28, .int i4_9])) ?_)
              · skip
                refine lv_iconst (v := 1) hx hb dL_isFrame_210 (by decide) ?_
                refine lv_icmp_ne (tgt := 218) hx hb dL_isFrame_211 (by decide) (fun k29 => ?_) (fun k29 => ?_)
                · skip
                  have hw := hw.1 k29
                  refine lv_iconst (v := 0) hx hb dL_isFrame_218 (by decide) ?_
                  exact W.widen (Nat.add_le_add_left (Nat.le_of_ble_eq_true rfl) _) (Nat.add_le_add_left (Nat.le_of_ble_eq_true rfl) _) (hw _ _ ls hP hD hS (lv_sub hl [0, 1, 3, 4, 5, 6] rfl))
                · skip
                  have hw := hw.2 k29
                  refine lv_iconst (v := 1) hx hb dL_isFrame_214 (by decide) ?_
                  refine lv_goto (tgt := 219) hx hb dL_isFrame_215 (by decide) ?_
                  exact W.widen (Nat.add_le_add_left (Nat.le_of_ble_eq_true rfl) _) (Nat.add_le_add_left (Nat.le_of_ble_eq_true rfl) _) (hw _ _ ls hP hD hS (lv_sub hl [0, 1, 3, 4, 5, 6] rfl))
              · skip
                intro s0_28 hw H locs ls hP hD hS hl
                refine k_iand (v := i4_9 &&& s0_28) hx hb dL_isFrame_219 rfl ?_
                obtain ⟨v30, ev30⟩ : ∃ z : Int32, z = i4_9 &&& s0_28 := ⟨_, rfl⟩
                have hw := hw v30 ev30
                refine lv_istore (lv' := [(4, .int v30), (0, .ref (ad 0)), (2, .int p2), (5, .long i5_7), (7, .long i7_7), (9, .long i9_7), (11, .int i11_9)]) hx hb dL_isFrame_220 hl (by decide) (by subst ev30; rfl) (fun ls hl => ?_)
                refine lv_iinc (v := i11_9 + 5) (lv' := [(11, .int (i11_9 + 5)), (4, .int v30), (0, .ref (ad 0)), (2, .int p2), (5, .long i5_7), (7, .long i7_7), (9, .long i9_7)]) hx hb dL_isFrame_222 hl (k := 6) rfl rfl (by decide) rfl (fun ls hl => ?_)
                refine lv_goto (tgt := 195) hx hb dL_isFrame_225 (by decide) ?_
                exact ih9 v30 (i11_9 + 5) σ27 (Nat.lt_of_lt_of_le hw.2 (Nat.le_of_lt_succ hm9)) hw.1 (cl9 + 1) (sl9 + 6) (by have := hw.2; omega) (by have := hw.2; omega) (by have := hw.2; omega) _ _ ls hP hD hS (lv_sub hl [2, 3, 1, 4, 5, 6, 0] rfl)
        · skip
          have hw := hw.2 k8
          refine lv_aload_n hx hb dL_isFrame_97 rfl (lv_at hl 0 rfl) ?_
          refine lv_iload hx hb dL_isFrame_98 (lv_at hl 6 rfl) ?_
          refine mc_SW hSF hl.1 hP hD hS hA hK hGV (m_L_force l hfl D ad cA g i11_7 σ7 _ hw) goW_L_206 pd_L_force.2 ⟨(Nat.le_of_ble_eq_true rfl), (Nat.le_of_ble_eq_true rfl)⟩ ⟨(show cl7 + 2 ≤ 50 by omega), (show sl7 + 12 ≤ 300 by omega)⟩ dL_isFrame_100 rfl (Nat.le_of_ble_eq_true rfl) (fun v9 σ32 H locs hq hP hD hS => ?_)
          obtain ⟨r31, hv9, hw⟩ := hq
          subst hv9
          refine W.eq (g2 := F0 m 103 ls [.long r31]) rfl ?_
          refine W.widen (k := cl7 + 2) (n := sl7 + 12) (Nat.le_refl _) (Nat.le_refl _) ?_
          refine lv_lstore (lv' := [(12, .long r31), (0, .ref (ad 0)), (2, .int p2), (4, .int i4_7), (5, .long i5_7), (7, .long i7_7), (9, .long i9_7), (11, .int i11_7)]) hx hb dL_isFrame_103 hl (by decide) rfl (fun ls hl => ?_)
          refine lv_aload_n hx hb dL_isFrame_105 rfl (lv_at hl 1 rfl) ?_
          refine lv_iload hx hb dL_isFrame_106 (lv_at hl 7 rfl) ?_
          refine mc_SW hSF hl.1 hP hD hS hA hK hGV (m_L_pull l hfl D ad cA g i11_7 σ32 _ hw) goW_L_209 pd_L_pull.2 ⟨(Nat.le_of_ble_eq_true rfl), (Nat.le_of_ble_eq_true rfl)⟩ ⟨(show cl7 + 4 ≤ 50 by omega), (show sl7 + 24 ≤ 300 by omega)⟩ dL_isFrame_108 rfl (Nat.le_of_ble_eq_true rfl) (fun v9 σ34 H locs hq hP hD hS => ?_)
          obtain ⟨r33, hv9, hw⟩ := hq
          subst hv9
          refine W.eq (g2 := F0 m 111 ls [.long r33]) rfl ?_
          refine W.widen (k := cl7 + 4) (n := sl7 + 24) (Nat.le_refl _) (Nat.le_refl _) ?_
          refine lv_lstore (lv' := [(14, .long r33), (12, .long r31), (0, .ref (ad 0)), (2, .int p2), (4, .int i4_7), (5, .long i5_7), (7, .long i7_7), (9, .long i9_7), (11, .int i11_7)]) hx hb dL_isFrame_111 hl (by decide) rfl (fun ls hl => ?_)
          refine lv_lload hx hb dL_isFrame_113 (lv_at hl 5 rfl) ?_
          refine lv_lload hx hb dL_isFrame_115 (lv_at hl 1 rfl) ?_
          refine k_mabsl (v := mabsl r31) hx hb (hml.trans hl.1.symm) hown (hG _ gw961) (hG _ gw364) (hG _ gw41) (hG _ gw365) (Nat.le_of_ble_eq_true rfl) (Nat.le_of_ble_eq_true rfl) (show cl7 + 4 ≤ 50 by omega) (show sl7 + 24 ≤ 300 by omega) dL_isFrame_117 rfl ?_
          refine k_ladd (v := i5_7 + (mabsl r31)) hx hb dL_isFrame_120 rfl ?_
          obtain ⟨v35, ev35⟩ : ∃ z : Int64, z = i5_7 + (mabsl r31) := ⟨_, rfl⟩
          have hw := hw v35 ev35
          refine lv_lstore (lv' := [(5, .long v35), (14, .long r33), (12, .long r31), (0, .ref (ad 0)), (2, .int p2), (4, .int i4_7), (7, .long i7_7), (9, .long i9_7), (11, .int i11_7)]) hx hb dL_isFrame_121 hl (by decide) (by subst ev35; rfl) (fun ls hl => ?_)
          refine lv_lload hx hb dL_isFrame_123 (lv_at hl 6 rfl) ?_
          refine lv_lload hx hb dL_isFrame_125 (lv_at hl 1 rfl) ?_
          refine k_ladd (v := i7_7 + r33) hx hb dL_isFrame_127 rfl ?_
          obtain ⟨v36, ev36⟩ : ∃ z : Int64, z = i7_7 + r33 := ⟨_, rfl⟩
          have hw := hw v36 ev36
          refine lv_lstore (lv' := [(7, .long v36), (5, .long v35), (14, .long r33), (12, .long r31), (0, .ref (ad 0)), (2, .int p2), (4, .int i4_7), (9, .long i9_7), (11, .int i11_7)]) hx hb dL_isFrame_128 hl (by decide) (by subst ev36; rfl) (fun ls hl => ?_)
          refine lv_lload hx hb dL_isFrame_130 (lv_at hl 7 rfl) ?_
          refine lv_lload hx hb dL_isFrame_132 (lv_at hl 3 rfl) ?_
          refine k_mabsl (v := mabsl r31) hx hb (hml.trans hl.1.symm) hown (hG _ gw961) (hG _ gw364) (hG _ gw41) (hG _ gw365) (Nat.le_of_ble_eq_true rfl) (Nat.le_of_ble_eq_true rfl) (show cl7 + 4 ≤ 50 by omega) (show sl7 + 24 ≤ 300 by omega) dL_isFrame_134 rfl ?_
          refine mc_S hSF hl.1 hP hD hS hA hK hGV (m_J9_max_f86c9 l hfl D ad cA g i9_7 (mabsl r31) σ34 _ hw) goS_L_217 pd_J9_max_f86c9.2 ⟨(Nat.le_of_ble_eq_true rfl), (Nat.le_of_ble_eq_true rfl)⟩ ⟨(show cl7 + 4 ≤ 50 by omega), (show sl7 + 24 ≤ 300 by omega)⟩ dL_isFrame_137 rfl (Nat.le_of_ble_eq_true rfl) (fun v9 σ9 H locs hq hP hD hS => ?_) (fun _ _ _ _ _ _ h => h.elim)
          obtain ⟨r37, hv9, hs9, hw⟩ := hq
          subst hv9
          subst σ9
          refine W.eq (g2 := F0 m 140 ls [.long r37]) rfl ?_
          refine W.widen (k := cl7 + 4) (n := sl7 + 24) (Nat.le_refl _) (Nat.le_refl _) ?_
          refine lv_lstore (lv' := [(9, .long r37), (7, .long v36), (5, .long v35), (14, .long r33), (12, .long r31), (0, .ref (ad 0)), (2, .int p2), (4, .int i4_7), (11, .int i11_7)]) hx hb dL_isFrame_140 hl (by decide) rfl (fun ls hl => ?_)
          refine lv_iload hx hb dL_isFrame_142 (lv_at hl 7 rfl) ?_
          refine (fun hw => ?_) (hw (fun (s0_38 : Int32) => ∀ (H : Heap) (locs : List Loc) (ls : Array Slot), va_P D vwCl (WL ad cA σ34) H → va_D A (WL ad cA σ34) → va_S A s.heap H locs → lv_has ls 16 [(0, .ref (ad 0)), (2, .int p2), (5, .long v35), (7, .long v36), (9, .long r37), (11, .int i11_7)] → W p l e (RM 9 50 300 184) s m args below meth c H locs (cl7 + 4) (sl7 + 24) (vx_MQ below (QM D ad cA A (fun v σ' => ∃ r : Int32, v = some (.int r) ∧ Q r σ')) (XM D ad cA A (fun _ _ => False)) args s (RM 9 50 300 184).cells (RM 9 50 300 184).slots A) (F0 m 183 ls [.int s0_38, .int i4_7])) ?_)
          · skip
            refine lv_lload hx hb dL_isFrame_144 (lv_at hl 4 rfl) ?_
            refine lv_lconst (v := 0) hx hb dL_isFrame_146 (by decide) ?_
            refine k_lcmp (v := lg_cmp r31 0) hx hb dL_isFrame_147 rfl ?_
            refine lv_if_eq (tgt := 178) hx hb dL_isFrame_148 (by decide) (fun k39 => ?_) (fun k39 => ?_)
            · skip
              have hw := hw.1 (lc_eq.mp k39)
              refine lv_iconst (v := 1) hx hb dL_isFrame_178 (by decide) ?_
              refine lv_goto (tgt := 183) hx hb dL_isFrame_179 (by decide) ?_
              exact W.widen (Nat.add_le_add_left (Nat.le_of_ble_eq_true rfl) _) (Nat.add_le_add_left (Nat.le_of_ble_eq_true rfl) _) (hw _ _ ls hP hD hS (lv_sub hl [5, 6, 2, 1, 0, 8] rfl))
            · skip
              have hw := hw.2 (fun q9 => k39 (lc_eq.mpr q9))
              refine lv_lload hx hb dL_isFrame_151 (lv_at hl 4 rfl) ?_
              refine lv_lconst (v := 0) hx hb dL_isFrame_153 (by decide) ?_
              refine k_lcmp (v := lg_cmp r31 0) hx hb dL_isFrame_154 rfl ?_
              refine lv_if_le (tgt := 162) hx hb dL_isFrame_155 (by decide) (fun k40 => ?_) (fun k40 => ?_)
              · skip
                have hw := hw.1 (lc_le.mp k40)
                refine lv_iconst (v := 0) hx hb dL_isFrame_162 (by decide) ?_
                refine lv_lload hx hb dL_isFrame_163 (lv_at hl 3 rfl) ?_
                refine lv_lconst (v := 0) hx hb dL_isFrame_165 (by decide) ?_
                refine k_lcmp (v := lg_cmp r33 0) hx hb dL_isFrame_166 rfl ?_
                refine lv_if_lt (tgt := 174) hx hb dL_isFrame_167 (by decide) (fun k41 => ?_) (fun k41 => ?_)
                · skip
                  have hw := hw.1 (lc_lt.mp k41)
                  refine lv_iconst (v := 0) hx hb dL_isFrame_174 (by decide) ?_
                  refine k_icmp_ne_f (tgt := 182) hx hb dL_isFrame_175 (by decide) (by decide) ?_
                  refine lv_iconst (v := 1) hx hb dL_isFrame_178 (by decide) ?_
                  refine lv_goto (tgt := 183) hx hb dL_isFrame_179 (by decide) ?_
                  exact W.widen (Nat.add_le_add_left (Nat.le_of_ble_eq_true rfl) _) (Nat.add_le_add_left (Nat.le_of_ble_eq_true rfl) _) (hw _ _ ls hP hD hS (lv_sub hl [5, 6, 2, 1, 0, 8] rfl))
                · skip
                  have hw := hw.2 (fun q9 => k41 (lc_lt.mpr q9))
                  refine lv_iconst (v := 1) hx hb dL_isFrame_170 (by decide) ?_
                  refine lv_goto (tgt := 175) hx hb dL_isFrame_171 (by decide) ?_
                  refine k_icmp_ne_t (tgt := 182) hx hb dL_isFrame_175 (by decide) (by decide) ?_
                  refine lv_iconst (v := 0) hx hb dL_isFrame_182 (by decide) ?_
                  exact W.widen (Nat.add_le_add_left (Nat.le_of_ble_eq_true rfl) _) (Nat.add_le_add_left (Nat.le_of_ble_eq_true rfl) _) (hw _ _ ls hP hD hS (lv_sub hl [5, 6, 2, 1, 0, 8] rfl))
              · skip
                have hw := hw.2 (fun q9 => k40 (lc_le.mpr q9))
                refine lv_iconst (v := 1) hx hb dL_isFrame_158 (by decide) ?_
                refine lv_goto (tgt := 163) hx hb dL_isFrame_159 (by decide) ?_
                refine lv_lload hx hb dL_isFrame_163 (lv_at hl 3 rfl) ?_
                refine lv_lconst (v := 0) hx hb dL_isFrame_165 (by decide) ?_
                refine k_lcmp (v := lg_cmp r33 0) hx hb dL_isFrame_166 rfl ?_
                refine lv_if_lt (tgt := 174) hx hb dL_isFrame_167 (by decide) (fun k42 => ?_) (fun k42 => ?_)
                · skip
                  have hw := hw.1 (lc_lt.mp k42)
                  refine lv_iconst (v := 0) hx hb dL_isFrame_174 (by decide) ?_
                  refine k_icmp_ne_t (tgt := 182) hx hb dL_isFrame_175 (by decide) (by decide) ?_
                  refine lv_iconst (v := 0) hx hb dL_isFrame_182 (by decide) ?_
                  exact W.widen (Nat.add_le_add_left (Nat.le_of_ble_eq_true rfl) _) (Nat.add_le_add_left (Nat.le_of_ble_eq_true rfl) _) (hw _ _ ls hP hD hS (lv_sub hl [5, 6, 2, 1, 0, 8] rfl))
                · skip
                  have hw := hw.2 (fun q9 => k42 (lc_lt.mpr q9))
                  refine lv_iconst (v := 1) hx hb dL_isFrame_170 (by decide) ?_
                  refine lv_goto (tgt := 175) hx hb dL_isFrame_171 (by decide) ?_
                  refine k_icmp_ne_f (tgt := 182) hx hb dL_isFrame_175 (by decide) (by decide) ?_
                  refine lv_iconst (v := 1) hx hb dL_isFrame_178 (by decide) ?_
                  refine lv_goto (tgt := 183) hx hb dL_isFrame_179 (by decide) ?_
                  exact W.widen (Nat.add_le_add_left (Nat.le_of_ble_eq_true rfl) _) (Nat.add_le_add_left (Nat.le_of_ble_eq_true rfl) _) (hw _ _ ls hP hD hS (lv_sub hl [5, 6, 2, 1, 0, 8] rfl))
          · skip
            intro s0_38 hw H locs ls hP hD hS hl
            refine k_iand (v := i4_7 &&& s0_38) hx hb dL_isFrame_183 rfl ?_
            obtain ⟨v43, ev43⟩ : ∃ z : Int32, z = i4_7 &&& s0_38 := ⟨_, rfl⟩
            have hw := hw v43 ev43
            refine lv_istore (lv' := [(4, .int v43), (0, .ref (ad 0)), (2, .int p2), (5, .long v35), (7, .long v36), (9, .long r37), (11, .int i11_7)]) hx hb dL_isFrame_184 hl (by decide) (by subst ev43; rfl) (fun ls hl => ?_)
            refine lv_iinc (v := i11_7 + 1) (lv' := [(11, .int (i11_7 + 1)), (4, .int v43), (0, .ref (ad 0)), (2, .int p2), (5, .long v35), (7, .long v36), (9, .long r37)]) hx hb dL_isFrame_186 hl (k := 6) rfl rfl (by decide) rfl (fun ls hl => ?_)
            refine lv_goto (tgt := 91) hx hb dL_isFrame_189 (by decide) ?_
            exact ih7 v43 v35 v36 r37 (i11_7 + 1) σ34 (Nat.lt_of_lt_of_le hw.2 (Nat.le_of_lt_succ hm7)) hw.1 (cl7 + 4) (sl7 + 24) (by have := hw.2; omega) (by have := hw.2; omega) (by have := hw.2; omega) _ _ ls hP hD hS (lv_sub hl [2, 3, 1, 4, 5, 6, 0] rfl)
    · skip
      have hw := hw.2 k6
      refine lv_iload hx hb dL_isFrame_27 (lv_at hl 0 rfl) ?_
      refine lv_if_eq (tgt := 77) hx hb dL_isFrame_29 (by decide) (fun k44 => ?_) (fun k44 => ?_)
      · skip
        have hw := hw.1 k44
        refine lv_iconst (v := 0) hx hb dL_isFrame_77 (by decide) ?_
        exact vx_ret (m_i ⟨_, rfl, hw⟩ hx hb hr hlocks rfl hP hD hS (Nat.le_of_ble_eq_true rfl) (Nat.le_of_ble_eq_true rfl) dL_isFrame_78)
      · skip
        have hw := hw.2 k44
        refine lv_aload_n hx hb dL_isFrame_32 rfl (lv_at hl 1 rfl) ?_
        refine mc_SW hSF hl.1 hP hD hS hA hK hGV (m_L_allForce l hfl D ad cA g  σ2 _ hw) goW_L_195 pd_L_allForce.2 ⟨(Nat.le_of_ble_eq_true rfl), (Nat.le_of_ble_eq_true rfl)⟩ ⟨(Nat.le_of_ble_eq_true rfl), (Nat.le_of_ble_eq_true rfl)⟩ dL_isFrame_33 rfl (Nat.le_of_ble_eq_true rfl) (fun v9 σ46 H locs hq hP hD hS => ?_)
        obtain ⟨r45, hv9, hw⟩ := hq
        subst hv9
        refine W.eq (g2 := F0 m 36 ls [.long r45]) rfl ?_
        refine W.widen (k := 1) (n := 6) (Nat.le_refl _) (Nat.le_refl _) ?_
        refine lv_ldc2 hx hb hown (hG _ gw872) dL_isFrame_36 ?_
        refine k_lcmp (v := lg_cmp r45 (-79)) hx hb dL_isFrame_39 rfl ?_
        refine lv_if_ne (tgt := 77) hx hb dL_isFrame_40 (by decide) (fun k47 => ?_) (fun k47 => ?_)
        · skip
          have hw := hw.1 (lc_ne.mp k47)
          refine lv_iconst (v := 0) hx hb dL_isFrame_77 (by decide) ?_
          exact vx_ret (m_i ⟨_, rfl, hw⟩ hx hb hr hlocks rfl hP hD hS (Nat.le_of_ble_eq_true rfl) (Nat.le_of_ble_eq_true rfl) dL_isFrame_78)
        · skip
          have hw := hw.2 (lc_eq.mp k47)
          refine lv_aload_n hx hb dL_isFrame_43 rfl (lv_at hl 1 rfl) ?_
          refine mc_SW hSF hl.1 hP hD hS hA hK hGV (m_L_weakest l hfl D ad cA g  σ46 _ hw) goW_L_198 pd_L_weakest.2 ⟨(Nat.le_of_ble_eq_true rfl), (Nat.le_of_ble_eq_true rfl)⟩ ⟨(Nat.le_of_ble_eq_true rfl), (Nat.le_of_ble_eq_true rfl)⟩ dL_isFrame_44 rfl (Nat.le_of_ble_eq_true rfl) (fun v9 σ49 H locs hq hP hD hS => ?_)
          obtain ⟨r48, hv9, hw⟩ := hq
          subst hv9
          refine W.eq (g2 := F0 m 47 ls [.int r48]) rfl ?_
          refine W.widen (k := 3) (n := 18) (Nat.le_refl _) (Nat.le_refl _) ?_
          refine lv_bipush (v := (-79)) hx hb dL_isFrame_47 (by decide) ?_
          refine lv_icmp_ne (tgt := 77) hx hb dL_isFrame_49 (by decide) (fun k50 => ?_) (fun k50 => ?_)
          · skip
            have hw := hw.1 k50
            refine lv_iconst (v := 0) hx hb dL_isFrame_77 (by decide) ?_
            exact vx_ret (m_i ⟨_, rfl, hw⟩ hx hb hr hlocks rfl hP hD hS (Nat.le_of_ble_eq_true rfl) (Nat.le_of_ble_eq_true rfl) dL_isFrame_78)
          · skip
            have hw := hw.2 k50
            refine lv_aload_n hx hb dL_isFrame_52 rfl (lv_at hl 1 rfl) ?_
            refine lv_iconst (v := 3) hx hb dL_isFrame_53 (by decide) ?_
            refine mc_SW hSF hl.1 hP hD hS hA hK hGV (m_L_isBalanced l hfl D ad cA g 3 σ49 _ hw) goW_L_201 pd_L_isBalanced.2 ⟨(Nat.le_of_ble_eq_true rfl), (Nat.le_of_ble_eq_true rfl)⟩ ⟨(Nat.le_of_ble_eq_true rfl), (Nat.le_of_ble_eq_true rfl)⟩ dL_isFrame_54 rfl (Nat.le_of_ble_eq_true rfl) (fun v9 σ52 H locs hq hP hD hS => ?_)
            obtain ⟨r51, hv9, hw⟩ := hq
            subst hv9
            refine W.eq (g2 := F0 m 57 ls [.int r51]) rfl ?_
            refine W.widen (k := 4) (n := 24) (Nat.le_refl _) (Nat.le_refl _) ?_
            refine lv_bipush (v := (-79)) hx hb dL_isFrame_57 (by decide) ?_
            refine lv_icmp_ne (tgt := 77) hx hb dL_isFrame_59 (by decide) (fun k53 => ?_) (fun k53 => ?_)
            · skip
              have hw := hw.1 k53
              refine lv_iconst (v := 0) hx hb dL_isFrame_77 (by decide) ?_
              exact vx_ret (m_i ⟨_, rfl, hw⟩ hx hb hr hlocks rfl hP hD hS (Nat.le_of_ble_eq_true rfl) (Nat.le_of_ble_eq_true rfl) dL_isFrame_78)
            · skip
              have hw := hw.2 k53
              refine lv_aload_n hx hb dL_isFrame_62 rfl (lv_at hl 1 rfl) ?_
              refine mc_SW hSF hl.1 hP hD hS hA hK hGV (m_L_meanPull l hfl D ad cA g  σ52 _ hw) goW_L_203 pd_L_meanPull.2 ⟨(Nat.le_of_ble_eq_true rfl), (Nat.le_of_ble_eq_true rfl)⟩ ⟨(Nat.le_of_ble_eq_true rfl), (Nat.le_of_ble_eq_true rfl)⟩ dL_isFrame_63 rfl (Nat.le_of_ble_eq_true rfl) (fun v9 σ55 H locs hq hP hD hS => ?_)
              obtain ⟨r54, hv9, hw⟩ := hq
              subst hv9
              refine W.eq (g2 := F0 m 66 ls [.double r54]) rfl ?_
              refine W.widen (k := 6) (n := 36) (Nat.le_refl _) (Nat.le_refl _) ?_
              refine lv_ldc2d hx hb hown (hG _ gw940) dL_isFrame_66 ?_
              refine lv_dcmp hx hb dL_isFrame_69 ?_
              refine lv_if_ne (tgt := 77) hx hb dL_isFrame_70 (by decide) (fun k56 => ?_) (fun k56 => ?_)
              · skip
                have hw := hw.1 k56
                refine lv_iconst (v := 0) hx hb dL_isFrame_77 (by decide) ?_
                exact vx_ret (m_i ⟨_, rfl, hw⟩ hx hb hr hlocks rfl hP hD hS (Nat.le_of_ble_eq_true rfl) (Nat.le_of_ble_eq_true rfl) dL_isFrame_78)
              · skip
                have hw := hw.2 k56
                refine lv_iconst (v := 1) hx hb dL_isFrame_73 (by decide) ?_
                refine lv_goto (tgt := 78) hx hb dL_isFrame_74 (by decide) ?_
                exact vx_ret (m_i ⟨_, rfl, hw⟩ hx hb hr hlocks rfl hP hD hS (Nat.le_of_ble_eq_true rfl) (Nat.le_of_ble_eq_true rfl) dL_isFrame_78)

set_option maxHeartbeats 4000000 in
set_option maxRecDepth 100000 in
theorem m_L_areJoints (l : Launch) (hfl : l.stackTraces = false) (D : va_G) (ad : Nat → Nat) (cA : Nat → ClassId) (g : gv_T) (p1 : Int32) (σ : Sg) (Q : Int32 → Prop) (hw : w_L_areJoints p1 σ Q) : MC l yL_areJoints cL_areJoints 8 (some .boolean) (RM 9 66 396 146) D ad cA g [.ref (ad 0), .int p1] σ (fun v σ' => ∃ r : Int32, v = some (.int r) ∧ σ' = σ ∧ Q r) (fun _ _ => False) := by
  refine MC.of (plainFor_of_name (by decide +kernel)) (Nat.le_of_ble_eq_true rfl) ?_
  intro p e s m args below meth c A ls hx hb hr hml hown hG hlocks htab hA hS hP hK hD hGV hl
  have hown : s.vm.findClass RL = some m.cls := hown
  have hl : lv_has ls 8 [(0, .ref (ad 0)), (1, .int p1)] := hl
  have hSF : CF p m c cL_areJoints 8 s args RL := ⟨hx, hb, hml, hown, hG⟩
  refine lv_aload_n hx hb dL_areJoints_0 rfl (lv_at hl 0 rfl) ?_
  refine lv_iload_n hx hb dL_areJoints_1 rfl (lv_at hl 1 rfl) ?_
  refine mc_SW hSF hl.1 hP hD hS hA hK hGV (m_L_isRight l hfl D ad cA g p1 σ _ hw) goW_L_221 pd_L_isRight.2 ⟨(Nat.le_of_ble_eq_true rfl), (Nat.le_of_ble_eq_true rfl)⟩ ⟨(Nat.le_of_ble_eq_true rfl), (Nat.le_of_ble_eq_true rfl)⟩ dL_areJoints_2 rfl (Nat.le_of_ble_eq_true rfl) (fun v9 σ9 H locs hq hP hD hS => ?_)
  obtain ⟨r1, hv9, hs9, hw⟩ := hq
  subst hv9
  subst σ9
  refine W.eq (g2 := F0 m 5 ls [.int r1]) rfl ?_
  refine W.widen (k := 1) (n := 6) (Nat.le_refl _) (Nat.le_refl _) ?_
  refine (fun hw => ?_) (hw (fun (s0_2 : Int32) => ∀ (H : Heap) (locs : List Loc) (ls : Array Slot), va_P D vwCl (WL ad cA σ) H → va_D A (WL ad cA σ) → va_S A s.heap H locs → lv_has ls 8 [(0, .ref (ad 0)), (1, .int p1)] → W p l e (RM 9 66 396 146) s m args below meth c H locs (1) (6) (vx_MQ below (QM D ad cA A (fun v σ' => ∃ r : Int32, v = some (.int r) ∧ σ' = σ ∧ Q r)) (XM D ad cA A (fun _ _ => False)) args s (RM 9 66 396 146).cells (RM 9 66 396 146).slots A) (F0 m 15 ls [.int s0_2])) ?_)
  · skip
    refine lv_bipush (v := (-77)) hx hb dL_areJoints_5 (by decide) ?_
    refine lv_icmp_ne (tgt := 14) hx hb dL_areJoints_7 (by decide) (fun k3 => ?_) (fun k3 => ?_)
    · skip
      have hw := hw.1 k3
      refine lv_iconst (v := 0) hx hb dL_areJoints_14 (by decide) ?_
      exact W.widen (Nat.le_of_ble_eq_true rfl) (Nat.le_of_ble_eq_true rfl) (hw _ _ ls hP hD hS (lv_sub hl [0, 1] rfl))
    · skip
      have hw := hw.2 k3
      refine lv_iconst (v := 1) hx hb dL_areJoints_10 (by decide) ?_
      refine lv_goto (tgt := 15) hx hb dL_areJoints_11 (by decide) ?_
      exact W.widen (Nat.le_of_ble_eq_true rfl) (Nat.le_of_ble_eq_true rfl) (hw _ _ ls hP hD hS (lv_sub hl [0, 1] rfl))
  · skip
    intro s0_2 hw H locs ls hP hD hS hl
    refine lv_istore_n (lv' := [(2, .int s0_2), (0, .ref (ad 0)), (1, .int p1)]) hx hb dL_areJoints_15 rfl hl (by decide) rfl (fun ls hl => ?_)
    refine lv_iconst (v := 0) hx hb dL_areJoints_16 (by decide) ?_
    refine lv_istore_n (lv' := [(3, .int 0), (2, .int s0_2), (0, .ref (ad 0)), (1, .int p1)]) hx hb dL_areJoints_17 rfl hl (by decide) rfl (fun ls hl => ?_)
    refine lv_iconst (v := 0) hx hb dL_areJoints_18 (by decide) ?_
    refine lv_istore (lv' := [(4, .int 0), (3, .int 0), (2, .int s0_2), (0, .ref (ad 0)), (1, .int p1)]) hx hb dL_areJoints_19 hl (by decide) rfl (fun ls hl => ?_)
    refine lv_iconst (v := 0) hx hb dL_areJoints_21 (by decide) ?_
    refine lv_istore (lv' := [(5, .int 0), (4, .int 0), (3, .int 0), (2, .int s0_2), (0, .ref (ad 0)), (1, .int p1)]) hx hb dL_areJoints_22 hl (by decide) rfl (fun ls hl => ?_)
    obtain ⟨I4, μ4, hB4, hI4, hw4⟩ := hw
    have hl : lv_has ls 8 [(0, .ref (ad 0)), (1, .int p1), (2, .int s0_2), (3, .int 0), (4, .int 0), (5, .int 0)] := lv_sub hl [4, 5, 3, 2, 1, 0] rfl
    suffices key4 : ∀ (n4 : Nat) (i2_4 : Int32) (i3_4 : Int32) (i4_4 : Int32) (i5_4 : Int32), μ4 i2_4 i3_4 i4_4 i5_4 < n4 → I4 i2_4 i3_4 i4_4 i5_4 → ∀ (cl4 sl4 : Nat) (hcl4 : cl4 ≤ 1 + 5 * (12 - μ4 i2_4 i3_4 i4_4 i5_4)) (hsl4 : sl4 ≤ 6 + 30 * (12 - μ4 i2_4 i3_4 i4_4 i5_4)) (hmu4 : μ4 i2_4 i3_4 i4_4 i5_4 ≤ 12) (H : Heap) (locs : List Loc) (ls : Array Slot), va_P D vwCl (WL ad cA σ) H → va_D A (WL ad cA σ) → va_S A s.heap H locs → lv_has ls 8 [(0, .ref (ad 0)), (1, .int p1), (2, .int i2_4), (3, .int i3_4), (4, .int i4_4), (5, .int i5_4)] → W p l e (RM 9 66 396 146) s m args below meth c H locs cl4 sl4 (vx_MQ below (QM D ad cA A (fun v σ' => ∃ r : Int32, v = some (.int r) ∧ σ' = σ ∧ Q r)) (XM D ad cA A (fun _ _ => False)) args s (RM 9 66 396 146).cells (RM 9 66 396 146).slots A) (F0 m 24 ls []) from key4 _ _ _ _ _ (Nat.lt_succ_self _) hI4 (1) (6) (Nat.le_add_right _ _) (Nat.le_add_right _ _) hB4 _ _ ls hP hD hS hl
    clear hP hD hS hl
    intro n4
    induction n4 with
    | zero => intro _ _ _ _ h; exact absurd h (Nat.not_lt_zero _)
    | succ n4 ih4 =>
      intro i2_4 i3_4 i4_4 i5_4 hm4 hI4 cl4 sl4 hcl4 hsl4 hmu4 H locs ls hP hD hS hl
      have hw := hw4 i2_4 i3_4 i4_4 i5_4 hI4
      refine lv_iload hx hb dL_areJoints_24 (lv_at hl 5 rfl) ?_
      refine lv_iload_n hx hb dL_areJoints_26 rfl (lv_at hl 1 rfl) ?_
      refine lv_icmp_ge (tgt := 149) hx hb dL_areJoints_27 (by decide) (fun k5 => ?_) (fun k5 => ?_)
      · skip
        have hw := hw.1 k5
        refine lv_aload_n hx hb dL_areJoints_149 rfl (lv_at hl 0 rfl) ?_
        refine mc_SW hSF hl.1 hP hD hS hA hK hGV (m_L_widest l hfl D ad cA g  σ _ hw) goW_L_229 pd_L_widest.2 ⟨(Nat.le_of_ble_eq_true rfl), (Nat.le_of_ble_eq_true rfl)⟩ ⟨(show cl4 + 1 ≤ 66 by omega), (show sl4 + 6 ≤ 396 by omega)⟩ dL_areJoints_150 rfl (Nat.le_of_ble_eq_true rfl) (fun v9 σ9 H locs hq hP hD hS => ?_)
        obtain ⟨r6, hv9, hs9, hw⟩ := hq
        subst hv9
        subst σ9
        refine W.eq (g2 := F0 m 153 ls [.int r6]) rfl ?_
        refine W.widen (k := cl4 + 1) (n := sl4 + 6) (Nat.le_refl _) (Nat.le_refl _) ?_
        refine lv_istore (lv' := [(5, .int r6), (0, .ref (ad 0)), (1, .int p1), (2, .int i2_4), (3, .int i3_4), (4, .int i4_4)]) hx hb dL_areJoints_153 hl (by decide) rfl (fun ls hl => ?_)
        refine lv_aload_n hx hb dL_areJoints_155 rfl (lv_at hl 1 rfl) ?_
        refine mc_SW hSF hl.1 hP hD hS hA hK hGV (m_L_rightShare l hfl D ad cA g  σ _ hw) goW_L_231 pd_L_rightShare.2 ⟨(Nat.le_of_ble_eq_true rfl), (Nat.le_of_ble_eq_true rfl)⟩ ⟨(show cl4 + 2 ≤ 66 by omega), (show sl4 + 12 ≤ 396 by omega)⟩ dL_areJoints_156 rfl (Nat.le_of_ble_eq_true rfl) (fun v9 σ9 H locs hq hP hD hS => ?_)
        obtain ⟨r7, hv9, hs9, hw⟩ := hq
        subst hv9
        subst σ9
        refine W.eq (g2 := F0 m 159 ls [.float r7]) rfl ?_
        refine W.widen (k := cl4 + 2) (n := sl4 + 12) (Nat.le_refl _) (Nat.le_refl _) ?_
        refine lv_fstore (lv' := [(6, .float r7), (5, .int r6), (0, .ref (ad 0)), (1, .int p1), (2, .int i2_4), (3, .int i3_4), (4, .int i4_4)]) hx hb dL_areJoints_159 hl (by decide) rfl (fun ls hl => ?_)
        refine lv_iload_n hx hb dL_areJoints_161 rfl (lv_at hl 4 rfl) ?_
        refine lv_if_eq (tgt := 230) hx hb dL_areJoints_162 (by decide) (fun k8 => ?_) (fun k8 => ?_)
        · skip
          have hw := hw.1 k8
          refine lv_iconst (v := 0) hx hb dL_areJoints_230 (by decide) ?_
          exact vx_ret (m_i ⟨_, rfl, rfl, hw⟩ hx hb hr hlocks rfl hP hD hS (show cl4 + 2 ≤ 66 by omega) (show sl4 + 12 ≤ 396 by omega) dL_areJoints_231)
        · skip
          have hw := hw.2 k8
          refine lv_aload_n hx hb dL_areJoints_165 rfl (lv_at hl 2 rfl) ?_
          refine mc_V hSF hl.1 hP hD hS hA hK hGV (m_X6_clashes l hfl D ad cA g  σ _ hw) goV_L_234 pd_X6_clashes ⟨(Nat.le_of_ble_eq_true rfl), (Nat.le_of_ble_eq_true rfl)⟩ ⟨(show cl4 + 2 ≤ 66 by omega), (show sl4 + 12 ≤ 396 by omega)⟩ (va_recv hK hP (ci := 8) (q0 := 0) rfl wl_0) dL_areJoints_166 rfl (Nat.le_of_ble_eq_true rfl) (fun v9 σ9 H locs hq hP hD hS => ?_) (fun _ _ _ _ _ _ h => h.elim)
          obtain ⟨r9, hv9, hs9, hw⟩ := hq
          subst hv9
          subst σ9
          refine W.eq (g2 := F0 m 169 ls [.int r9]) rfl ?_
          refine W.widen (k := cl4 + 2) (n := sl4 + 12) (Nat.le_refl _) (Nat.le_refl _) ?_
          refine lv_if_lt (tgt := 230) hx hb dL_areJoints_169 (by decide) (fun k10 => ?_) (fun k10 => ?_)
          · skip
            have hw := hw.1 k10
            refine lv_iconst (v := 0) hx hb dL_areJoints_230 (by decide) ?_
            exact vx_ret (m_i ⟨_, rfl, rfl, hw⟩ hx hb hr hlocks rfl hP hD hS (show cl4 + 2 ≤ 66 by omega) (show sl4 + 12 ≤ 396 by omega) dL_areJoints_231)
          · skip
            have hw := hw.2 k10
            refine lv_aload_n hx hb dL_areJoints_172 rfl (lv_at hl 2 rfl) ?_
            refine mc_V hSF hl.1 hP hD hS hA hK hGV (m_X6_clashes l hfl D ad cA g  σ _ hw) goV_L_234 pd_X6_clashes ⟨(Nat.le_of_ble_eq_true rfl), (Nat.le_of_ble_eq_true rfl)⟩ ⟨(show cl4 + 2 ≤ 66 by omega), (show sl4 + 12 ≤ 396 by omega)⟩ (va_recv hK hP (ci := 8) (q0 := 0) rfl wl_0) dL_areJoints_173 rfl (Nat.le_of_ble_eq_true rfl) (fun v9 σ9 H locs hq hP hD hS => ?_) (fun _ _ _ _ _ _ h => h.elim)
            obtain ⟨r11, hv9, hs9, hw⟩ := hq
            subst hv9
            subst σ9
            refine W.eq (g2 := F0 m 176 ls [.int r11]) rfl ?_
            refine W.widen (k := cl4 + 2) (n := sl4 + 12) (Nat.le_refl _) (Nat.le_refl _) ?_
            refine lv_iload_n hx hb dL_areJoints_176 rfl (lv_at hl 3 rfl) ?_
            refine lv_iload_n hx hb dL_areJoints_177 rfl (lv_at hl 3 rfl) ?_
            refine k_imul (v := p1 * p1) hx hb dL_areJoints_178 rfl ?_
            refine lv_icmp_gt (tgt := 230) hx hb dL_areJoints_179 (by decide) (fun k12 => ?_) (fun k12 => ?_)
            · skip
              have hw := hw.1 k12
              refine lv_iconst (v := 0) hx hb dL_areJoints_230 (by decide) ?_
              exact vx_ret (m_i ⟨_, rfl, rfl, hw⟩ hx hb hr hlocks rfl hP hD hS (show cl4 + 2 ≤ 66 by omega) (show sl4 + 12 ≤ 396 by omega) dL_areJoints_231)
            · skip
              have hw := hw.2 k12
              refine lv_iload_n hx hb dL_areJoints_182 rfl (lv_at hl 3 rfl) ?_
              refine lv_if_ne (tgt := 204) hx hb dL_areJoints_183 (by decide) (fun k13 => ?_) (fun k13 => ?_)
              · skip
                have hw := hw.1 k13
                refine lv_aload_n hx hb dL_areJoints_204 rfl (lv_at hl 2 rfl) ?_
                refine lv_iload hx hb dL_areJoints_205 (lv_at hl 1 rfl) ?_
                refine mc_SW hSF hl.1 hP hD hS hA hK hGV (m_L_gap l hfl D ad cA g r6 σ _ hw) goW_L_225 pd_L_gap.2 ⟨(Nat.le_of_ble_eq_true rfl), (Nat.le_of_ble_eq_true rfl)⟩ ⟨(show cl4 + 3 ≤ 66 by omega), (show sl4 + 18 ≤ 396 by omega)⟩ dL_areJoints_207 rfl (Nat.le_of_ble_eq_true rfl) (fun v9 σ9 H locs hq hP hD hS => ?_)
                obtain ⟨r14, hv9, hs9, hw⟩ := hq
                subst hv9
                subst σ9
                refine W.eq (g2 := F0 m 210 ls [.int r14]) rfl ?_
                refine W.widen (k := cl4 + 3) (n := sl4 + 18) (Nat.le_refl _) (Nat.le_refl _) ?_
                refine lv_iload hx hb dL_areJoints_210 (lv_at hl 6 rfl) ?_
                refine lv_icmp_ne (tgt := 230) hx hb dL_areJoints_212 (by decide) (fun k15 => ?_) (fun k15 => ?_)
                · skip
                  have hw := hw.1 k15
                  refine lv_iconst (v := 0) hx hb dL_areJoints_230 (by decide) ?_
                  exact vx_ret (m_i ⟨_, rfl, rfl, hw⟩ hx hb hr hlocks rfl hP hD hS (show cl4 + 3 ≤ 66 by omega) (show sl4 + 18 ≤ 396 by omega) dL_areJoints_231)
                · skip
                  have hw := hw.2 k15
                  refine lv_fload hx hb dL_areJoints_215 (lv_at hl 0 rfl) ?_
                  refine lv_iload_n hx hb dL_areJoints_217 rfl (lv_at hl 5 rfl) ?_
                  refine lv_i2f hx hb dL_areJoints_218 ?_
                  refine lv_iload_n hx hb dL_areJoints_219 rfl (lv_at hl 3 rfl) ?_
                  refine lv_i2f hx hb dL_areJoints_220 ?_
                  obtain ⟨hc16, hw⟩ := hw
                  refine lv_fdiv hx hb dL_areJoints_221 hc16 ?_
                  refine lv_fcmp hx hb dL_areJoints_222 ?_
                  refine lv_if_ne (tgt := 230) hx hb dL_areJoints_223 (by decide) (fun k17 => ?_) (fun k17 => ?_)
                  · skip
                    have hw := hw.1 k17
                    refine lv_iconst (v := 0) hx hb dL_areJoints_230 (by decide) ?_
                    exact vx_ret (m_i ⟨_, rfl, rfl, hw⟩ hx hb hr hlocks rfl hP hD hS (show cl4 + 3 ≤ 66 by omega) (show sl4 + 18 ≤ 396 by omega) dL_areJoints_231)
                  · skip
                    have hw := hw.2 k17
                    refine lv_iconst (v := 1) hx hb dL_areJoints_226 (by decide) ?_
                    refine lv_goto (tgt := 231) hx hb dL_areJoints_227 (by decide) ?_
                    exact vx_ret (m_i ⟨_, rfl, rfl, hw⟩ hx hb hr hlocks rfl hP hD hS (show cl4 + 3 ≤ 66 by omega) (show sl4 + 18 ≤ 396 by omega) dL_areJoints_231)
              · skip
                have hw := hw.2 k13
                refine lv_iload hx hb dL_areJoints_186 (lv_at hl 1 rfl) ?_
                refine lv_bipush (v := (-75)) hx hb dL_areJoints_188 (by decide) ?_
                refine lv_icmp_ne (tgt := 230) hx hb dL_areJoints_190 (by decide) (fun k18 => ?_) (fun k18 => ?_)
                · skip
                  have hw := hw.1 k18
                  refine lv_iconst (v := 0) hx hb dL_areJoints_230 (by decide) ?_
                  exact vx_ret (m_i ⟨_, rfl, rfl, hw⟩ hx hb hr hlocks rfl hP hD hS (show cl4 + 2 ≤ 66 by omega) (show sl4 + 12 ≤ 396 by omega) dL_areJoints_231)
                · skip
                  have hw := hw.2 k18
                  refine lv_fload hx hb dL_areJoints_193 (lv_at hl 0 rfl) ?_
                  refine lv_ldcf hx hb hown (hG _ gw1023) dL_areJoints_195 ?_
                  refine lv_fcmp hx hb dL_areJoints_197 ?_
                  refine lv_if_ne (tgt := 230) hx hb dL_areJoints_198 (by decide) (fun k19 => ?_) (fun k19 => ?_)
                  · skip
                    have hw := hw.1 k19
                    refine lv_iconst (v := 0) hx hb dL_areJoints_230 (by decide) ?_
                    exact vx_ret (m_i ⟨_, rfl, rfl, hw⟩ hx hb hr hlocks rfl hP hD hS (show cl4 + 2 ≤ 66 by omega) (show sl4 + 12 ≤ 396 by omega) dL_areJoints_231)
                  · skip
                    have hw := hw.2 k19
                    refine lv_goto (tgt := 226) hx hb dL_areJoints_201 (by decide) ?_
                    refine lv_iconst (v := 1) hx hb dL_areJoints_226 (by decide) ?_
                    refine lv_goto (tgt := 231) hx hb dL_areJoints_227 (by decide) ?_
                    exact vx_ret (m_i ⟨_, rfl, rfl, hw⟩ hx hb hr hlocks rfl hP hD hS (show cl4 + 2 ≤ 66 by omega) (show sl4 + 12 ≤ 396 by omega) dL_areJoints_231)
      · skip
        have hw := hw.2 k5
        refine lv_aload_n hx hb dL_areJoints_30 rfl (lv_at hl 0 rfl) ?_
        refine lv_iload hx hb dL_areJoints_31 (lv_at hl 5 rfl) ?_
        refine mc_SW hSF hl.1 hP hD hS hA hK hGV (m_L_misread l hfl D ad cA g i5_4 σ _ hw) goW_L_223 pd_L_misread.2 ⟨(Nat.le_of_ble_eq_true rfl), (Nat.le_of_ble_eq_true rfl)⟩ ⟨(show cl4 + 1 ≤ 66 by omega), (show sl4 + 6 ≤ 396 by omega)⟩ dL_areJoints_33 rfl (Nat.le_of_ble_eq_true rfl) (fun v9 σ9 H locs hq hP hD hS => ?_)
        obtain ⟨r20, hv9, hs9, hw⟩ := hq
        subst hv9
        subst σ9
        refine W.eq (g2 := F0 m 36 ls [.int r20]) rfl ?_
        refine W.widen (k := cl4 + 1) (n := sl4 + 6) (Nat.le_refl _) (Nat.le_refl _) ?_
        refine lv_istore (lv' := [(6, .int r20), (0, .ref (ad 0)), (1, .int p1), (2, .int i2_4), (3, .int i3_4), (4, .int i4_4), (5, .int i5_4)]) hx hb dL_areJoints_36 hl (by decide) rfl (fun ls hl => ?_)
        refine lv_iload hx hb dL_areJoints_38 (lv_at hl 0 rfl) ?_
        refine lv_iconst (v := 1) hx hb dL_areJoints_40 (by decide) ?_
        refine k_iand (v := r20 &&& 1) hx hb dL_areJoints_41 rfl ?_
        refine lv_bipush (v := 16) hx hb dL_areJoints_42 (by decide) ?_
        refine k_imul (v := (r20 &&& 1) * 16) hx hb dL_areJoints_44 rfl ?_
        refine lv_iload hx hb dL_areJoints_45 (lv_at hl 0 rfl) ?_
        refine lv_iconst (v := 2) hx hb dL_areJoints_47 (by decide) ?_
        refine k_iand (v := r20 &&& 2) hx hb dL_areJoints_48 rfl ?_
        refine lv_iconst (v := 4) hx hb dL_areJoints_49 (by decide) ?_
        refine k_imul (v := (r20 &&& 2) * 4) hx hb dL_areJoints_50 rfl ?_
        refine k_iadd (v := ((r20 &&& 1) * 16) + ((r20 &&& 2) * 4)) hx hb dL_areJoints_51 rfl ?_
        refine lv_iload hx hb dL_areJoints_52 (lv_at hl 0 rfl) ?_
        refine lv_iconst (v := 4) hx hb dL_areJoints_54 (by decide) ?_
        refine k_iand (v := r20 &&& 4) hx hb dL_areJoints_55 rfl ?_
        refine k_iadd (v := (((r20 &&& 1) * 16) + ((r20 &&& 2) * 4)) + (r20 &&& 4)) hx hb dL_areJoints_56 rfl ?_
        refine lv_iload hx hb dL_areJoints_57 (lv_at hl 0 rfl) ?_
        refine lv_bipush (v := 8) hx hb dL_areJoints_59 (by decide) ?_
        refine k_iand (v := r20 &&& 8) hx hb dL_areJoints_61 rfl ?_
        refine lv_iconst (v := 4) hx hb dL_areJoints_62 (by decide) ?_
        refine k_idiv (v := (r20 &&& 8) / 4) hx hb dL_areJoints_63 (by decide +kernel) rfl ?_
        refine k_iadd (v := ((((r20 &&& 1) * 16) + ((r20 &&& 2) * 4)) + (r20 &&& 4)) + ((r20 &&& 8) / 4)) hx hb dL_areJoints_64 rfl ?_
        refine lv_iload hx hb dL_areJoints_65 (lv_at hl 0 rfl) ?_
        refine lv_bipush (v := 16) hx hb dL_areJoints_67 (by decide) ?_
        refine k_iand (v := r20 &&& 16) hx hb dL_areJoints_69 rfl ?_
        refine lv_bipush (v := 16) hx hb dL_areJoints_70 (by decide) ?_
        refine k_idiv (v := (r20 &&& 16) / 16) hx hb dL_areJoints_72 (by decide +kernel) rfl ?_
        refine k_iadd (v := (((((r20 &&& 1) * 16) + ((r20 &&& 2) * 4)) + (r20 &&& 4)) + ((r20 &&& 8) / 4)) + ((r20 &&& 16) / 16)) hx hb dL_areJoints_73 rfl ?_
        obtain ⟨v21, ev21⟩ : ∃ z : Int32, z = (((((r20 &&& 1) * 16) + ((r20 &&& 2) * 4)) + (r20 &&& 4)) + ((r20 &&& 8) / 4)) + ((r20 &&& 16) / 16) := ⟨_, rfl⟩
        have hw := hw v21 ev21
        refine lv_istore (lv' := [(7, .int v21), (6, .int r20), (0, .ref (ad 0)), (1, .int p1), (2, .int i2_4), (3, .int i3_4), (4, .int i4_4), (5, .int i5_4)]) hx hb dL_areJoints_74 hl (by decide) (by subst ev21; rfl) (fun ls hl => ?_)
        refine lv_iload_n hx hb dL_areJoints_76 rfl (lv_at hl 4 rfl) ?_
        refine (fun hw => ?_) (hw (fun (s0_22 : Int32) => ∀ (H : Heap) (locs : List Loc) (ls : Array Slot), va_P D vwCl (WL ad cA σ) H → va_D A (WL ad cA σ) → va_S A s.heap H locs → lv_has ls 8 [(0, .ref (ad 0)), (1, .int p1), (3, .int i3_4), (4, .int i4_4), (5, .int i5_4)] → W p l e (RM 9 66 396 146) s m args below meth c H locs (cl4 + 3) (sl4 + 18) (vx_MQ below (QM D ad cA A (fun v σ' => ∃ r : Int32, v = some (.int r) ∧ σ' = σ ∧ Q r)) (XM D ad cA A (fun _ _ => False)) args s (RM 9 66 396 146).cells (RM 9 66 396 146).slots A) (F0 m 119 ls [.int s0_22, .int i2_4])) ?_)
        · skip
          refine lv_iload hx hb dL_areJoints_77 (lv_at hl 1 rfl) ?_
          refine lv_if_le (tgt := 118) hx hb dL_areJoints_79 (by decide) (fun k23 => ?_) (fun k23 => ?_)
          · skip
            have hw := hw.1 k23
            refine lv_iconst (v := 0) hx hb dL_areJoints_118 (by decide) ?_
            exact W.widen (Nat.add_le_add_left (Nat.le_of_ble_eq_true rfl) _) (Nat.add_le_add_left (Nat.le_of_ble_eq_true rfl) _) (hw _ _ ls hP hD hS (lv_sub hl [2, 3, 5, 6, 7] rfl))
          · skip
            have hw := hw.2 k23
            refine lv_iload hx hb dL_areJoints_82 (lv_at hl 1 rfl) ?_
            refine lv_bipush (v := 32) hx hb dL_areJoints_84 (by decide) ?_
            refine lv_icmp_ge (tgt := 118) hx hb dL_areJoints_86 (by decide) (fun k24 => ?_) (fun k24 => ?_)
            · skip
              have hw := hw.1 k24
              refine lv_iconst (v := 0) hx hb dL_areJoints_118 (by decide) ?_
              exact W.widen (Nat.add_le_add_left (Nat.le_of_ble_eq_true rfl) _) (Nat.add_le_add_left (Nat.le_of_ble_eq_true rfl) _) (hw _ _ ls hP hD hS (lv_sub hl [2, 3, 5, 6, 7] rfl))
            · skip
              have hw := hw.2 k24
              refine lv_iload hx hb dL_areJoints_89 (lv_at hl 0 rfl) ?_
              refine lv_if_le (tgt := 118) hx hb dL_areJoints_91 (by decide) (fun k25 => ?_) (fun k25 => ?_)
              · skip
                have hw := hw.1 k25
                refine lv_iconst (v := 0) hx hb dL_areJoints_118 (by decide) ?_
                exact W.widen (Nat.add_le_add_left (Nat.le_of_ble_eq_true rfl) _) (Nat.add_le_add_left (Nat.le_of_ble_eq_true rfl) _) (hw _ _ ls hP hD hS (lv_sub hl [2, 3, 5, 6, 7] rfl))
              · skip
                have hw := hw.2 k25
                refine lv_aload_n hx hb dL_areJoints_94 rfl (lv_at hl 2 rfl) ?_
                refine lv_iload hx hb dL_areJoints_95 (lv_at hl 7 rfl) ?_
                refine mc_SW hSF hl.1 hP hD hS hA hK hGV (m_L_gap l hfl D ad cA g i5_4 σ _ hw) goW_L_225 pd_L_gap.2 ⟨(Nat.le_of_ble_eq_true rfl), (Nat.le_of_ble_eq_true rfl)⟩ ⟨(show cl4 + 2 ≤ 66 by omega), (show sl4 + 12 ≤ 396 by omega)⟩ dL_areJoints_97 rfl (Nat.le_of_ble_eq_true rfl) (fun v9 σ9 H locs hq hP hD hS => ?_)
                obtain ⟨r26, hv9, hs9, hw⟩ := hq
                subst hv9
                subst σ9
                refine W.eq (g2 := F0 m 100 ls [.int r26, .int i2_4]) rfl ?_
                refine W.widen (k := cl4 + 2) (n := sl4 + 12) (Nat.le_refl _) (Nat.le_refl _) ?_
                refine lv_if_lt (tgt := 118) hx hb dL_areJoints_100 (by decide) (fun k27 => ?_) (fun k27 => ?_)
                · skip
                  have hw := hw.1 k27
                  refine lv_iconst (v := 0) hx hb dL_areJoints_118 (by decide) ?_
                  exact W.widen (Nat.add_le_add_left (Nat.le_of_ble_eq_true rfl) _) (Nat.add_le_add_left (Nat.le_of_ble_eq_true rfl) _) (hw _ _ ls hP hD hS (lv_sub hl [2, 3, 5, 6, 7] rfl))
                · skip
                  have hw := hw.2 k27
                  refine lv_aload_n hx hb dL_areJoints_103 rfl (lv_at hl 2 rfl) ?_
                  refine lv_iload hx hb dL_areJoints_104 (lv_at hl 7 rfl) ?_
                  refine mc_SW hSF hl.1 hP hD hS hA hK hGV (m_L_gap l hfl D ad cA g i5_4 σ _ hw) goW_L_225 pd_L_gap.2 ⟨(Nat.le_of_ble_eq_true rfl), (Nat.le_of_ble_eq_true rfl)⟩ ⟨(show cl4 + 3 ≤ 66 by omega), (show sl4 + 18 ≤ 396 by omega)⟩ dL_areJoints_106 rfl (Nat.le_of_ble_eq_true rfl) (fun v9 σ9 H locs hq hP hD hS => ?_)
                  obtain ⟨r28, hv9, hs9, hw⟩ := hq
                  subst hv9
                  subst σ9
                  refine W.eq (g2 := F0 m 109 ls [.int r28, .int i2_4]) rfl ?_
                  refine W.widen (k := cl4 + 3) (n := sl4 + 18) (Nat.le_refl _) (Nat.le_refl _) ?_
                  refine lv_bipush (v := 20) hx hb dL_areJoints_109 (by decide) ?_
                  refine lv_icmp_gt (tgt := 118) hx hb dL_areJoints_111 (by decide) (fun k29 => ?_) (fun k29 => ?_)
                  · skip
                    have hw := hw.1 k29
                    refine lv_iconst (v := 0) hx hb dL_areJoints_118 (by decide) ?_
                    exact W.widen (Nat.add_le_add_left (Nat.le_of_ble_eq_true rfl) _) (Nat.add_le_add_left (Nat.le_of_ble_eq_true rfl) _) (hw _ _ ls hP hD hS (lv_sub hl [2, 3, 5, 6, 7] rfl))
                  · skip
                    have hw := hw.2 k29
                    refine lv_iconst (v := 1) hx hb dL_areJoints_114 (by decide) ?_
                    refine lv_goto (tgt := 119) hx hb dL_areJoints_115 (by decide) ?_
                    exact W.widen (Nat.add_le_add_left (Nat.le_of_ble_eq_true rfl) _) (Nat.add_le_add_left (Nat.le_of_ble_eq_true rfl) _) (hw _ _ ls hP hD hS (lv_sub hl [2, 3, 5, 6, 7] rfl))
        · skip
          intro s0_22 hw H locs ls hP hD hS hl
          refine k_iand (v := i2_4 &&& s0_22) hx hb dL_areJoints_119 rfl ?_
          obtain ⟨v30, ev30⟩ : ∃ z : Int32, z = i2_4 &&& s0_22 := ⟨_, rfl⟩
          have hw := hw v30 ev30
          refine lv_istore_n (lv' := [(2, .int v30), (0, .ref (ad 0)), (1, .int p1), (3, .int i3_4), (4, .int i4_4), (5, .int i5_4)]) hx hb dL_areJoints_120 rfl hl (by decide) (by subst ev30; rfl) (fun ls hl => ?_)
          refine lv_iload_n hx hb dL_areJoints_121 rfl (lv_at hl 3 rfl) ?_
          refine lv_aload_n hx hb dL_areJoints_122 rfl (lv_at hl 1 rfl) ?_
          refine lv_iload hx hb dL_areJoints_123 (lv_at hl 5 rfl) ?_
          refine mc_SW hSF hl.1 hP hD hS hA hK hGV (m_L_isRight l hfl D ad cA g i5_4 σ _ hw) goW_L_221 pd_L_isRight.2 ⟨(Nat.le_of_ble_eq_true rfl), (Nat.le_of_ble_eq_true rfl)⟩ ⟨(show cl4 + 4 ≤ 66 by omega), (show sl4 + 24 ≤ 396 by omega)⟩ dL_areJoints_125 rfl (Nat.le_of_ble_eq_true rfl) (fun v9 σ9 H locs hq hP hD hS => ?_)
          obtain ⟨r31, hv9, hs9, hw⟩ := hq
          subst hv9
          subst σ9
          refine W.eq (g2 := F0 m 128 ls [.int r31, .int i3_4]) rfl ?_
          refine W.widen (k := cl4 + 4) (n := sl4 + 24) (Nat.le_refl _) (Nat.le_refl _) ?_
          refine k_iadd (v := i3_4 + r31) hx hb dL_areJoints_128 rfl ?_
          obtain ⟨v32, ev32⟩ : ∃ z : Int32, z = i3_4 + r31 := ⟨_, rfl⟩
          have hw := hw v32 ev32
          refine lv_istore_n (lv' := [(3, .int v32), (2, .int v30), (0, .ref (ad 0)), (1, .int p1), (4, .int i4_4), (5, .int i5_4)]) hx hb dL_areJoints_129 rfl hl (by decide) (by subst ev32; rfl) (fun ls hl => ?_)
          refine lv_iload hx hb dL_areJoints_130 (lv_at hl 4 rfl) ?_
          refine lv_aload_n hx hb dL_areJoints_132 rfl (lv_at hl 2 rfl) ?_
          refine lv_iload hx hb dL_areJoints_133 (lv_at hl 5 rfl) ?_
          refine mc_SW hSF hl.1 hP hD hS hA hK hGV (m_L_gap l hfl D ad cA g i5_4 σ _ hw) goW_L_225 pd_L_gap.2 ⟨(Nat.le_of_ble_eq_true rfl), (Nat.le_of_ble_eq_true rfl)⟩ ⟨(show cl4 + 5 ≤ 66 by omega), (show sl4 + 30 ≤ 396 by omega)⟩ dL_areJoints_135 rfl (Nat.le_of_ble_eq_true rfl) (fun v9 σ9 H locs hq hP hD hS => ?_)
          obtain ⟨r33, hv9, hs9, hw⟩ := hq
          subst hv9
          subst σ9
          refine W.eq (g2 := F0 m 138 ls [.int r33, .int i4_4]) rfl ?_
          refine W.widen (k := cl4 + 5) (n := sl4 + 30) (Nat.le_refl _) (Nat.le_refl _) ?_
          refine k_mmax (v := mmax i4_4 r33) hx hb (hml.trans hl.1.symm) hown (hG _ gw1007) (hG _ gw538) (hG _ gw41) (hG _ gw539) (Nat.le_of_ble_eq_true rfl) (Nat.le_of_ble_eq_true rfl) (show cl4 + 5 ≤ 66 by omega) (show sl4 + 30 ≤ 396 by omega) dL_areJoints_138 rfl ?_
          obtain ⟨v34, ev34⟩ : ∃ z : Int32, z = mmax i4_4 r33 := ⟨_, rfl⟩
          have hw := hw v34 ev34
          refine lv_istore (lv' := [(4, .int v34), (3, .int v32), (2, .int v30), (0, .ref (ad 0)), (1, .int p1), (5, .int i5_4)]) hx hb dL_areJoints_141 hl (by decide) (by subst ev34; rfl) (fun ls hl => ?_)
          refine lv_iinc (v := i5_4 + 1) (lv' := [(5, .int (i5_4 + 1)), (4, .int v34), (3, .int v32), (2, .int v30), (0, .ref (ad 0)), (1, .int p1)]) hx hb dL_areJoints_143 hl (k := 5) rfl rfl (by decide) rfl (fun ls hl => ?_)
          refine lv_goto (tgt := 24) hx hb dL_areJoints_146 (by decide) ?_
          exact ih4 v30 v32 v34 (i5_4 + 1) (Nat.lt_of_lt_of_le hw.2 (Nat.le_of_lt_succ hm4)) hw.1 (cl4 + 5) (sl4 + 30) (by have := hw.2; omega) (by have := hw.2; omega) (by have := hw.2; omega) _ _ ls hP hD hS (lv_sub hl [4, 5, 3, 2, 1, 0] rfl)

set_option maxHeartbeats 4000000 in
set_option maxRecDepth 100000 in
theorem m_L_isYard (l : Launch) (hfl : l.stackTraces = false) (D : va_G) (ad : Nat → Nat) (cA : Nat → ClassId) (g : gv_T) (p1 : Int32) (p2 : Int32) (σ : Sg) (Q : Int32 → Sg → Prop) (hw : w_L_isYard p1 p2 σ Q) : MC l yL_isYard cL_isYard 10 (some .boolean) (RM 9 57 340 164) D ad cA g [.ref (ad 0), .int p1, .int p2] σ (fun v σ' => ∃ r : Int32, v = some (.int r) ∧ Q r σ') (fun _ _ => False) := by
  refine MC.of (plainFor_of_name (by decide +kernel)) (Nat.le_of_ble_eq_true rfl) ?_
  intro p e s m args below meth c A ls hx hb hr hml hown hG hlocks htab hA hS hP hK hD hGV hl
  have hown : s.vm.findClass RL = some m.cls := hown
  have hl : lv_has ls 10 [(0, .ref (ad 0)), (1, .int p1), (2, .int p2)] := hl
  have hSF : CF p m c cL_isYard 10 s args RL := ⟨hx, hb, hml, hown, hG⟩
  refine lv_aload_n hx hb dL_isYard_0 rfl (lv_at hl 0 rfl) ?_
  refine mc_SW hSF hl.1 hP hD hS hA hK hGV (m_L_wood l hfl D ad cA g  σ _ hw) goW_L_237 pd_L_wood.2 ⟨(Nat.le_of_ble_eq_true rfl), (Nat.le_of_ble_eq_true rfl)⟩ ⟨(Nat.le_of_ble_eq_true rfl), (Nat.le_of_ble_eq_true rfl)⟩ dL_isYard_1 rfl (Nat.le_of_ble_eq_true rfl) (fun v9 σ2 H locs hq hP hD hS => ?_)
  obtain ⟨r1, hv9, hw⟩ := hq
  subst hv9
  refine W.eq (g2 := F0 m 4 ls [.int r1]) rfl ?_
  refine W.widen (k := 1) (n := 6) (Nat.le_refl _) (Nat.le_refl _) ?_
  refine lv_istore_n (lv' := [(3, .int r1), (0, .ref (ad 0)), (1, .int p1), (2, .int p2)]) hx hb dL_isYard_4 rfl hl (by decide) rfl (fun ls hl => ?_)
  refine (fun hw => ?_) (hw (fun (s0_3 : Int32) => ∀ (H : Heap) (locs : List Loc) (ls : Array Slot), va_P D vwCl (WL ad cA σ2) H → va_D A (WL ad cA σ2) → va_S A s.heap H locs → lv_has ls 10 [(0, .ref (ad 0)), (1, .int p1), (2, .int p2), (3, .int r1)] → W p l e (RM 9 57 340 164) s m args below meth c H locs (1) (6) (vx_MQ below (QM D ad cA A (fun v σ' => ∃ r : Int32, v = some (.int r) ∧ Q r σ')) (XM D ad cA A (fun _ _ => False)) args s (RM 9 57 340 164).cells (RM 9 57 340 164).slots A) (F0 m 24 ls [.int s0_3])) ?_)
  · skip
    refine lv_iload_n hx hb dL_isYard_5 rfl (lv_at hl 0 rfl) ?_
    refine lv_if_ge (tgt := 19) hx hb dL_isYard_6 (by decide) (fun k4 => ?_) (fun k4 => ?_)
    · skip
      have hw := hw.1 k4
      refine lv_iconst (v := 1) hx hb dL_isYard_19 (by decide) ?_
      refine lv_goto (tgt := 24) hx hb dL_isYard_20 (by decide) ?_
      exact W.widen (Nat.le_of_ble_eq_true rfl) (Nat.le_of_ble_eq_true rfl) (hw _ _ ls hP hD hS (lv_sub hl [1, 2, 3, 0] rfl))
    · skip
      have hw := hw.2 k4
      refine lv_iload_n hx hb dL_isYard_9 rfl (lv_at hl 0 rfl) ?_
      refine lv_bipush (v := (-75)) hx hb dL_isYard_10 (by decide) ?_
      refine lv_icmp_ne (tgt := 23) hx hb dL_isYard_12 (by decide) (fun k5 => ?_) (fun k5 => ?_)
      · skip
        have hw := hw.1 k5
        refine lv_iconst (v := 0) hx hb dL_isYard_23 (by decide) ?_
        exact W.widen (Nat.le_of_ble_eq_true rfl) (Nat.le_of_ble_eq_true rfl) (hw _ _ ls hP hD hS (lv_sub hl [1, 2, 3, 0] rfl))
      · skip
        have hw := hw.2 k5
        refine lv_iload_n hx hb dL_isYard_15 rfl (lv_at hl 2 rfl) ?_
        refine lv_if_le (tgt := 23) hx hb dL_isYard_16 (by decide) (fun k6 => ?_) (fun k6 => ?_)
        · skip
          have hw := hw.1 k6
          refine lv_iconst (v := 0) hx hb dL_isYard_23 (by decide) ?_
          exact W.widen (Nat.le_of_ble_eq_true rfl) (Nat.le_of_ble_eq_true rfl) (hw _ _ ls hP hD hS (lv_sub hl [1, 2, 3, 0] rfl))
        · skip
          have hw := hw.2 k6
          refine lv_iconst (v := 1) hx hb dL_isYard_19 (by decide) ?_
          refine lv_goto (tgt := 24) hx hb dL_isYard_20 (by decide) ?_
          exact W.widen (Nat.le_of_ble_eq_true rfl) (Nat.le_of_ble_eq_true rfl) (hw _ _ ls hP hD hS (lv_sub hl [1, 2, 3, 0] rfl))
  · skip
    intro s0_3 hw H locs ls hP hD hS hl
    refine lv_istore (lv' := [(4, .int s0_3), (0, .ref (ad 0)), (1, .int p1), (2, .int p2), (3, .int r1)]) hx hb dL_isYard_24 hl (by decide) rfl (fun ls hl => ?_)
    refine lv_iconst (v := 5) hx hb dL_isYard_26 (by decide) ?_
    obtain ⟨f8, ef8⟩ : ∃ z : (Nat → Int32), z = (fun _ => 0) := ⟨_, rfl⟩
    have hw := hw f8 ef8
    refine k_newa_int hx hb hG gw120 hK hP hD hS hA 5 (by decide) (by decide) (Nat.le_of_ble_eq_true rfl) (Nat.le_of_ble_eq_true rfl) (Nat.le_of_ble_eq_true rfl) dL_isYard_27 (fun u7 H hP hD hS => ?_)
    have hP : va_P D vwCl (WL ad cA σ2 ++ [(u7, .inl (cA 0, 5, .inl f8))]) H := by rw [ef8]; first | exact hP | (rw [List.append_assoc] at hP; exact hP)
    have hD : va_D A (WL ad cA σ2 ++ [(u7, .inl (cA 0, 5, .inl f8))]) := by rw [ef8]; first | exact hD | (rw [List.append_assoc] at hD; exact hD)
    refine lv_astore (lv' := [(5, .ref u7), (4, .int s0_3), (0, .ref (ad 0)), (1, .int p1), (2, .int p2), (3, .int r1)]) hx hb dL_isYard_29 hl (by decide) rfl (fun ls hl => ?_)
    refine lv_iconst (v := 5) hx hb dL_isYard_31 (by decide) ?_
    obtain ⟨f10, ef10⟩ : ∃ z : (Nat → Int32), z = (fun _ => 0) := ⟨_, rfl⟩
    have hw := hw f10 ef10
    refine k_newa_int hx hb hG gw120 hK hP hD hS hA 5 (by decide) (by decide) (Nat.le_of_ble_eq_true rfl) (Nat.le_of_ble_eq_true rfl) (Nat.le_of_ble_eq_true rfl) dL_isYard_32 (fun u9 H hP hD hS => ?_)
    have hP : va_P D vwCl (WL ad cA σ2 ++ [(u7, .inl (cA 0, 5, .inl f8)), (u9, .inl (cA 0, 5, .inl f10))]) H := by rw [ef10]; first | exact hP | (rw [List.append_assoc] at hP; exact hP)
    have hD : va_D A (WL ad cA σ2 ++ [(u7, .inl (cA 0, 5, .inl f8)), (u9, .inl (cA 0, 5, .inl f10))]) := by rw [ef10]; first | exact hD | (rw [List.append_assoc] at hD; exact hD)
    refine lv_astore (lv' := [(6, .ref u9), (5, .ref u7), (4, .int s0_3), (0, .ref (ad 0)), (1, .int p1), (2, .int p2), (3, .int r1)]) hx hb dL_isYard_34 hl (by decide) rfl (fun ls hl => ?_)
    refine lv_iconst (v := 0) hx hb dL_isYard_36 (by decide) ?_
    refine lv_istore (lv' := [(7, .int 0), (6, .ref u9), (5, .ref u7), (4, .int s0_3), (0, .ref (ad 0)), (1, .int p1), (2, .int p2), (3, .int r1)]) hx hb dL_isYard_37 hl (by decide) rfl (fun ls hl => ?_)
    obtain ⟨I11, μ11, hB11, hI11, hw11⟩ := hw
    have hl : lv_has ls 10 [(0, .ref (ad 0)), (1, .int p1), (2, .int p2), (3, .int r1), (4, .int s0_3), (5, .ref u7), (6, .ref u9), (7, .int 0)] := lv_sub hl [4, 5, 6, 7, 3, 2, 1, 0] rfl
    suffices key11 : ∀ (n11 : Nat) (i4_11 : Int32) (i7_11 : Int32) (σ11 : Sg) (f0_11 : (Nat → Int32)) (f1_11 : (Nat → Int32)), μ11 i4_11 i7_11 σ11 f0_11 f1_11 < n11 → I11 i4_11 i7_11 σ11 f0_11 f1_11 → ∀ (cl11 sl11 : Nat) (hcl11 : cl11 ≤ 3 + 4 * (9 - μ11 i4_11 i7_11 σ11 f0_11 f1_11)) (hsl11 : sl11 ≤ 16 + 24 * (9 - μ11 i4_11 i7_11 σ11 f0_11 f1_11)) (hmu11 : μ11 i4_11 i7_11 σ11 f0_11 f1_11 ≤ 9) (H : Heap) (locs : List Loc) (ls : Array Slot), va_P D vwCl (WL ad cA σ11 ++ [(u7, .inl (cA 0, 5, .inl f0_11)), (u9, .inl (cA 0, 5, .inl f1_11))]) H → va_D A (WL ad cA σ11 ++ [(u7, .inl (cA 0, 5, .inl f0_11)), (u9, .inl (cA 0, 5, .inl f1_11))]) → va_S A s.heap H locs → lv_has ls 10 [(0, .ref (ad 0)), (1, .int p1), (2, .int p2), (3, .int r1), (4, .int i4_11), (5, .ref u7), (6, .ref u9), (7, .int i7_11)] → W p l e (RM 9 57 340 164) s m args below meth c H locs cl11 sl11 (vx_MQ below (QM D ad cA A (fun v σ' => ∃ r : Int32, v = some (.int r) ∧ Q r σ')) (XM D ad cA A (fun _ _ => False)) args s (RM 9 57 340 164).cells (RM 9 57 340 164).slots A) (F0 m 39 ls []) from key11 _ _ _ _ _ _ (Nat.lt_succ_self _) hI11 (3) (16) (Nat.le_add_right _ _) (Nat.le_add_right _ _) hB11 _ _ ls hP hD hS hl
    clear hP hD hS hl
    intro n11
    induction n11 with
    | zero => intro _ _ _ _ _ h; exact absurd h (Nat.not_lt_zero _)
    | succ n11 ih11 =>
      intro i4_11 i7_11 σ11 f0_11 f1_11 hm11 hI11 cl11 sl11 hcl11 hsl11 hmu11 H locs ls hP hD hS hl
      have hw := hw11 i4_11 i7_11 σ11 f0_11 f1_11 hI11
      refine lv_iload hx hb dL_isYard_39 (lv_at hl 7 rfl) ?_
      refine lv_iload_n hx hb dL_isYard_41 rfl (lv_at hl 1 rfl) ?_
      refine lv_icmp_ge (tgt := 133) hx hb dL_isYard_42 (by decide) (fun k12 => ?_) (fun k12 => ?_)
      · skip
        have hw := hw.1 k12
        refine lv_iconst (v := 0) hx hb dL_isYard_133 (by decide) ?_
        refine lv_istore (lv' := [(7, .int 0), (0, .ref (ad 0)), (1, .int p1), (2, .int p2), (3, .int r1), (4, .int i4_11), (5, .ref u7), (6, .ref u9)]) hx hb dL_isYard_134 hl (by decide) rfl (fun ls hl => ?_)
        refine lv_iconst (v := 0) hx hb dL_isYard_136 (by decide) ?_
        refine lv_istore (lv' := [(8, .int 0), (7, .int 0), (0, .ref (ad 0)), (1, .int p1), (2, .int p2), (3, .int r1), (4, .int i4_11), (5, .ref u7), (6, .ref u9)]) hx hb dL_isYard_137 hl (by decide) rfl (fun ls hl => ?_)
        refine lv_iconst (v := 0) hx hb dL_isYard_139 (by decide) ?_
        refine lv_istore (lv' := [(9, .int 0), (8, .int 0), (7, .int 0), (0, .ref (ad 0)), (1, .int p1), (2, .int p2), (3, .int r1), (4, .int i4_11), (5, .ref u7), (6, .ref u9)]) hx hb dL_isYard_140 hl (by decide) rfl (fun ls hl => ?_)
        obtain ⟨I13, μ13, hB13, hI13, hw13⟩ := hw
        have hl : lv_has ls 10 [(0, .ref (ad 0)), (2, .int p2), (3, .int r1), (4, .int i4_11), (5, .ref u7), (6, .ref u9), (7, .int 0), (8, .int 0), (9, .int 0)] := lv_sub hl [3, 5, 6, 7, 8, 9, 2, 1, 0] rfl
        suffices key13 : ∀ (n13 : Nat) (i4_13 : Int32) (i7_13 : Int32) (i8_13 : Int32) (i9_13 : Int32) (σ13 : Sg), μ13 i4_13 i7_13 i8_13 i9_13 σ13 < n13 → I13 i4_13 i7_13 i8_13 i9_13 σ13 → ∀ (cl13 sl13 : Nat) (hcl13 : cl13 ≤ cl11 + 0 + 3 * (5 - μ13 i4_13 i7_13 i8_13 i9_13 σ13)) (hsl13 : sl13 ≤ sl11 + 0 + 18 * (5 - μ13 i4_13 i7_13 i8_13 i9_13 σ13)) (hmu13 : μ13 i4_13 i7_13 i8_13 i9_13 σ13 ≤ 5) (H : Heap) (locs : List Loc) (ls : Array Slot), va_P D vwCl (WL ad cA σ13 ++ [(u7, .inl (cA 0, 5, .inl f0_11)), (u9, .inl (cA 0, 5, .inl f1_11))]) H → va_D A (WL ad cA σ13 ++ [(u7, .inl (cA 0, 5, .inl f0_11)), (u9, .inl (cA 0, 5, .inl f1_11))]) → va_S A s.heap H locs → lv_has ls 10 [(0, .ref (ad 0)), (2, .int p2), (3, .int r1), (4, .int i4_13), (5, .ref u7), (6, .ref u9), (7, .int i7_13), (8, .int i8_13), (9, .int i9_13)] → W p l e (RM 9 57 340 164) s m args below meth c H locs cl13 sl13 (vx_MQ below (QM D ad cA A (fun v σ' => ∃ r : Int32, v = some (.int r) ∧ Q r σ')) (XM D ad cA A (fun _ _ => False)) args s (RM 9 57 340 164).cells (RM 9 57 340 164).slots A) (F0 m 142 ls []) from key13 _ _ _ _ _ _ (Nat.lt_succ_self _) hI13 (cl11 + 0) (sl11 + 0) (Nat.le_add_right _ _) (Nat.le_add_right _ _) hB13 _ _ ls hP hD hS hl
        clear hP hD hS hl
        intro n13
        induction n13 with
        | zero => intro _ _ _ _ _ h; exact absurd h (Nat.not_lt_zero _)
        | succ n13 ih13 =>
          intro i4_13 i7_13 i8_13 i9_13 σ13 hm13 hI13 cl13 sl13 hcl13 hsl13 hmu13 H locs ls hP hD hS hl
          have hw := hw13 i4_13 i7_13 i8_13 i9_13 σ13 hI13
          refine lv_iload hx hb dL_isYard_142 (lv_at hl 8 rfl) ?_
          refine lv_iload_n hx hb dL_isYard_144 rfl (lv_at hl 1 rfl) ?_
          refine lv_icmp_ge (tgt := 217) hx hb dL_isYard_145 (by decide) (fun k14 => ?_) (fun k14 => ?_)
          · skip
            have hw := hw.1 k14
            refine lv_iload hx hb dL_isYard_217 (lv_at hl 3 rfl) ?_
            refine lv_if_eq (tgt := 251) hx hb dL_isYard_219 (by decide) (fun k15 => ?_) (fun k15 => ?_)
            · skip
              have hw := hw.1 k15
              refine lv_iconst (v := 0) hx hb dL_isYard_251 (by decide) ?_
              exact vx_ret (m_i ⟨_, rfl, hw⟩ hx hb hr hlocks rfl (subP hP) (subD hD) hS (show cl13 + 0 ≤ 57 by omega) (show sl13 + 0 ≤ 340 by omega) dL_isYard_252)
            · skip
              have hw := hw.2 k15
              refine lv_iload_n hx hb dL_isYard_222 rfl (lv_at hl 2 rfl) ?_
              refine lv_if_lt (tgt := 237) hx hb dL_isYard_223 (by decide) (fun k16 => ?_) (fun k16 => ?_)
              · skip
                have hw := hw.1 k16
                refine lv_aload_n hx hb dL_isYard_237 rfl (lv_at hl 0 rfl) ?_
                refine lv_iload_n hx hb dL_isYard_238 rfl (lv_at hl 1 rfl) ?_
                refine mc_SWx hSF hl.1 hP hD hS hA hK hGV (m_L_waste l hfl D ad cA g p2 σ13 _ hw) goW_L_243 pd_L_waste.2 ⟨(Nat.le_of_ble_eq_true rfl), (Nat.le_of_ble_eq_true rfl)⟩ ⟨(show cl13 + 1 ≤ 57 by omega), (show sl13 + 6 ≤ 340 by omega)⟩ dL_isYard_239 rfl (Nat.le_of_ble_eq_true rfl) (fun v9 σ18 H locs hq hP hD hS => ?_)
                obtain ⟨r17, hv9, hw⟩ := hq
                subst hv9
                refine W.eq (g2 := F0 m 242 ls [.int r17]) rfl ?_
                refine W.widen (k := cl13 + 1) (n := sl13 + 6) (Nat.le_refl _) (Nat.le_refl _) ?_
                refine lv_bipush (v := (-77)) hx hb dL_isYard_242 (by decide) ?_
                refine lv_icmp_ne (tgt := 251) hx hb dL_isYard_244 (by decide) (fun k19 => ?_) (fun k19 => ?_)
                · skip
                  have hw := hw.1 k19
                  refine lv_iconst (v := 0) hx hb dL_isYard_251 (by decide) ?_
                  exact vx_ret (m_i ⟨_, rfl, hw⟩ hx hb hr hlocks rfl (subP hP) (subD hD) hS (show cl13 + 1 ≤ 57 by omega) (show sl13 + 6 ≤ 340 by omega) dL_isYard_252)
                · skip
                  have hw := hw.2 k19
                  refine lv_iconst (v := 1) hx hb dL_isYard_247 (by decide) ?_
                  refine lv_goto (tgt := 252) hx hb dL_isYard_248 (by decide) ?_
                  exact vx_ret (m_i ⟨_, rfl, hw⟩ hx hb hr hlocks rfl (subP hP) (subD hD) hS (show cl13 + 1 ≤ 57 by omega) (show sl13 + 6 ≤ 340 by omega) dL_isYard_252)
              · skip
                have hw := hw.2 k16
                refine lv_iload hx hb dL_isYard_226 (lv_at hl 7 rfl) ?_
                refine lv_iload_n hx hb dL_isYard_228 rfl (lv_at hl 2 rfl) ?_
                refine lv_icmp_ne (tgt := 251) hx hb dL_isYard_229 (by decide) (fun k20 => ?_) (fun k20 => ?_)
                · skip
                  have hw := hw.1 k20
                  refine lv_iconst (v := 0) hx hb dL_isYard_251 (by decide) ?_
                  exact vx_ret (m_i ⟨_, rfl, hw⟩ hx hb hr hlocks rfl (subP hP) (subD hD) hS (show cl13 + 0 ≤ 57 by omega) (show sl13 + 0 ≤ 340 by omega) dL_isYard_252)
                · skip
                  have hw := hw.2 k20
                  refine lv_iload hx hb dL_isYard_232 (lv_at hl 6 rfl) ?_
                  refine lv_if_lt (tgt := 251) hx hb dL_isYard_234 (by decide) (fun k21 => ?_) (fun k21 => ?_)
                  · skip
                    have hw := hw.1 k21
                    refine lv_iconst (v := 0) hx hb dL_isYard_251 (by decide) ?_
                    exact vx_ret (m_i ⟨_, rfl, hw⟩ hx hb hr hlocks rfl (subP hP) (subD hD) hS (show cl13 + 0 ≤ 57 by omega) (show sl13 + 0 ≤ 340 by omega) dL_isYard_252)
                  · skip
                    have hw := hw.2 k21
                    refine lv_aload_n hx hb dL_isYard_237 rfl (lv_at hl 0 rfl) ?_
                    refine lv_iload_n hx hb dL_isYard_238 rfl (lv_at hl 1 rfl) ?_
                    refine mc_SWx hSF hl.1 hP hD hS hA hK hGV (m_L_waste l hfl D ad cA g p2 σ13 _ hw) goW_L_243 pd_L_waste.2 ⟨(Nat.le_of_ble_eq_true rfl), (Nat.le_of_ble_eq_true rfl)⟩ ⟨(show cl13 + 1 ≤ 57 by omega), (show sl13 + 6 ≤ 340 by omega)⟩ dL_isYard_239 rfl (Nat.le_of_ble_eq_true rfl) (fun v9 σ23 H locs hq hP hD hS => ?_)
                    obtain ⟨r22, hv9, hw⟩ := hq
                    subst hv9
                    refine W.eq (g2 := F0 m 242 ls [.int r22]) rfl ?_
                    refine W.widen (k := cl13 + 1) (n := sl13 + 6) (Nat.le_refl _) (Nat.le_refl _) ?_
                    refine lv_bipush (v := (-77)) hx hb dL_isYard_242 (by decide) ?_
                    refine lv_icmp_ne (tgt := 251) hx hb dL_isYard_244 (by decide) (fun k24 => ?_) (fun k24 => ?_)
                    · skip
                      have hw := hw.1 k24
                      refine lv_iconst (v := 0) hx hb dL_isYard_251 (by decide) ?_
                      exact vx_ret (m_i ⟨_, rfl, hw⟩ hx hb hr hlocks rfl (subP hP) (subD hD) hS (show cl13 + 1 ≤ 57 by omega) (show sl13 + 6 ≤ 340 by omega) dL_isYard_252)
                    · skip
                      have hw := hw.2 k24
                      refine lv_iconst (v := 1) hx hb dL_isYard_247 (by decide) ?_
                      refine lv_goto (tgt := 252) hx hb dL_isYard_248 (by decide) ?_
                      exact vx_ret (m_i ⟨_, rfl, hw⟩ hx hb hr hlocks rfl (subP hP) (subD hD) hS (show cl13 + 1 ≤ 57 by omega) (show sl13 + 6 ≤ 340 by omega) dL_isYard_252)
          · skip
            have hw := hw.2 k14
            refine lv_iload_n hx hb dL_isYard_148 rfl (lv_at hl 2 rfl) ?_
            refine lv_if_lt (tgt := 217) hx hb dL_isYard_149 (by decide) (fun k25 => ?_) (fun k25 => ?_)
            · skip
              have hw := hw.1 k25
              refine lv_iload hx hb dL_isYard_217 (lv_at hl 3 rfl) ?_
              refine lv_if_eq (tgt := 251) hx hb dL_isYard_219 (by decide) (fun k26 => ?_) (fun k26 => ?_)
              · skip
                have hw := hw.1 k26
                refine lv_iconst (v := 0) hx hb dL_isYard_251 (by decide) ?_
                exact vx_ret (m_i ⟨_, rfl, hw⟩ hx hb hr hlocks rfl (subP hP) (subD hD) hS (show cl13 + 0 ≤ 57 by omega) (show sl13 + 0 ≤ 340 by omega) dL_isYard_252)
              · skip
                have hw := hw.2 k26
                refine lv_iload_n hx hb dL_isYard_222 rfl (lv_at hl 2 rfl) ?_
                refine lv_if_lt (tgt := 237) hx hb dL_isYard_223 (by decide) (fun k27 => ?_) (fun k27 => ?_)
                · skip
                  have hw := hw.1 k27
                  refine lv_aload_n hx hb dL_isYard_237 rfl (lv_at hl 0 rfl) ?_
                  refine lv_iload_n hx hb dL_isYard_238 rfl (lv_at hl 1 rfl) ?_
                  refine mc_SWx hSF hl.1 hP hD hS hA hK hGV (m_L_waste l hfl D ad cA g p2 σ13 _ hw) goW_L_243 pd_L_waste.2 ⟨(Nat.le_of_ble_eq_true rfl), (Nat.le_of_ble_eq_true rfl)⟩ ⟨(show cl13 + 1 ≤ 57 by omega), (show sl13 + 6 ≤ 340 by omega)⟩ dL_isYard_239 rfl (Nat.le_of_ble_eq_true rfl) (fun v9 σ29 H locs hq hP hD hS => ?_)
                  obtain ⟨r28, hv9, hw⟩ := hq
                  subst hv9
                  refine W.eq (g2 := F0 m 242 ls [.int r28]) rfl ?_
                  refine W.widen (k := cl13 + 1) (n := sl13 + 6) (Nat.le_refl _) (Nat.le_refl _) ?_
                  refine lv_bipush (v := (-77)) hx hb dL_isYard_242 (by decide) ?_
                  refine lv_icmp_ne (tgt := 251) hx hb dL_isYard_244 (by decide) (fun k30 => ?_) (fun k30 => ?_)
                  · skip
                    have hw := hw.1 k30
                    refine lv_iconst (v := 0) hx hb dL_isYard_251 (by decide) ?_
                    exact vx_ret (m_i ⟨_, rfl, hw⟩ hx hb hr hlocks rfl (subP hP) (subD hD) hS (show cl13 + 1 ≤ 57 by omega) (show sl13 + 6 ≤ 340 by omega) dL_isYard_252)
                  · skip
                    have hw := hw.2 k30
                    refine lv_iconst (v := 1) hx hb dL_isYard_247 (by decide) ?_
                    refine lv_goto (tgt := 252) hx hb dL_isYard_248 (by decide) ?_
                    exact vx_ret (m_i ⟨_, rfl, hw⟩ hx hb hr hlocks rfl (subP hP) (subD hD) hS (show cl13 + 1 ≤ 57 by omega) (show sl13 + 6 ≤ 340 by omega) dL_isYard_252)
                · skip
                  have hw := hw.2 k27
                  refine lv_iload hx hb dL_isYard_226 (lv_at hl 7 rfl) ?_
                  refine lv_iload_n hx hb dL_isYard_228 rfl (lv_at hl 2 rfl) ?_
                  refine lv_icmp_ne (tgt := 251) hx hb dL_isYard_229 (by decide) (fun k31 => ?_) (fun k31 => ?_)
                  · skip
                    have hw := hw.1 k31
                    refine lv_iconst (v := 0) hx hb dL_isYard_251 (by decide) ?_
                    exact vx_ret (m_i ⟨_, rfl, hw⟩ hx hb hr hlocks rfl (subP hP) (subD hD) hS (show cl13 + 0 ≤ 57 by omega) (show sl13 + 0 ≤ 340 by omega) dL_isYard_252)
                  · skip
                    have hw := hw.2 k31
                    refine lv_iload hx hb dL_isYard_232 (lv_at hl 6 rfl) ?_
                    refine lv_if_lt (tgt := 251) hx hb dL_isYard_234 (by decide) (fun k32 => ?_) (fun k32 => ?_)
                    · skip
                      have hw := hw.1 k32
                      refine lv_iconst (v := 0) hx hb dL_isYard_251 (by decide) ?_
                      exact vx_ret (m_i ⟨_, rfl, hw⟩ hx hb hr hlocks rfl (subP hP) (subD hD) hS (show cl13 + 0 ≤ 57 by omega) (show sl13 + 0 ≤ 340 by omega) dL_isYard_252)
                    · skip
                      have hw := hw.2 k32
                      refine lv_aload_n hx hb dL_isYard_237 rfl (lv_at hl 0 rfl) ?_
                      refine lv_iload_n hx hb dL_isYard_238 rfl (lv_at hl 1 rfl) ?_
                      refine mc_SWx hSF hl.1 hP hD hS hA hK hGV (m_L_waste l hfl D ad cA g p2 σ13 _ hw) goW_L_243 pd_L_waste.2 ⟨(Nat.le_of_ble_eq_true rfl), (Nat.le_of_ble_eq_true rfl)⟩ ⟨(show cl13 + 1 ≤ 57 by omega), (show sl13 + 6 ≤ 340 by omega)⟩ dL_isYard_239 rfl (Nat.le_of_ble_eq_true rfl) (fun v9 σ34 H locs hq hP hD hS => ?_)
                      obtain ⟨r33, hv9, hw⟩ := hq
                      subst hv9
                      refine W.eq (g2 := F0 m 242 ls [.int r33]) rfl ?_
                      refine W.widen (k := cl13 + 1) (n := sl13 + 6) (Nat.le_refl _) (Nat.le_refl _) ?_
                      refine lv_bipush (v := (-77)) hx hb dL_isYard_242 (by decide) ?_
                      refine lv_icmp_ne (tgt := 251) hx hb dL_isYard_244 (by decide) (fun k35 => ?_) (fun k35 => ?_)
                      · skip
                        have hw := hw.1 k35
                        refine lv_iconst (v := 0) hx hb dL_isYard_251 (by decide) ?_
                        exact vx_ret (m_i ⟨_, rfl, hw⟩ hx hb hr hlocks rfl (subP hP) (subD hD) hS (show cl13 + 1 ≤ 57 by omega) (show sl13 + 6 ≤ 340 by omega) dL_isYard_252)
                      · skip
                        have hw := hw.2 k35
                        refine lv_iconst (v := 1) hx hb dL_isYard_247 (by decide) ?_
                        refine lv_goto (tgt := 252) hx hb dL_isYard_248 (by decide) ?_
                        exact vx_ret (m_i ⟨_, rfl, hw⟩ hx hb hr hlocks rfl (subP hP) (subD hD) hS (show cl13 + 1 ≤ 57 by omega) (show sl13 + 6 ≤ 340 by omega) dL_isYard_252)
            · skip
              have hw := hw.2 k25
              refine lv_iload hx hb dL_isYard_152 (lv_at hl 3 rfl) ?_
              refine lv_aload_n hx hb dL_isYard_154 rfl (lv_at hl 0 rfl) ?_
              refine lv_iload hx hb dL_isYard_155 (lv_at hl 8 rfl) ?_
              refine mc_SWx hSF hl.1 hP hD hS hA hK hGV (m_L_waste l hfl D ad cA g i9_13 σ13 _ hw) goW_L_243 pd_L_waste.2 ⟨(Nat.le_of_ble_eq_true rfl), (Nat.le_of_ble_eq_true rfl)⟩ ⟨(show cl13 + 1 ≤ 57 by omega), (show sl13 + 6 ≤ 340 by omega)⟩ dL_isYard_157 rfl (Nat.le_of_ble_eq_true rfl) (fun v9 σ37 H locs hq hP hD hS => ?_)
              obtain ⟨r36, hv9, hw⟩ := hq
              subst hv9
              refine W.eq (g2 := F0 m 160 ls [.int r36, .int i4_13]) rfl ?_
              refine W.widen (k := cl13 + 1) (n := sl13 + 6) (Nat.le_refl _) (Nat.le_refl _) ?_
              refine (fun hw => ?_) (hw (fun (s0_38 : Int32) => ∀ (H : Heap) (locs : List Loc) (ls : Array Slot), va_P D vwCl (WL ad cA σ37 ++ [(u7, .inl (cA 0, 5, .inl f0_11)), (u9, .inl (cA 0, 5, .inl f1_11))]) H → va_D A (WL ad cA σ37 ++ [(u7, .inl (cA 0, 5, .inl f0_11)), (u9, .inl (cA 0, 5, .inl f1_11))]) → va_S A s.heap H locs → lv_has ls 10 [(0, .ref (ad 0)), (2, .int p2), (3, .int r1), (5, .ref u7), (6, .ref u9), (7, .int i7_13), (8, .int i8_13), (9, .int i9_13)] → W p l e (RM 9 57 340 164) s m args below meth c H locs (cl13 + 1) (sl13 + 6) (vx_MQ below (QM D ad cA A (fun v σ' => ∃ r : Int32, v = some (.int r) ∧ Q r σ')) (XM D ad cA A (fun _ _ => False)) args s (RM 9 57 340 164).cells (RM 9 57 340 164).slots A) (F0 m 168 ls [.int s0_38, .int i4_13])) ?_)
              · skip
                refine lv_if_lt (tgt := 167) hx hb dL_isYard_160 (by decide) (fun k39 => ?_) (fun k39 => ?_)
                · skip
                  have hw := hw.1 k39
                  refine lv_iconst (v := 0) hx hb dL_isYard_167 (by decide) ?_
                  exact W.widen (Nat.add_le_add_left (Nat.le_of_ble_eq_true rfl) _) (Nat.add_le_add_left (Nat.le_of_ble_eq_true rfl) _) (hw _ _ ls hP hD hS (lv_sub hl [0, 1, 2, 4, 5, 6, 7, 8] rfl))
                · skip
                  have hw := hw.2 k39
                  refine lv_iconst (v := 1) hx hb dL_isYard_163 (by decide) ?_
                  refine lv_goto (tgt := 168) hx hb dL_isYard_164 (by decide) ?_
                  exact W.widen (Nat.add_le_add_left (Nat.le_of_ble_eq_true rfl) _) (Nat.add_le_add_left (Nat.le_of_ble_eq_true rfl) _) (hw _ _ ls hP hD hS (lv_sub hl [0, 1, 2, 4, 5, 6, 7, 8] rfl))
              · skip
                intro s0_38 hw H locs ls hP hD hS hl
                refine k_iand (v := i4_13 &&& s0_38) hx hb dL_isYard_168 rfl ?_
                obtain ⟨v40, ev40⟩ : ∃ z : Int32, z = i4_13 &&& s0_38 := ⟨_, rfl⟩
                have hw := hw v40 ev40
                refine lv_istore (lv' := [(4, .int v40), (0, .ref (ad 0)), (2, .int p2), (3, .int r1), (5, .ref u7), (6, .ref u9), (7, .int i7_13), (8, .int i8_13), (9, .int i9_13)]) hx hb dL_isYard_169 hl (by decide) (by subst ev40; rfl) (fun ls hl => ?_)
                refine lv_iload hx hb dL_isYard_171 (lv_at hl 7 rfl) ?_
                refine (fun hw => ?_) (hw (fun (s0_41 : Int32) (σ41 : Sg) => ∀ (H : Heap) (locs : List Loc) (ls : Array Slot), va_P D vwCl (WL ad cA σ41 ++ [(u7, .inl (cA 0, 5, .inl f0_11)), (u9, .inl (cA 0, 5, .inl f1_11))]) H → va_D A (WL ad cA σ41 ++ [(u7, .inl (cA 0, 5, .inl f0_11)), (u9, .inl (cA 0, 5, .inl f1_11))]) → va_S A s.heap H locs → lv_has ls 10 [(0, .ref (ad 0)), (2, .int p2), (3, .int r1), (4, .int v40), (5, .ref u7), (6, .ref u9), (7, .int i7_13), (9, .int i9_13)] → W p l e (RM 9 57 340 164) s m args below meth c H locs (cl13 + 2) (sl13 + 12) (vx_MQ below (QM D ad cA A (fun v σ' => ∃ r : Int32, v = some (.int r) ∧ Q r σ')) (XM D ad cA A (fun _ _ => False)) args s (RM 9 57 340 164).cells (RM 9 57 340 164).slots A) (F0 m 197 ls [.int s0_41, .int i8_13])) ?_)
                · skip
                  refine lv_aload hx hb dL_isYard_173 (lv_at hl 5 rfl) ?_
                  refine lv_iload hx hb dL_isYard_175 (lv_at hl 8 rfl) ?_
                  obtain ⟨hc42, hw⟩ := hw
                  refine k_iald (v := f1_11 (ix i9_13)) hx hb hK hP 53 xl_1 (ix i9_13) rfl rfl hc42 dL_isYard_177 ?_
                  refine lv_if_le (tgt := 196) hx hb dL_isYard_178 (by decide) (fun k43 => ?_) (fun k43 => ?_)
                  · skip
                    have hw := hw.1 k43
                    refine lv_iconst (v := 0) hx hb dL_isYard_196 (by decide) ?_
                    exact W.widen (Nat.add_le_add_left (Nat.le_of_ble_eq_true rfl) _) (Nat.add_le_add_left (Nat.le_of_ble_eq_true rfl) _) (hw _ _ ls hP hD hS (lv_sub hl [1, 2, 3, 0, 4, 5, 6, 8] rfl))
                  · skip
                    have hw := hw.2 k43
                    refine lv_aload_n hx hb dL_isYard_181 rfl (lv_at hl 1 rfl) ?_
                    refine lv_iload hx hb dL_isYard_182 (lv_at hl 8 rfl) ?_
                    refine mc_SWx hSF hl.1 hP hD hS hA hK hGV (m_L_waste l hfl D ad cA g i9_13 σ37 _ hw) goW_L_243 pd_L_waste.2 ⟨(Nat.le_of_ble_eq_true rfl), (Nat.le_of_ble_eq_true rfl)⟩ ⟨(show cl13 + 2 ≤ 57 by omega), (show sl13 + 12 ≤ 340 by omega)⟩ dL_isYard_184 rfl (Nat.le_of_ble_eq_true rfl) (fun v9 σ45 H locs hq hP hD hS => ?_)
                    obtain ⟨r44, hv9, hw⟩ := hq
                    subst hv9
                    refine W.eq (g2 := F0 m 187 ls [.int r44, .int i8_13]) rfl ?_
                    refine W.widen (k := cl13 + 2) (n := sl13 + 12) (Nat.le_refl _) (Nat.le_refl _) ?_
                    refine lv_aload hx hb dL_isYard_187 (lv_at hl 4 rfl) ?_
                    refine lv_iload hx hb dL_isYard_189 (lv_at hl 8 rfl) ?_
                    obtain ⟨hc46, hw⟩ := hw
                    refine k_iald (v := f0_11 (ix i9_13)) hx hb hK hP 52 xl_0 (ix i9_13) rfl rfl hc46 dL_isYard_191 ?_
                    refine k_iadd (v := r44 + (f0_11 (ix i9_13))) hx hb dL_isYard_192 rfl ?_
                    refine lv_goto (tgt := 197) hx hb dL_isYard_193 (by decide) ?_
                    exact W.widen (Nat.add_le_add_left (Nat.le_of_ble_eq_true rfl) _) (Nat.add_le_add_left (Nat.le_of_ble_eq_true rfl) _) (hw _ _ ls hP hD hS (lv_sub hl [1, 2, 3, 0, 4, 5, 6, 8] rfl))
                · skip
                  intro s0_41 σ41 hw H locs ls hP hD hS hl
                  refine k_iadd (v := i8_13 + s0_41) hx hb dL_isYard_197 rfl ?_
                  obtain ⟨v47, ev47⟩ : ∃ z : Int32, z = i8_13 + s0_41 := ⟨_, rfl⟩
                  have hw := hw v47 ev47
                  refine lv_istore (lv' := [(8, .int v47), (0, .ref (ad 0)), (2, .int p2), (3, .int r1), (4, .int v40), (5, .ref u7), (6, .ref u9), (7, .int i7_13), (9, .int i9_13)]) hx hb dL_isYard_198 hl (by decide) (by subst ev47; rfl) (fun ls hl => ?_)
                  refine lv_iload hx hb dL_isYard_200 (lv_at hl 7 rfl) ?_
                  refine lv_aload_n hx hb dL_isYard_202 rfl (lv_at hl 1 rfl) ?_
                  refine lv_iload hx hb dL_isYard_203 (lv_at hl 8 rfl) ?_
                  refine mc_SWx hSF hl.1 hP hD hS hA hK hGV (m_L_waste l hfl D ad cA g i9_13 σ41 _ hw) goW_L_243 pd_L_waste.2 ⟨(Nat.le_of_ble_eq_true rfl), (Nat.le_of_ble_eq_true rfl)⟩ ⟨(show cl13 + 3 ≤ 57 by omega), (show sl13 + 18 ≤ 340 by omega)⟩ dL_isYard_205 rfl (Nat.le_of_ble_eq_true rfl) (fun v9 σ49 H locs hq hP hD hS => ?_)
                  obtain ⟨r48, hv9, hw⟩ := hq
                  subst hv9
                  refine W.eq (g2 := F0 m 208 ls [.int r48, .int i7_13]) rfl ?_
                  refine W.widen (k := cl13 + 3) (n := sl13 + 18) (Nat.le_refl _) (Nat.le_refl _) ?_
                  refine k_iadd (v := i7_13 + r48) hx hb dL_isYard_208 rfl ?_
                  obtain ⟨v50, ev50⟩ : ∃ z : Int32, z = i7_13 + r48 := ⟨_, rfl⟩
                  have hw := hw v50 ev50
                  refine lv_istore (lv' := [(7, .int v50), (8, .int v47), (0, .ref (ad 0)), (2, .int p2), (3, .int r1), (4, .int v40), (5, .ref u7), (6, .ref u9), (9, .int i9_13)]) hx hb dL_isYard_209 hl (by decide) (by subst ev50; rfl) (fun ls hl => ?_)
                  refine lv_iinc (v := i9_13 + 1) (lv' := [(9, .int (i9_13 + 1)), (7, .int v50), (8, .int v47), (0, .ref (ad 0)), (2, .int p2), (3, .int r1), (4, .int v40), (5, .ref u7), (6, .ref u9)]) hx hb dL_isYard_211 hl (k := 8) rfl rfl (by decide) rfl (fun ls hl => ?_)
                  refine lv_goto (tgt := 142) hx hb dL_isYard_214 (by decide) ?_
                  exact ih13 v40 v50 v47 (i9_13 + 1) σ49 (Nat.lt_of_lt_of_le hw.2 (Nat.le_of_lt_succ hm13)) hw.1 (cl13 + 3) (sl13 + 18) (by have := hw.2; omega) (by have := hw.2; omega) (by have := hw.2; omega) _ _ ls hP hD hS (lv_sub hl [3, 4, 5, 6, 7, 8, 1, 2, 0] rfl)
      · skip
        have hw := hw.2 k12
        refine lv_aload_n hx hb dL_isYard_45 rfl (lv_at hl 0 rfl) ?_
        refine lv_iload hx hb dL_isYard_46 (lv_at hl 7 rfl) ?_
        refine mc_SWx hSF hl.1 hP hD hS hA hK hGV (m_L_stickOf l hfl D ad cA g i7_11 σ11 _ hw) goW_L_239 pd_L_stickOf.2 ⟨(Nat.le_of_ble_eq_true rfl), (Nat.le_of_ble_eq_true rfl)⟩ ⟨(show cl11 + 2 ≤ 57 by omega), (show sl11 + 12 ≤ 340 by omega)⟩ dL_isYard_48 rfl (Nat.le_of_ble_eq_true rfl) (fun v9 σ52 H locs hq hP hD hS => ?_)
        obtain ⟨r51, hv9, hw⟩ := hq
        subst hv9
        refine W.eq (g2 := F0 m 51 ls [.int r51]) rfl ?_
        refine W.widen (k := cl11 + 2) (n := sl11 + 12) (Nat.le_refl _) (Nat.le_refl _) ?_
        refine lv_istore (lv' := [(8, .int r51), (0, .ref (ad 0)), (1, .int p1), (2, .int p2), (3, .int r1), (4, .int i4_11), (5, .ref u7), (6, .ref u9), (7, .int i7_11)]) hx hb dL_isYard_51 hl (by decide) rfl (fun ls hl => ?_)
        refine lv_iload hx hb dL_isYard_53 (lv_at hl 5 rfl) ?_
        refine (fun hw => ?_) (hw (fun (s0_53 : Int32) => ∀ (H : Heap) (locs : List Loc) (ls : Array Slot), va_P D vwCl (WL ad cA σ52 ++ [(u7, .inl (cA 0, 5, .inl f0_11)), (u9, .inl (cA 0, 5, .inl f1_11))]) H → va_D A (WL ad cA σ52 ++ [(u7, .inl (cA 0, 5, .inl f0_11)), (u9, .inl (cA 0, 5, .inl f1_11))]) → va_S A s.heap H locs → lv_has ls 10 [(0, .ref (ad 0)), (1, .int p1), (2, .int p2), (3, .int r1), (5, .ref u7), (6, .ref u9), (7, .int i7_11), (8, .int r51)] → W p l e (RM 9 57 340 164) s m args below meth c H locs (cl11 + 3) (sl11 + 18) (vx_MQ below (QM D ad cA A (fun v σ' => ∃ r : Int32, v = some (.int r) ∧ Q r σ')) (XM D ad cA A (fun _ _ => False)) args s (RM 9 57 340 164).cells (RM 9 57 340 164).slots A) (F0 m 94 ls [.int s0_53, .int i4_11])) ?_)
        · skip
          refine lv_aload_n hx hb dL_isYard_55 rfl (lv_at hl 1 rfl) ?_
          refine lv_iload hx hb dL_isYard_56 (lv_at hl 8 rfl) ?_
          refine mc_SWx hSF hl.1 hP hD hS hA hK hGV (m_L_piece l hfl D ad cA g i7_11 σ52 _ hw) goW_L_241 pd_L_piece.2 ⟨(Nat.le_of_ble_eq_true rfl), (Nat.le_of_ble_eq_true rfl)⟩ ⟨(show cl11 + 3 ≤ 57 by omega), (show sl11 + 18 ≤ 340 by omega)⟩ dL_isYard_58 rfl (Nat.le_of_ble_eq_true rfl) (fun v9 σ9 H locs hq hP hD hS => ?_)
          obtain ⟨r54, hv9, hs9, hw⟩ := hq
          subst hv9
          subst σ9
          refine W.eq (g2 := F0 m 61 ls [.int r54, .int i4_11]) rfl ?_
          refine W.widen (k := cl11 + 3) (n := sl11 + 18) (Nat.le_refl _) (Nat.le_refl _) ?_
          refine lv_if_le (tgt := 93) hx hb dL_isYard_61 (by decide) (fun k55 => ?_) (fun k55 => ?_)
          · skip
            have hw := hw.1 k55
            refine lv_iconst (v := 0) hx hb dL_isYard_93 (by decide) ?_
            exact W.widen (Nat.add_le_add_left (Nat.le_of_ble_eq_true rfl) _) (Nat.add_le_add_left (Nat.le_of_ble_eq_true rfl) _) (hw _ _ ls hP hD hS (lv_sub hl [1, 2, 3, 4, 6, 7, 8, 0] rfl))
          · skip
            have hw := hw.2 k55
            refine lv_iload_n hx hb dL_isYard_64 rfl (lv_at hl 4 rfl) ?_
            refine lv_if_ge (tgt := 78) hx hb dL_isYard_65 (by decide) (fun k56 => ?_) (fun k56 => ?_)
            · skip
              have hw := hw.1 k56
              refine lv_iload hx hb dL_isYard_78 (lv_at hl 0 rfl) ?_
              refine lv_if_lt (tgt := 93) hx hb dL_isYard_80 (by decide) (fun k57 => ?_) (fun k57 => ?_)
              · skip
                have hw := hw.1 k57
                refine lv_iconst (v := 0) hx hb dL_isYard_93 (by decide) ?_
                exact W.widen (Nat.add_le_add_left (Nat.le_of_ble_eq_true rfl) _) (Nat.add_le_add_left (Nat.le_of_ble_eq_true rfl) _) (hw _ _ ls hP hD hS (lv_sub hl [1, 2, 3, 4, 6, 7, 8, 0] rfl))
              · skip
                have hw := hw.2 k57
                refine lv_iload hx hb dL_isYard_83 (lv_at hl 0 rfl) ?_
                refine lv_iload_n hx hb dL_isYard_85 rfl (lv_at hl 3 rfl) ?_
                refine lv_icmp_ge (tgt := 93) hx hb dL_isYard_86 (by decide) (fun k58 => ?_) (fun k58 => ?_)
                · skip
                  have hw := hw.1 k58
                  refine lv_iconst (v := 0) hx hb dL_isYard_93 (by decide) ?_
                  exact W.widen (Nat.add_le_add_left (Nat.le_of_ble_eq_true rfl) _) (Nat.add_le_add_left (Nat.le_of_ble_eq_true rfl) _) (hw _ _ ls hP hD hS (lv_sub hl [1, 2, 3, 4, 6, 7, 8, 0] rfl))
                · skip
                  have hw := hw.2 k58
                  refine lv_iconst (v := 1) hx hb dL_isYard_89 (by decide) ?_
                  refine lv_goto (tgt := 94) hx hb dL_isYard_90 (by decide) ?_
                  exact W.widen (Nat.add_le_add_left (Nat.le_of_ble_eq_true rfl) _) (Nat.add_le_add_left (Nat.le_of_ble_eq_true rfl) _) (hw _ _ ls hP hD hS (lv_sub hl [1, 2, 3, 4, 6, 7, 8, 0] rfl))
            · skip
              have hw := hw.2 k56
              refine lv_iload hx hb dL_isYard_68 (lv_at hl 0 rfl) ?_
              refine lv_bipush (v := (-75)) hx hb dL_isYard_70 (by decide) ?_
              refine lv_icmp_ne (tgt := 93) hx hb dL_isYard_72 (by decide) (fun k59 => ?_) (fun k59 => ?_)
              · skip
                have hw := hw.1 k59
                refine lv_iconst (v := 0) hx hb dL_isYard_93 (by decide) ?_
                exact W.widen (Nat.add_le_add_left (Nat.le_of_ble_eq_true rfl) _) (Nat.add_le_add_left (Nat.le_of_ble_eq_true rfl) _) (hw _ _ ls hP hD hS (lv_sub hl [1, 2, 3, 4, 6, 7, 8, 0] rfl))
              · skip
                have hw := hw.2 k59
                refine lv_goto (tgt := 89) hx hb dL_isYard_75 (by decide) ?_
                refine lv_iconst (v := 1) hx hb dL_isYard_89 (by decide) ?_
                refine lv_goto (tgt := 94) hx hb dL_isYard_90 (by decide) ?_
                exact W.widen (Nat.add_le_add_left (Nat.le_of_ble_eq_true rfl) _) (Nat.add_le_add_left (Nat.le_of_ble_eq_true rfl) _) (hw _ _ ls hP hD hS (lv_sub hl [1, 2, 3, 4, 6, 7, 8, 0] rfl))
        · skip
          intro s0_53 hw H locs ls hP hD hS hl
          refine k_iand (v := i4_11 &&& s0_53) hx hb dL_isYard_94 rfl ?_
          obtain ⟨v60, ev60⟩ : ∃ z : Int32, z = i4_11 &&& s0_53 := ⟨_, rfl⟩
          have hw := hw v60 ev60
          refine lv_istore (lv' := [(4, .int v60), (0, .ref (ad 0)), (1, .int p1), (2, .int p2), (3, .int r1), (5, .ref u7), (6, .ref u9), (7, .int i7_11), (8, .int r51)]) hx hb dL_isYard_95 hl (by decide) (by subst ev60; rfl) (fun ls hl => ?_)
          refine (fun hw => ?_) (hw (fun (f0_61 : (Nat → Int32)) (f1_61 : (Nat → Int32)) => ∀ (H : Heap) (locs : List Loc) (ls : Array Slot), va_P D vwCl (WL ad cA σ52 ++ [(u7, .inl (cA 0, 5, .inl f0_61)), (u9, .inl (cA 0, 5, .inl f1_61))]) H → va_D A (WL ad cA σ52 ++ [(u7, .inl (cA 0, 5, .inl f0_61)), (u9, .inl (cA 0, 5, .inl f1_61))]) → va_S A s.heap H locs → lv_has ls 10 [(0, .ref (ad 0)), (1, .int p1), (2, .int p2), (3, .int r1), (4, .int v60), (5, .ref u7), (6, .ref u9), (7, .int i7_11)] → W p l e (RM 9 57 340 164) s m args below meth c H locs (cl11 + 4) (sl11 + 24) (vx_MQ below (QM D ad cA A (fun v σ' => ∃ r : Int32, v = some (.int r) ∧ Q r σ')) (XM D ad cA A (fun _ _ => False)) args s (RM 9 57 340 164).cells (RM 9 57 340 164).slots A) (F0 m 127 ls [])) ?_)
          · skip
            refine lv_iload hx hb dL_isYard_97 (lv_at hl 8 rfl) ?_
            refine lv_if_lt (tgt := 127) hx hb dL_isYard_99 (by decide) (fun k62 => ?_) (fun k62 => ?_)
            · skip
              have hw := hw.1 k62
              exact W.widen (Nat.add_le_add_left (Nat.le_of_ble_eq_true rfl) _) (Nat.add_le_add_left (Nat.le_of_ble_eq_true rfl) _) (hw _ _ ls hP hD hS (lv_sub hl [1, 2, 3, 4, 0, 5, 6, 7] rfl))
            · skip
              have hw := hw.2 k62
              refine lv_aload hx hb dL_isYard_102 (lv_at hl 5 rfl) ?_
              refine lv_iload hx hb dL_isYard_104 (lv_at hl 8 rfl) ?_
              refine lv_dup2_11 hx hb dL_isYard_106 rfl rfl ?_
              obtain ⟨hc63, hw⟩ := hw
              refine k_iald (v := f0_11 (ix r51)) hx hb hK hP 52 xl_0 (ix r51) rfl rfl hc63 dL_isYard_107 ?_
              refine lv_aload_n hx hb dL_isYard_108 rfl (lv_at hl 1 rfl) ?_
              refine lv_iload hx hb dL_isYard_109 (lv_at hl 7 rfl) ?_
              refine mc_SWx hSF hl.1 hP hD hS hA hK hGV (m_L_piece l hfl D ad cA g i7_11 σ52 _ hw) goW_L_241 pd_L_piece.2 ⟨(Nat.le_of_ble_eq_true rfl), (Nat.le_of_ble_eq_true rfl)⟩ ⟨(show cl11 + 4 ≤ 57 by omega), (show sl11 + 24 ≤ 340 by omega)⟩ dL_isYard_111 rfl (Nat.le_of_ble_eq_true rfl) (fun v9 σ9 H locs hq hP hD hS => ?_)
              obtain ⟨r64, hv9, hs9, hw⟩ := hq
              subst hv9
              subst σ9
              refine W.eq (g2 := F0 m 114 ls [.int r64, .int (f0_11 (ix r51)), .int r51, .ref u7]) rfl ?_
              refine W.widen (k := cl11 + 4) (n := sl11 + 24) (Nat.le_refl _) (Nat.le_refl _) ?_
              refine lv_iconst (v := 1) hx hb dL_isYard_114 (by decide) ?_
              refine k_iadd (v := r64 + 1) hx hb dL_isYard_115 rfl ?_
              refine k_iadd (v := (f0_11 (ix r51)) + (r64 + 1)) hx hb dL_isYard_116 rfl ?_
              obtain ⟨hc65, hw⟩ := hw
              obtain ⟨f66, ef66⟩ : ∃ z : (Nat → Int32), z = upd f0_11 (ix r51) ((f0_11 (ix r51)) + (r64 + 1)) := ⟨_, rfl⟩
              have hw := hw f66 ef66
              refine k_iast (ws1 := (WL ad cA σ52 ++ [(u7, .inl (cA 0, 5, .inl f66)), (u9, .inl (cA 0, 5, .inl f1_11))])) hx hb hK hP hD hS 52 xl_0 (by subst ef66; exact xs_0) hc65 dL_isYard_117 (fun H locs hP hD hS => ?_)
              refine lv_aload hx hb dL_isYard_118 (lv_at hl 6 rfl) ?_
              refine lv_iload hx hb dL_isYard_120 (lv_at hl 8 rfl) ?_
              refine lv_dup2_11 hx hb dL_isYard_122 rfl rfl ?_
              obtain ⟨hc67, hw⟩ := hw
              refine k_iald (v := f1_11 (ix r51)) hx hb hK hP 53 xl_1 (ix r51) rfl rfl hc67 dL_isYard_123 ?_
              refine lv_iconst (v := 1) hx hb dL_isYard_124 (by decide) ?_
              refine k_iadd (v := (f1_11 (ix r51)) + 1) hx hb dL_isYard_125 rfl ?_
              obtain ⟨hc68, hw⟩ := hw
              obtain ⟨f69, ef69⟩ : ∃ z : (Nat → Int32), z = upd f1_11 (ix r51) ((f1_11 (ix r51)) + 1) := ⟨_, rfl⟩
              have hw := hw f69 ef69
              refine k_iast (ws1 := (WL ad cA σ52 ++ [(u7, .inl (cA 0, 5, .inl f66)), (u9, .inl (cA 0, 5, .inl f69))])) hx hb hK hP hD hS 53 xl_1 (by subst ef69; exact xs_1) hc68 dL_isYard_126 (fun H locs hP hD hS => ?_)
              exact W.widen (Nat.add_le_add_left (Nat.le_of_ble_eq_true rfl) _) (Nat.add_le_add_left (Nat.le_of_ble_eq_true rfl) _) (hw _ _ ls hP hD hS (lv_sub hl [1, 2, 3, 4, 0, 5, 6, 7] rfl))
          · skip
            intro f0_61 f1_61 hw H locs ls hP hD hS hl
            refine lv_iinc (v := i7_11 + 1) (lv' := [(7, .int (i7_11 + 1)), (0, .ref (ad 0)), (1, .int p1), (2, .int p2), (3, .int r1), (4, .int v60), (5, .ref u7), (6, .ref u9)]) hx hb dL_isYard_127 hl (k := 7) rfl rfl (by decide) rfl (fun ls hl => ?_)
            refine lv_goto (tgt := 39) hx hb dL_isYard_130 (by decide) ?_
            exact ih11 v60 (i7_11 + 1) σ52 f0_61 f1_61 (Nat.lt_of_lt_of_le hw.2 (Nat.le_of_lt_succ hm11)) hw.1 (cl11 + 4) (sl11 + 24) (by have := hw.2; omega) (by have := hw.2; omega) (by have := hw.2; omega) _ _ ls hP hD hS (lv_sub hl [1, 2, 3, 4, 5, 6, 7, 0] rfl)

