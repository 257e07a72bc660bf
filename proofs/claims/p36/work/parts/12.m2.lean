set_option maxHeartbeats 4000000 in
set_option maxRecDepth 100000 in
theorem m_L_cutAt (l : Launch) (hfl : l.stackTraces = false) (D : va_G) (ad : Nat → Nat) (cA : Nat → ClassId) (g : gv_T) (p1 : Int32) (p2 : Int32) (σ : Sg) (Q : Int32 → Sg → Prop) (hw : w_L_cutAt p1 p2 σ Q) : MW l yL_cutAt cL_cutAt 4 (some .int) [(0, 6, 7, 28), (0, 6, 11, 20)] (RM 8 2 12 126) D ad cA g [.ref (ad 0), .int p1, .int p2] σ (fun v σ' => ∃ r : Int32, v = some (.int r) ∧ Q r σ') := by
  refine MW.of (by decide +kernel) (Nat.le_of_ble_eq_true rfl) ?_
  intro p e s m args below meth c A ls hx hb hr hml hown hG hlocks htab hA hS hP hK hD hGV hl
  have hown : s.vm.findClass RL = some m.cls := hown
  have hl : lv_has ls 4 [(0, .ref (ad 0)), (1, .int p1), (2, .int p2)] := hl
  have hSF : CF p m c cL_cutAt 4 s args RL := ⟨hx, hb, hml, hown, hG⟩
  refine lv_aload_n hx hb dL_cutAt_0 rfl (lv_at hl 0 rfl) ?_
  refine lv_iload_n hx hb dL_cutAt_1 rfl (lv_at hl 1 rfl) ?_
  refine lv_iload_n hx hb dL_cutAt_2 rfl (lv_at hl 2 rfl) ?_
  refine mc_V hSF hl.1 hP hD hS hA hK hGV (m_X6_cutAt l hfl D ad cA g p1 p2 σ _ _ hw) goV_L_68 pd_X6_cutAt ⟨(Nat.le_of_ble_eq_true rfl), (Nat.le_of_ble_eq_true rfl)⟩ ⟨(Nat.le_of_ble_eq_true rfl), (Nat.le_of_ble_eq_true rfl)⟩ (va_recv hK hP (ci := 8) (q0 := 0) rfl wl_0) dL_cutAt_3 rfl (Nat.le_of_ble_eq_true rfl) (fun v9 σ2 H locs hq hP hD hS => ?_) (fun E9 σ3 H locs x9 ce9 hw hP hD hS h9 hv9 hc9 => ?_)
  · skip
    obtain ⟨r1, hv9, hw⟩ := hq
    subst hv9
    refine W.eq (g2 := F0 m 6 ls [.int r1]) rfl ?_
    refine W.widen (k := 2) (n := 12) (Nat.le_refl _) (Nat.le_refl _) ?_
    exact m_i ⟨_, rfl, hw⟩ hx hb hr hlocks rfl hP hD hS (Nat.le_of_ble_eq_true rfl) (Nat.le_of_ble_eq_true rfl) dL_cutAt_6
  · skip
    rcases hw with ⟨rfl, hw⟩ | ⟨rfl, hw⟩
    · skip
      refine vx_catch (own := RL) (name := "java/lang/IndexOutOfBoundsException") hown [] { startPc := 0, endPc := 6, handlerPc := 7, catchType := 28 } [{ startPc := 0, endPc := 6, handlerPc := 11, catchType := 20 }] (htab.trans rfl) (fun z hz => nomatch hz) rfl (by decide) (hG _ gw690) (va_Nw.use rfl (hGV.nw _ gw724)) h9 hv9 hc9 ?_
      refine W.eq (g2 := F0 m 7 ls [.ref x9]) rfl ?_
      refine W.widen (k := 2) (n := 12) (Nat.le_refl _) (Nat.le_refl _) ?_
      refine lv_astore_n (lv' := [(3, .ref x9), (0, .ref (ad 0)), (1, .int p1), (2, .int p2)]) hx hb dL_cutAt_7 rfl hl (by decide) rfl (fun ls hl => ?_)
      refine lv_bipush (v := (-77)) hx hb dL_cutAt_8 (by decide) ?_
      exact m_i ⟨_, rfl, hw⟩ hx hb hr hlocks rfl hP hD hS (Nat.le_of_ble_eq_true rfl) (Nat.le_of_ble_eq_true rfl) dL_cutAt_10
    · skip
      refine vx_catch (own := RL) (name := "java/lang/IllegalArgumentException") hown [{ startPc := 0, endPc := 6, handlerPc := 7, catchType := 28 }] { startPc := 0, endPc := 6, handlerPc := 11, catchType := 20 } [] (htab.trans rfl) (fun z hz => by rcases List.mem_singleton.mp hz with rfl; exact Or.inr ⟨by decide, "java/lang/IndexOutOfBoundsException", hG _ gw690, hGV.nc ("java/lang/IllegalArgumentException", "java/lang/IndexOutOfBoundsException") (by decide)⟩) rfl (by decide) (hG _ gw499) (va_Nw.use rfl (hGV.nw _ gw597)) h9 hv9 hc9 ?_
      refine W.eq (g2 := F0 m 11 ls [.ref x9]) rfl ?_
      refine W.widen (k := 2) (n := 12) (Nat.le_refl _) (Nat.le_refl _) ?_
      refine lv_astore_n (lv' := [(3, .ref x9), (0, .ref (ad 0)), (1, .int p1), (2, .int p2)]) hx hb dL_cutAt_11 rfl hl (by decide) rfl (fun ls hl => ?_)
      refine lv_bipush (v := (-78)) hx hb dL_cutAt_12 (by decide) ?_
      exact m_i ⟨_, rfl, hw⟩ hx hb hr hlocks rfl hP hD hS (Nat.le_of_ble_eq_true rfl) (Nat.le_of_ble_eq_true rfl) dL_cutAt_14

set_option maxHeartbeats 4000000 in
set_option maxRecDepth 100000 in
theorem m_X6_dry (l : Launch) (hfl : l.stackTraces = false) (D : va_G) (ad : Nat → Nat) (cA : Nat → ClassId) (g : gv_T) (p1 : Int32) (p2 : Int32) (σ : Sg) (Q : Int32 → Sg → Prop) (X : String → Sg → Prop) (hw : w_X6_dry p1 p2 σ Q X) : MC l yX6_dry cX6_dry 4 (some .int) (RM 7 2 12 103) D ad cA g [.ref (ad 0), .int p1, .int p2] σ (fun v σ' => ∃ r : Int32, v = some (.int r) ∧ Q r σ') X := by
  refine MC.of (plainFor_of_name (by decide +kernel)) (Nat.le_of_ble_eq_true rfl) ?_
  intro p e s m args below meth c A ls hx hb hr hml hown hG hlocks htab hA hS hP hK hD hGV hl
  have hown : s.vm.findClass RX6 = some m.cls := hown
  have hl : lv_has ls 4 [(0, .ref (ad 0)), (1, .int p1), (2, .int p2)] := hl
  have hSF : CF p m c cX6_dry 4 s args RX6 := ⟨hx, hb, hml, hown, hG⟩
  refine lv_aload_n hx hb dX6_dry_0 rfl (lv_at hl 0 rfl) ?_
  refine lv_iload_n hx hb dX6_dry_1 rfl (lv_at hl 1 rfl) ?_
  refine mc_V hSF hl.1 hP hD hS hA hK hGV (m_X6_checkMember l hfl D ad cA g p1 σ _ _ hw) goV_X6_118 pd_X6_checkMember ⟨(Nat.le_of_ble_eq_true rfl), (Nat.le_of_ble_eq_true rfl)⟩ ⟨(Nat.le_of_ble_eq_true rfl), (Nat.le_of_ble_eq_true rfl)⟩ (va_recv hK hP (ci := 8) (q0 := 0) rfl wl_0) dX6_dry_2 rfl (Nat.le_of_ble_eq_true rfl) (fun v9 σ9 H locs hq hP hD hS => ?_) (fun E9 σ9 H locs x9 ce9 hw hP hD hS h9 hv9 hc9 => ?_)
  · skip
    obtain ⟨hv9, hs9, hw⟩ := hq
    subst hv9
    subst σ9
    refine W.eq (g2 := F0 m 5 ls []) rfl ?_
    refine W.widen (k := 1) (n := 6) (Nat.le_refl _) (Nat.le_refl _) ?_
    refine lv_aload_n hx hb dX6_dry_5 rfl (lv_at hl 0 rfl) ?_
    refine lv_iload_n hx hb dX6_dry_6 rfl (lv_at hl 2 rfl) ?_
    refine mc_V hSF hl.1 hP hD hS hA hK hGV (m_X6_checkMoisture l hfl D ad cA g p2 σ _ _ hw) goV_X6_192 pd_X6_checkMoisture ⟨(Nat.le_of_ble_eq_true rfl), (Nat.le_of_ble_eq_true rfl)⟩ ⟨(Nat.le_of_ble_eq_true rfl), (Nat.le_of_ble_eq_true rfl)⟩ (va_recv hK hP (ci := 8) (q0 := 0) rfl wl_0) dX6_dry_7 rfl (Nat.le_of_ble_eq_true rfl) (fun v9 σ9 H locs hq hP hD hS => ?_) (fun E9 σ9 H locs x9 ce9 hw hP hD hS h9 hv9 hc9 => ?_)
    · skip
      obtain ⟨hv9, hs9, hw⟩ := hq
      subst hv9
      subst σ9
      refine W.eq (g2 := F0 m 10 ls []) rfl ?_
      refine W.widen (k := 2) (n := 12) (Nat.le_refl _) (Nat.le_refl _) ?_
      refine lv_aload_n hx hb dX6_dry_10 rfl (lv_at hl 0 rfl) ?_
      refine k_get (ci := 8) (C := RX6) (T := TX6) (N := 5) (v := .ref (ad 1)) hx hb hG inX6 hown hK hP 0 wl_0 rfl 0 (by decide) gw305 rfl dX6_dry_11 ?_
      refine k_get (ci := 4) (C := RX2) (T := TX2) (N := 12) (v := .ref (ad 11)) hx hb hG inX2 hown hK hP 1 wl_1 rfl 11 (by decide) gw94 rfl dX6_dry_14 ?_
      refine lv_iload_n hx hb dX6_dry_17 rfl (lv_at hl 1 rfl) ?_
      obtain ⟨hc3, hw⟩ := hw
      refine k_iald (v := gA σ 9 (ix p1)) hx hb hK hP 11 wl_11 (ix p1) rfl rfl hc3 dX6_dry_18 ?_
      obtain ⟨v4, ev4⟩ : ∃ z : Int32, z = gA σ 9 (ix p1) := ⟨_, rfl⟩
      have hw := hw v4 ev4
      refine lv_istore_n (lv' := [(3, .int v4), (0, .ref (ad 0)), (1, .int p1), (2, .int p2)]) hx hb dX6_dry_19 rfl hl (by decide) (by subst ev4; rfl) (fun ls hl => ?_)
      refine lv_aload_n hx hb dX6_dry_20 rfl (lv_at hl 1 rfl) ?_
      refine k_get (ci := 8) (C := RX6) (T := TX6) (N := 5) (v := .ref (ad 1)) hx hb hG inX6 hown hK hP 0 wl_0 rfl 0 (by decide) gw305 rfl dX6_dry_21 ?_
      refine k_get (ci := 4) (C := RX2) (T := TX2) (N := 12) (v := .ref (ad 11)) hx hb hG inX2 hown hK hP 1 wl_1 rfl 11 (by decide) gw94 rfl dX6_dry_24 ?_
      refine lv_iload_n hx hb dX6_dry_27 rfl (lv_at hl 2 rfl) ?_
      refine lv_iload_n hx hb dX6_dry_28 rfl (lv_at hl 3 rfl) ?_
      obtain ⟨hc5, hw⟩ := hw
      obtain ⟨σ6, eσ6⟩ : ∃ z : Sg, z = sA σ 9 (ix p1) p2 := ⟨_, rfl⟩
      have hw := hw σ6 eσ6
      refine k_iast (ws1 := WL ad cA σ6) hx hb hK hP hD hS 11 wl_11 (ws_11 eσ6) hc5 dX6_dry_29 (fun H locs hP hD hS => ?_)
      refine lv_iload_n hx hb dX6_dry_30 rfl (lv_at hl 0 rfl) ?_
      exact vx_ret (m_i ⟨_, rfl, hw⟩ hx hb hr hlocks rfl hP hD hS (Nat.le_of_ble_eq_true rfl) (Nat.le_of_ble_eq_true rfl) dX6_dry_31)
    · skip
      exact m_out hw htab hlocks h9 hv9 hc9 hP hD hS (Nat.le_of_ble_eq_true rfl) (Nat.le_of_ble_eq_true rfl)
  · skip
    exact m_out hw htab hlocks h9 hv9 hc9 hP hD hS (Nat.le_of_ble_eq_true rfl) (Nat.le_of_ble_eq_true rfl)

set_option maxHeartbeats 4000000 in
set_option maxRecDepth 100000 in
theorem m_L_dry (l : Launch) (hfl : l.stackTraces = false) (D : va_G) (ad : Nat → Nat) (cA : Nat → ClassId) (g : gv_T) (p1 : Int32) (p2 : Int32) (σ : Sg) (Q : Int32 → Sg → Prop) (hw : w_L_dry p1 p2 σ Q) : MW l yL_dry cL_dry 4 (some .int) [(0, 6, 7, 28), (0, 6, 11, 20)] (RM 8 2 12 126) D ad cA g [.ref (ad 0), .int p1, .int p2] σ (fun v σ' => ∃ r : Int32, v = some (.int r) ∧ Q r σ') := by
  refine MW.of (by decide +kernel) (Nat.le_of_ble_eq_true rfl) ?_
  intro p e s m args below meth c A ls hx hb hr hml hown hG hlocks htab hA hS hP hK hD hGV hl
  have hown : s.vm.findClass RL = some m.cls := hown
  have hl : lv_has ls 4 [(0, .ref (ad 0)), (1, .int p1), (2, .int p2)] := hl
  have hSF : CF p m c cL_dry 4 s args RL := ⟨hx, hb, hml, hown, hG⟩
  refine lv_aload_n hx hb dL_dry_0 rfl (lv_at hl 0 rfl) ?_
  refine lv_iload_n hx hb dL_dry_1 rfl (lv_at hl 1 rfl) ?_
  refine lv_iload_n hx hb dL_dry_2 rfl (lv_at hl 2 rfl) ?_
  refine mc_V hSF hl.1 hP hD hS hA hK hGV (m_X6_dry l hfl D ad cA g p1 p2 σ _ _ hw) goV_L_72 pd_X6_dry ⟨(Nat.le_of_ble_eq_true rfl), (Nat.le_of_ble_eq_true rfl)⟩ ⟨(Nat.le_of_ble_eq_true rfl), (Nat.le_of_ble_eq_true rfl)⟩ (va_recv hK hP (ci := 8) (q0 := 0) rfl wl_0) dL_dry_3 rfl (Nat.le_of_ble_eq_true rfl) (fun v9 σ2 H locs hq hP hD hS => ?_) (fun E9 σ3 H locs x9 ce9 hw hP hD hS h9 hv9 hc9 => ?_)
  · skip
    obtain ⟨r1, hv9, hw⟩ := hq
    subst hv9
    refine W.eq (g2 := F0 m 6 ls [.int r1]) rfl ?_
    refine W.widen (k := 2) (n := 12) (Nat.le_refl _) (Nat.le_refl _) ?_
    exact m_i ⟨_, rfl, hw⟩ hx hb hr hlocks rfl hP hD hS (Nat.le_of_ble_eq_true rfl) (Nat.le_of_ble_eq_true rfl) dL_dry_6
  · skip
    rcases hw with ⟨rfl, hw⟩ | ⟨rfl, hw⟩
    · skip
      refine vx_catch (own := RL) (name := "java/lang/IndexOutOfBoundsException") hown [] { startPc := 0, endPc := 6, handlerPc := 7, catchType := 28 } [{ startPc := 0, endPc := 6, handlerPc := 11, catchType := 20 }] (htab.trans rfl) (fun z hz => nomatch hz) rfl (by decide) (hG _ gw690) (va_Nw.use rfl (hGV.nw _ gw724)) h9 hv9 hc9 ?_
      refine W.eq (g2 := F0 m 7 ls [.ref x9]) rfl ?_
      refine W.widen (k := 2) (n := 12) (Nat.le_refl _) (Nat.le_refl _) ?_
      refine lv_astore_n (lv' := [(3, .ref x9), (0, .ref (ad 0)), (1, .int p1), (2, .int p2)]) hx hb dL_dry_7 rfl hl (by decide) rfl (fun ls hl => ?_)
      refine lv_bipush (v := (-77)) hx hb dL_dry_8 (by decide) ?_
      exact m_i ⟨_, rfl, hw⟩ hx hb hr hlocks rfl hP hD hS (Nat.le_of_ble_eq_true rfl) (Nat.le_of_ble_eq_true rfl) dL_dry_10
    · skip
      refine vx_catch (own := RL) (name := "java/lang/IllegalArgumentException") hown [{ startPc := 0, endPc := 6, handlerPc := 7, catchType := 28 }] { startPc := 0, endPc := 6, handlerPc := 11, catchType := 20 } [] (htab.trans rfl) (fun z hz => by rcases List.mem_singleton.mp hz with rfl; exact Or.inr ⟨by decide, "java/lang/IndexOutOfBoundsException", hG _ gw690, hGV.nc ("java/lang/IllegalArgumentException", "java/lang/IndexOutOfBoundsException") (by decide)⟩) rfl (by decide) (hG _ gw499) (va_Nw.use rfl (hGV.nw _ gw597)) h9 hv9 hc9 ?_
      refine W.eq (g2 := F0 m 11 ls [.ref x9]) rfl ?_
      refine W.widen (k := 2) (n := 12) (Nat.le_refl _) (Nat.le_refl _) ?_
      refine lv_astore_n (lv' := [(3, .ref x9), (0, .ref (ad 0)), (1, .int p1), (2, .int p2)]) hx hb dL_dry_11 rfl hl (by decide) rfl (fun ls hl => ?_)
      refine lv_bipush (v := (-78)) hx hb dL_dry_12 (by decide) ?_
      exact m_i ⟨_, rfl, hw⟩ hx hb hr hlocks rfl hP hD hS (Nat.le_of_ble_eq_true rfl) (Nat.le_of_ble_eq_true rfl) dL_dry_14

set_option maxHeartbeats 4000000 in
set_option maxRecDepth 100000 in
theorem m_X3_opening (l : Launch) (hfl : l.stackTraces = false) (D : va_G) (ad : Nat → Nat) (cA : Nat → ClassId) (g : gv_T) (p1 : Int32) (σ : Sg) (Q : Int32 → Prop) (hw : w_X3_opening p1 σ Q) : MC l yX3_opening cX3_opening 6 (some .int) (RM 0 0 0 0) D ad cA g [.ref (ad 32), .int p1, .ref (ad 1)] σ (fun v σ' => ∃ r : Int32, v = some (.int r) ∧ σ' = σ ∧ Q r) (fun _ _ => False) := by
  refine MC.of (plainFor_of_name (by decide +kernel)) (Nat.le_of_ble_eq_true rfl) ?_
  intro p e s m args below meth c A ls hx hb hr hml hown hG hlocks htab hA hS hP hK hD hGV hl
  have hown : s.vm.findClass RX3 = some m.cls := hown
  have hl : lv_has ls 6 [(0, .ref (ad 32)), (1, .int p1), (2, .ref (ad 1))] := hl
  have hSF : CF p m c cX3_opening 6 s args RX3 := ⟨hx, hb, hml, hown, hG⟩
  refine lv_aload_n hx hb dX3_opening_0 rfl (lv_at hl 0 rfl) ?_
  refine k_get (ci := 5) (C := RX3) (T := TX3) (N := 6) (v := .ref (ad 33)) hx hb hG inX3 hown hK hP 32 wl_32 rfl 1 (by decide) gw203 rfl dX3_opening_1 ?_
  refine lv_iload_n hx hb dX3_opening_4 rfl (lv_at hl 1 rfl) ?_
  obtain ⟨hc1, hw⟩ := hw
  refine k_iald (v := gA σ 13 (ix p1)) hx hb hK hP 33 wl_33 (ix p1) rfl rfl hc1 dX3_opening_5 ?_
  obtain ⟨v2, ev2⟩ : ∃ z : Int32, z = gA σ 13 (ix p1) := ⟨_, rfl⟩
  have hw := hw v2 ev2
  refine lv_istore_n (lv' := [(3, .int v2), (0, .ref (ad 32)), (1, .int p1), (2, .ref (ad 1))]) hx hb dX3_opening_6 rfl hl (by decide) (by subst ev2; rfl) (fun ls hl => ?_)
  refine lv_aload_n hx hb dX3_opening_7 rfl (lv_at hl 3 rfl) ?_
  refine k_get (ci := 4) (C := RX2) (T := TX2) (N := 12) (v := .ref (ad 10)) hx hb hG inX2 hown hK hP 1 wl_1 rfl 10 (by decide) gw90 rfl dX3_opening_8 ?_
  refine lv_iload_n hx hb dX3_opening_11 rfl (lv_at hl 0 rfl) ?_
  obtain ⟨hc3, hw⟩ := hw
  refine k_iald (v := gA σ 8 (ix v2)) hx hb hK hP 10 wl_10 (ix v2) rfl rfl hc3 dX3_opening_12 ?_
  refine lv_aload_n hx hb dX3_opening_13 rfl (lv_at hl 3 rfl) ?_
  refine k_get (ci := 4) (C := RX2) (T := TX2) (N := 12) (v := .ref (ad 11)) hx hb hG inX2 hown hK hP 1 wl_1 rfl 11 (by decide) gw93 rfl dX3_opening_14 ?_
  refine lv_iload_n hx hb dX3_opening_17 rfl (lv_at hl 0 rfl) ?_
  obtain ⟨hc4, hw⟩ := hw
  refine k_iald (v := gA σ 9 (ix v2)) hx hb hK hP 11 wl_11 (ix v2) rfl rfl hc4 dX3_opening_18 ?_
  refine k_isub (v := (gA σ 8 (ix v2)) - (gA σ 9 (ix v2))) hx hb dX3_opening_19 rfl ?_
  obtain ⟨v5, ev5⟩ : ∃ z : Int32, z = (gA σ 8 (ix v2)) - (gA σ 9 (ix v2)) := ⟨_, rfl⟩
  have hw := hw v5 ev5
  refine lv_istore (lv' := [(4, .int v5), (3, .int v2), (0, .ref (ad 32)), (1, .int p1), (2, .ref (ad 1))]) hx hb dX3_opening_20 hl (by decide) (by subst ev5; rfl) (fun ls hl => ?_)
  refine lv_aload_n hx hb dX3_opening_22 rfl (lv_at hl 2 rfl) ?_
  refine k_get (ci := 5) (C := RX3) (T := TX3) (N := 6) (v := .ref (ad 36)) hx hb hG inX3 hown hK hP 32 wl_32 rfl 4 (by decide) gw206 rfl dX3_opening_23 ?_
  refine lv_iload_n hx hb dX3_opening_26 rfl (lv_at hl 3 rfl) ?_
  obtain ⟨hc6, hw⟩ := hw
  refine k_iald (v := gA σ 16 (ix p1)) hx hb hK hP 36 wl_36 (ix p1) rfl rfl hc6 dX3_opening_27 ?_
  obtain ⟨v7, ev7⟩ : ∃ z : Int32, z = gA σ 16 (ix p1) := ⟨_, rfl⟩
  have hw := hw v7 ev7
  refine lv_istore (lv' := [(5, .int v7), (4, .int v5), (3, .int v2), (0, .ref (ad 32)), (1, .int p1), (2, .ref (ad 1))]) hx hb dX3_opening_28 hl (by decide) (by subst ev7; rfl) (fun ls hl => ?_)
  refine lv_iload hx hb dX3_opening_30 (lv_at hl 1 rfl) ?_
  refine lv_if_le (tgt := 56) hx hb dX3_opening_32 (by decide) (fun k8 => ?_) (fun k8 => ?_)
  · skip
    have hw := hw.1 k8
    refine lv_iconst (v := 0) hx hb dX3_opening_56 (by decide) ?_
    exact vx_ret (m_i ⟨_, rfl, rfl, hw⟩ hx hb hr hlocks rfl hP hD hS (Nat.le_of_ble_eq_true rfl) (Nat.le_of_ble_eq_true rfl) dX3_opening_57)
  · skip
    have hw := hw.2 k8
    refine lv_iload hx hb dX3_opening_35 (lv_at hl 0 rfl) ?_
    refine lv_iload hx hb dX3_opening_37 (lv_at hl 0 rfl) ?_
    refine lv_sipush (v := 1000) hx hb dX3_opening_39 (by decide) ?_
    refine lv_iconst (v := 3) hx hb dX3_opening_42 (by decide) ?_
    refine lv_iload hx hb dX3_opening_43 (lv_at hl 1 rfl) ?_
    refine k_imul (v := 3 * v5) hx hb dX3_opening_45 rfl ?_
    refine k_isub (v := 1000 - (3 * v5)) hx hb dX3_opening_46 rfl ?_
    refine k_imul (v := v7 * (1000 - (3 * v5))) hx hb dX3_opening_47 rfl ?_
    refine lv_sipush (v := 1000) hx hb dX3_opening_48 (by decide) ?_
    refine k_idiv (v := (v7 * (1000 - (3 * v5))) / 1000) hx hb dX3_opening_51 (by decide +kernel) rfl ?_
    refine k_isub (v := v7 - ((v7 * (1000 - (3 * v5))) / 1000)) hx hb dX3_opening_52 rfl ?_
    refine lv_goto (tgt := 57) hx hb dX3_opening_53 (by decide) ?_
    exact vx_ret (m_i ⟨_, rfl, rfl, hw⟩ hx hb hr hlocks rfl hP hD hS (Nat.le_of_ble_eq_true rfl) (Nat.le_of_ble_eq_true rfl) dX3_opening_57)

set_option maxHeartbeats 4000000 in
set_option maxRecDepth 100000 in
theorem m_X6_gap (l : Launch) (hfl : l.stackTraces = false) (D : va_G) (ad : Nat → Nat) (cA : Nat → ClassId) (g : gv_T) (p1 : Int32) (σ : Sg) (Q : Int32 → Prop) (X : String → Sg → Prop) (hw : w_X6_gap p1 σ Q X) : MC l yX6_gap cX6_gap 2 (some .int) (RM 7 1 6 103) D ad cA g [.ref (ad 0), .int p1] σ (fun v σ' => ∃ r : Int32, v = some (.int r) ∧ σ' = σ ∧ Q r) X := by
  refine MC.of (plainFor_of_name (by decide +kernel)) (Nat.le_of_ble_eq_true rfl) ?_
  intro p e s m args below meth c A ls hx hb hr hml hown hG hlocks htab hA hS hP hK hD hGV hl
  have hown : s.vm.findClass RX6 = some m.cls := hown
  have hl : lv_has ls 2 [(0, .ref (ad 0)), (1, .int p1)] := hl
  have hSF : CF p m c cX6_gap 2 s args RX6 := ⟨hx, hb, hml, hown, hG⟩
  refine lv_aload_n hx hb dX6_gap_0 rfl (lv_at hl 0 rfl) ?_
  refine lv_iload_n hx hb dX6_gap_1 rfl (lv_at hl 1 rfl) ?_
  refine mc_V hSF hl.1 hP hD hS hA hK hGV (m_X6_checkJoint l hfl D ad cA g p1 σ _ _ hw) goV_X6_179 pd_X6_checkJoint ⟨(Nat.le_of_ble_eq_true rfl), (Nat.le_of_ble_eq_true rfl)⟩ ⟨(Nat.le_of_ble_eq_true rfl), (Nat.le_of_ble_eq_true rfl)⟩ (va_recv hK hP (ci := 8) (q0 := 0) rfl wl_0) dX6_gap_2 rfl (Nat.le_of_ble_eq_true rfl) (fun v9 σ9 H locs hq hP hD hS => ?_) (fun E9 σ9 H locs x9 ce9 hw hP hD hS h9 hv9 hc9 => ?_)
  · skip
    obtain ⟨hv9, hs9, hw⟩ := hq
    subst hv9
    subst σ9
    refine W.eq (g2 := F0 m 5 ls []) rfl ?_
    refine W.widen (k := 1) (n := 6) (Nat.le_refl _) (Nat.le_refl _) ?_
    refine lv_aload_n hx hb dX6_gap_5 rfl (lv_at hl 0 rfl) ?_
    refine k_get (ci := 8) (C := RX6) (T := TX6) (N := 5) (v := .ref (ad 32)) hx hb hG inX6 hown hK hP 0 wl_0 rfl 2 (by decide) gw307 rfl dX6_gap_6 ?_
    refine lv_iload_n hx hb dX6_gap_9 rfl (lv_at hl 1 rfl) ?_
    refine lv_aload_n hx hb dX6_gap_10 rfl (lv_at hl 0 rfl) ?_
    refine k_get (ci := 8) (C := RX6) (T := TX6) (N := 5) (v := .ref (ad 1)) hx hb hG inX6 hown hK hP 0 wl_0 rfl 0 (by decide) gw305 rfl dX6_gap_11 ?_
    refine mc_V hSF hl.1 hP hD hS hA hK hGV (m_X3_opening l hfl D ad cA g p1 σ _ hw) goV_X6_202 pd_X3_opening ⟨(Nat.le_of_ble_eq_true rfl), (Nat.le_of_ble_eq_true rfl)⟩ ⟨(Nat.le_of_ble_eq_true rfl), (Nat.le_of_ble_eq_true rfl)⟩ (va_recv hK hP (ci := 5) (q0 := 32) rfl wl_32) dX6_gap_14 rfl (Nat.le_of_ble_eq_true rfl) (fun v9 σ9 H locs hq hP hD hS => ?_) (fun _ _ _ _ _ _ h => h.elim)
    obtain ⟨r2, hv9, hs9, hw⟩ := hq
    subst hv9
    subst σ9
    refine W.eq (g2 := F0 m 17 ls [.int r2]) rfl ?_
    refine W.widen (k := 1) (n := 6) (Nat.le_refl _) (Nat.le_refl _) ?_
    exact vx_ret (m_i ⟨_, rfl, rfl, hw⟩ hx hb hr hlocks rfl hP hD hS (Nat.le_of_ble_eq_true rfl) (Nat.le_of_ble_eq_true rfl) dX6_gap_17)
  · skip
    exact m_out hw htab hlocks h9 hv9 hc9 hP hD hS (Nat.le_of_ble_eq_true rfl) (Nat.le_of_ble_eq_true rfl)

set_option maxHeartbeats 4000000 in
set_option maxRecDepth 100000 in
theorem m_L_gap (l : Launch) (hfl : l.stackTraces = false) (D : va_G) (ad : Nat → Nat) (cA : Nat → ClassId) (g : gv_T) (p1 : Int32) (σ : Sg) (Q : Int32 → Prop) (hw : w_L_gap p1 σ Q) : MW l yL_gap cL_gap 3 (some .int) [(0, 5, 6, 28)] (RM 8 1 6 124) D ad cA g [.ref (ad 0), .int p1] σ (fun v σ' => ∃ r : Int32, v = some (.int r) ∧ σ' = σ ∧ Q r) := by
  refine MW.of (by decide +kernel) (Nat.le_of_ble_eq_true rfl) ?_
  intro p e s m args below meth c A ls hx hb hr hml hown hG hlocks htab hA hS hP hK hD hGV hl
  have hown : s.vm.findClass RL = some m.cls := hown
  have hl : lv_has ls 3 [(0, .ref (ad 0)), (1, .int p1)] := hl
  have hSF : CF p m c cL_gap 3 s args RL := ⟨hx, hb, hml, hown, hG⟩
  refine lv_aload_n hx hb dL_gap_0 rfl (lv_at hl 0 rfl) ?_
  refine lv_iload_n hx hb dL_gap_1 rfl (lv_at hl 1 rfl) ?_
  refine mc_V hSF hl.1 hP hD hS hA hK hGV (m_X6_gap l hfl D ad cA g p1 σ _ _ hw) goV_L_75 pd_X6_gap ⟨(Nat.le_of_ble_eq_true rfl), (Nat.le_of_ble_eq_true rfl)⟩ ⟨(Nat.le_of_ble_eq_true rfl), (Nat.le_of_ble_eq_true rfl)⟩ (va_recv hK hP (ci := 8) (q0 := 0) rfl wl_0) dL_gap_2 rfl (Nat.le_of_ble_eq_true rfl) (fun v9 σ9 H locs hq hP hD hS => ?_) (fun E9 σ2 H locs x9 ce9 hw hP hD hS h9 hv9 hc9 => ?_)
  · skip
    obtain ⟨r1, hv9, hs9, hw⟩ := hq
    subst hv9
    subst σ9
    refine W.eq (g2 := F0 m 5 ls [.int r1]) rfl ?_
    refine W.widen (k := 1) (n := 6) (Nat.le_refl _) (Nat.le_refl _) ?_
    exact m_i ⟨_, rfl, rfl, hw⟩ hx hb hr hlocks rfl hP hD hS (Nat.le_of_ble_eq_true rfl) (Nat.le_of_ble_eq_true rfl) dL_gap_5
  · skip
    obtain ⟨rfl, hs9, hw⟩ := hw
    subst hs9
    refine vx_catch (own := RL) (name := "java/lang/IndexOutOfBoundsException") hown [] { startPc := 0, endPc := 5, handlerPc := 6, catchType := 28 } [] (htab.trans rfl) (fun z hz => nomatch hz) rfl (by decide) (hG _ gw690) (va_Nw.use rfl (hGV.nw _ gw724)) h9 hv9 hc9 ?_
    refine W.eq (g2 := F0 m 6 ls [.ref x9]) rfl ?_
    refine W.widen (k := 1) (n := 6) (Nat.le_refl _) (Nat.le_refl _) ?_
    refine lv_astore_n (lv' := [(2, .ref x9), (0, .ref (ad 0)), (1, .int p1)]) hx hb dL_gap_6 rfl hl (by decide) rfl (fun ls hl => ?_)
    refine lv_bipush (v := (-77)) hx hb dL_gap_7 (by decide) ?_
    exact m_i ⟨_, rfl, rfl, hw⟩ hx hb hr hlocks rfl hP hD hS (Nat.le_of_ble_eq_true rfl) (Nat.le_of_ble_eq_true rfl) dL_gap_9

set_option maxHeartbeats 4000000 in
set_option maxRecDepth 100000 in
theorem m_X6_widest (l : Launch) (hfl : l.stackTraces = false) (D : va_G) (ad : Nat → Nat) (cA : Nat → ClassId) (g : gv_T) (σ : Sg) (Q : Int32 → Prop) (X : String → Sg → Prop) (hw : w_X6_widest  σ Q X) : MC l yX6_widest cX6_widest 3 (some .int) (RM 6 1 6 82) D ad cA g [.ref (ad 0)] σ (fun v σ' => ∃ r : Int32, v = some (.int r) ∧ σ' = σ ∧ Q r) X := by
  refine MC.of (plainFor_of_name (by decide +kernel)) (Nat.le_of_ble_eq_true rfl) ?_
  intro p e s m args below meth c A ls hx hb hr hml hown hG hlocks htab hA hS hP hK hD hGV hl
  have hown : s.vm.findClass RX6 = some m.cls := hown
  have hl : lv_has ls 3 [(0, .ref (ad 0))] := hl
  have hSF : CF p m c cX6_widest 3 s args RX6 := ⟨hx, hb, hml, hown, hG⟩
  refine lv_aload_n hx hb dX6_widest_0 rfl (lv_at hl 0 rfl) ?_
  refine k_get (ci := 8) (C := RX6) (T := TX6) (N := 5) (v := .ref (ad 32)) hx hb hG inX6 hown hK hP 0 wl_0 rfl 2 (by decide) gw307 rfl dX6_widest_1 ?_
  refine k_get (ci := 5) (C := RX3) (T := TX3) (N := 6) (v := .int (gI σ 4)) hx hb hG inX3 hown hK hP 32 wl_32 rfl 0 (by decide) gw202 rfl dX6_widest_4 ?_
  refine lv_if_ne (tgt := 20) hx hb dX6_widest_7 (by decide) (fun k1 => ?_) (fun k1 => ?_)
  · skip
    have hw := hw.1 k1
    refine lv_iconst (v := 0) hx hb dX6_widest_20 (by decide) ?_
    refine lv_istore_n (lv' := [(1, .int 0), (0, .ref (ad 0))]) hx hb dX6_widest_21 rfl hl (by decide) rfl (fun ls hl => ?_)
    refine lv_iconst (v := 1) hx hb dX6_widest_22 (by decide) ?_
    refine lv_istore_n (lv' := [(2, .int 1), (1, .int 0), (0, .ref (ad 0))]) hx hb dX6_widest_23 rfl hl (by decide) rfl (fun ls hl => ?_)
    obtain ⟨I2, μ2, hI2, hw2⟩ := hw
    have hl : lv_has ls 3 [(0, .ref (ad 0)), (1, .int 0), (2, .int 1)] := lv_sub hl [2, 1, 0] rfl
    suffices key2 : ∀ (n2 : Nat) (i1_2 : Int32) (i2_2 : Int32), μ2 i1_2 i2_2 < n2 → I2 i1_2 i2_2 → ∀ (H : Heap) (locs : List Loc) (ls : Array Slot), va_P D vwCl (WL ad cA σ) H → va_D A (WL ad cA σ) → va_S A s.heap H locs → lv_has ls 3 [(0, .ref (ad 0)), (1, .int i1_2), (2, .int i2_2)] → W p l e (RM 6 1 6 82) s m args below meth c H locs (0) (0) (vx_MQ below (QM D ad cA A (fun v σ' => ∃ r : Int32, v = some (.int r) ∧ σ' = σ ∧ Q r)) (XM D ad cA A X) args s (RM 6 1 6 82).cells (RM 6 1 6 82).slots A) (F0 m 24 ls []) from key2 _ _ _ (Nat.lt_succ_self _) hI2 _ _ ls hP hD hS hl
    clear hP hD hS hl
    intro n2
    induction n2 with
    | zero => intro _ _ h; exact absurd h (Nat.not_lt_zero _)
    | succ n2 ih2 =>
      intro i1_2 i2_2 hm2 hI2 H locs ls hP hD hS hl
      have hw := hw2 i1_2 i2_2 hI2
      refine lv_iload_n hx hb dX6_widest_24 rfl (lv_at hl 2 rfl) ?_
      refine lv_aload_n hx hb dX6_widest_25 rfl (lv_at hl 0 rfl) ?_
      refine k_get (ci := 8) (C := RX6) (T := TX6) (N := 5) (v := .ref (ad 32)) hx hb hG inX6 hown hK hP 0 wl_0 rfl 2 (by decide) gw307 rfl dX6_widest_26 ?_
      refine k_get (ci := 5) (C := RX3) (T := TX3) (N := 6) (v := .int (gI σ 4)) hx hb hG inX3 hown hK hP 32 wl_32 rfl 0 (by decide) gw202 rfl dX6_widest_29 ?_
      refine lv_icmp_ge (tgt := 70) hx hb dX6_widest_32 (by decide) (fun k3 => ?_) (fun k3 => ?_)
      · skip
        have hw := hw.1 k3
        refine lv_iload_n hx hb dX6_widest_70 rfl (lv_at hl 1 rfl) ?_
        exact vx_ret (m_i ⟨_, rfl, rfl, hw⟩ hx hb hr hlocks rfl hP hD hS (Nat.le_of_ble_eq_true rfl) (Nat.le_of_ble_eq_true rfl) dX6_widest_71)
      · skip
        have hw := hw.2 k3
        refine lv_aload_n hx hb dX6_widest_35 rfl (lv_at hl 0 rfl) ?_
        refine k_get (ci := 8) (C := RX6) (T := TX6) (N := 5) (v := .ref (ad 32)) hx hb hG inX6 hown hK hP 0 wl_0 rfl 2 (by decide) gw307 rfl dX6_widest_36 ?_
        refine lv_iload_n hx hb dX6_widest_39 rfl (lv_at hl 2 rfl) ?_
        refine lv_aload_n hx hb dX6_widest_40 rfl (lv_at hl 0 rfl) ?_
        refine k_get (ci := 8) (C := RX6) (T := TX6) (N := 5) (v := .ref (ad 1)) hx hb hG inX6 hown hK hP 0 wl_0 rfl 0 (by decide) gw305 rfl dX6_widest_41 ?_
        refine mc_V hSF hl.1 hP hD hS hA hK hGV (m_X3_opening l hfl D ad cA g i2_2 σ _ hw) goV_X6_202 pd_X3_opening ⟨(Nat.le_of_ble_eq_true rfl), (Nat.le_of_ble_eq_true rfl)⟩ ⟨(Nat.le_of_ble_eq_true rfl), (Nat.le_of_ble_eq_true rfl)⟩ (va_recv hK hP (ci := 5) (q0 := 32) rfl wl_32) dX6_widest_44 rfl (Nat.le_of_ble_eq_true rfl) (fun v9 σ9 H locs hq hP hD hS => ?_) (fun _ _ _ _ _ _ h => h.elim)
        obtain ⟨r4, hv9, hs9, hw⟩ := hq
        subst hv9
        subst σ9
        refine W.eq (g2 := F0 m 47 ls [.int r4]) rfl ?_
        refine W.widen (k := 0) (n := 0) (Nat.le_refl _) (Nat.le_refl _) ?_
        refine lv_aload_n hx hb dX6_widest_47 rfl (lv_at hl 0 rfl) ?_
        refine k_get (ci := 8) (C := RX6) (T := TX6) (N := 5) (v := .ref (ad 32)) hx hb hG inX6 hown hK hP 0 wl_0 rfl 2 (by decide) gw307 rfl dX6_widest_48 ?_
        refine lv_iload_n hx hb dX6_widest_51 rfl (lv_at hl 1 rfl) ?_
        refine lv_aload_n hx hb dX6_widest_52 rfl (lv_at hl 0 rfl) ?_
        refine k_get (ci := 8) (C := RX6) (T := TX6) (N := 5) (v := .ref (ad 1)) hx hb hG inX6 hown hK hP 0 wl_0 rfl 0 (by decide) gw305 rfl dX6_widest_53 ?_
        refine mc_V hSF hl.1 hP hD hS hA hK hGV (m_X3_opening l hfl D ad cA g i1_2 σ _ hw) goV_X6_202 pd_X3_opening ⟨(Nat.le_of_ble_eq_true rfl), (Nat.le_of_ble_eq_true rfl)⟩ ⟨(Nat.le_of_ble_eq_true rfl), (Nat.le_of_ble_eq_true rfl)⟩ (va_recv hK hP (ci := 5) (q0 := 32) rfl wl_32) dX6_widest_56 rfl (Nat.le_of_ble_eq_true rfl) (fun v9 σ9 H locs hq hP hD hS => ?_) (fun _ _ _ _ _ _ h => h.elim)
        obtain ⟨r5, hv9, hs9, hw⟩ := hq
        subst hv9
        subst σ9
        refine W.eq (g2 := F0 m 59 ls [.int r5, .int r4]) rfl ?_
        refine W.widen (k := 0) (n := 0) (Nat.le_refl _) (Nat.le_refl _) ?_
        refine lv_icmp_le (tgt := 64) hx hb dX6_widest_59 (by decide) (fun k6 => ?_) (fun k6 => ?_)
        · skip
          have hw := hw.1 k6
          refine lv_iinc (v := i2_2 + 1) (lv' := [(2, .int (i2_2 + 1)), (0, .ref (ad 0)), (1, .int i1_2)]) hx hb dX6_widest_64 hl (k := 2) rfl rfl (by decide) rfl (fun ls hl => ?_)
          refine lv_goto (tgt := 24) hx hb dX6_widest_67 (by decide) ?_
          exact ih2 i1_2 (i2_2 + 1) (Nat.lt_of_lt_of_le hw.2 (Nat.le_of_lt_succ hm2)) hw.1 _ _ ls hP hD hS (lv_sub hl [1, 2, 0] rfl)
        · skip
          have hw := hw.2 k6
          refine lv_iload_n hx hb dX6_widest_62 rfl (lv_at hl 2 rfl) ?_
          refine lv_istore_n (lv' := [(1, .int i2_2), (0, .ref (ad 0)), (2, .int i2_2)]) hx hb dX6_widest_63 rfl hl (by decide) rfl (fun ls hl => ?_)
          refine lv_iinc (v := i2_2 + 1) (lv' := [(2, .int (i2_2 + 1)), (1, .int i2_2), (0, .ref (ad 0))]) hx hb dX6_widest_64 hl (k := 2) rfl rfl (by decide) rfl (fun ls hl => ?_)
          refine lv_goto (tgt := 24) hx hb dX6_widest_67 (by decide) ?_
          exact ih2 i2_2 (i2_2 + 1) (Nat.lt_of_lt_of_le hw.2 (Nat.le_of_lt_succ hm2)) hw.1 _ _ ls hP hD hS (lv_sub hl [2, 1, 0] rfl)
  · skip
    have hw := hw.2 k1
    exact m_throwN hw (Y0 := "java/lang/RuntimeException") (idx := 13) (bs := prog_35_method_4_code) (names := ["java/lang/Exception"]) 21 hx hb hfl hown hG hGV htab hlocks (hl.1.trans hml.symm) (by decide +kernel) (by decide +kernel) (by decide +kernel) ns_0 ns_1 ns_2 ns_5 gw881 gw52 rfl xat_X6_146 hP hD hS dX6_widest_10 dX6_widest_13 dX6_widest_14 dX6_widest_16 dX6_widest_19 (Nat.le_of_ble_eq_true rfl) (Nat.le_of_ble_eq_true rfl) (Nat.le_of_ble_eq_true rfl) (Nat.le_of_ble_eq_true rfl) (Nat.le_of_ble_eq_true rfl) (Nat.le_of_ble_eq_true rfl)

set_option maxHeartbeats 4000000 in
set_option maxRecDepth 100000 in
theorem m_L_widest (l : Launch) (hfl : l.stackTraces = false) (D : va_G) (ad : Nat → Nat) (cA : Nat → ClassId) (g : gv_T) (σ : Sg) (Q : Int32 → Prop) (hw : w_L_widest  σ Q) : MW l yL_widest cL_widest 2 (some .int) [(0, 4, 5, 53)] (RM 7 1 6 104) D ad cA g [.ref (ad 0)] σ (fun v σ' => ∃ r : Int32, v = some (.int r) ∧ σ' = σ ∧ Q r) := by
  refine MW.of (by decide +kernel) (Nat.le_of_ble_eq_true rfl) ?_
  intro p e s m args below meth c A ls hx hb hr hml hown hG hlocks htab hA hS hP hK hD hGV hl
  have hown : s.vm.findClass RL = some m.cls := hown
  have hl : lv_has ls 2 [(0, .ref (ad 0))] := hl
  have hSF : CF p m c cL_widest 2 s args RL := ⟨hx, hb, hml, hown, hG⟩
  refine lv_aload_n hx hb dL_widest_0 rfl (lv_at hl 0 rfl) ?_
  refine mc_V hSF hl.1 hP hD hS hA hK hGV (m_X6_widest l hfl D ad cA g  σ _ _ hw) goV_L_78 pd_X6_widest ⟨(Nat.le_of_ble_eq_true rfl), (Nat.le_of_ble_eq_true rfl)⟩ ⟨(Nat.le_of_ble_eq_true rfl), (Nat.le_of_ble_eq_true rfl)⟩ (va_recv hK hP (ci := 8) (q0 := 0) rfl wl_0) dL_widest_1 rfl (Nat.le_of_ble_eq_true rfl) (fun v9 σ9 H locs hq hP hD hS => ?_) (fun E9 σ2 H locs x9 ce9 hw hP hD hS h9 hv9 hc9 => ?_)
  · skip
    obtain ⟨r1, hv9, hs9, hw⟩ := hq
    subst hv9
    subst σ9
    refine W.eq (g2 := F0 m 4 ls [.int r1]) rfl ?_
    refine W.widen (k := 1) (n := 6) (Nat.le_refl _) (Nat.le_refl _) ?_
    exact m_i ⟨_, rfl, rfl, hw⟩ hx hb hr hlocks rfl hP hD hS (Nat.le_of_ble_eq_true rfl) (Nat.le_of_ble_eq_true rfl) dL_widest_4
  · skip
    obtain ⟨rfl, hs9, hw⟩ := hw
    subst hs9
    refine vx_catch (own := RL) (name := "java/util/NoSuchElementException") hown [] { startPc := 0, endPc := 4, handlerPc := 5, catchType := 53 } [] (htab.trans rfl) (fun z hz => nomatch hz) rfl (by decide) (hG _ gw876) (va_Nw.use rfl (hGV.nw _ gw883)) h9 hv9 hc9 ?_
    refine W.eq (g2 := F0 m 5 ls [.ref x9]) rfl ?_
    refine W.widen (k := 1) (n := 6) (Nat.le_refl _) (Nat.le_refl _) ?_
    refine lv_astore_n (lv' := [(1, .ref x9), (0, .ref (ad 0))]) hx hb dL_widest_5 rfl hl (by decide) rfl (fun ls hl => ?_)
    refine lv_bipush (v := (-75)) hx hb dL_widest_6 (by decide) ?_
    exact m_i ⟨_, rfl, rfl, hw⟩ hx hb hr hlocks rfl hP hD hS (Nat.le_of_ble_eq_true rfl) (Nat.le_of_ble_eq_true rfl) dL_widest_8

set_option maxHeartbeats 4000000 in
set_option maxRecDepth 100000 in
theorem m_X0_add (l : Launch) (hfl : l.stackTraces = false) (D : va_G) (ad : Nat → Nat) (cA : Nat → ClassId) (g : gv_T) (p1 : Int32) (p2 : Int32) (p3 : Int32) (σ : Sg) (Q : Int32 → Sg → Prop) (hw : w_X0_add p1 p2 p3 σ Q) : MC l yX0_add cX0_add 5 (some .int) (RM 0 0 0 0) D ad cA g [.ref (ad 38), .int p1, .int p2, .int p3] σ (fun v σ' => ∃ r : Int32, v = some (.int r) ∧ Q r σ') (fun _ _ => False) := by
  refine MC.of (plainFor_of_name (by decide +kernel)) (Nat.le_of_ble_eq_true rfl) ?_
  intro p e s m args below meth c A ls hx hb hr hml hown hG hlocks htab hA hS hP hK hD hGV hl
  have hown : s.vm.findClass RX0 = some m.cls := hown
  have hl : lv_has ls 5 [(0, .ref (ad 38)), (1, .int p1), (2, .int p2), (3, .int p3)] := hl
  have hSF : CF p m c cX0_add 5 s args RX0 := ⟨hx, hb, hml, hown, hG⟩
  refine lv_aload_n hx hb dX0_add_0 rfl (lv_at hl 0 rfl) ?_
  refine k_get (ci := 2) (C := RX0) (T := TX0) (N := 11) (v := .int (gI σ 5)) hx hb hG inX0 hown hK hP 38 wl_38 rfl 0 (by decide) gw227 rfl dX0_add_1 ?_
  obtain ⟨v1, ev1⟩ : ∃ z : Int32, z = gI σ 5 := ⟨_, rfl⟩
  have hw := hw v1 ev1
  refine lv_istore (lv' := [(4, .int v1), (0, .ref (ad 38)), (1, .int p1), (2, .int p2), (3, .int p3)]) hx hb dX0_add_4 hl (by decide) (by subst ev1; rfl) (fun ls hl => ?_)
  refine lv_aload_n hx hb dX0_add_6 rfl (lv_at hl 1 rfl) ?_
  refine k_get (ci := 2) (C := RX0) (T := TX0) (N := 11) (v := .ref (ad 40)) hx hb hG inX0 hown hK hP 38 wl_38 rfl 5 (by decide) gw237 rfl dX0_add_7 ?_
  refine lv_iload hx hb dX0_add_10 (lv_at hl 0 rfl) ?_
  refine lv_iload_n hx hb dX0_add_12 rfl (lv_at hl 2 rfl) ?_
  obtain ⟨hc2, hw⟩ := hw
  obtain ⟨σ3, eσ3⟩ : ∃ z : Sg, z = sA σ 19 (ix v1) p1 := ⟨_, rfl⟩
  have hw := hw σ3 eσ3
  refine k_iast (ws1 := WL ad cA σ3) hx hb hK hP hD hS 40 wl_40 (ws_40 eσ3) hc2 dX0_add_13 (fun H locs hP hD hS => ?_)
  refine lv_aload_n hx hb dX0_add_14 rfl (lv_at hl 1 rfl) ?_
  refine k_get (ci := 2) (C := RX0) (T := TX0) (N := 11) (v := .ref (ad 41)) hx hb hG inX0 hown hK hP 38 wl_38 rfl 6 (by decide) gw238 rfl dX0_add_15 ?_
  refine lv_iload hx hb dX0_add_18 (lv_at hl 0 rfl) ?_
  refine lv_iload_n hx hb dX0_add_20 rfl (lv_at hl 3 rfl) ?_
  obtain ⟨hc4, hw⟩ := hw
  obtain ⟨σ5, eσ5⟩ : ∃ z : Sg, z = sA σ3 20 (ix v1) p2 := ⟨_, rfl⟩
  have hw := hw σ5 eσ5
  refine k_iast (ws1 := WL ad cA σ5) hx hb hK hP hD hS 41 wl_41 (ws_41 eσ5) hc4 dX0_add_21 (fun H locs hP hD hS => ?_)
  refine lv_aload_n hx hb dX0_add_22 rfl (lv_at hl 1 rfl) ?_
  refine k_get (ci := 2) (C := RX0) (T := TX0) (N := 11) (v := .ref (ad 42)) hx hb hG inX0 hown hK hP 38 wl_38 rfl 7 (by decide) gw239 rfl dX0_add_23 ?_
  refine lv_iload hx hb dX0_add_26 (lv_at hl 0 rfl) ?_
  refine lv_iload_n hx hb dX0_add_28 rfl (lv_at hl 4 rfl) ?_
  obtain ⟨hc6, hw⟩ := hw
  obtain ⟨σ7, eσ7⟩ : ∃ z : Sg, z = sA σ5 21 (ix v1) p3 := ⟨_, rfl⟩
  have hw := hw σ7 eσ7
  refine k_iast (ws1 := WL ad cA σ7) hx hb hK hP hD hS 42 wl_42 (ws_42 eσ7) hc6 dX0_add_29 (fun H locs hP hD hS => ?_)
  refine lv_aload_n hx hb dX0_add_30 rfl (lv_at hl 1 rfl) ?_
  refine lv_iload hx hb dX0_add_31 (lv_at hl 0 rfl) ?_
  refine lv_iconst (v := 1) hx hb dX0_add_33 (by decide) ?_
  refine k_iadd (v := v1 + 1) hx hb dX0_add_34 rfl ?_
  obtain ⟨σ8, eσ8⟩ : ∃ z : Sg, z = sI σ7 5 (v1 + 1) := ⟨_, rfl⟩
  have hw := hw σ8 eσ8
  refine k_put (ci := 2) (C := RX0) (T := TX0) (N := 11) (v := .int (v1 + 1)) (ws1 := WL ad cA σ8) hx hb hG inX0 tyX0 tyX0_ok nmX0 hown hK hP hD hS 38 wl_38 rfl 0 (by decide) gw227 rfl ⟨rfl, rfl⟩ (ws_38_0 eσ8) (Nat.le_of_ble_eq_true rfl) dX0_add_35 (fun H locs hP hD hS => ?_)
  refine lv_iload hx hb dX0_add_38 (lv_at hl 0 rfl) ?_
  exact vx_ret (m_i ⟨_, rfl, hw⟩ hx hb hr hlocks rfl hP hD hS (Nat.le_of_ble_eq_true rfl) (Nat.le_of_ble_eq_true rfl) dX0_add_40)

set_option maxHeartbeats 4000000 in
set_option maxRecDepth 100000 in
theorem m_X6_stick (l : Launch) (hfl : l.stackTraces = false) (D : va_G) (ad : Nat → Nat) (cA : Nat → ClassId) (g : gv_T) (p1 : Int32) (p2 : Int32) (p3 : Int32) (σ : Sg) (Q : Int32 → Sg → Prop) (X : String → Sg → Prop) (hw : w_X6_stick p1 p2 p3 σ Q X) : MC l yX6_stick cX6_stick 4 (some .int) (RM 6 1 6 82) D ad cA g [.ref (ad 0), .int p1, .int p2, .int p3] σ (fun v σ' => ∃ r : Int32, v = some (.int r) ∧ Q r σ') X := by
  refine MC.of (plainFor_of_name (by decide +kernel)) (Nat.le_of_ble_eq_true rfl) ?_
  intro p e s m args below meth c A ls hx hb hr hml hown hG hlocks htab hA hS hP hK hD hGV hl
  have hown : s.vm.findClass RX6 = some m.cls := hown
  have hl : lv_has ls 4 [(0, .ref (ad 0)), (1, .int p1), (2, .int p2), (3, .int p3)] := hl
  have hSF : CF p m c cX6_stick 4 s args RX6 := ⟨hx, hb, hml, hown, hG⟩
  refine lv_iload_n hx hb dX6_stick_0 rfl (lv_at hl 1 rfl) ?_
  refine lv_iconst (v := 1) hx hb dX6_stick_1 (by decide) ?_
  refine lv_sipush (v := 900) hx hb dX6_stick_2 (by decide) ?_
  refine mc_S hSF hl.1 hP hD hS hA hK hGV (m_X6_isWithin l hfl D ad cA g p1 1 900 σ _ hw) goS_X6_44 pd_X6_isWithin.2 ⟨(Nat.le_of_ble_eq_true rfl), (Nat.le_of_ble_eq_true rfl)⟩ ⟨(Nat.le_of_ble_eq_true rfl), (Nat.le_of_ble_eq_true rfl)⟩ dX6_stick_5 rfl (Nat.le_of_ble_eq_true rfl) (fun v9 σ9 H locs hq hP hD hS => ?_) (fun _ _ _ _ _ _ h => h.elim)
  obtain ⟨r1, hv9, hs9, hw⟩ := hq
  subst hv9
  subst σ9
  refine W.eq (g2 := F0 m 8 ls [.int r1]) rfl ?_
  refine W.widen (k := 0) (n := 0) (Nat.le_refl _) (Nat.le_refl _) ?_
  refine lv_if_eq (tgt := 19) hx hb dX6_stick_8 (by decide) (fun k2 => ?_) (fun k2 => ?_)
  · skip
    have hw := hw.1 k2
    exact m_throw hw (names := ["java/lang/RuntimeException", "java/lang/Exception"]) 13 hx hb hfl hown hG hGV htab hlocks (hl.1.trans hml.symm) (by decide +kernel) (by decide +kernel) gw595 gw46 rfl xat_X6_60 hP hD hS dX6_stick_19 dX6_stick_22 dX6_stick_23 dX6_stick_25 dX6_stick_28 (Nat.le_of_ble_eq_true rfl) (Nat.le_of_ble_eq_true rfl) (Nat.le_of_ble_eq_true rfl) (Nat.le_of_ble_eq_true rfl) (Nat.le_of_ble_eq_true rfl) (Nat.le_of_ble_eq_true rfl)
  · skip
    have hw := hw.2 k2
    refine lv_iload_n hx hb dX6_stick_11 rfl (lv_at hl 2 rfl) ?_
    refine lv_iload_n hx hb dX6_stick_12 rfl (lv_at hl 3 rfl) ?_
    refine mc_S hSF hl.1 hP hD hS hA hK hGV (m_X6_isSection l hfl D ad cA g p2 p3 σ _ hw) goS_X6_88 pd_X6_isSection.2 ⟨(Nat.le_of_ble_eq_true rfl), (Nat.le_of_ble_eq_true rfl)⟩ ⟨(Nat.le_of_ble_eq_true rfl), (Nat.le_of_ble_eq_true rfl)⟩ dX6_stick_13 rfl (Nat.le_of_ble_eq_true rfl) (fun v9 σ9 H locs hq hP hD hS => ?_) (fun _ _ _ _ _ _ h => h.elim)
    obtain ⟨r3, hv9, hs9, hw⟩ := hq
    subst hv9
    subst σ9
    refine W.eq (g2 := F0 m 16 ls [.int r3]) rfl ?_
    refine W.widen (k := 0) (n := 0) (Nat.le_refl _) (Nat.le_refl _) ?_
    refine lv_if_ne (tgt := 29) hx hb dX6_stick_16 (by decide) (fun k4 => ?_) (fun k4 => ?_)
    · skip
      have hw := hw.1 k4
      refine lv_aload_n hx hb dX6_stick_29 rfl (lv_at hl 0 rfl) ?_
      refine k_get (ci := 8) (C := RX6) (T := TX6) (N := 5) (v := .ref (ad 38)) hx hb hG inX6 hown hK hP 0 wl_0 rfl 3 (by decide) gw308 rfl dX6_stick_30 ?_
      refine k_get (ci := 2) (C := RX0) (T := TX0) (N := 11) (v := .int (gI σ 5)) hx hb hG inX0 hown hK hP 38 wl_38 rfl 0 (by decide) gw228 rfl dX6_stick_33 ?_
      refine lv_iconst (v := 5) hx hb dX6_stick_36 (by decide) ?_
      refine lv_icmp_lt (tgt := 50) hx hb dX6_stick_37 (by decide) (fun k5 => ?_) (fun k5 => ?_)
      · skip
        have hw := hw.1 k5
        refine lv_aload_n hx hb dX6_stick_50 rfl (lv_at hl 0 rfl) ?_
        refine k_get (ci := 8) (C := RX6) (T := TX6) (N := 5) (v := .ref (ad 38)) hx hb hG inX6 hown hK hP 0 wl_0 rfl 3 (by decide) gw308 rfl dX6_stick_51 ?_
        refine lv_iconst (v := 0) hx hb dX6_stick_54 (by decide) ?_
        obtain ⟨σ6, eσ6⟩ : ∃ z : Sg, z = sI σ 6 0 := ⟨_, rfl⟩
        have hw := hw σ6 eσ6
        refine k_put (ci := 2) (C := RX0) (T := TX0) (N := 11) (v := .int 0) (ws1 := WL ad cA σ6) hx hb hG inX0 tyX0 tyX0_ok nmX0 hown hK hP hD hS 38 wl_38 rfl 1 (by decide) gw229 rfl ⟨rfl, rfl⟩ (ws_38_1 eσ6) (Nat.le_of_ble_eq_true rfl) dX6_stick_55 (fun H locs hP hD hS => ?_)
        refine lv_aload_n hx hb dX6_stick_58 rfl (lv_at hl 0 rfl) ?_
        refine k_get (ci := 8) (C := RX6) (T := TX6) (N := 5) (v := .ref (ad 38)) hx hb hG inX6 hown hK hP 0 wl_0 rfl 3 (by decide) gw308 rfl dX6_stick_59 ?_
        refine lv_iload_n hx hb dX6_stick_62 rfl (lv_at hl 1 rfl) ?_
        refine lv_iload_n hx hb dX6_stick_63 rfl (lv_at hl 2 rfl) ?_
        refine lv_iload_n hx hb dX6_stick_64 rfl (lv_at hl 3 rfl) ?_
        refine mc_V hSF hl.1 hP hD hS hA hK hGV (m_X0_add l hfl D ad cA g p1 p2 p3 σ6 _ hw) goV_X6_213 pd_X0_add ⟨(Nat.le_of_ble_eq_true rfl), (Nat.le_of_ble_eq_true rfl)⟩ ⟨(Nat.le_of_ble_eq_true rfl), (Nat.le_of_ble_eq_true rfl)⟩ (va_recv hK hP (ci := 2) (q0 := 38) rfl wl_38) dX6_stick_65 rfl (Nat.le_of_ble_eq_true rfl) (fun v9 σ8 H locs hq hP hD hS => ?_) (fun _ _ _ _ _ _ h => h.elim)
        obtain ⟨r7, hv9, hw⟩ := hq
        subst hv9
        refine W.eq (g2 := F0 m 68 ls [.int r7]) rfl ?_
        refine W.widen (k := 0) (n := 0) (Nat.le_refl _) (Nat.le_refl _) ?_
        exact vx_ret (m_i ⟨_, rfl, hw⟩ hx hb hr hlocks rfl hP hD hS (Nat.le_of_ble_eq_true rfl) (Nat.le_of_ble_eq_true rfl) dX6_stick_68)
      · skip
        have hw := hw.2 k5
        exact m_throw hw (names := ["java/lang/RuntimeException", "java/lang/Exception"]) 14 hx hb hfl hown hG hGV htab hlocks (hl.1.trans hml.symm) (by decide +kernel) (by decide +kernel) gw667 gw47 rfl xat_X6_71 hP hD hS dX6_stick_40 dX6_stick_43 dX6_stick_44 dX6_stick_46 dX6_stick_49 (Nat.le_of_ble_eq_true rfl) (Nat.le_of_ble_eq_true rfl) (Nat.le_of_ble_eq_true rfl) (Nat.le_of_ble_eq_true rfl) (Nat.le_of_ble_eq_true rfl) (Nat.le_of_ble_eq_true rfl)
    · skip
      have hw := hw.2 k4
      exact m_throw hw (names := ["java/lang/RuntimeException", "java/lang/Exception"]) 13 hx hb hfl hown hG hGV htab hlocks (hl.1.trans hml.symm) (by decide +kernel) (by decide +kernel) gw595 gw46 rfl xat_X6_60 hP hD hS dX6_stick_19 dX6_stick_22 dX6_stick_23 dX6_stick_25 dX6_stick_28 (Nat.le_of_ble_eq_true rfl) (Nat.le_of_ble_eq_true rfl) (Nat.le_of_ble_eq_true rfl) (Nat.le_of_ble_eq_true rfl) (Nat.le_of_ble_eq_true rfl) (Nat.le_of_ble_eq_true rfl)

set_option maxHeartbeats 4000000 in
set_option maxRecDepth 100000 in
theorem m_L_stick (l : Launch) (hfl : l.stackTraces = false) (D : va_G) (ad : Nat → Nat) (cA : Nat → ClassId) (g : gv_T) (p1 : Int32) (p2 : Int32) (p3 : Int32) (σ : Sg) (Q : Int32 → Sg → Prop) (hw : w_L_stick p1 p2 p3 σ Q) : MW l yL_stick cL_stick 5 (some .int) [(0, 7, 8, 20), (0, 7, 13, 22)] (RM 7 1 6 105) D ad cA g [.ref (ad 0), .int p1, .int p2, .int p3] σ (fun v σ' => ∃ r : Int32, v = some (.int r) ∧ Q r σ') := by
  refine MW.of (by decide +kernel) (Nat.le_of_ble_eq_true rfl) ?_
  intro p e s m args below meth c A ls hx hb hr hml hown hG hlocks htab hA hS hP hK hD hGV hl
  have hown : s.vm.findClass RL = some m.cls := hown
  have hl : lv_has ls 5 [(0, .ref (ad 0)), (1, .int p1), (2, .int p2), (3, .int p3)] := hl
  have hSF : CF p m c cL_stick 5 s args RL := ⟨hx, hb, hml, hown, hG⟩
  refine lv_aload_n hx hb dL_stick_0 rfl (lv_at hl 0 rfl) ?_
  refine lv_iload_n hx hb dL_stick_1 rfl (lv_at hl 1 rfl) ?_
  refine lv_iload_n hx hb dL_stick_2 rfl (lv_at hl 2 rfl) ?_
  refine lv_iload_n hx hb dL_stick_3 rfl (lv_at hl 3 rfl) ?_
  refine mc_V hSF hl.1 hP hD hS hA hK hGV (m_X6_stick l hfl D ad cA g p1 p2 p3 σ _ _ hw) goV_L_81 pd_X6_stick ⟨(Nat.le_of_ble_eq_true rfl), (Nat.le_of_ble_eq_true rfl)⟩ ⟨(Nat.le_of_ble_eq_true rfl), (Nat.le_of_ble_eq_true rfl)⟩ (va_recv hK hP (ci := 8) (q0 := 0) rfl wl_0) dL_stick_4 rfl (Nat.le_of_ble_eq_true rfl) (fun v9 σ2 H locs hq hP hD hS => ?_) (fun E9 σ3 H locs x9 ce9 hw hP hD hS h9 hv9 hc9 => ?_)
  · skip
    obtain ⟨r1, hv9, hw⟩ := hq
    subst hv9
    refine W.eq (g2 := F0 m 7 ls [.int r1]) rfl ?_
    refine W.widen (k := 1) (n := 6) (Nat.le_refl _) (Nat.le_refl _) ?_
    exact m_i ⟨_, rfl, hw⟩ hx hb hr hlocks rfl hP hD hS (Nat.le_of_ble_eq_true rfl) (Nat.le_of_ble_eq_true rfl) dL_stick_7
  · skip
    rcases hw with ⟨rfl, hw⟩ | ⟨rfl, hw⟩
    · skip
      refine vx_catch (own := RL) (name := "java/lang/IllegalArgumentException") hown [] { startPc := 0, endPc := 7, handlerPc := 8, catchType := 20 } [{ startPc := 0, endPc := 7, handlerPc := 13, catchType := 22 }] (htab.trans rfl) (fun z hz => nomatch hz) rfl (by decide) (hG _ gw499) (va_Nw.use rfl (hGV.nw _ gw597)) h9 hv9 hc9 ?_
      refine W.eq (g2 := F0 m 8 ls [.ref x9]) rfl ?_
      refine W.widen (k := 1) (n := 6) (Nat.le_refl _) (Nat.le_refl _) ?_
      refine lv_astore (lv' := [(4, .ref x9), (0, .ref (ad 0)), (1, .int p1), (2, .int p2), (3, .int p3)]) hx hb dL_stick_8 hl (by decide) rfl (fun ls hl => ?_)
      refine lv_bipush (v := (-78)) hx hb dL_stick_10 (by decide) ?_
      exact m_i ⟨_, rfl, hw⟩ hx hb hr hlocks rfl hP hD hS (Nat.le_of_ble_eq_true rfl) (Nat.le_of_ble_eq_true rfl) dL_stick_12
    · skip
      refine vx_catch (own := RL) (name := "java/lang/IllegalStateException") hown [{ startPc := 0, endPc := 7, handlerPc := 8, catchType := 20 }] { startPc := 0, endPc := 7, handlerPc := 13, catchType := 22 } [] (htab.trans rfl) (fun z hz => by rcases List.mem_singleton.mp hz with rfl; exact Or.inr ⟨by decide, "java/lang/IllegalArgumentException", hG _ gw499, hGV.nc ("java/lang/IllegalStateException", "java/lang/IllegalArgumentException") (by decide)⟩) rfl (by decide) (hG _ gw500) (va_Nw.use rfl (hGV.nw _ gw669)) h9 hv9 hc9 ?_
      refine W.eq (g2 := F0 m 13 ls [.ref x9]) rfl ?_
      refine W.widen (k := 1) (n := 6) (Nat.le_refl _) (Nat.le_refl _) ?_
      refine lv_astore (lv' := [(4, .ref x9), (0, .ref (ad 0)), (1, .int p1), (2, .int p2), (3, .int p3)]) hx hb dL_stick_13 hl (by decide) rfl (fun ls hl => ?_)
      refine lv_bipush (v := (-79)) hx hb dL_stick_15 (by decide) ?_
      exact m_i ⟨_, rfl, hw⟩ hx hb hr hlocks rfl hP hD hS (Nat.le_of_ble_eq_true rfl) (Nat.le_of_ble_eq_true rfl) dL_stick_17

set_option maxHeartbeats 4000000 in
set_option maxRecDepth 100000 in
theorem m_X3_joinsGoingIn (l : Launch) (hfl : l.stackTraces = false) (D : va_G) (ad : Nat → Nat) (cA : Nat → ClassId) (g : gv_T) (p1 : Int32) (σ : Sg) (Q : Int32 → Prop) (hw : w_X3_joinsGoingIn p1 σ Q) : MC l yX3_joinsGoingIn cX3_joinsGoingIn 4 (some .int) (RM 0 0 0 0) D ad cA g [.ref (ad 32), .int p1] σ (fun v σ' => ∃ r : Int32, v = some (.int r) ∧ σ' = σ ∧ Q r) (fun _ _ => False) := by
  refine MC.of (plainFor_of_name (by decide +kernel)) (Nat.le_of_ble_eq_true rfl) ?_
  intro p e s m args below meth c A ls hx hb hr hml hown hG hlocks htab hA hS hP hK hD hGV hl
  have hown : s.vm.findClass RX3 = some m.cls := hown
  have hl : lv_has ls 4 [(0, .ref (ad 32)), (1, .int p1)] := hl
  have hSF : CF p m c cX3_joinsGoingIn 4 s args RX3 := ⟨hx, hb, hml, hown, hG⟩
  refine lv_iconst (v := 0) hx hb dX3_joinsGoingIn_0 (by decide) ?_
  refine lv_istore_n (lv' := [(2, .int 0), (0, .ref (ad 32)), (1, .int p1)]) hx hb dX3_joinsGoingIn_1 rfl hl (by decide) rfl (fun ls hl => ?_)
  refine lv_iconst (v := 0) hx hb dX3_joinsGoingIn_2 (by decide) ?_
  refine lv_istore_n (lv' := [(3, .int 0), (2, .int 0), (0, .ref (ad 32)), (1, .int p1)]) hx hb dX3_joinsGoingIn_3 rfl hl (by decide) rfl (fun ls hl => ?_)
  obtain ⟨I1, μ1, hI1, hw1⟩ := hw
  have hl : lv_has ls 4 [(0, .ref (ad 32)), (1, .int p1), (2, .int 0), (3, .int 0)] := lv_sub hl [2, 3, 1, 0] rfl
  suffices key1 : ∀ (n1 : Nat) (i2_1 : Int32) (i3_1 : Int32), μ1 i2_1 i3_1 < n1 → I1 i2_1 i3_1 → ∀ (H : Heap) (locs : List Loc) (ls : Array Slot), va_P D vwCl (WL ad cA σ) H → va_D A (WL ad cA σ) → va_S A s.heap H locs → lv_has ls 4 [(0, .ref (ad 32)), (1, .int p1), (2, .int i2_1), (3, .int i3_1)] → W p l e (RM 0 0 0 0) s m args below meth c H locs (0) (0) (vx_MQ below (QM D ad cA A (fun v σ' => ∃ r : Int32, v = some (.int r) ∧ σ' = σ ∧ Q r)) (XM D ad cA A (fun _ _ => False)) args s (RM 0 0 0 0).cells (RM 0 0 0 0).slots A) (F0 m 4 ls []) from key1 _ _ _ (Nat.lt_succ_self _) hI1 _ _ ls hP hD hS hl
  clear hP hD hS hl
  intro n1
  induction n1 with
  | zero => intro _ _ h; exact absurd h (Nat.not_lt_zero _)
  | succ n1 ih1 =>
    intro i2_1 i3_1 hm1 hI1 H locs ls hP hD hS hl
    have hw := hw1 i2_1 i3_1 hI1
    refine lv_iload_n hx hb dX3_joinsGoingIn_4 rfl (lv_at hl 3 rfl) ?_
    refine lv_aload_n hx hb dX3_joinsGoingIn_5 rfl (lv_at hl 0 rfl) ?_
    refine k_get (ci := 5) (C := RX3) (T := TX3) (N := 6) (v := .int (gI σ 4)) hx hb hG inX3 hown hK hP 32 wl_32 rfl 0 (by decide) gw200 rfl dX3_joinsGoingIn_6 ?_
    refine lv_icmp_ge (tgt := 36) hx hb dX3_joinsGoingIn_9 (by decide) (fun k2 => ?_) (fun k2 => ?_)
    · skip
      have hw := hw.1 k2
      refine lv_iload_n hx hb dX3_joinsGoingIn_36 rfl (lv_at hl 2 rfl) ?_
      exact vx_ret (m_i ⟨_, rfl, rfl, hw⟩ hx hb hr hlocks rfl hP hD hS (Nat.le_of_ble_eq_true rfl) (Nat.le_of_ble_eq_true rfl) dX3_joinsGoingIn_37)
    · skip
      have hw := hw.2 k2
      refine lv_iload_n hx hb dX3_joinsGoingIn_12 rfl (lv_at hl 2 rfl) ?_
      refine lv_aload_n hx hb dX3_joinsGoingIn_13 rfl (lv_at hl 0 rfl) ?_
      refine k_get (ci := 5) (C := RX3) (T := TX3) (N := 6) (v := .ref (ad 33)) hx hb hG inX3 hown hK hP 32 wl_32 rfl 1 (by decide) gw203 rfl dX3_joinsGoingIn_14 ?_
      refine lv_iload_n hx hb dX3_joinsGoingIn_17 rfl (lv_at hl 3 rfl) ?_
      obtain ⟨hc3, hw⟩ := hw
      refine k_iald (v := gA σ 13 (ix i3_1)) hx hb hK hP 33 wl_33 (ix i3_1) rfl rfl hc3 dX3_joinsGoingIn_18 ?_
      refine lv_iload_n hx hb dX3_joinsGoingIn_19 rfl (lv_at hl 1 rfl) ?_
      refine lv_icmp_ne (tgt := 27) hx hb dX3_joinsGoingIn_20 (by decide) (fun k4 => ?_) (fun k4 => ?_)
      · skip
        have hw := hw.1 k4
        refine lv_iconst (v := 0) hx hb dX3_joinsGoingIn_27 (by decide) ?_
        refine k_iadd (v := i2_1 + 0) hx hb dX3_joinsGoingIn_28 rfl ?_
        obtain ⟨v5, ev5⟩ : ∃ z : Int32, z = i2_1 + 0 := ⟨_, rfl⟩
        have hw := hw v5 ev5
        refine lv_istore_n (lv' := [(2, .int v5), (0, .ref (ad 32)), (1, .int p1), (3, .int i3_1)]) hx hb dX3_joinsGoingIn_29 rfl hl (by decide) (by subst ev5; rfl) (fun ls hl => ?_)
        refine lv_iinc (v := i3_1 + 1) (lv' := [(3, .int (i3_1 + 1)), (2, .int v5), (0, .ref (ad 32)), (1, .int p1)]) hx hb dX3_joinsGoingIn_30 hl (k := 3) rfl rfl (by decide) rfl (fun ls hl => ?_)
        refine lv_goto (tgt := 4) hx hb dX3_joinsGoingIn_33 (by decide) ?_
        exact ih1 v5 (i3_1 + 1) (Nat.lt_of_lt_of_le hw.2 (Nat.le_of_lt_succ hm1)) hw.1 _ _ ls hP hD hS (lv_sub hl [2, 3, 1, 0] rfl)
      · skip
        have hw := hw.2 k4
        refine lv_iconst (v := 1) hx hb dX3_joinsGoingIn_23 (by decide) ?_
        refine lv_goto (tgt := 28) hx hb dX3_joinsGoingIn_24 (by decide) ?_
        refine k_iadd (v := i2_1 + 1) hx hb dX3_joinsGoingIn_28 rfl ?_
        obtain ⟨v6, ev6⟩ : ∃ z : Int32, z = i2_1 + 1 := ⟨_, rfl⟩
        have hw := hw v6 ev6
        refine lv_istore_n (lv' := [(2, .int v6), (0, .ref (ad 32)), (1, .int p1), (3, .int i3_1)]) hx hb dX3_joinsGoingIn_29 rfl hl (by decide) (by subst ev6; rfl) (fun ls hl => ?_)
        refine lv_iinc (v := i3_1 + 1) (lv' := [(3, .int (i3_1 + 1)), (2, .int v6), (0, .ref (ad 32)), (1, .int p1)]) hx hb dX3_joinsGoingIn_30 hl (k := 3) rfl rfl (by decide) rfl (fun ls hl => ?_)
        refine lv_goto (tgt := 4) hx hb dX3_joinsGoingIn_33 (by decide) ?_
        exact ih1 v6 (i3_1 + 1) (Nat.lt_of_lt_of_le hw.2 (Nat.le_of_lt_succ hm1)) hw.1 _ _ ls hP hD hS (lv_sub hl [2, 3, 1, 0] rfl)

set_option maxHeartbeats 4000000 in
set_option maxRecDepth 100000 in
theorem m_X0_pieceLength (l : Launch) (hfl : l.stackTraces = false) (D : va_G) (ad : Nat → Nat) (cA : Nat → ClassId) (g : gv_T) (p1 : Int32) (σ : Sg) (Q : Int32 → Prop) (hw : w_X0_pieceLength p1 σ Q) : MC l yX0_pieceLength cX0_pieceLength 6 (some .int) (RM 1 0 0 25) D ad cA g [.ref (ad 38), .int p1, .ref (ad 1), .ref (ad 32)] σ (fun v σ' => ∃ r : Int32, v = some (.int r) ∧ σ' = σ ∧ Q r) (fun _ _ => False) := by
  refine MC.of (plainFor_of_name (by decide +kernel)) (Nat.le_of_ble_eq_true rfl) ?_
  intro p e s m args below meth c A ls hx hb hr hml hown hG hlocks htab hA hS hP hK hD hGV hl
  have hown : s.vm.findClass RX0 = some m.cls := hown
  have hl : lv_has ls 6 [(0, .ref (ad 38)), (1, .int p1), (2, .ref (ad 1)), (3, .ref (ad 32))] := hl
  have hSF : CF p m c cX0_pieceLength 6 s args RX0 := ⟨hx, hb, hml, hown, hG⟩
  refine lv_bipush (v := 100) hx hb dX0_pieceLength_0 (by decide) ?_
  refine lv_aload_n hx hb dX0_pieceLength_2 rfl (lv_at hl 2 rfl) ?_
  refine lv_iload_n hx hb dX0_pieceLength_3 rfl (lv_at hl 1 rfl) ?_
  refine mc_V hSF hl.1 hP hD hS hA hK hGV (m_X2_lengthSquare l hfl D ad cA g p1 σ _ hw) goV_X0_38 pd_X2_lengthSquare ⟨(Nat.le_of_ble_eq_true rfl), (Nat.le_of_ble_eq_true rfl)⟩ ⟨(Nat.le_of_ble_eq_true rfl), (Nat.le_of_ble_eq_true rfl)⟩ (va_recv hK hP (ci := 4) (q0 := 1) rfl wl_1) dX0_pieceLength_4 rfl (Nat.le_of_ble_eq_true rfl) (fun v9 σ9 H locs hq hP hD hS => ?_) (fun _ _ _ _ _ _ h => h.elim)
  obtain ⟨r1, hv9, hs9, hw⟩ := hq
  subst hv9
  subst σ9
  refine W.eq (g2 := F0 m 7 ls [.int r1, .int 100]) rfl ?_
  refine W.widen (k := 0) (n := 0) (Nat.le_refl _) (Nat.le_refl _) ?_
  refine k_imul (v := 100 * r1) hx hb dX0_pieceLength_7 rfl ?_
  obtain ⟨v2, ev2⟩ : ∃ z : Int32, z = 100 * r1 := ⟨_, rfl⟩
  have hw := hw v2 ev2
  refine lv_istore (lv' := [(4, .int v2), (0, .ref (ad 38)), (1, .int p1), (2, .ref (ad 1)), (3, .ref (ad 32))]) hx hb dX0_pieceLength_8 hl (by decide) (by subst ev2; rfl) (fun ls hl => ?_)
  refine lv_iconst (v := 0) hx hb dX0_pieceLength_10 (by decide) ?_
  refine lv_istore (lv' := [(5, .int 0), (4, .int v2), (0, .ref (ad 38)), (1, .int p1), (2, .ref (ad 1)), (3, .ref (ad 32))]) hx hb dX0_pieceLength_11 hl (by decide) rfl (fun ls hl => ?_)
  obtain ⟨I3, μ3, hI3, hw3⟩ := hw
  have hl : lv_has ls 6 [(1, .int p1), (3, .ref (ad 32)), (4, .int v2), (5, .int 0)] := lv_sub hl [3, 5, 1, 0] rfl
  suffices key3 : ∀ (n3 : Nat) (i5_3 : Int32), μ3 i5_3 < n3 → I3 i5_3 → ∀ (H : Heap) (locs : List Loc) (ls : Array Slot), va_P D vwCl (WL ad cA σ) H → va_D A (WL ad cA σ) → va_S A s.heap H locs → lv_has ls 6 [(1, .int p1), (3, .ref (ad 32)), (4, .int v2), (5, .int i5_3)] → W p l e (RM 1 0 0 25) s m args below meth c H locs (0) (0) (vx_MQ below (QM D ad cA A (fun v σ' => ∃ r : Int32, v = some (.int r) ∧ σ' = σ ∧ Q r)) (XM D ad cA A (fun _ _ => False)) args s (RM 1 0 0 25).cells (RM 1 0 0 25).slots A) (F0 m 13 ls []) from key3 _ _ (Nat.lt_succ_self _) hI3 _ _ ls hP hD hS hl
  clear hP hD hS hl
  intro n3
  induction n3 with
  | zero => intro _ h; exact absurd h (Nat.not_lt_zero _)
  | succ n3 ih3 =>
    intro i5_3 hm3 hI3 H locs ls hP hD hS hl
    have hw := hw3 i5_3 hI3
    refine lv_iload hx hb dX0_pieceLength_13 (lv_at hl 3 rfl) ?_
    refine lv_sipush (v := 425) hx hb dX0_pieceLength_15 (by decide) ?_
    refine lv_icmp_ge (tgt := 37) hx hb dX0_pieceLength_18 (by decide) (fun k4 => ?_) (fun k4 => ?_)
    · skip
      have hw := hw.1 k4
      refine lv_iload hx hb dX0_pieceLength_37 (lv_at hl 3 rfl) ?_
      refine lv_iconst (v := 4) hx hb dX0_pieceLength_39 (by decide) ?_
      refine lv_aload_n hx hb dX0_pieceLength_40 rfl (lv_at hl 1 rfl) ?_
      refine lv_iload_n hx hb dX0_pieceLength_41 rfl (lv_at hl 0 rfl) ?_
      refine mc_V hSF hl.1 hP hD hS hA hK hGV (m_X3_joinsGoingIn l hfl D ad cA g p1 σ _ hw) goV_X0_44 pd_X3_joinsGoingIn ⟨(Nat.le_of_ble_eq_true rfl), (Nat.le_of_ble_eq_true rfl)⟩ ⟨(Nat.le_of_ble_eq_true rfl), (Nat.le_of_ble_eq_true rfl)⟩ (va_recv hK hP (ci := 5) (q0 := 32) rfl wl_32) dX0_pieceLength_42 rfl (Nat.le_of_ble_eq_true rfl) (fun v9 σ9 H locs hq hP hD hS => ?_) (fun _ _ _ _ _ _ h => h.elim)
      obtain ⟨r5, hv9, hs9, hw⟩ := hq
      subst hv9
      subst σ9
      refine W.eq (g2 := F0 m 45 ls [.int r5, .int 4, .int i5_3]) rfl ?_
      refine W.widen (k := 0) (n := 0) (Nat.le_refl _) (Nat.le_refl _) ?_
      refine k_imul (v := 4 * r5) hx hb dX0_pieceLength_45 rfl ?_
      refine k_iadd (v := i5_3 + (4 * r5)) hx hb dX0_pieceLength_46 rfl ?_
      exact vx_ret (m_i ⟨_, rfl, rfl, hw⟩ hx hb hr hlocks rfl hP hD hS (Nat.le_of_ble_eq_true rfl) (Nat.le_of_ble_eq_true rfl) dX0_pieceLength_47)
    · skip
      have hw := hw.2 k4
      refine lv_iload hx hb dX0_pieceLength_21 (lv_at hl 3 rfl) ?_
      refine lv_iload hx hb dX0_pieceLength_23 (lv_at hl 3 rfl) ?_
      refine k_imul (v := i5_3 * i5_3) hx hb dX0_pieceLength_25 rfl ?_
      refine lv_iload hx hb dX0_pieceLength_26 (lv_at hl 2 rfl) ?_
      refine lv_icmp_ge (tgt := 37) hx hb dX0_pieceLength_28 (by decide) (fun k6 => ?_) (fun k6 => ?_)
      · skip
        have hw := hw.1 k6
        refine lv_iload hx hb dX0_pieceLength_37 (lv_at hl 3 rfl) ?_
        refine lv_iconst (v := 4) hx hb dX0_pieceLength_39 (by decide) ?_
        refine lv_aload_n hx hb dX0_pieceLength_40 rfl (lv_at hl 1 rfl) ?_
        refine lv_iload_n hx hb dX0_pieceLength_41 rfl (lv_at hl 0 rfl) ?_
        refine mc_V hSF hl.1 hP hD hS hA hK hGV (m_X3_joinsGoingIn l hfl D ad cA g p1 σ _ hw) goV_X0_44 pd_X3_joinsGoingIn ⟨(Nat.le_of_ble_eq_true rfl), (Nat.le_of_ble_eq_true rfl)⟩ ⟨(Nat.le_of_ble_eq_true rfl), (Nat.le_of_ble_eq_true rfl)⟩ (va_recv hK hP (ci := 5) (q0 := 32) rfl wl_32) dX0_pieceLength_42 rfl (Nat.le_of_ble_eq_true rfl) (fun v9 σ9 H locs hq hP hD hS => ?_) (fun _ _ _ _ _ _ h => h.elim)
        obtain ⟨r7, hv9, hs9, hw⟩ := hq
        subst hv9
        subst σ9
        refine W.eq (g2 := F0 m 45 ls [.int r7, .int 4, .int i5_3]) rfl ?_
        refine W.widen (k := 0) (n := 0) (Nat.le_refl _) (Nat.le_refl _) ?_
        refine k_imul (v := 4 * r7) hx hb dX0_pieceLength_45 rfl ?_
        refine k_iadd (v := i5_3 + (4 * r7)) hx hb dX0_pieceLength_46 rfl ?_
        exact vx_ret (m_i ⟨_, rfl, rfl, hw⟩ hx hb hr hlocks rfl hP hD hS (Nat.le_of_ble_eq_true rfl) (Nat.le_of_ble_eq_true rfl) dX0_pieceLength_47)
      · skip
        have hw := hw.2 k6
        refine lv_iinc (v := i5_3 + 1) (lv' := [(5, .int (i5_3 + 1)), (1, .int p1), (3, .ref (ad 32)), (4, .int v2)]) hx hb dX0_pieceLength_31 hl (k := 3) rfl rfl (by decide) rfl (fun ls hl => ?_)
        refine lv_goto (tgt := 13) hx hb dX0_pieceLength_34 (by decide) ?_
        exact ih3 (i5_3 + 1) (Nat.lt_of_lt_of_le hw.2 (Nat.le_of_lt_succ hm3)) hw.1 _ _ ls hP hD hS (lv_sub hl [1, 2, 3, 0] rfl)

set_option maxHeartbeats 4000000 in
set_option maxRecDepth 100000 in
theorem m_X6_piece (l : Launch) (hfl : l.stackTraces = false) (D : va_G) (ad : Nat → Nat) (cA : Nat → ClassId) (g : gv_T) (p1 : Int32) (σ : Sg) (Q : Int32 → Prop) (X : String → Sg → Prop) (hw : w_X6_piece p1 σ Q X) : MC l yX6_piece cX6_piece 2 (some .int) (RM 7 1 6 103) D ad cA g [.ref (ad 0), .int p1] σ (fun v σ' => ∃ r : Int32, v = some (.int r) ∧ σ' = σ ∧ Q r) X := by
  refine MC.of (plainFor_of_name (by decide +kernel)) (Nat.le_of_ble_eq_true rfl) ?_
  intro p e s m args below meth c A ls hx hb hr hml hown hG hlocks htab hA hS hP hK hD hGV hl
  have hown : s.vm.findClass RX6 = some m.cls := hown
  have hl : lv_has ls 2 [(0, .ref (ad 0)), (1, .int p1)] := hl
  have hSF : CF p m c cX6_piece 2 s args RX6 := ⟨hx, hb, hml, hown, hG⟩
  refine lv_aload_n hx hb dX6_piece_0 rfl (lv_at hl 0 rfl) ?_
  refine lv_iload_n hx hb dX6_piece_1 rfl (lv_at hl 1 rfl) ?_
  refine mc_V hSF hl.1 hP hD hS hA hK hGV (m_X6_checkMember l hfl D ad cA g p1 σ _ _ hw) goV_X6_118 pd_X6_checkMember ⟨(Nat.le_of_ble_eq_true rfl), (Nat.le_of_ble_eq_true rfl)⟩ ⟨(Nat.le_of_ble_eq_true rfl), (Nat.le_of_ble_eq_true rfl)⟩ (va_recv hK hP (ci := 8) (q0 := 0) rfl wl_0) dX6_piece_2 rfl (Nat.le_of_ble_eq_true rfl) (fun v9 σ9 H locs hq hP hD hS => ?_) (fun E9 σ9 H locs x9 ce9 hw hP hD hS h9 hv9 hc9 => ?_)
  · skip
    obtain ⟨hv9, hs9, hw⟩ := hq
    subst hv9
    subst σ9
    refine W.eq (g2 := F0 m 5 ls []) rfl ?_
    refine W.widen (k := 1) (n := 6) (Nat.le_refl _) (Nat.le_refl _) ?_
    refine lv_aload_n hx hb dX6_piece_5 rfl (lv_at hl 0 rfl) ?_
    refine k_get (ci := 8) (C := RX6) (T := TX6) (N := 5) (v := .ref (ad 38)) hx hb hG inX6 hown hK hP 0 wl_0 rfl 3 (by decide) gw308 rfl dX6_piece_6 ?_
    refine lv_iload_n hx hb dX6_piece_9 rfl (lv_at hl 1 rfl) ?_
    refine lv_aload_n hx hb dX6_piece_10 rfl (lv_at hl 0 rfl) ?_
    refine k_get (ci := 8) (C := RX6) (T := TX6) (N := 5) (v := .ref (ad 1)) hx hb hG inX6 hown hK hP 0 wl_0 rfl 0 (by decide) gw305 rfl dX6_piece_11 ?_
    refine lv_aload_n hx hb dX6_piece_14 rfl (lv_at hl 0 rfl) ?_
    refine k_get (ci := 8) (C := RX6) (T := TX6) (N := 5) (v := .ref (ad 32)) hx hb hG inX6 hown hK hP 0 wl_0 rfl 2 (by decide) gw307 rfl dX6_piece_15 ?_
    refine mc_V hSF hl.1 hP hD hS hA hK hGV (m_X0_pieceLength l hfl D ad cA g p1 σ _ hw) goV_X6_215 pd_X0_pieceLength ⟨(Nat.le_of_ble_eq_true rfl), (Nat.le_of_ble_eq_true rfl)⟩ ⟨(Nat.le_of_ble_eq_true rfl), (Nat.le_of_ble_eq_true rfl)⟩ (va_recv hK hP (ci := 2) (q0 := 38) rfl wl_38) dX6_piece_18 rfl (Nat.le_of_ble_eq_true rfl) (fun v9 σ9 H locs hq hP hD hS => ?_) (fun _ _ _ _ _ _ h => h.elim)
    obtain ⟨r2, hv9, hs9, hw⟩ := hq
    subst hv9
    subst σ9
    refine W.eq (g2 := F0 m 21 ls [.int r2]) rfl ?_
    refine W.widen (k := 1) (n := 6) (Nat.le_refl _) (Nat.le_refl _) ?_
    exact vx_ret (m_i ⟨_, rfl, rfl, hw⟩ hx hb hr hlocks rfl hP hD hS (Nat.le_of_ble_eq_true rfl) (Nat.le_of_ble_eq_true rfl) dX6_piece_21)
  · skip
    exact m_out hw htab hlocks h9 hv9 hc9 hP hD hS (Nat.le_of_ble_eq_true rfl) (Nat.le_of_ble_eq_true rfl)

set_option maxHeartbeats 4000000 in
set_option maxRecDepth 100000 in
theorem m_L_piece (l : Launch) (hfl : l.stackTraces = false) (D : va_G) (ad : Nat → Nat) (cA : Nat → ClassId) (g : gv_T) (p1 : Int32) (σ : Sg) (Q : Int32 → Prop) (hw : w_L_piece p1 σ Q) : MW l yL_piece cL_piece 3 (some .int) [(0, 5, 6, 28)] (RM 8 1 6 124) D ad cA g [.ref (ad 0), .int p1] σ (fun v σ' => ∃ r : Int32, v = some (.int r) ∧ σ' = σ ∧ Q r) := by
  refine MW.of (by decide +kernel) (Nat.le_of_ble_eq_true rfl) ?_
  intro p e s m args below meth c A ls hx hb hr hml hown hG hlocks htab hA hS hP hK hD hGV hl
  have hown : s.vm.findClass RL = some m.cls := hown
  have hl : lv_has ls 3 [(0, .ref (ad 0)), (1, .int p1)] := hl
  have hSF : CF p m c cL_piece 3 s args RL := ⟨hx, hb, hml, hown, hG⟩
  refine lv_aload_n hx hb dL_piece_0 rfl (lv_at hl 0 rfl) ?_
  refine lv_iload_n hx hb dL_piece_1 rfl (lv_at hl 1 rfl) ?_
  refine mc_V hSF hl.1 hP hD hS hA hK hGV (m_X6_piece l hfl D ad cA g p1 σ _ _ hw) goV_L_84 pd_X6_piece ⟨(Nat.le_of_ble_eq_true rfl), (Nat.le_of_ble_eq_true rfl)⟩ ⟨(Nat.le_of_ble_eq_true rfl), (Nat.le_of_ble_eq_true rfl)⟩ (va_recv hK hP (ci := 8) (q0 := 0) rfl wl_0) dL_piece_2 rfl (Nat.le_of_ble_eq_true rfl) (fun v9 σ9 H locs hq hP hD hS => ?_) (fun E9 σ2 H locs x9 ce9 hw hP hD hS h9 hv9 hc9 => ?_)
  · skip
    obtain ⟨r1, hv9, hs9, hw⟩ := hq
    subst hv9
    subst σ9
    refine W.eq (g2 := F0 m 5 ls [.int r1]) rfl ?_
    refine W.widen (k := 1) (n := 6) (Nat.le_refl _) (Nat.le_refl _) ?_
    exact m_i ⟨_, rfl, rfl, hw⟩ hx hb hr hlocks rfl hP hD hS (Nat.le_of_ble_eq_true rfl) (Nat.le_of_ble_eq_true rfl) dL_piece_5
  · skip
    obtain ⟨rfl, hs9, hw⟩ := hw
    subst hs9
    refine vx_catch (own := RL) (name := "java/lang/IndexOutOfBoundsException") hown [] { startPc := 0, endPc := 5, handlerPc := 6, catchType := 28 } [] (htab.trans rfl) (fun z hz => nomatch hz) rfl (by decide) (hG _ gw690) (va_Nw.use rfl (hGV.nw _ gw724)) h9 hv9 hc9 ?_
    refine W.eq (g2 := F0 m 6 ls [.ref x9]) rfl ?_
    refine W.widen (k := 1) (n := 6) (Nat.le_refl _) (Nat.le_refl _) ?_
    refine lv_astore_n (lv' := [(2, .ref x9), (0, .ref (ad 0)), (1, .int p1)]) hx hb dL_piece_6 rfl hl (by decide) rfl (fun ls hl => ?_)
    refine lv_bipush (v := (-77)) hx hb dL_piece_7 (by decide) ?_
    exact m_i ⟨_, rfl, rfl, hw⟩ hx hb hr hlocks rfl hP hD hS (Nat.le_of_ble_eq_true rfl) (Nat.le_of_ble_eq_true rfl) dL_piece_9

set_option maxHeartbeats 4000000 in
set_option maxRecDepth 100000 in
theorem m_X0_measure (l : Launch) (hfl : l.stackTraces = false) (D : va_G) (ad : Nat → Nat) (cA : Nat → ClassId) (g : gv_T) (σ : Sg) (Q : Sg → Prop) (hw : w_X0_measure  σ Q) : MC l yX0_measure cX0_measure 8 none (RM 2 0 0 50) D ad cA g [.ref (ad 38), .ref (ad 1), .ref (ad 32)] σ (fun v σ' => v = none ∧ Q σ') (fun _ _ => False) := by
  refine MC.of (plainFor_of_name (by decide +kernel)) (Nat.le_of_ble_eq_true rfl) ?_
  intro p e s m args below meth c A ls hx hb hr hml hown hG hlocks htab hA hS hP hK hD hGV hl
  have hown : s.vm.findClass RX0 = some m.cls := hown
  have hl : lv_has ls 8 [(0, .ref (ad 38)), (1, .ref (ad 1)), (2, .ref (ad 32))] := hl
  have hSF : CF p m c cX0_measure 8 s args RX0 := ⟨hx, hb, hml, hown, hG⟩
  refine lv_ldc hx hb hown (hG _ gw1055) dX0_measure_0 ?_
  refine lv_istore_n (lv' := [(3, .int 390625), (0, .ref (ad 38)), (1, .ref (ad 1)), (2, .ref (ad 32))]) hx hb dX0_measure_2 rfl hl (by decide) rfl (fun ls hl => ?_)
  refine lv_iconst (v := 0) hx hb dX0_measure_3 (by decide) ?_
  refine lv_istore (lv' := [(4, .int 0), (3, .int 390625), (0, .ref (ad 38)), (1, .ref (ad 1)), (2, .ref (ad 32))]) hx hb dX0_measure_4 hl (by decide) rfl (fun ls hl => ?_)
  obtain ⟨I1, μ1, hI1, hw1⟩ := hw
  have hl : lv_has ls 8 [(0, .ref (ad 38)), (1, .ref (ad 1)), (2, .ref (ad 32)), (3, .int 390625), (4, .int 0)] := lv_sub hl [2, 3, 4, 1, 0] rfl
  suffices key1 : ∀ (n1 : Nat) (i3_1 : Int32) (i4_1 : Int32) (σ1 : Sg), μ1 i3_1 i4_1 σ1 < n1 → I1 i3_1 i4_1 σ1 → ∀ (H : Heap) (locs : List Loc) (ls : Array Slot), va_P D vwCl (WL ad cA σ1) H → va_D A (WL ad cA σ1) → va_S A s.heap H locs → lv_has ls 8 [(0, .ref (ad 38)), (1, .ref (ad 1)), (2, .ref (ad 32)), (3, .int i3_1), (4, .int i4_1)] → W p l e (RM 2 0 0 50) s m args below meth c H locs (0) (0) (vx_MQ below (QM D ad cA A (fun v σ' => v = none ∧ Q σ')) (XM D ad cA A (fun _ _ => False)) args s (RM 2 0 0 50).cells (RM 2 0 0 50).slots A) (F0 m 6 ls []) from key1 _ _ _ _ (Nat.lt_succ_self _) hI1 _ _ ls hP hD hS hl
  clear hP hD hS hl
  intro n1
  induction n1 with
  | zero => intro _ _ _ h; exact absurd h (Nat.not_lt_zero _)
  | succ n1 ih1 =>
    intro i3_1 i4_1 σ1 hm1 hI1 H locs ls hP hD hS hl
    have hw := hw1 i3_1 i4_1 σ1 hI1
    refine lv_iload hx hb dX0_measure_6 (lv_at hl 4 rfl) ?_
    refine lv_aload_n hx hb dX0_measure_8 rfl (lv_at hl 1 rfl) ?_
    refine k_get (ci := 4) (C := RX2) (T := TX2) (N := 12) (v := .int (gI σ1 1)) hx hb hG inX2 hown hK hP 1 wl_1 rfl 1 (by decide) gw74 rfl dX0_measure_9 ?_
    refine lv_icmp_ge (tgt := 101) hx hb dX0_measure_12 (by decide) (fun k2 => ?_) (fun k2 => ?_)
    · skip
      have hw := hw.1 k2
      exact vx_ret (m_v ⟨rfl, hw⟩ hx hb hr hlocks hP hD hS (Nat.le_of_ble_eq_true rfl) (Nat.le_of_ble_eq_true rfl) dX0_measure_101)
    · skip
      have hw := hw.2 k2
      refine lv_aload_n hx hb dX0_measure_15 rfl (lv_at hl 0 rfl) ?_
      refine lv_iload hx hb dX0_measure_16 (lv_at hl 4 rfl) ?_
      refine lv_aload_n hx hb dX0_measure_18 rfl (lv_at hl 1 rfl) ?_
      refine lv_aload_n hx hb dX0_measure_19 rfl (lv_at hl 2 rfl) ?_
      refine mc_V hSF hl.1 hP hD hS hA hK hGV (m_X0_pieceLength l hfl D ad cA g i4_1 σ1 _ hw) goV_X0_75 pd_X0_pieceLength ⟨(Nat.le_of_ble_eq_true rfl), (Nat.le_of_ble_eq_true rfl)⟩ ⟨(Nat.le_of_ble_eq_true rfl), (Nat.le_of_ble_eq_true rfl)⟩ (va_recv hK hP (ci := 2) (q0 := 38) rfl wl_38) dX0_measure_20 rfl (Nat.le_of_ble_eq_true rfl) (fun v9 σ9 H locs hq hP hD hS => ?_) (fun _ _ _ _ _ _ h => h.elim)
      obtain ⟨r3, hv9, hs9, hw⟩ := hq
      subst hv9
      subst σ9
      refine W.eq (g2 := F0 m 23 ls [.int r3]) rfl ?_
      refine W.widen (k := 0) (n := 0) (Nat.le_refl _) (Nat.le_refl _) ?_
      refine lv_iconst (v := 1) hx hb dX0_measure_23 (by decide) ?_
      refine k_iadd (v := r3 + 1) hx hb dX0_measure_24 rfl ?_
      obtain ⟨v4, ev4⟩ : ∃ z : Int32, z = r3 + 1 := ⟨_, rfl⟩
      have hw := hw v4 ev4
      refine lv_istore (lv' := [(5, .int v4), (0, .ref (ad 38)), (1, .ref (ad 1)), (2, .ref (ad 32)), (3, .int i3_1), (4, .int i4_1)]) hx hb dX0_measure_25 hl (by decide) (by subst ev4; rfl) (fun ls hl => ?_)
      refine lv_iconst (v := 1) hx hb dX0_measure_27 (by decide) ?_
      refine lv_iload hx hb dX0_measure_28 (lv_at hl 5 rfl) ?_
      refine k_ishl (v := iShl 1 i4_1) hx hb dX0_measure_30 rfl ?_
      obtain ⟨v5, ev5⟩ : ∃ z : Int32, z = iShl 1 i4_1 := ⟨_, rfl⟩
      have hw := hw v5 ev5
      refine lv_istore (lv' := [(6, .int v5), (5, .int v4), (0, .ref (ad 38)), (1, .ref (ad 1)), (2, .ref (ad 32)), (3, .int i3_1), (4, .int i4_1)]) hx hb dX0_measure_31 hl (by decide) (by subst ev5; rfl) (fun ls hl => ?_)
      refine lv_iload hx hb dX0_measure_33 (lv_at hl 0 rfl) ?_
      refine lv_istore (lv' := [(7, .int v5), (6, .int v5), (5, .int v4), (0, .ref (ad 38)), (1, .ref (ad 1)), (2, .ref (ad 32)), (3, .int i3_1), (4, .int i4_1)]) hx hb dX0_measure_35 hl (by decide) rfl (fun ls hl => ?_)
      obtain ⟨I6, μ6, hI6, hw6⟩ := hw
      have hl : lv_has ls 8 [(0, .ref (ad 38)), (1, .ref (ad 1)), (2, .ref (ad 32)), (3, .int i3_1), (4, .int i4_1), (5, .int v4), (6, .int v5), (7, .int v5)] := lv_sub hl [3, 4, 5, 6, 7, 2, 1, 0] rfl
      suffices key6 : ∀ (n6 : Nat) (i7_6 : Int32) (σ6 : Sg), μ6 i7_6 σ6 < n6 → I6 i7_6 σ6 → ∀ (H : Heap) (locs : List Loc) (ls : Array Slot), va_P D vwCl (WL ad cA σ6) H → va_D A (WL ad cA σ6) → va_S A s.heap H locs → lv_has ls 8 [(0, .ref (ad 38)), (1, .ref (ad 1)), (2, .ref (ad 32)), (3, .int i3_1), (4, .int i4_1), (5, .int v4), (6, .int v5), (7, .int i7_6)] → W p l e (RM 2 0 0 50) s m args below meth c H locs (0) (0) (vx_MQ below (QM D ad cA A (fun v σ' => v = none ∧ Q σ')) (XM D ad cA A (fun _ _ => False)) args s (RM 2 0 0 50).cells (RM 2 0 0 50).slots A) (F0 m 37 ls []) from key6 _ _ _ (Nat.lt_succ_self _) hI6 _ _ ls hP hD hS hl
      clear hP hD hS hl
      intro n6
      induction n6 with
      | zero => intro _ _ h; exact absurd h (Nat.not_lt_zero _)
      | succ n6 ih6 =>
        intro i7_6 σ6 hm6 hI6 H locs ls hP hD hS hl
        have hw := hw6 i7_6 σ6 hI6
        refine lv_iload hx hb dX0_measure_37 (lv_at hl 7 rfl) ?_
        refine lv_iconst (v := 2) hx hb dX0_measure_39 (by decide) ?_
        refine lv_iload hx hb dX0_measure_40 (lv_at hl 6 rfl) ?_
        refine k_imul (v := 2 * v5) hx hb dX0_measure_42 rfl ?_
        refine lv_icmp_ge (tgt := 91) hx hb dX0_measure_43 (by decide) (fun k7 => ?_) (fun k7 => ?_)
        · skip
          have hw := hw.1 k7
          refine lv_iload_n hx hb dX0_measure_91 rfl (lv_at hl 3 rfl) ?_
          refine lv_iconst (v := 5) hx hb dX0_measure_92 (by decide) ?_
          refine k_idiv (v := i3_1 / 5) hx hb dX0_measure_93 (by decide +kernel) rfl ?_
          obtain ⟨v8, ev8⟩ : ∃ z : Int32, z = i3_1 / 5 := ⟨_, rfl⟩
          have hw := hw v8 ev8
          refine lv_istore_n (lv' := [(3, .int v8), (0, .ref (ad 38)), (1, .ref (ad 1)), (2, .ref (ad 32)), (4, .int i4_1), (5, .int v4), (6, .int v5), (7, .int i7_6)]) hx hb dX0_measure_94 rfl hl (by decide) (by subst ev8; rfl) (fun ls hl => ?_)
          refine lv_iinc (v := i4_1 + 1) (lv' := [(4, .int (i4_1 + 1)), (3, .int v8), (0, .ref (ad 38)), (1, .ref (ad 1)), (2, .ref (ad 32)), (5, .int v4), (6, .int v5), (7, .int i7_6)]) hx hb dX0_measure_95 hl (k := 4) rfl rfl (by decide) rfl (fun ls hl => ?_)
          refine lv_goto (tgt := 6) hx hb dX0_measure_98 (by decide) ?_
          exact ih1 v8 (i4_1 + 1) σ6 (Nat.lt_of_lt_of_le hw.2 (Nat.le_of_lt_succ hm1)) hw.1 _ _ ls hP hD hS (lv_sub hl [2, 3, 4, 1, 0] rfl)
        · skip
          have hw := hw.2 k7
          refine lv_aload_n hx hb dX0_measure_46 rfl (lv_at hl 0 rfl) ?_
          refine k_get (ci := 2) (C := RX0) (T := TX0) (N := 11) (v := .ref (ad 43)) hx hb hG inX0 hown hK hP 38 wl_38 rfl 8 (by decide) gw240 rfl dX0_measure_47 ?_
          refine lv_iload hx hb dX0_measure_50 (lv_at hl 7 rfl) ?_
          refine lv_aload_n hx hb dX0_measure_52 rfl (lv_at hl 0 rfl) ?_
          refine k_get (ci := 2) (C := RX0) (T := TX0) (N := 11) (v := .ref (ad 43)) hx hb hG inX0 hown hK hP 38 wl_38 rfl 8 (by decide) gw240 rfl dX0_measure_53 ?_
          refine lv_iload hx hb dX0_measure_56 (lv_at hl 7 rfl) ?_
          refine lv_iload hx hb dX0_measure_58 (lv_at hl 6 rfl) ?_
          refine k_isub (v := i7_6 - v5) hx hb dX0_measure_60 rfl ?_
          obtain ⟨hc9, hw⟩ := hw
          refine k_iald (v := gA σ6 22 (ix (i7_6 - v5))) hx hb hK hP 43 wl_43 (ix (i7_6 - v5)) rfl rfl hc9 dX0_measure_61 ?_
          refine lv_iload hx hb dX0_measure_62 (lv_at hl 5 rfl) ?_
          refine k_iadd (v := (gA σ6 22 (ix (i7_6 - v5))) + v4) hx hb dX0_measure_64 rfl ?_
          obtain ⟨hc10, hw⟩ := hw
          obtain ⟨σ11, eσ11⟩ : ∃ z : Sg, z = sA σ6 22 (ix i7_6) ((gA σ6 22 (ix (i7_6 - v5))) + v4) := ⟨_, rfl⟩
          have hw := hw σ11 eσ11
          refine k_iast (ws1 := WL ad cA σ11) hx hb hK hP hD hS 43 wl_43 (ws_43 eσ11) hc10 dX0_measure_65 (fun H locs hP hD hS => ?_)
          refine lv_aload_n hx hb dX0_measure_66 rfl (lv_at hl 0 rfl) ?_
          refine k_get (ci := 2) (C := RX0) (T := TX0) (N := 11) (v := .ref (ad 44)) hx hb hG inX0 hown hK hP 38 wl_38 rfl 9 (by decide) gw241 rfl dX0_measure_67 ?_
          refine lv_iload hx hb dX0_measure_70 (lv_at hl 7 rfl) ?_
          refine lv_aload_n hx hb dX0_measure_72 rfl (lv_at hl 0 rfl) ?_
          refine k_get (ci := 2) (C := RX0) (T := TX0) (N := 11) (v := .ref (ad 44)) hx hb hG inX0 hown hK hP 38 wl_38 rfl 9 (by decide) gw241 rfl dX0_measure_73 ?_
          refine lv_iload hx hb dX0_measure_76 (lv_at hl 7 rfl) ?_
          refine lv_iload hx hb dX0_measure_78 (lv_at hl 6 rfl) ?_
          refine k_isub (v := i7_6 - v5) hx hb dX0_measure_80 rfl ?_
          obtain ⟨hc12, hw⟩ := hw
          refine k_iald (v := gA σ11 23 (ix (i7_6 - v5))) hx hb hK hP 44 wl_44 (ix (i7_6 - v5)) rfl rfl hc12 dX0_measure_81 ?_
          refine lv_iload_n hx hb dX0_measure_82 rfl (lv_at hl 3 rfl) ?_
          refine k_iadd (v := (gA σ11 23 (ix (i7_6 - v5))) + i3_1) hx hb dX0_measure_83 rfl ?_
          obtain ⟨hc13, hw⟩ := hw
          obtain ⟨σ14, eσ14⟩ : ∃ z : Sg, z = sA σ11 23 (ix i7_6) ((gA σ11 23 (ix (i7_6 - v5))) + i3_1) := ⟨_, rfl⟩
          have hw := hw σ14 eσ14
          refine k_iast (ws1 := WL ad cA σ14) hx hb hK hP hD hS 44 wl_44 (ws_44 eσ14) hc13 dX0_measure_84 (fun H locs hP hD hS => ?_)
          refine lv_iinc (v := i7_6 + 1) (lv' := [(7, .int (i7_6 + 1)), (0, .ref (ad 38)), (1, .ref (ad 1)), (2, .ref (ad 32)), (3, .int i3_1), (4, .int i4_1), (5, .int v4), (6, .int v5)]) hx hb dX0_measure_85 hl (k := 7) rfl rfl (by decide) rfl (fun ls hl => ?_)
          refine lv_goto (tgt := 37) hx hb dX0_measure_88 (by decide) ?_
          exact ih6 (i7_6 + 1) σ14 (Nat.lt_of_lt_of_le hw.2 (Nat.le_of_lt_succ hm6)) hw.1 _ _ ls hP hD hS (lv_sub hl [1, 2, 3, 4, 5, 6, 7, 0] rfl)

set_option maxHeartbeats 4000000 in
set_option maxRecDepth 100000 in
theorem m_X0_choose (l : Launch) (hfl : l.stackTraces = false) (D : va_G) (ad : Nat → Nat) (cA : Nat → ClassId) (g : gv_T) (p1 : Int64) (σ : Sg) (Q : Sg → Prop) (hw : w_X0_choose p1 σ Q) : MC l yX0_choose cX0_choose 5 none (RM 0 0 0 0) D ad cA g [.ref (ad 38), .long p1] σ (fun v σ' => v = none ∧ Q σ') (fun _ _ => False) := by
  refine MC.of (plainFor_of_name (by decide +kernel)) (Nat.le_of_ble_eq_true rfl) ?_
  intro p e s m args below meth c A ls hx hb hr hml hown hG hlocks htab hA hS hP hK hD hGV hl
  have hown : s.vm.findClass RX0 = some m.cls := hown
  have hl : lv_has ls 5 [(0, .ref (ad 38)), (1, .long p1)] := hl
  have hSF : CF p m c cX0_choose 5 s args RX0 := ⟨hx, hb, hml, hown, hG⟩
  refine lv_aload_n hx hb dX0_choose_0 rfl (lv_at hl 0 rfl) ?_
  refine lv_lload_n hx hb dX0_choose_1 rfl (lv_at hl 1 rfl) ?_
  refine lv_ldc2 hx hb hown (hG _ gw1065) dX0_choose_2 ?_
  refine k_lcmp (v := lg_cmp p1 4611686018427387904) hx hb dX0_choose_5 rfl ?_
  refine lv_if_eq (tgt := 13) hx hb dX0_choose_6 (by decide) (fun k1 => ?_) (fun k1 => ?_)
  · skip
    have hw := hw.1 (lc_eq.mp k1)
    refine lv_iconst (v := 0) hx hb dX0_choose_13 (by decide) ?_
    obtain ⟨σ2, eσ2⟩ : ∃ z : Sg, z = sI σ 7 0 := ⟨_, rfl⟩
    have hw := hw σ2 eσ2
    refine k_put (ci := 2) (C := RX0) (T := TX0) (N := 11) (v := .int 0) (ws1 := WL ad cA σ2) hx hb hG inX0 tyX0 tyX0_ok nmX0 hown hK hP hD hS 38 wl_38 rfl 2 (by decide) gw231 rfl ⟨rfl, rfl⟩ (ws_38_2 eσ2) (Nat.le_of_ble_eq_true rfl) dX0_choose_14 (fun H locs hP hD hS => ?_)
    refine lv_aload_n hx hb dX0_choose_17 rfl (lv_at hl 0 rfl) ?_
    refine k_get (ci := 2) (C := RX0) (T := TX0) (N := 11) (v := .int (gI σ2 7)) hx hb hG inX0 hown hK hP 38 wl_38 rfl 2 (by decide) gw231 rfl dX0_choose_18 ?_
    refine lv_if_ne (tgt := 25) hx hb dX0_choose_21 (by decide) (fun k3 => ?_) (fun k3 => ?_)
    · skip
      have hw := hw.1 k3
      refine lv_aload_n hx hb dX0_choose_25 rfl (lv_at hl 0 rfl) ?_
      refine lv_lload_n hx hb dX0_choose_26 rfl (lv_at hl 1 rfl) ?_
      refine lv_ldc2 hx hb hown (hG _ gw1074) dX0_choose_27 ?_
      refine k_ldiv (v := p1 / 1953125) hx hb dX0_choose_30 (by decide +kernel) rfl ?_
      refine lv_l2i (v := (p1 / 1953125).toInt32) hx hb dX0_choose_31 rfl ?_
      obtain ⟨σ4, eσ4⟩ : ∃ z : Sg, z = sI σ2 8 ((p1 / 1953125).toInt32) := ⟨_, rfl⟩
      have hw := hw σ4 eσ4
      refine k_put (ci := 2) (C := RX0) (T := TX0) (N := 11) (v := .int ((p1 / 1953125).toInt32)) (ws1 := WL ad cA σ4) hx hb hG inX0 tyX0 tyX0_ok nmX0 hown hK hP hD hS 38 wl_38 rfl 3 (by decide) gw233 rfl ⟨rfl, rfl⟩ (ws_38_3 eσ4) (Nat.le_of_ble_eq_true rfl) dX0_choose_32 (fun H locs hP hD hS => ?_)
      refine lv_lload_n hx hb dX0_choose_35 rfl (lv_at hl 1 rfl) ?_
      refine lv_ldc2 hx hb hown (hG _ gw1074) dX0_choose_36 ?_
      refine k_lrem (v := lRem p1 1953125) hx hb dX0_choose_39 (by decide +kernel) rfl ?_
      refine lv_l2i (v := (lRem p1 1953125).toInt32) hx hb dX0_choose_40 rfl ?_
      obtain ⟨v5, ev5⟩ : ∃ z : Int32, z = (lRem p1 1953125).toInt32 := ⟨_, rfl⟩
      have hw := hw v5 ev5
      refine lv_istore_n (lv' := [(3, .int v5), (0, .ref (ad 38)), (1, .long p1)]) hx hb dX0_choose_41 rfl hl (by decide) (by subst ev5; rfl) (fun ls hl => ?_)
      refine lv_bipush (v := 8) hx hb dX0_choose_42 (by decide) ?_
      refine lv_istore (lv' := [(4, .int 8), (3, .int v5), (0, .ref (ad 38)), (1, .long p1)]) hx hb dX0_choose_44 hl (by decide) rfl (fun ls hl => ?_)
      obtain ⟨I6, μ6, hI6, hw6⟩ := hw
      have hl : lv_has ls 5 [(0, .ref (ad 38)), (3, .int v5), (4, .int 8)] := lv_sub hl [2, 1, 0] rfl
      suffices key6 : ∀ (n6 : Nat) (i3_6 : Int32) (i4_6 : Int32) (σ6 : Sg), μ6 i3_6 i4_6 σ6 < n6 → I6 i3_6 i4_6 σ6 → ∀ (H : Heap) (locs : List Loc) (ls : Array Slot), va_P D vwCl (WL ad cA σ6) H → va_D A (WL ad cA σ6) → va_S A s.heap H locs → lv_has ls 5 [(0, .ref (ad 38)), (3, .int i3_6), (4, .int i4_6)] → W p l e (RM 0 0 0 0) s m args below meth c H locs (0) (0) (vx_MQ below (QM D ad cA A (fun v σ' => v = none ∧ Q σ')) (XM D ad cA A (fun _ _ => False)) args s (RM 0 0 0 0).cells (RM 0 0 0 0).slots A) (F0 m 46 ls []) from key6 _ _ _ _ (Nat.lt_succ_self _) hI6 _ _ ls hP hD hS hl
      clear hP hD hS hl
      intro n6
      induction n6 with
      | zero => intro _ _ _ h; exact absurd h (Nat.not_lt_zero _)
      | succ n6 ih6 =>
        intro i3_6 i4_6 σ6 hm6 hI6 H locs ls hP hD hS hl
        have hw := hw6 i3_6 i4_6 σ6 hI6
        refine lv_iload hx hb dX0_choose_46 (lv_at hl 2 rfl) ?_
        refine lv_if_lt (tgt := 71) hx hb dX0_choose_48 (by decide) (fun k7 => ?_) (fun k7 => ?_)
        · skip
          have hw := hw.1 k7
          exact vx_ret (m_v ⟨rfl, hw⟩ hx hb hr hlocks hP hD hS (Nat.le_of_ble_eq_true rfl) (Nat.le_of_ble_eq_true rfl) dX0_choose_71)
        · skip
          have hw := hw.2 k7
          refine lv_aload_n hx hb dX0_choose_51 rfl (lv_at hl 0 rfl) ?_
          refine k_get (ci := 2) (C := RX0) (T := TX0) (N := 11) (v := .ref (ad 39)) hx hb hG inX0 hown hK hP 38 wl_38 rfl 4 (by decide) gw235 rfl dX0_choose_52 ?_
          refine lv_iload hx hb dX0_choose_55 (lv_at hl 2 rfl) ?_
          refine lv_iload_n hx hb dX0_choose_57 rfl (lv_at hl 1 rfl) ?_
          refine lv_iconst (v := 5) hx hb dX0_choose_58 (by decide) ?_
          refine k_irem (v := iRem i3_6 5) hx hb dX0_choose_59 (by decide +kernel) rfl ?_
          obtain ⟨hc8, hw⟩ := hw
          obtain ⟨σ9, eσ9⟩ : ∃ z : Sg, z = sA σ6 18 (ix i4_6) (iRem i3_6 5) := ⟨_, rfl⟩
          have hw := hw σ9 eσ9
          refine k_iast (ws1 := WL ad cA σ9) hx hb hK hP hD hS 39 wl_39 (ws_39 eσ9) hc8 dX0_choose_60 (fun H locs hP hD hS => ?_)
          refine lv_iload_n hx hb dX0_choose_61 rfl (lv_at hl 1 rfl) ?_
          refine lv_iconst (v := 5) hx hb dX0_choose_62 (by decide) ?_
          refine k_idiv (v := i3_6 / 5) hx hb dX0_choose_63 (by decide +kernel) rfl ?_
          obtain ⟨v10, ev10⟩ : ∃ z : Int32, z = i3_6 / 5 := ⟨_, rfl⟩
          have hw := hw v10 ev10
          refine lv_istore_n (lv' := [(3, .int v10), (0, .ref (ad 38)), (4, .int i4_6)]) hx hb dX0_choose_64 rfl hl (by decide) (by subst ev10; rfl) (fun ls hl => ?_)
          refine lv_iinc (v := i4_6 + (-1)) (lv' := [(4, .int (i4_6 + (-1))), (3, .int v10), (0, .ref (ad 38))]) hx hb dX0_choose_65 hl (k := 2) rfl rfl (by decide) rfl (fun ls hl => ?_)
          refine lv_goto (tgt := 46) hx hb dX0_choose_68 (by decide) ?_
          exact ih6 v10 (i4_6 + (-1)) σ9 (Nat.lt_of_lt_of_le hw.2 (Nat.le_of_lt_succ hm6)) hw.1 _ _ ls hP hD hS (lv_sub hl [2, 1, 0] rfl)
    · skip
      have hw := hw.2 k3
      exact vx_ret (m_v ⟨rfl, hw⟩ hx hb hr hlocks hP hD hS (Nat.le_of_ble_eq_true rfl) (Nat.le_of_ble_eq_true rfl) dX0_choose_24)
  · skip
    have hw := hw.2 (fun q9 => k1 (lc_eq.mpr q9))
    refine lv_iconst (v := 1) hx hb dX0_choose_9 (by decide) ?_
    refine lv_goto (tgt := 14) hx hb dX0_choose_10 (by decide) ?_
    obtain ⟨σ11, eσ11⟩ : ∃ z : Sg, z = sI σ 7 1 := ⟨_, rfl⟩
    have hw := hw σ11 eσ11
    refine k_put (ci := 2) (C := RX0) (T := TX0) (N := 11) (v := .int 1) (ws1 := WL ad cA σ11) hx hb hG inX0 tyX0 tyX0_ok nmX0 hown hK hP hD hS 38 wl_38 rfl 2 (by decide) gw231 rfl ⟨rfl, rfl⟩ (ws_38_2 eσ11) (Nat.le_of_ble_eq_true rfl) dX0_choose_14 (fun H locs hP hD hS => ?_)
    refine lv_aload_n hx hb dX0_choose_17 rfl (lv_at hl 0 rfl) ?_
    refine k_get (ci := 2) (C := RX0) (T := TX0) (N := 11) (v := .int (gI σ11 7)) hx hb hG inX0 hown hK hP 38 wl_38 rfl 2 (by decide) gw231 rfl dX0_choose_18 ?_
    refine lv_if_ne (tgt := 25) hx hb dX0_choose_21 (by decide) (fun k12 => ?_) (fun k12 => ?_)
    · skip
      have hw := hw.1 k12
      refine lv_aload_n hx hb dX0_choose_25 rfl (lv_at hl 0 rfl) ?_
      refine lv_lload_n hx hb dX0_choose_26 rfl (lv_at hl 1 rfl) ?_
      refine lv_ldc2 hx hb hown (hG _ gw1074) dX0_choose_27 ?_
      refine k_ldiv (v := p1 / 1953125) hx hb dX0_choose_30 (by decide +kernel) rfl ?_
      refine lv_l2i (v := (p1 / 1953125).toInt32) hx hb dX0_choose_31 rfl ?_
      obtain ⟨σ13, eσ13⟩ : ∃ z : Sg, z = sI σ11 8 ((p1 / 1953125).toInt32) := ⟨_, rfl⟩
      have hw := hw σ13 eσ13
      refine k_put (ci := 2) (C := RX0) (T := TX0) (N := 11) (v := .int ((p1 / 1953125).toInt32)) (ws1 := WL ad cA σ13) hx hb hG inX0 tyX0 tyX0_ok nmX0 hown hK hP hD hS 38 wl_38 rfl 3 (by decide) gw233 rfl ⟨rfl, rfl⟩ (ws_38_3 eσ13) (Nat.le_of_ble_eq_true rfl) dX0_choose_32 (fun H locs hP hD hS => ?_)
      refine lv_lload_n hx hb dX0_choose_35 rfl (lv_at hl 1 rfl) ?_
      refine lv_ldc2 hx hb hown (hG _ gw1074) dX0_choose_36 ?_
      refine k_lrem (v := lRem p1 1953125) hx hb dX0_choose_39 (by decide +kernel) rfl ?_
      refine lv_l2i (v := (lRem p1 1953125).toInt32) hx hb dX0_choose_40 rfl ?_
      obtain ⟨v14, ev14⟩ : ∃ z : Int32, z = (lRem p1 1953125).toInt32 := ⟨_, rfl⟩
      have hw := hw v14 ev14
      refine lv_istore_n (lv' := [(3, .int v14), (0, .ref (ad 38)), (1, .long p1)]) hx hb dX0_choose_41 rfl hl (by decide) (by subst ev14; rfl) (fun ls hl => ?_)
      refine lv_bipush (v := 8) hx hb dX0_choose_42 (by decide) ?_
      refine lv_istore (lv' := [(4, .int 8), (3, .int v14), (0, .ref (ad 38)), (1, .long p1)]) hx hb dX0_choose_44 hl (by decide) rfl (fun ls hl => ?_)
      obtain ⟨I15, μ15, hI15, hw15⟩ := hw
      have hl : lv_has ls 5 [(0, .ref (ad 38)), (3, .int v14), (4, .int 8)] := lv_sub hl [2, 1, 0] rfl
      suffices key15 : ∀ (n15 : Nat) (i3_15 : Int32) (i4_15 : Int32) (σ15 : Sg), μ15 i3_15 i4_15 σ15 < n15 → I15 i3_15 i4_15 σ15 → ∀ (H : Heap) (locs : List Loc) (ls : Array Slot), va_P D vwCl (WL ad cA σ15) H → va_D A (WL ad cA σ15) → va_S A s.heap H locs → lv_has ls 5 [(0, .ref (ad 38)), (3, .int i3_15), (4, .int i4_15)] → W p l e (RM 0 0 0 0) s m args below meth c H locs (0) (0) (vx_MQ below (QM D ad cA A (fun v σ' => v = none ∧ Q σ')) (XM D ad cA A (fun _ _ => False)) args s (RM 0 0 0 0).cells (RM 0 0 0 0).slots A) (F0 m 46 ls []) from key15 _ _ _ _ (Nat.lt_succ_self _) hI15 _ _ ls hP hD hS hl
      clear hP hD hS hl
      intro n15
      induction n15 with
      | zero => intro _ _ _ h; exact absurd h (Nat.not_lt_zero _)
      | succ n15 ih15 =>
        intro i3_15 i4_15 σ15 hm15 hI15 H locs ls hP hD hS hl
        have hw := hw15 i3_15 i4_15 σ15 hI15
        refine lv_iload hx hb dX0_choose_46 (lv_at hl 2 rfl) ?_
        refine lv_if_lt (tgt := 71) hx hb dX0_choose_48 (by decide) (fun k16 => ?_) (fun k16 => ?_)
        · skip
          have hw := hw.1 k16
          exact vx_ret (m_v ⟨rfl, hw⟩ hx hb hr hlocks hP hD hS (Nat.le_of_ble_eq_true rfl) (Nat.le_of_ble_eq_true rfl) dX0_choose_71)
        · skip
          have hw := hw.2 k16
          refine lv_aload_n hx hb dX0_choose_51 rfl (lv_at hl 0 rfl) ?_
          refine k_get (ci := 2) (C := RX0) (T := TX0) (N := 11) (v := .ref (ad 39)) hx hb hG inX0 hown hK hP 38 wl_38 rfl 4 (by decide) gw235 rfl dX0_choose_52 ?_
          refine lv_iload hx hb dX0_choose_55 (lv_at hl 2 rfl) ?_
          refine lv_iload_n hx hb dX0_choose_57 rfl (lv_at hl 1 rfl) ?_
          refine lv_iconst (v := 5) hx hb dX0_choose_58 (by decide) ?_
          refine k_irem (v := iRem i3_15 5) hx hb dX0_choose_59 (by decide +kernel) rfl ?_
          obtain ⟨hc17, hw⟩ := hw
          obtain ⟨σ18, eσ18⟩ : ∃ z : Sg, z = sA σ15 18 (ix i4_15) (iRem i3_15 5) := ⟨_, rfl⟩
          have hw := hw σ18 eσ18
          refine k_iast (ws1 := WL ad cA σ18) hx hb hK hP hD hS 39 wl_39 (ws_39 eσ18) hc17 dX0_choose_60 (fun H locs hP hD hS => ?_)
          refine lv_iload_n hx hb dX0_choose_61 rfl (lv_at hl 1 rfl) ?_
          refine lv_iconst (v := 5) hx hb dX0_choose_62 (by decide) ?_
          refine k_idiv (v := i3_15 / 5) hx hb dX0_choose_63 (by decide +kernel) rfl ?_
          obtain ⟨v19, ev19⟩ : ∃ z : Int32, z = i3_15 / 5 := ⟨_, rfl⟩
          have hw := hw v19 ev19
          refine lv_istore_n (lv' := [(3, .int v19), (0, .ref (ad 38)), (4, .int i4_15)]) hx hb dX0_choose_64 rfl hl (by decide) (by subst ev19; rfl) (fun ls hl => ?_)
          refine lv_iinc (v := i4_15 + (-1)) (lv' := [(4, .int (i4_15 + (-1))), (3, .int v19), (0, .ref (ad 38))]) hx hb dX0_choose_65 hl (k := 2) rfl rfl (by decide) rfl (fun ls hl => ?_)
          refine lv_goto (tgt := 46) hx hb dX0_choose_68 (by decide) ?_
          exact ih15 v19 (i4_15 + (-1)) σ18 (Nat.lt_of_lt_of_le hw.2 (Nat.le_of_lt_succ hm15)) hw.1 _ _ ls hP hD hS (lv_sub hl [2, 1, 0] rfl)
    · skip
      have hw := hw.2 k12
      exact vx_ret (m_v ⟨rfl, hw⟩ hx hb hr hlocks hP hD hS (Nat.le_of_ble_eq_true rfl) (Nat.le_of_ble_eq_true rfl) dX0_choose_24)

set_option maxHeartbeats 4000000 in
set_option maxRecDepth 100000 in
theorem m_X0_fitting (l : Launch) (hfl : l.stackTraces = false) (D : va_G) (ad : Nat → Nat) (cA : Nat → ClassId) (g : gv_T) (p1 : Int32) (σ : Sg) (Q : Int32 → Prop) (hw : w_X0_fitting p1 σ Q) : MC l yX0_fitting cX0_fitting 5 (some .int) (RM 0 0 0 0) D ad cA g [.ref (ad 38), .int p1, .ref (ad 1)] σ (fun v σ' => ∃ r : Int32, v = some (.int r) ∧ σ' = σ ∧ Q r) (fun _ _ => False) := by
  refine MC.of (plainFor_of_name (by decide +kernel)) (Nat.le_of_ble_eq_true rfl) ?_
  intro p e s m args below meth c A ls hx hb hr hml hown hG hlocks htab hA hS hP hK hD hGV hl
  have hown : s.vm.findClass RX0 = some m.cls := hown
  have hl : lv_has ls 5 [(0, .ref (ad 38)), (1, .int p1), (2, .ref (ad 1))] := hl
  have hSF : CF p m c cX0_fitting 5 s args RX0 := ⟨hx, hb, hml, hown, hG⟩
  refine lv_iconst (v := 0) hx hb dX0_fitting_0 (by decide) ?_
  refine lv_istore_n (lv' := [(3, .int 0), (0, .ref (ad 38)), (1, .int p1), (2, .ref (ad 1))]) hx hb dX0_fitting_1 rfl hl (by decide) rfl (fun ls hl => ?_)
  refine lv_iconst (v := 0) hx hb dX0_fitting_2 (by decide) ?_
  refine lv_istore (lv' := [(4, .int 0), (3, .int 0), (0, .ref (ad 38)), (1, .int p1), (2, .ref (ad 1))]) hx hb dX0_fitting_3 hl (by decide) rfl (fun ls hl => ?_)
  obtain ⟨I1, μ1, hI1, hw1⟩ := hw
  have hl : lv_has ls 5 [(0, .ref (ad 38)), (1, .int p1), (2, .ref (ad 1)), (3, .int 0), (4, .int 0)] := lv_sub hl [2, 3, 4, 1, 0] rfl
  suffices key1 : ∀ (n1 : Nat) (i3_1 : Int32) (i4_1 : Int32), μ1 i3_1 i4_1 < n1 → I1 i3_1 i4_1 → ∀ (H : Heap) (locs : List Loc) (ls : Array Slot), va_P D vwCl (WL ad cA σ) H → va_D A (WL ad cA σ) → va_S A s.heap H locs → lv_has ls 5 [(0, .ref (ad 38)), (1, .int p1), (2, .ref (ad 1)), (3, .int i3_1), (4, .int i4_1)] → W p l e (RM 0 0 0 0) s m args below meth c H locs (0) (0) (vx_MQ below (QM D ad cA A (fun v σ' => ∃ r : Int32, v = some (.int r) ∧ σ' = σ ∧ Q r)) (XM D ad cA A (fun _ _ => False)) args s (RM 0 0 0 0).cells (RM 0 0 0 0).slots A) (F0 m 5 ls []) from key1 _ _ _ (Nat.lt_succ_self _) hI1 _ _ ls hP hD hS hl
  clear hP hD hS hl
  intro n1
  induction n1 with
  | zero => intro _ _ h; exact absurd h (Nat.not_lt_zero _)
  | succ n1 ih1 =>
    intro i3_1 i4_1 hm1 hI1 H locs ls hP hD hS hl
    have hw := hw1 i3_1 i4_1 hI1
    refine lv_iload hx hb dX0_fitting_5 (lv_at hl 4 rfl) ?_
    refine lv_aload_n hx hb dX0_fitting_7 rfl (lv_at hl 2 rfl) ?_
    refine k_get (ci := 4) (C := RX2) (T := TX2) (N := 12) (v := .int (gI σ 1)) hx hb hG inX2 hown hK hP 1 wl_1 rfl 1 (by decide) gw74 rfl dX0_fitting_8 ?_
    refine lv_icmp_ge (tgt := 59) hx hb dX0_fitting_11 (by decide) (fun k2 => ?_) (fun k2 => ?_)
    · skip
      have hw := hw.1 k2
      refine lv_iload_n hx hb dX0_fitting_59 rfl (lv_at hl 3 rfl) ?_
      exact vx_ret (m_i ⟨_, rfl, rfl, hw⟩ hx hb hr hlocks rfl hP hD hS (Nat.le_of_ble_eq_true rfl) (Nat.le_of_ble_eq_true rfl) dX0_fitting_60)
    · skip
      have hw := hw.2 k2
      refine lv_aload_n hx hb dX0_fitting_14 rfl (lv_at hl 2 rfl) ?_
      refine k_get (ci := 4) (C := RX2) (T := TX2) (N := 12) (v := .ref (ad 8)) hx hb hG inX2 hown hK hP 1 wl_1 rfl 8 (by decide) gw85 rfl dX0_fitting_15 ?_
      refine lv_iload hx hb dX0_fitting_18 (lv_at hl 4 rfl) ?_
      obtain ⟨hc3, hw⟩ := hw
      refine k_iald (v := gA σ 6 (ix i4_1)) hx hb hK hP 8 wl_8 (ix i4_1) rfl rfl hc3 dX0_fitting_20 ?_
      refine lv_aload_n hx hb dX0_fitting_21 rfl (lv_at hl 0 rfl) ?_
      refine k_get (ci := 2) (C := RX0) (T := TX0) (N := 11) (v := .ref (ad 41)) hx hb hG inX0 hown hK hP 38 wl_38 rfl 6 (by decide) gw238 rfl dX0_fitting_22 ?_
      refine lv_iload_n hx hb dX0_fitting_25 rfl (lv_at hl 1 rfl) ?_
      obtain ⟨hc4, hw⟩ := hw
      refine k_iald (v := gA σ 20 (ix p1)) hx hb hK hP 41 wl_41 (ix p1) rfl rfl hc4 dX0_fitting_26 ?_
      refine lv_icmp_gt (tgt := 53) hx hb dX0_fitting_27 (by decide) (fun k5 => ?_) (fun k5 => ?_)
      · skip
        have hw := hw.1 k5
        refine lv_iinc (v := i4_1 + 1) (lv' := [(4, .int (i4_1 + 1)), (0, .ref (ad 38)), (1, .int p1), (2, .ref (ad 1)), (3, .int i3_1)]) hx hb dX0_fitting_53 hl (k := 4) rfl rfl (by decide) rfl (fun ls hl => ?_)
        refine lv_goto (tgt := 5) hx hb dX0_fitting_56 (by decide) ?_
        exact ih1 i3_1 (i4_1 + 1) (Nat.lt_of_lt_of_le hw.2 (Nat.le_of_lt_succ hm1)) hw.1 _ _ ls hP hD hS (lv_sub hl [1, 2, 3, 4, 0] rfl)
      · skip
        have hw := hw.2 k5
        refine lv_aload_n hx hb dX0_fitting_30 rfl (lv_at hl 2 rfl) ?_
        refine k_get (ci := 4) (C := RX2) (T := TX2) (N := 12) (v := .ref (ad 9)) hx hb hG inX2 hown hK hP 1 wl_1 rfl 9 (by decide) gw88 rfl dX0_fitting_31 ?_
        refine lv_iload hx hb dX0_fitting_34 (lv_at hl 4 rfl) ?_
        obtain ⟨hc6, hw⟩ := hw
        refine k_iald (v := gA σ 7 (ix i4_1)) hx hb hK hP 9 wl_9 (ix i4_1) rfl rfl hc6 dX0_fitting_36 ?_
        refine lv_aload_n hx hb dX0_fitting_37 rfl (lv_at hl 0 rfl) ?_
        refine k_get (ci := 2) (C := RX0) (T := TX0) (N := 11) (v := .ref (ad 42)) hx hb hG inX0 hown hK hP 38 wl_38 rfl 7 (by decide) gw239 rfl dX0_fitting_38 ?_
        refine lv_iload_n hx hb dX0_fitting_41 rfl (lv_at hl 1 rfl) ?_
        obtain ⟨hc7, hw⟩ := hw
        refine k_iald (v := gA σ 21 (ix p1)) hx hb hK hP 42 wl_42 (ix p1) rfl rfl hc7 dX0_fitting_42 ?_
        refine lv_icmp_gt (tgt := 53) hx hb dX0_fitting_43 (by decide) (fun k8 => ?_) (fun k8 => ?_)
        · skip
          have hw := hw.1 k8
          refine lv_iinc (v := i4_1 + 1) (lv' := [(4, .int (i4_1 + 1)), (0, .ref (ad 38)), (1, .int p1), (2, .ref (ad 1)), (3, .int i3_1)]) hx hb dX0_fitting_53 hl (k := 4) rfl rfl (by decide) rfl (fun ls hl => ?_)
          refine lv_goto (tgt := 5) hx hb dX0_fitting_56 (by decide) ?_
          exact ih1 i3_1 (i4_1 + 1) (Nat.lt_of_lt_of_le hw.2 (Nat.le_of_lt_succ hm1)) hw.1 _ _ ls hP hD hS (lv_sub hl [1, 2, 3, 4, 0] rfl)
        · skip
          have hw := hw.2 k8
          refine lv_iload_n hx hb dX0_fitting_46 rfl (lv_at hl 3 rfl) ?_
          refine lv_iconst (v := 1) hx hb dX0_fitting_47 (by decide) ?_
          refine lv_iload hx hb dX0_fitting_48 (lv_at hl 4 rfl) ?_
          refine k_ishl (v := iShl 1 i4_1) hx hb dX0_fitting_50 rfl ?_
          refine k_ior (v := i3_1 ||| (iShl 1 i4_1)) hx hb dX0_fitting_51 rfl ?_
          obtain ⟨v9, ev9⟩ : ∃ z : Int32, z = i3_1 ||| (iShl 1 i4_1) := ⟨_, rfl⟩
          have hw := hw v9 ev9
          refine lv_istore_n (lv' := [(3, .int v9), (0, .ref (ad 38)), (1, .int p1), (2, .ref (ad 1)), (4, .int i4_1)]) hx hb dX0_fitting_52 rfl hl (by decide) (by subst ev9; rfl) (fun ls hl => ?_)
          refine lv_iinc (v := i4_1 + 1) (lv' := [(4, .int (i4_1 + 1)), (3, .int v9), (0, .ref (ad 38)), (1, .int p1), (2, .ref (ad 1))]) hx hb dX0_fitting_53 hl (k := 4) rfl rfl (by decide) rfl (fun ls hl => ?_)
          refine lv_goto (tgt := 5) hx hb dX0_fitting_56 (by decide) ?_
          exact ih1 v9 (i4_1 + 1) (Nat.lt_of_lt_of_le hw.2 (Nat.le_of_lt_succ hm1)) hw.1 _ _ ls hP hD hS (lv_sub hl [2, 3, 4, 1, 0] rfl)

set_option maxHeartbeats 4000000 in
set_option maxRecDepth 100000 in
theorem m_X0_offer (l : Launch) (hfl : l.stackTraces = false) (D : va_G) (ad : Nat → Nat) (cA : Nat → ClassId) (g : gv_T) (p1 : Int32) (p2 : Int32) (p3 : Int32) (σ : Sg) (Q : Sg → Prop) (hw : w_X0_offer p1 p2 p3 σ Q) : MC l yX0_offer cX0_offer 11 none (RM 1 0 0 17) D ad cA g [.ref (ad 38), .int p1, .int p2, .int p3] σ (fun v σ' => v = none ∧ Q σ') (fun _ _ => False) := by
  refine MC.of (plainFor_of_name (by decide +kernel)) (Nat.le_of_ble_eq_true rfl) ?_
  intro p e s m args below meth c A ls hx hb hr hml hown hG hlocks htab hA hS hP hK hD hGV hl
  have hown : s.vm.findClass RX0 = some m.cls := hown
  have hl : lv_has ls 11 [(0, .ref (ad 38)), (1, .int p1), (2, .int p2), (3, .int p3)] := hl
  have hSF : CF p m c cX0_offer 11 s args RX0 := ⟨hx, hb, hml, hown, hG⟩
  refine lv_iload_n hx hb dX0_offer_0 rfl (lv_at hl 2 rfl) ?_
  refine lv_iconst (v := 1) hx hb dX0_offer_1 (by decide) ?_
  refine k_isub (v := p2 - 1) hx hb dX0_offer_2 rfl ?_
  obtain ⟨v1, ev1⟩ : ∃ z : Int32, z = p2 - 1 := ⟨_, rfl⟩
  have hw := hw v1 ev1
  refine lv_istore (lv' := [(4, .int v1), (0, .ref (ad 38)), (1, .int p1), (2, .int p2), (3, .int p3)]) hx hb dX0_offer_3 hl (by decide) (by subst ev1; rfl) (fun ls hl => ?_)
  obtain ⟨I2, μ2, hI2, hw2⟩ := hw
  have hl : lv_has ls 11 [(0, .ref (ad 38)), (1, .int p1), (3, .int p3), (4, .int v1)] := lv_sub hl [1, 2, 4, 0] rfl
  suffices key2 : ∀ (n2 : Nat) (i4_2 : Int32) (σ2 : Sg), μ2 i4_2 σ2 < n2 → I2 i4_2 σ2 → ∀ (H : Heap) (locs : List Loc) (ls : Array Slot), va_P D vwCl (WL ad cA σ2) H → va_D A (WL ad cA σ2) → va_S A s.heap H locs → lv_has ls 11 [(0, .ref (ad 38)), (1, .int p1), (3, .int p3), (4, .int i4_2)] → W p l e (RM 1 0 0 17) s m args below meth c H locs (0) (0) (vx_MQ below (QM D ad cA A (fun v σ' => v = none ∧ Q σ')) (XM D ad cA A (fun _ _ => False)) args s (RM 1 0 0 17).cells (RM 1 0 0 17).slots A) (F0 m 5 ls []) from key2 _ _ _ (Nat.lt_succ_self _) hI2 _ _ ls hP hD hS hl
  clear hP hD hS hl
  intro n2
  induction n2 with
  | zero => intro _ _ h; exact absurd h (Nat.not_lt_zero _)
  | succ n2 ih2 =>
    intro i4_2 σ2 hm2 hI2 H locs ls hP hD hS hl
    have hw := hw2 i4_2 σ2 hI2
    refine lv_iload hx hb dX0_offer_5 (lv_at hl 3 rfl) ?_
    refine lv_if_le (tgt := 130) hx hb dX0_offer_7 (by decide) (fun k3 => ?_) (fun k3 => ?_)
    · skip
      have hw := hw.1 k3
      exact vx_ret (m_v ⟨rfl, hw⟩ hx hb hr hlocks hP hD hS (Nat.le_of_ble_eq_true rfl) (Nat.le_of_ble_eq_true rfl) dX0_offer_130)
    · skip
      have hw := hw.2 k3
      refine lv_iload hx hb dX0_offer_10 (lv_at hl 3 rfl) ?_
      refine lv_iload_n hx hb dX0_offer_12 rfl (lv_at hl 2 rfl) ?_
      refine k_iand (v := i4_2 &&& p3) hx hb dX0_offer_13 rfl ?_
      obtain ⟨v4, ev4⟩ : ∃ z : Int32, z = i4_2 &&& p3 := ⟨_, rfl⟩
      have hw := hw v4 ev4
      refine lv_istore (lv' := [(5, .int v4), (0, .ref (ad 38)), (1, .int p1), (3, .int p3), (4, .int i4_2)]) hx hb dX0_offer_14 hl (by decide) (by subst ev4; rfl) (fun ls hl => ?_)
      refine lv_iload hx hb dX0_offer_16 (lv_at hl 0 rfl) ?_
      refine lv_istore (lv' := [(6, .int v4), (5, .int v4), (0, .ref (ad 38)), (1, .int p1), (3, .int p3), (4, .int i4_2)]) hx hb dX0_offer_18 hl (by decide) rfl (fun ls hl => ?_)
      obtain ⟨I5, μ5, hI5, hw5⟩ := hw
      have hl : lv_has ls 11 [(0, .ref (ad 38)), (1, .int p1), (3, .int p3), (4, .int i4_2), (5, .int v4), (6, .int v4)] := lv_sub hl [2, 3, 4, 5, 1, 0] rfl
      suffices key5 : ∀ (n5 : Nat) (i6_5 : Int32) (σ5 : Sg), μ5 i6_5 σ5 < n5 → I5 i6_5 σ5 → ∀ (H : Heap) (locs : List Loc) (ls : Array Slot), va_P D vwCl (WL ad cA σ5) H → va_D A (WL ad cA σ5) → va_S A s.heap H locs → lv_has ls 11 [(0, .ref (ad 38)), (1, .int p1), (3, .int p3), (4, .int i4_2), (5, .int v4), (6, .int i6_5)] → W p l e (RM 1 0 0 17) s m args below meth c H locs (0) (0) (vx_MQ below (QM D ad cA A (fun v σ' => v = none ∧ Q σ')) (XM D ad cA A (fun _ _ => False)) args s (RM 1 0 0 17).cells (RM 1 0 0 17).slots A) (F0 m 20 ls []) from key5 _ _ _ (Nat.lt_succ_self _) hI5 _ _ ls hP hD hS hl
      clear hP hD hS hl
      intro n5
      induction n5 with
      | zero => intro _ _ h; exact absurd h (Nat.not_lt_zero _)
      | succ n5 ih5 =>
        intro i6_5 σ5 hm5 hI5 H locs ls hP hD hS hl
        have hw := hw5 i6_5 σ5 hI5
        refine lv_iload hx hb dX0_offer_20 (lv_at hl 5 rfl) ?_
        refine lv_if_le (tgt := 124) hx hb dX0_offer_22 (by decide) (fun k6 => ?_) (fun k6 => ?_)
        · skip
          have hw := hw.1 k6
          refine lv_iinc (v := i4_2 + (-1)) (lv' := [(4, .int (i4_2 + (-1))), (0, .ref (ad 38)), (1, .int p1), (3, .int p3), (5, .int v4), (6, .int i6_5)]) hx hb dX0_offer_124 hl (k := 3) rfl rfl (by decide) rfl (fun ls hl => ?_)
          refine lv_goto (tgt := 5) hx hb dX0_offer_127 (by decide) ?_
          exact ih2 (i4_2 + (-1)) σ5 (Nat.lt_of_lt_of_le hw.2 (Nat.le_of_lt_succ hm2)) hw.1 _ _ ls hP hD hS (lv_sub hl [1, 2, 3, 0] rfl)
        · skip
          have hw := hw.2 k6
          refine lv_aload_n hx hb dX0_offer_25 rfl (lv_at hl 0 rfl) ?_
          refine k_get (ci := 2) (C := RX0) (T := TX0) (N := 11) (v := .ref (ad 45)) hx hb hG inX0 hown hK hP 38 wl_38 rfl 10 (by decide) gw242 rfl dX0_offer_26 ?_
          refine lv_iload hx hb dX0_offer_29 (lv_at hl 3 rfl) ?_
          refine lv_iload hx hb dX0_offer_31 (lv_at hl 5 rfl) ?_
          refine k_ixor (v := i4_2 ^^^ i6_5) hx hb dX0_offer_33 rfl ?_
          obtain ⟨hc7, hw⟩ := hw
          refine k_lald (v := gB σ5 11 (ix (i4_2 ^^^ i6_5))) hx hb hK hP 45 wl_45 (ix (i4_2 ^^^ i6_5)) rfl rfl hc7 dX0_offer_34 ?_
          obtain ⟨v8, ev8⟩ : ∃ z : Int64, z = gB σ5 11 (ix (i4_2 ^^^ i6_5)) := ⟨_, rfl⟩
          have hw := hw v8 ev8
          refine lv_lstore (lv' := [(7, .long v8), (0, .ref (ad 38)), (1, .int p1), (3, .int p3), (4, .int i4_2), (5, .int v4), (6, .int i6_5)]) hx hb dX0_offer_35 hl (by decide) (by subst ev8; rfl) (fun ls hl => ?_)
          refine lv_aload_n hx hb dX0_offer_37 rfl (lv_at hl 1 rfl) ?_
          refine k_get (ci := 2) (C := RX0) (T := TX0) (N := 11) (v := .ref (ad 43)) hx hb hG inX0 hown hK hP 38 wl_38 rfl 8 (by decide) gw240 rfl dX0_offer_38 ?_
          refine lv_iload hx hb dX0_offer_41 (lv_at hl 6 rfl) ?_
          obtain ⟨hc9, hw⟩ := hw
          refine k_iald (v := gA σ5 22 (ix i6_5)) hx hb hK hP 43 wl_43 (ix i6_5) rfl rfl hc9 dX0_offer_43 ?_
          refine lv_aload_n hx hb dX0_offer_44 rfl (lv_at hl 1 rfl) ?_
          refine k_get (ci := 2) (C := RX0) (T := TX0) (N := 11) (v := .ref (ad 40)) hx hb hG inX0 hown hK hP 38 wl_38 rfl 5 (by decide) gw237 rfl dX0_offer_45 ?_
          refine lv_iload_n hx hb dX0_offer_48 rfl (lv_at hl 2 rfl) ?_
          obtain ⟨hc10, hw⟩ := hw
          refine k_iald (v := gA σ5 19 (ix p1)) hx hb hK hP 40 wl_40 (ix p1) rfl rfl hc10 dX0_offer_49 ?_
          refine lv_icmp_gt (tgt := 112) hx hb dX0_offer_50 (by decide) (fun k11 => ?_) (fun k11 => ?_)
          · skip
            have hw := hw.1 k11
            refine lv_iload hx hb dX0_offer_112 (lv_at hl 6 rfl) ?_
            refine lv_iconst (v := 1) hx hb dX0_offer_114 (by decide) ?_
            refine k_isub (v := i6_5 - 1) hx hb dX0_offer_115 rfl ?_
            refine lv_iload hx hb dX0_offer_116 (lv_at hl 5 rfl) ?_
            refine k_iand (v := (i6_5 - 1) &&& v4) hx hb dX0_offer_118 rfl ?_
            obtain ⟨v12, ev12⟩ : ∃ z : Int32, z = (i6_5 - 1) &&& v4 := ⟨_, rfl⟩
            have hw := hw v12 ev12
            refine lv_istore (lv' := [(6, .int v12), (7, .long v8), (0, .ref (ad 38)), (1, .int p1), (3, .int p3), (4, .int i4_2), (5, .int v4)]) hx hb dX0_offer_119 hl (by decide) (by subst ev12; rfl) (fun ls hl => ?_)
            refine lv_goto (tgt := 20) hx hb dX0_offer_121 (by decide) ?_
            exact ih5 v12 σ5 (Nat.lt_of_lt_of_le hw.2 (Nat.le_of_lt_succ hm5)) hw.1 _ _ ls hP hD hS (lv_sub hl [2, 3, 4, 5, 6, 0] rfl)
          · skip
            have hw := hw.2 k11
            refine lv_lload hx hb dX0_offer_53 (lv_at hl 0 rfl) ?_
            refine lv_ldc2 hx hb hown (hG _ gw1065) dX0_offer_55 ?_
            refine k_lcmp (v := lg_cmp v8 4611686018427387904) hx hb dX0_offer_58 rfl ?_
            refine lv_if_ne (tgt := 65) hx hb dX0_offer_59 (by decide) (fun k13 => ?_) (fun k13 => ?_)
            · skip
              have hw := hw.1 (lc_ne.mp k13)
              refine lv_lload hx hb dX0_offer_65 (lv_at hl 0 rfl) ?_
              refine lv_aload_n hx hb dX0_offer_67 rfl (lv_at hl 1 rfl) ?_
              refine k_get (ci := 2) (C := RX0) (T := TX0) (N := 11) (v := .ref (ad 40)) hx hb hG inX0 hown hK hP 38 wl_38 rfl 5 (by decide) gw237 rfl dX0_offer_68 ?_
              refine lv_iload_n hx hb dX0_offer_71 rfl (lv_at hl 2 rfl) ?_
              obtain ⟨hc14, hw⟩ := hw
              refine k_iald (v := gA σ5 19 (ix p1)) hx hb hK hP 40 wl_40 (ix p1) rfl rfl hc14 dX0_offer_72 ?_
              refine lv_i2l (v := (gA σ5 19 (ix p1)).toInt64) hx hb dX0_offer_73 rfl ?_
              refine lv_ldc2 hx hb hown (hG _ gw1074) dX0_offer_74 ?_
              refine k_lmul (v := ((gA σ5 19 (ix p1)).toInt64) * 1953125) hx hb dX0_offer_77 rfl ?_
              refine k_ladd (v := v8 + (((gA σ5 19 (ix p1)).toInt64) * 1953125)) hx hb dX0_offer_78 rfl ?_
              refine lv_iload_n hx hb dX0_offer_79 rfl (lv_at hl 2 rfl) ?_
              refine lv_i2l (v := p1.toInt64) hx hb dX0_offer_80 rfl ?_
              refine lv_aload_n hx hb dX0_offer_81 rfl (lv_at hl 1 rfl) ?_
              refine k_get (ci := 2) (C := RX0) (T := TX0) (N := 11) (v := .ref (ad 44)) hx hb hG inX0 hown hK hP 38 wl_38 rfl 9 (by decide) gw241 rfl dX0_offer_82 ?_
              refine lv_iload hx hb dX0_offer_85 (lv_at hl 6 rfl) ?_
              obtain ⟨hc15, hw⟩ := hw
              refine k_iald (v := gA σ5 23 (ix i6_5)) hx hb hK hP 44 wl_44 (ix i6_5) rfl rfl hc15 dX0_offer_87 ?_
              refine lv_i2l (v := (gA σ5 23 (ix i6_5)).toInt64) hx hb dX0_offer_88 rfl ?_
              refine k_lmul (v := p1.toInt64 * ((gA σ5 23 (ix i6_5)).toInt64)) hx hb dX0_offer_89 rfl ?_
              refine k_ladd (v := (v8 + (((gA σ5 19 (ix p1)).toInt64) * 1953125)) + (p1.toInt64 * ((gA σ5 23 (ix i6_5)).toInt64))) hx hb dX0_offer_90 rfl ?_
              obtain ⟨v16, ev16⟩ : ∃ z : Int64, z = (v8 + (((gA σ5 19 (ix p1)).toInt64) * 1953125)) + (p1.toInt64 * ((gA σ5 23 (ix i6_5)).toInt64)) := ⟨_, rfl⟩
              have hw := hw v16 ev16
              refine lv_lstore (lv' := [(9, .long v16), (7, .long v8), (0, .ref (ad 38)), (1, .int p1), (3, .int p3), (4, .int i4_2), (5, .int v4), (6, .int i6_5)]) hx hb dX0_offer_91 hl (by decide) (by subst ev16; rfl) (fun ls hl => ?_)
              refine lv_aload_n hx hb dX0_offer_93 rfl (lv_at hl 2 rfl) ?_
              refine k_get (ci := 2) (C := RX0) (T := TX0) (N := 11) (v := .ref (ad 45)) hx hb hG inX0 hown hK hP 38 wl_38 rfl 10 (by decide) gw242 rfl dX0_offer_94 ?_
              refine lv_iload hx hb dX0_offer_97 (lv_at hl 5 rfl) ?_
              refine lv_aload_n hx hb dX0_offer_99 rfl (lv_at hl 2 rfl) ?_
              refine k_get (ci := 2) (C := RX0) (T := TX0) (N := 11) (v := .ref (ad 45)) hx hb hG inX0 hown hK hP 38 wl_38 rfl 10 (by decide) gw242 rfl dX0_offer_100 ?_
              refine lv_iload hx hb dX0_offer_103 (lv_at hl 5 rfl) ?_
              obtain ⟨hc17, hw⟩ := hw
              refine k_lald (v := gB σ5 11 (ix i4_2)) hx hb hK hP 45 wl_45 (ix i4_2) rfl rfl hc17 dX0_offer_105 ?_
              refine lv_lload hx hb dX0_offer_106 (lv_at hl 0 rfl) ?_
              refine k_mminl (v := mminl (gB σ5 11 (ix i4_2)) v16) hx hb (hml.trans hl.1.symm) hown (hG _ gw1075) (hG _ gw1076) (hG _ gw41) (hG _ gw1077) (Nat.le_of_ble_eq_true rfl) (Nat.le_of_ble_eq_true rfl) (Nat.le_of_ble_eq_true rfl) (Nat.le_of_ble_eq_true rfl) dX0_offer_108 rfl ?_
              obtain ⟨hc18, hw⟩ := hw
              obtain ⟨σ19, eσ19⟩ : ∃ z : Sg, z = sB σ5 11 (ix i4_2) (mminl (gB σ5 11 (ix i4_2)) v16) := ⟨_, rfl⟩
              have hw := hw σ19 eσ19
              refine k_last (ws1 := WL ad cA σ19) hx hb hK hP hD hS 45 wl_45 (ws_45 eσ19) hc18 dX0_offer_111 (fun H locs hP hD hS => ?_)
              refine lv_iload hx hb dX0_offer_112 (lv_at hl 7 rfl) ?_
              refine lv_iconst (v := 1) hx hb dX0_offer_114 (by decide) ?_
              refine k_isub (v := i6_5 - 1) hx hb dX0_offer_115 rfl ?_
              refine lv_iload hx hb dX0_offer_116 (lv_at hl 6 rfl) ?_
              refine k_iand (v := (i6_5 - 1) &&& v4) hx hb dX0_offer_118 rfl ?_
              obtain ⟨v20, ev20⟩ : ∃ z : Int32, z = (i6_5 - 1) &&& v4 := ⟨_, rfl⟩
              have hw := hw v20 ev20
              refine lv_istore (lv' := [(6, .int v20), (9, .long v16), (7, .long v8), (0, .ref (ad 38)), (1, .int p1), (3, .int p3), (4, .int i4_2), (5, .int v4)]) hx hb dX0_offer_119 hl (by decide) (by subst ev20; rfl) (fun ls hl => ?_)
              refine lv_goto (tgt := 20) hx hb dX0_offer_121 (by decide) ?_
              exact ih5 v20 σ19 (Nat.lt_of_lt_of_le hw.2 (Nat.le_of_lt_succ hm5)) hw.1 _ _ ls hP hD hS (lv_sub hl [3, 4, 5, 6, 7, 0] rfl)
            · skip
              have hw := hw.2 (lc_eq.mp k13)
              refine lv_goto (tgt := 112) hx hb dX0_offer_62 (by decide) ?_
              refine lv_iload hx hb dX0_offer_112 (lv_at hl 6 rfl) ?_
              refine lv_iconst (v := 1) hx hb dX0_offer_114 (by decide) ?_
              refine k_isub (v := i6_5 - 1) hx hb dX0_offer_115 rfl ?_
              refine lv_iload hx hb dX0_offer_116 (lv_at hl 5 rfl) ?_
              refine k_iand (v := (i6_5 - 1) &&& v4) hx hb dX0_offer_118 rfl ?_
              obtain ⟨v21, ev21⟩ : ∃ z : Int32, z = (i6_5 - 1) &&& v4 := ⟨_, rfl⟩
              have hw := hw v21 ev21
              refine lv_istore (lv' := [(6, .int v21), (7, .long v8), (0, .ref (ad 38)), (1, .int p1), (3, .int p3), (4, .int i4_2), (5, .int v4)]) hx hb dX0_offer_119 hl (by decide) (by subst ev21; rfl) (fun ls hl => ?_)
              refine lv_goto (tgt := 20) hx hb dX0_offer_121 (by decide) ?_
              exact ih5 v21 σ5 (Nat.lt_of_lt_of_le hw.2 (Nat.le_of_lt_succ hm5)) hw.1 _ _ ls hP hD hS (lv_sub hl [2, 3, 4, 5, 6, 0] rfl)

set_option maxHeartbeats 4000000 in
set_option maxRecDepth 100000 in
theorem m_X0_find (l : Launch) (hfl : l.stackTraces = false) (D : va_G) (ad : Nat → Nat) (cA : Nat → ClassId) (g : gv_T) (σ : Sg) (Q : Sg → Prop) (hw : w_X0_find  σ Q) : MC l yX0_find cX0_find 5 none (RM 3 0 0 77) D ad cA g [.ref (ad 38), .ref (ad 1), .ref (ad 32)] σ (fun v σ' => v = none ∧ Q σ') (fun _ _ => False) := by
  refine MC.of (plainFor_of_name (by decide +kernel)) (Nat.le_of_ble_eq_true rfl) ?_
  intro p e s m args below meth c A ls hx hb hr hml hown hG hlocks htab hA hS hP hK hD hGV hl
  have hown : s.vm.findClass RX0 = some m.cls := hown
  have hl : lv_has ls 5 [(0, .ref (ad 38)), (1, .ref (ad 1)), (2, .ref (ad 32))] := hl
  have hSF : CF p m c cX0_find 5 s args RX0 := ⟨hx, hb, hml, hown, hG⟩
  refine lv_aload_n hx hb dX0_find_0 rfl (lv_at hl 0 rfl) ?_
  refine k_get (ci := 2) (C := RX0) (T := TX0) (N := 11) (v := .int (gI σ 6)) hx hb hG inX0 hown hK hP 38 wl_38 rfl 1 (by decide) gw230 rfl dX0_find_1 ?_
  refine lv_if_eq (tgt := 8) hx hb dX0_find_4 (by decide) (fun k1 => ?_) (fun k1 => ?_)
  · skip
    have hw := hw.1 k1
    refine lv_iconst (v := 1) hx hb dX0_find_8 (by decide) ?_
    refine lv_aload_n hx hb dX0_find_9 rfl (lv_at hl 1 rfl) ?_
    refine k_get (ci := 4) (C := RX2) (T := TX2) (N := 12) (v := .int (gI σ 1)) hx hb hG inX2 hown hK hP 1 wl_1 rfl 1 (by decide) gw74 rfl dX0_find_10 ?_
    refine k_ishl (v := iShl 1 (gI σ 1)) hx hb dX0_find_13 rfl ?_
    obtain ⟨v2, ev2⟩ : ∃ z : Int32, z = iShl 1 (gI σ 1) := ⟨_, rfl⟩
    have hw := hw v2 ev2
    refine lv_istore_n (lv' := [(3, .int v2), (0, .ref (ad 38)), (1, .ref (ad 1)), (2, .ref (ad 32))]) hx hb dX0_find_14 rfl hl (by decide) (by subst ev2; rfl) (fun ls hl => ?_)
    refine lv_aload_n hx hb dX0_find_15 rfl (lv_at hl 1 rfl) ?_
    refine lv_aload_n hx hb dX0_find_16 rfl (lv_at hl 2 rfl) ?_
    refine lv_aload_n hx hb dX0_find_17 rfl (lv_at hl 3 rfl) ?_
    refine mc_V hSF hl.1 hP hD hS hA hK hGV (m_X0_measure l hfl D ad cA g  σ _ hw) goV_X0_56 pd_X0_measure ⟨(Nat.le_of_ble_eq_true rfl), (Nat.le_of_ble_eq_true rfl)⟩ ⟨(Nat.le_of_ble_eq_true rfl), (Nat.le_of_ble_eq_true rfl)⟩ (va_recv hK hP (ci := 2) (q0 := 38) rfl wl_38) dX0_find_18 rfl (Nat.le_of_ble_eq_true rfl) (fun v9 σ4 H locs hq hP hD hS => ?_) (fun _ _ _ _ _ _ h => h.elim)
    obtain ⟨hv9, hw⟩ := hq
    subst hv9
    refine W.eq (g2 := F0 m 21 ls []) rfl ?_
    refine W.widen (k := 0) (n := 0) (Nat.le_refl _) (Nat.le_refl _) ?_
    refine lv_iconst (v := 0) hx hb dX0_find_21 (by decide) ?_
    refine lv_istore (lv' := [(4, .int 0), (3, .int v2), (0, .ref (ad 38)), (1, .ref (ad 1)), (2, .ref (ad 32))]) hx hb dX0_find_22 hl (by decide) rfl (fun ls hl => ?_)
    obtain ⟨I5, μ5, hI5, hw5⟩ := hw
    have hl : lv_has ls 5 [(0, .ref (ad 38)), (1, .ref (ad 1)), (3, .int v2), (4, .int 0)] := lv_sub hl [2, 3, 1, 0] rfl
    suffices key5 : ∀ (n5 : Nat) (i4_5 : Int32) (σ5 : Sg), μ5 i4_5 σ5 < n5 → I5 i4_5 σ5 → ∀ (H : Heap) (locs : List Loc) (ls : Array Slot), va_P D vwCl (WL ad cA σ5) H → va_D A (WL ad cA σ5) → va_S A s.heap H locs → lv_has ls 5 [(0, .ref (ad 38)), (1, .ref (ad 1)), (3, .int v2), (4, .int i4_5)] → W p l e (RM 3 0 0 77) s m args below meth c H locs (0) (0) (vx_MQ below (QM D ad cA A (fun v σ' => v = none ∧ Q σ')) (XM D ad cA A (fun _ _ => False)) args s (RM 3 0 0 77).cells (RM 3 0 0 77).slots A) (F0 m 24 ls []) from key5 _ _ _ (Nat.lt_succ_self _) hI5 _ _ ls hP hD hS hl
    clear hP hD hS hl
    intro n5
    induction n5 with
    | zero => intro _ _ h; exact absurd h (Nat.not_lt_zero _)
    | succ n5 ih5 =>
      intro i4_5 σ5 hm5 hI5 H locs ls hP hD hS hl
      have hw := hw5 i4_5 σ5 hI5
      refine lv_iload hx hb dX0_find_24 (lv_at hl 3 rfl) ?_
      refine lv_iload_n hx hb dX0_find_26 rfl (lv_at hl 2 rfl) ?_
      refine lv_icmp_ge (tgt := 55) hx hb dX0_find_27 (by decide) (fun k6 => ?_) (fun k6 => ?_)
      · skip
        have hw := hw.1 k6
        refine lv_iconst (v := 0) hx hb dX0_find_55 (by decide) ?_
        refine lv_istore (lv' := [(4, .int 0), (0, .ref (ad 38)), (1, .ref (ad 1)), (3, .int v2)]) hx hb dX0_find_56 hl (by decide) rfl (fun ls hl => ?_)
        obtain ⟨I7, μ7, hI7, hw7⟩ := hw
        have hl : lv_has ls 5 [(0, .ref (ad 38)), (1, .ref (ad 1)), (3, .int v2), (4, .int 0)] := lv_sub hl [1, 2, 3, 0] rfl
        suffices key7 : ∀ (n7 : Nat) (i4_7 : Int32) (σ7 : Sg), μ7 i4_7 σ7 < n7 → I7 i4_7 σ7 → ∀ (H : Heap) (locs : List Loc) (ls : Array Slot), va_P D vwCl (WL ad cA σ7) H → va_D A (WL ad cA σ7) → va_S A s.heap H locs → lv_has ls 5 [(0, .ref (ad 38)), (1, .ref (ad 1)), (3, .int v2), (4, .int i4_7)] → W p l e (RM 3 0 0 77) s m args below meth c H locs (0) (0) (vx_MQ below (QM D ad cA A (fun v σ' => v = none ∧ Q σ')) (XM D ad cA A (fun _ _ => False)) args s (RM 3 0 0 77).cells (RM 3 0 0 77).slots A) (F0 m 58 ls []) from key7 _ _ _ (Nat.lt_succ_self _) hI7 _ _ ls hP hD hS hl
        clear hP hD hS hl
        intro n7
        induction n7 with
        | zero => intro _ _ h; exact absurd h (Nat.not_lt_zero _)
        | succ n7 ih7 =>
          intro i4_7 σ7 hm7 hI7 H locs ls hP hD hS hl
          have hw := hw7 i4_7 σ7 hI7
          refine lv_iload hx hb dX0_find_58 (lv_at hl 3 rfl) ?_
          refine lv_aload_n hx hb dX0_find_60 rfl (lv_at hl 0 rfl) ?_
          refine k_get (ci := 2) (C := RX0) (T := TX0) (N := 11) (v := .int (gI σ7 5)) hx hb hG inX0 hown hK hP 38 wl_38 rfl 0 (by decide) gw227 rfl dX0_find_61 ?_
          refine lv_icmp_ge (tgt := 87) hx hb dX0_find_64 (by decide) (fun k8 => ?_) (fun k8 => ?_)
          · skip
            have hw := hw.1 k8
            refine lv_aload_n hx hb dX0_find_87 rfl (lv_at hl 0 rfl) ?_
            refine lv_aload_n hx hb dX0_find_88 rfl (lv_at hl 0 rfl) ?_
            refine k_get (ci := 2) (C := RX0) (T := TX0) (N := 11) (v := .ref (ad 45)) hx hb hG inX0 hown hK hP 38 wl_38 rfl 10 (by decide) gw242 rfl dX0_find_89 ?_
            refine lv_iload_n hx hb dX0_find_92 rfl (lv_at hl 2 rfl) ?_
            refine lv_iconst (v := 1) hx hb dX0_find_93 (by decide) ?_
            refine k_isub (v := v2 - 1) hx hb dX0_find_94 rfl ?_
            obtain ⟨hc9, hw⟩ := hw
            refine k_lald (v := gB σ7 11 (ix (v2 - 1))) hx hb hK hP 45 wl_45 (ix (v2 - 1)) rfl rfl hc9 dX0_find_95 ?_
            refine mc_V hSF hl.1 hP hD hS hA hK hGV (m_X0_choose l hfl D ad cA g (gB σ7 11 (ix (v2 - 1))) σ7 _ hw) goV_X0_70 pd_X0_choose ⟨(Nat.le_of_ble_eq_true rfl), (Nat.le_of_ble_eq_true rfl)⟩ ⟨(Nat.le_of_ble_eq_true rfl), (Nat.le_of_ble_eq_true rfl)⟩ (va_recv hK hP (ci := 2) (q0 := 38) rfl wl_38) dX0_find_96 rfl (Nat.le_of_ble_eq_true rfl) (fun v9 σ11 H locs hq hP hD hS => ?_) (fun _ _ _ _ _ _ h => h.elim)
            obtain ⟨hv9, hw⟩ := hq
            subst hv9
            refine W.eq (g2 := F0 m 99 ls []) rfl ?_
            refine W.widen (k := 0) (n := 0) (Nat.le_refl _) (Nat.le_refl _) ?_
            refine lv_aload_n hx hb dX0_find_99 rfl (lv_at hl 0 rfl) ?_
            refine lv_iconst (v := 1) hx hb dX0_find_100 (by decide) ?_
            obtain ⟨σ12, eσ12⟩ : ∃ z : Sg, z = sI σ11 6 1 := ⟨_, rfl⟩
            have hw := hw σ12 eσ12
            refine k_put (ci := 2) (C := RX0) (T := TX0) (N := 11) (v := .int 1) (ws1 := WL ad cA σ12) hx hb hG inX0 tyX0 tyX0_ok nmX0 hown hK hP hD hS 38 wl_38 rfl 1 (by decide) gw230 rfl ⟨rfl, rfl⟩ (ws_38_1 eσ12) (Nat.le_of_ble_eq_true rfl) dX0_find_101 (fun H locs hP hD hS => ?_)
            exact vx_ret (m_v ⟨rfl, hw⟩ hx hb hr hlocks hP hD hS (Nat.le_of_ble_eq_true rfl) (Nat.le_of_ble_eq_true rfl) dX0_find_104)
          · skip
            have hw := hw.2 k8
            refine lv_aload_n hx hb dX0_find_67 rfl (lv_at hl 0 rfl) ?_
            refine lv_iload hx hb dX0_find_68 (lv_at hl 3 rfl) ?_
            refine lv_iload_n hx hb dX0_find_70 rfl (lv_at hl 2 rfl) ?_
            refine lv_aload_n hx hb dX0_find_71 rfl (lv_at hl 0 rfl) ?_
            refine lv_iload hx hb dX0_find_72 (lv_at hl 3 rfl) ?_
            refine lv_aload_n hx hb dX0_find_74 rfl (lv_at hl 1 rfl) ?_
            refine mc_V hSF hl.1 hP hD hS hA hK hGV (m_X0_fitting l hfl D ad cA g i4_7 σ7 _ hw) goV_X0_62 pd_X0_fitting ⟨(Nat.le_of_ble_eq_true rfl), (Nat.le_of_ble_eq_true rfl)⟩ ⟨(Nat.le_of_ble_eq_true rfl), (Nat.le_of_ble_eq_true rfl)⟩ (va_recv hK hP (ci := 2) (q0 := 38) rfl wl_38) dX0_find_75 rfl (Nat.le_of_ble_eq_true rfl) (fun v9 σ9 H locs hq hP hD hS => ?_) (fun _ _ _ _ _ _ h => h.elim)
            obtain ⟨r13, hv9, hs9, hw⟩ := hq
            subst hv9
            subst σ9
            refine W.eq (g2 := F0 m 78 ls [.int r13, .int v2, .int i4_7, .ref (ad 38)]) rfl ?_
            refine W.widen (k := 0) (n := 0) (Nat.le_refl _) (Nat.le_refl _) ?_
            refine mc_V hSF hl.1 hP hD hS hA hK hGV (m_X0_offer l hfl D ad cA g i4_7 v2 r13 σ7 _ hw) goV_X0_66 pd_X0_offer ⟨(Nat.le_of_ble_eq_true rfl), (Nat.le_of_ble_eq_true rfl)⟩ ⟨(Nat.le_of_ble_eq_true rfl), (Nat.le_of_ble_eq_true rfl)⟩ (va_recv hK hP (ci := 2) (q0 := 38) rfl wl_38) dX0_find_78 rfl (Nat.le_of_ble_eq_true rfl) (fun v9 σ15 H locs hq hP hD hS => ?_) (fun _ _ _ _ _ _ h => h.elim)
            obtain ⟨hv9, hw⟩ := hq
            subst hv9
            refine W.eq (g2 := F0 m 81 ls []) rfl ?_
            refine W.widen (k := 0) (n := 0) (Nat.le_refl _) (Nat.le_refl _) ?_
            refine lv_iinc (v := i4_7 + 1) (lv' := [(4, .int (i4_7 + 1)), (0, .ref (ad 38)), (1, .ref (ad 1)), (3, .int v2)]) hx hb dX0_find_81 hl (k := 3) rfl rfl (by decide) rfl (fun ls hl => ?_)
            refine lv_goto (tgt := 58) hx hb dX0_find_84 (by decide) ?_
            exact ih7 (i4_7 + 1) σ15 (Nat.lt_of_lt_of_le hw.2 (Nat.le_of_lt_succ hm7)) hw.1 _ _ ls hP hD hS (lv_sub hl [1, 2, 3, 0] rfl)
      · skip
        have hw := hw.2 k6
        refine lv_aload_n hx hb dX0_find_30 rfl (lv_at hl 0 rfl) ?_
        refine k_get (ci := 2) (C := RX0) (T := TX0) (N := 11) (v := .ref (ad 45)) hx hb hG inX0 hown hK hP 38 wl_38 rfl 10 (by decide) gw242 rfl dX0_find_31 ?_
        refine lv_iload hx hb dX0_find_34 (lv_at hl 3 rfl) ?_
        refine lv_iload hx hb dX0_find_36 (lv_at hl 3 rfl) ?_
        refine lv_if_ne (tgt := 45) hx hb dX0_find_38 (by decide) (fun k16 => ?_) (fun k16 => ?_)
        · skip
          have hw := hw.1 k16
          refine lv_ldc2 hx hb hown (hG _ gw1065) dX0_find_45 ?_
          obtain ⟨hc17, hw⟩ := hw
          obtain ⟨σ18, eσ18⟩ : ∃ z : Sg, z = sB σ5 11 (ix i4_5) 4611686018427387904 := ⟨_, rfl⟩
          have hw := hw σ18 eσ18
          refine k_last (ws1 := WL ad cA σ18) hx hb hK hP hD hS 45 wl_45 (ws_45 eσ18) hc17 dX0_find_48 (fun H locs hP hD hS => ?_)
          refine lv_iinc (v := i4_5 + 1) (lv' := [(4, .int (i4_5 + 1)), (0, .ref (ad 38)), (1, .ref (ad 1)), (3, .int v2)]) hx hb dX0_find_49 hl (k := 3) rfl rfl (by decide) rfl (fun ls hl => ?_)
          refine lv_goto (tgt := 24) hx hb dX0_find_52 (by decide) ?_
          exact ih5 (i4_5 + 1) σ18 (Nat.lt_of_lt_of_le hw.2 (Nat.le_of_lt_succ hm5)) hw.1 _ _ ls hP hD hS (lv_sub hl [1, 2, 3, 0] rfl)
        · skip
          have hw := hw.2 k16
          refine lv_lconst (v := 0) hx hb dX0_find_41 (by decide) ?_
          refine lv_goto (tgt := 48) hx hb dX0_find_42 (by decide) ?_
          obtain ⟨hc19, hw⟩ := hw
          obtain ⟨σ20, eσ20⟩ : ∃ z : Sg, z = sB σ5 11 (ix i4_5) 0 := ⟨_, rfl⟩
          have hw := hw σ20 eσ20
          refine k_last (ws1 := WL ad cA σ20) hx hb hK hP hD hS 45 wl_45 (ws_45 eσ20) hc19 dX0_find_48 (fun H locs hP hD hS => ?_)
          refine lv_iinc (v := i4_5 + 1) (lv' := [(4, .int (i4_5 + 1)), (0, .ref (ad 38)), (1, .ref (ad 1)), (3, .int v2)]) hx hb dX0_find_49 hl (k := 3) rfl rfl (by decide) rfl (fun ls hl => ?_)
          refine lv_goto (tgt := 24) hx hb dX0_find_52 (by decide) ?_
          exact ih5 (i4_5 + 1) σ20 (Nat.lt_of_lt_of_le hw.2 (Nat.le_of_lt_succ hm5)) hw.1 _ _ ls hP hD hS (lv_sub hl [1, 2, 3, 0] rfl)
  · skip
    have hw := hw.2 k1
    exact vx_ret (m_v ⟨rfl, hw⟩ hx hb hr hlocks hP hD hS (Nat.le_of_ble_eq_true rfl) (Nat.le_of_ble_eq_true rfl) dX0_find_7)

set_option maxHeartbeats 4000000 in
set_option maxRecDepth 100000 in
theorem m_X6_checkCut (l : Launch) (hfl : l.stackTraces = false) (D : va_G) (ad : Nat → Nat) (cA : Nat → ClassId) (g : gv_T) (σ : Sg) (Q : Sg → Prop) (X : String → Sg → Prop) (hw : w_X6_checkCut  σ Q X) : MC l yX6_checkCut cX6_checkCut 1 none (RM 6 1 6 101) D ad cA g [.ref (ad 0)] σ (fun v σ' => v = none ∧ Q σ') X := by
  refine MC.of (plainFor_of_name (by decide +kernel)) (Nat.le_of_ble_eq_true rfl) ?_
  intro p e s m args below meth c A ls hx hb hr hml hown hG hlocks htab hA hS hP hK hD hGV hl
  have hown : s.vm.findClass RX6 = some m.cls := hown
  have hl : lv_has ls 1 [(0, .ref (ad 0))] := hl
  have hSF : CF p m c cX6_checkCut 1 s args RX6 := ⟨hx, hb, hml, hown, hG⟩
  refine lv_aload_n hx hb dX6_checkCut_0 rfl (lv_at hl 0 rfl) ?_
  refine k_get (ci := 8) (C := RX6) (T := TX6) (N := 5) (v := .ref (ad 38)) hx hb hG inX6 hown hK hP 0 wl_0 rfl 3 (by decide) gw308 rfl dX6_checkCut_1 ?_
  refine lv_aload_n hx hb dX6_checkCut_4 rfl (lv_at hl 0 rfl) ?_
  refine k_get (ci := 8) (C := RX6) (T := TX6) (N := 5) (v := .ref (ad 1)) hx hb hG inX6 hown hK hP 0 wl_0 rfl 0 (by decide) gw305 rfl dX6_checkCut_5 ?_
  refine lv_aload_n hx hb dX6_checkCut_8 rfl (lv_at hl 0 rfl) ?_
  refine k_get (ci := 8) (C := RX6) (T := TX6) (N := 5) (v := .ref (ad 32)) hx hb hG inX6 hown hK hP 0 wl_0 rfl 2 (by decide) gw307 rfl dX6_checkCut_9 ?_
  refine mc_V hSF hl.1 hP hD hS hA hK hGV (m_X0_find l hfl D ad cA g  σ _ hw) goV_X6_290 pd_X0_find ⟨(Nat.le_of_ble_eq_true rfl), (Nat.le_of_ble_eq_true rfl)⟩ ⟨(Nat.le_of_ble_eq_true rfl), (Nat.le_of_ble_eq_true rfl)⟩ (va_recv hK hP (ci := 2) (q0 := 38) rfl wl_38) dX6_checkCut_12 rfl (Nat.le_of_ble_eq_true rfl) (fun v9 σ2 H locs hq hP hD hS => ?_) (fun _ _ _ _ _ _ h => h.elim)
  obtain ⟨hv9, hw⟩ := hq
  subst hv9
  refine W.eq (g2 := F0 m 15 ls []) rfl ?_
  refine W.widen (k := 0) (n := 0) (Nat.le_refl _) (Nat.le_refl _) ?_
  refine lv_aload_n hx hb dX6_checkCut_15 rfl (lv_at hl 0 rfl) ?_
  refine k_get (ci := 8) (C := RX6) (T := TX6) (N := 5) (v := .ref (ad 38)) hx hb hG inX6 hown hK hP 0 wl_0 rfl 3 (by decide) gw308 rfl dX6_checkCut_16 ?_
  refine k_get (ci := 2) (C := RX0) (T := TX0) (N := 11) (v := .int (gI σ2 7)) hx hb hG inX0 hown hK hP 38 wl_38 rfl 2 (by decide) gw232 rfl dX6_checkCut_19 ?_
  refine lv_if_ne (tgt := 36) hx hb dX6_checkCut_22 (by decide) (fun k3 => ?_) (fun k3 => ?_)
  · skip
    have hw := hw.1 k3
    exact vx_ret (m_v ⟨rfl, hw⟩ hx hb hr hlocks hP hD hS (Nat.le_of_ble_eq_true rfl) (Nat.le_of_ble_eq_true rfl) dX6_checkCut_36)
  · skip
    have hw := hw.2 k3
    exact m_throwNW hw (Y0 := "java/lang/RuntimeException") (idx := 13) (bs := prog_35_method_4_code) (names := ["java/lang/Exception"]) 22 hx hb hfl hown hG hGV htab hlocks (hl.1.trans hml.symm) (by decide +kernel) (by decide +kernel) (by decide +kernel) ns_0 ns_1 ns_2 ns_5 gw881 gw52 rfl xat_X6_146 hP hD hS dX6_checkCut_25 dX6_checkCut_28 dX6_checkCut_29 dX6_checkCut_32 dX6_checkCut_35 (Nat.le_of_ble_eq_true rfl) (Nat.le_of_ble_eq_true rfl) (Nat.le_of_ble_eq_true rfl) (Nat.le_of_ble_eq_true rfl) (Nat.le_of_ble_eq_true rfl) (Nat.le_of_ble_eq_true rfl)

set_option maxHeartbeats 4000000 in
set_option maxRecDepth 100000 in
theorem m_X6_stickOf (l : Launch) (hfl : l.stackTraces = false) (D : va_G) (ad : Nat → Nat) (cA : Nat → ClassId) (g : gv_T) (p1 : Int32) (σ : Sg) (Q : Int32 → Sg → Prop) (X : String → Sg → Prop) (hw : w_X6_stickOf p1 σ Q X) : MC l yX6_stickOf cX6_stickOf 2 (some .int) (RM 7 2 12 121) D ad cA g [.ref (ad 0), .int p1] σ (fun v σ' => ∃ r : Int32, v = some (.int r) ∧ Q r σ') X := by
  refine MC.of (plainFor_of_name (by decide +kernel)) (Nat.le_of_ble_eq_true rfl) ?_
  intro p e s m args below meth c A ls hx hb hr hml hown hG hlocks htab hA hS hP hK hD hGV hl
  have hown : s.vm.findClass RX6 = some m.cls := hown
  have hl : lv_has ls 2 [(0, .ref (ad 0)), (1, .int p1)] := hl
  have hSF : CF p m c cX6_stickOf 2 s args RX6 := ⟨hx, hb, hml, hown, hG⟩
  refine lv_aload_n hx hb dX6_stickOf_0 rfl (lv_at hl 0 rfl) ?_
  refine lv_iload_n hx hb dX6_stickOf_1 rfl (lv_at hl 1 rfl) ?_
  refine mc_V hSF hl.1 hP hD hS hA hK hGV (m_X6_checkMember l hfl D ad cA g p1 σ _ _ hw) goV_X6_118 pd_X6_checkMember ⟨(Nat.le_of_ble_eq_true rfl), (Nat.le_of_ble_eq_true rfl)⟩ ⟨(Nat.le_of_ble_eq_true rfl), (Nat.le_of_ble_eq_true rfl)⟩ (va_recv hK hP (ci := 8) (q0 := 0) rfl wl_0) dX6_stickOf_2 rfl (Nat.le_of_ble_eq_true rfl) (fun v9 σ9 H locs hq hP hD hS => ?_) (fun E9 σ9 H locs x9 ce9 hw hP hD hS h9 hv9 hc9 => ?_)
  · skip
    obtain ⟨hv9, hs9, hw⟩ := hq
    subst hv9
    subst σ9
    refine W.eq (g2 := F0 m 5 ls []) rfl ?_
    refine W.widen (k := 1) (n := 6) (Nat.le_refl _) (Nat.le_refl _) ?_
    refine lv_aload_n hx hb dX6_stickOf_5 rfl (lv_at hl 0 rfl) ?_
    refine mc_V hSF hl.1 hP hD hS hA hK hGV (m_X6_checkCut l hfl D ad cA g  σ _ _ hw) goV_X6_219 pd_X6_checkCut ⟨(Nat.le_of_ble_eq_true rfl), (Nat.le_of_ble_eq_true rfl)⟩ ⟨(Nat.le_of_ble_eq_true rfl), (Nat.le_of_ble_eq_true rfl)⟩ (va_recv hK hP (ci := 8) (q0 := 0) rfl wl_0) dX6_stickOf_6 rfl (Nat.le_of_ble_eq_true rfl) (fun v9 σ3 H locs hq hP hD hS => ?_) (fun E9 σ9 H locs x9 ce9 hw hP hD hS h9 hv9 hc9 => ?_)
    · skip
      obtain ⟨hv9, hw⟩ := hq
      subst hv9
      refine W.eq (g2 := F0 m 9 ls []) rfl ?_
      refine W.widen (k := 2) (n := 12) (Nat.le_refl _) (Nat.le_refl _) ?_
      refine lv_aload_n hx hb dX6_stickOf_9 rfl (lv_at hl 0 rfl) ?_
      refine k_get (ci := 8) (C := RX6) (T := TX6) (N := 5) (v := .ref (ad 38)) hx hb hG inX6 hown hK hP 0 wl_0 rfl 3 (by decide) gw308 rfl dX6_stickOf_10 ?_
      refine k_get (ci := 2) (C := RX0) (T := TX0) (N := 11) (v := .ref (ad 39)) hx hb hG inX0 hown hK hP 38 wl_38 rfl 4 (by decide) gw236 rfl dX6_stickOf_13 ?_
      refine lv_iload_n hx hb dX6_stickOf_16 rfl (lv_at hl 1 rfl) ?_
      obtain ⟨hc4, hw⟩ := hw
      refine k_iald (v := gA σ3 18 (ix p1)) hx hb hK hP 39 wl_39 (ix p1) rfl rfl hc4 dX6_stickOf_17 ?_
      exact vx_ret (m_i ⟨_, rfl, hw⟩ hx hb hr hlocks rfl hP hD hS (Nat.le_of_ble_eq_true rfl) (Nat.le_of_ble_eq_true rfl) dX6_stickOf_18)
    · skip
      exact m_out hw htab hlocks h9 hv9 hc9 hP hD hS (Nat.le_of_ble_eq_true rfl) (Nat.le_of_ble_eq_true rfl)
  · skip
    exact m_out hw htab hlocks h9 hv9 hc9 hP hD hS (Nat.le_of_ble_eq_true rfl) (Nat.le_of_ble_eq_true rfl)

set_option maxHeartbeats 4000000 in
set_option maxRecDepth 100000 in
theorem m_L_stickOf (l : Launch) (hfl : l.stackTraces = false) (D : va_G) (ad : Nat → Nat) (cA : Nat → ClassId) (g : gv_T) (p1 : Int32) (σ : Sg) (Q : Int32 → Sg → Prop) (hw : w_L_stickOf p1 σ Q) : MW l yL_stickOf cL_stickOf 3 (some .int) [(0, 5, 6, 28), (0, 5, 10, 53)] (RM 8 2 12 142) D ad cA g [.ref (ad 0), .int p1] σ (fun v σ' => ∃ r : Int32, v = some (.int r) ∧ Q r σ') := by
  refine MW.of (by decide +kernel) (Nat.le_of_ble_eq_true rfl) ?_
  intro p e s m args below meth c A ls hx hb hr hml hown hG hlocks htab hA hS hP hK hD hGV hl
  have hown : s.vm.findClass RL = some m.cls := hown
  have hl : lv_has ls 3 [(0, .ref (ad 0)), (1, .int p1)] := hl
  have hSF : CF p m c cL_stickOf 3 s args RL := ⟨hx, hb, hml, hown, hG⟩
  refine lv_aload_n hx hb dL_stickOf_0 rfl (lv_at hl 0 rfl) ?_
  refine lv_iload_n hx hb dL_stickOf_1 rfl (lv_at hl 1 rfl) ?_
  refine mc_V hSF hl.1 hP hD hS hA hK hGV (m_X6_stickOf l hfl D ad cA g p1 σ _ _ hw) goV_L_87 pd_X6_stickOf ⟨(Nat.le_of_ble_eq_true rfl), (Nat.le_of_ble_eq_true rfl)⟩ ⟨(Nat.le_of_ble_eq_true rfl), (Nat.le_of_ble_eq_true rfl)⟩ (va_recv hK hP (ci := 8) (q0 := 0) rfl wl_0) dL_stickOf_2 rfl (Nat.le_of_ble_eq_true rfl) (fun v9 σ2 H locs hq hP hD hS => ?_) (fun E9 σ3 H locs x9 ce9 hw hP hD hS h9 hv9 hc9 => ?_)
  · skip
    obtain ⟨r1, hv9, hw⟩ := hq
    subst hv9
    refine W.eq (g2 := F0 m 5 ls [.int r1]) rfl ?_
    refine W.widen (k := 2) (n := 12) (Nat.le_refl _) (Nat.le_refl _) ?_
    exact m_i ⟨_, rfl, hw⟩ hx hb hr hlocks rfl hP hD hS (Nat.le_of_ble_eq_true rfl) (Nat.le_of_ble_eq_true rfl) dL_stickOf_5
  · skip
    rcases hw with ⟨rfl, hw⟩ | ⟨rfl, hw⟩
    · skip
      refine vx_catch (own := RL) (name := "java/lang/IndexOutOfBoundsException") hown [] { startPc := 0, endPc := 5, handlerPc := 6, catchType := 28 } [{ startPc := 0, endPc := 5, handlerPc := 10, catchType := 53 }] (htab.trans rfl) (fun z hz => nomatch hz) rfl (by decide) (hG _ gw690) (va_Nw.use rfl (hGV.nw _ gw724)) h9 hv9 hc9 ?_
      refine W.eq (g2 := F0 m 6 ls [.ref x9]) rfl ?_
      refine W.widen (k := 2) (n := 12) (Nat.le_refl _) (Nat.le_refl _) ?_
      refine lv_astore_n (lv' := [(2, .ref x9), (0, .ref (ad 0)), (1, .int p1)]) hx hb dL_stickOf_6 rfl hl (by decide) rfl (fun ls hl => ?_)
      refine lv_bipush (v := (-77)) hx hb dL_stickOf_7 (by decide) ?_
      exact m_i ⟨_, rfl, hw⟩ hx hb hr hlocks rfl hP hD hS (Nat.le_of_ble_eq_true rfl) (Nat.le_of_ble_eq_true rfl) dL_stickOf_9
    · skip
      refine vx_catch (own := RL) (name := "java/util/NoSuchElementException") hown [{ startPc := 0, endPc := 5, handlerPc := 6, catchType := 28 }] { startPc := 0, endPc := 5, handlerPc := 10, catchType := 53 } [] (htab.trans rfl) (fun z hz => by rcases List.mem_singleton.mp hz with rfl; exact Or.inr ⟨by decide, "java/lang/IndexOutOfBoundsException", hG _ gw690, hGV.nc ("java/util/NoSuchElementException", "java/lang/IndexOutOfBoundsException") (by decide)⟩) rfl (by decide) (hG _ gw876) (va_Nw.use rfl (hGV.nw _ gw883)) h9 hv9 hc9 ?_
      refine W.eq (g2 := F0 m 10 ls [.ref x9]) rfl ?_
      refine W.widen (k := 2) (n := 12) (Nat.le_refl _) (Nat.le_refl _) ?_
      refine lv_astore_n (lv' := [(2, .ref x9), (0, .ref (ad 0)), (1, .int p1)]) hx hb dL_stickOf_10 rfl hl (by decide) rfl (fun ls hl => ?_)
      refine lv_bipush (v := (-75)) hx hb dL_stickOf_11 (by decide) ?_
      exact m_i ⟨_, rfl, hw⟩ hx hb hr hlocks rfl hP hD hS (Nat.le_of_ble_eq_true rfl) (Nat.le_of_ble_eq_true rfl) dL_stickOf_13

set_option maxHeartbeats 4000000 in
set_option maxRecDepth 100000 in
theorem m_X6_wood (l : Launch) (hfl : l.stackTraces = false) (D : va_G) (ad : Nat → Nat) (cA : Nat → ClassId) (g : gv_T) (σ : Sg) (Q : Int32 → Sg → Prop) (X : String → Sg → Prop) (hw : w_X6_wood  σ Q X) : MC l yX6_wood cX6_wood 1 (some .int) (RM 7 1 6 121) D ad cA g [.ref (ad 0)] σ (fun v σ' => ∃ r : Int32, v = some (.int r) ∧ Q r σ') X := by
  refine MC.of (plainFor_of_name (by decide +kernel)) (Nat.le_of_ble_eq_true rfl) ?_
  intro p e s m args below meth c A ls hx hb hr hml hown hG hlocks htab hA hS hP hK hD hGV hl
  have hown : s.vm.findClass RX6 = some m.cls := hown
  have hl : lv_has ls 1 [(0, .ref (ad 0))] := hl
  have hSF : CF p m c cX6_wood 1 s args RX6 := ⟨hx, hb, hml, hown, hG⟩
  refine lv_aload_n hx hb dX6_wood_0 rfl (lv_at hl 0 rfl) ?_
  refine mc_V hSF hl.1 hP hD hS hA hK hGV (m_X6_checkCut l hfl D ad cA g  σ _ _ hw) goV_X6_219 pd_X6_checkCut ⟨(Nat.le_of_ble_eq_true rfl), (Nat.le_of_ble_eq_true rfl)⟩ ⟨(Nat.le_of_ble_eq_true rfl), (Nat.le_of_ble_eq_true rfl)⟩ (va_recv hK hP (ci := 8) (q0 := 0) rfl wl_0) dX6_wood_1 rfl (Nat.le_of_ble_eq_true rfl) (fun v9 σ2 H locs hq hP hD hS => ?_) (fun E9 σ9 H locs x9 ce9 hw hP hD hS h9 hv9 hc9 => ?_)
  · skip
    obtain ⟨hv9, hw⟩ := hq
    subst hv9
    refine W.eq (g2 := F0 m 4 ls []) rfl ?_
    refine W.widen (k := 1) (n := 6) (Nat.le_refl _) (Nat.le_refl _) ?_
    refine lv_aload_n hx hb dX6_wood_4 rfl (lv_at hl 0 rfl) ?_
    refine k_get (ci := 8) (C := RX6) (T := TX6) (N := 5) (v := .ref (ad 38)) hx hb hG inX6 hown hK hP 0 wl_0 rfl 3 (by decide) gw308 rfl dX6_wood_5 ?_
    refine k_get (ci := 2) (C := RX0) (T := TX0) (N := 11) (v := .int (gI σ2 8)) hx hb hG inX0 hown hK hP 38 wl_38 rfl 3 (by decide) gw234 rfl dX6_wood_8 ?_
    exact vx_ret (m_i ⟨_, rfl, hw⟩ hx hb hr hlocks rfl hP hD hS (Nat.le_of_ble_eq_true rfl) (Nat.le_of_ble_eq_true rfl) dX6_wood_11)
  · skip
    exact m_out hw htab hlocks h9 hv9 hc9 hP hD hS (Nat.le_of_ble_eq_true rfl) (Nat.le_of_ble_eq_true rfl)

set_option maxHeartbeats 4000000 in
set_option maxRecDepth 100000 in
theorem m_L_wood (l : Launch) (hfl : l.stackTraces = false) (D : va_G) (ad : Nat → Nat) (cA : Nat → ClassId) (g : gv_T) (σ : Sg) (Q : Int32 → Sg → Prop) (hw : w_L_wood  σ Q) : MW l yL_wood cL_wood 2 (some .int) [(0, 4, 5, 53)] (RM 8 1 6 141) D ad cA g [.ref (ad 0)] σ (fun v σ' => ∃ r : Int32, v = some (.int r) ∧ Q r σ') := by
  refine MW.of (by decide +kernel) (Nat.le_of_ble_eq_true rfl) ?_
  intro p e s m args below meth c A ls hx hb hr hml hown hG hlocks htab hA hS hP hK hD hGV hl
  have hown : s.vm.findClass RL = some m.cls := hown
  have hl : lv_has ls 2 [(0, .ref (ad 0))] := hl
  have hSF : CF p m c cL_wood 2 s args RL := ⟨hx, hb, hml, hown, hG⟩
  refine lv_aload_n hx hb dL_wood_0 rfl (lv_at hl 0 rfl) ?_
  refine mc_V hSF hl.1 hP hD hS hA hK hGV (m_X6_wood l hfl D ad cA g  σ _ _ hw) goV_L_90 pd_X6_wood ⟨(Nat.le_of_ble_eq_true rfl), (Nat.le_of_ble_eq_true rfl)⟩ ⟨(Nat.le_of_ble_eq_true rfl), (Nat.le_of_ble_eq_true rfl)⟩ (va_recv hK hP (ci := 8) (q0 := 0) rfl wl_0) dL_wood_1 rfl (Nat.le_of_ble_eq_true rfl) (fun v9 σ2 H locs hq hP hD hS => ?_) (fun E9 σ3 H locs x9 ce9 hw hP hD hS h9 hv9 hc9 => ?_)
  · skip
    obtain ⟨r1, hv9, hw⟩ := hq
    subst hv9
    refine W.eq (g2 := F0 m 4 ls [.int r1]) rfl ?_
    refine W.widen (k := 1) (n := 6) (Nat.le_refl _) (Nat.le_refl _) ?_
    exact m_i ⟨_, rfl, hw⟩ hx hb hr hlocks rfl hP hD hS (Nat.le_of_ble_eq_true rfl) (Nat.le_of_ble_eq_true rfl) dL_wood_4
  · skip
    obtain ⟨rfl, hw⟩ := hw
    refine vx_catch (own := RL) (name := "java/util/NoSuchElementException") hown [] { startPc := 0, endPc := 4, handlerPc := 5, catchType := 53 } [] (htab.trans rfl) (fun z hz => nomatch hz) rfl (by decide) (hG _ gw876) (va_Nw.use rfl (hGV.nw _ gw883)) h9 hv9 hc9 ?_
    refine W.eq (g2 := F0 m 5 ls [.ref x9]) rfl ?_
    refine W.widen (k := 1) (n := 6) (Nat.le_refl _) (Nat.le_refl _) ?_
    refine lv_astore_n (lv' := [(1, .ref x9), (0, .ref (ad 0))]) hx hb dL_wood_5 rfl hl (by decide) rfl (fun ls hl => ?_)
    refine lv_bipush (v := (-75)) hx hb dL_wood_6 (by decide) ?_
    exact m_i ⟨_, rfl, hw⟩ hx hb hr hlocks rfl hP hD hS (Nat.le_of_ble_eq_true rfl) (Nat.le_of_ble_eq_true rfl) dL_wood_8

set_option maxHeartbeats 4000000 in
set_option maxRecDepth 100000 in
theorem m_X0_leftOf (l : Launch) (hfl : l.stackTraces = false) (D : va_G) (ad : Nat → Nat) (cA : Nat → ClassId) (g : gv_T) (p1 : Int32) (p2 : Int32) (σ : Sg) (Q : Int32 → Prop) (hw : w_X0_leftOf p1 p2 σ Q) : MC l yX0_leftOf cX0_leftOf 5 (some .int) (RM 0 0 0 0) D ad cA g [.ref (ad 38), .int p1, .int p2] σ (fun v σ' => ∃ r : Int32, v = some (.int r) ∧ σ' = σ ∧ Q r) (fun _ _ => False) := by
  refine MC.of (plainFor_of_name (by decide +kernel)) (Nat.le_of_ble_eq_true rfl) ?_
  intro p e s m args below meth c A ls hx hb hr hml hown hG hlocks htab hA hS hP hK hD hGV hl
  have hown : s.vm.findClass RX0 = some m.cls := hown
  have hl : lv_has ls 5 [(0, .ref (ad 38)), (1, .int p1), (2, .int p2)] := hl
  have hSF : CF p m c cX0_leftOf 5 s args RX0 := ⟨hx, hb, hml, hown, hG⟩
  refine lv_iconst (v := 0) hx hb dX0_leftOf_0 (by decide) ?_
  refine lv_istore_n (lv' := [(3, .int 0), (0, .ref (ad 38)), (1, .int p1), (2, .int p2)]) hx hb dX0_leftOf_1 rfl hl (by decide) rfl (fun ls hl => ?_)
  refine lv_iconst (v := 0) hx hb dX0_leftOf_2 (by decide) ?_
  refine lv_istore (lv' := [(4, .int 0), (3, .int 0), (0, .ref (ad 38)), (1, .int p1), (2, .int p2)]) hx hb dX0_leftOf_3 hl (by decide) rfl (fun ls hl => ?_)
  obtain ⟨I1, μ1, hI1, hw1⟩ := hw
  have hl : lv_has ls 5 [(0, .ref (ad 38)), (1, .int p1), (2, .int p2), (3, .int 0), (4, .int 0)] := lv_sub hl [2, 3, 4, 1, 0] rfl
  suffices key1 : ∀ (n1 : Nat) (i3_1 : Int32) (i4_1 : Int32), μ1 i3_1 i4_1 < n1 → I1 i3_1 i4_1 → ∀ (H : Heap) (locs : List Loc) (ls : Array Slot), va_P D vwCl (WL ad cA σ) H → va_D A (WL ad cA σ) → va_S A s.heap H locs → lv_has ls 5 [(0, .ref (ad 38)), (1, .int p1), (2, .int p2), (3, .int i3_1), (4, .int i4_1)] → W p l e (RM 0 0 0 0) s m args below meth c H locs (0) (0) (vx_MQ below (QM D ad cA A (fun v σ' => ∃ r : Int32, v = some (.int r) ∧ σ' = σ ∧ Q r)) (XM D ad cA A (fun _ _ => False)) args s (RM 0 0 0 0).cells (RM 0 0 0 0).slots A) (F0 m 5 ls []) from key1 _ _ _ (Nat.lt_succ_self _) hI1 _ _ ls hP hD hS hl
  clear hP hD hS hl
  intro n1
  induction n1 with
  | zero => intro _ _ h; exact absurd h (Nat.not_lt_zero _)
  | succ n1 ih1 =>
    intro i3_1 i4_1 hm1 hI1 H locs ls hP hD hS hl
    have hw := hw1 i3_1 i4_1 hI1
    refine lv_iload hx hb dX0_leftOf_5 (lv_at hl 4 rfl) ?_
    refine lv_iload_n hx hb dX0_leftOf_7 rfl (lv_at hl 2 rfl) ?_
    refine lv_icmp_ge (tgt := 39) hx hb dX0_leftOf_8 (by decide) (fun k2 => ?_) (fun k2 => ?_)
    · skip
      have hw := hw.1 k2
      refine lv_aload_n hx hb dX0_leftOf_39 rfl (lv_at hl 0 rfl) ?_
      refine k_get (ci := 2) (C := RX0) (T := TX0) (N := 11) (v := .ref (ad 40)) hx hb hG inX0 hown hK hP 38 wl_38 rfl 5 (by decide) gw237 rfl dX0_leftOf_40 ?_
      refine lv_iload_n hx hb dX0_leftOf_43 rfl (lv_at hl 1 rfl) ?_
      obtain ⟨hc3, hw⟩ := hw
      refine k_iald (v := gA σ 19 (ix p1)) hx hb hK hP 40 wl_40 (ix p1) rfl rfl hc3 dX0_leftOf_44 ?_
      refine lv_aload_n hx hb dX0_leftOf_45 rfl (lv_at hl 0 rfl) ?_
      refine k_get (ci := 2) (C := RX0) (T := TX0) (N := 11) (v := .ref (ad 43)) hx hb hG inX0 hown hK hP 38 wl_38 rfl 8 (by decide) gw240 rfl dX0_leftOf_46 ?_
      refine lv_iload_n hx hb dX0_leftOf_49 rfl (lv_at hl 3 rfl) ?_
      obtain ⟨hc4, hw⟩ := hw
      refine k_iald (v := gA σ 22 (ix i3_1)) hx hb hK hP 43 wl_43 (ix i3_1) rfl rfl hc4 dX0_leftOf_50 ?_
      refine k_isub (v := (gA σ 19 (ix p1)) - (gA σ 22 (ix i3_1))) hx hb dX0_leftOf_51 rfl ?_
      exact vx_ret (m_i ⟨_, rfl, rfl, hw⟩ hx hb hr hlocks rfl hP hD hS (Nat.le_of_ble_eq_true rfl) (Nat.le_of_ble_eq_true rfl) dX0_leftOf_52)
    · skip
      have hw := hw.2 k2
      refine lv_iload_n hx hb dX0_leftOf_11 rfl (lv_at hl 3 rfl) ?_
      refine lv_aload_n hx hb dX0_leftOf_12 rfl (lv_at hl 0 rfl) ?_
      refine k_get (ci := 2) (C := RX0) (T := TX0) (N := 11) (v := .ref (ad 39)) hx hb hG inX0 hown hK hP 38 wl_38 rfl 4 (by decide) gw235 rfl dX0_leftOf_13 ?_
      refine lv_iload hx hb dX0_leftOf_16 (lv_at hl 4 rfl) ?_
      obtain ⟨hc5, hw⟩ := hw
      refine k_iald (v := gA σ 18 (ix i4_1)) hx hb hK hP 39 wl_39 (ix i4_1) rfl rfl hc5 dX0_leftOf_18 ?_
      refine lv_iload_n hx hb dX0_leftOf_19 rfl (lv_at hl 1 rfl) ?_
      refine lv_icmp_ne (tgt := 30) hx hb dX0_leftOf_20 (by decide) (fun k6 => ?_) (fun k6 => ?_)
      · skip
        have hw := hw.1 k6
        refine lv_iconst (v := 0) hx hb dX0_leftOf_30 (by decide) ?_
        refine k_ior (v := i3_1 ||| 0) hx hb dX0_leftOf_31 rfl ?_
        obtain ⟨v7, ev7⟩ : ∃ z : Int32, z = i3_1 ||| 0 := ⟨_, rfl⟩
        have hw := hw v7 ev7
        refine lv_istore_n (lv' := [(3, .int v7), (0, .ref (ad 38)), (1, .int p1), (2, .int p2), (4, .int i4_1)]) hx hb dX0_leftOf_32 rfl hl (by decide) (by subst ev7; rfl) (fun ls hl => ?_)
        refine lv_iinc (v := i4_1 + 1) (lv' := [(4, .int (i4_1 + 1)), (3, .int v7), (0, .ref (ad 38)), (1, .int p1), (2, .int p2)]) hx hb dX0_leftOf_33 hl (k := 4) rfl rfl (by decide) rfl (fun ls hl => ?_)
        refine lv_goto (tgt := 5) hx hb dX0_leftOf_36 (by decide) ?_
        exact ih1 v7 (i4_1 + 1) (Nat.lt_of_lt_of_le hw.2 (Nat.le_of_lt_succ hm1)) hw.1 _ _ ls hP hD hS (lv_sub hl [2, 3, 4, 1, 0] rfl)
      · skip
        have hw := hw.2 k6
        refine lv_iconst (v := 1) hx hb dX0_leftOf_23 (by decide) ?_
        refine lv_iload hx hb dX0_leftOf_24 (lv_at hl 4 rfl) ?_
        refine k_ishl (v := iShl 1 i4_1) hx hb dX0_leftOf_26 rfl ?_
        refine lv_goto (tgt := 31) hx hb dX0_leftOf_27 (by decide) ?_
        refine k_ior (v := i3_1 ||| (iShl 1 i4_1)) hx hb dX0_leftOf_31 rfl ?_
        obtain ⟨v8, ev8⟩ : ∃ z : Int32, z = i3_1 ||| (iShl 1 i4_1) := ⟨_, rfl⟩
        have hw := hw v8 ev8
        refine lv_istore_n (lv' := [(3, .int v8), (0, .ref (ad 38)), (1, .int p1), (2, .int p2), (4, .int i4_1)]) hx hb dX0_leftOf_32 rfl hl (by decide) (by subst ev8; rfl) (fun ls hl => ?_)
        refine lv_iinc (v := i4_1 + 1) (lv' := [(4, .int (i4_1 + 1)), (3, .int v8), (0, .ref (ad 38)), (1, .int p1), (2, .int p2)]) hx hb dX0_leftOf_33 hl (k := 4) rfl rfl (by decide) rfl (fun ls hl => ?_)
        refine lv_goto (tgt := 5) hx hb dX0_leftOf_36 (by decide) ?_
        exact ih1 v8 (i4_1 + 1) (Nat.lt_of_lt_of_le hw.2 (Nat.le_of_lt_succ hm1)) hw.1 _ _ ls hP hD hS (lv_sub hl [2, 3, 4, 1, 0] rfl)

set_option maxHeartbeats 4000000 in
set_option maxRecDepth 100000 in
theorem m_X6_waste (l : Launch) (hfl : l.stackTraces = false) (D : va_G) (ad : Nat → Nat) (cA : Nat → ClassId) (g : gv_T) (p1 : Int32) (σ : Sg) (Q : Int32 → Sg → Prop) (X : String → Sg → Prop) (hw : w_X6_waste p1 σ Q X) : MC l yX6_waste cX6_waste 2 (some .int) (RM 7 1 6 121) D ad cA g [.ref (ad 0), .int p1] σ (fun v σ' => ∃ r : Int32, v = some (.int r) ∧ Q r σ') X := by
  refine MC.of (plainFor_of_name (by decide +kernel)) (Nat.le_of_ble_eq_true rfl) ?_
  intro p e s m args below meth c A ls hx hb hr hml hown hG hlocks htab hA hS hP hK hD hGV hl
  have hown : s.vm.findClass RX6 = some m.cls := hown
  have hl : lv_has ls 2 [(0, .ref (ad 0)), (1, .int p1)] := hl
  have hSF : CF p m c cX6_waste 2 s args RX6 := ⟨hx, hb, hml, hown, hG⟩
  refine lv_iload_n hx hb dX6_waste_0 rfl (lv_at hl 1 rfl) ?_
  refine lv_if_lt (tgt := 15) hx hb dX6_waste_1 (by decide) (fun k1 => ?_) (fun k1 => ?_)
  · skip
    have hw := hw.1 k1
    exact m_throw hw (names := ["java/lang/RuntimeException", "java/lang/Exception"]) 23 hx hb hfl hown hG hGV htab hlocks (hl.1.trans hml.symm) (by decide +kernel) (by decide +kernel) gw722 gw48 rfl xat_X6_232 hP hD hS dX6_waste_15 dX6_waste_18 dX6_waste_19 dX6_waste_21 dX6_waste_24 (Nat.le_of_ble_eq_true rfl) (Nat.le_of_ble_eq_true rfl) (Nat.le_of_ble_eq_true rfl) (Nat.le_of_ble_eq_true rfl) (Nat.le_of_ble_eq_true rfl) (Nat.le_of_ble_eq_true rfl)
  · skip
    have hw := hw.2 k1
    refine lv_iload_n hx hb dX6_waste_4 rfl (lv_at hl 1 rfl) ?_
    refine lv_aload_n hx hb dX6_waste_5 rfl (lv_at hl 0 rfl) ?_
    refine k_get (ci := 8) (C := RX6) (T := TX6) (N := 5) (v := .ref (ad 38)) hx hb hG inX6 hown hK hP 0 wl_0 rfl 3 (by decide) gw308 rfl dX6_waste_6 ?_
    refine k_get (ci := 2) (C := RX0) (T := TX0) (N := 11) (v := .int (gI σ 5)) hx hb hG inX0 hown hK hP 38 wl_38 rfl 0 (by decide) gw228 rfl dX6_waste_9 ?_
    refine lv_icmp_lt (tgt := 25) hx hb dX6_waste_12 (by decide) (fun k2 => ?_) (fun k2 => ?_)
    · skip
      have hw := hw.1 k2
      refine lv_aload_n hx hb dX6_waste_25 rfl (lv_at hl 0 rfl) ?_
      refine mc_V hSF hl.1 hP hD hS hA hK hGV (m_X6_checkCut l hfl D ad cA g  σ _ _ hw) goV_X6_219 pd_X6_checkCut ⟨(Nat.le_of_ble_eq_true rfl), (Nat.le_of_ble_eq_true rfl)⟩ ⟨(Nat.le_of_ble_eq_true rfl), (Nat.le_of_ble_eq_true rfl)⟩ (va_recv hK hP (ci := 8) (q0 := 0) rfl wl_0) dX6_waste_26 rfl (Nat.le_of_ble_eq_true rfl) (fun v9 σ4 H locs hq hP hD hS => ?_) (fun E9 σ9 H locs x9 ce9 hw hP hD hS h9 hv9 hc9 => ?_)
      · skip
        obtain ⟨hv9, hw⟩ := hq
        subst hv9
        refine W.eq (g2 := F0 m 29 ls []) rfl ?_
        refine W.widen (k := 1) (n := 6) (Nat.le_refl _) (Nat.le_refl _) ?_
        refine lv_aload_n hx hb dX6_waste_29 rfl (lv_at hl 0 rfl) ?_
        refine k_get (ci := 8) (C := RX6) (T := TX6) (N := 5) (v := .ref (ad 38)) hx hb hG inX6 hown hK hP 0 wl_0 rfl 3 (by decide) gw308 rfl dX6_waste_30 ?_
        refine lv_iload_n hx hb dX6_waste_33 rfl (lv_at hl 1 rfl) ?_
        refine lv_aload_n hx hb dX6_waste_34 rfl (lv_at hl 0 rfl) ?_
        refine k_get (ci := 8) (C := RX6) (T := TX6) (N := 5) (v := .ref (ad 1)) hx hb hG inX6 hown hK hP 0 wl_0 rfl 0 (by decide) gw305 rfl dX6_waste_35 ?_
        refine k_get (ci := 4) (C := RX2) (T := TX2) (N := 12) (v := .int (gI σ4 1)) hx hb hG inX2 hown hK hP 1 wl_1 rfl 1 (by decide) gw73 rfl dX6_waste_38 ?_
        refine mc_V hSF hl.1 hP hD hS hA hK hGV (m_X0_leftOf l hfl D ad cA g p1 (gI σ4 1) σ4 _ hw) goV_X6_233 pd_X0_leftOf ⟨(Nat.le_of_ble_eq_true rfl), (Nat.le_of_ble_eq_true rfl)⟩ ⟨(Nat.le_of_ble_eq_true rfl), (Nat.le_of_ble_eq_true rfl)⟩ (va_recv hK hP (ci := 2) (q0 := 38) rfl wl_38) dX6_waste_41 rfl (Nat.le_of_ble_eq_true rfl) (fun v9 σ9 H locs hq hP hD hS => ?_) (fun _ _ _ _ _ _ h => h.elim)
        obtain ⟨r5, hv9, hs9, hw⟩ := hq
        subst hv9
        subst σ9
        refine W.eq (g2 := F0 m 44 ls [.int r5]) rfl ?_
        refine W.widen (k := 1) (n := 6) (Nat.le_refl _) (Nat.le_refl _) ?_
        exact vx_ret (m_i ⟨_, rfl, hw⟩ hx hb hr hlocks rfl hP hD hS (Nat.le_of_ble_eq_true rfl) (Nat.le_of_ble_eq_true rfl) dX6_waste_44)
      · skip
        exact m_out hw htab hlocks h9 hv9 hc9 hP hD hS (Nat.le_of_ble_eq_true rfl) (Nat.le_of_ble_eq_true rfl)
    · skip
      have hw := hw.2 k2
      exact m_throw hw (names := ["java/lang/RuntimeException", "java/lang/Exception"]) 23 hx hb hfl hown hG hGV htab hlocks (hl.1.trans hml.symm) (by decide +kernel) (by decide +kernel) gw722 gw48 rfl xat_X6_232 hP hD hS dX6_waste_15 dX6_waste_18 dX6_waste_19 dX6_waste_21 dX6_waste_24 (Nat.le_of_ble_eq_true rfl) (Nat.le_of_ble_eq_true rfl) (Nat.le_of_ble_eq_true rfl) (Nat.le_of_ble_eq_true rfl) (Nat.le_of_ble_eq_true rfl) (Nat.le_of_ble_eq_true rfl)

set_option maxHeartbeats 4000000 in
set_option maxRecDepth 100000 in
theorem m_L_waste (l : Launch) (hfl : l.stackTraces = false) (D : va_G) (ad : Nat → Nat) (cA : Nat → ClassId) (g : gv_T) (p1 : Int32) (σ : Sg) (Q : Int32 → Sg → Prop) (hw : w_L_waste p1 σ Q) : MW l yL_waste cL_waste 3 (some .int) [(0, 5, 6, 28), (0, 5, 10, 53)] (RM 8 1 6 142) D ad cA g [.ref (ad 0), .int p1] σ (fun v σ' => ∃ r : Int32, v = some (.int r) ∧ Q r σ') := by
  refine MW.of (by decide +kernel) (Nat.le_of_ble_eq_true rfl) ?_
  intro p e s m args below meth c A ls hx hb hr hml hown hG hlocks htab hA hS hP hK hD hGV hl
  have hown : s.vm.findClass RL = some m.cls := hown
  have hl : lv_has ls 3 [(0, .ref (ad 0)), (1, .int p1)] := hl
  have hSF : CF p m c cL_waste 3 s args RL := ⟨hx, hb, hml, hown, hG⟩
  refine lv_aload_n hx hb dL_waste_0 rfl (lv_at hl 0 rfl) ?_
  refine lv_iload_n hx hb dL_waste_1 rfl (lv_at hl 1 rfl) ?_
  refine mc_V hSF hl.1 hP hD hS hA hK hGV (m_X6_waste l hfl D ad cA g p1 σ _ _ hw) goV_L_93 pd_X6_waste ⟨(Nat.le_of_ble_eq_true rfl), (Nat.le_of_ble_eq_true rfl)⟩ ⟨(Nat.le_of_ble_eq_true rfl), (Nat.le_of_ble_eq_true rfl)⟩ (va_recv hK hP (ci := 8) (q0 := 0) rfl wl_0) dL_waste_2 rfl (Nat.le_of_ble_eq_true rfl) (fun v9 σ2 H locs hq hP hD hS => ?_) (fun E9 σ3 H locs x9 ce9 hw hP hD hS h9 hv9 hc9 => ?_)
  · skip
    obtain ⟨r1, hv9, hw⟩ := hq
    subst hv9
    refine W.eq (g2 := F0 m 5 ls [.int r1]) rfl ?_
    refine W.widen (k := 1) (n := 6) (Nat.le_refl _) (Nat.le_refl _) ?_
    exact m_i ⟨_, rfl, hw⟩ hx hb hr hlocks rfl hP hD hS (Nat.le_of_ble_eq_true rfl) (Nat.le_of_ble_eq_true rfl) dL_waste_5
  · skip
    rcases hw with ⟨rfl, hw⟩ | ⟨rfl, hw⟩
    · skip
      refine vx_catch (own := RL) (name := "java/lang/IndexOutOfBoundsException") hown [] { startPc := 0, endPc := 5, handlerPc := 6, catchType := 28 } [{ startPc := 0, endPc := 5, handlerPc := 10, catchType := 53 }] (htab.trans rfl) (fun z hz => nomatch hz) rfl (by decide) (hG _ gw690) (va_Nw.use rfl (hGV.nw _ gw724)) h9 hv9 hc9 ?_
      refine W.eq (g2 := F0 m 6 ls [.ref x9]) rfl ?_
      refine W.widen (k := 1) (n := 6) (Nat.le_refl _) (Nat.le_refl _) ?_
      refine lv_astore_n (lv' := [(2, .ref x9), (0, .ref (ad 0)), (1, .int p1)]) hx hb dL_waste_6 rfl hl (by decide) rfl (fun ls hl => ?_)
      refine lv_bipush (v := (-77)) hx hb dL_waste_7 (by decide) ?_
      exact m_i ⟨_, rfl, hw⟩ hx hb hr hlocks rfl hP hD hS (Nat.le_of_ble_eq_true rfl) (Nat.le_of_ble_eq_true rfl) dL_waste_9
    · skip
      refine vx_catch (own := RL) (name := "java/util/NoSuchElementException") hown [{ startPc := 0, endPc := 5, handlerPc := 6, catchType := 28 }] { startPc := 0, endPc := 5, handlerPc := 10, catchType := 53 } [] (htab.trans rfl) (fun z hz => by rcases List.mem_singleton.mp hz with rfl; exact Or.inr ⟨by decide, "java/lang/IndexOutOfBoundsException", hG _ gw690, hGV.nc ("java/util/NoSuchElementException", "java/lang/IndexOutOfBoundsException") (by decide)⟩) rfl (by decide) (hG _ gw876) (va_Nw.use rfl (hGV.nw _ gw883)) h9 hv9 hc9 ?_
      refine W.eq (g2 := F0 m 10 ls [.ref x9]) rfl ?_
      refine W.widen (k := 1) (n := 6) (Nat.le_refl _) (Nat.le_refl _) ?_
      refine lv_astore_n (lv' := [(2, .ref x9), (0, .ref (ad 0)), (1, .int p1)]) hx hb dL_waste_10 rfl hl (by decide) rfl (fun ls hl => ?_)
      refine lv_bipush (v := (-75)) hx hb dL_waste_11 (by decide) ?_
      exact m_i ⟨_, rfl, hw⟩ hx hb hr hlocks rfl hP hD hS (Nat.le_of_ble_eq_true rfl) (Nat.le_of_ble_eq_true rfl) dL_waste_13

set_option maxHeartbeats 4000000 in
set_option maxRecDepth 100000 in
theorem m_X6_setProps (l : Launch) (hfl : l.stackTraces = false) (D : va_G) (ad : Nat → Nat) (cA : Nat → ClassId) (g : gv_T) (p1 : Int32) (σ : Sg) (Q : Int32 → Sg → Prop) (X : String → Sg → Prop) (hw : w_X6_setProps p1 σ Q X) : MC l yX6_setProps cX6_setProps 3 (some .int) (RM 6 1 6 82) D ad cA g [.ref (ad 0), .int p1] σ (fun v σ' => ∃ r : Int32, v = some (.int r) ∧ Q r σ') X := by
  refine MC.of (plainFor_of_name (by decide +kernel)) (Nat.le_of_ble_eq_true rfl) ?_
  intro p e s m args below meth c A ls hx hb hr hml hown hG hlocks htab hA hS hP hK hD hGV hl
  have hown : s.vm.findClass RX6 = some m.cls := hown
  have hl : lv_has ls 3 [(0, .ref (ad 0)), (1, .int p1)] := hl
  have hSF : CF p m c cX6_setProps 3 s args RX6 := ⟨hx, hb, hml, hown, hG⟩
  refine lv_iload_n hx hb dX6_setProps_0 rfl (lv_at hl 1 rfl) ?_
  refine lv_iconst (v := 0) hx hb dX6_setProps_1 (by decide) ?_
  refine lv_bipush (v := 9) hx hb dX6_setProps_2 (by decide) ?_
  refine mc_S hSF hl.1 hP hD hS hA hK hGV (m_X6_isWithin l hfl D ad cA g p1 0 9 σ _ hw) goS_X6_44 pd_X6_isWithin.2 ⟨(Nat.le_of_ble_eq_true rfl), (Nat.le_of_ble_eq_true rfl)⟩ ⟨(Nat.le_of_ble_eq_true rfl), (Nat.le_of_ble_eq_true rfl)⟩ dX6_setProps_4 rfl (Nat.le_of_ble_eq_true rfl) (fun v9 σ9 H locs hq hP hD hS => ?_) (fun _ _ _ _ _ _ h => h.elim)
  obtain ⟨r1, hv9, hs9, hw⟩ := hq
  subst hv9
  subst σ9
  refine W.eq (g2 := F0 m 7 ls [.int r1]) rfl ?_
  refine W.widen (k := 0) (n := 0) (Nat.le_refl _) (Nat.le_refl _) ?_
  refine lv_if_ne (tgt := 20) hx hb dX6_setProps_7 (by decide) (fun k2 => ?_) (fun k2 => ?_)
  · skip
    have hw := hw.1 k2
    refine lv_aload_n hx hb dX6_setProps_20 rfl (lv_at hl 0 rfl) ?_
    refine k_get (ci := 8) (C := RX6) (T := TX6) (N := 5) (v := .ref (ad 46)) hx hb hG inX6 hown hK hP 0 wl_0 rfl 4 (by decide) gw309 rfl dX6_setProps_21 ?_
    refine k_get (ci := 6) (C := RX4) (T := TX4) (N := 9) (v := .int (gI σ 9)) hx hb hG inX4 hown hK hP 46 wl_46 rfl 0 (by decide) gw273 rfl dX6_setProps_24 ?_
    obtain ⟨v3, ev3⟩ : ∃ z : Int32, z = gI σ 9 := ⟨_, rfl⟩
    have hw := hw v3 ev3
    refine lv_istore_n (lv' := [(2, .int v3), (0, .ref (ad 0)), (1, .int p1)]) hx hb dX6_setProps_27 rfl hl (by decide) (by subst ev3; rfl) (fun ls hl => ?_)
    refine lv_aload_n hx hb dX6_setProps_28 rfl (lv_at hl 1 rfl) ?_
    refine k_get (ci := 8) (C := RX6) (T := TX6) (N := 5) (v := .ref (ad 46)) hx hb hG inX6 hown hK hP 0 wl_0 rfl 4 (by decide) gw309 rfl dX6_setProps_29 ?_
    refine lv_iload_n hx hb dX6_setProps_32 rfl (lv_at hl 2 rfl) ?_
    obtain ⟨σ4, eσ4⟩ : ∃ z : Sg, z = sI σ 9 p1 := ⟨_, rfl⟩
    have hw := hw σ4 eσ4
    refine k_put (ci := 6) (C := RX4) (T := TX4) (N := 9) (v := .int p1) (ws1 := WL ad cA σ4) hx hb hG inX4 tyX4 tyX4_ok nmX4 hown hK hP hD hS 46 wl_46 rfl 0 (by decide) gw273 rfl ⟨rfl, rfl⟩ (ws_46_0 eσ4) (Nat.le_of_ble_eq_true rfl) dX6_setProps_33 (fun H locs hP hD hS => ?_)
    refine lv_aload_n hx hb dX6_setProps_36 rfl (lv_at hl 1 rfl) ?_
    refine k_get (ci := 8) (C := RX6) (T := TX6) (N := 5) (v := .ref (ad 46)) hx hb hG inX6 hown hK hP 0 wl_0 rfl 4 (by decide) gw309 rfl dX6_setProps_37 ?_
    refine lv_iconst (v := 0) hx hb dX6_setProps_40 (by decide) ?_
    obtain ⟨σ5, eσ5⟩ : ∃ z : Sg, z = sI σ4 10 0 := ⟨_, rfl⟩
    have hw := hw σ5 eσ5
    refine k_put (ci := 6) (C := RX4) (T := TX4) (N := 9) (v := .int 0) (ws1 := WL ad cA σ5) hx hb hG inX4 tyX4 tyX4_ok nmX4 hown hK hP hD hS 46 wl_46 rfl 1 (by decide) gw275 rfl ⟨rfl, rfl⟩ (ws_46_1 eσ5) (Nat.le_of_ble_eq_true rfl) dX6_setProps_41 (fun H locs hP hD hS => ?_)
    refine lv_iload_n hx hb dX6_setProps_44 rfl (lv_at hl 0 rfl) ?_
    exact vx_ret (m_i ⟨_, rfl, hw⟩ hx hb hr hlocks rfl hP hD hS (Nat.le_of_ble_eq_true rfl) (Nat.le_of_ble_eq_true rfl) dX6_setProps_45)
  · skip
    have hw := hw.2 k2
    exact m_throw hw (names := ["java/lang/RuntimeException", "java/lang/Exception"]) 15 hx hb hfl hown hG hGV htab hlocks (hl.1.trans hml.symm) (by decide +kernel) (by decide +kernel) gw595 gw46 rfl xat_X6_60 hP hD hS dX6_setProps_10 dX6_setProps_13 dX6_setProps_14 dX6_setProps_16 dX6_setProps_19 (Nat.le_of_ble_eq_true rfl) (Nat.le_of_ble_eq_true rfl) (Nat.le_of_ble_eq_true rfl) (Nat.le_of_ble_eq_true rfl) (Nat.le_of_ble_eq_true rfl) (Nat.le_of_ble_eq_true rfl)

set_option maxHeartbeats 4000000 in
set_option maxRecDepth 100000 in
theorem m_L_setProps (l : Launch) (hfl : l.stackTraces = false) (D : va_G) (ad : Nat → Nat) (cA : Nat → ClassId) (g : gv_T) (p1 : Int32) (σ : Sg) (Q : Int32 → Sg → Prop) (hw : w_L_setProps p1 σ Q) : MW l yL_setProps cL_setProps 3 (some .int) [(0, 5, 6, 20)] (RM 7 1 6 104) D ad cA g [.ref (ad 0), .int p1] σ (fun v σ' => ∃ r : Int32, v = some (.int r) ∧ Q r σ') := by
  refine MW.of (by decide +kernel) (Nat.le_of_ble_eq_true rfl) ?_
  intro p e s m args below meth c A ls hx hb hr hml hown hG hlocks htab hA hS hP hK hD hGV hl
  have hown : s.vm.findClass RL = some m.cls := hown
  have hl : lv_has ls 3 [(0, .ref (ad 0)), (1, .int p1)] := hl
  have hSF : CF p m c cL_setProps 3 s args RL := ⟨hx, hb, hml, hown, hG⟩
  refine lv_aload_n hx hb dL_setProps_0 rfl (lv_at hl 0 rfl) ?_
  refine lv_iload_n hx hb dL_setProps_1 rfl (lv_at hl 1 rfl) ?_
  refine mc_V hSF hl.1 hP hD hS hA hK hGV (m_X6_setProps l hfl D ad cA g p1 σ _ _ hw) goV_L_96 pd_X6_setProps ⟨(Nat.le_of_ble_eq_true rfl), (Nat.le_of_ble_eq_true rfl)⟩ ⟨(Nat.le_of_ble_eq_true rfl), (Nat.le_of_ble_eq_true rfl)⟩ (va_recv hK hP (ci := 8) (q0 := 0) rfl wl_0) dL_setProps_2 rfl (Nat.le_of_ble_eq_true rfl) (fun v9 σ2 H locs hq hP hD hS => ?_) (fun E9 σ3 H locs x9 ce9 hw hP hD hS h9 hv9 hc9 => ?_)
  · skip
    obtain ⟨r1, hv9, hw⟩ := hq
    subst hv9
    refine W.eq (g2 := F0 m 5 ls [.int r1]) rfl ?_
    refine W.widen (k := 1) (n := 6) (Nat.le_refl _) (Nat.le_refl _) ?_
    exact m_i ⟨_, rfl, hw⟩ hx hb hr hlocks rfl hP hD hS (Nat.le_of_ble_eq_true rfl) (Nat.le_of_ble_eq_true rfl) dL_setProps_5
  · skip
    obtain ⟨rfl, hw⟩ := hw
    refine vx_catch (own := RL) (name := "java/lang/IllegalArgumentException") hown [] { startPc := 0, endPc := 5, handlerPc := 6, catchType := 20 } [] (htab.trans rfl) (fun z hz => nomatch hz) rfl (by decide) (hG _ gw499) (va_Nw.use rfl (hGV.nw _ gw597)) h9 hv9 hc9 ?_
    refine W.eq (g2 := F0 m 6 ls [.ref x9]) rfl ?_
    refine W.widen (k := 1) (n := 6) (Nat.le_refl _) (Nat.le_refl _) ?_
    refine lv_astore_n (lv' := [(2, .ref x9), (0, .ref (ad 0)), (1, .int p1)]) hx hb dL_setProps_6 rfl hl (by decide) rfl (fun ls hl => ?_)
    refine lv_bipush (v := (-78)) hx hb dL_setProps_7 (by decide) ?_
    exact m_i ⟨_, rfl, hw⟩ hx hb hr hlocks rfl hP hD hS (Nat.le_of_ble_eq_true rfl) (Nat.le_of_ble_eq_true rfl) dL_setProps_9

set_option maxHeartbeats 4000000 in
set_option maxRecDepth 100000 in
theorem m_X2_isOnGround (l : Launch) (hfl : l.stackTraces = false) (D : va_G) (ad : Nat → Nat) (cA : Nat → ClassId) (g : gv_T) (p1 : Int32) (σ : Sg) (Q : Int32 → Prop) (hw : w_X2_isOnGround p1 σ Q) : MC l yX2_isOnGround cX2_isOnGround 2 (some .boolean) (RM 0 0 0 0) D ad cA g [.ref (ad 1), .int p1] σ (fun v σ' => ∃ r : Int32, v = some (.int r) ∧ σ' = σ ∧ Q r) (fun _ _ => False) := by
  refine MC.of (plainFor_of_name (by decide +kernel)) (Nat.le_of_ble_eq_true rfl) ?_
  intro p e s m args below meth c A ls hx hb hr hml hown hG hlocks htab hA hS hP hK hD hGV hl
  have hown : s.vm.findClass RX2 = some m.cls := hown
  have hl : lv_has ls 2 [(0, .ref (ad 1)), (1, .int p1)] := hl
  have hSF : CF p m c cX2_isOnGround 2 s args RX2 := ⟨hx, hb, hml, hown, hG⟩
  refine lv_aload_n hx hb dX2_isOnGround_0 rfl (lv_at hl 0 rfl) ?_
  refine k_get (ci := 4) (C := RX2) (T := TX2) (N := 12) (v := .ref (ad 5)) hx hb hG inX2 hown hK hP 1 wl_1 rfl 5 (by decide) gw81 rfl dX2_isOnGround_1 ?_
  refine lv_aload_n hx hb dX2_isOnGround_4 rfl (lv_at hl 0 rfl) ?_
  refine k_get (ci := 4) (C := RX2) (T := TX2) (N := 12) (v := .ref (ad 6)) hx hb hG inX2 hown hK hP 1 wl_1 rfl 6 (by decide) gw82 rfl dX2_isOnGround_5 ?_
  refine lv_iload_n hx hb dX2_isOnGround_8 rfl (lv_at hl 1 rfl) ?_
  obtain ⟨hc1, hw⟩ := hw
  refine k_iald (v := gA σ 4 (ix p1)) hx hb hK hP 6 wl_6 (ix p1) rfl rfl hc1 dX2_isOnGround_9 ?_
  obtain ⟨hc2, hw⟩ := hw
  refine k_cald (v := gA σ 3 (ix (gA σ 4 (ix p1)))) hx hb hK hP 5 wl_5 (ix (gA σ 4 (ix p1))) rfl rfl hc2 dX2_isOnGround_10 ?_
  refine lv_bipush (v := 45) hx hb dX2_isOnGround_11 (by decide) ?_
  refine lv_icmp_ne (tgt := 32) hx hb dX2_isOnGround_13 (by decide) (fun k3 => ?_) (fun k3 => ?_)
  · skip
    have hw := hw.1 k3
    refine lv_iconst (v := 1) hx hb dX2_isOnGround_32 (by decide) ?_
    refine lv_goto (tgt := 37) hx hb dX2_isOnGround_33 (by decide) ?_
    exact vx_ret (m_i ⟨_, rfl, rfl, hw⟩ hx hb hr hlocks rfl hP hD hS (Nat.le_of_ble_eq_true rfl) (Nat.le_of_ble_eq_true rfl) dX2_isOnGround_37)
  · skip
    have hw := hw.2 k3
    refine lv_aload_n hx hb dX2_isOnGround_16 rfl (lv_at hl 0 rfl) ?_
    refine k_get (ci := 4) (C := RX2) (T := TX2) (N := 12) (v := .ref (ad 5)) hx hb hG inX2 hown hK hP 1 wl_1 rfl 5 (by decide) gw81 rfl dX2_isOnGround_17 ?_
    refine lv_aload_n hx hb dX2_isOnGround_20 rfl (lv_at hl 0 rfl) ?_
    refine k_get (ci := 4) (C := RX2) (T := TX2) (N := 12) (v := .ref (ad 7)) hx hb hG inX2 hown hK hP 1 wl_1 rfl 7 (by decide) gw83 rfl dX2_isOnGround_21 ?_
    refine lv_iload_n hx hb dX2_isOnGround_24 rfl (lv_at hl 1 rfl) ?_
    obtain ⟨hc4, hw⟩ := hw
    refine k_iald (v := gA σ 5 (ix p1)) hx hb hK hP 7 wl_7 (ix p1) rfl rfl hc4 dX2_isOnGround_25 ?_
    obtain ⟨hc5, hw⟩ := hw
    refine k_cald (v := gA σ 3 (ix (gA σ 5 (ix p1)))) hx hb hK hP 5 wl_5 (ix (gA σ 5 (ix p1))) rfl rfl hc5 dX2_isOnGround_26 ?_
    refine lv_bipush (v := 45) hx hb dX2_isOnGround_27 (by decide) ?_
    refine lv_icmp_eq (tgt := 36) hx hb dX2_isOnGround_29 (by decide) (fun k6 => ?_) (fun k6 => ?_)
    · skip
      have hw := hw.1 k6
      refine lv_iconst (v := 0) hx hb dX2_isOnGround_36 (by decide) ?_
      exact vx_ret (m_i ⟨_, rfl, rfl, hw⟩ hx hb hr hlocks rfl hP hD hS (Nat.le_of_ble_eq_true rfl) (Nat.le_of_ble_eq_true rfl) dX2_isOnGround_37)
    · skip
      have hw := hw.2 k6
      refine lv_iconst (v := 1) hx hb dX2_isOnGround_32 (by decide) ?_
      refine lv_goto (tgt := 37) hx hb dX2_isOnGround_33 (by decide) ?_
      exact vx_ret (m_i ⟨_, rfl, rfl, hw⟩ hx hb hr hlocks rfl hP hD hS (Nat.le_of_ble_eq_true rfl) (Nat.le_of_ble_eq_true rfl) dX2_isOnGround_37)

set_option maxHeartbeats 4000000 in
set_option maxRecDepth 100000 in
theorem m_X3_wayFor (l : Launch) (hfl : l.stackTraces = false) (D : va_G) (ad : Nat → Nat) (cA : Nat → ClassId) (g : gv_T) (p1 : Int32) (p2 : Int32) (σ : Sg) (Q : Int32 → Prop) (hw : w_X3_wayFor p1 p2 σ Q) : MC l yX3_wayFor cX3_wayFor 4 (some .int) (RM 0 0 0 0) D ad cA g [.ref (ad 32), .int p1, .int p2] σ (fun v σ' => ∃ r : Int32, v = some (.int r) ∧ σ' = σ ∧ Q r) (fun _ _ => False) := by
  refine MC.of (plainFor_of_name (by decide +kernel)) (Nat.le_of_ble_eq_true rfl) ?_
  intro p e s m args below meth c A ls hx hb hr hml hown hG hlocks htab hA hS hP hK hD hGV hl
  have hown : s.vm.findClass RX3 = some m.cls := hown
  have hl : lv_has ls 4 [(0, .ref (ad 32)), (1, .int p1), (2, .int p2)] := hl
  have hSF : CF p m c cX3_wayFor 4 s args RX3 := ⟨hx, hb, hml, hown, hG⟩
  refine lv_aload_n hx hb dX3_wayFor_0 rfl (lv_at hl 0 rfl) ?_
  refine k_get (ci := 5) (C := RX3) (T := TX3) (N := 6) (v := .ref (ad 35)) hx hb hG inX3 hown hK hP 32 wl_32 rfl 3 (by decide) gw205 rfl dX3_wayFor_1 ?_
  refine lv_iload_n hx hb dX3_wayFor_4 rfl (lv_at hl 1 rfl) ?_
  obtain ⟨hc1, hw⟩ := hw
  refine k_iald (v := gA σ 15 (ix p1)) hx hb hK hP 35 wl_35 (ix p1) rfl rfl hc1 dX3_wayFor_5 ?_
  obtain ⟨v2, ev2⟩ : ∃ z : Int32, z = gA σ 15 (ix p1) := ⟨_, rfl⟩
  have hw := hw v2 ev2
  refine lv_istore_n (lv' := [(3, .int v2), (0, .ref (ad 32)), (1, .int p1), (2, .int p2)]) hx hb dX3_wayFor_6 rfl hl (by decide) (by subst ev2; rfl) (fun ls hl => ?_)
  refine lv_aload_n hx hb dX3_wayFor_7 rfl (lv_at hl 1 rfl) ?_
  refine k_get (ci := 5) (C := RX3) (T := TX3) (N := 6) (v := .ref (ad 33)) hx hb hG inX3 hown hK hP 32 wl_32 rfl 1 (by decide) gw203 rfl dX3_wayFor_8 ?_
  refine lv_iload_n hx hb dX3_wayFor_11 rfl (lv_at hl 2 rfl) ?_
  obtain ⟨hc3, hw⟩ := hw
  refine k_iald (v := gA σ 13 (ix p1)) hx hb hK hP 33 wl_33 (ix p1) rfl rfl hc3 dX3_wayFor_12 ?_
  refine lv_iload_n hx hb dX3_wayFor_13 rfl (lv_at hl 3 rfl) ?_
  refine lv_icmp_eq (tgt := 22) hx hb dX3_wayFor_14 (by decide) (fun k4 => ?_) (fun k4 => ?_)
  · skip
    have hw := hw.1 k4
    refine lv_iload_n hx hb dX3_wayFor_22 rfl (lv_at hl 0 rfl) ?_
    exact vx_ret (m_i ⟨_, rfl, rfl, hw⟩ hx hb hr hlocks rfl hP hD hS (Nat.le_of_ble_eq_true rfl) (Nat.le_of_ble_eq_true rfl) dX3_wayFor_23)
  · skip
    have hw := hw.2 k4
    refine lv_iload_n hx hb dX3_wayFor_17 rfl (lv_at hl 0 rfl) ?_
    refine lv_iconst (v := 4) hx hb dX3_wayFor_18 (by decide) ?_
    refine lv_icmp_ne (tgt := 24) hx hb dX3_wayFor_19 (by decide) (fun k5 => ?_) (fun k5 => ?_)
    · skip
      have hw := hw.1 k5
      refine lv_iload_n hx hb dX3_wayFor_24 rfl (lv_at hl 0 rfl) ?_
      refine lv_iconst (v := 1) hx hb dX3_wayFor_25 (by decide) ?_
      refine k_ixor (v := v2 ^^^ 1) hx hb dX3_wayFor_26 rfl ?_
      exact vx_ret (m_i ⟨_, rfl, rfl, hw⟩ hx hb hr hlocks rfl hP hD hS (Nat.le_of_ble_eq_true rfl) (Nat.le_of_ble_eq_true rfl) dX3_wayFor_27)
    · skip
      have hw := hw.2 k5
      refine lv_iload_n hx hb dX3_wayFor_22 rfl (lv_at hl 0 rfl) ?_
      exact vx_ret (m_i ⟨_, rfl, rfl, hw⟩ hx hb hr hlocks rfl hP hD hS (Nat.le_of_ble_eq_true rfl) (Nat.le_of_ble_eq_true rfl) dX3_wayFor_23)

set_option maxHeartbeats 4000000 in
set_option maxRecDepth 100000 in
theorem m_X4_gather (l : Launch) (hfl : l.stackTraces = false) (D : va_G) (ad : Nat → Nat) (cA : Nat → ClassId) (g : gv_T) (σ : Sg) (Q : Sg → Prop) (hw : w_X4_gather  σ Q) : MC l yX4_gather cX4_gather 6 none (RM 1 0 0 23) D ad cA g [.ref (ad 46), .ref (ad 1), .ref (ad 32)] σ (fun v σ' => v = none ∧ Q σ') (fun _ _ => False) := by
  refine MC.of (plainFor_of_name (by decide +kernel)) (Nat.le_of_ble_eq_true rfl) ?_
  intro p e s m args below meth c A ls hx hb hr hml hown hG hlocks htab hA hS hP hK hD hGV hl
  have hown : s.vm.findClass RX4 = some m.cls := hown
  have hl : lv_has ls 6 [(0, .ref (ad 46)), (1, .ref (ad 1)), (2, .ref (ad 32))] := hl
  have hSF : CF p m c cX4_gather 6 s args RX4 := ⟨hx, hb, hml, hown, hG⟩
  refine lv_aload_n hx hb dX4_gather_0 rfl (lv_at hl 0 rfl) ?_
  refine lv_iconst (v := 0) hx hb dX4_gather_1 (by decide) ?_
  obtain ⟨σ1, eσ1⟩ : ∃ z : Sg, z = sI σ 12 0 := ⟨_, rfl⟩
  have hw := hw σ1 eσ1
  refine k_put (ci := 6) (C := RX4) (T := TX4) (N := 9) (v := .int 0) (ws1 := WL ad cA σ1) hx hb hG inX4 tyX4 tyX4_ok nmX4 hown hK hP hD hS 46 wl_46 rfl 3 (by decide) gw277 rfl ⟨rfl, rfl⟩ (ws_46_3 eσ1) (Nat.le_of_ble_eq_true rfl) dX4_gather_2 (fun H locs hP hD hS => ?_)
  refine lv_iconst (v := 0) hx hb dX4_gather_5 (by decide) ?_
  refine lv_istore_n (lv' := [(3, .int 0), (0, .ref (ad 46)), (1, .ref (ad 1)), (2, .ref (ad 32))]) hx hb dX4_gather_6 rfl hl (by decide) rfl (fun ls hl => ?_)
  obtain ⟨I2, μ2, hI2, hw2⟩ := hw
  have hl : lv_has ls 6 [(0, .ref (ad 46)), (1, .ref (ad 1)), (2, .ref (ad 32)), (3, .int 0)] := lv_sub hl [1, 2, 3, 0] rfl
  suffices key2 : ∀ (n2 : Nat) (i3_2 : Int32) (σ2 : Sg), μ2 i3_2 σ2 < n2 → I2 i3_2 σ2 → ∀ (H : Heap) (locs : List Loc) (ls : Array Slot), va_P D vwCl (WL ad cA σ2) H → va_D A (WL ad cA σ2) → va_S A s.heap H locs → lv_has ls 6 [(0, .ref (ad 46)), (1, .ref (ad 1)), (2, .ref (ad 32)), (3, .int i3_2)] → W p l e (RM 1 0 0 23) s m args below meth c H locs (0) (0) (vx_MQ below (QM D ad cA A (fun v σ' => v = none ∧ Q σ')) (XM D ad cA A (fun _ _ => False)) args s (RM 1 0 0 23).cells (RM 1 0 0 23).slots A) (F0 m 7 ls []) from key2 _ _ _ (Nat.lt_succ_self _) hI2 _ _ ls hP hD hS hl
  clear hP hD hS hl
  intro n2
  induction n2 with
  | zero => intro _ _ h; exact absurd h (Nat.not_lt_zero _)
  | succ n2 ih2 =>
    intro i3_2 σ2 hm2 hI2 H locs ls hP hD hS hl
    have hw := hw2 i3_2 σ2 hI2
    refine lv_iload_n hx hb dX4_gather_7 rfl (lv_at hl 3 rfl) ?_
    refine lv_aload_n hx hb dX4_gather_8 rfl (lv_at hl 1 rfl) ?_
    refine k_get (ci := 4) (C := RX2) (T := TX2) (N := 12) (v := .int (gI σ2 1)) hx hb hG inX2 hown hK hP 1 wl_1 rfl 1 (by decide) gw72 rfl dX4_gather_9 ?_
    refine lv_icmp_ge (tgt := 147) hx hb dX4_gather_12 (by decide) (fun k3 => ?_) (fun k3 => ?_)
    · skip
      have hw := hw.1 k3
      exact vx_ret (m_v ⟨rfl, hw⟩ hx hb hr hlocks hP hD hS (Nat.le_of_ble_eq_true rfl) (Nat.le_of_ble_eq_true rfl) dX4_gather_147)
    · skip
      have hw := hw.2 k3
      refine lv_aload_n hx hb dX4_gather_15 rfl (lv_at hl 0 rfl) ?_
      refine lv_dup hx hb dX4_gather_16 rfl ?_
      refine k_get (ci := 6) (C := RX4) (T := TX4) (N := 9) (v := .int (gI σ2 12)) hx hb hG inX4 hown hK hP 46 wl_46 rfl 3 (by decide) gw277 rfl dX4_gather_17 ?_
      refine lv_aload_n hx hb dX4_gather_20 rfl (lv_at hl 1 rfl) ?_
      refine lv_iload_n hx hb dX4_gather_21 rfl (lv_at hl 3 rfl) ?_
      refine mc_V hSF hl.1 hP hD hS hA hK hGV (m_X2_isOnGround l hfl D ad cA g i3_2 σ2 _ hw) goV_X4_63 pd_X2_isOnGround ⟨(Nat.le_of_ble_eq_true rfl), (Nat.le_of_ble_eq_true rfl)⟩ ⟨(Nat.le_of_ble_eq_true rfl), (Nat.le_of_ble_eq_true rfl)⟩ (va_recv hK hP (ci := 4) (q0 := 1) rfl wl_1) dX4_gather_22 rfl (Nat.le_of_ble_eq_true rfl) (fun v9 σ9 H locs hq hP hD hS => ?_) (fun _ _ _ _ _ _ h => h.elim)
      obtain ⟨r4, hv9, hs9, hw⟩ := hq
      subst hv9
      subst σ9
      refine W.eq (g2 := F0 m 25 ls [.int r4, .int (gI σ2 12), .ref (ad 46)]) rfl ?_
      refine W.widen (k := 0) (n := 0) (Nat.le_refl _) (Nat.le_refl _) ?_
      refine lv_if_eq (tgt := 32) hx hb dX4_gather_25 (by decide) (fun k5 => ?_) (fun k5 => ?_)
      · skip
        have hw := hw.1 k5
        refine lv_iconst (v := 1) hx hb dX4_gather_32 (by decide) ?_
        refine lv_iload_n hx hb dX4_gather_33 rfl (lv_at hl 3 rfl) ?_
        refine k_ishl (v := iShl 1 i3_2) hx hb dX4_gather_34 rfl ?_
        refine k_ior (v := (gI σ2 12) ||| (iShl 1 i3_2)) hx hb dX4_gather_35 rfl ?_
        obtain ⟨σ6, eσ6⟩ : ∃ z : Sg, z = sI σ2 12 ((gI σ2 12) ||| (iShl 1 i3_2)) := ⟨_, rfl⟩
        have hw := hw σ6 eσ6
        refine k_put (ci := 6) (C := RX4) (T := TX4) (N := 9) (v := .int ((gI σ2 12) ||| (iShl 1 i3_2))) (ws1 := WL ad cA σ6) hx hb hG inX4 tyX4 tyX4_ok nmX4 hown hK hP hD hS 46 wl_46 rfl 3 (by decide) gw277 rfl ⟨rfl, rfl⟩ (ws_46_3 eσ6) (Nat.le_of_ble_eq_true rfl) dX4_gather_36 (fun H locs hP hD hS => ?_)
        refine lv_aload_n hx hb dX4_gather_39 rfl (lv_at hl 0 rfl) ?_
        refine k_get (ci := 6) (C := RX4) (T := TX4) (N := 9) (v := .ref (ad 48)) hx hb hG inX4 hown hK hP 46 wl_46 rfl 5 (by decide) gw279 rfl dX4_gather_40 ?_
        refine lv_iload_n hx hb dX4_gather_43 rfl (lv_at hl 3 rfl) ?_
        refine lv_iconst (v := 0) hx hb dX4_gather_44 (by decide) ?_
        obtain ⟨hc7, hw⟩ := hw
        obtain ⟨σ8, eσ8⟩ : ∃ z : Sg, z = sA σ6 25 (ix i3_2) 0 := ⟨_, rfl⟩
        have hw := hw σ8 eσ8
        refine k_iast (ws1 := WL ad cA σ8) hx hb hK hP hD hS 48 wl_48 (ws_48 eσ8) hc7 dX4_gather_45 (fun H locs hP hD hS => ?_)
        refine lv_iconst (v := 0) hx hb dX4_gather_46 (by decide) ?_
        refine lv_istore (lv' := [(4, .int 0), (0, .ref (ad 46)), (1, .ref (ad 1)), (2, .ref (ad 32)), (3, .int i3_2)]) hx hb dX4_gather_47 hl (by decide) rfl (fun ls hl => ?_)
        obtain ⟨I9, μ9, hI9, hw9⟩ := hw
        have hl : lv_has ls 6 [(0, .ref (ad 46)), (1, .ref (ad 1)), (2, .ref (ad 32)), (3, .int i3_2), (4, .int 0)] := lv_sub hl [1, 2, 3, 4, 0] rfl
        suffices key9 : ∀ (n9 : Nat) (i4_9 : Int32) (σ9 : Sg), μ9 i4_9 σ9 < n9 → I9 i4_9 σ9 → ∀ (H : Heap) (locs : List Loc) (ls : Array Slot), va_P D vwCl (WL ad cA σ9) H → va_D A (WL ad cA σ9) → va_S A s.heap H locs → lv_has ls 6 [(0, .ref (ad 46)), (1, .ref (ad 1)), (2, .ref (ad 32)), (3, .int i3_2), (4, .int i4_9)] → W p l e (RM 1 0 0 23) s m args below meth c H locs (0) (0) (vx_MQ below (QM D ad cA A (fun v σ' => v = none ∧ Q σ')) (XM D ad cA A (fun _ _ => False)) args s (RM 1 0 0 23).cells (RM 1 0 0 23).slots A) (F0 m 49 ls []) from key9 _ _ _ (Nat.lt_succ_self _) hI9 _ _ ls hP hD hS hl
        clear hP hD hS hl
        intro n9
        induction n9 with
        | zero => intro _ _ h; exact absurd h (Nat.not_lt_zero _)
        | succ n9 ih9 =>
          intro i4_9 σ9 hm9 hI9 H locs ls hP hD hS hl
          have hw := hw9 i4_9 σ9 hI9
          refine lv_iload hx hb dX4_gather_49 (lv_at hl 4 rfl) ?_
          refine lv_iconst (v := 5) hx hb dX4_gather_51 (by decide) ?_
          refine lv_icmp_ge (tgt := 73) hx hb dX4_gather_52 (by decide) (fun k10 => ?_) (fun k10 => ?_)
          · skip
            have hw := hw.1 k10
            refine lv_iconst (v := 0) hx hb dX4_gather_73 (by decide) ?_
            refine lv_istore (lv' := [(4, .int 0), (0, .ref (ad 46)), (1, .ref (ad 1)), (2, .ref (ad 32)), (3, .int i3_2)]) hx hb dX4_gather_74 hl (by decide) rfl (fun ls hl => ?_)
            obtain ⟨I11, μ11, hI11, hw11⟩ := hw
            have hl : lv_has ls 6 [(0, .ref (ad 46)), (1, .ref (ad 1)), (2, .ref (ad 32)), (3, .int i3_2), (4, .int 0)] := lv_sub hl [1, 2, 3, 4, 0] rfl
            suffices key11 : ∀ (n11 : Nat) (i4_11 : Int32) (σ11 : Sg), μ11 i4_11 σ11 < n11 → I11 i4_11 σ11 → ∀ (H : Heap) (locs : List Loc) (ls : Array Slot), va_P D vwCl (WL ad cA σ11) H → va_D A (WL ad cA σ11) → va_S A s.heap H locs → lv_has ls 6 [(0, .ref (ad 46)), (1, .ref (ad 1)), (2, .ref (ad 32)), (3, .int i3_2), (4, .int i4_11)] → W p l e (RM 1 0 0 23) s m args below meth c H locs (0) (0) (vx_MQ below (QM D ad cA A (fun v σ' => v = none ∧ Q σ')) (XM D ad cA A (fun _ _ => False)) args s (RM 1 0 0 23).cells (RM 1 0 0 23).slots A) (F0 m 76 ls []) from key11 _ _ _ (Nat.lt_succ_self _) hI11 _ _ ls hP hD hS hl
            clear hP hD hS hl
            intro n11
            induction n11 with
            | zero => intro _ _ h; exact absurd h (Nat.not_lt_zero _)
            | succ n11 ih11 =>
              intro i4_11 σ11 hm11 hI11 H locs ls hP hD hS hl
              have hw := hw11 i4_11 σ11 hI11
              refine lv_iload hx hb dX4_gather_76 (lv_at hl 4 rfl) ?_
              refine lv_aload_n hx hb dX4_gather_78 rfl (lv_at hl 2 rfl) ?_
              refine k_get (ci := 5) (C := RX3) (T := TX3) (N := 6) (v := .int (gI σ11 4)) hx hb hG inX3 hown hK hP 32 wl_32 rfl 0 (by decide) gw201 rfl dX4_gather_79 ?_
              refine lv_icmp_ge (tgt := 141) hx hb dX4_gather_82 (by decide) (fun k12 => ?_) (fun k12 => ?_)
              · skip
                have hw := hw.1 k12
                refine lv_iinc (v := i3_2 + 1) (lv' := [(3, .int (i3_2 + 1)), (0, .ref (ad 46)), (1, .ref (ad 1)), (2, .ref (ad 32)), (4, .int i4_11)]) hx hb dX4_gather_141 hl (k := 3) rfl rfl (by decide) rfl (fun ls hl => ?_)
                refine lv_goto (tgt := 7) hx hb dX4_gather_144 (by decide) ?_
                exact ih2 (i3_2 + 1) σ11 (Nat.lt_of_lt_of_le hw.2 (Nat.le_of_lt_succ hm2)) hw.1 _ _ ls hP hD hS (lv_sub hl [1, 2, 3, 0] rfl)
              · skip
                have hw := hw.2 k12
                refine lv_aload_n hx hb dX4_gather_85 rfl (lv_at hl 2 rfl) ?_
                refine lv_iload hx hb dX4_gather_86 (lv_at hl 4 rfl) ?_
                refine lv_iload_n hx hb dX4_gather_88 rfl (lv_at hl 3 rfl) ?_
                refine mc_V hSF hl.1 hP hD hS hA hK hGV (m_X3_partner l hfl D ad cA g i4_11 i3_2 σ11 _ hw) goV_X4_70 pd_X3_partner ⟨(Nat.le_of_ble_eq_true rfl), (Nat.le_of_ble_eq_true rfl)⟩ ⟨(Nat.le_of_ble_eq_true rfl), (Nat.le_of_ble_eq_true rfl)⟩ (va_recv hK hP (ci := 5) (q0 := 32) rfl wl_32) dX4_gather_89 rfl (Nat.le_of_ble_eq_true rfl) (fun v9 σ9 H locs hq hP hD hS => ?_) (fun _ _ _ _ _ _ h => h.elim)
                obtain ⟨r13, hv9, hs9, hw⟩ := hq
                subst hv9
                subst σ9
                refine W.eq (g2 := F0 m 92 ls [.int r13]) rfl ?_
                refine W.widen (k := 0) (n := 0) (Nat.le_refl _) (Nat.le_refl _) ?_
                refine lv_istore (lv' := [(5, .int r13), (0, .ref (ad 46)), (1, .ref (ad 1)), (2, .ref (ad 32)), (3, .int i3_2), (4, .int i4_11)]) hx hb dX4_gather_92 hl (by decide) rfl (fun ls hl => ?_)
                refine lv_iload hx hb dX4_gather_94 (lv_at hl 0 rfl) ?_
                refine lv_if_lt (tgt := 135) hx hb dX4_gather_96 (by decide) (fun k14 => ?_) (fun k14 => ?_)
                · skip
                  have hw := hw.1 k14
                  refine lv_iinc (v := i4_11 + 1) (lv' := [(4, .int (i4_11 + 1)), (5, .int r13), (0, .ref (ad 46)), (1, .ref (ad 1)), (2, .ref (ad 32)), (3, .int i3_2)]) hx hb dX4_gather_135 hl (k := 5) rfl rfl (by decide) rfl (fun ls hl => ?_)
                  refine lv_goto (tgt := 76) hx hb dX4_gather_138 (by decide) ?_
                  exact ih11 (i4_11 + 1) σ11 (Nat.lt_of_lt_of_le hw.2 (Nat.le_of_lt_succ hm11)) hw.1 _ _ ls hP hD hS (lv_sub hl [2, 3, 4, 5, 0] rfl)
                · skip
                  have hw := hw.2 k14
                  refine lv_aload_n hx hb dX4_gather_99 rfl (lv_at hl 1 rfl) ?_
                  refine k_get (ci := 6) (C := RX4) (T := TX4) (N := 9) (v := .ref (ad 48)) hx hb hG inX4 hown hK hP 46 wl_46 rfl 5 (by decide) gw279 rfl dX4_gather_100 ?_
                  refine lv_iload_n hx hb dX4_gather_103 rfl (lv_at hl 4 rfl) ?_
                  refine lv_dup2_11 hx hb dX4_gather_104 rfl rfl ?_
                  obtain ⟨hc15, hw⟩ := hw
                  refine k_iald (v := gA σ11 25 (ix i3_2)) hx hb hK hP 48 wl_48 (ix i3_2) rfl rfl hc15 dX4_gather_105 ?_
                  refine lv_iconst (v := 1) hx hb dX4_gather_106 (by decide) ?_
                  refine lv_iload hx hb dX4_gather_107 (lv_at hl 0 rfl) ?_
                  refine k_ishl (v := iShl 1 r13) hx hb dX4_gather_109 rfl ?_
                  refine k_ior (v := (gA σ11 25 (ix i3_2)) ||| (iShl 1 r13)) hx hb dX4_gather_110 rfl ?_
                  obtain ⟨hc16, hw⟩ := hw
                  obtain ⟨σ17, eσ17⟩ : ∃ z : Sg, z = sA σ11 25 (ix i3_2) ((gA σ11 25 (ix i3_2)) ||| (iShl 1 r13)) := ⟨_, rfl⟩
                  have hw := hw σ17 eσ17
                  refine k_iast (ws1 := WL ad cA σ17) hx hb hK hP hD hS 48 wl_48 (ws_48 eσ17) hc16 dX4_gather_111 (fun H locs hP hD hS => ?_)
                  refine lv_aload_n hx hb dX4_gather_112 rfl (lv_at hl 1 rfl) ?_
                  refine k_get (ci := 6) (C := RX4) (T := TX4) (N := 9) (v := .ref (ad 47)) hx hb hG inX4 hown hK hP 46 wl_46 rfl 4 (by decide) gw278 rfl dX4_gather_113 ?_
                  refine lv_iload_n hx hb dX4_gather_116 rfl (lv_at hl 4 rfl) ?_
                  refine lv_iconst (v := 5) hx hb dX4_gather_117 (by decide) ?_
                  refine k_imul (v := i3_2 * 5) hx hb dX4_gather_118 rfl ?_
                  refine lv_aload_n hx hb dX4_gather_119 rfl (lv_at hl 3 rfl) ?_
                  refine lv_iload hx hb dX4_gather_120 (lv_at hl 5 rfl) ?_
                  refine lv_iload_n hx hb dX4_gather_122 rfl (lv_at hl 4 rfl) ?_
                  refine mc_V hSF hl.1 hP hD hS hA hK hGV (m_X3_wayFor l hfl D ad cA g i4_11 i3_2 σ17 _ hw) goV_X4_74 pd_X3_wayFor ⟨(Nat.le_of_ble_eq_true rfl), (Nat.le_of_ble_eq_true rfl)⟩ ⟨(Nat.le_of_ble_eq_true rfl), (Nat.le_of_ble_eq_true rfl)⟩ (va_recv hK hP (ci := 5) (q0 := 32) rfl wl_32) dX4_gather_123 rfl (Nat.le_of_ble_eq_true rfl) (fun v9 σ9 H locs hq hP hD hS => ?_) (fun _ _ _ _ _ _ h => h.elim)
                  obtain ⟨r18, hv9, hs9, hw⟩ := hq
                  subst hv9
                  subst σ9
                  refine W.eq (g2 := F0 m 126 ls [.int r18, .int (i3_2 * 5), .ref (ad 47)]) rfl ?_
                  refine W.widen (k := 0) (n := 0) (Nat.le_refl _) (Nat.le_refl _) ?_
                  refine k_iadd (v := (i3_2 * 5) + r18) hx hb dX4_gather_126 rfl ?_
                  refine lv_dup2_11 hx hb dX4_gather_127 rfl rfl ?_
                  obtain ⟨hc19, hw⟩ := hw
                  refine k_iald (v := gA σ17 24 (ix ((i3_2 * 5) + r18))) hx hb hK hP 47 wl_47 (ix ((i3_2 * 5) + r18)) rfl rfl hc19 dX4_gather_128 ?_
                  refine lv_iconst (v := 1) hx hb dX4_gather_129 (by decide) ?_
                  refine lv_iload hx hb dX4_gather_130 (lv_at hl 0 rfl) ?_
                  refine k_ishl (v := iShl 1 r13) hx hb dX4_gather_132 rfl ?_
                  refine k_ior (v := (gA σ17 24 (ix ((i3_2 * 5) + r18))) ||| (iShl 1 r13)) hx hb dX4_gather_133 rfl ?_
                  obtain ⟨hc20, hw⟩ := hw
                  obtain ⟨σ21, eσ21⟩ : ∃ z : Sg, z = sA σ17 24 (ix ((i3_2 * 5) + r18)) ((gA σ17 24 (ix ((i3_2 * 5) + r18))) ||| (iShl 1 r13)) := ⟨_, rfl⟩
                  have hw := hw σ21 eσ21
                  refine k_iast (ws1 := WL ad cA σ21) hx hb hK hP hD hS 47 wl_47 (ws_47 eσ21) hc20 dX4_gather_134 (fun H locs hP hD hS => ?_)
                  refine lv_iinc (v := i4_11 + 1) (lv' := [(4, .int (i4_11 + 1)), (5, .int r13), (0, .ref (ad 46)), (1, .ref (ad 1)), (2, .ref (ad 32)), (3, .int i3_2)]) hx hb dX4_gather_135 hl (k := 5) rfl rfl (by decide) rfl (fun ls hl => ?_)
                  refine lv_goto (tgt := 76) hx hb dX4_gather_138 (by decide) ?_
                  exact ih11 (i4_11 + 1) σ21 (Nat.lt_of_lt_of_le hw.2 (Nat.le_of_lt_succ hm11)) hw.1 _ _ ls hP hD hS (lv_sub hl [2, 3, 4, 5, 0] rfl)
          · skip
            have hw := hw.2 k10
            refine lv_aload_n hx hb dX4_gather_55 rfl (lv_at hl 0 rfl) ?_
            refine k_get (ci := 6) (C := RX4) (T := TX4) (N := 9) (v := .ref (ad 47)) hx hb hG inX4 hown hK hP 46 wl_46 rfl 4 (by decide) gw278 rfl dX4_gather_56 ?_
            refine lv_iload_n hx hb dX4_gather_59 rfl (lv_at hl 3 rfl) ?_
            refine lv_iconst (v := 5) hx hb dX4_gather_60 (by decide) ?_
            refine k_imul (v := i3_2 * 5) hx hb dX4_gather_61 rfl ?_
            refine lv_iload hx hb dX4_gather_62 (lv_at hl 4 rfl) ?_
            refine k_iadd (v := (i3_2 * 5) + i4_9) hx hb dX4_gather_64 rfl ?_
            refine lv_iconst (v := 0) hx hb dX4_gather_65 (by decide) ?_
            obtain ⟨hc22, hw⟩ := hw
            obtain ⟨σ23, eσ23⟩ : ∃ z : Sg, z = sA σ9 24 (ix ((i3_2 * 5) + i4_9)) 0 := ⟨_, rfl⟩
            have hw := hw σ23 eσ23
            refine k_iast (ws1 := WL ad cA σ23) hx hb hK hP hD hS 47 wl_47 (ws_47 eσ23) hc22 dX4_gather_66 (fun H locs hP hD hS => ?_)
            refine lv_iinc (v := i4_9 + 1) (lv' := [(4, .int (i4_9 + 1)), (0, .ref (ad 46)), (1, .ref (ad 1)), (2, .ref (ad 32)), (3, .int i3_2)]) hx hb dX4_gather_67 hl (k := 4) rfl rfl (by decide) rfl (fun ls hl => ?_)
            refine lv_goto (tgt := 49) hx hb dX4_gather_70 (by decide) ?_
            exact ih9 (i4_9 + 1) σ23 (Nat.lt_of_lt_of_le hw.2 (Nat.le_of_lt_succ hm9)) hw.1 _ _ ls hP hD hS (lv_sub hl [1, 2, 3, 4, 0] rfl)
      · skip
        have hw := hw.2 k5
        refine lv_iconst (v := 0) hx hb dX4_gather_28 (by decide) ?_
        refine lv_goto (tgt := 35) hx hb dX4_gather_29 (by decide) ?_
        refine k_ior (v := (gI σ2 12) ||| 0) hx hb dX4_gather_35 rfl ?_
        obtain ⟨σ24, eσ24⟩ : ∃ z : Sg, z = sI σ2 12 ((gI σ2 12) ||| 0) := ⟨_, rfl⟩
        have hw := hw σ24 eσ24
        refine k_put (ci := 6) (C := RX4) (T := TX4) (N := 9) (v := .int ((gI σ2 12) ||| 0)) (ws1 := WL ad cA σ24) hx hb hG inX4 tyX4 tyX4_ok nmX4 hown hK hP hD hS 46 wl_46 rfl 3 (by decide) gw277 rfl ⟨rfl, rfl⟩ (ws_46_3 eσ24) (Nat.le_of_ble_eq_true rfl) dX4_gather_36 (fun H locs hP hD hS => ?_)
        refine lv_aload_n hx hb dX4_gather_39 rfl (lv_at hl 0 rfl) ?_
        refine k_get (ci := 6) (C := RX4) (T := TX4) (N := 9) (v := .ref (ad 48)) hx hb hG inX4 hown hK hP 46 wl_46 rfl 5 (by decide) gw279 rfl dX4_gather_40 ?_
        refine lv_iload_n hx hb dX4_gather_43 rfl (lv_at hl 3 rfl) ?_
        refine lv_iconst (v := 0) hx hb dX4_gather_44 (by decide) ?_
        obtain ⟨hc25, hw⟩ := hw
        obtain ⟨σ26, eσ26⟩ : ∃ z : Sg, z = sA σ24 25 (ix i3_2) 0 := ⟨_, rfl⟩
        have hw := hw σ26 eσ26
        refine k_iast (ws1 := WL ad cA σ26) hx hb hK hP hD hS 48 wl_48 (ws_48 eσ26) hc25 dX4_gather_45 (fun H locs hP hD hS => ?_)
        refine lv_iconst (v := 0) hx hb dX4_gather_46 (by decide) ?_
        refine lv_istore (lv' := [(4, .int 0), (0, .ref (ad 46)), (1, .ref (ad 1)), (2, .ref (ad 32)), (3, .int i3_2)]) hx hb dX4_gather_47 hl (by decide) rfl (fun ls hl => ?_)
        obtain ⟨I27, μ27, hI27, hw27⟩ := hw
        have hl : lv_has ls 6 [(0, .ref (ad 46)), (1, .ref (ad 1)), (2, .ref (ad 32)), (3, .int i3_2), (4, .int 0)] := lv_sub hl [1, 2, 3, 4, 0] rfl
        suffices key27 : ∀ (n27 : Nat) (i4_27 : Int32) (σ27 : Sg), μ27 i4_27 σ27 < n27 → I27 i4_27 σ27 → ∀ (H : Heap) (locs : List Loc) (ls : Array Slot), va_P D vwCl (WL ad cA σ27) H → va_D A (WL ad cA σ27) → va_S A s.heap H locs → lv_has ls 6 [(0, .ref (ad 46)), (1, .ref (ad 1)), (2, .ref (ad 32)), (3, .int i3_2), (4, .int i4_27)] → W p l e (RM 1 0 0 23) s m args below meth c H locs (0) (0) (vx_MQ below (QM D ad cA A (fun v σ' => v = none ∧ Q σ')) (XM D ad cA A (fun _ _ => False)) args s (RM 1 0 0 23).cells (RM 1 0 0 23).slots A) (F0 m 49 ls []) from key27 _ _ _ (Nat.lt_succ_self _) hI27 _ _ ls hP hD hS hl
        clear hP hD hS hl
        intro n27
        induction n27 with
        | zero => intro _ _ h; exact absurd h (Nat.not_lt_zero _)
        | succ n27 ih27 =>
          intro i4_27 σ27 hm27 hI27 H locs ls hP hD hS hl
          have hw := hw27 i4_27 σ27 hI27
          refine lv_iload hx hb dX4_gather_49 (lv_at hl 4 rfl) ?_
          refine lv_iconst (v := 5) hx hb dX4_gather_51 (by decide) ?_
          refine lv_icmp_ge (tgt := 73) hx hb dX4_gather_52 (by decide) (fun k28 => ?_) (fun k28 => ?_)
          · skip
            have hw := hw.1 k28
            refine lv_iconst (v := 0) hx hb dX4_gather_73 (by decide) ?_
            refine lv_istore (lv' := [(4, .int 0), (0, .ref (ad 46)), (1, .ref (ad 1)), (2, .ref (ad 32)), (3, .int i3_2)]) hx hb dX4_gather_74 hl (by decide) rfl (fun ls hl => ?_)
            obtain ⟨I29, μ29, hI29, hw29⟩ := hw
            have hl : lv_has ls 6 [(0, .ref (ad 46)), (1, .ref (ad 1)), (2, .ref (ad 32)), (3, .int i3_2), (4, .int 0)] := lv_sub hl [1, 2, 3, 4, 0] rfl
            suffices key29 : ∀ (n29 : Nat) (i4_29 : Int32) (σ29 : Sg), μ29 i4_29 σ29 < n29 → I29 i4_29 σ29 → ∀ (H : Heap) (locs : List Loc) (ls : Array Slot), va_P D vwCl (WL ad cA σ29) H → va_D A (WL ad cA σ29) → va_S A s.heap H locs → lv_has ls 6 [(0, .ref (ad 46)), (1, .ref (ad 1)), (2, .ref (ad 32)), (3, .int i3_2), (4, .int i4_29)] → W p l e (RM 1 0 0 23) s m args below meth c H locs (0) (0) (vx_MQ below (QM D ad cA A (fun v σ' => v = none ∧ Q σ')) (XM D ad cA A (fun _ _ => False)) args s (RM 1 0 0 23).cells (RM 1 0 0 23).slots A) (F0 m 76 ls []) from key29 _ _ _ (Nat.lt_succ_self _) hI29 _ _ ls hP hD hS hl
            clear hP hD hS hl
            intro n29
            induction n29 with
            | zero => intro _ _ h; exact absurd h (Nat.not_lt_zero _)
            | succ n29 ih29 =>
              intro i4_29 σ29 hm29 hI29 H locs ls hP hD hS hl
              have hw := hw29 i4_29 σ29 hI29
              refine lv_iload hx hb dX4_gather_76 (lv_at hl 4 rfl) ?_
              refine lv_aload_n hx hb dX4_gather_78 rfl (lv_at hl 2 rfl) ?_
              refine k_get (ci := 5) (C := RX3) (T := TX3) (N := 6) (v := .int (gI σ29 4)) hx hb hG inX3 hown hK hP 32 wl_32 rfl 0 (by decide) gw201 rfl dX4_gather_79 ?_
              refine lv_icmp_ge (tgt := 141) hx hb dX4_gather_82 (by decide) (fun k30 => ?_) (fun k30 => ?_)
              · skip
                have hw := hw.1 k30
                refine lv_iinc (v := i3_2 + 1) (lv' := [(3, .int (i3_2 + 1)), (0, .ref (ad 46)), (1, .ref (ad 1)), (2, .ref (ad 32)), (4, .int i4_29)]) hx hb dX4_gather_141 hl (k := 3) rfl rfl (by decide) rfl (fun ls hl => ?_)
                refine lv_goto (tgt := 7) hx hb dX4_gather_144 (by decide) ?_
                exact ih2 (i3_2 + 1) σ29 (Nat.lt_of_lt_of_le hw.2 (Nat.le_of_lt_succ hm2)) hw.1 _ _ ls hP hD hS (lv_sub hl [1, 2, 3, 0] rfl)
              · skip
                have hw := hw.2 k30
                refine lv_aload_n hx hb dX4_gather_85 rfl (lv_at hl 2 rfl) ?_
                refine lv_iload hx hb dX4_gather_86 (lv_at hl 4 rfl) ?_
                refine lv_iload_n hx hb dX4_gather_88 rfl (lv_at hl 3 rfl) ?_
                refine mc_V hSF hl.1 hP hD hS hA hK hGV (m_X3_partner l hfl D ad cA g i4_29 i3_2 σ29 _ hw) goV_X4_70 pd_X3_partner ⟨(Nat.le_of_ble_eq_true rfl), (Nat.le_of_ble_eq_true rfl)⟩ ⟨(Nat.le_of_ble_eq_true rfl), (Nat.le_of_ble_eq_true rfl)⟩ (va_recv hK hP (ci := 5) (q0 := 32) rfl wl_32) dX4_gather_89 rfl (Nat.le_of_ble_eq_true rfl) (fun v9 σ9 H locs hq hP hD hS => ?_) (fun _ _ _ _ _ _ h => h.elim)
                obtain ⟨r31, hv9, hs9, hw⟩ := hq
                subst hv9
                subst σ9
                refine W.eq (g2 := F0 m 92 ls [.int r31]) rfl ?_
                refine W.widen (k := 0) (n := 0) (Nat.le_refl _) (Nat.le_refl _) ?_
                refine lv_istore (lv' := [(5, .int r31), (0, .ref (ad 46)), (1, .ref (ad 1)), (2, .ref (ad 32)), (3, .int i3_2), (4, .int i4_29)]) hx hb dX4_gather_92 hl (by decide) rfl (fun ls hl => ?_)
                refine lv_iload hx hb dX4_gather_94 (lv_at hl 0 rfl) ?_
                refine lv_if_lt (tgt := 135) hx hb dX4_gather_96 (by decide) (fun k32 => ?_) (fun k32 => ?_)
                · skip
                  have hw := hw.1 k32
                  refine lv_iinc (v := i4_29 + 1) (lv' := [(4, .int (i4_29 + 1)), (5, .int r31), (0, .ref (ad 46)), (1, .ref (ad 1)), (2, .ref (ad 32)), (3, .int i3_2)]) hx hb dX4_gather_135 hl (k := 5) rfl rfl (by decide) rfl (fun ls hl => ?_)
                  refine lv_goto (tgt := 76) hx hb dX4_gather_138 (by decide) ?_
                  exact ih29 (i4_29 + 1) σ29 (Nat.lt_of_lt_of_le hw.2 (Nat.le_of_lt_succ hm29)) hw.1 _ _ ls hP hD hS (lv_sub hl [2, 3, 4, 5, 0] rfl)
                · skip
                  have hw := hw.2 k32
                  refine lv_aload_n hx hb dX4_gather_99 rfl (lv_at hl 1 rfl) ?_
                  refine k_get (ci := 6) (C := RX4) (T := TX4) (N := 9) (v := .ref (ad 48)) hx hb hG inX4 hown hK hP 46 wl_46 rfl 5 (by decide) gw279 rfl dX4_gather_100 ?_
                  refine lv_iload_n hx hb dX4_gather_103 rfl (lv_at hl 4 rfl) ?_
                  refine lv_dup2_11 hx hb dX4_gather_104 rfl rfl ?_
                  obtain ⟨hc33, hw⟩ := hw
                  refine k_iald (v := gA σ29 25 (ix i3_2)) hx hb hK hP 48 wl_48 (ix i3_2) rfl rfl hc33 dX4_gather_105 ?_
                  refine lv_iconst (v := 1) hx hb dX4_gather_106 (by decide) ?_
                  refine lv_iload hx hb dX4_gather_107 (lv_at hl 0 rfl) ?_
                  refine k_ishl (v := iShl 1 r31) hx hb dX4_gather_109 rfl ?_
                  refine k_ior (v := (gA σ29 25 (ix i3_2)) ||| (iShl 1 r31)) hx hb dX4_gather_110 rfl ?_
                  obtain ⟨hc34, hw⟩ := hw
                  obtain ⟨σ35, eσ35⟩ : ∃ z : Sg, z = sA σ29 25 (ix i3_2) ((gA σ29 25 (ix i3_2)) ||| (iShl 1 r31)) := ⟨_, rfl⟩
                  have hw := hw σ35 eσ35
                  refine k_iast (ws1 := WL ad cA σ35) hx hb hK hP hD hS 48 wl_48 (ws_48 eσ35) hc34 dX4_gather_111 (fun H locs hP hD hS => ?_)
                  refine lv_aload_n hx hb dX4_gather_112 rfl (lv_at hl 1 rfl) ?_
                  refine k_get (ci := 6) (C := RX4) (T := TX4) (N := 9) (v := .ref (ad 47)) hx hb hG inX4 hown hK hP 46 wl_46 rfl 4 (by decide) gw278 rfl dX4_gather_113 ?_
                  refine lv_iload_n hx hb dX4_gather_116 rfl (lv_at hl 4 rfl) ?_
                  refine lv_iconst (v := 5) hx hb dX4_gather_117 (by decide) ?_
                  refine k_imul (v := i3_2 * 5) hx hb dX4_gather_118 rfl ?_
                  refine lv_aload_n hx hb dX4_gather_119 rfl (lv_at hl 3 rfl) ?_
                  refine lv_iload hx hb dX4_gather_120 (lv_at hl 5 rfl) ?_
                  refine lv_iload_n hx hb dX4_gather_122 rfl (lv_at hl 4 rfl) ?_
                  refine mc_V hSF hl.1 hP hD hS hA hK hGV (m_X3_wayFor l hfl D ad cA g i4_29 i3_2 σ35 _ hw) goV_X4_74 pd_X3_wayFor ⟨(Nat.le_of_ble_eq_true rfl), (Nat.le_of_ble_eq_true rfl)⟩ ⟨(Nat.le_of_ble_eq_true rfl), (Nat.le_of_ble_eq_true rfl)⟩ (va_recv hK hP (ci := 5) (q0 := 32) rfl wl_32) dX4_gather_123 rfl (Nat.le_of_ble_eq_true rfl) (fun v9 σ9 H locs hq hP hD hS => ?_) (fun _ _ _ _ _ _ h => h.elim)
                  obtain ⟨r36, hv9, hs9, hw⟩ := hq
                  subst hv9
                  subst σ9
                  refine W.eq (g2 := F0 m 126 ls [.int r36, .int (i3_2 * 5), .ref (ad 47)]) rfl ?_
                  refine W.widen (k := 0) (n := 0) (Nat.le_refl _) (Nat.le_refl _) ?_
                  refine k_iadd (v := (i3_2 * 5) + r36) hx hb dX4_gather_126 rfl ?_
                  refine lv_dup2_11 hx hb dX4_gather_127 rfl rfl ?_
                  obtain ⟨hc37, hw⟩ := hw
                  refine k_iald (v := gA σ35 24 (ix ((i3_2 * 5) + r36))) hx hb hK hP 47 wl_47 (ix ((i3_2 * 5) + r36)) rfl rfl hc37 dX4_gather_128 ?_
                  refine lv_iconst (v := 1) hx hb dX4_gather_129 (by decide) ?_
                  refine lv_iload hx hb dX4_gather_130 (lv_at hl 0 rfl) ?_
                  refine k_ishl (v := iShl 1 r31) hx hb dX4_gather_132 rfl ?_
                  refine k_ior (v := (gA σ35 24 (ix ((i3_2 * 5) + r36))) ||| (iShl 1 r31)) hx hb dX4_gather_133 rfl ?_
                  obtain ⟨hc38, hw⟩ := hw
                  obtain ⟨σ39, eσ39⟩ : ∃ z : Sg, z = sA σ35 24 (ix ((i3_2 * 5) + r36)) ((gA σ35 24 (ix ((i3_2 * 5) + r36))) ||| (iShl 1 r31)) := ⟨_, rfl⟩
                  have hw := hw σ39 eσ39
                  refine k_iast (ws1 := WL ad cA σ39) hx hb hK hP hD hS 47 wl_47 (ws_47 eσ39) hc38 dX4_gather_134 (fun H locs hP hD hS => ?_)
                  refine lv_iinc (v := i4_29 + 1) (lv' := [(4, .int (i4_29 + 1)), (5, .int r31), (0, .ref (ad 46)), (1, .ref (ad 1)), (2, .ref (ad 32)), (3, .int i3_2)]) hx hb dX4_gather_135 hl (k := 5) rfl rfl (by decide) rfl (fun ls hl => ?_)
                  refine lv_goto (tgt := 76) hx hb dX4_gather_138 (by decide) ?_
                  exact ih29 (i4_29 + 1) σ39 (Nat.lt_of_lt_of_le hw.2 (Nat.le_of_lt_succ hm29)) hw.1 _ _ ls hP hD hS (lv_sub hl [2, 3, 4, 5, 0] rfl)
          · skip
            have hw := hw.2 k28
            refine lv_aload_n hx hb dX4_gather_55 rfl (lv_at hl 0 rfl) ?_
            refine k_get (ci := 6) (C := RX4) (T := TX4) (N := 9) (v := .ref (ad 47)) hx hb hG inX4 hown hK hP 46 wl_46 rfl 4 (by decide) gw278 rfl dX4_gather_56 ?_
            refine lv_iload_n hx hb dX4_gather_59 rfl (lv_at hl 3 rfl) ?_
            refine lv_iconst (v := 5) hx hb dX4_gather_60 (by decide) ?_
            refine k_imul (v := i3_2 * 5) hx hb dX4_gather_61 rfl ?_
            refine lv_iload hx hb dX4_gather_62 (lv_at hl 4 rfl) ?_
            refine k_iadd (v := (i3_2 * 5) + i4_27) hx hb dX4_gather_64 rfl ?_
            refine lv_iconst (v := 0) hx hb dX4_gather_65 (by decide) ?_
            obtain ⟨hc40, hw⟩ := hw
            obtain ⟨σ41, eσ41⟩ : ∃ z : Sg, z = sA σ27 24 (ix ((i3_2 * 5) + i4_27)) 0 := ⟨_, rfl⟩
            have hw := hw σ41 eσ41
            refine k_iast (ws1 := WL ad cA σ41) hx hb hK hP hD hS 47 wl_47 (ws_47 eσ41) hc40 dX4_gather_66 (fun H locs hP hD hS => ?_)
            refine lv_iinc (v := i4_27 + 1) (lv' := [(4, .int (i4_27 + 1)), (0, .ref (ad 46)), (1, .ref (ad 1)), (2, .ref (ad 32)), (3, .int i3_2)]) hx hb dX4_gather_67 hl (k := 4) rfl rfl (by decide) rfl (fun ls hl => ?_)
            refine lv_goto (tgt := 49) hx hb dX4_gather_70 (by decide) ?_
            exact ih27 (i4_27 + 1) σ41 (Nat.lt_of_lt_of_le hw.2 (Nat.le_of_lt_succ hm27)) hw.1 _ _ ls hP hD hS (lv_sub hl [1, 2, 3, 4, 0] rfl)

set_option maxHeartbeats 4000000 in
set_option maxRecDepth 100000 in
theorem m_X4_propsFor (l : Launch) (hfl : l.stackTraces = false) (D : va_G) (ad : Nat → Nat) (cA : Nat → ClassId) (g : gv_T) (p1 : Int32) (σ : Sg) (Q : Int32 → Prop) (hw : w_X4_propsFor p1 σ Q) : MC l yX4_propsFor cX4_propsFor 5 (some .int) (RM 1 0 0 20) D ad cA g [.ref (ad 46), .int p1] σ (fun v σ' => ∃ r : Int32, v = some (.int r) ∧ σ' = σ ∧ Q r) (fun _ _ => False) := by
  refine MC.of (plainFor_of_name (by decide +kernel)) (Nat.le_of_ble_eq_true rfl) ?_
  intro p e s m args below meth c A ls hx hb hr hml hown hG hlocks htab hA hS hP hK hD hGV hl
  have hown : s.vm.findClass RX4 = some m.cls := hown
  have hl : lv_has ls 5 [(0, .ref (ad 46)), (1, .int p1)] := hl
  have hSF : CF p m c cX4_propsFor 5 s args RX4 := ⟨hx, hb, hml, hown, hG⟩
  refine lv_iconst (v := 0) hx hb dX4_propsFor_0 (by decide) ?_
  refine lv_istore_n (lv' := [(2, .int 0), (0, .ref (ad 46)), (1, .int p1)]) hx hb dX4_propsFor_1 rfl hl (by decide) rfl (fun ls hl => ?_)
  refine lv_iconst (v := 0) hx hb dX4_propsFor_2 (by decide) ?_
  refine lv_istore_n (lv' := [(3, .int 0), (2, .int 0), (0, .ref (ad 46)), (1, .int p1)]) hx hb dX4_propsFor_3 rfl hl (by decide) rfl (fun ls hl => ?_)
  obtain ⟨I1, μ1, hI1, hw1⟩ := hw
  have hl : lv_has ls 5 [(0, .ref (ad 46)), (1, .int p1), (2, .int 0), (3, .int 0)] := lv_sub hl [2, 3, 1, 0] rfl
  suffices key1 : ∀ (n1 : Nat) (i2_1 : Int32) (i3_1 : Int32), μ1 i2_1 i3_1 < n1 → I1 i2_1 i3_1 → ∀ (H : Heap) (locs : List Loc) (ls : Array Slot), va_P D vwCl (WL ad cA σ) H → va_D A (WL ad cA σ) → va_S A s.heap H locs → lv_has ls 5 [(0, .ref (ad 46)), (1, .int p1), (2, .int i2_1), (3, .int i3_1)] → W p l e (RM 1 0 0 20) s m args below meth c H locs (0) (0) (vx_MQ below (QM D ad cA A (fun v σ' => ∃ r : Int32, v = some (.int r) ∧ σ' = σ ∧ Q r)) (XM D ad cA A (fun _ _ => False)) args s (RM 1 0 0 20).cells (RM 1 0 0 20).slots A) (F0 m 4 ls []) from key1 _ _ _ (Nat.lt_succ_self _) hI1 _ _ ls hP hD hS hl
  clear hP hD hS hl
  intro n1
  induction n1 with
  | zero => intro _ _ h; exact absurd h (Nat.not_lt_zero _)
  | succ n1 ih1 =>
    intro i2_1 i3_1 hm1 hI1 H locs ls hP hD hS hl
    have hw := hw1 i2_1 i3_1 hI1
    refine lv_iload_n hx hb dX4_propsFor_4 rfl (lv_at hl 3 rfl) ?_
    refine lv_bipush (v := 9) hx hb dX4_propsFor_5 (by decide) ?_
    refine lv_icmp_ge (tgt := 59) hx hb dX4_propsFor_7 (by decide) (fun k2 => ?_) (fun k2 => ?_)
    · skip
      have hw := hw.1 k2
      refine lv_iload_n hx hb dX4_propsFor_59 rfl (lv_at hl 2 rfl) ?_
      exact vx_ret (m_i ⟨_, rfl, rfl, hw⟩ hx hb hr hlocks rfl hP hD hS (Nat.le_of_ble_eq_true rfl) (Nat.le_of_ble_eq_true rfl) dX4_propsFor_60)
    · skip
      have hw := hw.2 k2
      refine lv_iload_n hx hb dX4_propsFor_10 rfl (lv_at hl 1 rfl) ?_
      refine lv_aload_n hx hb dX4_propsFor_11 rfl (lv_at hl 0 rfl) ?_
      refine k_get (ci := 6) (C := RX4) (T := TX4) (N := 9) (v := .int (gI σ 12)) hx hb hG inX4 hown hK hP 46 wl_46 rfl 3 (by decide) gw277 rfl dX4_propsFor_12 ?_
      refine k_iand (v := p1 &&& (gI σ 12)) hx hb dX4_propsFor_15 rfl ?_
      refine lv_iconst (v := 1) hx hb dX4_propsFor_16 (by decide) ?_
      refine lv_iload_n hx hb dX4_propsFor_17 rfl (lv_at hl 3 rfl) ?_
      refine k_ishl (v := iShl 1 i3_1) hx hb dX4_propsFor_18 rfl ?_
      refine k_iand (v := (p1 &&& (gI σ 12)) &&& (iShl 1 i3_1)) hx hb dX4_propsFor_19 rfl ?_
      refine lv_if_eq (tgt := 27) hx hb dX4_propsFor_20 (by decide) (fun k3 => ?_) (fun k3 => ?_)
      · skip
        have hw := hw.1 k3
        refine lv_iconst (v := 0) hx hb dX4_propsFor_27 (by decide) ?_
        refine lv_istore (lv' := [(4, .int 0), (0, .ref (ad 46)), (1, .int p1), (2, .int i2_1), (3, .int i3_1)]) hx hb dX4_propsFor_28 hl (by decide) rfl (fun ls hl => ?_)
        refine lv_iload hx hb dX4_propsFor_30 (lv_at hl 0 rfl) ?_
        refine k_if_eq_t (tgt := 53) hx hb dX4_propsFor_32 (by decide) (by decide) ?_
        refine lv_iinc (v := i3_1 + 1) (lv' := [(3, .int (i3_1 + 1)), (4, .int 0), (0, .ref (ad 46)), (1, .int p1), (2, .int i2_1)]) hx hb dX4_propsFor_53 hl (k := 4) rfl rfl (by decide) rfl (fun ls hl => ?_)
        refine lv_goto (tgt := 4) hx hb dX4_propsFor_56 (by decide) ?_
        exact ih1 i2_1 (i3_1 + 1) (Nat.lt_of_lt_of_le hw.2 (Nat.le_of_lt_succ hm1)) hw.1 _ _ ls hP hD hS (lv_sub hl [2, 3, 4, 0] rfl)
      · skip
        have hw := hw.2 k3
        refine lv_iconst (v := 1) hx hb dX4_propsFor_23 (by decide) ?_
        refine lv_goto (tgt := 28) hx hb dX4_propsFor_24 (by decide) ?_
        refine lv_istore (lv' := [(4, .int 1), (0, .ref (ad 46)), (1, .int p1), (2, .int i2_1), (3, .int i3_1)]) hx hb dX4_propsFor_28 hl (by decide) rfl (fun ls hl => ?_)
        refine lv_iload hx hb dX4_propsFor_30 (lv_at hl 0 rfl) ?_
        refine k_if_eq_f (tgt := 53) hx hb dX4_propsFor_32 (by decide) (by decide) ?_
        refine lv_aload_n hx hb dX4_propsFor_35 rfl (lv_at hl 1 rfl) ?_
        refine k_get (ci := 6) (C := RX4) (T := TX4) (N := 9) (v := .ref (ad 48)) hx hb hG inX4 hown hK hP 46 wl_46 rfl 5 (by decide) gw279 rfl dX4_propsFor_36 ?_
        refine lv_iload_n hx hb dX4_propsFor_39 rfl (lv_at hl 4 rfl) ?_
        obtain ⟨hc4, hw⟩ := hw
        refine k_iald (v := gA σ 25 (ix i3_1)) hx hb hK hP 48 wl_48 (ix i3_1) rfl rfl hc4 dX4_propsFor_40 ?_
        refine lv_iload_n hx hb dX4_propsFor_41 rfl (lv_at hl 2 rfl) ?_
        refine k_iand (v := (gA σ 25 (ix i3_1)) &&& p1) hx hb dX4_propsFor_42 rfl ?_
        refine mc_S hSF hl.1 hP hD hS hA hK hGV (m_J6_bitCount_0f7a4 l hfl D ad cA g ((gA σ 25 (ix i3_1)) &&& p1) σ _ hw) goS_X4_77 pd_J6_bitCount_0f7a4.2 ⟨(Nat.le_of_ble_eq_true rfl), (Nat.le_of_ble_eq_true rfl)⟩ ⟨(Nat.le_of_ble_eq_true rfl), (Nat.le_of_ble_eq_true rfl)⟩ dX4_propsFor_43 rfl (Nat.le_of_ble_eq_true rfl) (fun v9 σ9 H locs hq hP hD hS => ?_) (fun _ _ _ _ _ _ h => h.elim)
        obtain ⟨r5, hv9, hs9, hw⟩ := hq
        subst hv9
        subst σ9
        refine W.eq (g2 := F0 m 46 ls [.int r5]) rfl ?_
        refine W.widen (k := 0) (n := 0) (Nat.le_refl _) (Nat.le_refl _) ?_
        refine lv_iconst (v := 2) hx hb dX4_propsFor_46 (by decide) ?_
        refine lv_icmp_ge (tgt := 53) hx hb dX4_propsFor_47 (by decide) (fun k6 => ?_) (fun k6 => ?_)
        · skip
          have hw := hw.1 k6
          refine lv_iinc (v := i3_1 + 1) (lv' := [(3, .int (i3_1 + 1)), (4, .int 1), (0, .ref (ad 46)), (1, .int p1), (2, .int i2_1)]) hx hb dX4_propsFor_53 hl (k := 4) rfl rfl (by decide) rfl (fun ls hl => ?_)
          refine lv_goto (tgt := 4) hx hb dX4_propsFor_56 (by decide) ?_
          exact ih1 i2_1 (i3_1 + 1) (Nat.lt_of_lt_of_le hw.2 (Nat.le_of_lt_succ hm1)) hw.1 _ _ ls hP hD hS (lv_sub hl [2, 3, 4, 0] rfl)
        · skip
          have hw := hw.2 k6
          refine lv_iinc (v := i2_1 + 1) (lv' := [(2, .int (i2_1 + 1)), (4, .int 1), (0, .ref (ad 46)), (1, .int p1), (3, .int i3_1)]) hx hb dX4_propsFor_50 hl (k := 3) rfl rfl (by decide) rfl (fun ls hl => ?_)
          refine lv_iinc (v := i3_1 + 1) (lv' := [(3, .int (i3_1 + 1)), (2, .int (i2_1 + 1)), (4, .int 1), (0, .ref (ad 46)), (1, .int p1)]) hx hb dX4_propsFor_53 hl (k := 4) rfl rfl (by decide) rfl (fun ls hl => ?_)
          refine lv_goto (tgt := 4) hx hb dX4_propsFor_56 (by decide) ?_
          exact ih1 (i2_1 + 1) (i3_1 + 1) (Nat.lt_of_lt_of_le hw.2 (Nat.le_of_lt_succ hm1)) hw.1 _ _ ls hP hD hS (lv_sub hl [3, 4, 1, 0] rfl)

set_option maxHeartbeats 4000000 in
set_option maxRecDepth 100000 in
theorem m_X4_canMoveIn (l : Launch) (hfl : l.stackTraces = false) (D : va_G) (ad : Nat → Nat) (cA : Nat → ClassId) (g : gv_T) (p1 : Int32) (p2 : Int32) (σ : Sg) (Q : Int32 → Prop) (hw : w_X4_canMoveIn p1 p2 σ Q) : MC l yX4_canMoveIn cX4_canMoveIn 5 (some .boolean) (RM 0 0 0 0) D ad cA g [.ref (ad 46), .int p1, .int p2] σ (fun v σ' => ∃ r : Int32, v = some (.int r) ∧ σ' = σ ∧ Q r) (fun _ _ => False) := by
  refine MC.of (plainFor_of_name (by decide +kernel)) (Nat.le_of_ble_eq_true rfl) ?_
  intro p e s m args below meth c A ls hx hb hr hml hown hG hlocks htab hA hS hP hK hD hGV hl
  have hown : s.vm.findClass RX4 = some m.cls := hown
  have hl : lv_has ls 5 [(0, .ref (ad 46)), (1, .int p1), (2, .int p2)] := hl
  have hSF : CF p m c cX4_canMoveIn 5 s args RX4 := ⟨hx, hb, hml, hown, hG⟩
  refine lv_iconst (v := 0) hx hb dX4_canMoveIn_0 (by decide) ?_
  refine lv_istore_n (lv' := [(3, .int 0), (0, .ref (ad 46)), (1, .int p1), (2, .int p2)]) hx hb dX4_canMoveIn_1 rfl hl (by decide) rfl (fun ls hl => ?_)
  refine lv_iconst (v := 0) hx hb dX4_canMoveIn_2 (by decide) ?_
  refine lv_istore (lv' := [(4, .int 0), (3, .int 0), (0, .ref (ad 46)), (1, .int p1), (2, .int p2)]) hx hb dX4_canMoveIn_3 hl (by decide) rfl (fun ls hl => ?_)
  obtain ⟨I1, μ1, hI1, hw1⟩ := hw
  have hl : lv_has ls 5 [(0, .ref (ad 46)), (1, .int p1), (2, .int p2), (3, .int 0), (4, .int 0)] := lv_sub hl [2, 3, 4, 1, 0] rfl
  suffices key1 : ∀ (n1 : Nat) (i3_1 : Int32) (i4_1 : Int32), μ1 i3_1 i4_1 < n1 → I1 i3_1 i4_1 → ∀ (H : Heap) (locs : List Loc) (ls : Array Slot), va_P D vwCl (WL ad cA σ) H → va_D A (WL ad cA σ) → va_S A s.heap H locs → lv_has ls 5 [(0, .ref (ad 46)), (1, .int p1), (2, .int p2), (3, .int i3_1), (4, .int i4_1)] → W p l e (RM 0 0 0 0) s m args below meth c H locs (0) (0) (vx_MQ below (QM D ad cA A (fun v σ' => ∃ r : Int32, v = some (.int r) ∧ σ' = σ ∧ Q r)) (XM D ad cA A (fun _ _ => False)) args s (RM 0 0 0 0).cells (RM 0 0 0 0).slots A) (F0 m 5 ls []) from key1 _ _ _ (Nat.lt_succ_self _) hI1 _ _ ls hP hD hS hl
  clear hP hD hS hl
  intro n1
  induction n1 with
  | zero => intro _ _ h; exact absurd h (Nat.not_lt_zero _)
  | succ n1 ih1 =>
    intro i3_1 i4_1 hm1 hI1 H locs ls hP hD hS hl
    have hw := hw1 i3_1 i4_1 hI1
    refine lv_iload hx hb dX4_canMoveIn_5 (lv_at hl 4 rfl) ?_
    refine lv_iconst (v := 5) hx hb dX4_canMoveIn_7 (by decide) ?_
    refine lv_icmp_ge (tgt := 41) hx hb dX4_canMoveIn_8 (by decide) (fun k2 => ?_) (fun k2 => ?_)
    · skip
      have hw := hw.1 k2
      refine lv_iload_n hx hb dX4_canMoveIn_41 rfl (lv_at hl 3 rfl) ?_
      refine lv_iconst (v := 1) hx hb dX4_canMoveIn_42 (by decide) ?_
      refine lv_icmp_gt (tgt := 50) hx hb dX4_canMoveIn_43 (by decide) (fun k3 => ?_) (fun k3 => ?_)
      · skip
        have hw := hw.1 k3
        refine lv_iconst (v := 0) hx hb dX4_canMoveIn_50 (by decide) ?_
        exact vx_ret (m_i ⟨_, rfl, rfl, hw⟩ hx hb hr hlocks rfl hP hD hS (Nat.le_of_ble_eq_true rfl) (Nat.le_of_ble_eq_true rfl) dX4_canMoveIn_51)
      · skip
        have hw := hw.2 k3
        refine lv_iconst (v := 1) hx hb dX4_canMoveIn_46 (by decide) ?_
        refine lv_goto (tgt := 51) hx hb dX4_canMoveIn_47 (by decide) ?_
        exact vx_ret (m_i ⟨_, rfl, rfl, hw⟩ hx hb hr hlocks rfl hP hD hS (Nat.le_of_ble_eq_true rfl) (Nat.le_of_ble_eq_true rfl) dX4_canMoveIn_51)
    · skip
      have hw := hw.2 k2
      refine lv_iload_n hx hb dX4_canMoveIn_11 rfl (lv_at hl 3 rfl) ?_
      refine lv_aload_n hx hb dX4_canMoveIn_12 rfl (lv_at hl 0 rfl) ?_
      refine k_get (ci := 6) (C := RX4) (T := TX4) (N := 9) (v := .ref (ad 47)) hx hb hG inX4 hown hK hP 46 wl_46 rfl 4 (by decide) gw278 rfl dX4_canMoveIn_13 ?_
      refine lv_iload_n hx hb dX4_canMoveIn_16 rfl (lv_at hl 1 rfl) ?_
      refine lv_iconst (v := 5) hx hb dX4_canMoveIn_17 (by decide) ?_
      refine k_imul (v := p1 * 5) hx hb dX4_canMoveIn_18 rfl ?_
      refine lv_iload hx hb dX4_canMoveIn_19 (lv_at hl 4 rfl) ?_
      refine k_iadd (v := (p1 * 5) + i4_1) hx hb dX4_canMoveIn_21 rfl ?_
      obtain ⟨hc4, hw⟩ := hw
      refine k_iald (v := gA σ 24 (ix ((p1 * 5) + i4_1))) hx hb hK hP 47 wl_47 (ix ((p1 * 5) + i4_1)) rfl rfl hc4 dX4_canMoveIn_22 ?_
      refine lv_iload_n hx hb dX4_canMoveIn_23 rfl (lv_at hl 2 rfl) ?_
      refine k_iand (v := (gA σ 24 (ix ((p1 * 5) + i4_1))) &&& p2) hx hb dX4_canMoveIn_24 rfl ?_
      refine lv_if_eq (tgt := 32) hx hb dX4_canMoveIn_25 (by decide) (fun k5 => ?_) (fun k5 => ?_)
      · skip
        have hw := hw.1 k5
        refine lv_iconst (v := 0) hx hb dX4_canMoveIn_32 (by decide) ?_
        refine k_iadd (v := i3_1 + 0) hx hb dX4_canMoveIn_33 rfl ?_
        obtain ⟨v6, ev6⟩ : ∃ z : Int32, z = i3_1 + 0 := ⟨_, rfl⟩
        have hw := hw v6 ev6
        refine lv_istore_n (lv' := [(3, .int v6), (0, .ref (ad 46)), (1, .int p1), (2, .int p2), (4, .int i4_1)]) hx hb dX4_canMoveIn_34 rfl hl (by decide) (by subst ev6; rfl) (fun ls hl => ?_)
        refine lv_iinc (v := i4_1 + 1) (lv' := [(4, .int (i4_1 + 1)), (3, .int v6), (0, .ref (ad 46)), (1, .int p1), (2, .int p2)]) hx hb dX4_canMoveIn_35 hl (k := 4) rfl rfl (by decide) rfl (fun ls hl => ?_)
        refine lv_goto (tgt := 5) hx hb dX4_canMoveIn_38 (by decide) ?_
        exact ih1 v6 (i4_1 + 1) (Nat.lt_of_lt_of_le hw.2 (Nat.le_of_lt_succ hm1)) hw.1 _ _ ls hP hD hS (lv_sub hl [2, 3, 4, 1, 0] rfl)
      · skip
        have hw := hw.2 k5
        refine lv_iconst (v := 1) hx hb dX4_canMoveIn_28 (by decide) ?_
        refine lv_goto (tgt := 33) hx hb dX4_canMoveIn_29 (by decide) ?_
        refine k_iadd (v := i3_1 + 1) hx hb dX4_canMoveIn_33 rfl ?_
        obtain ⟨v7, ev7⟩ : ∃ z : Int32, z = i3_1 + 1 := ⟨_, rfl⟩
        have hw := hw v7 ev7
        refine lv_istore_n (lv' := [(3, .int v7), (0, .ref (ad 46)), (1, .int p1), (2, .int p2), (4, .int i4_1)]) hx hb dX4_canMoveIn_34 rfl hl (by decide) (by subst ev7; rfl) (fun ls hl => ?_)
        refine lv_iinc (v := i4_1 + 1) (lv' := [(4, .int (i4_1 + 1)), (3, .int v7), (0, .ref (ad 46)), (1, .int p1), (2, .int p2)]) hx hb dX4_canMoveIn_35 hl (k := 4) rfl rfl (by decide) rfl (fun ls hl => ?_)
        refine lv_goto (tgt := 5) hx hb dX4_canMoveIn_38 (by decide) ?_
        exact ih1 v7 (i4_1 + 1) (Nat.lt_of_lt_of_le hw.2 (Nat.le_of_lt_succ hm1)) hw.1 _ _ ls hP hD hS (lv_sub hl [2, 3, 4, 1, 0] rfl)

set_option maxHeartbeats 4000000 in
set_option maxRecDepth 100000 in
theorem m_X4_goForward (l : Launch) (hfl : l.stackTraces = false) (D : va_G) (ad : Nat → Nat) (cA : Nat → ClassId) (g : gv_T) (p1 : Int32) (σ : Sg) (Q : Sg → Prop) (hw : w_X4_goForward p1 σ Q) : MC l yX4_goForward cX4_goForward 6 none (RM 2 0 0 44) D ad cA g [.ref (ad 46), .int p1] σ (fun v σ' => v = none ∧ Q σ') (fun _ _ => False) := by
  refine MC.of (plainFor_of_name (by decide +kernel)) (Nat.le_of_ble_eq_true rfl) ?_
  intro p e s m args below meth c A ls hx hb hr hml hown hG hlocks htab hA hS hP hK hD hGV hl
  have hown : s.vm.findClass RX4 = some m.cls := hown
  have hl : lv_has ls 6 [(0, .ref (ad 46)), (1, .int p1)] := hl
  have hSF : CF p m c cX4_goForward 6 s args RX4 := ⟨hx, hb, hml, hown, hG⟩
  refine lv_aload_n hx hb dX4_goForward_0 rfl (lv_at hl 0 rfl) ?_
  refine k_get (ci := 6) (C := RX4) (T := TX4) (N := 9) (v := .ref (ad 49)) hx hb hG inX4 hown hK hP 46 wl_46 rfl 6 (by decide) gw280 rfl dX4_goForward_1 ?_
  refine lv_iconst (v := 0) hx hb dX4_goForward_4 (by decide) ?_
  refine lv_iconst (v := 1) hx hb dX4_goForward_5 (by decide) ?_
  obtain ⟨σ1, eσ1⟩ : ∃ z : Sg, z = sA σ 26 (ix 0) 1 := ⟨_, rfl⟩
  have hw := hw σ1 eσ1
  refine k_iast (ws1 := WL ad cA σ1) hx hb hK hP hD hS 49 wl_49 (ws_49 eσ1) (by unfold vp_in; decide) dX4_goForward_6 (fun H locs hP hD hS => ?_)
  refine lv_iconst (v := 1) hx hb dX4_goForward_7 (by decide) ?_
  refine lv_istore_n (lv' := [(2, .int 1), (0, .ref (ad 46)), (1, .int p1)]) hx hb dX4_goForward_8 rfl hl (by decide) rfl (fun ls hl => ?_)
  obtain ⟨I2, μ2, hI2, hw2⟩ := hw
  have hl : lv_has ls 6 [(0, .ref (ad 46)), (1, .int p1), (2, .int 1)] := lv_sub hl [1, 2, 0] rfl
  suffices key2 : ∀ (n2 : Nat) (i2_2 : Int32) (σ2 : Sg), μ2 i2_2 σ2 < n2 → I2 i2_2 σ2 → ∀ (H : Heap) (locs : List Loc) (ls : Array Slot), va_P D vwCl (WL ad cA σ2) H → va_D A (WL ad cA σ2) → va_S A s.heap H locs → lv_has ls 6 [(0, .ref (ad 46)), (1, .int p1), (2, .int i2_2)] → W p l e (RM 2 0 0 44) s m args below meth c H locs (0) (0) (vx_MQ below (QM D ad cA A (fun v σ' => v = none ∧ Q σ')) (XM D ad cA A (fun _ _ => False)) args s (RM 2 0 0 44).cells (RM 2 0 0 44).slots A) (F0 m 9 ls []) from key2 _ _ _ (Nat.lt_succ_self _) hI2 _ _ ls hP hD hS hl
  clear hP hD hS hl
  intro n2
  induction n2 with
  | zero => intro _ _ h; exact absurd h (Nat.not_lt_zero _)
  | succ n2 ih2 =>
    intro i2_2 σ2 hm2 hI2 H locs ls hP hD hS hl
    have hw := hw2 i2_2 σ2 hI2
    refine lv_iload_n hx hb dX4_goForward_9 rfl (lv_at hl 2 rfl) ?_
    refine lv_aload_n hx hb dX4_goForward_10 rfl (lv_at hl 0 rfl) ?_
    refine k_get (ci := 6) (C := RX4) (T := TX4) (N := 9) (v := .int (gI σ2 11)) hx hb hG inX4 hown hK hP 46 wl_46 rfl 2 (by decide) gw276 rfl dX4_goForward_11 ?_
    refine lv_icmp_gt (tgt := 120) hx hb dX4_goForward_14 (by decide) (fun k3 => ?_) (fun k3 => ?_)
    · skip
      have hw := hw.1 k3
      exact vx_ret (m_v ⟨rfl, hw⟩ hx hb hr hlocks hP hD hS (Nat.le_of_ble_eq_true rfl) (Nat.le_of_ble_eq_true rfl) dX4_goForward_120)
    · skip
      have hw := hw.2 k3
      refine lv_aload_n hx hb dX4_goForward_17 rfl (lv_at hl 0 rfl) ?_
      refine k_get (ci := 6) (C := RX4) (T := TX4) (N := 9) (v := .ref (ad 49)) hx hb hG inX4 hown hK hP 46 wl_46 rfl 6 (by decide) gw280 rfl dX4_goForward_18 ?_
      refine lv_iload_n hx hb dX4_goForward_21 rfl (lv_at hl 2 rfl) ?_
      refine lv_iconst (v := 0) hx hb dX4_goForward_22 (by decide) ?_
      obtain ⟨hc4, hw⟩ := hw
      obtain ⟨σ5, eσ5⟩ : ∃ z : Sg, z = sA σ2 26 (ix i2_2) 0 := ⟨_, rfl⟩
      have hw := hw σ5 eσ5
      refine k_iast (ws1 := WL ad cA σ5) hx hb hK hP hD hS 49 wl_49 (ws_49 eσ5) hc4 dX4_goForward_23 (fun H locs hP hD hS => ?_)
      refine lv_aload_n hx hb dX4_goForward_24 rfl (lv_at hl 0 rfl) ?_
      refine lv_iload_n hx hb dX4_goForward_25 rfl (lv_at hl 2 rfl) ?_
      refine mc_V hSF hl.1 hP hD hS hA hK hGV (m_X4_propsFor l hfl D ad cA g i2_2 σ5 _ hw) goV_X4_83 pd_X4_propsFor ⟨(Nat.le_of_ble_eq_true rfl), (Nat.le_of_ble_eq_true rfl)⟩ ⟨(Nat.le_of_ble_eq_true rfl), (Nat.le_of_ble_eq_true rfl)⟩ (va_recv hK hP (ci := 6) (q0 := 46) rfl wl_46) dX4_goForward_26 rfl (Nat.le_of_ble_eq_true rfl) (fun v9 σ9 H locs hq hP hD hS => ?_) (fun _ _ _ _ _ _ h => h.elim)
      obtain ⟨r6, hv9, hs9, hw⟩ := hq
      subst hv9
      subst σ9
      refine W.eq (g2 := F0 m 29 ls [.int r6]) rfl ?_
      refine W.widen (k := 0) (n := 0) (Nat.le_refl _) (Nat.le_refl _) ?_
      refine lv_aload_n hx hb dX4_goForward_29 rfl (lv_at hl 0 rfl) ?_
      refine k_get (ci := 6) (C := RX4) (T := TX4) (N := 9) (v := .int (gI σ5 9)) hx hb hG inX4 hown hK hP 46 wl_46 rfl 0 (by decide) gw272 rfl dX4_goForward_30 ?_
      refine lv_icmp_gt (tgt := 40) hx hb dX4_goForward_33 (by decide) (fun k7 => ?_) (fun k7 => ?_)
      · skip
        have hw := hw.1 k7
        refine lv_iconst (v := 0) hx hb dX4_goForward_40 (by decide) ?_
        refine lv_istore_n (lv' := [(3, .int 0), (0, .ref (ad 46)), (1, .int p1), (2, .int i2_2)]) hx hb dX4_goForward_41 rfl hl (by decide) rfl (fun ls hl => ?_)
        refine lv_iconst (v := 0) hx hb dX4_goForward_42 (by decide) ?_
        refine lv_istore (lv' := [(4, .int 0), (3, .int 0), (0, .ref (ad 46)), (1, .int p1), (2, .int i2_2)]) hx hb dX4_goForward_43 hl (by decide) rfl (fun ls hl => ?_)
        obtain ⟨I8, μ8, hI8, hw8⟩ := hw
        have hl : lv_has ls 6 [(0, .ref (ad 46)), (1, .int p1), (2, .int i2_2), (3, .int 0), (4, .int 0)] := lv_sub hl [2, 3, 4, 1, 0] rfl
        suffices key8 : ∀ (n8 : Nat) (i4_8 : Int32) (σ8 : Sg), μ8 i4_8 σ8 < n8 → I8 i4_8 σ8 → ∀ (H : Heap) (locs : List Loc) (ls : Array Slot), va_P D vwCl (WL ad cA σ8) H → va_D A (WL ad cA σ8) → va_S A s.heap H locs → lv_has ls 6 [(0, .ref (ad 46)), (1, .int p1), (2, .int i2_2), (3, .int 0), (4, .int i4_8)] → W p l e (RM 2 0 0 44) s m args below meth c H locs (0) (0) (vx_MQ below (QM D ad cA A (fun v σ' => v = none ∧ Q σ')) (XM D ad cA A (fun _ _ => False)) args s (RM 2 0 0 44).cells (RM 2 0 0 44).slots A) (F0 m 45 ls []) from key8 _ _ _ (Nat.lt_succ_self _) hI8 _ _ ls hP hD hS hl
        clear hP hD hS hl
        intro n8
        induction n8 with
        | zero => intro _ _ h; exact absurd h (Nat.not_lt_zero _)
        | succ n8 ih8 =>
          intro i4_8 σ8 hm8 hI8 H locs ls hP hD hS hl
          have hw := hw8 i4_8 σ8 hI8
          refine lv_iload hx hb dX4_goForward_45 (lv_at hl 4 rfl) ?_
          refine lv_iload_n hx hb dX4_goForward_47 rfl (lv_at hl 1 rfl) ?_
          refine lv_icmp_ge (tgt := 114) hx hb dX4_goForward_48 (by decide) (fun k9 => ?_) (fun k9 => ?_)
          · skip
            have hw := hw.1 k9
            refine lv_iinc (v := i2_2 + 1) (lv' := [(2, .int (i2_2 + 1)), (0, .ref (ad 46)), (1, .int p1), (3, .int 0), (4, .int i4_8)]) hx hb dX4_goForward_114 hl (k := 2) rfl rfl (by decide) rfl (fun ls hl => ?_)
            refine lv_goto (tgt := 9) hx hb dX4_goForward_117 (by decide) ?_
            exact ih2 (i2_2 + 1) σ8 (Nat.lt_of_lt_of_le hw.2 (Nat.le_of_lt_succ hm2)) hw.1 _ _ ls hP hD hS (lv_sub hl [1, 2, 0] rfl)
          · skip
            have hw := hw.2 k9
            refine lv_iload_n hx hb dX4_goForward_51 rfl (lv_at hl 3 rfl) ?_
            refine k_if_eq_t (tgt := 114) hx hb dX4_goForward_52 (by decide) (by decide) ?_
            refine lv_iinc (v := i2_2 + 1) (lv' := [(2, .int (i2_2 + 1)), (0, .ref (ad 46)), (1, .int p1), (3, .int 0), (4, .int i4_8)]) hx hb dX4_goForward_114 hl (k := 2) rfl rfl (by decide) rfl (fun ls hl => ?_)
            refine lv_goto (tgt := 9) hx hb dX4_goForward_117 (by decide) ?_
            exact ih2 (i2_2 + 1) σ8 (Nat.lt_of_lt_of_le hw.2 (Nat.le_of_lt_succ hm2)) hw.1 _ _ ls hP hD hS (lv_sub hl [1, 2, 0] rfl)
      · skip
        have hw := hw.2 k7
        refine lv_iconst (v := 1) hx hb dX4_goForward_36 (by decide) ?_
        refine lv_goto (tgt := 41) hx hb dX4_goForward_37 (by decide) ?_
        refine lv_istore_n (lv' := [(3, .int 1), (0, .ref (ad 46)), (1, .int p1), (2, .int i2_2)]) hx hb dX4_goForward_41 rfl hl (by decide) rfl (fun ls hl => ?_)
        refine lv_iconst (v := 0) hx hb dX4_goForward_42 (by decide) ?_
        refine lv_istore (lv' := [(4, .int 0), (3, .int 1), (0, .ref (ad 46)), (1, .int p1), (2, .int i2_2)]) hx hb dX4_goForward_43 hl (by decide) rfl (fun ls hl => ?_)
        obtain ⟨I10, μ10, hI10, hw10⟩ := hw
        have hl : lv_has ls 6 [(0, .ref (ad 46)), (1, .int p1), (2, .int i2_2), (3, .int 1), (4, .int 0)] := lv_sub hl [2, 3, 4, 1, 0] rfl
        suffices key10 : ∀ (n10 : Nat) (i4_10 : Int32) (σ10 : Sg), μ10 i4_10 σ10 < n10 → I10 i4_10 σ10 → ∀ (H : Heap) (locs : List Loc) (ls : Array Slot), va_P D vwCl (WL ad cA σ10) H → va_D A (WL ad cA σ10) → va_S A s.heap H locs → lv_has ls 6 [(0, .ref (ad 46)), (1, .int p1), (2, .int i2_2), (3, .int 1), (4, .int i4_10)] → W p l e (RM 2 0 0 44) s m args below meth c H locs (0) (0) (vx_MQ below (QM D ad cA A (fun v σ' => v = none ∧ Q σ')) (XM D ad cA A (fun _ _ => False)) args s (RM 2 0 0 44).cells (RM 2 0 0 44).slots A) (F0 m 45 ls []) from key10 _ _ _ (Nat.lt_succ_self _) hI10 _ _ ls hP hD hS hl
        clear hP hD hS hl
        intro n10
        induction n10 with
        | zero => intro _ _ h; exact absurd h (Nat.not_lt_zero _)
        | succ n10 ih10 =>
          intro i4_10 σ10 hm10 hI10 H locs ls hP hD hS hl
          have hw := hw10 i4_10 σ10 hI10
          refine lv_iload hx hb dX4_goForward_45 (lv_at hl 4 rfl) ?_
          refine lv_iload_n hx hb dX4_goForward_47 rfl (lv_at hl 1 rfl) ?_
          refine lv_icmp_ge (tgt := 114) hx hb dX4_goForward_48 (by decide) (fun k11 => ?_) (fun k11 => ?_)
          · skip
            have hw := hw.1 k11
            refine lv_iinc (v := i2_2 + 1) (lv' := [(2, .int (i2_2 + 1)), (0, .ref (ad 46)), (1, .int p1), (3, .int 1), (4, .int i4_10)]) hx hb dX4_goForward_114 hl (k := 2) rfl rfl (by decide) rfl (fun ls hl => ?_)
            refine lv_goto (tgt := 9) hx hb dX4_goForward_117 (by decide) ?_
            exact ih2 (i2_2 + 1) σ10 (Nat.lt_of_lt_of_le hw.2 (Nat.le_of_lt_succ hm2)) hw.1 _ _ ls hP hD hS (lv_sub hl [1, 2, 0] rfl)
          · skip
            have hw := hw.2 k11
            refine lv_iload_n hx hb dX4_goForward_51 rfl (lv_at hl 3 rfl) ?_
            refine k_if_eq_f (tgt := 114) hx hb dX4_goForward_52 (by decide) (by decide) ?_
            refine lv_iload_n hx hb dX4_goForward_55 rfl (lv_at hl 2 rfl) ?_
            refine lv_iconst (v := 1) hx hb dX4_goForward_56 (by decide) ?_
            refine lv_iload hx hb dX4_goForward_57 (lv_at hl 4 rfl) ?_
            refine k_ishl (v := iShl 1 i4_10) hx hb dX4_goForward_59 rfl ?_
            refine lv_iconst (v := (-1)) hx hb dX4_goForward_60 (by decide) ?_
            refine k_ixor (v := (iShl 1 i4_10) ^^^ (-1)) hx hb dX4_goForward_61 rfl ?_
            refine k_iand (v := i2_2 &&& ((iShl 1 i4_10) ^^^ (-1))) hx hb dX4_goForward_62 rfl ?_
            obtain ⟨v12, ev12⟩ : ∃ z : Int32, z = i2_2 &&& ((iShl 1 i4_10) ^^^ (-1)) := ⟨_, rfl⟩
            have hw := hw v12 ev12
            refine lv_istore (lv' := [(5, .int v12), (0, .ref (ad 46)), (1, .int p1), (2, .int i2_2), (3, .int 1), (4, .int i4_10)]) hx hb dX4_goForward_63 hl (by decide) (by subst ev12; rfl) (fun ls hl => ?_)
            refine lv_iload hx hb dX4_goForward_65 (lv_at hl 0 rfl) ?_
            refine lv_iload_n hx hb dX4_goForward_67 rfl (lv_at hl 3 rfl) ?_
            refine lv_icmp_eq (tgt := 108) hx hb dX4_goForward_68 (by decide) (fun k13 => ?_) (fun k13 => ?_)
            · skip
              have hw := hw.1 k13
              refine lv_iinc (v := i4_10 + 1) (lv' := [(4, .int (i4_10 + 1)), (5, .int v12), (0, .ref (ad 46)), (1, .int p1), (2, .int i2_2), (3, .int 1)]) hx hb dX4_goForward_108 hl (k := 5) rfl rfl (by decide) rfl (fun ls hl => ?_)
              refine lv_goto (tgt := 45) hx hb dX4_goForward_111 (by decide) ?_
              exact ih10 (i4_10 + 1) σ10 (Nat.lt_of_lt_of_le hw.2 (Nat.le_of_lt_succ hm10)) hw.1 _ _ ls hP hD hS (lv_sub hl [2, 3, 4, 5, 0] rfl)
            · skip
              have hw := hw.2 k13
              refine lv_aload_n hx hb dX4_goForward_71 rfl (lv_at hl 1 rfl) ?_
              refine k_get (ci := 6) (C := RX4) (T := TX4) (N := 9) (v := .ref (ad 49)) hx hb hG inX4 hown hK hP 46 wl_46 rfl 6 (by decide) gw280 rfl dX4_goForward_72 ?_
              refine lv_iload hx hb dX4_goForward_75 (lv_at hl 0 rfl) ?_
              obtain ⟨hc14, hw⟩ := hw
              refine k_iald (v := gA σ10 26 (ix v12)) hx hb hK hP 49 wl_49 (ix v12) rfl rfl hc14 dX4_goForward_77 ?_
              refine lv_if_le (tgt := 108) hx hb dX4_goForward_78 (by decide) (fun k15 => ?_) (fun k15 => ?_)
              · skip
                have hw := hw.1 k15
                refine lv_iinc (v := i4_10 + 1) (lv' := [(4, .int (i4_10 + 1)), (5, .int v12), (0, .ref (ad 46)), (1, .int p1), (2, .int i2_2), (3, .int 1)]) hx hb dX4_goForward_108 hl (k := 5) rfl rfl (by decide) rfl (fun ls hl => ?_)
                refine lv_goto (tgt := 45) hx hb dX4_goForward_111 (by decide) ?_
                exact ih10 (i4_10 + 1) σ10 (Nat.lt_of_lt_of_le hw.2 (Nat.le_of_lt_succ hm10)) hw.1 _ _ ls hP hD hS (lv_sub hl [2, 3, 4, 5, 0] rfl)
              · skip
                have hw := hw.2 k15
                refine lv_aload_n hx hb dX4_goForward_81 rfl (lv_at hl 1 rfl) ?_
                refine lv_iload hx hb dX4_goForward_82 (lv_at hl 5 rfl) ?_
                refine lv_iload hx hb dX4_goForward_84 (lv_at hl 0 rfl) ?_
                refine mc_V hSF hl.1 hP hD hS hA hK hGV (m_X4_canMoveIn l hfl D ad cA g i4_10 v12 σ10 _ hw) goV_X4_86 pd_X4_canMoveIn ⟨(Nat.le_of_ble_eq_true rfl), (Nat.le_of_ble_eq_true rfl)⟩ ⟨(Nat.le_of_ble_eq_true rfl), (Nat.le_of_ble_eq_true rfl)⟩ (va_recv hK hP (ci := 6) (q0 := 46) rfl wl_46) dX4_goForward_86 rfl (Nat.le_of_ble_eq_true rfl) (fun v9 σ9 H locs hq hP hD hS => ?_) (fun _ _ _ _ _ _ h => h.elim)
                obtain ⟨r16, hv9, hs9, hw⟩ := hq
                subst hv9
                subst σ9
                refine W.eq (g2 := F0 m 89 ls [.int r16]) rfl ?_
                refine W.widen (k := 0) (n := 0) (Nat.le_refl _) (Nat.le_refl _) ?_
                refine lv_if_eq (tgt := 108) hx hb dX4_goForward_89 (by decide) (fun k17 => ?_) (fun k17 => ?_)
                · skip
                  have hw := hw.1 k17
                  refine lv_iinc (v := i4_10 + 1) (lv' := [(4, .int (i4_10 + 1)), (5, .int v12), (0, .ref (ad 46)), (1, .int p1), (2, .int i2_2), (3, .int 1)]) hx hb dX4_goForward_108 hl (k := 5) rfl rfl (by decide) rfl (fun ls hl => ?_)
                  refine lv_goto (tgt := 45) hx hb dX4_goForward_111 (by decide) ?_
                  exact ih10 (i4_10 + 1) σ10 (Nat.lt_of_lt_of_le hw.2 (Nat.le_of_lt_succ hm10)) hw.1 _ _ ls hP hD hS (lv_sub hl [2, 3, 4, 5, 0] rfl)
                · skip
                  have hw := hw.2 k17
                  refine lv_aload_n hx hb dX4_goForward_92 rfl (lv_at hl 1 rfl) ?_
                  refine k_get (ci := 6) (C := RX4) (T := TX4) (N := 9) (v := .ref (ad 49)) hx hb hG inX4 hown hK hP 46 wl_46 rfl 6 (by decide) gw280 rfl dX4_goForward_93 ?_
                  refine lv_iload_n hx hb dX4_goForward_96 rfl (lv_at hl 3 rfl) ?_
                  refine lv_dup2_11 hx hb dX4_goForward_97 rfl rfl ?_
                  obtain ⟨hc18, hw⟩ := hw
                  refine k_iald (v := gA σ10 26 (ix i2_2)) hx hb hK hP 49 wl_49 (ix i2_2) rfl rfl hc18 dX4_goForward_98 ?_
                  refine lv_aload_n hx hb dX4_goForward_99 rfl (lv_at hl 1 rfl) ?_
                  refine k_get (ci := 6) (C := RX4) (T := TX4) (N := 9) (v := .ref (ad 49)) hx hb hG inX4 hown hK hP 46 wl_46 rfl 6 (by decide) gw280 rfl dX4_goForward_100 ?_
                  refine lv_iload hx hb dX4_goForward_103 (lv_at hl 0 rfl) ?_
                  obtain ⟨hc19, hw⟩ := hw
                  refine k_iald (v := gA σ10 26 (ix v12)) hx hb hK hP 49 wl_49 (ix v12) rfl rfl hc19 dX4_goForward_105 ?_
                  refine k_iadd (v := (gA σ10 26 (ix i2_2)) + (gA σ10 26 (ix v12))) hx hb dX4_goForward_106 rfl ?_
                  obtain ⟨hc20, hw⟩ := hw
                  obtain ⟨σ21, eσ21⟩ : ∃ z : Sg, z = sA σ10 26 (ix i2_2) ((gA σ10 26 (ix i2_2)) + (gA σ10 26 (ix v12))) := ⟨_, rfl⟩
                  have hw := hw σ21 eσ21
                  refine k_iast (ws1 := WL ad cA σ21) hx hb hK hP hD hS 49 wl_49 (ws_49 eσ21) hc20 dX4_goForward_107 (fun H locs hP hD hS => ?_)
                  refine lv_iinc (v := i4_10 + 1) (lv' := [(4, .int (i4_10 + 1)), (5, .int v12), (0, .ref (ad 46)), (1, .int p1), (2, .int i2_2), (3, .int 1)]) hx hb dX4_goForward_108 hl (k := 5) rfl rfl (by decide) rfl (fun ls hl => ?_)
                  refine lv_goto (tgt := 45) hx hb dX4_goForward_111 (by decide) ?_
                  exact ih10 (i4_10 + 1) σ21 (Nat.lt_of_lt_of_le hw.2 (Nat.le_of_lt_succ hm10)) hw.1 _ _ ls hP hD hS (lv_sub hl [2, 3, 4, 5, 0] rfl)

set_option maxHeartbeats 4000000 in
set_option maxRecDepth 100000 in
theorem m_X4_goBackward (l : Launch) (hfl : l.stackTraces = false) (D : va_G) (ad : Nat → Nat) (cA : Nat → ClassId) (g : gv_T) (p1 : Int32) (σ : Sg) (Q : Sg → Prop) (hw : w_X4_goBackward p1 σ Q) : MC l yX4_goBackward cX4_goBackward 6 none (RM 2 0 0 44) D ad cA g [.ref (ad 46), .int p1] σ (fun v σ' => v = none ∧ Q σ') (fun _ _ => False) := by
  refine MC.of (plainFor_of_name (by decide +kernel)) (Nat.le_of_ble_eq_true rfl) ?_
  intro p e s m args below meth c A ls hx hb hr hml hown hG hlocks htab hA hS hP hK hD hGV hl
  have hown : s.vm.findClass RX4 = some m.cls := hown
  have hl : lv_has ls 6 [(0, .ref (ad 46)), (1, .int p1)] := hl
  have hSF : CF p m c cX4_goBackward 6 s args RX4 := ⟨hx, hb, hml, hown, hG⟩
  refine lv_iconst (v := 0) hx hb dX4_goBackward_0 (by decide) ?_
  refine lv_istore_n (lv' := [(2, .int 0), (0, .ref (ad 46)), (1, .int p1)]) hx hb dX4_goBackward_1 rfl hl (by decide) rfl (fun ls hl => ?_)
  obtain ⟨I1, μ1, hI1, hw1⟩ := hw
  have hl : lv_has ls 6 [(0, .ref (ad 46)), (1, .int p1), (2, .int 0)] := lv_sub hl [1, 2, 0] rfl
  suffices key1 : ∀ (n1 : Nat) (i2_1 : Int32) (σ1 : Sg), μ1 i2_1 σ1 < n1 → I1 i2_1 σ1 → ∀ (H : Heap) (locs : List Loc) (ls : Array Slot), va_P D vwCl (WL ad cA σ1) H → va_D A (WL ad cA σ1) → va_S A s.heap H locs → lv_has ls 6 [(0, .ref (ad 46)), (1, .int p1), (2, .int i2_1)] → W p l e (RM 2 0 0 44) s m args below meth c H locs (0) (0) (vx_MQ below (QM D ad cA A (fun v σ' => v = none ∧ Q σ')) (XM D ad cA A (fun _ _ => False)) args s (RM 2 0 0 44).cells (RM 2 0 0 44).slots A) (F0 m 2 ls []) from key1 _ _ _ (Nat.lt_succ_self _) hI1 _ _ ls hP hD hS hl
  clear hP hD hS hl
  intro n1
  induction n1 with
  | zero => intro _ _ h; exact absurd h (Nat.not_lt_zero _)
  | succ n1 ih1 =>
    intro i2_1 σ1 hm1 hI1 H locs ls hP hD hS hl
    have hw := hw1 i2_1 σ1 hI1
    refine lv_iload_n hx hb dX4_goBackward_2 rfl (lv_at hl 2 rfl) ?_
    refine lv_aload_n hx hb dX4_goBackward_3 rfl (lv_at hl 0 rfl) ?_
    refine k_get (ci := 6) (C := RX4) (T := TX4) (N := 9) (v := .int (gI σ1 11)) hx hb hG inX4 hown hK hP 46 wl_46 rfl 2 (by decide) gw276 rfl dX4_goBackward_4 ?_
    refine lv_icmp_gt (tgt := 35) hx hb dX4_goBackward_7 (by decide) (fun k2 => ?_) (fun k2 => ?_)
    · skip
      have hw := hw.1 k2
      refine lv_aload_n hx hb dX4_goBackward_35 rfl (lv_at hl 0 rfl) ?_
      refine k_get (ci := 6) (C := RX4) (T := TX4) (N := 9) (v := .int (gI σ1 11)) hx hb hG inX4 hown hK hP 46 wl_46 rfl 2 (by decide) gw276 rfl dX4_goBackward_36 ?_
      obtain ⟨v3, ev3⟩ : ∃ z : Int32, z = gI σ1 11 := ⟨_, rfl⟩
      have hw := hw v3 ev3
      refine lv_istore_n (lv' := [(2, .int v3), (0, .ref (ad 46)), (1, .int p1)]) hx hb dX4_goBackward_39 rfl hl (by decide) (by subst ev3; rfl) (fun ls hl => ?_)
      obtain ⟨I4, μ4, hI4, hw4⟩ := hw
      have hl : lv_has ls 6 [(0, .ref (ad 46)), (1, .int p1), (2, .int v3)] := lv_sub hl [1, 2, 0] rfl
      suffices key4 : ∀ (n4 : Nat) (i2_4 : Int32) (σ4 : Sg), μ4 i2_4 σ4 < n4 → I4 i2_4 σ4 → ∀ (H : Heap) (locs : List Loc) (ls : Array Slot), va_P D vwCl (WL ad cA σ4) H → va_D A (WL ad cA σ4) → va_S A s.heap H locs → lv_has ls 6 [(0, .ref (ad 46)), (1, .int p1), (2, .int i2_4)] → W p l e (RM 2 0 0 44) s m args below meth c H locs (0) (0) (vx_MQ below (QM D ad cA A (fun v σ' => v = none ∧ Q σ')) (XM D ad cA A (fun _ _ => False)) args s (RM 2 0 0 44).cells (RM 2 0 0 44).slots A) (F0 m 40 ls []) from key4 _ _ _ (Nat.lt_succ_self _) hI4 _ _ ls hP hD hS hl
      clear hP hD hS hl
      intro n4
      induction n4 with
      | zero => intro _ _ h; exact absurd h (Nat.not_lt_zero _)
      | succ n4 ih4 =>
        intro i2_4 σ4 hm4 hI4 H locs ls hP hD hS hl
        have hw := hw4 i2_4 σ4 hI4
        refine lv_iload_n hx hb dX4_goBackward_40 rfl (lv_at hl 2 rfl) ?_
        refine lv_if_le (tgt := 131) hx hb dX4_goBackward_41 (by decide) (fun k5 => ?_) (fun k5 => ?_)
        · skip
          have hw := hw.1 k5
          exact vx_ret (m_v ⟨rfl, hw⟩ hx hb hr hlocks hP hD hS (Nat.le_of_ble_eq_true rfl) (Nat.le_of_ble_eq_true rfl) dX4_goBackward_131)
        · skip
          have hw := hw.2 k5
          refine lv_aload_n hx hb dX4_goBackward_44 rfl (lv_at hl 0 rfl) ?_
          refine k_get (ci := 6) (C := RX4) (T := TX4) (N := 9) (v := .ref (ad 50)) hx hb hG inX4 hown hK hP 46 wl_46 rfl 7 (by decide) gw281 rfl dX4_goBackward_45 ?_
          refine lv_iload_n hx hb dX4_goBackward_48 rfl (lv_at hl 2 rfl) ?_
          obtain ⟨hc6, hw⟩ := hw
          refine k_zald (v := gA σ4 27 (ix i2_4)) hx hb hK hP 50 wl_50 (ix i2_4) rfl rfl hc6 dX4_goBackward_49 ?_
          refine lv_if_eq (tgt := 69) hx hb dX4_goBackward_50 (by decide) (fun k7 => ?_) (fun k7 => ?_)
          · skip
            have hw := hw.1 k7
            refine lv_iconst (v := 0) hx hb dX4_goBackward_69 (by decide) ?_
            refine lv_istore_n (lv' := [(3, .int 0), (0, .ref (ad 46)), (1, .int p1), (2, .int i2_4)]) hx hb dX4_goBackward_70 rfl hl (by decide) rfl (fun ls hl => ?_)
            refine lv_iconst (v := 0) hx hb dX4_goBackward_71 (by decide) ?_
            refine lv_istore (lv' := [(4, .int 0), (3, .int 0), (0, .ref (ad 46)), (1, .int p1), (2, .int i2_4)]) hx hb dX4_goBackward_72 hl (by decide) rfl (fun ls hl => ?_)
            obtain ⟨I8, μ8, hI8, hw8⟩ := hw
            have hl : lv_has ls 6 [(0, .ref (ad 46)), (1, .int p1), (2, .int i2_4), (3, .int 0), (4, .int 0)] := lv_sub hl [2, 3, 4, 1, 0] rfl
            suffices key8 : ∀ (n8 : Nat) (i4_8 : Int32) (σ8 : Sg), μ8 i4_8 σ8 < n8 → I8 i4_8 σ8 → ∀ (H : Heap) (locs : List Loc) (ls : Array Slot), va_P D vwCl (WL ad cA σ8) H → va_D A (WL ad cA σ8) → va_S A s.heap H locs → lv_has ls 6 [(0, .ref (ad 46)), (1, .int p1), (2, .int i2_4), (3, .int 0), (4, .int i4_8)] → W p l e (RM 2 0 0 44) s m args below meth c H locs (0) (0) (vx_MQ below (QM D ad cA A (fun v σ' => v = none ∧ Q σ')) (XM D ad cA A (fun _ _ => False)) args s (RM 2 0 0 44).cells (RM 2 0 0 44).slots A) (F0 m 74 ls []) from key8 _ _ _ (Nat.lt_succ_self _) hI8 _ _ ls hP hD hS hl
            clear hP hD hS hl
            intro n8
            induction n8 with
            | zero => intro _ _ h; exact absurd h (Nat.not_lt_zero _)
            | succ n8 ih8 =>
              intro i4_8 σ8 hm8 hI8 H locs ls hP hD hS hl
              have hw := hw8 i4_8 σ8 hI8
              refine lv_iload hx hb dX4_goBackward_74 (lv_at hl 4 rfl) ?_
              refine lv_iload_n hx hb dX4_goBackward_76 rfl (lv_at hl 1 rfl) ?_
              refine lv_icmp_ge (tgt := 125) hx hb dX4_goBackward_77 (by decide) (fun k9 => ?_) (fun k9 => ?_)
              · skip
                have hw := hw.1 k9
                refine lv_iinc (v := i2_4 + (-1)) (lv' := [(2, .int (i2_4 + (-1))), (0, .ref (ad 46)), (1, .int p1), (3, .int 0), (4, .int i4_8)]) hx hb dX4_goBackward_125 hl (k := 2) rfl rfl (by decide) rfl (fun ls hl => ?_)
                refine lv_goto (tgt := 40) hx hb dX4_goBackward_128 (by decide) ?_
                exact ih4 (i2_4 + (-1)) σ8 (Nat.lt_of_lt_of_le hw.2 (Nat.le_of_lt_succ hm4)) hw.1 _ _ ls hP hD hS (lv_sub hl [1, 2, 0] rfl)
              · skip
                have hw := hw.2 k9
                refine lv_iload_n hx hb dX4_goBackward_80 rfl (lv_at hl 3 rfl) ?_
                refine k_if_eq_t (tgt := 125) hx hb dX4_goBackward_81 (by decide) (by decide) ?_
                refine lv_iinc (v := i2_4 + (-1)) (lv' := [(2, .int (i2_4 + (-1))), (0, .ref (ad 46)), (1, .int p1), (3, .int 0), (4, .int i4_8)]) hx hb dX4_goBackward_125 hl (k := 2) rfl rfl (by decide) rfl (fun ls hl => ?_)
                refine lv_goto (tgt := 40) hx hb dX4_goBackward_128 (by decide) ?_
                exact ih4 (i2_4 + (-1)) σ8 (Nat.lt_of_lt_of_le hw.2 (Nat.le_of_lt_succ hm4)) hw.1 _ _ ls hP hD hS (lv_sub hl [1, 2, 0] rfl)
          · skip
            have hw := hw.2 k7
            refine lv_aload_n hx hb dX4_goBackward_53 rfl (lv_at hl 0 rfl) ?_
            refine lv_iload_n hx hb dX4_goBackward_54 rfl (lv_at hl 2 rfl) ?_
            refine mc_V hSF hl.1 hP hD hS hA hK hGV (m_X4_propsFor l hfl D ad cA g i2_4 σ4 _ hw) goV_X4_83 pd_X4_propsFor ⟨(Nat.le_of_ble_eq_true rfl), (Nat.le_of_ble_eq_true rfl)⟩ ⟨(Nat.le_of_ble_eq_true rfl), (Nat.le_of_ble_eq_true rfl)⟩ (va_recv hK hP (ci := 6) (q0 := 46) rfl wl_46) dX4_goBackward_55 rfl (Nat.le_of_ble_eq_true rfl) (fun v9 σ9 H locs hq hP hD hS => ?_) (fun _ _ _ _ _ _ h => h.elim)
            obtain ⟨r10, hv9, hs9, hw⟩ := hq
            subst hv9
            subst σ9
            refine W.eq (g2 := F0 m 58 ls [.int r10]) rfl ?_
            refine W.widen (k := 0) (n := 0) (Nat.le_refl _) (Nat.le_refl _) ?_
            refine lv_aload_n hx hb dX4_goBackward_58 rfl (lv_at hl 0 rfl) ?_
            refine k_get (ci := 6) (C := RX4) (T := TX4) (N := 9) (v := .int (gI σ4 9)) hx hb hG inX4 hown hK hP 46 wl_46 rfl 0 (by decide) gw272 rfl dX4_goBackward_59 ?_
            refine lv_icmp_gt (tgt := 69) hx hb dX4_goBackward_62 (by decide) (fun k11 => ?_) (fun k11 => ?_)
            · skip
              have hw := hw.1 k11
              refine lv_iconst (v := 0) hx hb dX4_goBackward_69 (by decide) ?_
              refine lv_istore_n (lv' := [(3, .int 0), (0, .ref (ad 46)), (1, .int p1), (2, .int i2_4)]) hx hb dX4_goBackward_70 rfl hl (by decide) rfl (fun ls hl => ?_)
              refine lv_iconst (v := 0) hx hb dX4_goBackward_71 (by decide) ?_
              refine lv_istore (lv' := [(4, .int 0), (3, .int 0), (0, .ref (ad 46)), (1, .int p1), (2, .int i2_4)]) hx hb dX4_goBackward_72 hl (by decide) rfl (fun ls hl => ?_)
              obtain ⟨I12, μ12, hI12, hw12⟩ := hw
              have hl : lv_has ls 6 [(0, .ref (ad 46)), (1, .int p1), (2, .int i2_4), (3, .int 0), (4, .int 0)] := lv_sub hl [2, 3, 4, 1, 0] rfl
              suffices key12 : ∀ (n12 : Nat) (i4_12 : Int32) (σ12 : Sg), μ12 i4_12 σ12 < n12 → I12 i4_12 σ12 → ∀ (H : Heap) (locs : List Loc) (ls : Array Slot), va_P D vwCl (WL ad cA σ12) H → va_D A (WL ad cA σ12) → va_S A s.heap H locs → lv_has ls 6 [(0, .ref (ad 46)), (1, .int p1), (2, .int i2_4), (3, .int 0), (4, .int i4_12)] → W p l e (RM 2 0 0 44) s m args below meth c H locs (0) (0) (vx_MQ below (QM D ad cA A (fun v σ' => v = none ∧ Q σ')) (XM D ad cA A (fun _ _ => False)) args s (RM 2 0 0 44).cells (RM 2 0 0 44).slots A) (F0 m 74 ls []) from key12 _ _ _ (Nat.lt_succ_self _) hI12 _ _ ls hP hD hS hl
              clear hP hD hS hl
              intro n12
              induction n12 with
              | zero => intro _ _ h; exact absurd h (Nat.not_lt_zero _)
              | succ n12 ih12 =>
                intro i4_12 σ12 hm12 hI12 H locs ls hP hD hS hl
                have hw := hw12 i4_12 σ12 hI12
                refine lv_iload hx hb dX4_goBackward_74 (lv_at hl 4 rfl) ?_
                refine lv_iload_n hx hb dX4_goBackward_76 rfl (lv_at hl 1 rfl) ?_
                refine lv_icmp_ge (tgt := 125) hx hb dX4_goBackward_77 (by decide) (fun k13 => ?_) (fun k13 => ?_)
                · skip
                  have hw := hw.1 k13
                  refine lv_iinc (v := i2_4 + (-1)) (lv' := [(2, .int (i2_4 + (-1))), (0, .ref (ad 46)), (1, .int p1), (3, .int 0), (4, .int i4_12)]) hx hb dX4_goBackward_125 hl (k := 2) rfl rfl (by decide) rfl (fun ls hl => ?_)
                  refine lv_goto (tgt := 40) hx hb dX4_goBackward_128 (by decide) ?_
                  exact ih4 (i2_4 + (-1)) σ12 (Nat.lt_of_lt_of_le hw.2 (Nat.le_of_lt_succ hm4)) hw.1 _ _ ls hP hD hS (lv_sub hl [1, 2, 0] rfl)
                · skip
                  have hw := hw.2 k13
                  refine lv_iload_n hx hb dX4_goBackward_80 rfl (lv_at hl 3 rfl) ?_
                  refine k_if_eq_t (tgt := 125) hx hb dX4_goBackward_81 (by decide) (by decide) ?_
                  refine lv_iinc (v := i2_4 + (-1)) (lv' := [(2, .int (i2_4 + (-1))), (0, .ref (ad 46)), (1, .int p1), (3, .int 0), (4, .int i4_12)]) hx hb dX4_goBackward_125 hl (k := 2) rfl rfl (by decide) rfl (fun ls hl => ?_)
                  refine lv_goto (tgt := 40) hx hb dX4_goBackward_128 (by decide) ?_
                  exact ih4 (i2_4 + (-1)) σ12 (Nat.lt_of_lt_of_le hw.2 (Nat.le_of_lt_succ hm4)) hw.1 _ _ ls hP hD hS (lv_sub hl [1, 2, 0] rfl)
            · skip
              have hw := hw.2 k11
              refine lv_iconst (v := 1) hx hb dX4_goBackward_65 (by decide) ?_
              refine lv_goto (tgt := 70) hx hb dX4_goBackward_66 (by decide) ?_
              refine lv_istore_n (lv' := [(3, .int 1), (0, .ref (ad 46)), (1, .int p1), (2, .int i2_4)]) hx hb dX4_goBackward_70 rfl hl (by decide) rfl (fun ls hl => ?_)
              refine lv_iconst (v := 0) hx hb dX4_goBackward_71 (by decide) ?_
              refine lv_istore (lv' := [(4, .int 0), (3, .int 1), (0, .ref (ad 46)), (1, .int p1), (2, .int i2_4)]) hx hb dX4_goBackward_72 hl (by decide) rfl (fun ls hl => ?_)
              obtain ⟨I14, μ14, hI14, hw14⟩ := hw
              have hl : lv_has ls 6 [(0, .ref (ad 46)), (1, .int p1), (2, .int i2_4), (3, .int 1), (4, .int 0)] := lv_sub hl [2, 3, 4, 1, 0] rfl
              suffices key14 : ∀ (n14 : Nat) (i4_14 : Int32) (σ14 : Sg), μ14 i4_14 σ14 < n14 → I14 i4_14 σ14 → ∀ (H : Heap) (locs : List Loc) (ls : Array Slot), va_P D vwCl (WL ad cA σ14) H → va_D A (WL ad cA σ14) → va_S A s.heap H locs → lv_has ls 6 [(0, .ref (ad 46)), (1, .int p1), (2, .int i2_4), (3, .int 1), (4, .int i4_14)] → W p l e (RM 2 0 0 44) s m args below meth c H locs (0) (0) (vx_MQ below (QM D ad cA A (fun v σ' => v = none ∧ Q σ')) (XM D ad cA A (fun _ _ => False)) args s (RM 2 0 0 44).cells (RM 2 0 0 44).slots A) (F0 m 74 ls []) from key14 _ _ _ (Nat.lt_succ_self _) hI14 _ _ ls hP hD hS hl
              clear hP hD hS hl
              intro n14
              induction n14 with
              | zero => intro _ _ h; exact absurd h (Nat.not_lt_zero _)
              | succ n14 ih14 =>
                intro i4_14 σ14 hm14 hI14 H locs ls hP hD hS hl
                have hw := hw14 i4_14 σ14 hI14
                refine lv_iload hx hb dX4_goBackward_74 (lv_at hl 4 rfl) ?_
                refine lv_iload_n hx hb dX4_goBackward_76 rfl (lv_at hl 1 rfl) ?_
                refine lv_icmp_ge (tgt := 125) hx hb dX4_goBackward_77 (by decide) (fun k15 => ?_) (fun k15 => ?_)
                · skip
                  have hw := hw.1 k15
                  refine lv_iinc (v := i2_4 + (-1)) (lv' := [(2, .int (i2_4 + (-1))), (0, .ref (ad 46)), (1, .int p1), (3, .int 1), (4, .int i4_14)]) hx hb dX4_goBackward_125 hl (k := 2) rfl rfl (by decide) rfl (fun ls hl => ?_)
                  refine lv_goto (tgt := 40) hx hb dX4_goBackward_128 (by decide) ?_
                  exact ih4 (i2_4 + (-1)) σ14 (Nat.lt_of_lt_of_le hw.2 (Nat.le_of_lt_succ hm4)) hw.1 _ _ ls hP hD hS (lv_sub hl [1, 2, 0] rfl)
                · skip
                  have hw := hw.2 k15
                  refine lv_iload_n hx hb dX4_goBackward_80 rfl (lv_at hl 3 rfl) ?_
                  refine k_if_eq_f (tgt := 125) hx hb dX4_goBackward_81 (by decide) (by decide) ?_
                  refine lv_iload_n hx hb dX4_goBackward_84 rfl (lv_at hl 2 rfl) ?_
                  refine lv_iconst (v := 1) hx hb dX4_goBackward_85 (by decide) ?_
                  refine lv_iload hx hb dX4_goBackward_86 (lv_at hl 4 rfl) ?_
                  refine k_ishl (v := iShl 1 i4_14) hx hb dX4_goBackward_88 rfl ?_
                  refine lv_iconst (v := (-1)) hx hb dX4_goBackward_89 (by decide) ?_
                  refine k_ixor (v := (iShl 1 i4_14) ^^^ (-1)) hx hb dX4_goBackward_90 rfl ?_
                  refine k_iand (v := i2_4 &&& ((iShl 1 i4_14) ^^^ (-1))) hx hb dX4_goBackward_91 rfl ?_
                  obtain ⟨v16, ev16⟩ : ∃ z : Int32, z = i2_4 &&& ((iShl 1 i4_14) ^^^ (-1)) := ⟨_, rfl⟩
                  have hw := hw v16 ev16
                  refine lv_istore (lv' := [(5, .int v16), (0, .ref (ad 46)), (1, .int p1), (2, .int i2_4), (3, .int 1), (4, .int i4_14)]) hx hb dX4_goBackward_92 hl (by decide) (by subst ev16; rfl) (fun ls hl => ?_)
                  refine lv_iload hx hb dX4_goBackward_94 (lv_at hl 0 rfl) ?_
                  refine lv_iload_n hx hb dX4_goBackward_96 rfl (lv_at hl 3 rfl) ?_
                  refine lv_icmp_eq (tgt := 119) hx hb dX4_goBackward_97 (by decide) (fun k17 => ?_) (fun k17 => ?_)
                  · skip
                    have hw := hw.1 k17
                    refine lv_iinc (v := i4_14 + 1) (lv' := [(4, .int (i4_14 + 1)), (5, .int v16), (0, .ref (ad 46)), (1, .int p1), (2, .int i2_4), (3, .int 1)]) hx hb dX4_goBackward_119 hl (k := 5) rfl rfl (by decide) rfl (fun ls hl => ?_)
                    refine lv_goto (tgt := 74) hx hb dX4_goBackward_122 (by decide) ?_
                    exact ih14 (i4_14 + 1) σ14 (Nat.lt_of_lt_of_le hw.2 (Nat.le_of_lt_succ hm14)) hw.1 _ _ ls hP hD hS (lv_sub hl [2, 3, 4, 5, 0] rfl)
                  · skip
                    have hw := hw.2 k17
                    refine lv_aload_n hx hb dX4_goBackward_100 rfl (lv_at hl 1 rfl) ?_
                    refine lv_iload hx hb dX4_goBackward_101 (lv_at hl 5 rfl) ?_
                    refine lv_iload hx hb dX4_goBackward_103 (lv_at hl 0 rfl) ?_
                    refine mc_V hSF hl.1 hP hD hS hA hK hGV (m_X4_canMoveIn l hfl D ad cA g i4_14 v16 σ14 _ hw) goV_X4_86 pd_X4_canMoveIn ⟨(Nat.le_of_ble_eq_true rfl), (Nat.le_of_ble_eq_true rfl)⟩ ⟨(Nat.le_of_ble_eq_true rfl), (Nat.le_of_ble_eq_true rfl)⟩ (va_recv hK hP (ci := 6) (q0 := 46) rfl wl_46) dX4_goBackward_105 rfl (Nat.le_of_ble_eq_true rfl) (fun v9 σ9 H locs hq hP hD hS => ?_) (fun _ _ _ _ _ _ h => h.elim)
                    obtain ⟨r18, hv9, hs9, hw⟩ := hq
                    subst hv9
                    subst σ9
                    refine W.eq (g2 := F0 m 108 ls [.int r18]) rfl ?_
                    refine W.widen (k := 0) (n := 0) (Nat.le_refl _) (Nat.le_refl _) ?_
                    refine lv_if_eq (tgt := 119) hx hb dX4_goBackward_108 (by decide) (fun k19 => ?_) (fun k19 => ?_)
                    · skip
                      have hw := hw.1 k19
                      refine lv_iinc (v := i4_14 + 1) (lv' := [(4, .int (i4_14 + 1)), (5, .int v16), (0, .ref (ad 46)), (1, .int p1), (2, .int i2_4), (3, .int 1)]) hx hb dX4_goBackward_119 hl (k := 5) rfl rfl (by decide) rfl (fun ls hl => ?_)
                      refine lv_goto (tgt := 74) hx hb dX4_goBackward_122 (by decide) ?_
                      exact ih14 (i4_14 + 1) σ14 (Nat.lt_of_lt_of_le hw.2 (Nat.le_of_lt_succ hm14)) hw.1 _ _ ls hP hD hS (lv_sub hl [2, 3, 4, 5, 0] rfl)
                    · skip
                      have hw := hw.2 k19
                      refine lv_aload_n hx hb dX4_goBackward_111 rfl (lv_at hl 1 rfl) ?_
                      refine k_get (ci := 6) (C := RX4) (T := TX4) (N := 9) (v := .ref (ad 50)) hx hb hG inX4 hown hK hP 46 wl_46 rfl 7 (by decide) gw281 rfl dX4_goBackward_112 ?_
                      refine lv_iload hx hb dX4_goBackward_115 (lv_at hl 0 rfl) ?_
                      refine lv_iconst (v := 1) hx hb dX4_goBackward_117 (by decide) ?_
                      obtain ⟨hc20, hw⟩ := hw
                      obtain ⟨σ21, eσ21⟩ : ∃ z : Sg, z = sA σ14 27 (ix v16) (vp_nar .boolean 1) := ⟨_, rfl⟩
                      have hw := hw σ21 eσ21
                      refine k_zast (ws1 := WL ad cA σ21) hx hb hK hP hD hS 50 wl_50 (ws_50 eσ21) hc20 dX4_goBackward_118 (fun H locs hP hD hS => ?_)
                      refine lv_iinc (v := i4_14 + 1) (lv' := [(4, .int (i4_14 + 1)), (5, .int v16), (0, .ref (ad 46)), (1, .int p1), (2, .int i2_4), (3, .int 1)]) hx hb dX4_goBackward_119 hl (k := 5) rfl rfl (by decide) rfl (fun ls hl => ?_)
                      refine lv_goto (tgt := 74) hx hb dX4_goBackward_122 (by decide) ?_
                      exact ih14 (i4_14 + 1) σ21 (Nat.lt_of_lt_of_le hw.2 (Nat.le_of_lt_succ hm14)) hw.1 _ _ ls hP hD hS (lv_sub hl [2, 3, 4, 5, 0] rfl)
    · skip
      have hw := hw.2 k2
      refine lv_aload_n hx hb dX4_goBackward_10 rfl (lv_at hl 0 rfl) ?_
      refine k_get (ci := 6) (C := RX4) (T := TX4) (N := 9) (v := .ref (ad 50)) hx hb hG inX4 hown hK hP 46 wl_46 rfl 7 (by decide) gw281 rfl dX4_goBackward_11 ?_
      refine lv_iload_n hx hb dX4_goBackward_14 rfl (lv_at hl 2 rfl) ?_
      refine lv_iload_n hx hb dX4_goBackward_15 rfl (lv_at hl 2 rfl) ?_
      refine lv_aload_n hx hb dX4_goBackward_16 rfl (lv_at hl 0 rfl) ?_
      refine k_get (ci := 6) (C := RX4) (T := TX4) (N := 9) (v := .int (gI σ1 11)) hx hb hG inX4 hown hK hP 46 wl_46 rfl 2 (by decide) gw276 rfl dX4_goBackward_17 ?_
      refine lv_icmp_ne (tgt := 27) hx hb dX4_goBackward_20 (by decide) (fun k22 => ?_) (fun k22 => ?_)
      · skip
        have hw := hw.1 k22
        refine lv_iconst (v := 0) hx hb dX4_goBackward_27 (by decide) ?_
        obtain ⟨hc23, hw⟩ := hw
        obtain ⟨σ24, eσ24⟩ : ∃ z : Sg, z = sA σ1 27 (ix i2_1) (vp_nar .boolean 0) := ⟨_, rfl⟩
        have hw := hw σ24 eσ24
        refine k_zast (ws1 := WL ad cA σ24) hx hb hK hP hD hS 50 wl_50 (ws_50 eσ24) hc23 dX4_goBackward_28 (fun H locs hP hD hS => ?_)
        refine lv_iinc (v := i2_1 + 1) (lv' := [(2, .int (i2_1 + 1)), (0, .ref (ad 46)), (1, .int p1)]) hx hb dX4_goBackward_29 hl (k := 2) rfl rfl (by decide) rfl (fun ls hl => ?_)
        refine lv_goto (tgt := 2) hx hb dX4_goBackward_32 (by decide) ?_
        exact ih1 (i2_1 + 1) σ24 (Nat.lt_of_lt_of_le hw.2 (Nat.le_of_lt_succ hm1)) hw.1 _ _ ls hP hD hS (lv_sub hl [1, 2, 0] rfl)
      · skip
        have hw := hw.2 k22
        refine lv_iconst (v := 1) hx hb dX4_goBackward_23 (by decide) ?_
        refine lv_goto (tgt := 28) hx hb dX4_goBackward_24 (by decide) ?_
        obtain ⟨hc25, hw⟩ := hw
        obtain ⟨σ26, eσ26⟩ : ∃ z : Sg, z = sA σ1 27 (ix i2_1) (vp_nar .boolean 1) := ⟨_, rfl⟩
        have hw := hw σ26 eσ26
        refine k_zast (ws1 := WL ad cA σ26) hx hb hK hP hD hS 50 wl_50 (ws_50 eσ26) hc25 dX4_goBackward_28 (fun H locs hP hD hS => ?_)
        refine lv_iinc (v := i2_1 + 1) (lv' := [(2, .int (i2_1 + 1)), (0, .ref (ad 46)), (1, .int p1)]) hx hb dX4_goBackward_29 hl (k := 2) rfl rfl (by decide) rfl (fun ls hl => ?_)
        refine lv_goto (tgt := 2) hx hb dX4_goBackward_32 (by decide) ?_
        exact ih1 (i2_1 + 1) σ26 (Nat.lt_of_lt_of_le hw.2 (Nat.le_of_lt_succ hm1)) hw.1 _ _ ls hP hD hS (lv_sub hl [1, 2, 0] rfl)

set_option maxHeartbeats 4000000 in
set_option maxRecDepth 100000 in
theorem m_X4_firstThatLeads (l : Launch) (hfl : l.stackTraces = false) (D : va_G) (ad : Nat → Nat) (cA : Nat → ClassId) (g : gv_T) (p1 : Int32) (p2 : Int32) (σ : Sg) (Q : Int32 → Prop) (hw : w_X4_firstThatLeads p1 p2 σ Q) : MC l yX4_firstThatLeads cX4_firstThatLeads 6 (some .int) (RM 2 0 0 44) D ad cA g [.ref (ad 46), .int p1, .int p2] σ (fun v σ' => ∃ r : Int32, v = some (.int r) ∧ σ' = σ ∧ Q r) (fun _ _ => False) := by
  refine MC.of (plainFor_of_name (by decide +kernel)) (Nat.le_of_ble_eq_true rfl) ?_
  intro p e s m args below meth c A ls hx hb hr hml hown hG hlocks htab hA hS hP hK hD hGV hl
  have hown : s.vm.findClass RX4 = some m.cls := hown
  have hl : lv_has ls 6 [(0, .ref (ad 46)), (1, .int p1), (2, .int p2)] := hl
  have hSF : CF p m c cX4_firstThatLeads 6 s args RX4 := ⟨hx, hb, hml, hown, hG⟩
  refine lv_iconst (v := 0) hx hb dX4_firstThatLeads_0 (by decide) ?_
  refine lv_istore_n (lv' := [(3, .int 0), (0, .ref (ad 46)), (1, .int p1), (2, .int p2)]) hx hb dX4_firstThatLeads_1 rfl hl (by decide) rfl (fun ls hl => ?_)
  obtain ⟨I1, μ1, hI1, hw1⟩ := hw
  have hl : lv_has ls 6 [(0, .ref (ad 46)), (1, .int p1), (2, .int p2), (3, .int 0)] := lv_sub hl [1, 2, 3, 0] rfl
  suffices key1 : ∀ (n1 : Nat) (i3_1 : Int32), μ1 i3_1 < n1 → I1 i3_1 → ∀ (H : Heap) (locs : List Loc) (ls : Array Slot), va_P D vwCl (WL ad cA σ) H → va_D A (WL ad cA σ) → va_S A s.heap H locs → lv_has ls 6 [(0, .ref (ad 46)), (1, .int p1), (2, .int p2), (3, .int i3_1)] → W p l e (RM 2 0 0 44) s m args below meth c H locs (0) (0) (vx_MQ below (QM D ad cA A (fun v σ' => ∃ r : Int32, v = some (.int r) ∧ σ' = σ ∧ Q r)) (XM D ad cA A (fun _ _ => False)) args s (RM 2 0 0 44).cells (RM 2 0 0 44).slots A) (F0 m 2 ls []) from key1 _ _ (Nat.lt_succ_self _) hI1 _ _ ls hP hD hS hl
  clear hP hD hS hl
  intro n1
  induction n1 with
  | zero => intro _ h; exact absurd h (Nat.not_lt_zero _)
  | succ n1 ih1 =>
    intro i3_1 hm1 hI1 H locs ls hP hD hS hl
    have hw := hw1 i3_1 hI1
    refine lv_iload_n hx hb dX4_firstThatLeads_2 rfl (lv_at hl 3 rfl) ?_
    refine lv_iload_n hx hb dX4_firstThatLeads_3 rfl (lv_at hl 2 rfl) ?_
    refine lv_icmp_ge (tgt := 72) hx hb dX4_firstThatLeads_4 (by decide) (fun k2 => ?_) (fun k2 => ?_)
    · skip
      have hw := hw.1 k2
      refine lv_iconst (v := (-1)) hx hb dX4_firstThatLeads_72 (by decide) ?_
      exact vx_ret (m_i ⟨_, rfl, rfl, hw⟩ hx hb hr hlocks rfl hP hD hS (Nat.le_of_ble_eq_true rfl) (Nat.le_of_ble_eq_true rfl) dX4_firstThatLeads_73)
    · skip
      have hw := hw.2 k2
      refine lv_iload_n hx hb dX4_firstThatLeads_7 rfl (lv_at hl 1 rfl) ?_
      refine lv_iconst (v := 1) hx hb dX4_firstThatLeads_8 (by decide) ?_
      refine lv_iload_n hx hb dX4_firstThatLeads_9 rfl (lv_at hl 3 rfl) ?_
      refine k_ishl (v := iShl 1 i3_1) hx hb dX4_firstThatLeads_10 rfl ?_
      refine k_ior (v := p1 ||| (iShl 1 i3_1)) hx hb dX4_firstThatLeads_11 rfl ?_
      obtain ⟨v3, ev3⟩ : ∃ z : Int32, z = p1 ||| (iShl 1 i3_1) := ⟨_, rfl⟩
      have hw := hw v3 ev3
      refine lv_istore (lv' := [(4, .int v3), (0, .ref (ad 46)), (1, .int p1), (2, .int p2), (3, .int i3_1)]) hx hb dX4_firstThatLeads_12 hl (by decide) (by subst ev3; rfl) (fun ls hl => ?_)
      refine lv_iload hx hb dX4_firstThatLeads_14 (lv_at hl 0 rfl) ?_
      refine lv_iload_n hx hb dX4_firstThatLeads_16 rfl (lv_at hl 2 rfl) ?_
      refine lv_icmp_eq (tgt := 47) hx hb dX4_firstThatLeads_17 (by decide) (fun k4 => ?_) (fun k4 => ?_)
      · skip
        have hw := hw.1 k4
        refine lv_iconst (v := 0) hx hb dX4_firstThatLeads_47 (by decide) ?_
        refine lv_istore (lv' := [(5, .int 0), (4, .int v3), (0, .ref (ad 46)), (1, .int p1), (2, .int p2), (3, .int i3_1)]) hx hb dX4_firstThatLeads_48 hl (by decide) rfl (fun ls hl => ?_)
        refine lv_iload hx hb dX4_firstThatLeads_50 (lv_at hl 0 rfl) ?_
        refine k_if_eq_t (tgt := 66) hx hb dX4_firstThatLeads_52 (by decide) (by decide) ?_
        refine lv_iinc (v := i3_1 + 1) (lv' := [(3, .int (i3_1 + 1)), (5, .int 0), (4, .int v3), (0, .ref (ad 46)), (1, .int p1), (2, .int p2)]) hx hb dX4_firstThatLeads_66 hl (k := 5) rfl rfl (by decide) rfl (fun ls hl => ?_)
        refine lv_goto (tgt := 2) hx hb dX4_firstThatLeads_69 (by decide) ?_
        exact ih1 (i3_1 + 1) (Nat.lt_of_lt_of_le hw.2 (Nat.le_of_lt_succ hm1)) hw.1 _ _ ls hP hD hS (lv_sub hl [3, 4, 5, 0] rfl)
      · skip
        have hw := hw.2 k4
        refine lv_aload_n hx hb dX4_firstThatLeads_20 rfl (lv_at hl 1 rfl) ?_
        refine k_get (ci := 6) (C := RX4) (T := TX4) (N := 9) (v := .ref (ad 50)) hx hb hG inX4 hown hK hP 46 wl_46 rfl 7 (by decide) gw281 rfl dX4_firstThatLeads_21 ?_
        refine lv_iload hx hb dX4_firstThatLeads_24 (lv_at hl 0 rfl) ?_
        obtain ⟨hc5, hw⟩ := hw
        refine k_zald (v := gA σ 27 (ix v3)) hx hb hK hP 50 wl_50 (ix v3) rfl rfl hc5 dX4_firstThatLeads_26 ?_
        refine lv_if_eq (tgt := 47) hx hb dX4_firstThatLeads_27 (by decide) (fun k6 => ?_) (fun k6 => ?_)
        · skip
          have hw := hw.1 k6
          refine lv_iconst (v := 0) hx hb dX4_firstThatLeads_47 (by decide) ?_
          refine lv_istore (lv' := [(5, .int 0), (4, .int v3), (0, .ref (ad 46)), (1, .int p1), (2, .int p2), (3, .int i3_1)]) hx hb dX4_firstThatLeads_48 hl (by decide) rfl (fun ls hl => ?_)
          refine lv_iload hx hb dX4_firstThatLeads_50 (lv_at hl 0 rfl) ?_
          refine k_if_eq_t (tgt := 66) hx hb dX4_firstThatLeads_52 (by decide) (by decide) ?_
          refine lv_iinc (v := i3_1 + 1) (lv' := [(3, .int (i3_1 + 1)), (5, .int 0), (4, .int v3), (0, .ref (ad 46)), (1, .int p1), (2, .int p2)]) hx hb dX4_firstThatLeads_66 hl (k := 5) rfl rfl (by decide) rfl (fun ls hl => ?_)
          refine lv_goto (tgt := 2) hx hb dX4_firstThatLeads_69 (by decide) ?_
          exact ih1 (i3_1 + 1) (Nat.lt_of_lt_of_le hw.2 (Nat.le_of_lt_succ hm1)) hw.1 _ _ ls hP hD hS (lv_sub hl [3, 4, 5, 0] rfl)
        · skip
          have hw := hw.2 k6
          refine lv_aload_n hx hb dX4_firstThatLeads_30 rfl (lv_at hl 1 rfl) ?_
          refine lv_iload hx hb dX4_firstThatLeads_31 (lv_at hl 0 rfl) ?_
          refine mc_V hSF hl.1 hP hD hS hA hK hGV (m_X4_propsFor l hfl D ad cA g v3 σ _ hw) goV_X4_83 pd_X4_propsFor ⟨(Nat.le_of_ble_eq_true rfl), (Nat.le_of_ble_eq_true rfl)⟩ ⟨(Nat.le_of_ble_eq_true rfl), (Nat.le_of_ble_eq_true rfl)⟩ (va_recv hK hP (ci := 6) (q0 := 46) rfl wl_46) dX4_firstThatLeads_33 rfl (Nat.le_of_ble_eq_true rfl) (fun v9 σ9 H locs hq hP hD hS => ?_) (fun _ _ _ _ _ _ h => h.elim)
          obtain ⟨r7, hv9, hs9, hw⟩ := hq
          subst hv9
          subst σ9
          refine W.eq (g2 := F0 m 36 ls [.int r7]) rfl ?_
          refine W.widen (k := 0) (n := 0) (Nat.le_refl _) (Nat.le_refl _) ?_
          refine lv_aload_n hx hb dX4_firstThatLeads_36 rfl (lv_at hl 1 rfl) ?_
          refine k_get (ci := 6) (C := RX4) (T := TX4) (N := 9) (v := .int (gI σ 9)) hx hb hG inX4 hown hK hP 46 wl_46 rfl 0 (by decide) gw272 rfl dX4_firstThatLeads_37 ?_
          refine lv_icmp_gt (tgt := 47) hx hb dX4_firstThatLeads_40 (by decide) (fun k8 => ?_) (fun k8 => ?_)
          · skip
            have hw := hw.1 k8
            refine lv_iconst (v := 0) hx hb dX4_firstThatLeads_47 (by decide) ?_
            refine lv_istore (lv' := [(5, .int 0), (4, .int v3), (0, .ref (ad 46)), (1, .int p1), (2, .int p2), (3, .int i3_1)]) hx hb dX4_firstThatLeads_48 hl (by decide) rfl (fun ls hl => ?_)
            refine lv_iload hx hb dX4_firstThatLeads_50 (lv_at hl 0 rfl) ?_
            refine k_if_eq_t (tgt := 66) hx hb dX4_firstThatLeads_52 (by decide) (by decide) ?_
            refine lv_iinc (v := i3_1 + 1) (lv' := [(3, .int (i3_1 + 1)), (5, .int 0), (4, .int v3), (0, .ref (ad 46)), (1, .int p1), (2, .int p2)]) hx hb dX4_firstThatLeads_66 hl (k := 5) rfl rfl (by decide) rfl (fun ls hl => ?_)
            refine lv_goto (tgt := 2) hx hb dX4_firstThatLeads_69 (by decide) ?_
            exact ih1 (i3_1 + 1) (Nat.lt_of_lt_of_le hw.2 (Nat.le_of_lt_succ hm1)) hw.1 _ _ ls hP hD hS (lv_sub hl [3, 4, 5, 0] rfl)
          · skip
            have hw := hw.2 k8
            refine lv_iconst (v := 1) hx hb dX4_firstThatLeads_43 (by decide) ?_
            refine lv_goto (tgt := 48) hx hb dX4_firstThatLeads_44 (by decide) ?_
            refine lv_istore (lv' := [(5, .int 1), (4, .int v3), (0, .ref (ad 46)), (1, .int p1), (2, .int p2), (3, .int i3_1)]) hx hb dX4_firstThatLeads_48 hl (by decide) rfl (fun ls hl => ?_)
            refine lv_iload hx hb dX4_firstThatLeads_50 (lv_at hl 0 rfl) ?_
            refine k_if_eq_f (tgt := 66) hx hb dX4_firstThatLeads_52 (by decide) (by decide) ?_
            refine lv_aload_n hx hb dX4_firstThatLeads_55 rfl (lv_at hl 2 rfl) ?_
            refine lv_iload_n hx hb dX4_firstThatLeads_56 rfl (lv_at hl 5 rfl) ?_
            refine lv_iload_n hx hb dX4_firstThatLeads_57 rfl (lv_at hl 3 rfl) ?_
            refine mc_V hSF hl.1 hP hD hS hA hK hGV (m_X4_canMoveIn l hfl D ad cA g i3_1 p1 σ _ hw) goV_X4_86 pd_X4_canMoveIn ⟨(Nat.le_of_ble_eq_true rfl), (Nat.le_of_ble_eq_true rfl)⟩ ⟨(Nat.le_of_ble_eq_true rfl), (Nat.le_of_ble_eq_true rfl)⟩ (va_recv hK hP (ci := 6) (q0 := 46) rfl wl_46) dX4_firstThatLeads_58 rfl (Nat.le_of_ble_eq_true rfl) (fun v9 σ9 H locs hq hP hD hS => ?_) (fun _ _ _ _ _ _ h => h.elim)
            obtain ⟨r9, hv9, hs9, hw⟩ := hq
            subst hv9
            subst σ9
            refine W.eq (g2 := F0 m 61 ls [.int r9]) rfl ?_
            refine W.widen (k := 0) (n := 0) (Nat.le_refl _) (Nat.le_refl _) ?_
            refine lv_if_eq (tgt := 66) hx hb dX4_firstThatLeads_61 (by decide) (fun k10 => ?_) (fun k10 => ?_)
            · skip
              have hw := hw.1 k10
              refine lv_iinc (v := i3_1 + 1) (lv' := [(3, .int (i3_1 + 1)), (5, .int 1), (4, .int v3), (0, .ref (ad 46)), (1, .int p1), (2, .int p2)]) hx hb dX4_firstThatLeads_66 hl (k := 5) rfl rfl (by decide) rfl (fun ls hl => ?_)
              refine lv_goto (tgt := 2) hx hb dX4_firstThatLeads_69 (by decide) ?_
              exact ih1 (i3_1 + 1) (Nat.lt_of_lt_of_le hw.2 (Nat.le_of_lt_succ hm1)) hw.1 _ _ ls hP hD hS (lv_sub hl [3, 4, 5, 0] rfl)
            · skip
              have hw := hw.2 k10
              refine lv_iload_n hx hb dX4_firstThatLeads_64 rfl (lv_at hl 5 rfl) ?_
              exact vx_ret (m_i ⟨_, rfl, rfl, hw⟩ hx hb hr hlocks rfl hP hD hS (Nat.le_of_ble_eq_true rfl) (Nat.le_of_ble_eq_true rfl) dX4_firstThatLeads_65)

